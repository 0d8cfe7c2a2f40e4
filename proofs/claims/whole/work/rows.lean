section
-- ===== PART A: goes FIRST, ahead of the names: the tables' words, and 'selects' of the private methods out of them =====
/-- a private method of a class that the tables say can be made, by its rows of tables_1 -/
def lw_okq (q : MethodName × Nat) : Prop := (q.1.cls ≠ "java/lang/invoke/MethodHandle" ∧ q.1.cls ≠ "java/lang/invoke/VarHandle") ∧ Cond.instantiable q.1.cls q.2 ∈ tables_1 ∧ Cond.privateMethod q.1 ∈ tables_1 ∧ Cond.instanceMethod q.1 ∈ tables_1
theorem lw_p0 : lw_okq (⟨"RunHeap", "giveAtMultiple", "(II)I"⟩, 5) := ⟨⟨by decide +kernel, by decide +kernel⟩, List.mem_of_getElem? (i := 27) (by decide +kernel), List.mem_of_getElem? (i := 166) (by decide +kernel), List.mem_of_getElem? (i := 167) (by decide +kernel)⟩
theorem lw_p1 : lw_okq (⟨"RunHeap$Row", "split", "(II)V"⟩, 4) := ⟨⟨by decide +kernel, by decide +kernel⟩, List.mem_of_getElem? (i := 41) (by decide +kernel), List.mem_of_getElem? (i := 184) (by decide +kernel), List.mem_of_getElem? (i := 185) (by decide +kernel)⟩
theorem lw_p2 : lw_okq (⟨"RunHeap$Row", "shift", "(II)V"⟩, 4) := ⟨⟨by decide +kernel, by decide +kernel⟩, List.mem_of_getElem? (i := 41) (by decide +kernel), List.mem_of_getElem? (i := 188) (by decide +kernel), List.mem_of_getElem? (i := 189) (by decide +kernel)⟩
theorem lw_p3 : lw_okq (⟨"RunHeap", "clearPayload", "(III)V"⟩, 5) := ⟨⟨by decide +kernel, by decide +kernel⟩, List.mem_of_getElem? (i := 27) (by decide +kernel), List.mem_of_getElem? (i := 195) (by decide +kernel), List.mem_of_getElem? (i := 196) (by decide +kernel)⟩
theorem lw_p4 : lw_okq (⟨"java/lang/Throwable", "fillInStackTrace", "(I)Ljava/lang/Throwable;"⟩, 6) := ⟨⟨by decide +kernel, by decide +kernel⟩, List.mem_of_getElem? (i := 244) (by decide +kernel), List.mem_of_getElem? (i := 242) (by decide +kernel), List.mem_of_getElem? (i := 243) (by decide +kernel)⟩
theorem lw_p5 : lw_okq (⟨"RunHeap$Row", "indexOf", "(I)I"⟩, 4) := ⟨⟨by decide +kernel, by decide +kernel⟩, List.mem_of_getElem? (i := 41) (by decide +kernel), List.mem_of_getElem? (i := 549) (by decide +kernel), List.mem_of_getElem? (i := 550) (by decide +kernel)⟩
theorem lw_p6 : lw_okq (⟨"RunHeap$Row", "isFree", "(I)Z"⟩, 4) := ⟨⟨by decide +kernel, by decide +kernel⟩, List.mem_of_getElem? (i := 41) (by decide +kernel), List.mem_of_getElem? (i := 557) (by decide +kernel), List.mem_of_getElem? (i := 558) (by decide +kernel)⟩
theorem lw_p7 : lw_okq (⟨"RunHeap$Row", "join", "(I)V"⟩, 4) := ⟨⟨by decide +kernel, by decide +kernel⟩, List.mem_of_getElem? (i := 41) (by decide +kernel), List.mem_of_getElem? (i := 561) (by decide +kernel), List.mem_of_getElem? (i := 562) (by decide +kernel)⟩
theorem lw_p8 : lw_okq (⟨"RunHeap$Tree", "depthOfSpine", "(II)I"⟩, 3) := ⟨⟨by decide +kernel, by decide +kernel⟩, List.mem_of_getElem? (i := 73) (by decide +kernel), List.mem_of_getElem? (i := 624) (by decide +kernel), List.mem_of_getElem? (i := 625) (by decide +kernel)⟩
theorem lw_p9 : lw_okq (⟨"RunHeap$Adviser", "rankMovables", "()V"⟩, 8) := ⟨⟨by decide +kernel, by decide +kernel⟩, List.mem_of_getElem? (i := 89) (by decide +kernel), List.mem_of_getElem? (i := 645) (by decide +kernel), List.mem_of_getElem? (i := 646) (by decide +kernel)⟩
theorem lw_p10 : lw_okq (⟨"RunHeap$Adviser", "placeVictims", "(II)Z"⟩, 8) := ⟨⟨by decide +kernel, by decide +kernel⟩, List.mem_of_getElem? (i := 89) (by decide +kernel), List.mem_of_getElem? (i := 651) (by decide +kernel), List.mem_of_getElem? (i := 652) (by decide +kernel)⟩
theorem lw_p11 : lw_okq (⟨"RunHeap$Adviser", "lowestPlace", "(II)I"⟩, 8) := ⟨⟨by decide +kernel, by decide +kernel⟩, List.mem_of_getElem? (i := 89) (by decide +kernel), List.mem_of_getElem? (i := 655) (by decide +kernel), List.mem_of_getElem? (i := 656) (by decide +kernel)⟩
theorem lw_p12 : lw_okq (⟨"RunHeap", "copyBlock", "(II)V"⟩, 5) := ⟨⟨by decide +kernel, by decide +kernel⟩, List.mem_of_getElem? (i := 27) (by decide +kernel), List.mem_of_getElem? (i := 678) (by decide +kernel), List.mem_of_getElem? (i := 679) (by decide +kernel)⟩
theorem lw_p13 : lw_okq (⟨"RunHeap", "leaveBlock", "(I)V"⟩, 5) := ⟨⟨by decide +kernel, by decide +kernel⟩, List.mem_of_getElem? (i := 27) (by decide +kernel), List.mem_of_getElem? (i := 687) (by decide +kernel), List.mem_of_getElem? (i := 688) (by decide +kernel)⟩
theorem lw_p14 : lw_okq (⟨"RunHeap", "payloadWord", "(II)I"⟩, 5) := ⟨⟨by decide +kernel, by decide +kernel⟩, List.mem_of_getElem? (i := 27) (by decide +kernel), List.mem_of_getElem? (i := 711) (by decide +kernel), List.mem_of_getElem? (i := 712) (by decide +kernel)⟩
theorem lw_p15 : lw_okq (⟨"RunHeapModel", "gives", "(II)I"⟩, 18) := ⟨⟨by decide +kernel, by decide +kernel⟩, List.mem_of_getElem? (i := 780) (by decide +kernel), List.mem_of_getElem? (i := 850) (by decide +kernel), List.mem_of_getElem? (i := 851) (by decide +kernel)⟩
def lw_privs_1 : List (MethodName × Nat) := [(⟨"RunHeap", "giveAtMultiple", "(II)I"⟩, 5), (⟨"RunHeap$Row", "split", "(II)V"⟩, 4), (⟨"RunHeap$Row", "shift", "(II)V"⟩, 4), (⟨"RunHeap", "clearPayload", "(III)V"⟩, 5), (⟨"java/lang/Throwable", "fillInStackTrace", "(I)Ljava/lang/Throwable;"⟩, 6), (⟨"RunHeap$Row", "indexOf", "(I)I"⟩, 4), (⟨"RunHeap$Row", "isFree", "(I)Z"⟩, 4), (⟨"RunHeap$Row", "join", "(I)V"⟩, 4), (⟨"RunHeap$Tree", "depthOfSpine", "(II)I"⟩, 3), (⟨"RunHeap$Adviser", "rankMovables", "()V"⟩, 8), (⟨"RunHeap$Adviser", "placeVictims", "(II)Z"⟩, 8), (⟨"RunHeap$Adviser", "lowestPlace", "(II)I"⟩, 8), (⟨"RunHeap", "copyBlock", "(II)V"⟩, 5), (⟨"RunHeap", "leaveBlock", "(I)V"⟩, 5), (⟨"RunHeap", "payloadWord", "(II)I"⟩, 5), (⟨"RunHeapModel", "gives", "(II)I"⟩, 18)]
theorem lw_r1 : ∀ q ∈ lw_privs_1, lw_okq q := List.forall_mem_cons.mpr ⟨lw_p0, List.forall_mem_cons.mpr ⟨lw_p1, List.forall_mem_cons.mpr ⟨lw_p2, List.forall_mem_cons.mpr ⟨lw_p3, List.forall_mem_cons.mpr ⟨lw_p4, List.forall_mem_cons.mpr ⟨lw_p5, List.forall_mem_cons.mpr ⟨lw_p6, List.forall_mem_cons.mpr ⟨lw_p7, List.forall_mem_cons.mpr ⟨lw_p8, List.forall_mem_cons.mpr ⟨lw_p9, List.forall_mem_cons.mpr ⟨lw_p10, List.forall_mem_cons.mpr ⟨lw_p11, List.forall_mem_cons.mpr ⟨lw_p12, List.forall_mem_cons.mpr ⟨lw_p13, List.forall_mem_cons.mpr ⟨lw_p14, List.forall_mem_cons.mpr ⟨lw_p15, fun _ h => absurd h List.not_mem_nil⟩⟩⟩⟩⟩⟩⟩⟩⟩⟩⟩⟩⟩⟩⟩⟩
theorem lw_p16 : lw_okq (⟨"RunHeapModel", "groupsFor", "(I)I"⟩, 18) := ⟨⟨by decide +kernel, by decide +kernel⟩, List.mem_of_getElem? (i := 780) (by decide +kernel), List.mem_of_getElem? (i := 854) (by decide +kernel), List.mem_of_getElem? (i := 855) (by decide +kernel)⟩
theorem lw_p17 : lw_okq (⟨"RunHeapModel", "isFree", "(I)Z"⟩, 18) := ⟨⟨by decide +kernel, by decide +kernel⟩, List.mem_of_getElem? (i := 780) (by decide +kernel), List.mem_of_getElem? (i := 858) (by decide +kernel), List.mem_of_getElem? (i := 859) (by decide +kernel)⟩
theorem lw_p18 : lw_okq (⟨"RunHeapModel", "takes", "(III)V"⟩, 18) := ⟨⟨by decide +kernel, by decide +kernel⟩, List.mem_of_getElem? (i := 780) (by decide +kernel), List.mem_of_getElem? (i := 862) (by decide +kernel), List.mem_of_getElem? (i := 863) (by decide +kernel)⟩
theorem lw_p19 : lw_okq (⟨"RunHeapModel", "find", "(I)I"⟩, 18) := ⟨⟨by decide +kernel, by decide +kernel⟩, List.mem_of_getElem? (i := 780) (by decide +kernel), List.mem_of_getElem? (i := 877) (by decide +kernel), List.mem_of_getElem? (i := 878) (by decide +kernel)⟩
theorem lw_p20 : lw_okq (⟨"RunHeapModel", "joins", "()V"⟩, 18) := ⟨⟨by decide +kernel, by decide +kernel⟩, List.mem_of_getElem? (i := 780) (by decide +kernel), List.mem_of_getElem? (i := 881) (by decide +kernel), List.mem_of_getElem? (i := 882) (by decide +kernel)⟩
theorem lw_p21 : lw_okq (⟨"RunHeapModel", "top", "(II)I"⟩, 18) := ⟨⟨by decide +kernel, by decide +kernel⟩, List.mem_of_getElem? (i := 780) (by decide +kernel), List.mem_of_getElem? (i := 914) (by decide +kernel), List.mem_of_getElem? (i := 915) (by decide +kernel)⟩
theorem lw_p22 : lw_okq (⟨"RunHeapModel", "depth", "(I)I"⟩, 18) := ⟨⟨by decide +kernel, by decide +kernel⟩, List.mem_of_getElem? (i := 780) (by decide +kernel), List.mem_of_getElem? (i := 922) (by decide +kernel), List.mem_of_getElem? (i := 923) (by decide +kernel)⟩
theorem lw_p23 : lw_okq (⟨"RunHeapModel", "windowEnd", "(II)I"⟩, 18) := ⟨⟨by decide +kernel, by decide +kernel⟩, List.mem_of_getElem? (i := 780) (by decide +kernel), List.mem_of_getElem? (i := 939) (by decide +kernel), List.mem_of_getElem? (i := 940) (by decide +kernel)⟩
theorem lw_p24 : lw_okq (⟨"RunHeapModel", "gathers", "(II)V"⟩, 18) := ⟨⟨by decide +kernel, by decide +kernel⟩, List.mem_of_getElem? (i := 780) (by decide +kernel), List.mem_of_getElem? (i := 944) (by decide +kernel), List.mem_of_getElem? (i := 945) (by decide +kernel)⟩
theorem lw_p25 : lw_okq (⟨"RunHeapModel", "places", "(II)Z"⟩, 18) := ⟨⟨by decide +kernel, by decide +kernel⟩, List.mem_of_getElem? (i := 780) (by decide +kernel), List.mem_of_getElem? (i := 948) (by decide +kernel), List.mem_of_getElem? (i := 949) (by decide +kernel)⟩
theorem lw_p26 : lw_okq (⟨"RunHeapModel", "goes", "(II)V"⟩, 18) := ⟨⟨by decide +kernel, by decide +kernel⟩, List.mem_of_getElem? (i := 780) (by decide +kernel), List.mem_of_getElem? (i := 964) (by decide +kernel), List.mem_of_getElem? (i := 965) (by decide +kernel)⟩
def lw_privs_2 : List (MethodName × Nat) := [(⟨"RunHeapModel", "groupsFor", "(I)I"⟩, 18), (⟨"RunHeapModel", "isFree", "(I)Z"⟩, 18), (⟨"RunHeapModel", "takes", "(III)V"⟩, 18), (⟨"RunHeapModel", "find", "(I)I"⟩, 18), (⟨"RunHeapModel", "joins", "()V"⟩, 18), (⟨"RunHeapModel", "top", "(II)I"⟩, 18), (⟨"RunHeapModel", "depth", "(I)I"⟩, 18), (⟨"RunHeapModel", "windowEnd", "(II)I"⟩, 18), (⟨"RunHeapModel", "gathers", "(II)V"⟩, 18), (⟨"RunHeapModel", "places", "(II)Z"⟩, 18), (⟨"RunHeapModel", "goes", "(II)V"⟩, 18)]
theorem lw_r2 : ∀ q ∈ lw_privs_2, lw_okq q := List.forall_mem_cons.mpr ⟨lw_p16, List.forall_mem_cons.mpr ⟨lw_p17, List.forall_mem_cons.mpr ⟨lw_p18, List.forall_mem_cons.mpr ⟨lw_p19, List.forall_mem_cons.mpr ⟨lw_p20, List.forall_mem_cons.mpr ⟨lw_p21, List.forall_mem_cons.mpr ⟨lw_p22, List.forall_mem_cons.mpr ⟨lw_p23, List.forall_mem_cons.mpr ⟨lw_p24, List.forall_mem_cons.mpr ⟨lw_p25, List.forall_mem_cons.mpr ⟨lw_p26, fun _ h => absurd h List.not_mem_nil⟩⟩⟩⟩⟩⟩⟩⟩⟩⟩⟩
def lw_privs : List (MethodName × Nat) := lw_privs_1 ++ (lw_privs_2)
def lw_tbl : List Cond := k2_sels lw_privs ++ tables_1
theorem lw_privs_ok : ∀ q ∈ lw_privs, lw_okq q := by
  show ∀ q ∈ lw_privs_1 ++ (lw_privs_2), lw_okq q
  exact List.forall_mem_append.mpr ⟨lw_r1, lw_r2⟩
end
section
/-! ===== BEGIN words of one list among another's, by their places ===== -/
theorem goodIn_r {big : List Cond} (ws : List Cond) (ps : List Nat) (hp : ws = ps.filterMap (fun i => big[i]?)) (h : ws.all goodWord = true) : GoodIn big ws := by
  intro w hw
  have h1 := List.all_eq_true.mp h w hw
  rw [hp] at hw
  obtain ⟨i, -, hi⟩ := List.mem_filterMap.mp hw
  have hm : w ∈ big := by first | exact List.mem_of_getElem? hi | exact List.getElem?_mem hi
  exact ⟨hm, good_of_word h1⟩
theorem goodIn_app {big a b : List Cond} (ha : GoodIn big a) (hb : GoodIn big b) : GoodIn big (a ++ b) := fun w h => (List.mem_append.mp h).elim (ha w) (hb w)
theorem goodIn_ca {big a b : List Cond} {c : Cond} (ha : GoodIn big (c :: a)) (hb : GoodIn big b) : GoodIn big (c :: (a ++ b)) := fun w h => (List.mem_cons.mp h).elim (fun e => ha w (List.mem_cons.mpr (Or.inl e))) (fun h => (List.mem_append.mp h).elim (fun h => ha w (List.mem_cons.mpr (Or.inr h))) (hb w))
theorem goodIn_sub {big ws : List Cond} (hm : ∀ w ∈ ws, w ∈ big) (h : ws.all goodWord = true) : GoodIn big ws := fun w hw => ⟨hm w hw, good_of_word (List.all_eq_true.mp h w hw)⟩
/-! ===== END ===== -/
end
section
def RX0 : String := "RunHeap$Adviser"
def TX0 : u_T := fun k => match k with
  | 0 => ("RunHeap$Adviser", "best", "LRunHeap$Moves;", true)
  | 1 => ("RunHeap$Adviser", "given", "Z", false)
  | 2 => ("RunHeap$Adviser", "lowest", "I", false)
  | 3 => ("RunHeap$Adviser", "row", "LRunHeap$Row;", true)
  | 4 => ("RunHeap$Adviser", "trial", "LRunHeap$Moves;", true)
  | 5 => ("RunHeap$Adviser", "movable", "[I", true)
  | 6 => ("RunHeap$Adviser", "movables", "I", false)
  | _ => ("RunHeap$Adviser", "left", "[I", true)
def tyX0 : Nat → FieldType := fun k => match k with
  | 0 => .object "RunHeap$Moves"
  | 1 => .boolean
  | 2 => .int
  | 3 => .object "RunHeap$Row"
  | 4 => .object "RunHeap$Moves"
  | 5 => .array .int
  | 6 => .int
  | _ => .array .int
abbrev wsX00 : List Cond := u_ws RX0 TX0 8
theorem nmX0 : ∀ a, a < 8 → ∀ b, b < 8 → a ≠ b → (TX0 a).2.1 ≠ (TX0 b).2.1 := by decide +kernel
theorem tyX0_ok : ∀ k, k < 8 → parseFieldDescriptor (TX0 k).2.2.1 = some (tyX0 k) := by decide +kernel
abbrev cX0_init : ByteArray := prog_2_method_1_code
def yX0_init : MethodName := ⟨RX0, "<init>", "(LRunHeap$Row;I)V"⟩
abbrev cX0_drop : ByteArray := prog_2_method_2_code
def yX0_drop : MethodName := ⟨RX0, "drop", "()V"⟩
abbrev cX0_search : ByteArray := prog_2_method_3_code
def yX0_search : MethodName := ⟨RX0, "search", "(I)V"⟩
abbrev cX0_rankMovables : ByteArray := prog_2_method_4_code
def yX0_rankMovables : MethodName := ⟨RX0, "rankMovables", "()V"⟩
abbrev cX0_placeVictims : ByteArray := prog_2_method_5_code
def yX0_placeVictims : MethodName := ⟨RX0, "placeVictims", "(II)Z"⟩
abbrev cX0_lowestPlace : ByteArray := prog_2_method_6_code
def yX0_lowestPlace : MethodName := ⟨RX0, "lowestPlace", "(II)I"⟩
def RX1 : String := "RunHeap$Moves"
def TX1 : u_T := fun k => match k with
  | 0 => ("RunHeap$Moves", "from", "[I", true)
  | 1 => ("RunHeap$Moves", "to", "[I", true)
  | _ => ("RunHeap$Moves", "made", "I", false)
def tyX1 : Nat → FieldType := fun k => match k with
  | 0 => .array .int
  | 1 => .array .int
  | _ => .int
abbrev wsX10 : List Cond := u_ws RX1 TX1 3
theorem nmX1 : ∀ a, a < 3 → ∀ b, b < 3 → a ≠ b → (TX1 a).2.1 ≠ (TX1 b).2.1 := by decide +kernel
theorem tyX1_ok : ∀ k, k < 3 → parseFieldDescriptor (TX1 k).2.2.1 = some (tyX1 k) := by decide +kernel
abbrev cX1_init : ByteArray := prog_3_method_1_code
def yX1_init : MethodName := ⟨RX1, "<init>", "(I)V"⟩
abbrev cX1_put : ByteArray := prog_3_method_2_code
def yX1_put : MethodName := ⟨RX1, "put", "(II)V"⟩
abbrev cX1_takeOver : ByteArray := prog_3_method_3_code
def yX1_takeOver : MethodName := ⟨RX1, "takeOver", "(LRunHeap$Moves;)V"⟩
abbrev cX1_placeOf : ByteArray := prog_3_method_4_code
def yX1_placeOf : MethodName := ⟨RX1, "placeOf", "(I)I"⟩
def RX2 : String := "RunHeap$Row"
def TX2 : u_T := fun k => match k with
  | 0 => ("RunHeap$Row", "address", "[I", true)
  | 1 => ("RunHeap$Row", "size", "[I", true)
  | 2 => ("RunHeap$Row", "kind", "[I", true)
  | _ => ("RunHeap$Row", "blocks", "I", false)
def tyX2 : Nat → FieldType := fun k => match k with
  | 0 => .array .int
  | 1 => .array .int
  | 2 => .array .int
  | _ => .int
abbrev wsX20 : List Cond := u_ws RX2 TX2 4
theorem nmX2 : ∀ a, a < 4 → ∀ b, b < 4 → a ≠ b → (TX2 a).2.1 ≠ (TX2 b).2.1 := by decide +kernel
theorem tyX2_ok : ∀ k, k < 4 → parseFieldDescriptor (TX2 k).2.2.1 = some (tyX2 k) := by decide +kernel
abbrev cX2_init : ByteArray := prog_4_method_1_code
def yX2_init : MethodName := ⟨RX2, "<init>", "(I)V"⟩
abbrev cX2_end : ByteArray := prog_4_method_2_code
def yX2_end : MethodName := ⟨RX2, "end", "(I)I"⟩
abbrev cX2_liveIndex : ByteArray := prog_4_method_3_code
def yX2_liveIndex : MethodName := ⟨RX2, "liveIndex", "(I)I"⟩
abbrev cX2_freeIndex : ByteArray := prog_4_method_4_code
def yX2_freeIndex : MethodName := ⟨RX2, "freeIndex", "(I)I"⟩
abbrev cX2_indexOf : ByteArray := prog_4_method_5_code
def yX2_indexOf : MethodName := ⟨RX2, "indexOf", "(I)I"⟩
abbrev cX2_freeBlocks : ByteArray := prog_4_method_6_code
def yX2_freeBlocks : MethodName := ⟨RX2, "freeBlocks", "()I"⟩
abbrev cX2_liveBlocks : ByteArray := prog_4_method_7_code
def yX2_liveBlocks : MethodName := ⟨RX2, "liveBlocks", "()I"⟩
abbrev cX2_freeWords : ByteArray := prog_4_method_8_code
def yX2_freeWords : MethodName := ⟨RX2, "freeWords", "()I"⟩
abbrev cX2_largestFree : ByteArray := prog_4_method_9_code
def yX2_largestFree : MethodName := ⟨RX2, "largestFree", "()I"⟩
abbrev cX2_freeAddress : ByteArray := prog_4_method_10_code
def yX2_freeAddress : MethodName := ⟨RX2, "freeAddress", "(I)I"⟩
abbrev cX2_freeBehind : ByteArray := prog_4_method_11_code
def yX2_freeBehind : MethodName := ⟨RX2, "freeBehind", "(I)I"⟩
abbrev cX2_carve : ByteArray := prog_4_method_12_code
def yX2_carve : MethodName := ⟨RX2, "carve", "(III)V"⟩
abbrev cX2_release : ByteArray := prog_4_method_13_code
def yX2_release : MethodName := ⟨RX2, "release", "(I)V"⟩
abbrev cX2_extend : ByteArray := prog_4_method_14_code
def yX2_extend : MethodName := ⟨RX2, "extend", "(II)V"⟩
abbrev cX2_shorten : ByteArray := prog_4_method_15_code
def yX2_shorten : MethodName := ⟨RX2, "shorten", "(II)V"⟩
abbrev cX2_isFree : ByteArray := prog_4_method_16_code
def yX2_isFree : MethodName := ⟨RX2, "isFree", "(I)Z"⟩
abbrev cX2_split : ByteArray := prog_4_method_17_code
def yX2_split : MethodName := ⟨RX2, "split", "(II)V"⟩
abbrev cX2_join : ByteArray := prog_4_method_18_code
def yX2_join : MethodName := ⟨RX2, "join", "(I)V"⟩
abbrev cX2_shift : ByteArray := prog_4_method_19_code
def yX2_shift : MethodName := ⟨RX2, "shift", "(II)V"⟩
def RX3 : String := "RunHeap$Tree"
def TX3 : u_T := fun k => match k with
  | 0 => ("RunHeap$Tree", "row", "LRunHeap$Row;", true)
  | 1 => ("RunHeap$Tree", "spineSize", "[I", true)
  | _ => ("RunHeap$Tree", "spineDepth", "[I", true)
def tyX3 : Nat → FieldType := fun k => match k with
  | 0 => .object "RunHeap$Row"
  | 1 => .array .int
  | _ => .array .int
abbrev wsX30 : List Cond := u_ws RX3 TX3 3
theorem nmX3 : ∀ a, a < 3 → ∀ b, b < 3 → a ≠ b → (TX3 a).2.1 ≠ (TX3 b).2.1 := by decide +kernel
theorem tyX3_ok : ∀ k, k < 3 → parseFieldDescriptor (TX3 k).2.2.1 = some (tyX3 k) := by decide +kernel
abbrev cX3_init : ByteArray := prog_5_method_1_code
def yX3_init : MethodName := ⟨RX3, "<init>", "(LRunHeap$Row;I)V"⟩
abbrev cX3_depth : ByteArray := prog_5_method_2_code
def yX3_depth : MethodName := ⟨RX3, "depth", "()I"⟩
abbrev cX3_depthOfSpine : ByteArray := prog_5_method_3_code
def yX3_depthOfSpine : MethodName := ⟨RX3, "depthOfSpine", "(II)I"⟩
abbrev cX3_topToTheLeft : ByteArray := prog_5_method_4_code
def yX3_topToTheLeft : MethodName := ⟨RX3, "topToTheLeft", "(I)I"⟩
abbrev cX3_topToTheRight : ByteArray := prog_5_method_5_code
def yX3_topToTheRight : MethodName := ⟨RX3, "topToTheRight", "(I)I"⟩
def RX4 : String := "RunHeap"
def TX4 : u_T := fun k => match k with
  | 0 => ("RunHeap", "memory", "[I", true)
  | 1 => ("RunHeap", "row", "LRunHeap$Row;", true)
  | 2 => ("RunHeap", "tree", "LRunHeap$Tree;", true)
  | 3 => ("RunHeap", "adviser", "LRunHeap$Adviser;", true)
  | _ => ("RunHeap", "applied", "LRunHeap$Moves;", true)
def tyX4 : Nat → FieldType := fun k => match k with
  | 0 => .array .int
  | 1 => .object "RunHeap$Row"
  | 2 => .object "RunHeap$Tree"
  | 3 => .object "RunHeap$Adviser"
  | _ => .object "RunHeap$Moves"
abbrev wsX40 : List Cond := u_ws RX4 TX4 5
theorem nmX4 : ∀ a, a < 5 → ∀ b, b < 5 → a ≠ b → (TX4 a).2.1 ≠ (TX4 b).2.1 := by decide +kernel
theorem tyX4_ok : ∀ k, k < 5 → parseFieldDescriptor (TX4 k).2.2.1 = some (tyX4 k) := by decide +kernel
abbrev cX4_init : ByteArray := prog_1_method_1_code
def yX4_init : MethodName := ⟨RX4, "<init>", "(I)V"⟩
abbrev cX4_give : ByteArray := prog_1_method_2_code
def yX4_give : MethodName := ⟨RX4, "give", "(I)I"⟩
abbrev cX4_giveAligned : ByteArray := prog_1_method_3_code
def yX4_giveAligned : MethodName := ⟨RX4, "giveAligned", "(II)I"⟩
abbrev cX4_free : ByteArray := prog_1_method_4_code
def yX4_free : MethodName := ⟨RX4, "free", "(I)Z"⟩
abbrev cX4_grow : ByteArray := prog_1_method_5_code
def yX4_grow : MethodName := ⟨RX4, "grow", "(II)Z"⟩
abbrev cX4_trim : ByteArray := prog_1_method_6_code
def yX4_trim : MethodName := ⟨RX4, "trim", "(II)Z"⟩
abbrev cX4_pin : ByteArray := prog_1_method_7_code
def yX4_pin : MethodName := ⟨RX4, "pin", "(IZ)Z"⟩
abbrev cX4_get : ByteArray := prog_1_method_8_code
def yX4_get : MethodName := ⟨RX4, "get", "(II)I"⟩
abbrev cX4_set : ByteArray := prog_1_method_9_code
def yX4_set : MethodName := ⟨RX4, "set", "(III)I"⟩
abbrev cX4_sizeOf : ByteArray := prog_1_method_10_code
def yX4_sizeOf : MethodName := ⟨RX4, "sizeOf", "(I)I"⟩
abbrev cX4_largest : ByteArray := prog_1_method_11_code
def yX4_largest : MethodName := ⟨RX4, "largest", "()I"⟩
abbrev cX4_count : ByteArray := prog_1_method_12_code
def yX4_count : MethodName := ⟨RX4, "count", "(I)I"⟩
abbrev cX4_freeAt : ByteArray := prog_1_method_13_code
def yX4_freeAt : MethodName := ⟨RX4, "freeAt", "(I)I"⟩
abbrev cX4_branch : ByteArray := prog_1_method_14_code
def yX4_branch : MethodName := ⟨RX4, "branch", "(II)I"⟩
abbrev cX4_advise : ByteArray := prog_1_method_15_code
def yX4_advise : MethodName := ⟨RX4, "advise", "(I)I"⟩
abbrev cX4_window : ByteArray := prog_1_method_16_code
def yX4_window : MethodName := ⟨RX4, "window", "()I"⟩
abbrev cX4_move : ByteArray := prog_1_method_17_code
def yX4_move : MethodName := ⟨RX4, "move", "(II)I"⟩
abbrev cX4_apply : ByteArray := prog_1_method_18_code
def yX4_apply : MethodName := ⟨RX4, "apply", "()I"⟩
abbrev cX4_moved : ByteArray := prog_1_method_19_code
def yX4_moved : MethodName := ⟨RX4, "moved", "(I)I"⟩
abbrev cX4_sizeFor : ByteArray := prog_1_method_20_code
def yX4_sizeFor : MethodName := ⟨RX4, "sizeFor", "(I)I"⟩
abbrev cX4_nextMultiple : ByteArray := prog_1_method_21_code
def yX4_nextMultiple : MethodName := ⟨RX4, "nextMultiple", "(II)I"⟩
abbrev cX4_giveAtMultiple : ByteArray := prog_1_method_22_code
def yX4_giveAtMultiple : MethodName := ⟨RX4, "giveAtMultiple", "(II)I"⟩
abbrev cX4_clearPayload : ByteArray := prog_1_method_23_code
def yX4_clearPayload : MethodName := ⟨RX4, "clearPayload", "(III)V"⟩
abbrev cX4_payloadWord : ByteArray := prog_1_method_24_code
def yX4_payloadWord : MethodName := ⟨RX4, "payloadWord", "(II)I"⟩
abbrev cX4_copyBlock : ByteArray := prog_1_method_25_code
def yX4_copyBlock : MethodName := ⟨RX4, "copyBlock", "(II)V"⟩
abbrev cX4_leaveBlock : ByteArray := prog_1_method_26_code
def yX4_leaveBlock : MethodName := ⟨RX4, "leaveBlock", "(I)V"⟩
def RX5 : String := "RunHeapModel"
def TX5 : u_T := fun k => match k with
  | 0 => ("RunHeapModel", "thrown", "I", false)
  | 1 => ("RunHeapModel", "groups", "I", true)
  | 2 => ("RunHeapModel", "size", "[I", true)
  | 3 => ("RunHeapModel", "live", "[Z", true)
  | 4 => ("RunHeapModel", "pinned", "[Z", true)
  | 5 => ("RunHeapModel", "words", "[I", true)
  | 6 => ("RunHeapModel", "advised", "Z", false)
  | 7 => ("RunHeapModel", "windowAt", "I", false)
  | 8 => ("RunHeapModel", "moves", "I", false)
  | 9 => ("RunHeapModel", "movesFrom", "[I", true)
  | 10 => ("RunHeapModel", "movesTo", "[I", true)
  | 11 => ("RunHeapModel", "done", "I", false)
  | 12 => ("RunHeapModel", "doneFrom", "[I", true)
  | 13 => ("RunHeapModel", "doneTo", "[I", true)
  | 14 => ("RunHeapModel", "victims", "I", false)
  | 15 => ("RunHeapModel", "victim", "[I", true)
  | 16 => ("RunHeapModel", "placed", "[I", true)
  | _ => ("RunHeapModel", "left", "[I", true)
def tyX5 : Nat → FieldType := fun k => match k with
  | 0 => .int
  | 1 => .int
  | 2 => .array .int
  | 3 => .array .boolean
  | 4 => .array .boolean
  | 5 => .array .int
  | 6 => .boolean
  | 7 => .int
  | 8 => .int
  | 9 => .array .int
  | 10 => .array .int
  | 11 => .int
  | 12 => .array .int
  | 13 => .array .int
  | 14 => .int
  | 15 => .array .int
  | 16 => .array .int
  | _ => .array .int
abbrev wsX50 : List Cond := u_ws RX5 TX5 18
theorem nmX5 : ∀ a, a < 18 → ∀ b, b < 18 → a ≠ b → (TX5 a).2.1 ≠ (TX5 b).2.1 := by decide +kernel
theorem tyX5_ok : ∀ k, k < 18 → parseFieldDescriptor (TX5 k).2.2.1 = some (tyX5 k) := by decide +kernel
abbrev cX5_init : ByteArray := prog_7_method_1_code
def yX5_init : MethodName := ⟨RX5, "<init>", "(I)V"⟩
abbrev cX5_thrown : ByteArray := prog_7_method_2_code
def yX5_thrown : MethodName := ⟨RX5, "thrown", "()I"⟩
abbrev cX5_address : ByteArray := prog_7_method_3_code
def yX5_address : MethodName := ⟨RX5, "address", "(I)I"⟩
abbrev cX5_find : ByteArray := prog_7_method_4_code
def yX5_find : MethodName := ⟨RX5, "find", "(I)I"⟩
abbrev cX5_isFree : ByteArray := prog_7_method_5_code
def yX5_isFree : MethodName := ⟨RX5, "isFree", "(I)Z"⟩
abbrev cX5_groupsFor : ByteArray := prog_7_method_6_code
def yX5_groupsFor : MethodName := ⟨RX5, "groupsFor", "(I)I"⟩
abbrev cX5_joins : ByteArray := prog_7_method_7_code
def yX5_joins : MethodName := ⟨RX5, "joins", "()V"⟩
abbrev cX5_takes : ByteArray := prog_7_method_8_code
def yX5_takes : MethodName := ⟨RX5, "takes", "(III)V"⟩
abbrev cX5_give : ByteArray := prog_7_method_9_code
def yX5_give : MethodName := ⟨RX5, "give", "(I)I"⟩
abbrev cX5_giveAligned : ByteArray := prog_7_method_10_code
def yX5_giveAligned : MethodName := ⟨RX5, "giveAligned", "(II)I"⟩
abbrev cX5_gives : ByteArray := prog_7_method_11_code
def yX5_gives : MethodName := ⟨RX5, "gives", "(II)I"⟩
abbrev cX5_free : ByteArray := prog_7_method_12_code
def yX5_free : MethodName := ⟨RX5, "free", "(I)Z"⟩
abbrev cX5_grow : ByteArray := prog_7_method_13_code
def yX5_grow : MethodName := ⟨RX5, "grow", "(II)Z"⟩
abbrev cX5_trim : ByteArray := prog_7_method_14_code
def yX5_trim : MethodName := ⟨RX5, "trim", "(II)Z"⟩
abbrev cX5_pin : ByteArray := prog_7_method_15_code
def yX5_pin : MethodName := ⟨RX5, "pin", "(IZ)Z"⟩
abbrev cX5_get : ByteArray := prog_7_method_16_code
def yX5_get : MethodName := ⟨RX5, "get", "(II)I"⟩
abbrev cX5_set : ByteArray := prog_7_method_17_code
def yX5_set : MethodName := ⟨RX5, "set", "(III)I"⟩
abbrev cX5_sizeOf : ByteArray := prog_7_method_18_code
def yX5_sizeOf : MethodName := ⟨RX5, "sizeOf", "(I)I"⟩
abbrev cX5_top : ByteArray := prog_7_method_19_code
def yX5_top : MethodName := ⟨RX5, "top", "(II)I"⟩
abbrev cX5_largest : ByteArray := prog_7_method_20_code
def yX5_largest : MethodName := ⟨RX5, "largest", "()I"⟩
abbrev cX5_depth : ByteArray := prog_7_method_21_code
def yX5_depth : MethodName := ⟨RX5, "depth", "(I)I"⟩
abbrev cX5_count : ByteArray := prog_7_method_22_code
def yX5_count : MethodName := ⟨RX5, "count", "(I)I"⟩
abbrev cX5_freeAt : ByteArray := prog_7_method_23_code
def yX5_freeAt : MethodName := ⟨RX5, "freeAt", "(I)I"⟩
abbrev cX5_branch : ByteArray := prog_7_method_24_code
def yX5_branch : MethodName := ⟨RX5, "branch", "(II)I"⟩
abbrev cX5_windowEnd : ByteArray := prog_7_method_25_code
def yX5_windowEnd : MethodName := ⟨RX5, "windowEnd", "(II)I"⟩
abbrev cX5_gathers : ByteArray := prog_7_method_26_code
def yX5_gathers : MethodName := ⟨RX5, "gathers", "(II)V"⟩
abbrev cX5_places : ByteArray := prog_7_method_27_code
def yX5_places : MethodName := ⟨RX5, "places", "(II)Z"⟩
abbrev cX5_advise : ByteArray := prog_7_method_28_code
def yX5_advise : MethodName := ⟨RX5, "advise", "(I)I"⟩
abbrev cX5_window : ByteArray := prog_7_method_29_code
def yX5_window : MethodName := ⟨RX5, "window", "()I"⟩
abbrev cX5_move : ByteArray := prog_7_method_30_code
def yX5_move : MethodName := ⟨RX5, "move", "(II)I"⟩
abbrev cX5_goes : ByteArray := prog_7_method_31_code
def yX5_goes : MethodName := ⟨RX5, "goes", "(II)V"⟩
abbrev cX5_apply : ByteArray := prog_7_method_32_code
def yX5_apply : MethodName := ⟨RX5, "apply", "()I"⟩
abbrev cX5_moved : ByteArray := prog_7_method_33_code
def yX5_moved : MethodName := ⟨RX5, "moved", "(I)I"⟩
def RJ7 : String := "java/util/Arrays"
def TJ7 : u_T := fun k => match k with
  | _ => ("", "", "", false)
def tyJ7 : Nat → FieldType := fun k => match k with
  | _ => .int
abbrev wsJ70 : List Cond := u_ws RJ7 TJ7 0
theorem nmJ7 : ∀ a, a < 0 → ∀ b, b < 0 → a ≠ b → (TJ7 a).2.1 ≠ (TJ7 b).2.1 := by decide +kernel
theorem tyJ7_ok : ∀ k, k < 0 → parseFieldDescriptor (TJ7 k).2.2.1 = some (tyJ7 k) := by decide +kernel
abbrev cJ7_rangeCheck_23922 : ByteArray := prog_30_method_30_code
def yJ7_rangeCheck_23922 : MethodName := ⟨RJ7, "rangeCheck", "(III)V"⟩
abbrev cJ7_fill_fda19 : ByteArray := prog_30_method_104_code
def yJ7_fill_fda19 : MethodName := ⟨RJ7, "fill", "([IIII)V"⟩
abbrev cJ7_copyOf_9075b : ByteArray := prog_30_method_121_code
def yJ7_copyOf_9075b : MethodName := ⟨RJ7, "copyOf", "([BI)[B"⟩
abbrev cJ7_checkLength_df160 : ByteArray := prog_30_method_131_code
def yJ7_checkLength_df160 : MethodName := ⟨RJ7, "checkLength", "(II)V"⟩
abbrev cJ7_copyOfRange_39247 : ByteArray := prog_30_method_132_code
def yJ7_copyOfRange_39247 : MethodName := ⟨RJ7, "copyOfRange", "([BII)[B"⟩
abbrev cJ7_copyOfRangeByte_39247 : ByteArray := prog_30_method_133_code
def yJ7_copyOfRangeByte_39247 : MethodName := ⟨RJ7, "copyOfRangeByte", "([BII)[B"⟩
def RL : String := "RunHeapLaw"
abbrev cL_cell : ByteArray := method_2_code
def yL_cell : MethodName := ⟨RL, "cell", "([II)I"⟩
abbrev cL_get : ByteArray := method_3_code
def yL_get : MethodName := ⟨RL, "get", "(LRunHeap;II[J)I"⟩
abbrev cL_set : ByteArray := method_4_code
def yL_set : MethodName := ⟨RL, "set", "(LRunHeap;III[J)I"⟩
abbrev cL_branch : ByteArray := method_5_code
def yL_branch : MethodName := ⟨RL, "branch", "(LRunHeap;II[J)I"⟩
abbrev cL_move : ByteArray := method_6_code
def yL_move : MethodName := ⟨RL, "move", "(LRunHeap;II[J)I"⟩
abbrev cL_law : ByteArray := code
def yL_law : MethodName := ⟨RL, "law", "([I)Z"⟩
def wA_0 : List Cond := [.arrayClass .boolean, .arrayClass .int, .arrayClass .long, .classLink RL 13 "java/util/NoSuchElementException", .classLink RL 15 "java/lang/IndexOutOfBoundsException", .classLink RL 24 "java/lang/IllegalArgumentException", .classLink RL 38 RX5, .classLink RL 8 RX4, .classLink RX0 21 RX1, .classLink RX4 122 "java/util/NoSuchElementException", .classLink RX4 135 "java/lang/IllegalArgumentException", .classLink RX4 150 "java/lang/IndexOutOfBoundsException", .classLink RX4 22 RX2, .classLink RX4 31 RX3, .classLink RX4 40 RX0, .classLink RX4 47 RX1, .code Lib.Math.max.name Lib.Math.max.code 2 (some .int), .code Lib.Math.min.name Lib.Math.min.code 2 (some .int), .code objectInit ⟨#[0xb1]⟩ 1 none, .code yJ7_fill_fda19 cJ7_fill_fda19 5 none, .code yJ7_rangeCheck_23922 cJ7_rangeCheck_23922 3 none, .code yL_cell cL_cell 2 (some .int), .code yX0_drop cX0_drop 1 none, .code yX0_init cX0_init 4 none, .code yX0_lowestPlace cX0_lowestPlace 4 (some .int), .code yX0_placeVictims cX0_placeVictims 7 (some .boolean), .code yX0_rankMovables cX0_rankMovables 3 none, .code yX0_search cX0_search 9 none, .code yX1_init cX1_init 2 none, .code yX1_placeOf cX1_placeOf 3 (some .int), .code yX1_put cX1_put 3 none, .code yX1_takeOver cX1_takeOver 3 none]
def wA_1 : List Cond := [.code yX2_carve cX2_carve 6 none, .code yX2_end cX2_end 2 (some .int), .code yX2_extend cX2_extend 3 none, .code yX2_freeAddress cX2_freeAddress 4 (some .int), .code yX2_freeBehind cX2_freeBehind 2 (some .int), .code yX2_freeBlocks cX2_freeBlocks 3 (some .int), .code yX2_freeIndex cX2_freeIndex 3 (some .int), .code yX2_freeWords cX2_freeWords 3 (some .int), .code yX2_indexOf cX2_indexOf 3 (some .int), .code yX2_init cX2_init 2 none, .code yX2_isFree cX2_isFree 2 (some .boolean), .code yX2_join cX2_join 2 none, .code yX2_largestFree cX2_largestFree 3 (some .int), .code yX2_liveBlocks cX2_liveBlocks 1 (some .int), .code yX2_liveIndex cX2_liveIndex 3 (some .int), .code yX2_release cX2_release 2 none, .code yX2_shift cX2_shift 4 none, .code yX2_shorten cX2_shorten 3 none, .code yX2_split cX2_split 4 none, .code yX3_depth cX3_depth 4 (some .int), .code yX3_depthOfSpine cX3_depthOfSpine 5 (some .int), .code yX3_init cX3_init 3 none, .code yX3_topToTheLeft cX3_topToTheLeft 5 (some .int), .code yX3_topToTheRight cX3_topToTheRight 5 (some .int), .code yX4_advise cX4_advise 2 (some .int), .code yX4_apply cX4_apply 2 (some .int), .code yX4_branch cX4_branch 4 (some .int), .code yX4_clearPayload cX4_clearPayload 4 none, .code yX4_copyBlock cX4_copyBlock 6 none, .code yX4_count cX4_count 2 (some .int), .code yX4_free cX4_free 3 (some .boolean), .code yX4_freeAt cX4_freeAt 2 (some .int)]
def wA_2 : List Cond := [.code yX4_get cX4_get 3 (some .int), .code yX4_give cX4_give 2 (some .int), .code yX4_giveAligned cX4_giveAligned 4 (some .int), .code yX4_giveAtMultiple cX4_giveAtMultiple 6 (some .int), .code yX4_grow cX4_grow 6 (some .boolean), .code yX4_init cX4_init 4 none, .code yX4_largest cX4_largest 1 (some .int), .code yX4_leaveBlock cX4_leaveBlock 3 none, .code yX4_move cX4_move 4 (some .int), .code yX4_moved cX4_moved 2 (some .int), .code yX4_nextMultiple cX4_nextMultiple 2 (some .int), .code yX4_payloadWord cX4_payloadWord 4 (some .int), .code yX4_pin cX4_pin 4 (some .boolean), .code yX4_set cX4_set 6 (some .int), .code yX4_sizeFor cX4_sizeFor 1 (some .int), .code yX4_sizeOf cX4_sizeOf 3 (some .int), .code yX4_trim cX4_trim 5 (some .boolean), .code yX4_window cX4_window 1 (some .int), .code yX5_address cX5_address 1 (some .int), .code yX5_advise cX5_advise 5 (some .int), .code yX5_apply cX5_apply 2 (some .int), .code yX5_branch cX5_branch 9 (some .int), .code yX5_count cX5_count 8 (some .int), .code yX5_depth cX5_depth 4 (some .int), .code yX5_find cX5_find 3 (some .int), .code yX5_free cX5_free 3 (some .boolean), .code yX5_freeAt cX5_freeAt 4 (some .int), .code yX5_gathers cX5_gathers 5 none, .code yX5_get cX5_get 4 (some .int), .code yX5_give cX5_give 2 (some .int), .code yX5_giveAligned cX5_giveAligned 4 (some .int), .code yX5_gives cX5_gives 6 (some .int)]
def wA_3 : List Cond := [.code yX5_goes cX5_goes 6 none, .code yX5_groupsFor cX5_groupsFor 2 (some .int), .code yX5_grow cX5_grow 8 (some .boolean), .code yX5_init cX5_init 3 none, .code yX5_isFree cX5_isFree 2 (some .boolean), .code yX5_joins cX5_joins 3 none, .code yX5_largest cX5_largest 2 (some .int), .code yX5_move cX5_move 3 (some .int), .code yX5_moved cX5_moved 3 (some .int), .code yX5_pin cX5_pin 4 (some .boolean), .code yX5_places cX5_places 6 (some .boolean), .code yX5_set cX5_set 5 (some .int), .code yX5_sizeOf cX5_sizeOf 3 (some .int), .code yX5_takes cX5_takes 7 none, .code yX5_thrown cX5_thrown 1 (some .int), .code yX5_top cX5_top 5 (some .int), .code yX5_trim cX5_trim 5 (some .boolean), .code yX5_window cX5_window 1 (some .int), .code yX5_windowEnd cX5_windowEnd 4 (some .int), .constantLong RX5 92 (4), .fieldLink RX0 15 "RunHeap$Adviser" "row" "LRunHeap$Row;", .fieldLink RX0 26 "RunHeap$Adviser" "best" "LRunHeap$Moves;", .fieldLink RX0 30 "RunHeap$Adviser" "trial" "LRunHeap$Moves;", .fieldLink RX0 33 "RunHeap$Adviser" "movable" "[I", .fieldLink RX0 37 "RunHeap$Adviser" "left" "[I", .fieldLink RX0 40 "RunHeap$Adviser" "given" "Z", .fieldLink RX0 44 "RunHeap$Moves" "made" "I", .fieldLink RX0 57 "RunHeap$Row" "blocks" "I", .fieldLink RX0 63 "RunHeap$Row" "kind" "[I", .fieldLink RX0 66 "RunHeap$Row" "size" "[I", .fieldLink RX0 73 "RunHeap$Row" "address" "[I", .fieldLink RX0 76 "RunHeap$Adviser" "lowest" "I"]
def wA_4 : List Cond := [.fieldLink RX0 83 "RunHeap$Adviser" "movables" "I", .fieldLink RX1 15 "RunHeap$Moves" "to" "[I", .fieldLink RX1 18 "RunHeap$Moves" "made" "I", .fieldLink RX1 9 "RunHeap$Moves" "from" "[I", .fieldLink RX2 15 "RunHeap$Row" "size" "[I", .fieldLink RX2 18 "RunHeap$Row" "kind" "[I", .fieldLink RX2 21 "RunHeap$Row" "blocks" "I", .fieldLink RX2 9 "RunHeap$Row" "address" "[I", .fieldLink RX3 15 "RunHeap$Tree" "spineSize" "[I", .fieldLink RX3 19 "RunHeap$Tree" "spineDepth" "[I", .fieldLink RX3 22 "RunHeap$Row" "blocks" "I", .fieldLink RX3 28 "RunHeap$Row" "kind" "[I", .fieldLink RX3 31 "RunHeap$Row" "size" "[I", .fieldLink RX3 43 "RunHeap$Row" "address" "[I", .fieldLink RX3 9 "RunHeap$Tree" "row" "LRunHeap$Row;", .fieldLink RX4 106 "RunHeap$Adviser" "best" "LRunHeap$Moves;", .fieldLink RX4 109 "RunHeap$Moves" "made" "I", .fieldLink RX4 143 "RunHeap$Adviser" "given" "Z", .fieldLink RX4 147 "RunHeap$Adviser" "lowest" "I", .fieldLink RX4 157 "RunHeap$Moves" "from" "[I", .fieldLink RX4 160 "RunHeap$Moves" "to" "[I", .fieldLink RX4 176 "RunHeap$Row" "blocks" "I", .fieldLink RX4 179 "RunHeap$Row" "address" "[I", .fieldLink RX4 18 "RunHeap" "memory" "[I", .fieldLink RX4 27 "RunHeap" "row" "LRunHeap$Row;", .fieldLink RX4 36 "RunHeap" "tree" "LRunHeap$Tree;", .fieldLink RX4 43 "RunHeap" "adviser" "LRunHeap$Adviser;", .fieldLink RX4 50 "RunHeap" "applied" "LRunHeap$Moves;", .fieldLink RX4 67 "RunHeap$Row" "size" "[I", .fieldLink RX4 87 "RunHeap$Row" "kind" "[I", .fieldLink RX5 111 "RunHeapModel" "windowAt" "I", .fieldLink RX5 114 "RunHeapModel" "done" "I"]
def wA_5 : List Cond := [.fieldLink RX5 13 "RunHeapModel" "live" "[Z", .fieldLink RX5 17 "RunHeapModel" "pinned" "[Z", .fieldLink RX5 20 "RunHeapModel" "words" "[I", .fieldLink RX5 23 "RunHeapModel" "movesFrom" "[I", .fieldLink RX5 26 "RunHeapModel" "movesTo" "[I", .fieldLink RX5 29 "RunHeapModel" "doneFrom" "[I", .fieldLink RX5 32 "RunHeapModel" "doneTo" "[I", .fieldLink RX5 35 "RunHeapModel" "victim" "[I", .fieldLink RX5 38 "RunHeapModel" "placed" "[I", .fieldLink RX5 41 "RunHeapModel" "left" "[I", .fieldLink RX5 44 "RunHeapModel" "groups" "I", .fieldLink RX5 48 "RunHeapModel" "thrown" "I", .fieldLink RX5 7 "RunHeapModel" "size" "[I", .fieldLink RX5 70 "RunHeapModel" "advised" "Z", .fieldLink RX5 89 "RunHeapModel" "moves" "I", .fieldLink RX5 94 "RunHeapModel" "victims" "I", .initialized "java/lang/IllegalArgumentException", .initialized "java/lang/IndexOutOfBoundsException", .initialized "java/lang/Math", .initialized "java/lang/System", .initialized "java/util/NoSuchElementException", .initialized RJ7, .initialized RL, .initialized RX0, .initialized RX1, .initialized RX2, .initialized RX3, .initialized RX4, .initialized RX5, .instanceMethod objectInit, .instanceMethod yX0_drop, .instanceMethod yX0_init]
def wA_6 : List Cond := [.instanceMethod yX0_lowestPlace, .instanceMethod yX0_placeVictims, .instanceMethod yX0_rankMovables, .instanceMethod yX0_search, .instanceMethod yX1_init, .instanceMethod yX1_placeOf, .instanceMethod yX1_put, .instanceMethod yX1_takeOver, .instanceMethod yX2_carve, .instanceMethod yX2_end, .instanceMethod yX2_extend, .instanceMethod yX2_freeAddress, .instanceMethod yX2_freeBehind, .instanceMethod yX2_freeBlocks, .instanceMethod yX2_freeIndex, .instanceMethod yX2_freeWords, .instanceMethod yX2_indexOf, .instanceMethod yX2_init, .instanceMethod yX2_isFree, .instanceMethod yX2_join, .instanceMethod yX2_largestFree, .instanceMethod yX2_liveBlocks, .instanceMethod yX2_liveIndex, .instanceMethod yX2_release, .instanceMethod yX2_shift, .instanceMethod yX2_shorten, .instanceMethod yX2_split, .instanceMethod yX3_depth, .instanceMethod yX3_depthOfSpine, .instanceMethod yX3_init, .instanceMethod yX3_topToTheLeft, .instanceMethod yX3_topToTheRight]
def wA_7 : List Cond := [.instanceMethod yX4_advise, .instanceMethod yX4_apply, .instanceMethod yX4_branch, .instanceMethod yX4_clearPayload, .instanceMethod yX4_copyBlock, .instanceMethod yX4_count, .instanceMethod yX4_free, .instanceMethod yX4_freeAt, .instanceMethod yX4_get, .instanceMethod yX4_give, .instanceMethod yX4_giveAligned, .instanceMethod yX4_giveAtMultiple, .instanceMethod yX4_grow, .instanceMethod yX4_init, .instanceMethod yX4_largest, .instanceMethod yX4_leaveBlock, .instanceMethod yX4_move, .instanceMethod yX4_moved, .instanceMethod yX4_payloadWord, .instanceMethod yX4_pin, .instanceMethod yX4_set, .instanceMethod yX4_sizeOf, .instanceMethod yX4_trim, .instanceMethod yX4_window, .instanceMethod yX5_advise, .instanceMethod yX5_apply, .instanceMethod yX5_branch, .instanceMethod yX5_count, .instanceMethod yX5_depth, .instanceMethod yX5_find, .instanceMethod yX5_free, .instanceMethod yX5_freeAt]
def wA_8 : List Cond := [.instanceMethod yX5_gathers, .instanceMethod yX5_get, .instanceMethod yX5_give, .instanceMethod yX5_giveAligned, .instanceMethod yX5_gives, .instanceMethod yX5_goes, .instanceMethod yX5_groupsFor, .instanceMethod yX5_grow, .instanceMethod yX5_init, .instanceMethod yX5_isFree, .instanceMethod yX5_joins, .instanceMethod yX5_largest, .instanceMethod yX5_move, .instanceMethod yX5_moved, .instanceMethod yX5_pin, .instanceMethod yX5_places, .instanceMethod yX5_set, .instanceMethod yX5_sizeOf, .instanceMethod yX5_takes, .instanceMethod yX5_thrown, .instanceMethod yX5_top, .instanceMethod yX5_trim, .instanceMethod yX5_window, .instanceMethod yX5_windowEnd, .instantiable RX0 8, .instantiable RX1 3, .instantiable RX2 4, .instantiable RX3 3, .instantiable RX4 5, .instantiable RX5 18, .methodLink RJ7 13 yJ7_rangeCheck_23922, .methodLink RL 100 yX4_advise]
def wA_9 : List Cond := [.methodLink RL 103 yX5_advise, .methodLink RL 104 yX4_window, .methodLink RL 107 yX5_window, .methodLink RL 108 yL_move, .methodLink RL 110 yX5_move, .methodLink RL 111 yX4_apply, .methodLink RL 114 yX5_apply, .methodLink RL 115 yX4_moved, .methodLink RL 118 yX5_moved, .methodLink RL 17 yX4_set, .methodLink RL 21 yX4_branch, .methodLink RL 26 yX4_move, .methodLink RL 29 yL_cell, .methodLink RL 35 yX4_init, .methodLink RL 40 yX5_init, .methodLink RL 41 yX4_give, .methodLink RL 45 yX5_give, .methodLink RL 46 yX4_giveAligned, .methodLink RL 49 yX5_giveAligned, .methodLink RL 50 yX4_free, .methodLink RL 54 yX5_free, .methodLink RL 55 yX4_grow, .methodLink RL 59 yX5_grow, .methodLink RL 60 yX4_trim, .methodLink RL 63 yX5_trim, .methodLink RL 64 yX4_pin, .methodLink RL 68 yX5_pin, .methodLink RL 69 yL_get, .methodLink RL 7 yX4_get, .methodLink RL 72 yX5_get, .methodLink RL 73 yX5_thrown, .methodLink RL 77 yL_set]
def wA_10 : List Cond := [.methodLink RL 80 yX5_set, .methodLink RL 81 yX4_sizeOf, .methodLink RL 84 yX5_sizeOf, .methodLink RL 85 yX4_largest, .methodLink RL 88 yX5_largest, .methodLink RL 89 yX4_count, .methodLink RL 92 yX5_count, .methodLink RL 93 yX4_freeAt, .methodLink RL 96 yX5_freeAt, .methodLink RL 97 yL_branch, .methodLink RL 99 yX5_branch, .methodLink RX0 23 yX1_init, .methodLink RX0 3 objectInit, .methodLink RX0 48 yX0_rankMovables, .methodLink RX0 51 yX2_freeWords, .methodLink RX0 60 Lib.Math.max.name, .methodLink RX0 69 yX0_placeVictims, .methodLink RX0 79 yX1_takeOver, .methodLink RX0 86 yX0_lowestPlace, .methodLink RX0 89 yX2_end, .methodLink RX0 9 Lib.Math.min.name, .methodLink RX0 93 yX1_put, .methodLink RX1 22 yX1_put, .methodLink RX1 3 objectInit, .methodLink RX2 25 yX2_indexOf, .methodLink RX2 29 yX2_freeBlocks, .methodLink RX2 3 objectInit, .methodLink RX2 33 Lib.Math.max.name, .methodLink RX2 39 yX2_isFree, .methodLink RX2 43 yX2_split, .methodLink RX2 47 yX2_join, .methodLink RX2 51 yX2_release]
def wA_11 : List Cond := [.methodLink RX2 54 yX2_shift, .methodLink RX2 57 arraycopyName, .methodLink RX3 3 objectInit, .methodLink RX3 34 yX3_depthOfSpine, .methodLink RX3 38 Lib.Math.max.name, .methodLink RX4 1 objectInit, .methodLink RX4 100 yX2_freeWords, .methodLink RX4 103 yX2_liveBlocks, .methodLink RX4 113 yX3_depth, .methodLink RX4 116 yX2_freeAddress, .methodLink RX4 119 yX2_freeIndex, .methodLink RX4 129 yX3_topToTheLeft, .methodLink RX4 132 yX3_topToTheRight, .methodLink RX4 140 yX0_search, .methodLink RX4 15 Lib.Math.max.name, .methodLink RX4 163 yX1_takeOver, .methodLink RX4 167 yX4_copyBlock, .methodLink RX4 170 yX4_leaveBlock, .methodLink RX4 173 yX1_placeOf, .methodLink RX4 182 yX4_nextMultiple, .methodLink RX4 185 yX2_end, .methodLink RX4 188 yX2_carve, .methodLink RX4 191 yJ7_fill_fda19, .methodLink RX4 201 arraycopyName, .methodLink RX4 24 yX2_init, .methodLink RX4 33 yX3_init, .methodLink RX4 42 yX0_init, .methodLink RX4 49 yX1_init, .methodLink RX4 54 yX4_giveAtMultiple, .methodLink RX4 57 yX2_liveIndex, .methodLink RX4 61 yX2_release, .methodLink RX4 64 yX0_drop]
def wA_12 : List Cond := [.methodLink RX4 70 yX4_sizeFor, .methodLink RX4 73 yX2_freeBehind, .methodLink RX4 76 yX2_extend, .methodLink RX4 80 yX4_clearPayload, .methodLink RX4 84 yX2_shorten, .methodLink RX4 9 Lib.Math.min.name, .methodLink RX4 90 yX4_payloadWord, .methodLink RX4 93 yX2_largestFree, .methodLink RX4 97 yX2_freeBlocks, .methodLink RX5 1 objectInit, .methodLink RX5 100 yX5_windowEnd, .methodLink RX5 103 yX5_gathers, .methodLink RX5 107 yX5_places, .methodLink RX5 117 yX5_goes, .methodLink RX5 51 yX5_isFree, .methodLink RX5 55 yX5_address, .methodLink RX5 59 yX5_gives, .methodLink RX5 63 yX5_groupsFor, .methodLink RX5 66 yX5_takes, .methodLink RX5 74 yX5_find, .methodLink RX5 77 yX5_joins, .methodLink RX5 80 yX5_get, .methodLink RX5 83 yX5_top, .methodLink RX5 86 yX5_depth, .methodLink RX5 97 yX5_count, .native arraycopyName, .selects RX0 yX0_drop yX0_drop, .selects RX0 yX0_lowestPlace yX0_lowestPlace, .selects RX0 yX0_placeVictims yX0_placeVictims, .selects RX0 yX0_rankMovables yX0_rankMovables, .selects RX0 yX0_search yX0_search, .selects RX1 yX1_placeOf yX1_placeOf]
def wA_13 : List Cond := [.selects RX1 yX1_put yX1_put, .selects RX1 yX1_takeOver yX1_takeOver, .selects RX2 yX2_carve yX2_carve, .selects RX2 yX2_end yX2_end, .selects RX2 yX2_extend yX2_extend, .selects RX2 yX2_freeAddress yX2_freeAddress, .selects RX2 yX2_freeBehind yX2_freeBehind, .selects RX2 yX2_freeBlocks yX2_freeBlocks, .selects RX2 yX2_freeIndex yX2_freeIndex, .selects RX2 yX2_freeWords yX2_freeWords, .selects RX2 yX2_indexOf yX2_indexOf, .selects RX2 yX2_isFree yX2_isFree, .selects RX2 yX2_join yX2_join, .selects RX2 yX2_largestFree yX2_largestFree, .selects RX2 yX2_liveBlocks yX2_liveBlocks, .selects RX2 yX2_liveIndex yX2_liveIndex, .selects RX2 yX2_release yX2_release, .selects RX2 yX2_shift yX2_shift, .selects RX2 yX2_shorten yX2_shorten, .selects RX2 yX2_split yX2_split, .selects RX3 yX3_depth yX3_depth, .selects RX3 yX3_depthOfSpine yX3_depthOfSpine, .selects RX3 yX3_topToTheLeft yX3_topToTheLeft, .selects RX3 yX3_topToTheRight yX3_topToTheRight, .selects RX4 yX4_advise yX4_advise, .selects RX4 yX4_apply yX4_apply, .selects RX4 yX4_branch yX4_branch, .selects RX4 yX4_clearPayload yX4_clearPayload, .selects RX4 yX4_copyBlock yX4_copyBlock, .selects RX4 yX4_count yX4_count, .selects RX4 yX4_free yX4_free, .selects RX4 yX4_freeAt yX4_freeAt]
def wA_14 : List Cond := [.selects RX4 yX4_get yX4_get, .selects RX4 yX4_give yX4_give, .selects RX4 yX4_giveAligned yX4_giveAligned, .selects RX4 yX4_giveAtMultiple yX4_giveAtMultiple, .selects RX4 yX4_grow yX4_grow, .selects RX4 yX4_largest yX4_largest, .selects RX4 yX4_leaveBlock yX4_leaveBlock, .selects RX4 yX4_move yX4_move, .selects RX4 yX4_moved yX4_moved, .selects RX4 yX4_payloadWord yX4_payloadWord, .selects RX4 yX4_pin yX4_pin, .selects RX4 yX4_set yX4_set, .selects RX4 yX4_sizeOf yX4_sizeOf, .selects RX4 yX4_trim yX4_trim, .selects RX4 yX4_window yX4_window, .selects RX5 yX5_advise yX5_advise, .selects RX5 yX5_apply yX5_apply, .selects RX5 yX5_branch yX5_branch, .selects RX5 yX5_count yX5_count, .selects RX5 yX5_depth yX5_depth, .selects RX5 yX5_find yX5_find, .selects RX5 yX5_free yX5_free, .selects RX5 yX5_freeAt yX5_freeAt, .selects RX5 yX5_gathers yX5_gathers, .selects RX5 yX5_get yX5_get, .selects RX5 yX5_give yX5_give, .selects RX5 yX5_giveAligned yX5_giveAligned, .selects RX5 yX5_gives yX5_gives, .selects RX5 yX5_goes yX5_goes, .selects RX5 yX5_groupsFor yX5_groupsFor, .selects RX5 yX5_grow yX5_grow, .selects RX5 yX5_isFree yX5_isFree]
def wA_15 : List Cond := [.selects RX5 yX5_joins yX5_joins, .selects RX5 yX5_largest yX5_largest, .selects RX5 yX5_move yX5_move, .selects RX5 yX5_moved yX5_moved, .selects RX5 yX5_pin yX5_pin, .selects RX5 yX5_places yX5_places, .selects RX5 yX5_set yX5_set, .selects RX5 yX5_sizeOf yX5_sizeOf, .selects RX5 yX5_takes yX5_takes, .selects RX5 yX5_thrown yX5_thrown, .selects RX5 yX5_top yX5_top, .selects RX5 yX5_trim yX5_trim, .selects RX5 yX5_window yX5_window, .selects RX5 yX5_windowEnd yX5_windowEnd, .static Lib.Math.max.name, .static Lib.Math.min.name, .static arraycopyName, .static yJ7_fill_fda19, .static yJ7_rangeCheck_23922, .static yL_branch, .static yL_cell, .static yL_get, .static yL_move, .static yL_set, .static yX4_nextMultiple, .static yX4_sizeFor, .static yX5_address]
def wAll : List Cond := wA_0 ++ (wA_1 ++ (wA_2 ++ (wA_3 ++ (wA_4 ++ (wA_5 ++ (wA_6 ++ (wA_7 ++ (wA_8 ++ (wA_9 ++ (wA_10 ++ (wA_11 ++ (wA_12 ++ (wA_13 ++ (wA_14 ++ (wA_15 ++ (wsX00 ++ (wsX10 ++ (wsX20 ++ (wsX30 ++ (wsX40 ++ wsX50))))))))))))))))))))
theorem inA_wA_0 : ∀ w ∈ wA_0, w ∈ wAll := fun w h => List.mem_append_left _ h
theorem inA_wA_1 : ∀ w ∈ wA_1, w ∈ wAll := fun w h => List.mem_append_right _ (List.mem_append_left _ h)
theorem inA_wA_2 : ∀ w ∈ wA_2, w ∈ wAll := fun w h => List.mem_append_right _ (List.mem_append_right _ (List.mem_append_left _ h))
theorem inA_wA_3 : ∀ w ∈ wA_3, w ∈ wAll := fun w h => List.mem_append_right _ (List.mem_append_right _ (List.mem_append_right _ (List.mem_append_left _ h)))
theorem inA_wA_4 : ∀ w ∈ wA_4, w ∈ wAll := fun w h => List.mem_append_right _ (List.mem_append_right _ (List.mem_append_right _ (List.mem_append_right _ (List.mem_append_left _ h))))
theorem inA_wA_5 : ∀ w ∈ wA_5, w ∈ wAll := fun w h => List.mem_append_right _ (List.mem_append_right _ (List.mem_append_right _ (List.mem_append_right _ (List.mem_append_right _ (List.mem_append_left _ h)))))
theorem inA_wA_6 : ∀ w ∈ wA_6, w ∈ wAll := fun w h => List.mem_append_right _ (List.mem_append_right _ (List.mem_append_right _ (List.mem_append_right _ (List.mem_append_right _ (List.mem_append_right _ (List.mem_append_left _ h))))))
theorem inA_wA_7 : ∀ w ∈ wA_7, w ∈ wAll := fun w h => List.mem_append_right _ (List.mem_append_right _ (List.mem_append_right _ (List.mem_append_right _ (List.mem_append_right _ (List.mem_append_right _ (List.mem_append_right _ (List.mem_append_left _ h)))))))
theorem inA_wA_8 : ∀ w ∈ wA_8, w ∈ wAll := fun w h => List.mem_append_right _ (List.mem_append_right _ (List.mem_append_right _ (List.mem_append_right _ (List.mem_append_right _ (List.mem_append_right _ (List.mem_append_right _ (List.mem_append_right _ (List.mem_append_left _ h))))))))
theorem inA_wA_9 : ∀ w ∈ wA_9, w ∈ wAll := fun w h => List.mem_append_right _ (List.mem_append_right _ (List.mem_append_right _ (List.mem_append_right _ (List.mem_append_right _ (List.mem_append_right _ (List.mem_append_right _ (List.mem_append_right _ (List.mem_append_right _ (List.mem_append_left _ h)))))))))
theorem inA_wA_10 : ∀ w ∈ wA_10, w ∈ wAll := fun w h => List.mem_append_right _ (List.mem_append_right _ (List.mem_append_right _ (List.mem_append_right _ (List.mem_append_right _ (List.mem_append_right _ (List.mem_append_right _ (List.mem_append_right _ (List.mem_append_right _ (List.mem_append_right _ (List.mem_append_left _ h))))))))))
theorem inA_wA_11 : ∀ w ∈ wA_11, w ∈ wAll := fun w h => List.mem_append_right _ (List.mem_append_right _ (List.mem_append_right _ (List.mem_append_right _ (List.mem_append_right _ (List.mem_append_right _ (List.mem_append_right _ (List.mem_append_right _ (List.mem_append_right _ (List.mem_append_right _ (List.mem_append_right _ (List.mem_append_left _ h)))))))))))
theorem inA_wA_12 : ∀ w ∈ wA_12, w ∈ wAll := fun w h => List.mem_append_right _ (List.mem_append_right _ (List.mem_append_right _ (List.mem_append_right _ (List.mem_append_right _ (List.mem_append_right _ (List.mem_append_right _ (List.mem_append_right _ (List.mem_append_right _ (List.mem_append_right _ (List.mem_append_right _ (List.mem_append_right _ (List.mem_append_left _ h))))))))))))
theorem inA_wA_13 : ∀ w ∈ wA_13, w ∈ wAll := fun w h => List.mem_append_right _ (List.mem_append_right _ (List.mem_append_right _ (List.mem_append_right _ (List.mem_append_right _ (List.mem_append_right _ (List.mem_append_right _ (List.mem_append_right _ (List.mem_append_right _ (List.mem_append_right _ (List.mem_append_right _ (List.mem_append_right _ (List.mem_append_right _ (List.mem_append_left _ h)))))))))))))
theorem inA_wA_14 : ∀ w ∈ wA_14, w ∈ wAll := fun w h => List.mem_append_right _ (List.mem_append_right _ (List.mem_append_right _ (List.mem_append_right _ (List.mem_append_right _ (List.mem_append_right _ (List.mem_append_right _ (List.mem_append_right _ (List.mem_append_right _ (List.mem_append_right _ (List.mem_append_right _ (List.mem_append_right _ (List.mem_append_right _ (List.mem_append_right _ (List.mem_append_left _ h))))))))))))))
theorem inA_wA_15 : ∀ w ∈ wA_15, w ∈ wAll := fun w h => List.mem_append_right _ (List.mem_append_right _ (List.mem_append_right _ (List.mem_append_right _ (List.mem_append_right _ (List.mem_append_right _ (List.mem_append_right _ (List.mem_append_right _ (List.mem_append_right _ (List.mem_append_right _ (List.mem_append_right _ (List.mem_append_right _ (List.mem_append_right _ (List.mem_append_right _ (List.mem_append_right _ (List.mem_append_left _ h)))))))))))))))
theorem inA_wsX00 : ∀ w ∈ wsX00, w ∈ wAll := fun w h => List.mem_append_right _ (List.mem_append_right _ (List.mem_append_right _ (List.mem_append_right _ (List.mem_append_right _ (List.mem_append_right _ (List.mem_append_right _ (List.mem_append_right _ (List.mem_append_right _ (List.mem_append_right _ (List.mem_append_right _ (List.mem_append_right _ (List.mem_append_right _ (List.mem_append_right _ (List.mem_append_right _ (List.mem_append_right _ (List.mem_append_left _ h))))))))))))))))
theorem inA_wsX10 : ∀ w ∈ wsX10, w ∈ wAll := fun w h => List.mem_append_right _ (List.mem_append_right _ (List.mem_append_right _ (List.mem_append_right _ (List.mem_append_right _ (List.mem_append_right _ (List.mem_append_right _ (List.mem_append_right _ (List.mem_append_right _ (List.mem_append_right _ (List.mem_append_right _ (List.mem_append_right _ (List.mem_append_right _ (List.mem_append_right _ (List.mem_append_right _ (List.mem_append_right _ (List.mem_append_right _ (List.mem_append_left _ h)))))))))))))))))
theorem inA_wsX20 : ∀ w ∈ wsX20, w ∈ wAll := fun w h => List.mem_append_right _ (List.mem_append_right _ (List.mem_append_right _ (List.mem_append_right _ (List.mem_append_right _ (List.mem_append_right _ (List.mem_append_right _ (List.mem_append_right _ (List.mem_append_right _ (List.mem_append_right _ (List.mem_append_right _ (List.mem_append_right _ (List.mem_append_right _ (List.mem_append_right _ (List.mem_append_right _ (List.mem_append_right _ (List.mem_append_right _ (List.mem_append_right _ (List.mem_append_left _ h))))))))))))))))))
theorem inA_wsX30 : ∀ w ∈ wsX30, w ∈ wAll := fun w h => List.mem_append_right _ (List.mem_append_right _ (List.mem_append_right _ (List.mem_append_right _ (List.mem_append_right _ (List.mem_append_right _ (List.mem_append_right _ (List.mem_append_right _ (List.mem_append_right _ (List.mem_append_right _ (List.mem_append_right _ (List.mem_append_right _ (List.mem_append_right _ (List.mem_append_right _ (List.mem_append_right _ (List.mem_append_right _ (List.mem_append_right _ (List.mem_append_right _ (List.mem_append_right _ (List.mem_append_left _ h)))))))))))))))))))
theorem inA_wsX40 : ∀ w ∈ wsX40, w ∈ wAll := fun w h => List.mem_append_right _ (List.mem_append_right _ (List.mem_append_right _ (List.mem_append_right _ (List.mem_append_right _ (List.mem_append_right _ (List.mem_append_right _ (List.mem_append_right _ (List.mem_append_right _ (List.mem_append_right _ (List.mem_append_right _ (List.mem_append_right _ (List.mem_append_right _ (List.mem_append_right _ (List.mem_append_right _ (List.mem_append_right _ (List.mem_append_right _ (List.mem_append_right _ (List.mem_append_right _ (List.mem_append_right _ (List.mem_append_left _ h))))))))))))))))))))
theorem inA_wsX50 : ∀ w ∈ wsX50, w ∈ wAll := fun w h => List.mem_append_right _ (List.mem_append_right _ (List.mem_append_right _ (List.mem_append_right _ (List.mem_append_right _ (List.mem_append_right _ (List.mem_append_right _ (List.mem_append_right _ (List.mem_append_right _ (List.mem_append_right _ (List.mem_append_right _ (List.mem_append_right _ (List.mem_append_right _ (List.mem_append_right _ (List.mem_append_right _ (List.mem_append_right _ (List.mem_append_right _ (List.mem_append_right _ (List.mem_append_right _ (List.mem_append_right _ (List.mem_append_right _ h))))))))))))))))))))
theorem m0 : Cond.arrayClass .boolean ∈ wAll := inA_wA_0 _ (List.mem_of_getElem? (i := 0) rfl)
theorem m1 : Cond.arrayClass .int ∈ wAll := inA_wA_0 _ (List.mem_of_getElem? (i := 1) rfl)
theorem m2 : Cond.arrayClass .long ∈ wAll := inA_wA_0 _ (List.mem_of_getElem? (i := 2) rfl)
theorem m3 : Cond.classLink RL 13 "java/util/NoSuchElementException" ∈ wAll := inA_wA_0 _ (List.mem_of_getElem? (i := 3) rfl)
theorem m4 : Cond.classLink RL 15 "java/lang/IndexOutOfBoundsException" ∈ wAll := inA_wA_0 _ (List.mem_of_getElem? (i := 4) rfl)
theorem m5 : Cond.classLink RL 24 "java/lang/IllegalArgumentException" ∈ wAll := inA_wA_0 _ (List.mem_of_getElem? (i := 5) rfl)
theorem m6 : Cond.classLink RL 38 RX5 ∈ wAll := inA_wA_0 _ (List.mem_of_getElem? (i := 6) rfl)
theorem m7 : Cond.classLink RL 8 RX4 ∈ wAll := inA_wA_0 _ (List.mem_of_getElem? (i := 7) rfl)
theorem m8 : Cond.classLink RX0 21 RX1 ∈ wAll := inA_wA_0 _ (List.mem_of_getElem? (i := 8) rfl)
theorem m9 : Cond.classLink RX4 122 "java/util/NoSuchElementException" ∈ wAll := inA_wA_0 _ (List.mem_of_getElem? (i := 9) rfl)
theorem m10 : Cond.classLink RX4 135 "java/lang/IllegalArgumentException" ∈ wAll := inA_wA_0 _ (List.mem_of_getElem? (i := 10) rfl)
theorem m11 : Cond.classLink RX4 150 "java/lang/IndexOutOfBoundsException" ∈ wAll := inA_wA_0 _ (List.mem_of_getElem? (i := 11) rfl)
theorem m12 : Cond.classLink RX4 22 RX2 ∈ wAll := inA_wA_0 _ (List.mem_of_getElem? (i := 12) rfl)
theorem m13 : Cond.classLink RX4 31 RX3 ∈ wAll := inA_wA_0 _ (List.mem_of_getElem? (i := 13) rfl)
theorem m14 : Cond.classLink RX4 40 RX0 ∈ wAll := inA_wA_0 _ (List.mem_of_getElem? (i := 14) rfl)
theorem m15 : Cond.classLink RX4 47 RX1 ∈ wAll := inA_wA_0 _ (List.mem_of_getElem? (i := 15) rfl)
theorem m16 : Cond.code Lib.Math.max.name Lib.Math.max.code 2 (some .int) ∈ wAll := inA_wA_0 _ (List.mem_of_getElem? (i := 16) rfl)
theorem m17 : Cond.code Lib.Math.min.name Lib.Math.min.code 2 (some .int) ∈ wAll := inA_wA_0 _ (List.mem_of_getElem? (i := 17) rfl)
theorem m18 : Cond.code objectInit ⟨#[0xb1]⟩ 1 none ∈ wAll := inA_wA_0 _ (List.mem_of_getElem? (i := 18) rfl)
theorem m19 : Cond.code yJ7_fill_fda19 cJ7_fill_fda19 5 none ∈ wAll := inA_wA_0 _ (List.mem_of_getElem? (i := 19) rfl)
theorem m20 : Cond.code yJ7_rangeCheck_23922 cJ7_rangeCheck_23922 3 none ∈ wAll := inA_wA_0 _ (List.mem_of_getElem? (i := 20) rfl)
theorem m21 : Cond.code yL_cell cL_cell 2 (some .int) ∈ wAll := inA_wA_0 _ (List.mem_of_getElem? (i := 21) rfl)
theorem m22 : Cond.code yX0_drop cX0_drop 1 none ∈ wAll := inA_wA_0 _ (List.mem_of_getElem? (i := 22) rfl)
theorem m23 : Cond.code yX0_init cX0_init 4 none ∈ wAll := inA_wA_0 _ (List.mem_of_getElem? (i := 23) rfl)
theorem m24 : Cond.code yX0_lowestPlace cX0_lowestPlace 4 (some .int) ∈ wAll := inA_wA_0 _ (List.mem_of_getElem? (i := 24) rfl)
theorem m25 : Cond.code yX0_placeVictims cX0_placeVictims 7 (some .boolean) ∈ wAll := inA_wA_0 _ (List.mem_of_getElem? (i := 25) rfl)
theorem m26 : Cond.code yX0_rankMovables cX0_rankMovables 3 none ∈ wAll := inA_wA_0 _ (List.mem_of_getElem? (i := 26) rfl)
theorem m27 : Cond.code yX0_search cX0_search 9 none ∈ wAll := inA_wA_0 _ (List.mem_of_getElem? (i := 27) rfl)
theorem m28 : Cond.code yX1_init cX1_init 2 none ∈ wAll := inA_wA_0 _ (List.mem_of_getElem? (i := 28) rfl)
theorem m29 : Cond.code yX1_placeOf cX1_placeOf 3 (some .int) ∈ wAll := inA_wA_0 _ (List.mem_of_getElem? (i := 29) rfl)
theorem m30 : Cond.code yX1_put cX1_put 3 none ∈ wAll := inA_wA_0 _ (List.mem_of_getElem? (i := 30) rfl)
theorem m31 : Cond.code yX1_takeOver cX1_takeOver 3 none ∈ wAll := inA_wA_0 _ (List.mem_of_getElem? (i := 31) rfl)
theorem m32 : Cond.code yX2_carve cX2_carve 6 none ∈ wAll := inA_wA_1 _ (List.mem_of_getElem? (i := 0) rfl)
theorem m33 : Cond.code yX2_end cX2_end 2 (some .int) ∈ wAll := inA_wA_1 _ (List.mem_of_getElem? (i := 1) rfl)
theorem m34 : Cond.code yX2_extend cX2_extend 3 none ∈ wAll := inA_wA_1 _ (List.mem_of_getElem? (i := 2) rfl)
theorem m35 : Cond.code yX2_freeAddress cX2_freeAddress 4 (some .int) ∈ wAll := inA_wA_1 _ (List.mem_of_getElem? (i := 3) rfl)
theorem m36 : Cond.code yX2_freeBehind cX2_freeBehind 2 (some .int) ∈ wAll := inA_wA_1 _ (List.mem_of_getElem? (i := 4) rfl)
theorem m37 : Cond.code yX2_freeBlocks cX2_freeBlocks 3 (some .int) ∈ wAll := inA_wA_1 _ (List.mem_of_getElem? (i := 5) rfl)
theorem m38 : Cond.code yX2_freeIndex cX2_freeIndex 3 (some .int) ∈ wAll := inA_wA_1 _ (List.mem_of_getElem? (i := 6) rfl)
theorem m39 : Cond.code yX2_freeWords cX2_freeWords 3 (some .int) ∈ wAll := inA_wA_1 _ (List.mem_of_getElem? (i := 7) rfl)
theorem m40 : Cond.code yX2_indexOf cX2_indexOf 3 (some .int) ∈ wAll := inA_wA_1 _ (List.mem_of_getElem? (i := 8) rfl)
theorem m41 : Cond.code yX2_init cX2_init 2 none ∈ wAll := inA_wA_1 _ (List.mem_of_getElem? (i := 9) rfl)
theorem m42 : Cond.code yX2_isFree cX2_isFree 2 (some .boolean) ∈ wAll := inA_wA_1 _ (List.mem_of_getElem? (i := 10) rfl)
theorem m43 : Cond.code yX2_join cX2_join 2 none ∈ wAll := inA_wA_1 _ (List.mem_of_getElem? (i := 11) rfl)
theorem m44 : Cond.code yX2_largestFree cX2_largestFree 3 (some .int) ∈ wAll := inA_wA_1 _ (List.mem_of_getElem? (i := 12) rfl)
theorem m45 : Cond.code yX2_liveBlocks cX2_liveBlocks 1 (some .int) ∈ wAll := inA_wA_1 _ (List.mem_of_getElem? (i := 13) rfl)
theorem m46 : Cond.code yX2_liveIndex cX2_liveIndex 3 (some .int) ∈ wAll := inA_wA_1 _ (List.mem_of_getElem? (i := 14) rfl)
theorem m47 : Cond.code yX2_release cX2_release 2 none ∈ wAll := inA_wA_1 _ (List.mem_of_getElem? (i := 15) rfl)
theorem m48 : Cond.code yX2_shift cX2_shift 4 none ∈ wAll := inA_wA_1 _ (List.mem_of_getElem? (i := 16) rfl)
theorem m49 : Cond.code yX2_shorten cX2_shorten 3 none ∈ wAll := inA_wA_1 _ (List.mem_of_getElem? (i := 17) rfl)
theorem m50 : Cond.code yX2_split cX2_split 4 none ∈ wAll := inA_wA_1 _ (List.mem_of_getElem? (i := 18) rfl)
theorem m51 : Cond.code yX3_depth cX3_depth 4 (some .int) ∈ wAll := inA_wA_1 _ (List.mem_of_getElem? (i := 19) rfl)
theorem m52 : Cond.code yX3_depthOfSpine cX3_depthOfSpine 5 (some .int) ∈ wAll := inA_wA_1 _ (List.mem_of_getElem? (i := 20) rfl)
theorem m53 : Cond.code yX3_init cX3_init 3 none ∈ wAll := inA_wA_1 _ (List.mem_of_getElem? (i := 21) rfl)
theorem m54 : Cond.code yX3_topToTheLeft cX3_topToTheLeft 5 (some .int) ∈ wAll := inA_wA_1 _ (List.mem_of_getElem? (i := 22) rfl)
theorem m55 : Cond.code yX3_topToTheRight cX3_topToTheRight 5 (some .int) ∈ wAll := inA_wA_1 _ (List.mem_of_getElem? (i := 23) rfl)
theorem m56 : Cond.code yX4_advise cX4_advise 2 (some .int) ∈ wAll := inA_wA_1 _ (List.mem_of_getElem? (i := 24) rfl)
theorem m57 : Cond.code yX4_apply cX4_apply 2 (some .int) ∈ wAll := inA_wA_1 _ (List.mem_of_getElem? (i := 25) rfl)
theorem m58 : Cond.code yX4_branch cX4_branch 4 (some .int) ∈ wAll := inA_wA_1 _ (List.mem_of_getElem? (i := 26) rfl)
theorem m59 : Cond.code yX4_clearPayload cX4_clearPayload 4 none ∈ wAll := inA_wA_1 _ (List.mem_of_getElem? (i := 27) rfl)
theorem m60 : Cond.code yX4_copyBlock cX4_copyBlock 6 none ∈ wAll := inA_wA_1 _ (List.mem_of_getElem? (i := 28) rfl)
theorem m61 : Cond.code yX4_count cX4_count 2 (some .int) ∈ wAll := inA_wA_1 _ (List.mem_of_getElem? (i := 29) rfl)
theorem m62 : Cond.code yX4_free cX4_free 3 (some .boolean) ∈ wAll := inA_wA_1 _ (List.mem_of_getElem? (i := 30) rfl)
theorem m63 : Cond.code yX4_freeAt cX4_freeAt 2 (some .int) ∈ wAll := inA_wA_1 _ (List.mem_of_getElem? (i := 31) rfl)
theorem m64 : Cond.code yX4_get cX4_get 3 (some .int) ∈ wAll := inA_wA_2 _ (List.mem_of_getElem? (i := 0) rfl)
theorem m65 : Cond.code yX4_give cX4_give 2 (some .int) ∈ wAll := inA_wA_2 _ (List.mem_of_getElem? (i := 1) rfl)
theorem m66 : Cond.code yX4_giveAligned cX4_giveAligned 4 (some .int) ∈ wAll := inA_wA_2 _ (List.mem_of_getElem? (i := 2) rfl)
theorem m67 : Cond.code yX4_giveAtMultiple cX4_giveAtMultiple 6 (some .int) ∈ wAll := inA_wA_2 _ (List.mem_of_getElem? (i := 3) rfl)
theorem m68 : Cond.code yX4_grow cX4_grow 6 (some .boolean) ∈ wAll := inA_wA_2 _ (List.mem_of_getElem? (i := 4) rfl)
theorem m69 : Cond.code yX4_init cX4_init 4 none ∈ wAll := inA_wA_2 _ (List.mem_of_getElem? (i := 5) rfl)
theorem m70 : Cond.code yX4_largest cX4_largest 1 (some .int) ∈ wAll := inA_wA_2 _ (List.mem_of_getElem? (i := 6) rfl)
theorem m71 : Cond.code yX4_leaveBlock cX4_leaveBlock 3 none ∈ wAll := inA_wA_2 _ (List.mem_of_getElem? (i := 7) rfl)
theorem m72 : Cond.code yX4_move cX4_move 4 (some .int) ∈ wAll := inA_wA_2 _ (List.mem_of_getElem? (i := 8) rfl)
theorem m73 : Cond.code yX4_moved cX4_moved 2 (some .int) ∈ wAll := inA_wA_2 _ (List.mem_of_getElem? (i := 9) rfl)
theorem m74 : Cond.code yX4_nextMultiple cX4_nextMultiple 2 (some .int) ∈ wAll := inA_wA_2 _ (List.mem_of_getElem? (i := 10) rfl)
theorem m75 : Cond.code yX4_payloadWord cX4_payloadWord 4 (some .int) ∈ wAll := inA_wA_2 _ (List.mem_of_getElem? (i := 11) rfl)
theorem m76 : Cond.code yX4_pin cX4_pin 4 (some .boolean) ∈ wAll := inA_wA_2 _ (List.mem_of_getElem? (i := 12) rfl)
theorem m77 : Cond.code yX4_set cX4_set 6 (some .int) ∈ wAll := inA_wA_2 _ (List.mem_of_getElem? (i := 13) rfl)
theorem m78 : Cond.code yX4_sizeFor cX4_sizeFor 1 (some .int) ∈ wAll := inA_wA_2 _ (List.mem_of_getElem? (i := 14) rfl)
theorem m79 : Cond.code yX4_sizeOf cX4_sizeOf 3 (some .int) ∈ wAll := inA_wA_2 _ (List.mem_of_getElem? (i := 15) rfl)
theorem m80 : Cond.code yX4_trim cX4_trim 5 (some .boolean) ∈ wAll := inA_wA_2 _ (List.mem_of_getElem? (i := 16) rfl)
theorem m81 : Cond.code yX4_window cX4_window 1 (some .int) ∈ wAll := inA_wA_2 _ (List.mem_of_getElem? (i := 17) rfl)
theorem m82 : Cond.code yX5_address cX5_address 1 (some .int) ∈ wAll := inA_wA_2 _ (List.mem_of_getElem? (i := 18) rfl)
theorem m83 : Cond.code yX5_advise cX5_advise 5 (some .int) ∈ wAll := inA_wA_2 _ (List.mem_of_getElem? (i := 19) rfl)
theorem m84 : Cond.code yX5_apply cX5_apply 2 (some .int) ∈ wAll := inA_wA_2 _ (List.mem_of_getElem? (i := 20) rfl)
theorem m85 : Cond.code yX5_branch cX5_branch 9 (some .int) ∈ wAll := inA_wA_2 _ (List.mem_of_getElem? (i := 21) rfl)
theorem m86 : Cond.code yX5_count cX5_count 8 (some .int) ∈ wAll := inA_wA_2 _ (List.mem_of_getElem? (i := 22) rfl)
theorem m87 : Cond.code yX5_depth cX5_depth 4 (some .int) ∈ wAll := inA_wA_2 _ (List.mem_of_getElem? (i := 23) rfl)
theorem m88 : Cond.code yX5_find cX5_find 3 (some .int) ∈ wAll := inA_wA_2 _ (List.mem_of_getElem? (i := 24) rfl)
theorem m89 : Cond.code yX5_free cX5_free 3 (some .boolean) ∈ wAll := inA_wA_2 _ (List.mem_of_getElem? (i := 25) rfl)
theorem m90 : Cond.code yX5_freeAt cX5_freeAt 4 (some .int) ∈ wAll := inA_wA_2 _ (List.mem_of_getElem? (i := 26) rfl)
theorem m91 : Cond.code yX5_gathers cX5_gathers 5 none ∈ wAll := inA_wA_2 _ (List.mem_of_getElem? (i := 27) rfl)
theorem m92 : Cond.code yX5_get cX5_get 4 (some .int) ∈ wAll := inA_wA_2 _ (List.mem_of_getElem? (i := 28) rfl)
theorem m93 : Cond.code yX5_give cX5_give 2 (some .int) ∈ wAll := inA_wA_2 _ (List.mem_of_getElem? (i := 29) rfl)
theorem m94 : Cond.code yX5_giveAligned cX5_giveAligned 4 (some .int) ∈ wAll := inA_wA_2 _ (List.mem_of_getElem? (i := 30) rfl)
theorem m95 : Cond.code yX5_gives cX5_gives 6 (some .int) ∈ wAll := inA_wA_2 _ (List.mem_of_getElem? (i := 31) rfl)
theorem m96 : Cond.code yX5_goes cX5_goes 6 none ∈ wAll := inA_wA_3 _ (List.mem_of_getElem? (i := 0) rfl)
theorem m97 : Cond.code yX5_groupsFor cX5_groupsFor 2 (some .int) ∈ wAll := inA_wA_3 _ (List.mem_of_getElem? (i := 1) rfl)
theorem m98 : Cond.code yX5_grow cX5_grow 8 (some .boolean) ∈ wAll := inA_wA_3 _ (List.mem_of_getElem? (i := 2) rfl)
theorem m99 : Cond.code yX5_init cX5_init 3 none ∈ wAll := inA_wA_3 _ (List.mem_of_getElem? (i := 3) rfl)
theorem m100 : Cond.code yX5_isFree cX5_isFree 2 (some .boolean) ∈ wAll := inA_wA_3 _ (List.mem_of_getElem? (i := 4) rfl)
theorem m101 : Cond.code yX5_joins cX5_joins 3 none ∈ wAll := inA_wA_3 _ (List.mem_of_getElem? (i := 5) rfl)
theorem m102 : Cond.code yX5_largest cX5_largest 2 (some .int) ∈ wAll := inA_wA_3 _ (List.mem_of_getElem? (i := 6) rfl)
theorem m103 : Cond.code yX5_move cX5_move 3 (some .int) ∈ wAll := inA_wA_3 _ (List.mem_of_getElem? (i := 7) rfl)
theorem m104 : Cond.code yX5_moved cX5_moved 3 (some .int) ∈ wAll := inA_wA_3 _ (List.mem_of_getElem? (i := 8) rfl)
theorem m105 : Cond.code yX5_pin cX5_pin 4 (some .boolean) ∈ wAll := inA_wA_3 _ (List.mem_of_getElem? (i := 9) rfl)
theorem m106 : Cond.code yX5_places cX5_places 6 (some .boolean) ∈ wAll := inA_wA_3 _ (List.mem_of_getElem? (i := 10) rfl)
theorem m107 : Cond.code yX5_set cX5_set 5 (some .int) ∈ wAll := inA_wA_3 _ (List.mem_of_getElem? (i := 11) rfl)
theorem m108 : Cond.code yX5_sizeOf cX5_sizeOf 3 (some .int) ∈ wAll := inA_wA_3 _ (List.mem_of_getElem? (i := 12) rfl)
theorem m109 : Cond.code yX5_takes cX5_takes 7 none ∈ wAll := inA_wA_3 _ (List.mem_of_getElem? (i := 13) rfl)
theorem m110 : Cond.code yX5_thrown cX5_thrown 1 (some .int) ∈ wAll := inA_wA_3 _ (List.mem_of_getElem? (i := 14) rfl)
theorem m111 : Cond.code yX5_top cX5_top 5 (some .int) ∈ wAll := inA_wA_3 _ (List.mem_of_getElem? (i := 15) rfl)
theorem m112 : Cond.code yX5_trim cX5_trim 5 (some .boolean) ∈ wAll := inA_wA_3 _ (List.mem_of_getElem? (i := 16) rfl)
theorem m113 : Cond.code yX5_window cX5_window 1 (some .int) ∈ wAll := inA_wA_3 _ (List.mem_of_getElem? (i := 17) rfl)
theorem m114 : Cond.code yX5_windowEnd cX5_windowEnd 4 (some .int) ∈ wAll := inA_wA_3 _ (List.mem_of_getElem? (i := 18) rfl)
theorem m115 : Cond.constantLong RX5 92 (4) ∈ wAll := inA_wA_3 _ (List.mem_of_getElem? (i := 19) rfl)
theorem m116 : Cond.fieldLink RX0 15 "RunHeap$Adviser" "row" "LRunHeap$Row;" ∈ wAll := inA_wA_3 _ (List.mem_of_getElem? (i := 20) rfl)
theorem m117 : Cond.fieldLink RX0 26 "RunHeap$Adviser" "best" "LRunHeap$Moves;" ∈ wAll := inA_wA_3 _ (List.mem_of_getElem? (i := 21) rfl)
theorem m118 : Cond.fieldLink RX0 30 "RunHeap$Adviser" "trial" "LRunHeap$Moves;" ∈ wAll := inA_wA_3 _ (List.mem_of_getElem? (i := 22) rfl)
theorem m119 : Cond.fieldLink RX0 33 "RunHeap$Adviser" "movable" "[I" ∈ wAll := inA_wA_3 _ (List.mem_of_getElem? (i := 23) rfl)
theorem m120 : Cond.fieldLink RX0 37 "RunHeap$Adviser" "left" "[I" ∈ wAll := inA_wA_3 _ (List.mem_of_getElem? (i := 24) rfl)
theorem m121 : Cond.fieldLink RX0 40 "RunHeap$Adviser" "given" "Z" ∈ wAll := inA_wA_3 _ (List.mem_of_getElem? (i := 25) rfl)
theorem m122 : Cond.fieldLink RX0 44 "RunHeap$Moves" "made" "I" ∈ wAll := inA_wA_3 _ (List.mem_of_getElem? (i := 26) rfl)
theorem m123 : Cond.fieldLink RX0 57 "RunHeap$Row" "blocks" "I" ∈ wAll := inA_wA_3 _ (List.mem_of_getElem? (i := 27) rfl)
theorem m124 : Cond.fieldLink RX0 63 "RunHeap$Row" "kind" "[I" ∈ wAll := inA_wA_3 _ (List.mem_of_getElem? (i := 28) rfl)
theorem m125 : Cond.fieldLink RX0 66 "RunHeap$Row" "size" "[I" ∈ wAll := inA_wA_3 _ (List.mem_of_getElem? (i := 29) rfl)
theorem m126 : Cond.fieldLink RX0 73 "RunHeap$Row" "address" "[I" ∈ wAll := inA_wA_3 _ (List.mem_of_getElem? (i := 30) rfl)
theorem m127 : Cond.fieldLink RX0 76 "RunHeap$Adviser" "lowest" "I" ∈ wAll := inA_wA_3 _ (List.mem_of_getElem? (i := 31) rfl)
theorem m128 : Cond.fieldLink RX0 83 "RunHeap$Adviser" "movables" "I" ∈ wAll := inA_wA_4 _ (List.mem_of_getElem? (i := 0) rfl)
theorem m129 : Cond.fieldLink RX1 15 "RunHeap$Moves" "to" "[I" ∈ wAll := inA_wA_4 _ (List.mem_of_getElem? (i := 1) rfl)
theorem m130 : Cond.fieldLink RX1 18 "RunHeap$Moves" "made" "I" ∈ wAll := inA_wA_4 _ (List.mem_of_getElem? (i := 2) rfl)
theorem m131 : Cond.fieldLink RX1 9 "RunHeap$Moves" "from" "[I" ∈ wAll := inA_wA_4 _ (List.mem_of_getElem? (i := 3) rfl)
theorem m132 : Cond.fieldLink RX2 15 "RunHeap$Row" "size" "[I" ∈ wAll := inA_wA_4 _ (List.mem_of_getElem? (i := 4) rfl)
theorem m133 : Cond.fieldLink RX2 18 "RunHeap$Row" "kind" "[I" ∈ wAll := inA_wA_4 _ (List.mem_of_getElem? (i := 5) rfl)
theorem m134 : Cond.fieldLink RX2 21 "RunHeap$Row" "blocks" "I" ∈ wAll := inA_wA_4 _ (List.mem_of_getElem? (i := 6) rfl)
theorem m135 : Cond.fieldLink RX2 9 "RunHeap$Row" "address" "[I" ∈ wAll := inA_wA_4 _ (List.mem_of_getElem? (i := 7) rfl)
theorem m136 : Cond.fieldLink RX3 15 "RunHeap$Tree" "spineSize" "[I" ∈ wAll := inA_wA_4 _ (List.mem_of_getElem? (i := 8) rfl)
theorem m137 : Cond.fieldLink RX3 19 "RunHeap$Tree" "spineDepth" "[I" ∈ wAll := inA_wA_4 _ (List.mem_of_getElem? (i := 9) rfl)
theorem m138 : Cond.fieldLink RX3 22 "RunHeap$Row" "blocks" "I" ∈ wAll := inA_wA_4 _ (List.mem_of_getElem? (i := 10) rfl)
theorem m139 : Cond.fieldLink RX3 28 "RunHeap$Row" "kind" "[I" ∈ wAll := inA_wA_4 _ (List.mem_of_getElem? (i := 11) rfl)
theorem m140 : Cond.fieldLink RX3 31 "RunHeap$Row" "size" "[I" ∈ wAll := inA_wA_4 _ (List.mem_of_getElem? (i := 12) rfl)
theorem m141 : Cond.fieldLink RX3 43 "RunHeap$Row" "address" "[I" ∈ wAll := inA_wA_4 _ (List.mem_of_getElem? (i := 13) rfl)
theorem m142 : Cond.fieldLink RX3 9 "RunHeap$Tree" "row" "LRunHeap$Row;" ∈ wAll := inA_wA_4 _ (List.mem_of_getElem? (i := 14) rfl)
theorem m143 : Cond.fieldLink RX4 106 "RunHeap$Adviser" "best" "LRunHeap$Moves;" ∈ wAll := inA_wA_4 _ (List.mem_of_getElem? (i := 15) rfl)
theorem m144 : Cond.fieldLink RX4 109 "RunHeap$Moves" "made" "I" ∈ wAll := inA_wA_4 _ (List.mem_of_getElem? (i := 16) rfl)
theorem m145 : Cond.fieldLink RX4 143 "RunHeap$Adviser" "given" "Z" ∈ wAll := inA_wA_4 _ (List.mem_of_getElem? (i := 17) rfl)
theorem m146 : Cond.fieldLink RX4 147 "RunHeap$Adviser" "lowest" "I" ∈ wAll := inA_wA_4 _ (List.mem_of_getElem? (i := 18) rfl)
theorem m147 : Cond.fieldLink RX4 157 "RunHeap$Moves" "from" "[I" ∈ wAll := inA_wA_4 _ (List.mem_of_getElem? (i := 19) rfl)
theorem m148 : Cond.fieldLink RX4 160 "RunHeap$Moves" "to" "[I" ∈ wAll := inA_wA_4 _ (List.mem_of_getElem? (i := 20) rfl)
theorem m149 : Cond.fieldLink RX4 176 "RunHeap$Row" "blocks" "I" ∈ wAll := inA_wA_4 _ (List.mem_of_getElem? (i := 21) rfl)
theorem m150 : Cond.fieldLink RX4 179 "RunHeap$Row" "address" "[I" ∈ wAll := inA_wA_4 _ (List.mem_of_getElem? (i := 22) rfl)
theorem m151 : Cond.fieldLink RX4 18 "RunHeap" "memory" "[I" ∈ wAll := inA_wA_4 _ (List.mem_of_getElem? (i := 23) rfl)
theorem m152 : Cond.fieldLink RX4 27 "RunHeap" "row" "LRunHeap$Row;" ∈ wAll := inA_wA_4 _ (List.mem_of_getElem? (i := 24) rfl)
theorem m153 : Cond.fieldLink RX4 36 "RunHeap" "tree" "LRunHeap$Tree;" ∈ wAll := inA_wA_4 _ (List.mem_of_getElem? (i := 25) rfl)
theorem m154 : Cond.fieldLink RX4 43 "RunHeap" "adviser" "LRunHeap$Adviser;" ∈ wAll := inA_wA_4 _ (List.mem_of_getElem? (i := 26) rfl)
theorem m155 : Cond.fieldLink RX4 50 "RunHeap" "applied" "LRunHeap$Moves;" ∈ wAll := inA_wA_4 _ (List.mem_of_getElem? (i := 27) rfl)
theorem m156 : Cond.fieldLink RX4 67 "RunHeap$Row" "size" "[I" ∈ wAll := inA_wA_4 _ (List.mem_of_getElem? (i := 28) rfl)
theorem m157 : Cond.fieldLink RX4 87 "RunHeap$Row" "kind" "[I" ∈ wAll := inA_wA_4 _ (List.mem_of_getElem? (i := 29) rfl)
theorem m158 : Cond.fieldLink RX5 111 "RunHeapModel" "windowAt" "I" ∈ wAll := inA_wA_4 _ (List.mem_of_getElem? (i := 30) rfl)
theorem m159 : Cond.fieldLink RX5 114 "RunHeapModel" "done" "I" ∈ wAll := inA_wA_4 _ (List.mem_of_getElem? (i := 31) rfl)
theorem m160 : Cond.fieldLink RX5 13 "RunHeapModel" "live" "[Z" ∈ wAll := inA_wA_5 _ (List.mem_of_getElem? (i := 0) rfl)
theorem m161 : Cond.fieldLink RX5 17 "RunHeapModel" "pinned" "[Z" ∈ wAll := inA_wA_5 _ (List.mem_of_getElem? (i := 1) rfl)
theorem m162 : Cond.fieldLink RX5 20 "RunHeapModel" "words" "[I" ∈ wAll := inA_wA_5 _ (List.mem_of_getElem? (i := 2) rfl)
theorem m163 : Cond.fieldLink RX5 23 "RunHeapModel" "movesFrom" "[I" ∈ wAll := inA_wA_5 _ (List.mem_of_getElem? (i := 3) rfl)
theorem m164 : Cond.fieldLink RX5 26 "RunHeapModel" "movesTo" "[I" ∈ wAll := inA_wA_5 _ (List.mem_of_getElem? (i := 4) rfl)
theorem m165 : Cond.fieldLink RX5 29 "RunHeapModel" "doneFrom" "[I" ∈ wAll := inA_wA_5 _ (List.mem_of_getElem? (i := 5) rfl)
theorem m166 : Cond.fieldLink RX5 32 "RunHeapModel" "doneTo" "[I" ∈ wAll := inA_wA_5 _ (List.mem_of_getElem? (i := 6) rfl)
theorem m167 : Cond.fieldLink RX5 35 "RunHeapModel" "victim" "[I" ∈ wAll := inA_wA_5 _ (List.mem_of_getElem? (i := 7) rfl)
theorem m168 : Cond.fieldLink RX5 38 "RunHeapModel" "placed" "[I" ∈ wAll := inA_wA_5 _ (List.mem_of_getElem? (i := 8) rfl)
theorem m169 : Cond.fieldLink RX5 41 "RunHeapModel" "left" "[I" ∈ wAll := inA_wA_5 _ (List.mem_of_getElem? (i := 9) rfl)
theorem m170 : Cond.fieldLink RX5 44 "RunHeapModel" "groups" "I" ∈ wAll := inA_wA_5 _ (List.mem_of_getElem? (i := 10) rfl)
theorem m171 : Cond.fieldLink RX5 48 "RunHeapModel" "thrown" "I" ∈ wAll := inA_wA_5 _ (List.mem_of_getElem? (i := 11) rfl)
theorem m172 : Cond.fieldLink RX5 7 "RunHeapModel" "size" "[I" ∈ wAll := inA_wA_5 _ (List.mem_of_getElem? (i := 12) rfl)
theorem m173 : Cond.fieldLink RX5 70 "RunHeapModel" "advised" "Z" ∈ wAll := inA_wA_5 _ (List.mem_of_getElem? (i := 13) rfl)
theorem m174 : Cond.fieldLink RX5 89 "RunHeapModel" "moves" "I" ∈ wAll := inA_wA_5 _ (List.mem_of_getElem? (i := 14) rfl)
theorem m175 : Cond.fieldLink RX5 94 "RunHeapModel" "victims" "I" ∈ wAll := inA_wA_5 _ (List.mem_of_getElem? (i := 15) rfl)
theorem m176 : Cond.initialized "java/lang/IllegalArgumentException" ∈ wAll := inA_wA_5 _ (List.mem_of_getElem? (i := 16) rfl)
theorem m177 : Cond.initialized "java/lang/IndexOutOfBoundsException" ∈ wAll := inA_wA_5 _ (List.mem_of_getElem? (i := 17) rfl)
theorem m178 : Cond.initialized "java/lang/Math" ∈ wAll := inA_wA_5 _ (List.mem_of_getElem? (i := 18) rfl)
theorem m179 : Cond.initialized "java/lang/System" ∈ wAll := inA_wA_5 _ (List.mem_of_getElem? (i := 19) rfl)
theorem m180 : Cond.initialized "java/util/NoSuchElementException" ∈ wAll := inA_wA_5 _ (List.mem_of_getElem? (i := 20) rfl)
theorem m181 : Cond.initialized RJ7 ∈ wAll := inA_wA_5 _ (List.mem_of_getElem? (i := 21) rfl)
theorem m182 : Cond.initialized RL ∈ wAll := inA_wA_5 _ (List.mem_of_getElem? (i := 22) rfl)
theorem m183 : Cond.initialized RX0 ∈ wAll := inA_wA_5 _ (List.mem_of_getElem? (i := 23) rfl)
theorem m184 : Cond.initialized RX1 ∈ wAll := inA_wA_5 _ (List.mem_of_getElem? (i := 24) rfl)
theorem m185 : Cond.initialized RX2 ∈ wAll := inA_wA_5 _ (List.mem_of_getElem? (i := 25) rfl)
theorem m186 : Cond.initialized RX3 ∈ wAll := inA_wA_5 _ (List.mem_of_getElem? (i := 26) rfl)
theorem m187 : Cond.initialized RX4 ∈ wAll := inA_wA_5 _ (List.mem_of_getElem? (i := 27) rfl)
theorem m188 : Cond.initialized RX5 ∈ wAll := inA_wA_5 _ (List.mem_of_getElem? (i := 28) rfl)
theorem m189 : Cond.instanceMethod objectInit ∈ wAll := inA_wA_5 _ (List.mem_of_getElem? (i := 29) rfl)
theorem m190 : Cond.instanceMethod yX0_drop ∈ wAll := inA_wA_5 _ (List.mem_of_getElem? (i := 30) rfl)
theorem m191 : Cond.instanceMethod yX0_init ∈ wAll := inA_wA_5 _ (List.mem_of_getElem? (i := 31) rfl)
theorem m192 : Cond.instanceMethod yX0_lowestPlace ∈ wAll := inA_wA_6 _ (List.mem_of_getElem? (i := 0) rfl)
theorem m193 : Cond.instanceMethod yX0_placeVictims ∈ wAll := inA_wA_6 _ (List.mem_of_getElem? (i := 1) rfl)
theorem m194 : Cond.instanceMethod yX0_rankMovables ∈ wAll := inA_wA_6 _ (List.mem_of_getElem? (i := 2) rfl)
theorem m195 : Cond.instanceMethod yX0_search ∈ wAll := inA_wA_6 _ (List.mem_of_getElem? (i := 3) rfl)
theorem m196 : Cond.instanceMethod yX1_init ∈ wAll := inA_wA_6 _ (List.mem_of_getElem? (i := 4) rfl)
theorem m197 : Cond.instanceMethod yX1_placeOf ∈ wAll := inA_wA_6 _ (List.mem_of_getElem? (i := 5) rfl)
theorem m198 : Cond.instanceMethod yX1_put ∈ wAll := inA_wA_6 _ (List.mem_of_getElem? (i := 6) rfl)
theorem m199 : Cond.instanceMethod yX1_takeOver ∈ wAll := inA_wA_6 _ (List.mem_of_getElem? (i := 7) rfl)
theorem m200 : Cond.instanceMethod yX2_carve ∈ wAll := inA_wA_6 _ (List.mem_of_getElem? (i := 8) rfl)
theorem m201 : Cond.instanceMethod yX2_end ∈ wAll := inA_wA_6 _ (List.mem_of_getElem? (i := 9) rfl)
theorem m202 : Cond.instanceMethod yX2_extend ∈ wAll := inA_wA_6 _ (List.mem_of_getElem? (i := 10) rfl)
theorem m203 : Cond.instanceMethod yX2_freeAddress ∈ wAll := inA_wA_6 _ (List.mem_of_getElem? (i := 11) rfl)
theorem m204 : Cond.instanceMethod yX2_freeBehind ∈ wAll := inA_wA_6 _ (List.mem_of_getElem? (i := 12) rfl)
theorem m205 : Cond.instanceMethod yX2_freeBlocks ∈ wAll := inA_wA_6 _ (List.mem_of_getElem? (i := 13) rfl)
theorem m206 : Cond.instanceMethod yX2_freeIndex ∈ wAll := inA_wA_6 _ (List.mem_of_getElem? (i := 14) rfl)
theorem m207 : Cond.instanceMethod yX2_freeWords ∈ wAll := inA_wA_6 _ (List.mem_of_getElem? (i := 15) rfl)
theorem m208 : Cond.instanceMethod yX2_indexOf ∈ wAll := inA_wA_6 _ (List.mem_of_getElem? (i := 16) rfl)
theorem m209 : Cond.instanceMethod yX2_init ∈ wAll := inA_wA_6 _ (List.mem_of_getElem? (i := 17) rfl)
theorem m210 : Cond.instanceMethod yX2_isFree ∈ wAll := inA_wA_6 _ (List.mem_of_getElem? (i := 18) rfl)
theorem m211 : Cond.instanceMethod yX2_join ∈ wAll := inA_wA_6 _ (List.mem_of_getElem? (i := 19) rfl)
theorem m212 : Cond.instanceMethod yX2_largestFree ∈ wAll := inA_wA_6 _ (List.mem_of_getElem? (i := 20) rfl)
theorem m213 : Cond.instanceMethod yX2_liveBlocks ∈ wAll := inA_wA_6 _ (List.mem_of_getElem? (i := 21) rfl)
theorem m214 : Cond.instanceMethod yX2_liveIndex ∈ wAll := inA_wA_6 _ (List.mem_of_getElem? (i := 22) rfl)
theorem m215 : Cond.instanceMethod yX2_release ∈ wAll := inA_wA_6 _ (List.mem_of_getElem? (i := 23) rfl)
theorem m216 : Cond.instanceMethod yX2_shift ∈ wAll := inA_wA_6 _ (List.mem_of_getElem? (i := 24) rfl)
theorem m217 : Cond.instanceMethod yX2_shorten ∈ wAll := inA_wA_6 _ (List.mem_of_getElem? (i := 25) rfl)
theorem m218 : Cond.instanceMethod yX2_split ∈ wAll := inA_wA_6 _ (List.mem_of_getElem? (i := 26) rfl)
theorem m219 : Cond.instanceMethod yX3_depth ∈ wAll := inA_wA_6 _ (List.mem_of_getElem? (i := 27) rfl)
theorem m220 : Cond.instanceMethod yX3_depthOfSpine ∈ wAll := inA_wA_6 _ (List.mem_of_getElem? (i := 28) rfl)
theorem m221 : Cond.instanceMethod yX3_init ∈ wAll := inA_wA_6 _ (List.mem_of_getElem? (i := 29) rfl)
theorem m222 : Cond.instanceMethod yX3_topToTheLeft ∈ wAll := inA_wA_6 _ (List.mem_of_getElem? (i := 30) rfl)
theorem m223 : Cond.instanceMethod yX3_topToTheRight ∈ wAll := inA_wA_6 _ (List.mem_of_getElem? (i := 31) rfl)
theorem m224 : Cond.instanceMethod yX4_advise ∈ wAll := inA_wA_7 _ (List.mem_of_getElem? (i := 0) rfl)
theorem m225 : Cond.instanceMethod yX4_apply ∈ wAll := inA_wA_7 _ (List.mem_of_getElem? (i := 1) rfl)
theorem m226 : Cond.instanceMethod yX4_branch ∈ wAll := inA_wA_7 _ (List.mem_of_getElem? (i := 2) rfl)
theorem m227 : Cond.instanceMethod yX4_clearPayload ∈ wAll := inA_wA_7 _ (List.mem_of_getElem? (i := 3) rfl)
theorem m228 : Cond.instanceMethod yX4_copyBlock ∈ wAll := inA_wA_7 _ (List.mem_of_getElem? (i := 4) rfl)
theorem m229 : Cond.instanceMethod yX4_count ∈ wAll := inA_wA_7 _ (List.mem_of_getElem? (i := 5) rfl)
theorem m230 : Cond.instanceMethod yX4_free ∈ wAll := inA_wA_7 _ (List.mem_of_getElem? (i := 6) rfl)
theorem m231 : Cond.instanceMethod yX4_freeAt ∈ wAll := inA_wA_7 _ (List.mem_of_getElem? (i := 7) rfl)
theorem m232 : Cond.instanceMethod yX4_get ∈ wAll := inA_wA_7 _ (List.mem_of_getElem? (i := 8) rfl)
theorem m233 : Cond.instanceMethod yX4_give ∈ wAll := inA_wA_7 _ (List.mem_of_getElem? (i := 9) rfl)
theorem m234 : Cond.instanceMethod yX4_giveAligned ∈ wAll := inA_wA_7 _ (List.mem_of_getElem? (i := 10) rfl)
theorem m235 : Cond.instanceMethod yX4_giveAtMultiple ∈ wAll := inA_wA_7 _ (List.mem_of_getElem? (i := 11) rfl)
theorem m236 : Cond.instanceMethod yX4_grow ∈ wAll := inA_wA_7 _ (List.mem_of_getElem? (i := 12) rfl)
theorem m237 : Cond.instanceMethod yX4_init ∈ wAll := inA_wA_7 _ (List.mem_of_getElem? (i := 13) rfl)
theorem m238 : Cond.instanceMethod yX4_largest ∈ wAll := inA_wA_7 _ (List.mem_of_getElem? (i := 14) rfl)
theorem m239 : Cond.instanceMethod yX4_leaveBlock ∈ wAll := inA_wA_7 _ (List.mem_of_getElem? (i := 15) rfl)
theorem m240 : Cond.instanceMethod yX4_move ∈ wAll := inA_wA_7 _ (List.mem_of_getElem? (i := 16) rfl)
theorem m241 : Cond.instanceMethod yX4_moved ∈ wAll := inA_wA_7 _ (List.mem_of_getElem? (i := 17) rfl)
theorem m242 : Cond.instanceMethod yX4_payloadWord ∈ wAll := inA_wA_7 _ (List.mem_of_getElem? (i := 18) rfl)
theorem m243 : Cond.instanceMethod yX4_pin ∈ wAll := inA_wA_7 _ (List.mem_of_getElem? (i := 19) rfl)
theorem m244 : Cond.instanceMethod yX4_set ∈ wAll := inA_wA_7 _ (List.mem_of_getElem? (i := 20) rfl)
theorem m245 : Cond.instanceMethod yX4_sizeOf ∈ wAll := inA_wA_7 _ (List.mem_of_getElem? (i := 21) rfl)
theorem m246 : Cond.instanceMethod yX4_trim ∈ wAll := inA_wA_7 _ (List.mem_of_getElem? (i := 22) rfl)
theorem m247 : Cond.instanceMethod yX4_window ∈ wAll := inA_wA_7 _ (List.mem_of_getElem? (i := 23) rfl)
theorem m248 : Cond.instanceMethod yX5_advise ∈ wAll := inA_wA_7 _ (List.mem_of_getElem? (i := 24) rfl)
theorem m249 : Cond.instanceMethod yX5_apply ∈ wAll := inA_wA_7 _ (List.mem_of_getElem? (i := 25) rfl)
theorem m250 : Cond.instanceMethod yX5_branch ∈ wAll := inA_wA_7 _ (List.mem_of_getElem? (i := 26) rfl)
theorem m251 : Cond.instanceMethod yX5_count ∈ wAll := inA_wA_7 _ (List.mem_of_getElem? (i := 27) rfl)
theorem m252 : Cond.instanceMethod yX5_depth ∈ wAll := inA_wA_7 _ (List.mem_of_getElem? (i := 28) rfl)
theorem m253 : Cond.instanceMethod yX5_find ∈ wAll := inA_wA_7 _ (List.mem_of_getElem? (i := 29) rfl)
theorem m254 : Cond.instanceMethod yX5_free ∈ wAll := inA_wA_7 _ (List.mem_of_getElem? (i := 30) rfl)
theorem m255 : Cond.instanceMethod yX5_freeAt ∈ wAll := inA_wA_7 _ (List.mem_of_getElem? (i := 31) rfl)
theorem m256 : Cond.instanceMethod yX5_gathers ∈ wAll := inA_wA_8 _ (List.mem_of_getElem? (i := 0) rfl)
theorem m257 : Cond.instanceMethod yX5_get ∈ wAll := inA_wA_8 _ (List.mem_of_getElem? (i := 1) rfl)
theorem m258 : Cond.instanceMethod yX5_give ∈ wAll := inA_wA_8 _ (List.mem_of_getElem? (i := 2) rfl)
theorem m259 : Cond.instanceMethod yX5_giveAligned ∈ wAll := inA_wA_8 _ (List.mem_of_getElem? (i := 3) rfl)
theorem m260 : Cond.instanceMethod yX5_gives ∈ wAll := inA_wA_8 _ (List.mem_of_getElem? (i := 4) rfl)
theorem m261 : Cond.instanceMethod yX5_goes ∈ wAll := inA_wA_8 _ (List.mem_of_getElem? (i := 5) rfl)
theorem m262 : Cond.instanceMethod yX5_groupsFor ∈ wAll := inA_wA_8 _ (List.mem_of_getElem? (i := 6) rfl)
theorem m263 : Cond.instanceMethod yX5_grow ∈ wAll := inA_wA_8 _ (List.mem_of_getElem? (i := 7) rfl)
theorem m264 : Cond.instanceMethod yX5_init ∈ wAll := inA_wA_8 _ (List.mem_of_getElem? (i := 8) rfl)
theorem m265 : Cond.instanceMethod yX5_isFree ∈ wAll := inA_wA_8 _ (List.mem_of_getElem? (i := 9) rfl)
theorem m266 : Cond.instanceMethod yX5_joins ∈ wAll := inA_wA_8 _ (List.mem_of_getElem? (i := 10) rfl)
theorem m267 : Cond.instanceMethod yX5_largest ∈ wAll := inA_wA_8 _ (List.mem_of_getElem? (i := 11) rfl)
theorem m268 : Cond.instanceMethod yX5_move ∈ wAll := inA_wA_8 _ (List.mem_of_getElem? (i := 12) rfl)
theorem m269 : Cond.instanceMethod yX5_moved ∈ wAll := inA_wA_8 _ (List.mem_of_getElem? (i := 13) rfl)
theorem m270 : Cond.instanceMethod yX5_pin ∈ wAll := inA_wA_8 _ (List.mem_of_getElem? (i := 14) rfl)
theorem m271 : Cond.instanceMethod yX5_places ∈ wAll := inA_wA_8 _ (List.mem_of_getElem? (i := 15) rfl)
theorem m272 : Cond.instanceMethod yX5_set ∈ wAll := inA_wA_8 _ (List.mem_of_getElem? (i := 16) rfl)
theorem m273 : Cond.instanceMethod yX5_sizeOf ∈ wAll := inA_wA_8 _ (List.mem_of_getElem? (i := 17) rfl)
theorem m274 : Cond.instanceMethod yX5_takes ∈ wAll := inA_wA_8 _ (List.mem_of_getElem? (i := 18) rfl)
theorem m275 : Cond.instanceMethod yX5_thrown ∈ wAll := inA_wA_8 _ (List.mem_of_getElem? (i := 19) rfl)
theorem m276 : Cond.instanceMethod yX5_top ∈ wAll := inA_wA_8 _ (List.mem_of_getElem? (i := 20) rfl)
theorem m277 : Cond.instanceMethod yX5_trim ∈ wAll := inA_wA_8 _ (List.mem_of_getElem? (i := 21) rfl)
theorem m278 : Cond.instanceMethod yX5_window ∈ wAll := inA_wA_8 _ (List.mem_of_getElem? (i := 22) rfl)
theorem m279 : Cond.instanceMethod yX5_windowEnd ∈ wAll := inA_wA_8 _ (List.mem_of_getElem? (i := 23) rfl)
theorem m280 : Cond.instantiable RX0 8 ∈ wAll := inA_wA_8 _ (List.mem_of_getElem? (i := 24) rfl)
theorem m281 : Cond.instantiable RX1 3 ∈ wAll := inA_wA_8 _ (List.mem_of_getElem? (i := 25) rfl)
theorem m282 : Cond.instantiable RX2 4 ∈ wAll := inA_wA_8 _ (List.mem_of_getElem? (i := 26) rfl)
theorem m283 : Cond.instantiable RX3 3 ∈ wAll := inA_wA_8 _ (List.mem_of_getElem? (i := 27) rfl)
theorem m284 : Cond.instantiable RX4 5 ∈ wAll := inA_wA_8 _ (List.mem_of_getElem? (i := 28) rfl)
theorem m285 : Cond.instantiable RX5 18 ∈ wAll := inA_wA_8 _ (List.mem_of_getElem? (i := 29) rfl)
theorem m286 : Cond.methodLink RJ7 13 yJ7_rangeCheck_23922 ∈ wAll := inA_wA_8 _ (List.mem_of_getElem? (i := 30) rfl)
theorem m287 : Cond.methodLink RL 100 yX4_advise ∈ wAll := inA_wA_8 _ (List.mem_of_getElem? (i := 31) rfl)
theorem m288 : Cond.methodLink RL 103 yX5_advise ∈ wAll := inA_wA_9 _ (List.mem_of_getElem? (i := 0) rfl)
theorem m289 : Cond.methodLink RL 104 yX4_window ∈ wAll := inA_wA_9 _ (List.mem_of_getElem? (i := 1) rfl)
theorem m290 : Cond.methodLink RL 107 yX5_window ∈ wAll := inA_wA_9 _ (List.mem_of_getElem? (i := 2) rfl)
theorem m291 : Cond.methodLink RL 108 yL_move ∈ wAll := inA_wA_9 _ (List.mem_of_getElem? (i := 3) rfl)
theorem m292 : Cond.methodLink RL 110 yX5_move ∈ wAll := inA_wA_9 _ (List.mem_of_getElem? (i := 4) rfl)
theorem m293 : Cond.methodLink RL 111 yX4_apply ∈ wAll := inA_wA_9 _ (List.mem_of_getElem? (i := 5) rfl)
theorem m294 : Cond.methodLink RL 114 yX5_apply ∈ wAll := inA_wA_9 _ (List.mem_of_getElem? (i := 6) rfl)
theorem m295 : Cond.methodLink RL 115 yX4_moved ∈ wAll := inA_wA_9 _ (List.mem_of_getElem? (i := 7) rfl)
theorem m296 : Cond.methodLink RL 118 yX5_moved ∈ wAll := inA_wA_9 _ (List.mem_of_getElem? (i := 8) rfl)
theorem m297 : Cond.methodLink RL 17 yX4_set ∈ wAll := inA_wA_9 _ (List.mem_of_getElem? (i := 9) rfl)
theorem m298 : Cond.methodLink RL 21 yX4_branch ∈ wAll := inA_wA_9 _ (List.mem_of_getElem? (i := 10) rfl)
theorem m299 : Cond.methodLink RL 26 yX4_move ∈ wAll := inA_wA_9 _ (List.mem_of_getElem? (i := 11) rfl)
theorem m300 : Cond.methodLink RL 29 yL_cell ∈ wAll := inA_wA_9 _ (List.mem_of_getElem? (i := 12) rfl)
theorem m301 : Cond.methodLink RL 35 yX4_init ∈ wAll := inA_wA_9 _ (List.mem_of_getElem? (i := 13) rfl)
theorem m302 : Cond.methodLink RL 40 yX5_init ∈ wAll := inA_wA_9 _ (List.mem_of_getElem? (i := 14) rfl)
theorem m303 : Cond.methodLink RL 41 yX4_give ∈ wAll := inA_wA_9 _ (List.mem_of_getElem? (i := 15) rfl)
theorem m304 : Cond.methodLink RL 45 yX5_give ∈ wAll := inA_wA_9 _ (List.mem_of_getElem? (i := 16) rfl)
theorem m305 : Cond.methodLink RL 46 yX4_giveAligned ∈ wAll := inA_wA_9 _ (List.mem_of_getElem? (i := 17) rfl)
theorem m306 : Cond.methodLink RL 49 yX5_giveAligned ∈ wAll := inA_wA_9 _ (List.mem_of_getElem? (i := 18) rfl)
theorem m307 : Cond.methodLink RL 50 yX4_free ∈ wAll := inA_wA_9 _ (List.mem_of_getElem? (i := 19) rfl)
theorem m308 : Cond.methodLink RL 54 yX5_free ∈ wAll := inA_wA_9 _ (List.mem_of_getElem? (i := 20) rfl)
theorem m309 : Cond.methodLink RL 55 yX4_grow ∈ wAll := inA_wA_9 _ (List.mem_of_getElem? (i := 21) rfl)
theorem m310 : Cond.methodLink RL 59 yX5_grow ∈ wAll := inA_wA_9 _ (List.mem_of_getElem? (i := 22) rfl)
theorem m311 : Cond.methodLink RL 60 yX4_trim ∈ wAll := inA_wA_9 _ (List.mem_of_getElem? (i := 23) rfl)
theorem m312 : Cond.methodLink RL 63 yX5_trim ∈ wAll := inA_wA_9 _ (List.mem_of_getElem? (i := 24) rfl)
theorem m313 : Cond.methodLink RL 64 yX4_pin ∈ wAll := inA_wA_9 _ (List.mem_of_getElem? (i := 25) rfl)
theorem m314 : Cond.methodLink RL 68 yX5_pin ∈ wAll := inA_wA_9 _ (List.mem_of_getElem? (i := 26) rfl)
theorem m315 : Cond.methodLink RL 69 yL_get ∈ wAll := inA_wA_9 _ (List.mem_of_getElem? (i := 27) rfl)
theorem m316 : Cond.methodLink RL 7 yX4_get ∈ wAll := inA_wA_9 _ (List.mem_of_getElem? (i := 28) rfl)
theorem m317 : Cond.methodLink RL 72 yX5_get ∈ wAll := inA_wA_9 _ (List.mem_of_getElem? (i := 29) rfl)
theorem m318 : Cond.methodLink RL 73 yX5_thrown ∈ wAll := inA_wA_9 _ (List.mem_of_getElem? (i := 30) rfl)
theorem m319 : Cond.methodLink RL 77 yL_set ∈ wAll := inA_wA_9 _ (List.mem_of_getElem? (i := 31) rfl)
theorem m320 : Cond.methodLink RL 80 yX5_set ∈ wAll := inA_wA_10 _ (List.mem_of_getElem? (i := 0) rfl)
theorem m321 : Cond.methodLink RL 81 yX4_sizeOf ∈ wAll := inA_wA_10 _ (List.mem_of_getElem? (i := 1) rfl)
theorem m322 : Cond.methodLink RL 84 yX5_sizeOf ∈ wAll := inA_wA_10 _ (List.mem_of_getElem? (i := 2) rfl)
theorem m323 : Cond.methodLink RL 85 yX4_largest ∈ wAll := inA_wA_10 _ (List.mem_of_getElem? (i := 3) rfl)
theorem m324 : Cond.methodLink RL 88 yX5_largest ∈ wAll := inA_wA_10 _ (List.mem_of_getElem? (i := 4) rfl)
theorem m325 : Cond.methodLink RL 89 yX4_count ∈ wAll := inA_wA_10 _ (List.mem_of_getElem? (i := 5) rfl)
theorem m326 : Cond.methodLink RL 92 yX5_count ∈ wAll := inA_wA_10 _ (List.mem_of_getElem? (i := 6) rfl)
theorem m327 : Cond.methodLink RL 93 yX4_freeAt ∈ wAll := inA_wA_10 _ (List.mem_of_getElem? (i := 7) rfl)
theorem m328 : Cond.methodLink RL 96 yX5_freeAt ∈ wAll := inA_wA_10 _ (List.mem_of_getElem? (i := 8) rfl)
theorem m329 : Cond.methodLink RL 97 yL_branch ∈ wAll := inA_wA_10 _ (List.mem_of_getElem? (i := 9) rfl)
theorem m330 : Cond.methodLink RL 99 yX5_branch ∈ wAll := inA_wA_10 _ (List.mem_of_getElem? (i := 10) rfl)
theorem m331 : Cond.methodLink RX0 23 yX1_init ∈ wAll := inA_wA_10 _ (List.mem_of_getElem? (i := 11) rfl)
theorem m332 : Cond.methodLink RX0 3 objectInit ∈ wAll := inA_wA_10 _ (List.mem_of_getElem? (i := 12) rfl)
theorem m333 : Cond.methodLink RX0 48 yX0_rankMovables ∈ wAll := inA_wA_10 _ (List.mem_of_getElem? (i := 13) rfl)
theorem m334 : Cond.methodLink RX0 51 yX2_freeWords ∈ wAll := inA_wA_10 _ (List.mem_of_getElem? (i := 14) rfl)
theorem m335 : Cond.methodLink RX0 60 Lib.Math.max.name ∈ wAll := inA_wA_10 _ (List.mem_of_getElem? (i := 15) rfl)
theorem m336 : Cond.methodLink RX0 69 yX0_placeVictims ∈ wAll := inA_wA_10 _ (List.mem_of_getElem? (i := 16) rfl)
theorem m337 : Cond.methodLink RX0 79 yX1_takeOver ∈ wAll := inA_wA_10 _ (List.mem_of_getElem? (i := 17) rfl)
theorem m338 : Cond.methodLink RX0 86 yX0_lowestPlace ∈ wAll := inA_wA_10 _ (List.mem_of_getElem? (i := 18) rfl)
theorem m339 : Cond.methodLink RX0 89 yX2_end ∈ wAll := inA_wA_10 _ (List.mem_of_getElem? (i := 19) rfl)
theorem m340 : Cond.methodLink RX0 9 Lib.Math.min.name ∈ wAll := inA_wA_10 _ (List.mem_of_getElem? (i := 20) rfl)
theorem m341 : Cond.methodLink RX0 93 yX1_put ∈ wAll := inA_wA_10 _ (List.mem_of_getElem? (i := 21) rfl)
theorem m342 : Cond.methodLink RX1 22 yX1_put ∈ wAll := inA_wA_10 _ (List.mem_of_getElem? (i := 22) rfl)
theorem m343 : Cond.methodLink RX1 3 objectInit ∈ wAll := inA_wA_10 _ (List.mem_of_getElem? (i := 23) rfl)
theorem m344 : Cond.methodLink RX2 25 yX2_indexOf ∈ wAll := inA_wA_10 _ (List.mem_of_getElem? (i := 24) rfl)
theorem m345 : Cond.methodLink RX2 29 yX2_freeBlocks ∈ wAll := inA_wA_10 _ (List.mem_of_getElem? (i := 25) rfl)
theorem m346 : Cond.methodLink RX2 3 objectInit ∈ wAll := inA_wA_10 _ (List.mem_of_getElem? (i := 26) rfl)
theorem m347 : Cond.methodLink RX2 33 Lib.Math.max.name ∈ wAll := inA_wA_10 _ (List.mem_of_getElem? (i := 27) rfl)
theorem m348 : Cond.methodLink RX2 39 yX2_isFree ∈ wAll := inA_wA_10 _ (List.mem_of_getElem? (i := 28) rfl)
theorem m349 : Cond.methodLink RX2 43 yX2_split ∈ wAll := inA_wA_10 _ (List.mem_of_getElem? (i := 29) rfl)
theorem m350 : Cond.methodLink RX2 47 yX2_join ∈ wAll := inA_wA_10 _ (List.mem_of_getElem? (i := 30) rfl)
theorem m351 : Cond.methodLink RX2 51 yX2_release ∈ wAll := inA_wA_10 _ (List.mem_of_getElem? (i := 31) rfl)
theorem m352 : Cond.methodLink RX2 54 yX2_shift ∈ wAll := inA_wA_11 _ (List.mem_of_getElem? (i := 0) rfl)
theorem m353 : Cond.methodLink RX2 57 arraycopyName ∈ wAll := inA_wA_11 _ (List.mem_of_getElem? (i := 1) rfl)
theorem m354 : Cond.methodLink RX3 3 objectInit ∈ wAll := inA_wA_11 _ (List.mem_of_getElem? (i := 2) rfl)
theorem m355 : Cond.methodLink RX3 34 yX3_depthOfSpine ∈ wAll := inA_wA_11 _ (List.mem_of_getElem? (i := 3) rfl)
theorem m356 : Cond.methodLink RX3 38 Lib.Math.max.name ∈ wAll := inA_wA_11 _ (List.mem_of_getElem? (i := 4) rfl)
theorem m357 : Cond.methodLink RX4 1 objectInit ∈ wAll := inA_wA_11 _ (List.mem_of_getElem? (i := 5) rfl)
theorem m358 : Cond.methodLink RX4 100 yX2_freeWords ∈ wAll := inA_wA_11 _ (List.mem_of_getElem? (i := 6) rfl)
theorem m359 : Cond.methodLink RX4 103 yX2_liveBlocks ∈ wAll := inA_wA_11 _ (List.mem_of_getElem? (i := 7) rfl)
theorem m360 : Cond.methodLink RX4 113 yX3_depth ∈ wAll := inA_wA_11 _ (List.mem_of_getElem? (i := 8) rfl)
theorem m361 : Cond.methodLink RX4 116 yX2_freeAddress ∈ wAll := inA_wA_11 _ (List.mem_of_getElem? (i := 9) rfl)
theorem m362 : Cond.methodLink RX4 119 yX2_freeIndex ∈ wAll := inA_wA_11 _ (List.mem_of_getElem? (i := 10) rfl)
theorem m363 : Cond.methodLink RX4 129 yX3_topToTheLeft ∈ wAll := inA_wA_11 _ (List.mem_of_getElem? (i := 11) rfl)
theorem m364 : Cond.methodLink RX4 132 yX3_topToTheRight ∈ wAll := inA_wA_11 _ (List.mem_of_getElem? (i := 12) rfl)
theorem m365 : Cond.methodLink RX4 140 yX0_search ∈ wAll := inA_wA_11 _ (List.mem_of_getElem? (i := 13) rfl)
theorem m366 : Cond.methodLink RX4 15 Lib.Math.max.name ∈ wAll := inA_wA_11 _ (List.mem_of_getElem? (i := 14) rfl)
theorem m367 : Cond.methodLink RX4 163 yX1_takeOver ∈ wAll := inA_wA_11 _ (List.mem_of_getElem? (i := 15) rfl)
theorem m368 : Cond.methodLink RX4 167 yX4_copyBlock ∈ wAll := inA_wA_11 _ (List.mem_of_getElem? (i := 16) rfl)
theorem m369 : Cond.methodLink RX4 170 yX4_leaveBlock ∈ wAll := inA_wA_11 _ (List.mem_of_getElem? (i := 17) rfl)
theorem m370 : Cond.methodLink RX4 173 yX1_placeOf ∈ wAll := inA_wA_11 _ (List.mem_of_getElem? (i := 18) rfl)
theorem m371 : Cond.methodLink RX4 182 yX4_nextMultiple ∈ wAll := inA_wA_11 _ (List.mem_of_getElem? (i := 19) rfl)
theorem m372 : Cond.methodLink RX4 185 yX2_end ∈ wAll := inA_wA_11 _ (List.mem_of_getElem? (i := 20) rfl)
theorem m373 : Cond.methodLink RX4 188 yX2_carve ∈ wAll := inA_wA_11 _ (List.mem_of_getElem? (i := 21) rfl)
theorem m374 : Cond.methodLink RX4 191 yJ7_fill_fda19 ∈ wAll := inA_wA_11 _ (List.mem_of_getElem? (i := 22) rfl)
theorem m375 : Cond.methodLink RX4 201 arraycopyName ∈ wAll := inA_wA_11 _ (List.mem_of_getElem? (i := 23) rfl)
theorem m376 : Cond.methodLink RX4 24 yX2_init ∈ wAll := inA_wA_11 _ (List.mem_of_getElem? (i := 24) rfl)
theorem m377 : Cond.methodLink RX4 33 yX3_init ∈ wAll := inA_wA_11 _ (List.mem_of_getElem? (i := 25) rfl)
theorem m378 : Cond.methodLink RX4 42 yX0_init ∈ wAll := inA_wA_11 _ (List.mem_of_getElem? (i := 26) rfl)
theorem m379 : Cond.methodLink RX4 49 yX1_init ∈ wAll := inA_wA_11 _ (List.mem_of_getElem? (i := 27) rfl)
theorem m380 : Cond.methodLink RX4 54 yX4_giveAtMultiple ∈ wAll := inA_wA_11 _ (List.mem_of_getElem? (i := 28) rfl)
theorem m381 : Cond.methodLink RX4 57 yX2_liveIndex ∈ wAll := inA_wA_11 _ (List.mem_of_getElem? (i := 29) rfl)
theorem m382 : Cond.methodLink RX4 61 yX2_release ∈ wAll := inA_wA_11 _ (List.mem_of_getElem? (i := 30) rfl)
theorem m383 : Cond.methodLink RX4 64 yX0_drop ∈ wAll := inA_wA_11 _ (List.mem_of_getElem? (i := 31) rfl)
theorem m384 : Cond.methodLink RX4 70 yX4_sizeFor ∈ wAll := inA_wA_12 _ (List.mem_of_getElem? (i := 0) rfl)
theorem m385 : Cond.methodLink RX4 73 yX2_freeBehind ∈ wAll := inA_wA_12 _ (List.mem_of_getElem? (i := 1) rfl)
theorem m386 : Cond.methodLink RX4 76 yX2_extend ∈ wAll := inA_wA_12 _ (List.mem_of_getElem? (i := 2) rfl)
theorem m387 : Cond.methodLink RX4 80 yX4_clearPayload ∈ wAll := inA_wA_12 _ (List.mem_of_getElem? (i := 3) rfl)
theorem m388 : Cond.methodLink RX4 84 yX2_shorten ∈ wAll := inA_wA_12 _ (List.mem_of_getElem? (i := 4) rfl)
theorem m389 : Cond.methodLink RX4 9 Lib.Math.min.name ∈ wAll := inA_wA_12 _ (List.mem_of_getElem? (i := 5) rfl)
theorem m390 : Cond.methodLink RX4 90 yX4_payloadWord ∈ wAll := inA_wA_12 _ (List.mem_of_getElem? (i := 6) rfl)
theorem m391 : Cond.methodLink RX4 93 yX2_largestFree ∈ wAll := inA_wA_12 _ (List.mem_of_getElem? (i := 7) rfl)
theorem m392 : Cond.methodLink RX4 97 yX2_freeBlocks ∈ wAll := inA_wA_12 _ (List.mem_of_getElem? (i := 8) rfl)
theorem m393 : Cond.methodLink RX5 1 objectInit ∈ wAll := inA_wA_12 _ (List.mem_of_getElem? (i := 9) rfl)
theorem m394 : Cond.methodLink RX5 100 yX5_windowEnd ∈ wAll := inA_wA_12 _ (List.mem_of_getElem? (i := 10) rfl)
theorem m395 : Cond.methodLink RX5 103 yX5_gathers ∈ wAll := inA_wA_12 _ (List.mem_of_getElem? (i := 11) rfl)
theorem m396 : Cond.methodLink RX5 107 yX5_places ∈ wAll := inA_wA_12 _ (List.mem_of_getElem? (i := 12) rfl)
theorem m397 : Cond.methodLink RX5 117 yX5_goes ∈ wAll := inA_wA_12 _ (List.mem_of_getElem? (i := 13) rfl)
theorem m398 : Cond.methodLink RX5 51 yX5_isFree ∈ wAll := inA_wA_12 _ (List.mem_of_getElem? (i := 14) rfl)
theorem m399 : Cond.methodLink RX5 55 yX5_address ∈ wAll := inA_wA_12 _ (List.mem_of_getElem? (i := 15) rfl)
theorem m400 : Cond.methodLink RX5 59 yX5_gives ∈ wAll := inA_wA_12 _ (List.mem_of_getElem? (i := 16) rfl)
theorem m401 : Cond.methodLink RX5 63 yX5_groupsFor ∈ wAll := inA_wA_12 _ (List.mem_of_getElem? (i := 17) rfl)
theorem m402 : Cond.methodLink RX5 66 yX5_takes ∈ wAll := inA_wA_12 _ (List.mem_of_getElem? (i := 18) rfl)
theorem m403 : Cond.methodLink RX5 74 yX5_find ∈ wAll := inA_wA_12 _ (List.mem_of_getElem? (i := 19) rfl)
theorem m404 : Cond.methodLink RX5 77 yX5_joins ∈ wAll := inA_wA_12 _ (List.mem_of_getElem? (i := 20) rfl)
theorem m405 : Cond.methodLink RX5 80 yX5_get ∈ wAll := inA_wA_12 _ (List.mem_of_getElem? (i := 21) rfl)
theorem m406 : Cond.methodLink RX5 83 yX5_top ∈ wAll := inA_wA_12 _ (List.mem_of_getElem? (i := 22) rfl)
theorem m407 : Cond.methodLink RX5 86 yX5_depth ∈ wAll := inA_wA_12 _ (List.mem_of_getElem? (i := 23) rfl)
theorem m408 : Cond.methodLink RX5 97 yX5_count ∈ wAll := inA_wA_12 _ (List.mem_of_getElem? (i := 24) rfl)
theorem m409 : Cond.native arraycopyName ∈ wAll := inA_wA_12 _ (List.mem_of_getElem? (i := 25) rfl)
theorem m410 : Cond.selects RX0 yX0_drop yX0_drop ∈ wAll := inA_wA_12 _ (List.mem_of_getElem? (i := 26) rfl)
theorem m411 : Cond.selects RX0 yX0_lowestPlace yX0_lowestPlace ∈ wAll := inA_wA_12 _ (List.mem_of_getElem? (i := 27) rfl)
theorem m412 : Cond.selects RX0 yX0_placeVictims yX0_placeVictims ∈ wAll := inA_wA_12 _ (List.mem_of_getElem? (i := 28) rfl)
theorem m413 : Cond.selects RX0 yX0_rankMovables yX0_rankMovables ∈ wAll := inA_wA_12 _ (List.mem_of_getElem? (i := 29) rfl)
theorem m414 : Cond.selects RX0 yX0_search yX0_search ∈ wAll := inA_wA_12 _ (List.mem_of_getElem? (i := 30) rfl)
theorem m415 : Cond.selects RX1 yX1_placeOf yX1_placeOf ∈ wAll := inA_wA_12 _ (List.mem_of_getElem? (i := 31) rfl)
theorem m416 : Cond.selects RX1 yX1_put yX1_put ∈ wAll := inA_wA_13 _ (List.mem_of_getElem? (i := 0) rfl)
theorem m417 : Cond.selects RX1 yX1_takeOver yX1_takeOver ∈ wAll := inA_wA_13 _ (List.mem_of_getElem? (i := 1) rfl)
theorem m418 : Cond.selects RX2 yX2_carve yX2_carve ∈ wAll := inA_wA_13 _ (List.mem_of_getElem? (i := 2) rfl)
theorem m419 : Cond.selects RX2 yX2_end yX2_end ∈ wAll := inA_wA_13 _ (List.mem_of_getElem? (i := 3) rfl)
theorem m420 : Cond.selects RX2 yX2_extend yX2_extend ∈ wAll := inA_wA_13 _ (List.mem_of_getElem? (i := 4) rfl)
theorem m421 : Cond.selects RX2 yX2_freeAddress yX2_freeAddress ∈ wAll := inA_wA_13 _ (List.mem_of_getElem? (i := 5) rfl)
theorem m422 : Cond.selects RX2 yX2_freeBehind yX2_freeBehind ∈ wAll := inA_wA_13 _ (List.mem_of_getElem? (i := 6) rfl)
theorem m423 : Cond.selects RX2 yX2_freeBlocks yX2_freeBlocks ∈ wAll := inA_wA_13 _ (List.mem_of_getElem? (i := 7) rfl)
theorem m424 : Cond.selects RX2 yX2_freeIndex yX2_freeIndex ∈ wAll := inA_wA_13 _ (List.mem_of_getElem? (i := 8) rfl)
theorem m425 : Cond.selects RX2 yX2_freeWords yX2_freeWords ∈ wAll := inA_wA_13 _ (List.mem_of_getElem? (i := 9) rfl)
theorem m426 : Cond.selects RX2 yX2_indexOf yX2_indexOf ∈ wAll := inA_wA_13 _ (List.mem_of_getElem? (i := 10) rfl)
theorem m427 : Cond.selects RX2 yX2_isFree yX2_isFree ∈ wAll := inA_wA_13 _ (List.mem_of_getElem? (i := 11) rfl)
theorem m428 : Cond.selects RX2 yX2_join yX2_join ∈ wAll := inA_wA_13 _ (List.mem_of_getElem? (i := 12) rfl)
theorem m429 : Cond.selects RX2 yX2_largestFree yX2_largestFree ∈ wAll := inA_wA_13 _ (List.mem_of_getElem? (i := 13) rfl)
theorem m430 : Cond.selects RX2 yX2_liveBlocks yX2_liveBlocks ∈ wAll := inA_wA_13 _ (List.mem_of_getElem? (i := 14) rfl)
theorem m431 : Cond.selects RX2 yX2_liveIndex yX2_liveIndex ∈ wAll := inA_wA_13 _ (List.mem_of_getElem? (i := 15) rfl)
theorem m432 : Cond.selects RX2 yX2_release yX2_release ∈ wAll := inA_wA_13 _ (List.mem_of_getElem? (i := 16) rfl)
theorem m433 : Cond.selects RX2 yX2_shift yX2_shift ∈ wAll := inA_wA_13 _ (List.mem_of_getElem? (i := 17) rfl)
theorem m434 : Cond.selects RX2 yX2_shorten yX2_shorten ∈ wAll := inA_wA_13 _ (List.mem_of_getElem? (i := 18) rfl)
theorem m435 : Cond.selects RX2 yX2_split yX2_split ∈ wAll := inA_wA_13 _ (List.mem_of_getElem? (i := 19) rfl)
theorem m436 : Cond.selects RX3 yX3_depth yX3_depth ∈ wAll := inA_wA_13 _ (List.mem_of_getElem? (i := 20) rfl)
theorem m437 : Cond.selects RX3 yX3_depthOfSpine yX3_depthOfSpine ∈ wAll := inA_wA_13 _ (List.mem_of_getElem? (i := 21) rfl)
theorem m438 : Cond.selects RX3 yX3_topToTheLeft yX3_topToTheLeft ∈ wAll := inA_wA_13 _ (List.mem_of_getElem? (i := 22) rfl)
theorem m439 : Cond.selects RX3 yX3_topToTheRight yX3_topToTheRight ∈ wAll := inA_wA_13 _ (List.mem_of_getElem? (i := 23) rfl)
theorem m440 : Cond.selects RX4 yX4_advise yX4_advise ∈ wAll := inA_wA_13 _ (List.mem_of_getElem? (i := 24) rfl)
theorem m441 : Cond.selects RX4 yX4_apply yX4_apply ∈ wAll := inA_wA_13 _ (List.mem_of_getElem? (i := 25) rfl)
theorem m442 : Cond.selects RX4 yX4_branch yX4_branch ∈ wAll := inA_wA_13 _ (List.mem_of_getElem? (i := 26) rfl)
theorem m443 : Cond.selects RX4 yX4_clearPayload yX4_clearPayload ∈ wAll := inA_wA_13 _ (List.mem_of_getElem? (i := 27) rfl)
theorem m444 : Cond.selects RX4 yX4_copyBlock yX4_copyBlock ∈ wAll := inA_wA_13 _ (List.mem_of_getElem? (i := 28) rfl)
theorem m445 : Cond.selects RX4 yX4_count yX4_count ∈ wAll := inA_wA_13 _ (List.mem_of_getElem? (i := 29) rfl)
theorem m446 : Cond.selects RX4 yX4_free yX4_free ∈ wAll := inA_wA_13 _ (List.mem_of_getElem? (i := 30) rfl)
theorem m447 : Cond.selects RX4 yX4_freeAt yX4_freeAt ∈ wAll := inA_wA_13 _ (List.mem_of_getElem? (i := 31) rfl)
theorem m448 : Cond.selects RX4 yX4_get yX4_get ∈ wAll := inA_wA_14 _ (List.mem_of_getElem? (i := 0) rfl)
theorem m449 : Cond.selects RX4 yX4_give yX4_give ∈ wAll := inA_wA_14 _ (List.mem_of_getElem? (i := 1) rfl)
theorem m450 : Cond.selects RX4 yX4_giveAligned yX4_giveAligned ∈ wAll := inA_wA_14 _ (List.mem_of_getElem? (i := 2) rfl)
theorem m451 : Cond.selects RX4 yX4_giveAtMultiple yX4_giveAtMultiple ∈ wAll := inA_wA_14 _ (List.mem_of_getElem? (i := 3) rfl)
theorem m452 : Cond.selects RX4 yX4_grow yX4_grow ∈ wAll := inA_wA_14 _ (List.mem_of_getElem? (i := 4) rfl)
theorem m453 : Cond.selects RX4 yX4_largest yX4_largest ∈ wAll := inA_wA_14 _ (List.mem_of_getElem? (i := 5) rfl)
theorem m454 : Cond.selects RX4 yX4_leaveBlock yX4_leaveBlock ∈ wAll := inA_wA_14 _ (List.mem_of_getElem? (i := 6) rfl)
theorem m455 : Cond.selects RX4 yX4_move yX4_move ∈ wAll := inA_wA_14 _ (List.mem_of_getElem? (i := 7) rfl)
theorem m456 : Cond.selects RX4 yX4_moved yX4_moved ∈ wAll := inA_wA_14 _ (List.mem_of_getElem? (i := 8) rfl)
theorem m457 : Cond.selects RX4 yX4_payloadWord yX4_payloadWord ∈ wAll := inA_wA_14 _ (List.mem_of_getElem? (i := 9) rfl)
theorem m458 : Cond.selects RX4 yX4_pin yX4_pin ∈ wAll := inA_wA_14 _ (List.mem_of_getElem? (i := 10) rfl)
theorem m459 : Cond.selects RX4 yX4_set yX4_set ∈ wAll := inA_wA_14 _ (List.mem_of_getElem? (i := 11) rfl)
theorem m460 : Cond.selects RX4 yX4_sizeOf yX4_sizeOf ∈ wAll := inA_wA_14 _ (List.mem_of_getElem? (i := 12) rfl)
theorem m461 : Cond.selects RX4 yX4_trim yX4_trim ∈ wAll := inA_wA_14 _ (List.mem_of_getElem? (i := 13) rfl)
theorem m462 : Cond.selects RX4 yX4_window yX4_window ∈ wAll := inA_wA_14 _ (List.mem_of_getElem? (i := 14) rfl)
theorem m463 : Cond.selects RX5 yX5_advise yX5_advise ∈ wAll := inA_wA_14 _ (List.mem_of_getElem? (i := 15) rfl)
theorem m464 : Cond.selects RX5 yX5_apply yX5_apply ∈ wAll := inA_wA_14 _ (List.mem_of_getElem? (i := 16) rfl)
theorem m465 : Cond.selects RX5 yX5_branch yX5_branch ∈ wAll := inA_wA_14 _ (List.mem_of_getElem? (i := 17) rfl)
theorem m466 : Cond.selects RX5 yX5_count yX5_count ∈ wAll := inA_wA_14 _ (List.mem_of_getElem? (i := 18) rfl)
theorem m467 : Cond.selects RX5 yX5_depth yX5_depth ∈ wAll := inA_wA_14 _ (List.mem_of_getElem? (i := 19) rfl)
theorem m468 : Cond.selects RX5 yX5_find yX5_find ∈ wAll := inA_wA_14 _ (List.mem_of_getElem? (i := 20) rfl)
theorem m469 : Cond.selects RX5 yX5_free yX5_free ∈ wAll := inA_wA_14 _ (List.mem_of_getElem? (i := 21) rfl)
theorem m470 : Cond.selects RX5 yX5_freeAt yX5_freeAt ∈ wAll := inA_wA_14 _ (List.mem_of_getElem? (i := 22) rfl)
theorem m471 : Cond.selects RX5 yX5_gathers yX5_gathers ∈ wAll := inA_wA_14 _ (List.mem_of_getElem? (i := 23) rfl)
theorem m472 : Cond.selects RX5 yX5_get yX5_get ∈ wAll := inA_wA_14 _ (List.mem_of_getElem? (i := 24) rfl)
theorem m473 : Cond.selects RX5 yX5_give yX5_give ∈ wAll := inA_wA_14 _ (List.mem_of_getElem? (i := 25) rfl)
theorem m474 : Cond.selects RX5 yX5_giveAligned yX5_giveAligned ∈ wAll := inA_wA_14 _ (List.mem_of_getElem? (i := 26) rfl)
theorem m475 : Cond.selects RX5 yX5_gives yX5_gives ∈ wAll := inA_wA_14 _ (List.mem_of_getElem? (i := 27) rfl)
theorem m476 : Cond.selects RX5 yX5_goes yX5_goes ∈ wAll := inA_wA_14 _ (List.mem_of_getElem? (i := 28) rfl)
theorem m477 : Cond.selects RX5 yX5_groupsFor yX5_groupsFor ∈ wAll := inA_wA_14 _ (List.mem_of_getElem? (i := 29) rfl)
theorem m478 : Cond.selects RX5 yX5_grow yX5_grow ∈ wAll := inA_wA_14 _ (List.mem_of_getElem? (i := 30) rfl)
theorem m479 : Cond.selects RX5 yX5_isFree yX5_isFree ∈ wAll := inA_wA_14 _ (List.mem_of_getElem? (i := 31) rfl)
theorem m480 : Cond.selects RX5 yX5_joins yX5_joins ∈ wAll := inA_wA_15 _ (List.mem_of_getElem? (i := 0) rfl)
theorem m481 : Cond.selects RX5 yX5_largest yX5_largest ∈ wAll := inA_wA_15 _ (List.mem_of_getElem? (i := 1) rfl)
theorem m482 : Cond.selects RX5 yX5_move yX5_move ∈ wAll := inA_wA_15 _ (List.mem_of_getElem? (i := 2) rfl)
theorem m483 : Cond.selects RX5 yX5_moved yX5_moved ∈ wAll := inA_wA_15 _ (List.mem_of_getElem? (i := 3) rfl)
theorem m484 : Cond.selects RX5 yX5_pin yX5_pin ∈ wAll := inA_wA_15 _ (List.mem_of_getElem? (i := 4) rfl)
theorem m485 : Cond.selects RX5 yX5_places yX5_places ∈ wAll := inA_wA_15 _ (List.mem_of_getElem? (i := 5) rfl)
theorem m486 : Cond.selects RX5 yX5_set yX5_set ∈ wAll := inA_wA_15 _ (List.mem_of_getElem? (i := 6) rfl)
theorem m487 : Cond.selects RX5 yX5_sizeOf yX5_sizeOf ∈ wAll := inA_wA_15 _ (List.mem_of_getElem? (i := 7) rfl)
theorem m488 : Cond.selects RX5 yX5_takes yX5_takes ∈ wAll := inA_wA_15 _ (List.mem_of_getElem? (i := 8) rfl)
theorem m489 : Cond.selects RX5 yX5_thrown yX5_thrown ∈ wAll := inA_wA_15 _ (List.mem_of_getElem? (i := 9) rfl)
theorem m490 : Cond.selects RX5 yX5_top yX5_top ∈ wAll := inA_wA_15 _ (List.mem_of_getElem? (i := 10) rfl)
theorem m491 : Cond.selects RX5 yX5_trim yX5_trim ∈ wAll := inA_wA_15 _ (List.mem_of_getElem? (i := 11) rfl)
theorem m492 : Cond.selects RX5 yX5_window yX5_window ∈ wAll := inA_wA_15 _ (List.mem_of_getElem? (i := 12) rfl)
theorem m493 : Cond.selects RX5 yX5_windowEnd yX5_windowEnd ∈ wAll := inA_wA_15 _ (List.mem_of_getElem? (i := 13) rfl)
theorem m494 : Cond.static Lib.Math.max.name ∈ wAll := inA_wA_15 _ (List.mem_of_getElem? (i := 14) rfl)
theorem m495 : Cond.static Lib.Math.min.name ∈ wAll := inA_wA_15 _ (List.mem_of_getElem? (i := 15) rfl)
theorem m496 : Cond.static arraycopyName ∈ wAll := inA_wA_15 _ (List.mem_of_getElem? (i := 16) rfl)
theorem m497 : Cond.static yJ7_fill_fda19 ∈ wAll := inA_wA_15 _ (List.mem_of_getElem? (i := 17) rfl)
theorem m498 : Cond.static yJ7_rangeCheck_23922 ∈ wAll := inA_wA_15 _ (List.mem_of_getElem? (i := 18) rfl)
theorem m499 : Cond.static yL_branch ∈ wAll := inA_wA_15 _ (List.mem_of_getElem? (i := 19) rfl)
theorem m500 : Cond.static yL_cell ∈ wAll := inA_wA_15 _ (List.mem_of_getElem? (i := 20) rfl)
theorem m501 : Cond.static yL_get ∈ wAll := inA_wA_15 _ (List.mem_of_getElem? (i := 21) rfl)
theorem m502 : Cond.static yL_move ∈ wAll := inA_wA_15 _ (List.mem_of_getElem? (i := 22) rfl)
theorem m503 : Cond.static yL_set ∈ wAll := inA_wA_15 _ (List.mem_of_getElem? (i := 23) rfl)
theorem m504 : Cond.static yX4_nextMultiple ∈ wAll := inA_wA_15 _ (List.mem_of_getElem? (i := 24) rfl)
theorem m505 : Cond.static yX4_sizeFor ∈ wAll := inA_wA_15 _ (List.mem_of_getElem? (i := 25) rfl)
theorem m506 : Cond.static yX5_address ∈ wAll := inA_wA_15 _ (List.mem_of_getElem? (i := 26) rfl)
theorem wAll_good : wAll.all goodWord = true := by decide +kernel
end
section
theorem dX0_init_0 : decode cX0_init 0 = .ok (.aload_n 0, 1) := by decide +kernel
theorem dX0_init_1 : decode cX0_init 1 = .ok (.invokespecial 3, 3) := by decide +kernel
theorem dX0_init_4 : decode cX0_init 4 = .ok (.iload_n 2, 1) := by decide +kernel
theorem dX0_init_5 : decode cX0_init 5 = .ok (.sipush 128, 3) := by decide +kernel
theorem dX0_init_8 : decode cX0_init 8 = .ok (.invokestatic 9, 3) := by decide +kernel
theorem dX0_init_11 : decode cX0_init 11 = .ok (.istore_n 3, 1) := by decide +kernel
theorem dX0_init_12 : decode cX0_init 12 = .ok (.aload_n 0, 1) := by decide +kernel
theorem dX0_init_13 : decode cX0_init 13 = .ok (.aload_n 1, 1) := by decide +kernel
theorem dX0_init_14 : decode cX0_init 14 = .ok (.putfield 15, 3) := by decide +kernel
theorem dX0_init_17 : decode cX0_init 17 = .ok (.aload_n 0, 1) := by decide +kernel
theorem dX0_init_18 : decode cX0_init 18 = .ok (.new 21, 3) := by decide +kernel
theorem dX0_init_21 : decode cX0_init 21 = .ok (.dup, 1) := by decide +kernel
theorem dX0_init_22 : decode cX0_init 22 = .ok (.iload_n 3, 1) := by decide +kernel
theorem dX0_init_23 : decode cX0_init 23 = .ok (.invokespecial 23, 3) := by decide +kernel
theorem dX0_init_26 : decode cX0_init 26 = .ok (.putfield 26, 3) := by decide +kernel
theorem dX0_init_29 : decode cX0_init 29 = .ok (.aload_n 0, 1) := by decide +kernel
theorem dX0_init_30 : decode cX0_init 30 = .ok (.new 21, 3) := by decide +kernel
theorem dX0_init_33 : decode cX0_init 33 = .ok (.dup, 1) := by decide +kernel
theorem dX0_init_34 : decode cX0_init 34 = .ok (.iload_n 3, 1) := by decide +kernel
theorem dX0_init_35 : decode cX0_init 35 = .ok (.invokespecial 23, 3) := by decide +kernel
theorem dX0_init_38 : decode cX0_init 38 = .ok (.putfield 30, 3) := by decide +kernel
theorem dX0_init_41 : decode cX0_init 41 = .ok (.aload_n 0, 1) := by decide +kernel
theorem dX0_init_42 : decode cX0_init 42 = .ok (.iload_n 3, 1) := by decide +kernel
theorem dX0_init_43 : decode cX0_init 43 = .ok (.newarray .int, 2) := by decide +kernel
theorem dX0_init_45 : decode cX0_init 45 = .ok (.putfield 33, 3) := by decide +kernel
theorem dX0_init_48 : decode cX0_init 48 = .ok (.aload_n 0, 1) := by decide +kernel
theorem dX0_init_49 : decode cX0_init 49 = .ok (.iload_n 2, 1) := by decide +kernel
theorem dX0_init_50 : decode cX0_init 50 = .ok (.newarray .int, 2) := by decide +kernel
theorem dX0_init_52 : decode cX0_init 52 = .ok (.putfield 37, 3) := by decide +kernel
theorem dX0_init_55 : decode cX0_init 55 = .ok (.return_, 1) := by decide +kernel
theorem dX0_drop_0 : decode cX0_drop 0 = .ok (.aload_n 0, 1) := by decide +kernel
theorem dX0_drop_1 : decode cX0_drop 1 = .ok (.iconst 0, 1) := by decide +kernel
theorem dX0_drop_2 : decode cX0_drop 2 = .ok (.putfield 40, 3) := by decide +kernel
theorem dX0_drop_5 : decode cX0_drop 5 = .ok (.aload_n 0, 1) := by decide +kernel
theorem dX0_drop_6 : decode cX0_drop 6 = .ok (.getfield 26, 3) := by decide +kernel
theorem dX0_drop_9 : decode cX0_drop 9 = .ok (.iconst 0, 1) := by decide +kernel
theorem dX0_drop_10 : decode cX0_drop 10 = .ok (.putfield 44, 3) := by decide +kernel
theorem dX0_drop_13 : decode cX0_drop 13 = .ok (.return_, 1) := by decide +kernel
theorem dX0_search_0 : decode cX0_search 0 = .ok (.aload_n 0, 1) := by decide +kernel
theorem dX0_search_1 : decode cX0_search 1 = .ok (.invokevirtual 48, 3) := by decide +kernel
theorem dX0_search_4 : decode cX0_search 4 = .ok (.aload_n 0, 1) := by decide +kernel
theorem dX0_search_5 : decode cX0_search 5 = .ok (.getfield 15, 3) := by decide +kernel
theorem dX0_search_8 : decode cX0_search 8 = .ok (.invokevirtual 51, 3) := by decide +kernel
theorem dX0_search_11 : decode cX0_search 11 = .ok (.istore_n 2, 1) := by decide +kernel
theorem dX0_search_12 : decode cX0_search 12 = .ok (.iconst 0, 1) := by decide +kernel
theorem dX0_search_13 : decode cX0_search 13 = .ok (.istore_n 3, 1) := by decide +kernel
theorem dX0_search_14 : decode cX0_search 14 = .ok (.iconst 0, 1) := by decide +kernel
theorem dX0_search_15 : decode cX0_search 15 = .ok (.istore 4, 2) := by decide +kernel
theorem dX0_search_17 : decode cX0_search 17 = .ok (.iconst 0, 1) := by decide +kernel
theorem dX0_search_18 : decode cX0_search 18 = .ok (.istore 5, 2) := by decide +kernel
theorem dX0_search_20 : decode cX0_search 20 = .ok (.iconst 0, 1) := by decide +kernel
theorem dX0_search_21 : decode cX0_search 21 = .ok (.istore 6, 2) := by decide +kernel
theorem dX0_search_23 : decode cX0_search 23 = .ok (.iload 6, 2) := by decide +kernel
theorem dX0_search_25 : decode cX0_search 25 = .ok (.aload_n 0, 1) := by decide +kernel
theorem dX0_search_26 : decode cX0_search 26 = .ok (.getfield 15, 3) := by decide +kernel
theorem dX0_search_29 : decode cX0_search 29 = .ok (.getfield 57, 3) := by decide +kernel
theorem dX0_search_32 : decode cX0_search 32 = .ok (.if_icmp .ge 229, 3) := by decide +kernel
theorem dX0_search_35 : decode cX0_search 35 = .ok (.iload_n 3, 1) := by decide +kernel
theorem dX0_search_36 : decode cX0_search 36 = .ok (.iload 6, 2) := by decide +kernel
theorem dX0_search_38 : decode cX0_search 38 = .ok (.invokestatic 60, 3) := by decide +kernel
theorem dX0_search_41 : decode cX0_search 41 = .ok (.istore_n 3, 1) := by decide +kernel
theorem dX0_search_42 : decode cX0_search 42 = .ok (.iload_n 3, 1) := by decide +kernel
theorem dX0_search_43 : decode cX0_search 43 = .ok (.aload_n 0, 1) := by decide +kernel
theorem dX0_search_44 : decode cX0_search 44 = .ok (.getfield 15, 3) := by decide +kernel
theorem dX0_search_47 : decode cX0_search 47 = .ok (.getfield 57, 3) := by decide +kernel
theorem dX0_search_50 : decode cX0_search 50 = .ok (.if_icmp .ge 65, 3) := by decide +kernel
theorem dX0_search_53 : decode cX0_search 53 = .ok (.iload 4, 2) := by decide +kernel
theorem dX0_search_55 : decode cX0_search 55 = .ok (.iload_n 1, 1) := by decide +kernel
theorem dX0_search_56 : decode cX0_search 56 = .ok (.if_icmp .ge 59, 3) := by decide +kernel
theorem dX0_search_59 : decode cX0_search 59 = .ok (.aload_n 0, 1) := by decide +kernel
theorem dX0_search_60 : decode cX0_search 60 = .ok (.getfield 15, 3) := by decide +kernel
theorem dX0_search_63 : decode cX0_search 63 = .ok (.getfield 63, 3) := by decide +kernel
theorem dX0_search_66 : decode cX0_search 66 = .ok (.iload_n 3, 1) := by decide +kernel
theorem dX0_search_67 : decode cX0_search 67 = .ok (.iaload, 1) := by decide +kernel
theorem dX0_search_68 : decode cX0_search 68 = .ok (.iconst 2, 1) := by decide +kernel
theorem dX0_search_69 : decode cX0_search 69 = .ok (.if_icmp .eq 46, 3) := by decide +kernel
theorem dX0_search_72 : decode cX0_search 72 = .ok (.iload 4, 2) := by decide +kernel
theorem dX0_search_74 : decode cX0_search 74 = .ok (.aload_n 0, 1) := by decide +kernel
theorem dX0_search_75 : decode cX0_search 75 = .ok (.getfield 15, 3) := by decide +kernel
theorem dX0_search_78 : decode cX0_search 78 = .ok (.getfield 66, 3) := by decide +kernel
theorem dX0_search_81 : decode cX0_search 81 = .ok (.iload_n 3, 1) := by decide +kernel
theorem dX0_search_82 : decode cX0_search 82 = .ok (.iaload, 1) := by decide +kernel
theorem dX0_search_83 : decode cX0_search 83 = .ok (.iadd, 1) := by decide +kernel
theorem dX0_search_84 : decode cX0_search 84 = .ok (.istore 4, 2) := by decide +kernel
theorem dX0_search_86 : decode cX0_search 86 = .ok (.iload 5, 2) := by decide +kernel
theorem dX0_search_88 : decode cX0_search 88 = .ok (.aload_n 0, 1) := by decide +kernel
theorem dX0_search_89 : decode cX0_search 89 = .ok (.getfield 15, 3) := by decide +kernel
theorem dX0_search_92 : decode cX0_search 92 = .ok (.getfield 63, 3) := by decide +kernel
theorem dX0_search_95 : decode cX0_search 95 = .ok (.iload_n 3, 1) := by decide +kernel
theorem dX0_search_96 : decode cX0_search 96 = .ok (.iaload, 1) := by decide +kernel
theorem dX0_search_97 : decode cX0_search 97 = .ok (.iconst 1, 1) := by decide +kernel
theorem dX0_search_98 : decode cX0_search 98 = .ok (.if_icmp .ne 7, 3) := by decide +kernel
theorem dX0_search_101 : decode cX0_search 101 = .ok (.iconst 1, 1) := by decide +kernel
theorem dX0_search_102 : decode cX0_search 102 = .ok (.goto 4, 3) := by decide +kernel
theorem dX0_search_105 : decode cX0_search 105 = .ok (.iconst 0, 1) := by decide +kernel
theorem dX0_search_106 : decode cX0_search 106 = .ok (.iadd, 1) := by decide +kernel
theorem dX0_search_107 : decode cX0_search 107 = .ok (.istore 5, 2) := by decide +kernel
theorem dX0_search_109 : decode cX0_search 109 = .ok (.iinc 3 1, 3) := by decide +kernel
theorem dX0_search_112 : decode cX0_search 112 = .ok (.goto (-70), 3) := by decide +kernel
theorem dX0_search_115 : decode cX0_search 115 = .ok (.iload 4, 2) := by decide +kernel
theorem dX0_search_117 : decode cX0_search 117 = .ok (.iload_n 1, 1) := by decide +kernel
theorem dX0_search_118 : decode cX0_search 118 = .ok (.if_icmp .lt 13, 3) := by decide +kernel
theorem dX0_search_121 : decode cX0_search 121 = .ok (.iload 4, 2) := by decide +kernel
theorem dX0_search_123 : decode cX0_search 123 = .ok (.iload_n 2, 1) := by decide +kernel
theorem dX0_search_124 : decode cX0_search 124 = .ok (.if_icmp .gt 7, 3) := by decide +kernel
theorem dX0_search_127 : decode cX0_search 127 = .ok (.iconst 1, 1) := by decide +kernel
theorem dX0_search_128 : decode cX0_search 128 = .ok (.goto 4, 3) := by decide +kernel
theorem dX0_search_131 : decode cX0_search 131 = .ok (.iconst 0, 1) := by decide +kernel
theorem dX0_search_132 : decode cX0_search 132 = .ok (.istore 7, 2) := by decide +kernel
theorem dX0_search_134 : decode cX0_search 134 = .ok (.aload_n 0, 1) := by decide +kernel
theorem dX0_search_135 : decode cX0_search 135 = .ok (.getfield 40, 3) := by decide +kernel
theorem dX0_search_138 : decode cX0_search 138 = .ok (.ifCond .eq 15, 3) := by decide +kernel
theorem dX0_search_141 : decode cX0_search 141 = .ok (.iload 5, 2) := by decide +kernel
theorem dX0_search_143 : decode cX0_search 143 = .ok (.aload_n 0, 1) := by decide +kernel
theorem dX0_search_144 : decode cX0_search 144 = .ok (.getfield 26, 3) := by decide +kernel
theorem dX0_search_147 : decode cX0_search 147 = .ok (.getfield 44, 3) := by decide +kernel
theorem dX0_search_150 : decode cX0_search 150 = .ok (.if_icmp .ge 7, 3) := by decide +kernel
theorem dX0_search_153 : decode cX0_search 153 = .ok (.iconst 1, 1) := by decide +kernel
theorem dX0_search_154 : decode cX0_search 154 = .ok (.goto 4, 3) := by decide +kernel
theorem dX0_search_157 : decode cX0_search 157 = .ok (.iconst 0, 1) := by decide +kernel
theorem dX0_search_158 : decode cX0_search 158 = .ok (.istore 8, 2) := by decide +kernel
theorem dX0_search_160 : decode cX0_search 160 = .ok (.iload 7, 2) := by decide +kernel
theorem dX0_search_162 : decode cX0_search 162 = .ok (.ifCond .eq 48, 3) := by decide +kernel
theorem dX0_search_165 : decode cX0_search 165 = .ok (.iload 8, 2) := by decide +kernel
theorem dX0_search_167 : decode cX0_search 167 = .ok (.ifCond .eq 43, 3) := by decide +kernel
theorem dX0_search_170 : decode cX0_search 170 = .ok (.aload_n 0, 1) := by decide +kernel
theorem dX0_search_171 : decode cX0_search 171 = .ok (.iload 6, 2) := by decide +kernel
theorem dX0_search_173 : decode cX0_search 173 = .ok (.iload_n 3, 1) := by decide +kernel
theorem dX0_search_174 : decode cX0_search 174 = .ok (.invokevirtual 69, 3) := by decide +kernel
theorem dX0_search_177 : decode cX0_search 177 = .ok (.ifCond .eq 33, 3) := by decide +kernel
theorem dX0_search_180 : decode cX0_search 180 = .ok (.aload_n 0, 1) := by decide +kernel
theorem dX0_search_181 : decode cX0_search 181 = .ok (.iconst 1, 1) := by decide +kernel
theorem dX0_search_182 : decode cX0_search 182 = .ok (.putfield 40, 3) := by decide +kernel
theorem dX0_search_185 : decode cX0_search 185 = .ok (.aload_n 0, 1) := by decide +kernel
theorem dX0_search_186 : decode cX0_search 186 = .ok (.aload_n 0, 1) := by decide +kernel
theorem dX0_search_187 : decode cX0_search 187 = .ok (.getfield 15, 3) := by decide +kernel
theorem dX0_search_190 : decode cX0_search 190 = .ok (.getfield 73, 3) := by decide +kernel
theorem dX0_search_193 : decode cX0_search 193 = .ok (.iload 6, 2) := by decide +kernel
theorem dX0_search_195 : decode cX0_search 195 = .ok (.iaload, 1) := by decide +kernel
theorem dX0_search_196 : decode cX0_search 196 = .ok (.putfield 76, 3) := by decide +kernel
theorem dX0_search_199 : decode cX0_search 199 = .ok (.aload_n 0, 1) := by decide +kernel
theorem dX0_search_200 : decode cX0_search 200 = .ok (.getfield 26, 3) := by decide +kernel
theorem dX0_search_203 : decode cX0_search 203 = .ok (.aload_n 0, 1) := by decide +kernel
theorem dX0_search_204 : decode cX0_search 204 = .ok (.getfield 30, 3) := by decide +kernel
theorem dX0_search_207 : decode cX0_search 207 = .ok (.invokevirtual 79, 3) := by decide +kernel
theorem dX0_search_210 : decode cX0_search 210 = .ok (.iload 6, 2) := by decide +kernel
theorem dX0_search_212 : decode cX0_search 212 = .ok (.iload_n 3, 1) := by decide +kernel
theorem dX0_search_213 : decode cX0_search 213 = .ok (.if_icmp .ge 42, 3) := by decide +kernel
theorem dX0_search_216 : decode cX0_search 216 = .ok (.iload 4, 2) := by decide +kernel
theorem dX0_search_218 : decode cX0_search 218 = .ok (.aload_n 0, 1) := by decide +kernel
theorem dX0_search_219 : decode cX0_search 219 = .ok (.getfield 15, 3) := by decide +kernel
theorem dX0_search_222 : decode cX0_search 222 = .ok (.getfield 66, 3) := by decide +kernel
theorem dX0_search_225 : decode cX0_search 225 = .ok (.iload 6, 2) := by decide +kernel
theorem dX0_search_227 : decode cX0_search 227 = .ok (.iaload, 1) := by decide +kernel
theorem dX0_search_228 : decode cX0_search 228 = .ok (.isub, 1) := by decide +kernel
theorem dX0_search_229 : decode cX0_search 229 = .ok (.istore 4, 2) := by decide +kernel
theorem dX0_search_231 : decode cX0_search 231 = .ok (.iload 5, 2) := by decide +kernel
theorem dX0_search_233 : decode cX0_search 233 = .ok (.aload_n 0, 1) := by decide +kernel
theorem dX0_search_234 : decode cX0_search 234 = .ok (.getfield 15, 3) := by decide +kernel
theorem dX0_search_237 : decode cX0_search 237 = .ok (.getfield 63, 3) := by decide +kernel
theorem dX0_search_240 : decode cX0_search 240 = .ok (.iload 6, 2) := by decide +kernel
theorem dX0_search_242 : decode cX0_search 242 = .ok (.iaload, 1) := by decide +kernel
theorem dX0_search_243 : decode cX0_search 243 = .ok (.iconst 1, 1) := by decide +kernel
theorem dX0_search_244 : decode cX0_search 244 = .ok (.if_icmp .ne 7, 3) := by decide +kernel
theorem dX0_search_247 : decode cX0_search 247 = .ok (.iconst 1, 1) := by decide +kernel
theorem dX0_search_248 : decode cX0_search 248 = .ok (.goto 4, 3) := by decide +kernel
theorem dX0_search_251 : decode cX0_search 251 = .ok (.iconst 0, 1) := by decide +kernel
theorem dX0_search_252 : decode cX0_search 252 = .ok (.isub, 1) := by decide +kernel
theorem dX0_search_253 : decode cX0_search 253 = .ok (.istore 5, 2) := by decide +kernel
theorem dX0_search_255 : decode cX0_search 255 = .ok (.iinc 6 1, 3) := by decide +kernel
theorem dX0_search_258 : decode cX0_search 258 = .ok (.goto (-235), 3) := by decide +kernel
theorem dX0_search_261 : decode cX0_search 261 = .ok (.return_, 1) := by decide +kernel
theorem dX0_rankMovables_0 : decode cX0_rankMovables 0 = .ok (.aload_n 0, 1) := by decide +kernel
theorem dX0_rankMovables_1 : decode cX0_rankMovables 1 = .ok (.iconst 0, 1) := by decide +kernel
theorem dX0_rankMovables_2 : decode cX0_rankMovables 2 = .ok (.putfield 83, 3) := by decide +kernel
theorem dX0_rankMovables_5 : decode cX0_rankMovables 5 = .ok (.iconst 0, 1) := by decide +kernel
theorem dX0_rankMovables_6 : decode cX0_rankMovables 6 = .ok (.istore_n 1, 1) := by decide +kernel
theorem dX0_rankMovables_7 : decode cX0_rankMovables 7 = .ok (.iload_n 1, 1) := by decide +kernel
theorem dX0_rankMovables_8 : decode cX0_rankMovables 8 = .ok (.aload_n 0, 1) := by decide +kernel
theorem dX0_rankMovables_9 : decode cX0_rankMovables 9 = .ok (.getfield 15, 3) := by decide +kernel
theorem dX0_rankMovables_12 : decode cX0_rankMovables 12 = .ok (.getfield 57, 3) := by decide +kernel
theorem dX0_rankMovables_15 : decode cX0_rankMovables 15 = .ok (.if_icmp .ge 108, 3) := by decide +kernel
theorem dX0_rankMovables_18 : decode cX0_rankMovables 18 = .ok (.aload_n 0, 1) := by decide +kernel
theorem dX0_rankMovables_19 : decode cX0_rankMovables 19 = .ok (.getfield 83, 3) := by decide +kernel
theorem dX0_rankMovables_22 : decode cX0_rankMovables 22 = .ok (.aload_n 0, 1) := by decide +kernel
theorem dX0_rankMovables_23 : decode cX0_rankMovables 23 = .ok (.getfield 33, 3) := by decide +kernel
theorem dX0_rankMovables_26 : decode cX0_rankMovables 26 = .ok (.arraylength, 1) := by decide +kernel
theorem dX0_rankMovables_27 : decode cX0_rankMovables 27 = .ok (.if_icmp .ge 96, 3) := by decide +kernel
theorem dX0_rankMovables_30 : decode cX0_rankMovables 30 = .ok (.aload_n 0, 1) := by decide +kernel
theorem dX0_rankMovables_31 : decode cX0_rankMovables 31 = .ok (.getfield 15, 3) := by decide +kernel
theorem dX0_rankMovables_34 : decode cX0_rankMovables 34 = .ok (.getfield 63, 3) := by decide +kernel
theorem dX0_rankMovables_37 : decode cX0_rankMovables 37 = .ok (.iload_n 1, 1) := by decide +kernel
theorem dX0_rankMovables_38 : decode cX0_rankMovables 38 = .ok (.iaload, 1) := by decide +kernel
theorem dX0_rankMovables_39 : decode cX0_rankMovables 39 = .ok (.iconst 1, 1) := by decide +kernel
theorem dX0_rankMovables_40 : decode cX0_rankMovables 40 = .ok (.if_icmp .ne 77, 3) := by decide +kernel
theorem dX0_rankMovables_43 : decode cX0_rankMovables 43 = .ok (.aload_n 0, 1) := by decide +kernel
theorem dX0_rankMovables_44 : decode cX0_rankMovables 44 = .ok (.getfield 83, 3) := by decide +kernel
theorem dX0_rankMovables_47 : decode cX0_rankMovables 47 = .ok (.istore_n 2, 1) := by decide +kernel
theorem dX0_rankMovables_48 : decode cX0_rankMovables 48 = .ok (.iload_n 2, 1) := by decide +kernel
theorem dX0_rankMovables_49 : decode cX0_rankMovables 49 = .ok (.ifCond .le 51, 3) := by decide +kernel
theorem dX0_rankMovables_52 : decode cX0_rankMovables 52 = .ok (.aload_n 0, 1) := by decide +kernel
theorem dX0_rankMovables_53 : decode cX0_rankMovables 53 = .ok (.getfield 15, 3) := by decide +kernel
theorem dX0_rankMovables_56 : decode cX0_rankMovables 56 = .ok (.getfield 66, 3) := by decide +kernel
theorem dX0_rankMovables_59 : decode cX0_rankMovables 59 = .ok (.aload_n 0, 1) := by decide +kernel
theorem dX0_rankMovables_60 : decode cX0_rankMovables 60 = .ok (.getfield 33, 3) := by decide +kernel
theorem dX0_rankMovables_63 : decode cX0_rankMovables 63 = .ok (.iload_n 2, 1) := by decide +kernel
theorem dX0_rankMovables_64 : decode cX0_rankMovables 64 = .ok (.iconst 1, 1) := by decide +kernel
theorem dX0_rankMovables_65 : decode cX0_rankMovables 65 = .ok (.isub, 1) := by decide +kernel
theorem dX0_rankMovables_66 : decode cX0_rankMovables 66 = .ok (.iaload, 1) := by decide +kernel
theorem dX0_rankMovables_67 : decode cX0_rankMovables 67 = .ok (.iaload, 1) := by decide +kernel
theorem dX0_rankMovables_68 : decode cX0_rankMovables 68 = .ok (.aload_n 0, 1) := by decide +kernel
theorem dX0_rankMovables_69 : decode cX0_rankMovables 69 = .ok (.getfield 15, 3) := by decide +kernel
theorem dX0_rankMovables_72 : decode cX0_rankMovables 72 = .ok (.getfield 66, 3) := by decide +kernel
theorem dX0_rankMovables_75 : decode cX0_rankMovables 75 = .ok (.iload_n 1, 1) := by decide +kernel
theorem dX0_rankMovables_76 : decode cX0_rankMovables 76 = .ok (.iaload, 1) := by decide +kernel
theorem dX0_rankMovables_77 : decode cX0_rankMovables 77 = .ok (.if_icmp .ge 23, 3) := by decide +kernel
theorem dX0_rankMovables_80 : decode cX0_rankMovables 80 = .ok (.aload_n 0, 1) := by decide +kernel
theorem dX0_rankMovables_81 : decode cX0_rankMovables 81 = .ok (.getfield 33, 3) := by decide +kernel
theorem dX0_rankMovables_84 : decode cX0_rankMovables 84 = .ok (.iload_n 2, 1) := by decide +kernel
theorem dX0_rankMovables_85 : decode cX0_rankMovables 85 = .ok (.aload_n 0, 1) := by decide +kernel
theorem dX0_rankMovables_86 : decode cX0_rankMovables 86 = .ok (.getfield 33, 3) := by decide +kernel
theorem dX0_rankMovables_89 : decode cX0_rankMovables 89 = .ok (.iload_n 2, 1) := by decide +kernel
theorem dX0_rankMovables_90 : decode cX0_rankMovables 90 = .ok (.iconst 1, 1) := by decide +kernel
theorem dX0_rankMovables_91 : decode cX0_rankMovables 91 = .ok (.isub, 1) := by decide +kernel
theorem dX0_rankMovables_92 : decode cX0_rankMovables 92 = .ok (.iaload, 1) := by decide +kernel
theorem dX0_rankMovables_93 : decode cX0_rankMovables 93 = .ok (.iastore, 1) := by decide +kernel
theorem dX0_rankMovables_94 : decode cX0_rankMovables 94 = .ok (.iinc 2 (-1), 3) := by decide +kernel
theorem dX0_rankMovables_97 : decode cX0_rankMovables 97 = .ok (.goto (-49), 3) := by decide +kernel
theorem dX0_rankMovables_100 : decode cX0_rankMovables 100 = .ok (.aload_n 0, 1) := by decide +kernel
theorem dX0_rankMovables_101 : decode cX0_rankMovables 101 = .ok (.getfield 33, 3) := by decide +kernel
theorem dX0_rankMovables_104 : decode cX0_rankMovables 104 = .ok (.iload_n 2, 1) := by decide +kernel
theorem dX0_rankMovables_105 : decode cX0_rankMovables 105 = .ok (.iload_n 1, 1) := by decide +kernel
theorem dX0_rankMovables_106 : decode cX0_rankMovables 106 = .ok (.iastore, 1) := by decide +kernel
theorem dX0_rankMovables_107 : decode cX0_rankMovables 107 = .ok (.aload_n 0, 1) := by decide +kernel
theorem dX0_rankMovables_108 : decode cX0_rankMovables 108 = .ok (.dup, 1) := by decide +kernel
theorem dX0_rankMovables_109 : decode cX0_rankMovables 109 = .ok (.getfield 83, 3) := by decide +kernel
theorem dX0_rankMovables_112 : decode cX0_rankMovables 112 = .ok (.iconst 1, 1) := by decide +kernel
theorem dX0_rankMovables_113 : decode cX0_rankMovables 113 = .ok (.iadd, 1) := by decide +kernel
theorem dX0_rankMovables_114 : decode cX0_rankMovables 114 = .ok (.putfield 83, 3) := by decide +kernel
theorem dX0_rankMovables_117 : decode cX0_rankMovables 117 = .ok (.iinc 1 1, 3) := by decide +kernel
theorem dX0_rankMovables_120 : decode cX0_rankMovables 120 = .ok (.goto (-113), 3) := by decide +kernel
theorem dX0_rankMovables_123 : decode cX0_rankMovables 123 = .ok (.return_, 1) := by decide +kernel
theorem dX0_placeVictims_0 : decode cX0_placeVictims 0 = .ok (.aload_n 0, 1) := by decide +kernel
theorem dX0_placeVictims_1 : decode cX0_placeVictims 1 = .ok (.getfield 30, 3) := by decide +kernel
theorem dX0_placeVictims_4 : decode cX0_placeVictims 4 = .ok (.iconst 0, 1) := by decide +kernel
theorem dX0_placeVictims_5 : decode cX0_placeVictims 5 = .ok (.putfield 44, 3) := by decide +kernel
theorem dX0_placeVictims_8 : decode cX0_placeVictims 8 = .ok (.iconst 0, 1) := by decide +kernel
theorem dX0_placeVictims_9 : decode cX0_placeVictims 9 = .ok (.istore_n 3, 1) := by decide +kernel
theorem dX0_placeVictims_10 : decode cX0_placeVictims 10 = .ok (.iload_n 3, 1) := by decide +kernel
theorem dX0_placeVictims_11 : decode cX0_placeVictims 11 = .ok (.aload_n 0, 1) := by decide +kernel
theorem dX0_placeVictims_12 : decode cX0_placeVictims 12 = .ok (.getfield 15, 3) := by decide +kernel
theorem dX0_placeVictims_15 : decode cX0_placeVictims 15 = .ok (.getfield 57, 3) := by decide +kernel
theorem dX0_placeVictims_18 : decode cX0_placeVictims 18 = .ok (.if_icmp .ge 62, 3) := by decide +kernel
theorem dX0_placeVictims_21 : decode cX0_placeVictims 21 = .ok (.iload_n 3, 1) := by decide +kernel
theorem dX0_placeVictims_22 : decode cX0_placeVictims 22 = .ok (.iload_n 1, 1) := by decide +kernel
theorem dX0_placeVictims_23 : decode cX0_placeVictims 23 = .ok (.if_icmp .lt 8, 3) := by decide +kernel
theorem dX0_placeVictims_26 : decode cX0_placeVictims 26 = .ok (.iload_n 3, 1) := by decide +kernel
theorem dX0_placeVictims_27 : decode cX0_placeVictims 27 = .ok (.iload_n 2, 1) := by decide +kernel
theorem dX0_placeVictims_28 : decode cX0_placeVictims 28 = .ok (.if_icmp .lt 7, 3) := by decide +kernel
theorem dX0_placeVictims_31 : decode cX0_placeVictims 31 = .ok (.iconst 1, 1) := by decide +kernel
theorem dX0_placeVictims_32 : decode cX0_placeVictims 32 = .ok (.goto 4, 3) := by decide +kernel
theorem dX0_placeVictims_35 : decode cX0_placeVictims 35 = .ok (.iconst 0, 1) := by decide +kernel
theorem dX0_placeVictims_36 : decode cX0_placeVictims 36 = .ok (.istore 4, 2) := by decide +kernel
theorem dX0_placeVictims_38 : decode cX0_placeVictims 38 = .ok (.aload_n 0, 1) := by decide +kernel
theorem dX0_placeVictims_39 : decode cX0_placeVictims 39 = .ok (.getfield 37, 3) := by decide +kernel
theorem dX0_placeVictims_42 : decode cX0_placeVictims 42 = .ok (.iload_n 3, 1) := by decide +kernel
theorem dX0_placeVictims_43 : decode cX0_placeVictims 43 = .ok (.iload 4, 2) := by decide +kernel
theorem dX0_placeVictims_45 : decode cX0_placeVictims 45 = .ok (.ifCond .eq 27, 3) := by decide +kernel
theorem dX0_placeVictims_48 : decode cX0_placeVictims 48 = .ok (.aload_n 0, 1) := by decide +kernel
theorem dX0_placeVictims_49 : decode cX0_placeVictims 49 = .ok (.getfield 15, 3) := by decide +kernel
theorem dX0_placeVictims_52 : decode cX0_placeVictims 52 = .ok (.getfield 63, 3) := by decide +kernel
theorem dX0_placeVictims_55 : decode cX0_placeVictims 55 = .ok (.iload_n 3, 1) := by decide +kernel
theorem dX0_placeVictims_56 : decode cX0_placeVictims 56 = .ok (.iaload, 1) := by decide +kernel
theorem dX0_placeVictims_57 : decode cX0_placeVictims 57 = .ok (.ifCond .ne 15, 3) := by decide +kernel
theorem dX0_placeVictims_60 : decode cX0_placeVictims 60 = .ok (.aload_n 0, 1) := by decide +kernel
theorem dX0_placeVictims_61 : decode cX0_placeVictims 61 = .ok (.getfield 15, 3) := by decide +kernel
theorem dX0_placeVictims_64 : decode cX0_placeVictims 64 = .ok (.getfield 66, 3) := by decide +kernel
theorem dX0_placeVictims_67 : decode cX0_placeVictims 67 = .ok (.iload_n 3, 1) := by decide +kernel
theorem dX0_placeVictims_68 : decode cX0_placeVictims 68 = .ok (.iaload, 1) := by decide +kernel
theorem dX0_placeVictims_69 : decode cX0_placeVictims 69 = .ok (.goto 4, 3) := by decide +kernel
theorem dX0_placeVictims_72 : decode cX0_placeVictims 72 = .ok (.iconst 0, 1) := by decide +kernel
theorem dX0_placeVictims_73 : decode cX0_placeVictims 73 = .ok (.iastore, 1) := by decide +kernel
theorem dX0_placeVictims_74 : decode cX0_placeVictims 74 = .ok (.iinc 3 1, 3) := by decide +kernel
theorem dX0_placeVictims_77 : decode cX0_placeVictims 77 = .ok (.goto (-67), 3) := by decide +kernel
theorem dX0_placeVictims_80 : decode cX0_placeVictims 80 = .ok (.iconst 0, 1) := by decide +kernel
theorem dX0_placeVictims_81 : decode cX0_placeVictims 81 = .ok (.istore_n 3, 1) := by decide +kernel
theorem dX0_placeVictims_82 : decode cX0_placeVictims 82 = .ok (.iconst 0, 1) := by decide +kernel
theorem dX0_placeVictims_83 : decode cX0_placeVictims 83 = .ok (.istore 4, 2) := by decide +kernel
theorem dX0_placeVictims_85 : decode cX0_placeVictims 85 = .ok (.iconst 0, 1) := by decide +kernel
theorem dX0_placeVictims_86 : decode cX0_placeVictims 86 = .ok (.istore 5, 2) := by decide +kernel
theorem dX0_placeVictims_88 : decode cX0_placeVictims 88 = .ok (.iload 5, 2) := by decide +kernel
theorem dX0_placeVictims_90 : decode cX0_placeVictims 90 = .ok (.aload_n 0, 1) := by decide +kernel
theorem dX0_placeVictims_91 : decode cX0_placeVictims 91 = .ok (.getfield 83, 3) := by decide +kernel
theorem dX0_placeVictims_94 : decode cX0_placeVictims 94 = .ok (.if_icmp .ge 130, 3) := by decide +kernel
theorem dX0_placeVictims_97 : decode cX0_placeVictims 97 = .ok (.aload_n 0, 1) := by decide +kernel
theorem dX0_placeVictims_98 : decode cX0_placeVictims 98 = .ok (.getfield 33, 3) := by decide +kernel
theorem dX0_placeVictims_101 : decode cX0_placeVictims 101 = .ok (.iload 5, 2) := by decide +kernel
theorem dX0_placeVictims_103 : decode cX0_placeVictims 103 = .ok (.iaload, 1) := by decide +kernel
theorem dX0_placeVictims_104 : decode cX0_placeVictims 104 = .ok (.istore 6, 2) := by decide +kernel
theorem dX0_placeVictims_106 : decode cX0_placeVictims 106 = .ok (.iload 6, 2) := by decide +kernel
theorem dX0_placeVictims_108 : decode cX0_placeVictims 108 = .ok (.iload_n 1, 1) := by decide +kernel
theorem dX0_placeVictims_109 : decode cX0_placeVictims 109 = .ok (.if_icmp .lt 109, 3) := by decide +kernel
theorem dX0_placeVictims_112 : decode cX0_placeVictims 112 = .ok (.iload 6, 2) := by decide +kernel
theorem dX0_placeVictims_114 : decode cX0_placeVictims 114 = .ok (.iload_n 2, 1) := by decide +kernel
theorem dX0_placeVictims_115 : decode cX0_placeVictims 115 = .ok (.if_icmp .ge 103, 3) := by decide +kernel
theorem dX0_placeVictims_118 : decode cX0_placeVictims 118 = .ok (.aload_n 0, 1) := by decide +kernel
theorem dX0_placeVictims_119 : decode cX0_placeVictims 119 = .ok (.aload_n 0, 1) := by decide +kernel
theorem dX0_placeVictims_120 : decode cX0_placeVictims 120 = .ok (.getfield 15, 3) := by decide +kernel
theorem dX0_placeVictims_123 : decode cX0_placeVictims 123 = .ok (.getfield 66, 3) := by decide +kernel
theorem dX0_placeVictims_126 : decode cX0_placeVictims 126 = .ok (.iload 6, 2) := by decide +kernel
theorem dX0_placeVictims_128 : decode cX0_placeVictims 128 = .ok (.iaload, 1) := by decide +kernel
theorem dX0_placeVictims_129 : decode cX0_placeVictims 129 = .ok (.iload_n 3, 1) := by decide +kernel
theorem dX0_placeVictims_130 : decode cX0_placeVictims 130 = .ok (.if_icmp .ne 8, 3) := by decide +kernel
theorem dX0_placeVictims_133 : decode cX0_placeVictims 133 = .ok (.iload 4, 2) := by decide +kernel
theorem dX0_placeVictims_135 : decode cX0_placeVictims 135 = .ok (.goto 4, 3) := by decide +kernel
theorem dX0_placeVictims_138 : decode cX0_placeVictims 138 = .ok (.iconst 0, 1) := by decide +kernel
theorem dX0_placeVictims_139 : decode cX0_placeVictims 139 = .ok (.aload_n 0, 1) := by decide +kernel
theorem dX0_placeVictims_140 : decode cX0_placeVictims 140 = .ok (.getfield 15, 3) := by decide +kernel
theorem dX0_placeVictims_143 : decode cX0_placeVictims 143 = .ok (.getfield 66, 3) := by decide +kernel
theorem dX0_placeVictims_146 : decode cX0_placeVictims 146 = .ok (.iload 6, 2) := by decide +kernel
theorem dX0_placeVictims_148 : decode cX0_placeVictims 148 = .ok (.iaload, 1) := by decide +kernel
theorem dX0_placeVictims_149 : decode cX0_placeVictims 149 = .ok (.invokevirtual 86, 3) := by decide +kernel
theorem dX0_placeVictims_152 : decode cX0_placeVictims 152 = .ok (.istore 4, 2) := by decide +kernel
theorem dX0_placeVictims_154 : decode cX0_placeVictims 154 = .ok (.iload 4, 2) := by decide +kernel
theorem dX0_placeVictims_156 : decode cX0_placeVictims 156 = .ok (.iconst (-1), 1) := by decide +kernel
theorem dX0_placeVictims_157 : decode cX0_placeVictims 157 = .ok (.if_icmp .ne 5, 3) := by decide +kernel
theorem dX0_placeVictims_160 : decode cX0_placeVictims 160 = .ok (.iconst 0, 1) := by decide +kernel
theorem dX0_placeVictims_161 : decode cX0_placeVictims 161 = .ok (.ireturn, 1) := by decide +kernel
theorem dX0_placeVictims_162 : decode cX0_placeVictims 162 = .ok (.aload_n 0, 1) := by decide +kernel
theorem dX0_placeVictims_163 : decode cX0_placeVictims 163 = .ok (.getfield 15, 3) := by decide +kernel
theorem dX0_placeVictims_166 : decode cX0_placeVictims 166 = .ok (.getfield 66, 3) := by decide +kernel
theorem dX0_placeVictims_169 : decode cX0_placeVictims 169 = .ok (.iload 6, 2) := by decide +kernel
theorem dX0_placeVictims_171 : decode cX0_placeVictims 171 = .ok (.iaload, 1) := by decide +kernel
theorem dX0_placeVictims_172 : decode cX0_placeVictims 172 = .ok (.istore_n 3, 1) := by decide +kernel
theorem dX0_placeVictims_173 : decode cX0_placeVictims 173 = .ok (.aload_n 0, 1) := by decide +kernel
theorem dX0_placeVictims_174 : decode cX0_placeVictims 174 = .ok (.getfield 30, 3) := by decide +kernel
theorem dX0_placeVictims_177 : decode cX0_placeVictims 177 = .ok (.aload_n 0, 1) := by decide +kernel
theorem dX0_placeVictims_178 : decode cX0_placeVictims 178 = .ok (.getfield 15, 3) := by decide +kernel
theorem dX0_placeVictims_181 : decode cX0_placeVictims 181 = .ok (.getfield 73, 3) := by decide +kernel
theorem dX0_placeVictims_184 : decode cX0_placeVictims 184 = .ok (.iload 6, 2) := by decide +kernel
theorem dX0_placeVictims_186 : decode cX0_placeVictims 186 = .ok (.iaload, 1) := by decide +kernel
theorem dX0_placeVictims_187 : decode cX0_placeVictims 187 = .ok (.aload_n 0, 1) := by decide +kernel
theorem dX0_placeVictims_188 : decode cX0_placeVictims 188 = .ok (.getfield 15, 3) := by decide +kernel
theorem dX0_placeVictims_191 : decode cX0_placeVictims 191 = .ok (.iload 4, 2) := by decide +kernel
theorem dX0_placeVictims_193 : decode cX0_placeVictims 193 = .ok (.invokevirtual 89, 3) := by decide +kernel
theorem dX0_placeVictims_196 : decode cX0_placeVictims 196 = .ok (.aload_n 0, 1) := by decide +kernel
theorem dX0_placeVictims_197 : decode cX0_placeVictims 197 = .ok (.getfield 37, 3) := by decide +kernel
theorem dX0_placeVictims_200 : decode cX0_placeVictims 200 = .ok (.iload 4, 2) := by decide +kernel
theorem dX0_placeVictims_202 : decode cX0_placeVictims 202 = .ok (.iaload, 1) := by decide +kernel
theorem dX0_placeVictims_203 : decode cX0_placeVictims 203 = .ok (.isub, 1) := by decide +kernel
theorem dX0_placeVictims_204 : decode cX0_placeVictims 204 = .ok (.invokevirtual 93, 3) := by decide +kernel
theorem dX0_placeVictims_207 : decode cX0_placeVictims 207 = .ok (.aload_n 0, 1) := by decide +kernel
theorem dX0_placeVictims_208 : decode cX0_placeVictims 208 = .ok (.getfield 37, 3) := by decide +kernel
theorem dX0_placeVictims_211 : decode cX0_placeVictims 211 = .ok (.iload 4, 2) := by decide +kernel
theorem dX0_placeVictims_213 : decode cX0_placeVictims 213 = .ok (.dup2, 1) := by decide +kernel
theorem dX0_placeVictims_214 : decode cX0_placeVictims 214 = .ok (.iaload, 1) := by decide +kernel
theorem dX0_placeVictims_215 : decode cX0_placeVictims 215 = .ok (.iload_n 3, 1) := by decide +kernel
theorem dX0_placeVictims_216 : decode cX0_placeVictims 216 = .ok (.isub, 1) := by decide +kernel
theorem dX0_placeVictims_217 : decode cX0_placeVictims 217 = .ok (.iastore, 1) := by decide +kernel
theorem dX0_placeVictims_218 : decode cX0_placeVictims 218 = .ok (.iinc 5 1, 3) := by decide +kernel
theorem dX0_placeVictims_221 : decode cX0_placeVictims 221 = .ok (.goto (-133), 3) := by decide +kernel
theorem dX0_placeVictims_224 : decode cX0_placeVictims 224 = .ok (.iconst 1, 1) := by decide +kernel
theorem dX0_placeVictims_225 : decode cX0_placeVictims 225 = .ok (.ireturn, 1) := by decide +kernel
theorem dX0_lowestPlace_0 : decode cX0_lowestPlace 0 = .ok (.iload_n 1, 1) := by decide +kernel
theorem dX0_lowestPlace_1 : decode cX0_lowestPlace 1 = .ok (.istore_n 3, 1) := by decide +kernel
theorem dX0_lowestPlace_2 : decode cX0_lowestPlace 2 = .ok (.iload_n 3, 1) := by decide +kernel
theorem dX0_lowestPlace_3 : decode cX0_lowestPlace 3 = .ok (.aload_n 0, 1) := by decide +kernel
theorem dX0_lowestPlace_4 : decode cX0_lowestPlace 4 = .ok (.getfield 15, 3) := by decide +kernel
theorem dX0_lowestPlace_7 : decode cX0_lowestPlace 7 = .ok (.getfield 57, 3) := by decide +kernel
theorem dX0_lowestPlace_10 : decode cX0_lowestPlace 10 = .ok (.if_icmp .ge 21, 3) := by decide +kernel
theorem dX0_lowestPlace_13 : decode cX0_lowestPlace 13 = .ok (.aload_n 0, 1) := by decide +kernel
theorem dX0_lowestPlace_14 : decode cX0_lowestPlace 14 = .ok (.getfield 37, 3) := by decide +kernel
theorem dX0_lowestPlace_17 : decode cX0_lowestPlace 17 = .ok (.iload_n 3, 1) := by decide +kernel
theorem dX0_lowestPlace_18 : decode cX0_lowestPlace 18 = .ok (.iaload, 1) := by decide +kernel
theorem dX0_lowestPlace_19 : decode cX0_lowestPlace 19 = .ok (.iload_n 2, 1) := by decide +kernel
theorem dX0_lowestPlace_20 : decode cX0_lowestPlace 20 = .ok (.if_icmp .lt 5, 3) := by decide +kernel
theorem dX0_lowestPlace_23 : decode cX0_lowestPlace 23 = .ok (.iload_n 3, 1) := by decide +kernel
theorem dX0_lowestPlace_24 : decode cX0_lowestPlace 24 = .ok (.ireturn, 1) := by decide +kernel
theorem dX0_lowestPlace_25 : decode cX0_lowestPlace 25 = .ok (.iinc 3 1, 3) := by decide +kernel
theorem dX0_lowestPlace_28 : decode cX0_lowestPlace 28 = .ok (.goto (-26), 3) := by decide +kernel
theorem dX0_lowestPlace_31 : decode cX0_lowestPlace 31 = .ok (.iconst (-1), 1) := by decide +kernel
theorem dX0_lowestPlace_32 : decode cX0_lowestPlace 32 = .ok (.ireturn, 1) := by decide +kernel
theorem dX1_init_0 : decode cX1_init 0 = .ok (.aload_n 0, 1) := by decide +kernel
theorem dX1_init_1 : decode cX1_init 1 = .ok (.invokespecial 3, 3) := by decide +kernel
theorem dX1_init_4 : decode cX1_init 4 = .ok (.aload_n 0, 1) := by decide +kernel
theorem dX1_init_5 : decode cX1_init 5 = .ok (.iload_n 1, 1) := by decide +kernel
theorem dX1_init_6 : decode cX1_init 6 = .ok (.newarray .int, 2) := by decide +kernel
theorem dX1_init_8 : decode cX1_init 8 = .ok (.putfield 9, 3) := by decide +kernel
theorem dX1_init_11 : decode cX1_init 11 = .ok (.aload_n 0, 1) := by decide +kernel
theorem dX1_init_12 : decode cX1_init 12 = .ok (.iload_n 1, 1) := by decide +kernel
theorem dX1_init_13 : decode cX1_init 13 = .ok (.newarray .int, 2) := by decide +kernel
theorem dX1_init_15 : decode cX1_init 15 = .ok (.putfield 15, 3) := by decide +kernel
theorem dX1_init_18 : decode cX1_init 18 = .ok (.return_, 1) := by decide +kernel
theorem dX1_put_0 : decode cX1_put 0 = .ok (.aload_n 0, 1) := by decide +kernel
theorem dX1_put_1 : decode cX1_put 1 = .ok (.getfield 18, 3) := by decide +kernel
theorem dX1_put_4 : decode cX1_put 4 = .ok (.aload_n 0, 1) := by decide +kernel
theorem dX1_put_5 : decode cX1_put 5 = .ok (.getfield 9, 3) := by decide +kernel
theorem dX1_put_8 : decode cX1_put 8 = .ok (.arraylength, 1) := by decide +kernel
theorem dX1_put_9 : decode cX1_put 9 = .ok (.if_icmp .ge 33, 3) := by decide +kernel
theorem dX1_put_12 : decode cX1_put 12 = .ok (.aload_n 0, 1) := by decide +kernel
theorem dX1_put_13 : decode cX1_put 13 = .ok (.getfield 9, 3) := by decide +kernel
theorem dX1_put_16 : decode cX1_put 16 = .ok (.aload_n 0, 1) := by decide +kernel
theorem dX1_put_17 : decode cX1_put 17 = .ok (.getfield 18, 3) := by decide +kernel
theorem dX1_put_20 : decode cX1_put 20 = .ok (.iload_n 1, 1) := by decide +kernel
theorem dX1_put_21 : decode cX1_put 21 = .ok (.iastore, 1) := by decide +kernel
theorem dX1_put_22 : decode cX1_put 22 = .ok (.aload_n 0, 1) := by decide +kernel
theorem dX1_put_23 : decode cX1_put 23 = .ok (.getfield 15, 3) := by decide +kernel
theorem dX1_put_26 : decode cX1_put 26 = .ok (.aload_n 0, 1) := by decide +kernel
theorem dX1_put_27 : decode cX1_put 27 = .ok (.getfield 18, 3) := by decide +kernel
theorem dX1_put_30 : decode cX1_put 30 = .ok (.iload_n 2, 1) := by decide +kernel
theorem dX1_put_31 : decode cX1_put 31 = .ok (.iastore, 1) := by decide +kernel
theorem dX1_put_32 : decode cX1_put 32 = .ok (.aload_n 0, 1) := by decide +kernel
theorem dX1_put_33 : decode cX1_put 33 = .ok (.dup, 1) := by decide +kernel
theorem dX1_put_34 : decode cX1_put 34 = .ok (.getfield 18, 3) := by decide +kernel
theorem dX1_put_37 : decode cX1_put 37 = .ok (.iconst 1, 1) := by decide +kernel
theorem dX1_put_38 : decode cX1_put 38 = .ok (.iadd, 1) := by decide +kernel
theorem dX1_put_39 : decode cX1_put 39 = .ok (.putfield 18, 3) := by decide +kernel
theorem dX1_put_42 : decode cX1_put 42 = .ok (.return_, 1) := by decide +kernel
theorem dX1_takeOver_0 : decode cX1_takeOver 0 = .ok (.aload_n 0, 1) := by decide +kernel
theorem dX1_takeOver_1 : decode cX1_takeOver 1 = .ok (.iconst 0, 1) := by decide +kernel
theorem dX1_takeOver_2 : decode cX1_takeOver 2 = .ok (.putfield 18, 3) := by decide +kernel
theorem dX1_takeOver_5 : decode cX1_takeOver 5 = .ok (.iconst 0, 1) := by decide +kernel
theorem dX1_takeOver_6 : decode cX1_takeOver 6 = .ok (.istore_n 2, 1) := by decide +kernel
theorem dX1_takeOver_7 : decode cX1_takeOver 7 = .ok (.iload_n 2, 1) := by decide +kernel
theorem dX1_takeOver_8 : decode cX1_takeOver 8 = .ok (.aload_n 1, 1) := by decide +kernel
theorem dX1_takeOver_9 : decode cX1_takeOver 9 = .ok (.getfield 18, 3) := by decide +kernel
theorem dX1_takeOver_12 : decode cX1_takeOver 12 = .ok (.if_icmp .ge 25, 3) := by decide +kernel
theorem dX1_takeOver_15 : decode cX1_takeOver 15 = .ok (.aload_n 0, 1) := by decide +kernel
theorem dX1_takeOver_16 : decode cX1_takeOver 16 = .ok (.aload_n 1, 1) := by decide +kernel
theorem dX1_takeOver_17 : decode cX1_takeOver 17 = .ok (.getfield 9, 3) := by decide +kernel
theorem dX1_takeOver_20 : decode cX1_takeOver 20 = .ok (.iload_n 2, 1) := by decide +kernel
theorem dX1_takeOver_21 : decode cX1_takeOver 21 = .ok (.iaload, 1) := by decide +kernel
theorem dX1_takeOver_22 : decode cX1_takeOver 22 = .ok (.aload_n 1, 1) := by decide +kernel
theorem dX1_takeOver_23 : decode cX1_takeOver 23 = .ok (.getfield 15, 3) := by decide +kernel
theorem dX1_takeOver_26 : decode cX1_takeOver 26 = .ok (.iload_n 2, 1) := by decide +kernel
theorem dX1_takeOver_27 : decode cX1_takeOver 27 = .ok (.iaload, 1) := by decide +kernel
theorem dX1_takeOver_28 : decode cX1_takeOver 28 = .ok (.invokevirtual 22, 3) := by decide +kernel
theorem dX1_takeOver_31 : decode cX1_takeOver 31 = .ok (.iinc 2 1, 3) := by decide +kernel
theorem dX1_takeOver_34 : decode cX1_takeOver 34 = .ok (.goto (-27), 3) := by decide +kernel
theorem dX1_takeOver_37 : decode cX1_takeOver 37 = .ok (.return_, 1) := by decide +kernel
theorem dX1_placeOf_0 : decode cX1_placeOf 0 = .ok (.iconst 0, 1) := by decide +kernel
theorem dX1_placeOf_1 : decode cX1_placeOf 1 = .ok (.istore_n 2, 1) := by decide +kernel
theorem dX1_placeOf_2 : decode cX1_placeOf 2 = .ok (.iload_n 2, 1) := by decide +kernel
theorem dX1_placeOf_3 : decode cX1_placeOf 3 = .ok (.aload_n 0, 1) := by decide +kernel
theorem dX1_placeOf_4 : decode cX1_placeOf 4 = .ok (.getfield 18, 3) := by decide +kernel
theorem dX1_placeOf_7 : decode cX1_placeOf 7 = .ok (.if_icmp .ge 26, 3) := by decide +kernel
theorem dX1_placeOf_10 : decode cX1_placeOf 10 = .ok (.aload_n 0, 1) := by decide +kernel
theorem dX1_placeOf_11 : decode cX1_placeOf 11 = .ok (.getfield 9, 3) := by decide +kernel
theorem dX1_placeOf_14 : decode cX1_placeOf 14 = .ok (.iload_n 2, 1) := by decide +kernel
theorem dX1_placeOf_15 : decode cX1_placeOf 15 = .ok (.iaload, 1) := by decide +kernel
theorem dX1_placeOf_16 : decode cX1_placeOf 16 = .ok (.iload_n 1, 1) := by decide +kernel
theorem dX1_placeOf_17 : decode cX1_placeOf 17 = .ok (.if_icmp .ne 10, 3) := by decide +kernel
theorem dX1_placeOf_20 : decode cX1_placeOf 20 = .ok (.aload_n 0, 1) := by decide +kernel
theorem dX1_placeOf_21 : decode cX1_placeOf 21 = .ok (.getfield 15, 3) := by decide +kernel
theorem dX1_placeOf_24 : decode cX1_placeOf 24 = .ok (.iload_n 2, 1) := by decide +kernel
theorem dX1_placeOf_25 : decode cX1_placeOf 25 = .ok (.iaload, 1) := by decide +kernel
theorem dX1_placeOf_26 : decode cX1_placeOf 26 = .ok (.ireturn, 1) := by decide +kernel
theorem dX1_placeOf_27 : decode cX1_placeOf 27 = .ok (.iinc 2 1, 3) := by decide +kernel
theorem dX1_placeOf_30 : decode cX1_placeOf 30 = .ok (.goto (-28), 3) := by decide +kernel
theorem dX1_placeOf_33 : decode cX1_placeOf 33 = .ok (.iconst (-1), 1) := by decide +kernel
theorem dX1_placeOf_34 : decode cX1_placeOf 34 = .ok (.ireturn, 1) := by decide +kernel
theorem dX2_init_0 : decode cX2_init 0 = .ok (.aload_n 0, 1) := by decide +kernel
theorem dX2_init_1 : decode cX2_init 1 = .ok (.invokespecial 3, 3) := by decide +kernel
theorem dX2_init_4 : decode cX2_init 4 = .ok (.aload_n 0, 1) := by decide +kernel
theorem dX2_init_5 : decode cX2_init 5 = .ok (.iload_n 1, 1) := by decide +kernel
theorem dX2_init_6 : decode cX2_init 6 = .ok (.newarray .int, 2) := by decide +kernel
theorem dX2_init_8 : decode cX2_init 8 = .ok (.putfield 9, 3) := by decide +kernel
theorem dX2_init_11 : decode cX2_init 11 = .ok (.aload_n 0, 1) := by decide +kernel
theorem dX2_init_12 : decode cX2_init 12 = .ok (.iload_n 1, 1) := by decide +kernel
theorem dX2_init_13 : decode cX2_init 13 = .ok (.newarray .int, 2) := by decide +kernel
theorem dX2_init_15 : decode cX2_init 15 = .ok (.putfield 15, 3) := by decide +kernel
theorem dX2_init_18 : decode cX2_init 18 = .ok (.aload_n 0, 1) := by decide +kernel
theorem dX2_init_19 : decode cX2_init 19 = .ok (.iload_n 1, 1) := by decide +kernel
theorem dX2_init_20 : decode cX2_init 20 = .ok (.newarray .int, 2) := by decide +kernel
theorem dX2_init_22 : decode cX2_init 22 = .ok (.putfield 18, 3) := by decide +kernel
theorem dX2_init_25 : decode cX2_init 25 = .ok (.aload_n 0, 1) := by decide +kernel
theorem dX2_init_26 : decode cX2_init 26 = .ok (.getfield 9, 3) := by decide +kernel
theorem dX2_init_29 : decode cX2_init 29 = .ok (.iconst 0, 1) := by decide +kernel
theorem dX2_init_30 : decode cX2_init 30 = .ok (.iconst 4, 1) := by decide +kernel
theorem dX2_init_31 : decode cX2_init 31 = .ok (.iastore, 1) := by decide +kernel
theorem dX2_init_32 : decode cX2_init 32 = .ok (.aload_n 0, 1) := by decide +kernel
theorem dX2_init_33 : decode cX2_init 33 = .ok (.getfield 15, 3) := by decide +kernel
theorem dX2_init_36 : decode cX2_init 36 = .ok (.iconst 0, 1) := by decide +kernel
theorem dX2_init_37 : decode cX2_init 37 = .ok (.iload_n 1, 1) := by decide +kernel
theorem dX2_init_38 : decode cX2_init 38 = .ok (.iconst 4, 1) := by decide +kernel
theorem dX2_init_39 : decode cX2_init 39 = .ok (.imul, 1) := by decide +kernel
theorem dX2_init_40 : decode cX2_init 40 = .ok (.iastore, 1) := by decide +kernel
theorem dX2_init_41 : decode cX2_init 41 = .ok (.aload_n 0, 1) := by decide +kernel
theorem dX2_init_42 : decode cX2_init 42 = .ok (.getfield 18, 3) := by decide +kernel
theorem dX2_init_45 : decode cX2_init 45 = .ok (.iconst 0, 1) := by decide +kernel
theorem dX2_init_46 : decode cX2_init 46 = .ok (.iconst 0, 1) := by decide +kernel
theorem dX2_init_47 : decode cX2_init 47 = .ok (.iastore, 1) := by decide +kernel
theorem dX2_init_48 : decode cX2_init 48 = .ok (.aload_n 0, 1) := by decide +kernel
theorem dX2_init_49 : decode cX2_init 49 = .ok (.iconst 1, 1) := by decide +kernel
theorem dX2_init_50 : decode cX2_init 50 = .ok (.putfield 21, 3) := by decide +kernel
theorem dX2_init_53 : decode cX2_init 53 = .ok (.return_, 1) := by decide +kernel
theorem dX2_end_0 : decode cX2_end 0 = .ok (.aload_n 0, 1) := by decide +kernel
theorem dX2_end_1 : decode cX2_end 1 = .ok (.getfield 9, 3) := by decide +kernel
theorem dX2_end_4 : decode cX2_end 4 = .ok (.iload_n 1, 1) := by decide +kernel
theorem dX2_end_5 : decode cX2_end 5 = .ok (.iaload, 1) := by decide +kernel
theorem dX2_end_6 : decode cX2_end 6 = .ok (.aload_n 0, 1) := by decide +kernel
theorem dX2_end_7 : decode cX2_end 7 = .ok (.getfield 15, 3) := by decide +kernel
theorem dX2_end_10 : decode cX2_end 10 = .ok (.iload_n 1, 1) := by decide +kernel
theorem dX2_end_11 : decode cX2_end 11 = .ok (.iaload, 1) := by decide +kernel
theorem dX2_end_12 : decode cX2_end 12 = .ok (.iadd, 1) := by decide +kernel
theorem dX2_end_13 : decode cX2_end 13 = .ok (.ireturn, 1) := by decide +kernel
theorem dX2_liveIndex_0 : decode cX2_liveIndex 0 = .ok (.aload_n 0, 1) := by decide +kernel
theorem dX2_liveIndex_1 : decode cX2_liveIndex 1 = .ok (.iload_n 1, 1) := by decide +kernel
theorem dX2_liveIndex_2 : decode cX2_liveIndex 2 = .ok (.invokevirtual 25, 3) := by decide +kernel
theorem dX2_liveIndex_5 : decode cX2_liveIndex 5 = .ok (.istore_n 2, 1) := by decide +kernel
theorem dX2_liveIndex_6 : decode cX2_liveIndex 6 = .ok (.iload_n 2, 1) := by decide +kernel
theorem dX2_liveIndex_7 : decode cX2_liveIndex 7 = .ok (.iconst (-1), 1) := by decide +kernel
theorem dX2_liveIndex_8 : decode cX2_liveIndex 8 = .ok (.if_icmp .eq 16, 3) := by decide +kernel
theorem dX2_liveIndex_11 : decode cX2_liveIndex 11 = .ok (.aload_n 0, 1) := by decide +kernel
theorem dX2_liveIndex_12 : decode cX2_liveIndex 12 = .ok (.getfield 18, 3) := by decide +kernel
theorem dX2_liveIndex_15 : decode cX2_liveIndex 15 = .ok (.iload_n 2, 1) := by decide +kernel
theorem dX2_liveIndex_16 : decode cX2_liveIndex 16 = .ok (.iaload, 1) := by decide +kernel
theorem dX2_liveIndex_17 : decode cX2_liveIndex 17 = .ok (.ifCond .eq 7, 3) := by decide +kernel
theorem dX2_liveIndex_20 : decode cX2_liveIndex 20 = .ok (.iload_n 2, 1) := by decide +kernel
theorem dX2_liveIndex_21 : decode cX2_liveIndex 21 = .ok (.goto 4, 3) := by decide +kernel
theorem dX2_liveIndex_24 : decode cX2_liveIndex 24 = .ok (.iconst (-1), 1) := by decide +kernel
theorem dX2_liveIndex_25 : decode cX2_liveIndex 25 = .ok (.ireturn, 1) := by decide +kernel
theorem dX2_freeIndex_0 : decode cX2_freeIndex 0 = .ok (.aload_n 0, 1) := by decide +kernel
theorem dX2_freeIndex_1 : decode cX2_freeIndex 1 = .ok (.iload_n 1, 1) := by decide +kernel
theorem dX2_freeIndex_2 : decode cX2_freeIndex 2 = .ok (.invokevirtual 25, 3) := by decide +kernel
theorem dX2_freeIndex_5 : decode cX2_freeIndex 5 = .ok (.istore_n 2, 1) := by decide +kernel
theorem dX2_freeIndex_6 : decode cX2_freeIndex 6 = .ok (.iload_n 2, 1) := by decide +kernel
theorem dX2_freeIndex_7 : decode cX2_freeIndex 7 = .ok (.iconst (-1), 1) := by decide +kernel
theorem dX2_freeIndex_8 : decode cX2_freeIndex 8 = .ok (.if_icmp .eq 16, 3) := by decide +kernel
theorem dX2_freeIndex_11 : decode cX2_freeIndex 11 = .ok (.aload_n 0, 1) := by decide +kernel
theorem dX2_freeIndex_12 : decode cX2_freeIndex 12 = .ok (.getfield 18, 3) := by decide +kernel
theorem dX2_freeIndex_15 : decode cX2_freeIndex 15 = .ok (.iload_n 2, 1) := by decide +kernel
theorem dX2_freeIndex_16 : decode cX2_freeIndex 16 = .ok (.iaload, 1) := by decide +kernel
theorem dX2_freeIndex_17 : decode cX2_freeIndex 17 = .ok (.ifCond .ne 7, 3) := by decide +kernel
theorem dX2_freeIndex_20 : decode cX2_freeIndex 20 = .ok (.iload_n 2, 1) := by decide +kernel
theorem dX2_freeIndex_21 : decode cX2_freeIndex 21 = .ok (.goto 4, 3) := by decide +kernel
theorem dX2_freeIndex_24 : decode cX2_freeIndex 24 = .ok (.iconst (-1), 1) := by decide +kernel
theorem dX2_freeIndex_25 : decode cX2_freeIndex 25 = .ok (.ireturn, 1) := by decide +kernel
theorem dX2_indexOf_0 : decode cX2_indexOf 0 = .ok (.iconst 0, 1) := by decide +kernel
theorem dX2_indexOf_1 : decode cX2_indexOf 1 = .ok (.istore_n 2, 1) := by decide +kernel
theorem dX2_indexOf_2 : decode cX2_indexOf 2 = .ok (.iload_n 2, 1) := by decide +kernel
theorem dX2_indexOf_3 : decode cX2_indexOf 3 = .ok (.aload_n 0, 1) := by decide +kernel
theorem dX2_indexOf_4 : decode cX2_indexOf 4 = .ok (.getfield 21, 3) := by decide +kernel
theorem dX2_indexOf_7 : decode cX2_indexOf 7 = .ok (.if_icmp .ge 21, 3) := by decide +kernel
theorem dX2_indexOf_10 : decode cX2_indexOf 10 = .ok (.aload_n 0, 1) := by decide +kernel
theorem dX2_indexOf_11 : decode cX2_indexOf 11 = .ok (.getfield 9, 3) := by decide +kernel
theorem dX2_indexOf_14 : decode cX2_indexOf 14 = .ok (.iload_n 2, 1) := by decide +kernel
theorem dX2_indexOf_15 : decode cX2_indexOf 15 = .ok (.iaload, 1) := by decide +kernel
theorem dX2_indexOf_16 : decode cX2_indexOf 16 = .ok (.iload_n 1, 1) := by decide +kernel
theorem dX2_indexOf_17 : decode cX2_indexOf 17 = .ok (.if_icmp .ne 5, 3) := by decide +kernel
theorem dX2_indexOf_20 : decode cX2_indexOf 20 = .ok (.iload_n 2, 1) := by decide +kernel
theorem dX2_indexOf_21 : decode cX2_indexOf 21 = .ok (.ireturn, 1) := by decide +kernel
theorem dX2_indexOf_22 : decode cX2_indexOf 22 = .ok (.iinc 2 1, 3) := by decide +kernel
theorem dX2_indexOf_25 : decode cX2_indexOf 25 = .ok (.goto (-23), 3) := by decide +kernel
theorem dX2_indexOf_28 : decode cX2_indexOf 28 = .ok (.iconst (-1), 1) := by decide +kernel
theorem dX2_indexOf_29 : decode cX2_indexOf 29 = .ok (.ireturn, 1) := by decide +kernel
theorem dX2_freeBlocks_0 : decode cX2_freeBlocks 0 = .ok (.iconst 0, 1) := by decide +kernel
theorem dX2_freeBlocks_1 : decode cX2_freeBlocks 1 = .ok (.istore_n 1, 1) := by decide +kernel
theorem dX2_freeBlocks_2 : decode cX2_freeBlocks 2 = .ok (.iconst 0, 1) := by decide +kernel
theorem dX2_freeBlocks_3 : decode cX2_freeBlocks 3 = .ok (.istore_n 2, 1) := by decide +kernel
theorem dX2_freeBlocks_4 : decode cX2_freeBlocks 4 = .ok (.iload_n 2, 1) := by decide +kernel
theorem dX2_freeBlocks_5 : decode cX2_freeBlocks 5 = .ok (.aload_n 0, 1) := by decide +kernel
theorem dX2_freeBlocks_6 : decode cX2_freeBlocks 6 = .ok (.getfield 21, 3) := by decide +kernel
theorem dX2_freeBlocks_9 : decode cX2_freeBlocks 9 = .ok (.if_icmp .ge 26, 3) := by decide +kernel
theorem dX2_freeBlocks_12 : decode cX2_freeBlocks 12 = .ok (.iload_n 1, 1) := by decide +kernel
theorem dX2_freeBlocks_13 : decode cX2_freeBlocks 13 = .ok (.aload_n 0, 1) := by decide +kernel
theorem dX2_freeBlocks_14 : decode cX2_freeBlocks 14 = .ok (.getfield 18, 3) := by decide +kernel
theorem dX2_freeBlocks_17 : decode cX2_freeBlocks 17 = .ok (.iload_n 2, 1) := by decide +kernel
theorem dX2_freeBlocks_18 : decode cX2_freeBlocks 18 = .ok (.iaload, 1) := by decide +kernel
theorem dX2_freeBlocks_19 : decode cX2_freeBlocks 19 = .ok (.ifCond .ne 7, 3) := by decide +kernel
theorem dX2_freeBlocks_22 : decode cX2_freeBlocks 22 = .ok (.iconst 1, 1) := by decide +kernel
theorem dX2_freeBlocks_23 : decode cX2_freeBlocks 23 = .ok (.goto 4, 3) := by decide +kernel
theorem dX2_freeBlocks_26 : decode cX2_freeBlocks 26 = .ok (.iconst 0, 1) := by decide +kernel
theorem dX2_freeBlocks_27 : decode cX2_freeBlocks 27 = .ok (.iadd, 1) := by decide +kernel
theorem dX2_freeBlocks_28 : decode cX2_freeBlocks 28 = .ok (.istore_n 1, 1) := by decide +kernel
theorem dX2_freeBlocks_29 : decode cX2_freeBlocks 29 = .ok (.iinc 2 1, 3) := by decide +kernel
theorem dX2_freeBlocks_32 : decode cX2_freeBlocks 32 = .ok (.goto (-28), 3) := by decide +kernel
theorem dX2_freeBlocks_35 : decode cX2_freeBlocks 35 = .ok (.iload_n 1, 1) := by decide +kernel
theorem dX2_freeBlocks_36 : decode cX2_freeBlocks 36 = .ok (.ireturn, 1) := by decide +kernel
theorem dX2_liveBlocks_0 : decode cX2_liveBlocks 0 = .ok (.aload_n 0, 1) := by decide +kernel
theorem dX2_liveBlocks_1 : decode cX2_liveBlocks 1 = .ok (.getfield 21, 3) := by decide +kernel
theorem dX2_liveBlocks_4 : decode cX2_liveBlocks 4 = .ok (.aload_n 0, 1) := by decide +kernel
theorem dX2_liveBlocks_5 : decode cX2_liveBlocks 5 = .ok (.invokevirtual 29, 3) := by decide +kernel
theorem dX2_liveBlocks_8 : decode cX2_liveBlocks 8 = .ok (.isub, 1) := by decide +kernel
theorem dX2_liveBlocks_9 : decode cX2_liveBlocks 9 = .ok (.ireturn, 1) := by decide +kernel
theorem dX2_freeWords_0 : decode cX2_freeWords 0 = .ok (.iconst 0, 1) := by decide +kernel
theorem dX2_freeWords_1 : decode cX2_freeWords 1 = .ok (.istore_n 1, 1) := by decide +kernel
theorem dX2_freeWords_2 : decode cX2_freeWords 2 = .ok (.iconst 0, 1) := by decide +kernel
theorem dX2_freeWords_3 : decode cX2_freeWords 3 = .ok (.istore_n 2, 1) := by decide +kernel
theorem dX2_freeWords_4 : decode cX2_freeWords 4 = .ok (.iload_n 2, 1) := by decide +kernel
theorem dX2_freeWords_5 : decode cX2_freeWords 5 = .ok (.aload_n 0, 1) := by decide +kernel
theorem dX2_freeWords_6 : decode cX2_freeWords 6 = .ok (.getfield 21, 3) := by decide +kernel
theorem dX2_freeWords_9 : decode cX2_freeWords 9 = .ok (.if_icmp .ge 31, 3) := by decide +kernel
theorem dX2_freeWords_12 : decode cX2_freeWords 12 = .ok (.iload_n 1, 1) := by decide +kernel
theorem dX2_freeWords_13 : decode cX2_freeWords 13 = .ok (.aload_n 0, 1) := by decide +kernel
theorem dX2_freeWords_14 : decode cX2_freeWords 14 = .ok (.getfield 18, 3) := by decide +kernel
theorem dX2_freeWords_17 : decode cX2_freeWords 17 = .ok (.iload_n 2, 1) := by decide +kernel
theorem dX2_freeWords_18 : decode cX2_freeWords 18 = .ok (.iaload, 1) := by decide +kernel
theorem dX2_freeWords_19 : decode cX2_freeWords 19 = .ok (.ifCond .ne 12, 3) := by decide +kernel
theorem dX2_freeWords_22 : decode cX2_freeWords 22 = .ok (.aload_n 0, 1) := by decide +kernel
theorem dX2_freeWords_23 : decode cX2_freeWords 23 = .ok (.getfield 15, 3) := by decide +kernel
theorem dX2_freeWords_26 : decode cX2_freeWords 26 = .ok (.iload_n 2, 1) := by decide +kernel
theorem dX2_freeWords_27 : decode cX2_freeWords 27 = .ok (.iaload, 1) := by decide +kernel
theorem dX2_freeWords_28 : decode cX2_freeWords 28 = .ok (.goto 4, 3) := by decide +kernel
theorem dX2_freeWords_31 : decode cX2_freeWords 31 = .ok (.iconst 0, 1) := by decide +kernel
theorem dX2_freeWords_32 : decode cX2_freeWords 32 = .ok (.iadd, 1) := by decide +kernel
theorem dX2_freeWords_33 : decode cX2_freeWords 33 = .ok (.istore_n 1, 1) := by decide +kernel
theorem dX2_freeWords_34 : decode cX2_freeWords 34 = .ok (.iinc 2 1, 3) := by decide +kernel
theorem dX2_freeWords_37 : decode cX2_freeWords 37 = .ok (.goto (-33), 3) := by decide +kernel
theorem dX2_freeWords_40 : decode cX2_freeWords 40 = .ok (.iload_n 1, 1) := by decide +kernel
theorem dX2_freeWords_41 : decode cX2_freeWords 41 = .ok (.ireturn, 1) := by decide +kernel
theorem dX2_largestFree_0 : decode cX2_largestFree 0 = .ok (.iconst 0, 1) := by decide +kernel
theorem dX2_largestFree_1 : decode cX2_largestFree 1 = .ok (.istore_n 1, 1) := by decide +kernel
theorem dX2_largestFree_2 : decode cX2_largestFree 2 = .ok (.iconst 0, 1) := by decide +kernel
theorem dX2_largestFree_3 : decode cX2_largestFree 3 = .ok (.istore_n 2, 1) := by decide +kernel
theorem dX2_largestFree_4 : decode cX2_largestFree 4 = .ok (.iload_n 2, 1) := by decide +kernel
theorem dX2_largestFree_5 : decode cX2_largestFree 5 = .ok (.aload_n 0, 1) := by decide +kernel
theorem dX2_largestFree_6 : decode cX2_largestFree 6 = .ok (.getfield 21, 3) := by decide +kernel
theorem dX2_largestFree_9 : decode cX2_largestFree 9 = .ok (.if_icmp .ge 33, 3) := by decide +kernel
theorem dX2_largestFree_12 : decode cX2_largestFree 12 = .ok (.aload_n 0, 1) := by decide +kernel
theorem dX2_largestFree_13 : decode cX2_largestFree 13 = .ok (.getfield 18, 3) := by decide +kernel
theorem dX2_largestFree_16 : decode cX2_largestFree 16 = .ok (.iload_n 2, 1) := by decide +kernel
theorem dX2_largestFree_17 : decode cX2_largestFree 17 = .ok (.iaload, 1) := by decide +kernel
theorem dX2_largestFree_18 : decode cX2_largestFree 18 = .ok (.ifCond .ne 16, 3) := by decide +kernel
theorem dX2_largestFree_21 : decode cX2_largestFree 21 = .ok (.iload_n 1, 1) := by decide +kernel
theorem dX2_largestFree_22 : decode cX2_largestFree 22 = .ok (.aload_n 0, 1) := by decide +kernel
theorem dX2_largestFree_23 : decode cX2_largestFree 23 = .ok (.getfield 15, 3) := by decide +kernel
theorem dX2_largestFree_26 : decode cX2_largestFree 26 = .ok (.iload_n 2, 1) := by decide +kernel
theorem dX2_largestFree_27 : decode cX2_largestFree 27 = .ok (.iaload, 1) := by decide +kernel
theorem dX2_largestFree_28 : decode cX2_largestFree 28 = .ok (.invokestatic 33, 3) := by decide +kernel
theorem dX2_largestFree_31 : decode cX2_largestFree 31 = .ok (.goto 4, 3) := by decide +kernel
theorem dX2_largestFree_34 : decode cX2_largestFree 34 = .ok (.iload_n 1, 1) := by decide +kernel
theorem dX2_largestFree_35 : decode cX2_largestFree 35 = .ok (.istore_n 1, 1) := by decide +kernel
theorem dX2_largestFree_36 : decode cX2_largestFree 36 = .ok (.iinc 2 1, 3) := by decide +kernel
theorem dX2_largestFree_39 : decode cX2_largestFree 39 = .ok (.goto (-35), 3) := by decide +kernel
theorem dX2_largestFree_42 : decode cX2_largestFree 42 = .ok (.iload_n 1, 1) := by decide +kernel
theorem dX2_largestFree_43 : decode cX2_largestFree 43 = .ok (.ireturn, 1) := by decide +kernel
theorem dX2_freeAddress_0 : decode cX2_freeAddress 0 = .ok (.iconst 0, 1) := by decide +kernel
theorem dX2_freeAddress_1 : decode cX2_freeAddress 1 = .ok (.istore_n 2, 1) := by decide +kernel
theorem dX2_freeAddress_2 : decode cX2_freeAddress 2 = .ok (.iconst 0, 1) := by decide +kernel
theorem dX2_freeAddress_3 : decode cX2_freeAddress 3 = .ok (.istore_n 3, 1) := by decide +kernel
theorem dX2_freeAddress_4 : decode cX2_freeAddress 4 = .ok (.iload_n 3, 1) := by decide +kernel
theorem dX2_freeAddress_5 : decode cX2_freeAddress 5 = .ok (.aload_n 0, 1) := by decide +kernel
theorem dX2_freeAddress_6 : decode cX2_freeAddress 6 = .ok (.getfield 21, 3) := by decide +kernel
theorem dX2_freeAddress_9 : decode cX2_freeAddress 9 = .ok (.if_icmp .ge 33, 3) := by decide +kernel
theorem dX2_freeAddress_12 : decode cX2_freeAddress 12 = .ok (.aload_n 0, 1) := by decide +kernel
theorem dX2_freeAddress_13 : decode cX2_freeAddress 13 = .ok (.getfield 18, 3) := by decide +kernel
theorem dX2_freeAddress_16 : decode cX2_freeAddress 16 = .ok (.iload_n 3, 1) := by decide +kernel
theorem dX2_freeAddress_17 : decode cX2_freeAddress 17 = .ok (.iaload, 1) := by decide +kernel
theorem dX2_freeAddress_18 : decode cX2_freeAddress 18 = .ok (.ifCond .ne 18, 3) := by decide +kernel
theorem dX2_freeAddress_21 : decode cX2_freeAddress 21 = .ok (.iload_n 2, 1) := by decide +kernel
theorem dX2_freeAddress_22 : decode cX2_freeAddress 22 = .ok (.iload_n 1, 1) := by decide +kernel
theorem dX2_freeAddress_23 : decode cX2_freeAddress 23 = .ok (.if_icmp .ne 10, 3) := by decide +kernel
theorem dX2_freeAddress_26 : decode cX2_freeAddress 26 = .ok (.aload_n 0, 1) := by decide +kernel
theorem dX2_freeAddress_27 : decode cX2_freeAddress 27 = .ok (.getfield 9, 3) := by decide +kernel
theorem dX2_freeAddress_30 : decode cX2_freeAddress 30 = .ok (.iload_n 3, 1) := by decide +kernel
theorem dX2_freeAddress_31 : decode cX2_freeAddress 31 = .ok (.iaload, 1) := by decide +kernel
theorem dX2_freeAddress_32 : decode cX2_freeAddress 32 = .ok (.ireturn, 1) := by decide +kernel
theorem dX2_freeAddress_33 : decode cX2_freeAddress 33 = .ok (.iinc 2 1, 3) := by decide +kernel
theorem dX2_freeAddress_36 : decode cX2_freeAddress 36 = .ok (.iinc 3 1, 3) := by decide +kernel
theorem dX2_freeAddress_39 : decode cX2_freeAddress 39 = .ok (.goto (-35), 3) := by decide +kernel
theorem dX2_freeAddress_42 : decode cX2_freeAddress 42 = .ok (.iconst (-1), 1) := by decide +kernel
theorem dX2_freeAddress_43 : decode cX2_freeAddress 43 = .ok (.ireturn, 1) := by decide +kernel
theorem dX2_freeBehind_0 : decode cX2_freeBehind 0 = .ok (.aload_n 0, 1) := by decide +kernel
theorem dX2_freeBehind_1 : decode cX2_freeBehind 1 = .ok (.iload_n 1, 1) := by decide +kernel
theorem dX2_freeBehind_2 : decode cX2_freeBehind 2 = .ok (.iconst 1, 1) := by decide +kernel
theorem dX2_freeBehind_3 : decode cX2_freeBehind 3 = .ok (.iadd, 1) := by decide +kernel
theorem dX2_freeBehind_4 : decode cX2_freeBehind 4 = .ok (.invokevirtual 39, 3) := by decide +kernel
theorem dX2_freeBehind_7 : decode cX2_freeBehind 7 = .ok (.ifCond .eq 14, 3) := by decide +kernel
theorem dX2_freeBehind_10 : decode cX2_freeBehind 10 = .ok (.aload_n 0, 1) := by decide +kernel
theorem dX2_freeBehind_11 : decode cX2_freeBehind 11 = .ok (.getfield 15, 3) := by decide +kernel
theorem dX2_freeBehind_14 : decode cX2_freeBehind 14 = .ok (.iload_n 1, 1) := by decide +kernel
theorem dX2_freeBehind_15 : decode cX2_freeBehind 15 = .ok (.iconst 1, 1) := by decide +kernel
theorem dX2_freeBehind_16 : decode cX2_freeBehind 16 = .ok (.iadd, 1) := by decide +kernel
theorem dX2_freeBehind_17 : decode cX2_freeBehind 17 = .ok (.iaload, 1) := by decide +kernel
theorem dX2_freeBehind_18 : decode cX2_freeBehind 18 = .ok (.goto 4, 3) := by decide +kernel
theorem dX2_freeBehind_21 : decode cX2_freeBehind 21 = .ok (.iconst 0, 1) := by decide +kernel
theorem dX2_freeBehind_22 : decode cX2_freeBehind 22 = .ok (.ireturn, 1) := by decide +kernel
theorem dX2_carve_0 : decode cX2_carve 0 = .ok (.iload_n 2, 1) := by decide +kernel
theorem dX2_carve_1 : decode cX2_carve 1 = .ok (.aload_n 0, 1) := by decide +kernel
theorem dX2_carve_2 : decode cX2_carve 2 = .ok (.getfield 9, 3) := by decide +kernel
theorem dX2_carve_5 : decode cX2_carve 5 = .ok (.iload_n 1, 1) := by decide +kernel
theorem dX2_carve_6 : decode cX2_carve 6 = .ok (.iaload, 1) := by decide +kernel
theorem dX2_carve_7 : decode cX2_carve 7 = .ok (.isub, 1) := by decide +kernel
theorem dX2_carve_8 : decode cX2_carve 8 = .ok (.istore 4, 2) := by decide +kernel
theorem dX2_carve_10 : decode cX2_carve 10 = .ok (.iload_n 1, 1) := by decide +kernel
theorem dX2_carve_11 : decode cX2_carve 11 = .ok (.istore 5, 2) := by decide +kernel
theorem dX2_carve_13 : decode cX2_carve 13 = .ok (.iload 4, 2) := by decide +kernel
theorem dX2_carve_15 : decode cX2_carve 15 = .ok (.ifCond .le 15, 3) := by decide +kernel
theorem dX2_carve_18 : decode cX2_carve 18 = .ok (.aload_n 0, 1) := by decide +kernel
theorem dX2_carve_19 : decode cX2_carve 19 = .ok (.iload_n 1, 1) := by decide +kernel
theorem dX2_carve_20 : decode cX2_carve 20 = .ok (.iload 4, 2) := by decide +kernel
theorem dX2_carve_22 : decode cX2_carve 22 = .ok (.invokevirtual 43, 3) := by decide +kernel
theorem dX2_carve_25 : decode cX2_carve 25 = .ok (.iload_n 1, 1) := by decide +kernel
theorem dX2_carve_26 : decode cX2_carve 26 = .ok (.iconst 1, 1) := by decide +kernel
theorem dX2_carve_27 : decode cX2_carve 27 = .ok (.iadd, 1) := by decide +kernel
theorem dX2_carve_28 : decode cX2_carve 28 = .ok (.istore 5, 2) := by decide +kernel
theorem dX2_carve_30 : decode cX2_carve 30 = .ok (.aload_n 0, 1) := by decide +kernel
theorem dX2_carve_31 : decode cX2_carve 31 = .ok (.iload 5, 2) := by decide +kernel
theorem dX2_carve_33 : decode cX2_carve 33 = .ok (.iload_n 3, 1) := by decide +kernel
theorem dX2_carve_34 : decode cX2_carve 34 = .ok (.invokevirtual 43, 3) := by decide +kernel
theorem dX2_carve_37 : decode cX2_carve 37 = .ok (.aload_n 0, 1) := by decide +kernel
theorem dX2_carve_38 : decode cX2_carve 38 = .ok (.getfield 18, 3) := by decide +kernel
theorem dX2_carve_41 : decode cX2_carve 41 = .ok (.iload 5, 2) := by decide +kernel
theorem dX2_carve_43 : decode cX2_carve 43 = .ok (.iconst 1, 1) := by decide +kernel
theorem dX2_carve_44 : decode cX2_carve 44 = .ok (.iastore, 1) := by decide +kernel
theorem dX2_carve_45 : decode cX2_carve 45 = .ok (.return_, 1) := by decide +kernel
theorem dX2_release_0 : decode cX2_release 0 = .ok (.aload_n 0, 1) := by decide +kernel
theorem dX2_release_1 : decode cX2_release 1 = .ok (.getfield 18, 3) := by decide +kernel
theorem dX2_release_4 : decode cX2_release 4 = .ok (.iload_n 1, 1) := by decide +kernel
theorem dX2_release_5 : decode cX2_release 5 = .ok (.iconst 0, 1) := by decide +kernel
theorem dX2_release_6 : decode cX2_release 6 = .ok (.iastore, 1) := by decide +kernel
theorem dX2_release_7 : decode cX2_release 7 = .ok (.aload_n 0, 1) := by decide +kernel
theorem dX2_release_8 : decode cX2_release 8 = .ok (.iload_n 1, 1) := by decide +kernel
theorem dX2_release_9 : decode cX2_release 9 = .ok (.iconst 1, 1) := by decide +kernel
theorem dX2_release_10 : decode cX2_release 10 = .ok (.iadd, 1) := by decide +kernel
theorem dX2_release_11 : decode cX2_release 11 = .ok (.invokevirtual 39, 3) := by decide +kernel
theorem dX2_release_14 : decode cX2_release 14 = .ok (.ifCond .eq 8, 3) := by decide +kernel
theorem dX2_release_17 : decode cX2_release 17 = .ok (.aload_n 0, 1) := by decide +kernel
theorem dX2_release_18 : decode cX2_release 18 = .ok (.iload_n 1, 1) := by decide +kernel
theorem dX2_release_19 : decode cX2_release 19 = .ok (.invokevirtual 47, 3) := by decide +kernel
theorem dX2_release_22 : decode cX2_release 22 = .ok (.aload_n 0, 1) := by decide +kernel
theorem dX2_release_23 : decode cX2_release 23 = .ok (.iload_n 1, 1) := by decide +kernel
theorem dX2_release_24 : decode cX2_release 24 = .ok (.iconst 1, 1) := by decide +kernel
theorem dX2_release_25 : decode cX2_release 25 = .ok (.isub, 1) := by decide +kernel
theorem dX2_release_26 : decode cX2_release 26 = .ok (.invokevirtual 39, 3) := by decide +kernel
theorem dX2_release_29 : decode cX2_release 29 = .ok (.ifCond .eq 10, 3) := by decide +kernel
theorem dX2_release_32 : decode cX2_release 32 = .ok (.aload_n 0, 1) := by decide +kernel
theorem dX2_release_33 : decode cX2_release 33 = .ok (.iload_n 1, 1) := by decide +kernel
theorem dX2_release_34 : decode cX2_release 34 = .ok (.iconst 1, 1) := by decide +kernel
theorem dX2_release_35 : decode cX2_release 35 = .ok (.isub, 1) := by decide +kernel
theorem dX2_release_36 : decode cX2_release 36 = .ok (.invokevirtual 47, 3) := by decide +kernel
theorem dX2_release_39 : decode cX2_release 39 = .ok (.return_, 1) := by decide +kernel
theorem dX2_extend_0 : decode cX2_extend 0 = .ok (.aload_n 0, 1) := by decide +kernel
theorem dX2_extend_1 : decode cX2_extend 1 = .ok (.iload_n 1, 1) := by decide +kernel
theorem dX2_extend_2 : decode cX2_extend 2 = .ok (.iconst 1, 1) := by decide +kernel
theorem dX2_extend_3 : decode cX2_extend 3 = .ok (.iadd, 1) := by decide +kernel
theorem dX2_extend_4 : decode cX2_extend 4 = .ok (.iload_n 2, 1) := by decide +kernel
theorem dX2_extend_5 : decode cX2_extend 5 = .ok (.aload_n 0, 1) := by decide +kernel
theorem dX2_extend_6 : decode cX2_extend 6 = .ok (.getfield 15, 3) := by decide +kernel
theorem dX2_extend_9 : decode cX2_extend 9 = .ok (.iload_n 1, 1) := by decide +kernel
theorem dX2_extend_10 : decode cX2_extend 10 = .ok (.iaload, 1) := by decide +kernel
theorem dX2_extend_11 : decode cX2_extend 11 = .ok (.isub, 1) := by decide +kernel
theorem dX2_extend_12 : decode cX2_extend 12 = .ok (.invokevirtual 43, 3) := by decide +kernel
theorem dX2_extend_15 : decode cX2_extend 15 = .ok (.aload_n 0, 1) := by decide +kernel
theorem dX2_extend_16 : decode cX2_extend 16 = .ok (.iload_n 1, 1) := by decide +kernel
theorem dX2_extend_17 : decode cX2_extend 17 = .ok (.invokevirtual 47, 3) := by decide +kernel
theorem dX2_extend_20 : decode cX2_extend 20 = .ok (.return_, 1) := by decide +kernel
theorem dX2_shorten_0 : decode cX2_shorten 0 = .ok (.iload_n 2, 1) := by decide +kernel
theorem dX2_shorten_1 : decode cX2_shorten 1 = .ok (.aload_n 0, 1) := by decide +kernel
theorem dX2_shorten_2 : decode cX2_shorten 2 = .ok (.getfield 15, 3) := by decide +kernel
theorem dX2_shorten_5 : decode cX2_shorten 5 = .ok (.iload_n 1, 1) := by decide +kernel
theorem dX2_shorten_6 : decode cX2_shorten 6 = .ok (.iaload, 1) := by decide +kernel
theorem dX2_shorten_7 : decode cX2_shorten 7 = .ok (.if_icmp .ge 16, 3) := by decide +kernel
theorem dX2_shorten_10 : decode cX2_shorten 10 = .ok (.aload_n 0, 1) := by decide +kernel
theorem dX2_shorten_11 : decode cX2_shorten 11 = .ok (.iload_n 1, 1) := by decide +kernel
theorem dX2_shorten_12 : decode cX2_shorten 12 = .ok (.iload_n 2, 1) := by decide +kernel
theorem dX2_shorten_13 : decode cX2_shorten 13 = .ok (.invokevirtual 43, 3) := by decide +kernel
theorem dX2_shorten_16 : decode cX2_shorten 16 = .ok (.aload_n 0, 1) := by decide +kernel
theorem dX2_shorten_17 : decode cX2_shorten 17 = .ok (.iload_n 1, 1) := by decide +kernel
theorem dX2_shorten_18 : decode cX2_shorten 18 = .ok (.iconst 1, 1) := by decide +kernel
theorem dX2_shorten_19 : decode cX2_shorten 19 = .ok (.iadd, 1) := by decide +kernel
theorem dX2_shorten_20 : decode cX2_shorten 20 = .ok (.invokevirtual 51, 3) := by decide +kernel
theorem dX2_shorten_23 : decode cX2_shorten 23 = .ok (.return_, 1) := by decide +kernel
theorem dX2_isFree_0 : decode cX2_isFree 0 = .ok (.iload_n 1, 1) := by decide +kernel
theorem dX2_isFree_1 : decode cX2_isFree 1 = .ok (.ifCond .lt 24, 3) := by decide +kernel
theorem dX2_isFree_4 : decode cX2_isFree 4 = .ok (.iload_n 1, 1) := by decide +kernel
theorem dX2_isFree_5 : decode cX2_isFree 5 = .ok (.aload_n 0, 1) := by decide +kernel
theorem dX2_isFree_6 : decode cX2_isFree 6 = .ok (.getfield 21, 3) := by decide +kernel
theorem dX2_isFree_9 : decode cX2_isFree 9 = .ok (.if_icmp .ge 16, 3) := by decide +kernel
theorem dX2_isFree_12 : decode cX2_isFree 12 = .ok (.aload_n 0, 1) := by decide +kernel
theorem dX2_isFree_13 : decode cX2_isFree 13 = .ok (.getfield 18, 3) := by decide +kernel
theorem dX2_isFree_16 : decode cX2_isFree 16 = .ok (.iload_n 1, 1) := by decide +kernel
theorem dX2_isFree_17 : decode cX2_isFree 17 = .ok (.iaload, 1) := by decide +kernel
theorem dX2_isFree_18 : decode cX2_isFree 18 = .ok (.ifCond .ne 7, 3) := by decide +kernel
theorem dX2_isFree_21 : decode cX2_isFree 21 = .ok (.iconst 1, 1) := by decide +kernel
theorem dX2_isFree_22 : decode cX2_isFree 22 = .ok (.goto 4, 3) := by decide +kernel
theorem dX2_isFree_25 : decode cX2_isFree 25 = .ok (.iconst 0, 1) := by decide +kernel
theorem dX2_isFree_26 : decode cX2_isFree 26 = .ok (.ireturn, 1) := by decide +kernel
theorem dX2_split_0 : decode cX2_split 0 = .ok (.aload_n 0, 1) := by decide +kernel
theorem dX2_split_1 : decode cX2_split 1 = .ok (.getfield 15, 3) := by decide +kernel
theorem dX2_split_4 : decode cX2_split 4 = .ok (.iload_n 1, 1) := by decide +kernel
theorem dX2_split_5 : decode cX2_split 5 = .ok (.iaload, 1) := by decide +kernel
theorem dX2_split_6 : decode cX2_split 6 = .ok (.iload_n 2, 1) := by decide +kernel
theorem dX2_split_7 : decode cX2_split 7 = .ok (.isub, 1) := by decide +kernel
theorem dX2_split_8 : decode cX2_split 8 = .ok (.istore_n 3, 1) := by decide +kernel
theorem dX2_split_9 : decode cX2_split 9 = .ok (.iload_n 3, 1) := by decide +kernel
theorem dX2_split_10 : decode cX2_split 10 = .ok (.ifCond .gt 4, 3) := by decide +kernel
theorem dX2_split_13 : decode cX2_split 13 = .ok (.return_, 1) := by decide +kernel
theorem dX2_split_14 : decode cX2_split 14 = .ok (.aload_n 0, 1) := by decide +kernel
theorem dX2_split_15 : decode cX2_split 15 = .ok (.iload_n 1, 1) := by decide +kernel
theorem dX2_split_16 : decode cX2_split 16 = .ok (.iconst 1, 1) := by decide +kernel
theorem dX2_split_17 : decode cX2_split 17 = .ok (.iadd, 1) := by decide +kernel
theorem dX2_split_18 : decode cX2_split 18 = .ok (.iload_n 1, 1) := by decide +kernel
theorem dX2_split_19 : decode cX2_split 19 = .ok (.iconst 2, 1) := by decide +kernel
theorem dX2_split_20 : decode cX2_split 20 = .ok (.iadd, 1) := by decide +kernel
theorem dX2_split_21 : decode cX2_split 21 = .ok (.invokevirtual 54, 3) := by decide +kernel
theorem dX2_split_24 : decode cX2_split 24 = .ok (.aload_n 0, 1) := by decide +kernel
theorem dX2_split_25 : decode cX2_split 25 = .ok (.getfield 9, 3) := by decide +kernel
theorem dX2_split_28 : decode cX2_split 28 = .ok (.iload_n 1, 1) := by decide +kernel
theorem dX2_split_29 : decode cX2_split 29 = .ok (.iconst 1, 1) := by decide +kernel
theorem dX2_split_30 : decode cX2_split 30 = .ok (.iadd, 1) := by decide +kernel
theorem dX2_split_31 : decode cX2_split 31 = .ok (.aload_n 0, 1) := by decide +kernel
theorem dX2_split_32 : decode cX2_split 32 = .ok (.getfield 9, 3) := by decide +kernel
theorem dX2_split_35 : decode cX2_split 35 = .ok (.iload_n 1, 1) := by decide +kernel
theorem dX2_split_36 : decode cX2_split 36 = .ok (.iaload, 1) := by decide +kernel
theorem dX2_split_37 : decode cX2_split 37 = .ok (.iload_n 2, 1) := by decide +kernel
theorem dX2_split_38 : decode cX2_split 38 = .ok (.iadd, 1) := by decide +kernel
theorem dX2_split_39 : decode cX2_split 39 = .ok (.iastore, 1) := by decide +kernel
theorem dX2_split_40 : decode cX2_split 40 = .ok (.aload_n 0, 1) := by decide +kernel
theorem dX2_split_41 : decode cX2_split 41 = .ok (.getfield 15, 3) := by decide +kernel
theorem dX2_split_44 : decode cX2_split 44 = .ok (.iload_n 1, 1) := by decide +kernel
theorem dX2_split_45 : decode cX2_split 45 = .ok (.iconst 1, 1) := by decide +kernel
theorem dX2_split_46 : decode cX2_split 46 = .ok (.iadd, 1) := by decide +kernel
theorem dX2_split_47 : decode cX2_split 47 = .ok (.iload_n 3, 1) := by decide +kernel
theorem dX2_split_48 : decode cX2_split 48 = .ok (.iastore, 1) := by decide +kernel
theorem dX2_split_49 : decode cX2_split 49 = .ok (.aload_n 0, 1) := by decide +kernel
theorem dX2_split_50 : decode cX2_split 50 = .ok (.getfield 18, 3) := by decide +kernel
theorem dX2_split_53 : decode cX2_split 53 = .ok (.iload_n 1, 1) := by decide +kernel
theorem dX2_split_54 : decode cX2_split 54 = .ok (.iconst 1, 1) := by decide +kernel
theorem dX2_split_55 : decode cX2_split 55 = .ok (.iadd, 1) := by decide +kernel
theorem dX2_split_56 : decode cX2_split 56 = .ok (.aload_n 0, 1) := by decide +kernel
theorem dX2_split_57 : decode cX2_split 57 = .ok (.getfield 18, 3) := by decide +kernel
theorem dX2_split_60 : decode cX2_split 60 = .ok (.iload_n 1, 1) := by decide +kernel
theorem dX2_split_61 : decode cX2_split 61 = .ok (.iaload, 1) := by decide +kernel
theorem dX2_split_62 : decode cX2_split 62 = .ok (.iastore, 1) := by decide +kernel
theorem dX2_split_63 : decode cX2_split 63 = .ok (.aload_n 0, 1) := by decide +kernel
theorem dX2_split_64 : decode cX2_split 64 = .ok (.getfield 15, 3) := by decide +kernel
theorem dX2_split_67 : decode cX2_split 67 = .ok (.iload_n 1, 1) := by decide +kernel
theorem dX2_split_68 : decode cX2_split 68 = .ok (.iload_n 2, 1) := by decide +kernel
theorem dX2_split_69 : decode cX2_split 69 = .ok (.iastore, 1) := by decide +kernel
theorem dX2_split_70 : decode cX2_split 70 = .ok (.return_, 1) := by decide +kernel
theorem dX2_join_0 : decode cX2_join 0 = .ok (.aload_n 0, 1) := by decide +kernel
theorem dX2_join_1 : decode cX2_join 1 = .ok (.getfield 15, 3) := by decide +kernel
theorem dX2_join_4 : decode cX2_join 4 = .ok (.iload_n 1, 1) := by decide +kernel
theorem dX2_join_5 : decode cX2_join 5 = .ok (.dup2, 1) := by decide +kernel
theorem dX2_join_6 : decode cX2_join 6 = .ok (.iaload, 1) := by decide +kernel
theorem dX2_join_7 : decode cX2_join 7 = .ok (.aload_n 0, 1) := by decide +kernel
theorem dX2_join_8 : decode cX2_join 8 = .ok (.getfield 15, 3) := by decide +kernel
theorem dX2_join_11 : decode cX2_join 11 = .ok (.iload_n 1, 1) := by decide +kernel
theorem dX2_join_12 : decode cX2_join 12 = .ok (.iconst 1, 1) := by decide +kernel
theorem dX2_join_13 : decode cX2_join 13 = .ok (.iadd, 1) := by decide +kernel
theorem dX2_join_14 : decode cX2_join 14 = .ok (.iaload, 1) := by decide +kernel
theorem dX2_join_15 : decode cX2_join 15 = .ok (.iadd, 1) := by decide +kernel
theorem dX2_join_16 : decode cX2_join 16 = .ok (.iastore, 1) := by decide +kernel
theorem dX2_join_17 : decode cX2_join 17 = .ok (.aload_n 0, 1) := by decide +kernel
theorem dX2_join_18 : decode cX2_join 18 = .ok (.iload_n 1, 1) := by decide +kernel
theorem dX2_join_19 : decode cX2_join 19 = .ok (.iconst 2, 1) := by decide +kernel
theorem dX2_join_20 : decode cX2_join 20 = .ok (.iadd, 1) := by decide +kernel
theorem dX2_join_21 : decode cX2_join 21 = .ok (.iload_n 1, 1) := by decide +kernel
theorem dX2_join_22 : decode cX2_join 22 = .ok (.iconst 1, 1) := by decide +kernel
theorem dX2_join_23 : decode cX2_join 23 = .ok (.iadd, 1) := by decide +kernel
theorem dX2_join_24 : decode cX2_join 24 = .ok (.invokevirtual 54, 3) := by decide +kernel
theorem dX2_join_27 : decode cX2_join 27 = .ok (.return_, 1) := by decide +kernel
theorem dX2_shift_0 : decode cX2_shift 0 = .ok (.aload_n 0, 1) := by decide +kernel
theorem dX2_shift_1 : decode cX2_shift 1 = .ok (.getfield 21, 3) := by decide +kernel
theorem dX2_shift_4 : decode cX2_shift 4 = .ok (.iload_n 1, 1) := by decide +kernel
theorem dX2_shift_5 : decode cX2_shift 5 = .ok (.isub, 1) := by decide +kernel
theorem dX2_shift_6 : decode cX2_shift 6 = .ok (.istore_n 3, 1) := by decide +kernel
theorem dX2_shift_7 : decode cX2_shift 7 = .ok (.aload_n 0, 1) := by decide +kernel
theorem dX2_shift_8 : decode cX2_shift 8 = .ok (.getfield 9, 3) := by decide +kernel
theorem dX2_shift_11 : decode cX2_shift 11 = .ok (.iload_n 1, 1) := by decide +kernel
theorem dX2_shift_12 : decode cX2_shift 12 = .ok (.aload_n 0, 1) := by decide +kernel
theorem dX2_shift_13 : decode cX2_shift 13 = .ok (.getfield 9, 3) := by decide +kernel
theorem dX2_shift_16 : decode cX2_shift 16 = .ok (.iload_n 2, 1) := by decide +kernel
theorem dX2_shift_17 : decode cX2_shift 17 = .ok (.iload_n 3, 1) := by decide +kernel
theorem dX2_shift_18 : decode cX2_shift 18 = .ok (.invokestatic 57, 3) := by decide +kernel
theorem dX2_shift_21 : decode cX2_shift 21 = .ok (.aload_n 0, 1) := by decide +kernel
theorem dX2_shift_22 : decode cX2_shift 22 = .ok (.getfield 15, 3) := by decide +kernel
theorem dX2_shift_25 : decode cX2_shift 25 = .ok (.iload_n 1, 1) := by decide +kernel
theorem dX2_shift_26 : decode cX2_shift 26 = .ok (.aload_n 0, 1) := by decide +kernel
theorem dX2_shift_27 : decode cX2_shift 27 = .ok (.getfield 15, 3) := by decide +kernel
theorem dX2_shift_30 : decode cX2_shift 30 = .ok (.iload_n 2, 1) := by decide +kernel
theorem dX2_shift_31 : decode cX2_shift 31 = .ok (.iload_n 3, 1) := by decide +kernel
theorem dX2_shift_32 : decode cX2_shift 32 = .ok (.invokestatic 57, 3) := by decide +kernel
theorem dX2_shift_35 : decode cX2_shift 35 = .ok (.aload_n 0, 1) := by decide +kernel
theorem dX2_shift_36 : decode cX2_shift 36 = .ok (.getfield 18, 3) := by decide +kernel
theorem dX2_shift_39 : decode cX2_shift 39 = .ok (.iload_n 1, 1) := by decide +kernel
theorem dX2_shift_40 : decode cX2_shift 40 = .ok (.aload_n 0, 1) := by decide +kernel
theorem dX2_shift_41 : decode cX2_shift 41 = .ok (.getfield 18, 3) := by decide +kernel
theorem dX2_shift_44 : decode cX2_shift 44 = .ok (.iload_n 2, 1) := by decide +kernel
theorem dX2_shift_45 : decode cX2_shift 45 = .ok (.iload_n 3, 1) := by decide +kernel
theorem dX2_shift_46 : decode cX2_shift 46 = .ok (.invokestatic 57, 3) := by decide +kernel
theorem dX2_shift_49 : decode cX2_shift 49 = .ok (.aload_n 0, 1) := by decide +kernel
theorem dX2_shift_50 : decode cX2_shift 50 = .ok (.dup, 1) := by decide +kernel
theorem dX2_shift_51 : decode cX2_shift 51 = .ok (.getfield 21, 3) := by decide +kernel
theorem dX2_shift_54 : decode cX2_shift 54 = .ok (.iload_n 2, 1) := by decide +kernel
theorem dX2_shift_55 : decode cX2_shift 55 = .ok (.iload_n 1, 1) := by decide +kernel
theorem dX2_shift_56 : decode cX2_shift 56 = .ok (.isub, 1) := by decide +kernel
theorem dX2_shift_57 : decode cX2_shift 57 = .ok (.iadd, 1) := by decide +kernel
theorem dX2_shift_58 : decode cX2_shift 58 = .ok (.putfield 21, 3) := by decide +kernel
theorem dX2_shift_61 : decode cX2_shift 61 = .ok (.return_, 1) := by decide +kernel
theorem dX3_init_0 : decode cX3_init 0 = .ok (.aload_n 0, 1) := by decide +kernel
theorem dX3_init_1 : decode cX3_init 1 = .ok (.invokespecial 3, 3) := by decide +kernel
theorem dX3_init_4 : decode cX3_init 4 = .ok (.aload_n 0, 1) := by decide +kernel
theorem dX3_init_5 : decode cX3_init 5 = .ok (.aload_n 1, 1) := by decide +kernel
theorem dX3_init_6 : decode cX3_init 6 = .ok (.putfield 9, 3) := by decide +kernel
theorem dX3_init_9 : decode cX3_init 9 = .ok (.aload_n 0, 1) := by decide +kernel
theorem dX3_init_10 : decode cX3_init 10 = .ok (.iload_n 2, 1) := by decide +kernel
theorem dX3_init_11 : decode cX3_init 11 = .ok (.newarray .int, 2) := by decide +kernel
theorem dX3_init_13 : decode cX3_init 13 = .ok (.putfield 15, 3) := by decide +kernel
theorem dX3_init_16 : decode cX3_init 16 = .ok (.aload_n 0, 1) := by decide +kernel
theorem dX3_init_17 : decode cX3_init 17 = .ok (.iload_n 2, 1) := by decide +kernel
theorem dX3_init_18 : decode cX3_init 18 = .ok (.newarray .int, 2) := by decide +kernel
theorem dX3_init_20 : decode cX3_init 20 = .ok (.putfield 19, 3) := by decide +kernel
theorem dX3_init_23 : decode cX3_init 23 = .ok (.return_, 1) := by decide +kernel
theorem dX3_depth_0 : decode cX3_depth 0 = .ok (.iconst 0, 1) := by decide +kernel
theorem dX3_depth_1 : decode cX3_depth 1 = .ok (.istore_n 1, 1) := by decide +kernel
theorem dX3_depth_2 : decode cX3_depth 2 = .ok (.iconst 0, 1) := by decide +kernel
theorem dX3_depth_3 : decode cX3_depth 3 = .ok (.istore_n 2, 1) := by decide +kernel
theorem dX3_depth_4 : decode cX3_depth 4 = .ok (.iload_n 2, 1) := by decide +kernel
theorem dX3_depth_5 : decode cX3_depth 5 = .ok (.aload_n 0, 1) := by decide +kernel
theorem dX3_depth_6 : decode cX3_depth 6 = .ok (.getfield 9, 3) := by decide +kernel
theorem dX3_depth_9 : decode cX3_depth 9 = .ok (.getfield 22, 3) := by decide +kernel
theorem dX3_depth_12 : decode cX3_depth 12 = .ok (.if_icmp .ge 84, 3) := by decide +kernel
theorem dX3_depth_15 : decode cX3_depth 15 = .ok (.aload_n 0, 1) := by decide +kernel
theorem dX3_depth_16 : decode cX3_depth 16 = .ok (.getfield 9, 3) := by decide +kernel
theorem dX3_depth_19 : decode cX3_depth 19 = .ok (.getfield 28, 3) := by decide +kernel
theorem dX3_depth_22 : decode cX3_depth 22 = .ok (.iload_n 2, 1) := by decide +kernel
theorem dX3_depth_23 : decode cX3_depth 23 = .ok (.iaload, 1) := by decide +kernel
theorem dX3_depth_24 : decode cX3_depth 24 = .ok (.ifCond .ne 66, 3) := by decide +kernel
theorem dX3_depth_27 : decode cX3_depth 27 = .ok (.iload_n 1, 1) := by decide +kernel
theorem dX3_depth_28 : decode cX3_depth 28 = .ok (.istore_n 3, 1) := by decide +kernel
theorem dX3_depth_29 : decode cX3_depth 29 = .ok (.iload_n 3, 1) := by decide +kernel
theorem dX3_depth_30 : decode cX3_depth 30 = .ok (.ifCond .le 29, 3) := by decide +kernel
theorem dX3_depth_33 : decode cX3_depth 33 = .ok (.aload_n 0, 1) := by decide +kernel
theorem dX3_depth_34 : decode cX3_depth 34 = .ok (.getfield 15, 3) := by decide +kernel
theorem dX3_depth_37 : decode cX3_depth 37 = .ok (.iload_n 3, 1) := by decide +kernel
theorem dX3_depth_38 : decode cX3_depth 38 = .ok (.iconst 1, 1) := by decide +kernel
theorem dX3_depth_39 : decode cX3_depth 39 = .ok (.isub, 1) := by decide +kernel
theorem dX3_depth_40 : decode cX3_depth 40 = .ok (.iaload, 1) := by decide +kernel
theorem dX3_depth_41 : decode cX3_depth 41 = .ok (.aload_n 0, 1) := by decide +kernel
theorem dX3_depth_42 : decode cX3_depth 42 = .ok (.getfield 9, 3) := by decide +kernel
theorem dX3_depth_45 : decode cX3_depth 45 = .ok (.getfield 31, 3) := by decide +kernel
theorem dX3_depth_48 : decode cX3_depth 48 = .ok (.iload_n 2, 1) := by decide +kernel
theorem dX3_depth_49 : decode cX3_depth 49 = .ok (.iaload, 1) := by decide +kernel
theorem dX3_depth_50 : decode cX3_depth 50 = .ok (.if_icmp .ge 9, 3) := by decide +kernel
theorem dX3_depth_53 : decode cX3_depth 53 = .ok (.iinc 3 (-1), 3) := by decide +kernel
theorem dX3_depth_56 : decode cX3_depth 56 = .ok (.goto (-27), 3) := by decide +kernel
theorem dX3_depth_59 : decode cX3_depth 59 = .ok (.aload_n 0, 1) := by decide +kernel
theorem dX3_depth_60 : decode cX3_depth 60 = .ok (.getfield 19, 3) := by decide +kernel
theorem dX3_depth_63 : decode cX3_depth 63 = .ok (.iload_n 3, 1) := by decide +kernel
theorem dX3_depth_64 : decode cX3_depth 64 = .ok (.aload_n 0, 1) := by decide +kernel
theorem dX3_depth_65 : decode cX3_depth 65 = .ok (.iload_n 3, 1) := by decide +kernel
theorem dX3_depth_66 : decode cX3_depth 66 = .ok (.iload_n 1, 1) := by decide +kernel
theorem dX3_depth_67 : decode cX3_depth 67 = .ok (.invokevirtual 34, 3) := by decide +kernel
theorem dX3_depth_70 : decode cX3_depth 70 = .ok (.iastore, 1) := by decide +kernel
theorem dX3_depth_71 : decode cX3_depth 71 = .ok (.aload_n 0, 1) := by decide +kernel
theorem dX3_depth_72 : decode cX3_depth 72 = .ok (.getfield 15, 3) := by decide +kernel
theorem dX3_depth_75 : decode cX3_depth 75 = .ok (.iload_n 3, 1) := by decide +kernel
theorem dX3_depth_76 : decode cX3_depth 76 = .ok (.aload_n 0, 1) := by decide +kernel
theorem dX3_depth_77 : decode cX3_depth 77 = .ok (.getfield 9, 3) := by decide +kernel
theorem dX3_depth_80 : decode cX3_depth 80 = .ok (.getfield 31, 3) := by decide +kernel
theorem dX3_depth_83 : decode cX3_depth 83 = .ok (.iload_n 2, 1) := by decide +kernel
theorem dX3_depth_84 : decode cX3_depth 84 = .ok (.iaload, 1) := by decide +kernel
theorem dX3_depth_85 : decode cX3_depth 85 = .ok (.iastore, 1) := by decide +kernel
theorem dX3_depth_86 : decode cX3_depth 86 = .ok (.iload_n 3, 1) := by decide +kernel
theorem dX3_depth_87 : decode cX3_depth 87 = .ok (.iconst 1, 1) := by decide +kernel
theorem dX3_depth_88 : decode cX3_depth 88 = .ok (.iadd, 1) := by decide +kernel
theorem dX3_depth_89 : decode cX3_depth 89 = .ok (.istore_n 1, 1) := by decide +kernel
theorem dX3_depth_90 : decode cX3_depth 90 = .ok (.iinc 2 1, 3) := by decide +kernel
theorem dX3_depth_93 : decode cX3_depth 93 = .ok (.goto (-89), 3) := by decide +kernel
theorem dX3_depth_96 : decode cX3_depth 96 = .ok (.aload_n 0, 1) := by decide +kernel
theorem dX3_depth_97 : decode cX3_depth 97 = .ok (.iconst 0, 1) := by decide +kernel
theorem dX3_depth_98 : decode cX3_depth 98 = .ok (.iload_n 1, 1) := by decide +kernel
theorem dX3_depth_99 : decode cX3_depth 99 = .ok (.invokevirtual 34, 3) := by decide +kernel
theorem dX3_depth_102 : decode cX3_depth 102 = .ok (.ireturn, 1) := by decide +kernel
theorem dX3_depthOfSpine_0 : decode cX3_depthOfSpine 0 = .ok (.iconst 0, 1) := by decide +kernel
theorem dX3_depthOfSpine_1 : decode cX3_depthOfSpine 1 = .ok (.istore_n 3, 1) := by decide +kernel
theorem dX3_depthOfSpine_2 : decode cX3_depthOfSpine 2 = .ok (.iload_n 2, 1) := by decide +kernel
theorem dX3_depthOfSpine_3 : decode cX3_depthOfSpine 3 = .ok (.iconst 1, 1) := by decide +kernel
theorem dX3_depthOfSpine_4 : decode cX3_depthOfSpine 4 = .ok (.isub, 1) := by decide +kernel
theorem dX3_depthOfSpine_5 : decode cX3_depthOfSpine 5 = .ok (.istore 4, 2) := by decide +kernel
theorem dX3_depthOfSpine_7 : decode cX3_depthOfSpine 7 = .ok (.iload 4, 2) := by decide +kernel
theorem dX3_depthOfSpine_9 : decode cX3_depthOfSpine 9 = .ok (.iload_n 1, 1) := by decide +kernel
theorem dX3_depthOfSpine_10 : decode cX3_depthOfSpine 10 = .ok (.if_icmp .lt 23, 3) := by decide +kernel
theorem dX3_depthOfSpine_13 : decode cX3_depthOfSpine 13 = .ok (.iconst 1, 1) := by decide +kernel
theorem dX3_depthOfSpine_14 : decode cX3_depthOfSpine 14 = .ok (.iload_n 3, 1) := by decide +kernel
theorem dX3_depthOfSpine_15 : decode cX3_depthOfSpine 15 = .ok (.aload_n 0, 1) := by decide +kernel
theorem dX3_depthOfSpine_16 : decode cX3_depthOfSpine 16 = .ok (.getfield 19, 3) := by decide +kernel
theorem dX3_depthOfSpine_19 : decode cX3_depthOfSpine 19 = .ok (.iload 4, 2) := by decide +kernel
theorem dX3_depthOfSpine_21 : decode cX3_depthOfSpine 21 = .ok (.iaload, 1) := by decide +kernel
theorem dX3_depthOfSpine_22 : decode cX3_depthOfSpine 22 = .ok (.invokestatic 38, 3) := by decide +kernel
theorem dX3_depthOfSpine_25 : decode cX3_depthOfSpine 25 = .ok (.iadd, 1) := by decide +kernel
theorem dX3_depthOfSpine_26 : decode cX3_depthOfSpine 26 = .ok (.istore_n 3, 1) := by decide +kernel
theorem dX3_depthOfSpine_27 : decode cX3_depthOfSpine 27 = .ok (.iinc 4 (-1), 3) := by decide +kernel
theorem dX3_depthOfSpine_30 : decode cX3_depthOfSpine 30 = .ok (.goto (-23), 3) := by decide +kernel
theorem dX3_depthOfSpine_33 : decode cX3_depthOfSpine 33 = .ok (.iload_n 3, 1) := by decide +kernel
theorem dX3_depthOfSpine_34 : decode cX3_depthOfSpine 34 = .ok (.ireturn, 1) := by decide +kernel
theorem dX3_topToTheLeft_0 : decode cX3_topToTheLeft 0 = .ok (.iconst 0, 1) := by decide +kernel
theorem dX3_topToTheLeft_1 : decode cX3_topToTheLeft 1 = .ok (.istore_n 2, 1) := by decide +kernel
theorem dX3_topToTheLeft_2 : decode cX3_topToTheLeft 2 = .ok (.iconst 0, 1) := by decide +kernel
theorem dX3_topToTheLeft_3 : decode cX3_topToTheLeft 3 = .ok (.istore_n 3, 1) := by decide +kernel
theorem dX3_topToTheLeft_4 : decode cX3_topToTheLeft 4 = .ok (.iload_n 1, 1) := by decide +kernel
theorem dX3_topToTheLeft_5 : decode cX3_topToTheLeft 5 = .ok (.iconst 1, 1) := by decide +kernel
theorem dX3_topToTheLeft_6 : decode cX3_topToTheLeft 6 = .ok (.isub, 1) := by decide +kernel
theorem dX3_topToTheLeft_7 : decode cX3_topToTheLeft 7 = .ok (.istore 4, 2) := by decide +kernel
theorem dX3_topToTheLeft_9 : decode cX3_topToTheLeft 9 = .ok (.iload 4, 2) := by decide +kernel
theorem dX3_topToTheLeft_11 : decode cX3_topToTheLeft 11 = .ok (.ifCond .lt 83, 3) := by decide +kernel
theorem dX3_topToTheLeft_14 : decode cX3_topToTheLeft 14 = .ok (.aload_n 0, 1) := by decide +kernel
theorem dX3_topToTheLeft_15 : decode cX3_topToTheLeft 15 = .ok (.getfield 9, 3) := by decide +kernel
theorem dX3_topToTheLeft_18 : decode cX3_topToTheLeft 18 = .ok (.getfield 28, 3) := by decide +kernel
theorem dX3_topToTheLeft_21 : decode cX3_topToTheLeft 21 = .ok (.iload 4, 2) := by decide +kernel
theorem dX3_topToTheLeft_23 : decode cX3_topToTheLeft 23 = .ok (.iaload, 1) := by decide +kernel
theorem dX3_topToTheLeft_24 : decode cX3_topToTheLeft 24 = .ok (.ifCond .ne 64, 3) := by decide +kernel
theorem dX3_topToTheLeft_27 : decode cX3_topToTheLeft 27 = .ok (.aload_n 0, 1) := by decide +kernel
theorem dX3_topToTheLeft_28 : decode cX3_topToTheLeft 28 = .ok (.getfield 9, 3) := by decide +kernel
theorem dX3_topToTheLeft_31 : decode cX3_topToTheLeft 31 = .ok (.getfield 31, 3) := by decide +kernel
theorem dX3_topToTheLeft_34 : decode cX3_topToTheLeft 34 = .ok (.iload 4, 2) := by decide +kernel
theorem dX3_topToTheLeft_36 : decode cX3_topToTheLeft 36 = .ok (.iaload, 1) := by decide +kernel
theorem dX3_topToTheLeft_37 : decode cX3_topToTheLeft 37 = .ok (.aload_n 0, 1) := by decide +kernel
theorem dX3_topToTheLeft_38 : decode cX3_topToTheLeft 38 = .ok (.getfield 9, 3) := by decide +kernel
theorem dX3_topToTheLeft_41 : decode cX3_topToTheLeft 41 = .ok (.getfield 31, 3) := by decide +kernel
theorem dX3_topToTheLeft_44 : decode cX3_topToTheLeft 44 = .ok (.iload_n 1, 1) := by decide +kernel
theorem dX3_topToTheLeft_45 : decode cX3_topToTheLeft 45 = .ok (.iaload, 1) := by decide +kernel
theorem dX3_topToTheLeft_46 : decode cX3_topToTheLeft 46 = .ok (.if_icmp .lt 6, 3) := by decide +kernel
theorem dX3_topToTheLeft_49 : decode cX3_topToTheLeft 49 = .ok (.goto 45, 3) := by decide +kernel
theorem dX3_topToTheLeft_52 : decode cX3_topToTheLeft 52 = .ok (.aload_n 0, 1) := by decide +kernel
theorem dX3_topToTheLeft_53 : decode cX3_topToTheLeft 53 = .ok (.getfield 9, 3) := by decide +kernel
theorem dX3_topToTheLeft_56 : decode cX3_topToTheLeft 56 = .ok (.getfield 31, 3) := by decide +kernel
theorem dX3_topToTheLeft_59 : decode cX3_topToTheLeft 59 = .ok (.iload 4, 2) := by decide +kernel
theorem dX3_topToTheLeft_61 : decode cX3_topToTheLeft 61 = .ok (.iaload, 1) := by decide +kernel
theorem dX3_topToTheLeft_62 : decode cX3_topToTheLeft 62 = .ok (.iload_n 3, 1) := by decide +kernel
theorem dX3_topToTheLeft_63 : decode cX3_topToTheLeft 63 = .ok (.if_icmp .lt 25, 3) := by decide +kernel
theorem dX3_topToTheLeft_66 : decode cX3_topToTheLeft 66 = .ok (.aload_n 0, 1) := by decide +kernel
theorem dX3_topToTheLeft_67 : decode cX3_topToTheLeft 67 = .ok (.getfield 9, 3) := by decide +kernel
theorem dX3_topToTheLeft_70 : decode cX3_topToTheLeft 70 = .ok (.getfield 31, 3) := by decide +kernel
theorem dX3_topToTheLeft_73 : decode cX3_topToTheLeft 73 = .ok (.iload 4, 2) := by decide +kernel
theorem dX3_topToTheLeft_75 : decode cX3_topToTheLeft 75 = .ok (.iaload, 1) := by decide +kernel
theorem dX3_topToTheLeft_76 : decode cX3_topToTheLeft 76 = .ok (.istore_n 3, 1) := by decide +kernel
theorem dX3_topToTheLeft_77 : decode cX3_topToTheLeft 77 = .ok (.aload_n 0, 1) := by decide +kernel
theorem dX3_topToTheLeft_78 : decode cX3_topToTheLeft 78 = .ok (.getfield 9, 3) := by decide +kernel
theorem dX3_topToTheLeft_81 : decode cX3_topToTheLeft 81 = .ok (.getfield 43, 3) := by decide +kernel
theorem dX3_topToTheLeft_84 : decode cX3_topToTheLeft 84 = .ok (.iload 4, 2) := by decide +kernel
theorem dX3_topToTheLeft_86 : decode cX3_topToTheLeft 86 = .ok (.iaload, 1) := by decide +kernel
theorem dX3_topToTheLeft_87 : decode cX3_topToTheLeft 87 = .ok (.istore_n 2, 1) := by decide +kernel
theorem dX3_topToTheLeft_88 : decode cX3_topToTheLeft 88 = .ok (.iinc 4 (-1), 3) := by decide +kernel
theorem dX3_topToTheLeft_91 : decode cX3_topToTheLeft 91 = .ok (.goto (-82), 3) := by decide +kernel
theorem dX3_topToTheLeft_94 : decode cX3_topToTheLeft 94 = .ok (.iload_n 2, 1) := by decide +kernel
theorem dX3_topToTheLeft_95 : decode cX3_topToTheLeft 95 = .ok (.ireturn, 1) := by decide +kernel
theorem dX3_topToTheRight_0 : decode cX3_topToTheRight 0 = .ok (.iconst 0, 1) := by decide +kernel
theorem dX3_topToTheRight_1 : decode cX3_topToTheRight 1 = .ok (.istore_n 2, 1) := by decide +kernel
theorem dX3_topToTheRight_2 : decode cX3_topToTheRight 2 = .ok (.iconst 0, 1) := by decide +kernel
theorem dX3_topToTheRight_3 : decode cX3_topToTheRight 3 = .ok (.istore_n 3, 1) := by decide +kernel
theorem dX3_topToTheRight_4 : decode cX3_topToTheRight 4 = .ok (.iload_n 1, 1) := by decide +kernel
theorem dX3_topToTheRight_5 : decode cX3_topToTheRight 5 = .ok (.iconst 1, 1) := by decide +kernel
theorem dX3_topToTheRight_6 : decode cX3_topToTheRight 6 = .ok (.iadd, 1) := by decide +kernel
theorem dX3_topToTheRight_7 : decode cX3_topToTheRight 7 = .ok (.istore 4, 2) := by decide +kernel
theorem dX3_topToTheRight_9 : decode cX3_topToTheRight 9 = .ok (.iload 4, 2) := by decide +kernel
theorem dX3_topToTheRight_11 : decode cX3_topToTheRight 11 = .ok (.aload_n 0, 1) := by decide +kernel
theorem dX3_topToTheRight_12 : decode cX3_topToTheRight 12 = .ok (.getfield 9, 3) := by decide +kernel
theorem dX3_topToTheRight_15 : decode cX3_topToTheRight 15 = .ok (.getfield 22, 3) := by decide +kernel
theorem dX3_topToTheRight_18 : decode cX3_topToTheRight 18 = .ok (.if_icmp .ge 83, 3) := by decide +kernel
theorem dX3_topToTheRight_21 : decode cX3_topToTheRight 21 = .ok (.aload_n 0, 1) := by decide +kernel
theorem dX3_topToTheRight_22 : decode cX3_topToTheRight 22 = .ok (.getfield 9, 3) := by decide +kernel
theorem dX3_topToTheRight_25 : decode cX3_topToTheRight 25 = .ok (.getfield 28, 3) := by decide +kernel
theorem dX3_topToTheRight_28 : decode cX3_topToTheRight 28 = .ok (.iload 4, 2) := by decide +kernel
theorem dX3_topToTheRight_30 : decode cX3_topToTheRight 30 = .ok (.iaload, 1) := by decide +kernel
theorem dX3_topToTheRight_31 : decode cX3_topToTheRight 31 = .ok (.ifCond .ne 64, 3) := by decide +kernel
theorem dX3_topToTheRight_34 : decode cX3_topToTheRight 34 = .ok (.aload_n 0, 1) := by decide +kernel
theorem dX3_topToTheRight_35 : decode cX3_topToTheRight 35 = .ok (.getfield 9, 3) := by decide +kernel
theorem dX3_topToTheRight_38 : decode cX3_topToTheRight 38 = .ok (.getfield 31, 3) := by decide +kernel
theorem dX3_topToTheRight_41 : decode cX3_topToTheRight 41 = .ok (.iload 4, 2) := by decide +kernel
theorem dX3_topToTheRight_43 : decode cX3_topToTheRight 43 = .ok (.iaload, 1) := by decide +kernel
theorem dX3_topToTheRight_44 : decode cX3_topToTheRight 44 = .ok (.aload_n 0, 1) := by decide +kernel
theorem dX3_topToTheRight_45 : decode cX3_topToTheRight 45 = .ok (.getfield 9, 3) := by decide +kernel
theorem dX3_topToTheRight_48 : decode cX3_topToTheRight 48 = .ok (.getfield 31, 3) := by decide +kernel
theorem dX3_topToTheRight_51 : decode cX3_topToTheRight 51 = .ok (.iload_n 1, 1) := by decide +kernel
theorem dX3_topToTheRight_52 : decode cX3_topToTheRight 52 = .ok (.iaload, 1) := by decide +kernel
theorem dX3_topToTheRight_53 : decode cX3_topToTheRight 53 = .ok (.if_icmp .le 6, 3) := by decide +kernel
theorem dX3_topToTheRight_56 : decode cX3_topToTheRight 56 = .ok (.goto 45, 3) := by decide +kernel
theorem dX3_topToTheRight_59 : decode cX3_topToTheRight 59 = .ok (.aload_n 0, 1) := by decide +kernel
theorem dX3_topToTheRight_60 : decode cX3_topToTheRight 60 = .ok (.getfield 9, 3) := by decide +kernel
theorem dX3_topToTheRight_63 : decode cX3_topToTheRight 63 = .ok (.getfield 31, 3) := by decide +kernel
theorem dX3_topToTheRight_66 : decode cX3_topToTheRight 66 = .ok (.iload 4, 2) := by decide +kernel
theorem dX3_topToTheRight_68 : decode cX3_topToTheRight 68 = .ok (.iaload, 1) := by decide +kernel
theorem dX3_topToTheRight_69 : decode cX3_topToTheRight 69 = .ok (.iload_n 3, 1) := by decide +kernel
theorem dX3_topToTheRight_70 : decode cX3_topToTheRight 70 = .ok (.if_icmp .le 25, 3) := by decide +kernel
theorem dX3_topToTheRight_73 : decode cX3_topToTheRight 73 = .ok (.aload_n 0, 1) := by decide +kernel
theorem dX3_topToTheRight_74 : decode cX3_topToTheRight 74 = .ok (.getfield 9, 3) := by decide +kernel
theorem dX3_topToTheRight_77 : decode cX3_topToTheRight 77 = .ok (.getfield 31, 3) := by decide +kernel
theorem dX3_topToTheRight_80 : decode cX3_topToTheRight 80 = .ok (.iload 4, 2) := by decide +kernel
theorem dX3_topToTheRight_82 : decode cX3_topToTheRight 82 = .ok (.iaload, 1) := by decide +kernel
theorem dX3_topToTheRight_83 : decode cX3_topToTheRight 83 = .ok (.istore_n 3, 1) := by decide +kernel
theorem dX3_topToTheRight_84 : decode cX3_topToTheRight 84 = .ok (.aload_n 0, 1) := by decide +kernel
theorem dX3_topToTheRight_85 : decode cX3_topToTheRight 85 = .ok (.getfield 9, 3) := by decide +kernel
theorem dX3_topToTheRight_88 : decode cX3_topToTheRight 88 = .ok (.getfield 43, 3) := by decide +kernel
theorem dX3_topToTheRight_91 : decode cX3_topToTheRight 91 = .ok (.iload 4, 2) := by decide +kernel
theorem dX3_topToTheRight_93 : decode cX3_topToTheRight 93 = .ok (.iaload, 1) := by decide +kernel
theorem dX3_topToTheRight_94 : decode cX3_topToTheRight 94 = .ok (.istore_n 2, 1) := by decide +kernel
theorem dX3_topToTheRight_95 : decode cX3_topToTheRight 95 = .ok (.iinc 4 1, 3) := by decide +kernel
theorem dX3_topToTheRight_98 : decode cX3_topToTheRight 98 = .ok (.goto (-89), 3) := by decide +kernel
theorem dX3_topToTheRight_101 : decode cX3_topToTheRight 101 = .ok (.iload_n 2, 1) := by decide +kernel
theorem dX3_topToTheRight_102 : decode cX3_topToTheRight 102 = .ok (.ireturn, 1) := by decide +kernel
theorem dJ7_rangeCheck_23922_0 : decode cJ7_rangeCheck_23922 0 = .ok (.iload_n 1, 1) := by decide +kernel
theorem dJ7_rangeCheck_23922_1 : decode cJ7_rangeCheck_23922 1 = .ok (.iload_n 2, 1) := by decide +kernel
theorem dJ7_rangeCheck_23922_2 : decode cJ7_rangeCheck_23922 2 = .ok (.if_icmp .le 44, 3) := by decide +kernel
theorem dJ7_rangeCheck_23922_5 : decode cJ7_rangeCheck_23922 5 = .ok (.new 43, 3) := by decide +kernel
theorem dJ7_rangeCheck_23922_8 : decode cJ7_rangeCheck_23922 8 = .ok (.dup, 1) := by decide +kernel
theorem dJ7_rangeCheck_23922_9 : decode cJ7_rangeCheck_23922 9 = .ok (.new 45, 3) := by decide +kernel
theorem dJ7_rangeCheck_23922_12 : decode cJ7_rangeCheck_23922 12 = .ok (.dup, 1) := by decide +kernel
theorem dJ7_rangeCheck_23922_13 : decode cJ7_rangeCheck_23922 13 = .ok (.invokespecial 47, 3) := by decide +kernel
theorem dJ7_rangeCheck_23922_16 : decode cJ7_rangeCheck_23922 16 = .ok (.ldc 48, 2) := by decide +kernel
theorem dJ7_rangeCheck_23922_18 : decode cJ7_rangeCheck_23922 18 = .ok (.invokevirtual 50, 3) := by decide +kernel
theorem dJ7_rangeCheck_23922_21 : decode cJ7_rangeCheck_23922 21 = .ok (.iload_n 1, 1) := by decide +kernel
theorem dJ7_rangeCheck_23922_22 : decode cJ7_rangeCheck_23922 22 = .ok (.invokevirtual 54, 3) := by decide +kernel
theorem dJ7_rangeCheck_23922_25 : decode cJ7_rangeCheck_23922 25 = .ok (.ldc 57, 2) := by decide +kernel
theorem dJ7_rangeCheck_23922_27 : decode cJ7_rangeCheck_23922 27 = .ok (.invokevirtual 50, 3) := by decide +kernel
theorem dJ7_rangeCheck_23922_30 : decode cJ7_rangeCheck_23922 30 = .ok (.iload_n 2, 1) := by decide +kernel
theorem dJ7_rangeCheck_23922_31 : decode cJ7_rangeCheck_23922 31 = .ok (.invokevirtual 54, 3) := by decide +kernel
theorem dJ7_rangeCheck_23922_34 : decode cJ7_rangeCheck_23922 34 = .ok (.ldc 59, 2) := by decide +kernel
theorem dJ7_rangeCheck_23922_36 : decode cJ7_rangeCheck_23922 36 = .ok (.invokevirtual 50, 3) := by decide +kernel
theorem dJ7_rangeCheck_23922_39 : decode cJ7_rangeCheck_23922 39 = .ok (.invokevirtual 61, 3) := by decide +kernel
theorem dJ7_rangeCheck_23922_42 : decode cJ7_rangeCheck_23922 42 = .ok (.invokespecial 65, 3) := by decide +kernel
theorem dJ7_rangeCheck_23922_45 : decode cJ7_rangeCheck_23922 45 = .ok (.athrow, 1) := by decide +kernel
theorem dJ7_rangeCheck_23922_46 : decode cJ7_rangeCheck_23922 46 = .ok (.iload_n 1, 1) := by decide +kernel
theorem dJ7_rangeCheck_23922_47 : decode cJ7_rangeCheck_23922 47 = .ok (.ifCond .ge 12, 3) := by decide +kernel
theorem dJ7_rangeCheck_23922_50 : decode cJ7_rangeCheck_23922 50 = .ok (.new 68, 3) := by decide +kernel
theorem dJ7_rangeCheck_23922_53 : decode cJ7_rangeCheck_23922 53 = .ok (.dup, 1) := by decide +kernel
theorem dJ7_rangeCheck_23922_54 : decode cJ7_rangeCheck_23922 54 = .ok (.iload_n 1, 1) := by decide +kernel
theorem dJ7_rangeCheck_23922_55 : decode cJ7_rangeCheck_23922 55 = .ok (.invokespecial 70, 3) := by decide +kernel
theorem dJ7_rangeCheck_23922_58 : decode cJ7_rangeCheck_23922 58 = .ok (.athrow, 1) := by decide +kernel
theorem dJ7_rangeCheck_23922_59 : decode cJ7_rangeCheck_23922 59 = .ok (.iload_n 2, 1) := by decide +kernel
theorem dJ7_rangeCheck_23922_60 : decode cJ7_rangeCheck_23922 60 = .ok (.iload_n 0, 1) := by decide +kernel
theorem dJ7_rangeCheck_23922_61 : decode cJ7_rangeCheck_23922 61 = .ok (.if_icmp .le 12, 3) := by decide +kernel
theorem dJ7_rangeCheck_23922_64 : decode cJ7_rangeCheck_23922 64 = .ok (.new 68, 3) := by decide +kernel
theorem dJ7_rangeCheck_23922_67 : decode cJ7_rangeCheck_23922 67 = .ok (.dup, 1) := by decide +kernel
theorem dJ7_rangeCheck_23922_68 : decode cJ7_rangeCheck_23922 68 = .ok (.iload_n 2, 1) := by decide +kernel
theorem dJ7_rangeCheck_23922_69 : decode cJ7_rangeCheck_23922 69 = .ok (.invokespecial 70, 3) := by decide +kernel
theorem dJ7_rangeCheck_23922_72 : decode cJ7_rangeCheck_23922 72 = .ok (.athrow, 1) := by decide +kernel
theorem dJ7_rangeCheck_23922_73 : decode cJ7_rangeCheck_23922 73 = .ok (.return_, 1) := by decide +kernel
theorem dJ7_fill_fda19_0 : decode cJ7_fill_fda19 0 = .ok (.aload_n 0, 1) := by decide +kernel
theorem dJ7_fill_fda19_1 : decode cJ7_fill_fda19 1 = .ok (.arraylength, 1) := by decide +kernel
theorem dJ7_fill_fda19_2 : decode cJ7_fill_fda19 2 = .ok (.iload_n 1, 1) := by decide +kernel
theorem dJ7_fill_fda19_3 : decode cJ7_fill_fda19 3 = .ok (.iload_n 2, 1) := by decide +kernel
theorem dJ7_fill_fda19_4 : decode cJ7_fill_fda19 4 = .ok (.invokestatic 13, 3) := by decide +kernel
theorem dJ7_fill_fda19_7 : decode cJ7_fill_fda19 7 = .ok (.iload_n 1, 1) := by decide +kernel
theorem dJ7_fill_fda19_8 : decode cJ7_fill_fda19 8 = .ok (.istore 4, 2) := by decide +kernel
theorem dJ7_fill_fda19_10 : decode cJ7_fill_fda19 10 = .ok (.iload 4, 2) := by decide +kernel
theorem dJ7_fill_fda19_12 : decode cJ7_fill_fda19 12 = .ok (.iload_n 2, 1) := by decide +kernel
theorem dJ7_fill_fda19_13 : decode cJ7_fill_fda19 13 = .ok (.if_icmp .ge 14, 3) := by decide +kernel
theorem dJ7_fill_fda19_16 : decode cJ7_fill_fda19 16 = .ok (.aload_n 0, 1) := by decide +kernel
theorem dJ7_fill_fda19_17 : decode cJ7_fill_fda19 17 = .ok (.iload 4, 2) := by decide +kernel
theorem dJ7_fill_fda19_19 : decode cJ7_fill_fda19 19 = .ok (.iload_n 3, 1) := by decide +kernel
theorem dJ7_fill_fda19_20 : decode cJ7_fill_fda19 20 = .ok (.iastore, 1) := by decide +kernel
theorem dJ7_fill_fda19_21 : decode cJ7_fill_fda19 21 = .ok (.iinc 4 1, 3) := by decide +kernel
theorem dJ7_fill_fda19_24 : decode cJ7_fill_fda19 24 = .ok (.goto (-14), 3) := by decide +kernel
theorem dJ7_fill_fda19_27 : decode cJ7_fill_fda19 27 = .ok (.return_, 1) := by decide +kernel
end
section
theorem dX4_init_0 : decode cX4_init 0 = .ok (.aload_n 0, 1) := by decide +kernel
theorem dX4_init_1 : decode cX4_init 1 = .ok (.invokespecial 1, 3) := by decide +kernel
theorem dX4_init_4 : decode cX4_init 4 = .ok (.bipush 16, 2) := by decide +kernel
theorem dX4_init_6 : decode cX4_init 6 = .ok (.sipush 4096, 3) := by decide +kernel
theorem dX4_init_9 : decode cX4_init 9 = .ok (.iload_n 1, 1) := by decide +kernel
theorem dX4_init_10 : decode cX4_init 10 = .ok (.invokestatic 9, 3) := by decide +kernel
theorem dX4_init_13 : decode cX4_init 13 = .ok (.invokestatic 15, 3) := by decide +kernel
theorem dX4_init_16 : decode cX4_init 16 = .ok (.istore_n 2, 1) := by decide +kernel
theorem dX4_init_17 : decode cX4_init 17 = .ok (.iload_n 2, 1) := by decide +kernel
theorem dX4_init_18 : decode cX4_init 18 = .ok (.iconst 3, 1) := by decide +kernel
theorem dX4_init_19 : decode cX4_init 19 = .ok (.isub, 1) := by decide +kernel
theorem dX4_init_20 : decode cX4_init 20 = .ok (.iconst 4, 1) := by decide +kernel
theorem dX4_init_21 : decode cX4_init 21 = .ok (.idiv, 1) := by decide +kernel
theorem dX4_init_22 : decode cX4_init 22 = .ok (.istore_n 3, 1) := by decide +kernel
theorem dX4_init_23 : decode cX4_init 23 = .ok (.aload_n 0, 1) := by decide +kernel
theorem dX4_init_24 : decode cX4_init 24 = .ok (.iload_n 2, 1) := by decide +kernel
theorem dX4_init_25 : decode cX4_init 25 = .ok (.newarray .int, 2) := by decide +kernel
theorem dX4_init_27 : decode cX4_init 27 = .ok (.putfield 18, 3) := by decide +kernel
theorem dX4_init_30 : decode cX4_init 30 = .ok (.aload_n 0, 1) := by decide +kernel
theorem dX4_init_31 : decode cX4_init 31 = .ok (.new 22, 3) := by decide +kernel
theorem dX4_init_34 : decode cX4_init 34 = .ok (.dup, 1) := by decide +kernel
theorem dX4_init_35 : decode cX4_init 35 = .ok (.iload_n 3, 1) := by decide +kernel
theorem dX4_init_36 : decode cX4_init 36 = .ok (.invokespecial 24, 3) := by decide +kernel
theorem dX4_init_39 : decode cX4_init 39 = .ok (.putfield 27, 3) := by decide +kernel
theorem dX4_init_42 : decode cX4_init 42 = .ok (.aload_n 0, 1) := by decide +kernel
theorem dX4_init_43 : decode cX4_init 43 = .ok (.new 31, 3) := by decide +kernel
theorem dX4_init_46 : decode cX4_init 46 = .ok (.dup, 1) := by decide +kernel
theorem dX4_init_47 : decode cX4_init 47 = .ok (.aload_n 0, 1) := by decide +kernel
theorem dX4_init_48 : decode cX4_init 48 = .ok (.getfield 27, 3) := by decide +kernel
theorem dX4_init_51 : decode cX4_init 51 = .ok (.iload_n 3, 1) := by decide +kernel
theorem dX4_init_52 : decode cX4_init 52 = .ok (.invokespecial 33, 3) := by decide +kernel
theorem dX4_init_55 : decode cX4_init 55 = .ok (.putfield 36, 3) := by decide +kernel
theorem dX4_init_58 : decode cX4_init 58 = .ok (.aload_n 0, 1) := by decide +kernel
theorem dX4_init_59 : decode cX4_init 59 = .ok (.new 40, 3) := by decide +kernel
theorem dX4_init_62 : decode cX4_init 62 = .ok (.dup, 1) := by decide +kernel
theorem dX4_init_63 : decode cX4_init 63 = .ok (.aload_n 0, 1) := by decide +kernel
theorem dX4_init_64 : decode cX4_init 64 = .ok (.getfield 27, 3) := by decide +kernel
theorem dX4_init_67 : decode cX4_init 67 = .ok (.iload_n 3, 1) := by decide +kernel
theorem dX4_init_68 : decode cX4_init 68 = .ok (.invokespecial 42, 3) := by decide +kernel
theorem dX4_init_71 : decode cX4_init 71 = .ok (.putfield 43, 3) := by decide +kernel
theorem dX4_init_74 : decode cX4_init 74 = .ok (.aload_n 0, 1) := by decide +kernel
theorem dX4_init_75 : decode cX4_init 75 = .ok (.new 47, 3) := by decide +kernel
theorem dX4_init_78 : decode cX4_init 78 = .ok (.dup, 1) := by decide +kernel
theorem dX4_init_79 : decode cX4_init 79 = .ok (.iload_n 3, 1) := by decide +kernel
theorem dX4_init_80 : decode cX4_init 80 = .ok (.sipush 128, 3) := by decide +kernel
theorem dX4_init_83 : decode cX4_init 83 = .ok (.invokestatic 9, 3) := by decide +kernel
theorem dX4_init_86 : decode cX4_init 86 = .ok (.invokespecial 49, 3) := by decide +kernel
theorem dX4_init_89 : decode cX4_init 89 = .ok (.putfield 50, 3) := by decide +kernel
theorem dX4_init_92 : decode cX4_init 92 = .ok (.return_, 1) := by decide +kernel
theorem dX4_give_0 : decode cX4_give 0 = .ok (.aload_n 0, 1) := by decide +kernel
theorem dX4_give_1 : decode cX4_give 1 = .ok (.iload_n 1, 1) := by decide +kernel
theorem dX4_give_2 : decode cX4_give 2 = .ok (.iconst 4, 1) := by decide +kernel
theorem dX4_give_3 : decode cX4_give 3 = .ok (.invokevirtual 54, 3) := by decide +kernel
theorem dX4_give_6 : decode cX4_give 6 = .ok (.ireturn, 1) := by decide +kernel
theorem dX4_giveAligned_0 : decode cX4_giveAligned 0 = .ok (.iload_n 2, 1) := by decide +kernel
theorem dX4_giveAligned_1 : decode cX4_giveAligned 1 = .ok (.iload_n 2, 1) := by decide +kernel
theorem dX4_giveAligned_2 : decode cX4_giveAligned 2 = .ok (.iconst 1, 1) := by decide +kernel
theorem dX4_giveAligned_3 : decode cX4_giveAligned 3 = .ok (.isub, 1) := by decide +kernel
theorem dX4_giveAligned_4 : decode cX4_giveAligned 4 = .ok (.iand, 1) := by decide +kernel
theorem dX4_giveAligned_5 : decode cX4_giveAligned 5 = .ok (.ifCond .ne 7, 3) := by decide +kernel
theorem dX4_giveAligned_8 : decode cX4_giveAligned 8 = .ok (.iconst 1, 1) := by decide +kernel
theorem dX4_giveAligned_9 : decode cX4_giveAligned 9 = .ok (.goto 4, 3) := by decide +kernel
theorem dX4_giveAligned_12 : decode cX4_giveAligned 12 = .ok (.iconst 0, 1) := by decide +kernel
theorem dX4_giveAligned_13 : decode cX4_giveAligned 13 = .ok (.istore_n 3, 1) := by decide +kernel
theorem dX4_giveAligned_14 : decode cX4_giveAligned 14 = .ok (.iload_n 2, 1) := by decide +kernel
theorem dX4_giveAligned_15 : decode cX4_giveAligned 15 = .ok (.iconst 4, 1) := by decide +kernel
theorem dX4_giveAligned_16 : decode cX4_giveAligned 16 = .ok (.if_icmp .lt 14, 3) := by decide +kernel
theorem dX4_giveAligned_19 : decode cX4_giveAligned 19 = .ok (.iload_n 2, 1) := by decide +kernel
theorem dX4_giveAligned_20 : decode cX4_giveAligned 20 = .ok (.sipush 1024, 3) := by decide +kernel
theorem dX4_giveAligned_23 : decode cX4_giveAligned 23 = .ok (.if_icmp .gt 7, 3) := by decide +kernel
theorem dX4_giveAligned_26 : decode cX4_giveAligned 26 = .ok (.iload_n 3, 1) := by decide +kernel
theorem dX4_giveAligned_27 : decode cX4_giveAligned 27 = .ok (.ifCond .ne 5, 3) := by decide +kernel
theorem dX4_giveAligned_30 : decode cX4_giveAligned 30 = .ok (.iconst 0, 1) := by decide +kernel
theorem dX4_giveAligned_31 : decode cX4_giveAligned 31 = .ok (.ireturn, 1) := by decide +kernel
theorem dX4_giveAligned_32 : decode cX4_giveAligned 32 = .ok (.aload_n 0, 1) := by decide +kernel
theorem dX4_giveAligned_33 : decode cX4_giveAligned 33 = .ok (.iload_n 1, 1) := by decide +kernel
theorem dX4_giveAligned_34 : decode cX4_giveAligned 34 = .ok (.iload_n 2, 1) := by decide +kernel
theorem dX4_giveAligned_35 : decode cX4_giveAligned 35 = .ok (.invokevirtual 54, 3) := by decide +kernel
theorem dX4_giveAligned_38 : decode cX4_giveAligned 38 = .ok (.ireturn, 1) := by decide +kernel
theorem dX4_free_0 : decode cX4_free 0 = .ok (.aload_n 0, 1) := by decide +kernel
theorem dX4_free_1 : decode cX4_free 1 = .ok (.getfield 27, 3) := by decide +kernel
theorem dX4_free_4 : decode cX4_free 4 = .ok (.iload_n 1, 1) := by decide +kernel
theorem dX4_free_5 : decode cX4_free 5 = .ok (.invokevirtual 57, 3) := by decide +kernel
theorem dX4_free_8 : decode cX4_free 8 = .ok (.istore_n 2, 1) := by decide +kernel
theorem dX4_free_9 : decode cX4_free 9 = .ok (.iload_n 2, 1) := by decide +kernel
theorem dX4_free_10 : decode cX4_free 10 = .ok (.iconst (-1), 1) := by decide +kernel
theorem dX4_free_11 : decode cX4_free 11 = .ok (.if_icmp .ne 5, 3) := by decide +kernel
theorem dX4_free_14 : decode cX4_free 14 = .ok (.iconst 0, 1) := by decide +kernel
theorem dX4_free_15 : decode cX4_free 15 = .ok (.ireturn, 1) := by decide +kernel
theorem dX4_free_16 : decode cX4_free 16 = .ok (.aload_n 0, 1) := by decide +kernel
theorem dX4_free_17 : decode cX4_free 17 = .ok (.getfield 27, 3) := by decide +kernel
theorem dX4_free_20 : decode cX4_free 20 = .ok (.iload_n 2, 1) := by decide +kernel
theorem dX4_free_21 : decode cX4_free 21 = .ok (.invokevirtual 61, 3) := by decide +kernel
theorem dX4_free_24 : decode cX4_free 24 = .ok (.aload_n 0, 1) := by decide +kernel
theorem dX4_free_25 : decode cX4_free 25 = .ok (.getfield 43, 3) := by decide +kernel
theorem dX4_free_28 : decode cX4_free 28 = .ok (.invokevirtual 64, 3) := by decide +kernel
theorem dX4_free_31 : decode cX4_free 31 = .ok (.iconst 1, 1) := by decide +kernel
theorem dX4_free_32 : decode cX4_free 32 = .ok (.ireturn, 1) := by decide +kernel
theorem dX4_grow_0 : decode cX4_grow 0 = .ok (.aload_n 0, 1) := by decide +kernel
theorem dX4_grow_1 : decode cX4_grow 1 = .ok (.getfield 27, 3) := by decide +kernel
theorem dX4_grow_4 : decode cX4_grow 4 = .ok (.iload_n 1, 1) := by decide +kernel
theorem dX4_grow_5 : decode cX4_grow 5 = .ok (.invokevirtual 57, 3) := by decide +kernel
theorem dX4_grow_8 : decode cX4_grow 8 = .ok (.istore_n 3, 1) := by decide +kernel
theorem dX4_grow_9 : decode cX4_grow 9 = .ok (.iload_n 3, 1) := by decide +kernel
theorem dX4_grow_10 : decode cX4_grow 10 = .ok (.iconst (-1), 1) := by decide +kernel
theorem dX4_grow_11 : decode cX4_grow 11 = .ok (.if_icmp .eq 8, 3) := by decide +kernel
theorem dX4_grow_14 : decode cX4_grow 14 = .ok (.iload_n 2, 1) := by decide +kernel
theorem dX4_grow_15 : decode cX4_grow 15 = .ok (.iconst 1, 1) := by decide +kernel
theorem dX4_grow_16 : decode cX4_grow 16 = .ok (.if_icmp .ge 5, 3) := by decide +kernel
theorem dX4_grow_19 : decode cX4_grow 19 = .ok (.iconst 0, 1) := by decide +kernel
theorem dX4_grow_20 : decode cX4_grow 20 = .ok (.ireturn, 1) := by decide +kernel
theorem dX4_grow_21 : decode cX4_grow 21 = .ok (.aload_n 0, 1) := by decide +kernel
theorem dX4_grow_22 : decode cX4_grow 22 = .ok (.getfield 27, 3) := by decide +kernel
theorem dX4_grow_25 : decode cX4_grow 25 = .ok (.getfield 67, 3) := by decide +kernel
theorem dX4_grow_28 : decode cX4_grow 28 = .ok (.iload_n 3, 1) := by decide +kernel
theorem dX4_grow_29 : decode cX4_grow 29 = .ok (.iaload, 1) := by decide +kernel
theorem dX4_grow_30 : decode cX4_grow 30 = .ok (.istore 4, 2) := by decide +kernel
theorem dX4_grow_32 : decode cX4_grow 32 = .ok (.iload_n 2, 1) := by decide +kernel
theorem dX4_grow_33 : decode cX4_grow 33 = .ok (.invokestatic 70, 3) := by decide +kernel
theorem dX4_grow_36 : decode cX4_grow 36 = .ok (.istore 5, 2) := by decide +kernel
theorem dX4_grow_38 : decode cX4_grow 38 = .ok (.iload 5, 2) := by decide +kernel
theorem dX4_grow_40 : decode cX4_grow 40 = .ok (.iload 4, 2) := by decide +kernel
theorem dX4_grow_42 : decode cX4_grow 42 = .ok (.if_icmp .le 44, 3) := by decide +kernel
theorem dX4_grow_45 : decode cX4_grow 45 = .ok (.aload_n 0, 1) := by decide +kernel
theorem dX4_grow_46 : decode cX4_grow 46 = .ok (.getfield 27, 3) := by decide +kernel
theorem dX4_grow_49 : decode cX4_grow 49 = .ok (.iload_n 3, 1) := by decide +kernel
theorem dX4_grow_50 : decode cX4_grow 50 = .ok (.invokevirtual 73, 3) := by decide +kernel
theorem dX4_grow_53 : decode cX4_grow 53 = .ok (.iload 5, 2) := by decide +kernel
theorem dX4_grow_55 : decode cX4_grow 55 = .ok (.iload 4, 2) := by decide +kernel
theorem dX4_grow_57 : decode cX4_grow 57 = .ok (.isub, 1) := by decide +kernel
theorem dX4_grow_58 : decode cX4_grow 58 = .ok (.if_icmp .ge 5, 3) := by decide +kernel
theorem dX4_grow_61 : decode cX4_grow 61 = .ok (.iconst 0, 1) := by decide +kernel
theorem dX4_grow_62 : decode cX4_grow 62 = .ok (.ireturn, 1) := by decide +kernel
theorem dX4_grow_63 : decode cX4_grow 63 = .ok (.aload_n 0, 1) := by decide +kernel
theorem dX4_grow_64 : decode cX4_grow 64 = .ok (.getfield 27, 3) := by decide +kernel
theorem dX4_grow_67 : decode cX4_grow 67 = .ok (.iload_n 3, 1) := by decide +kernel
theorem dX4_grow_68 : decode cX4_grow 68 = .ok (.iload 5, 2) := by decide +kernel
theorem dX4_grow_70 : decode cX4_grow 70 = .ok (.invokevirtual 76, 3) := by decide +kernel
theorem dX4_grow_73 : decode cX4_grow 73 = .ok (.aload_n 0, 1) := by decide +kernel
theorem dX4_grow_74 : decode cX4_grow 74 = .ok (.iload_n 1, 1) := by decide +kernel
theorem dX4_grow_75 : decode cX4_grow 75 = .ok (.iload 4, 2) := by decide +kernel
theorem dX4_grow_77 : decode cX4_grow 77 = .ok (.iconst 1, 1) := by decide +kernel
theorem dX4_grow_78 : decode cX4_grow 78 = .ok (.isub, 1) := by decide +kernel
theorem dX4_grow_79 : decode cX4_grow 79 = .ok (.iload 5, 2) := by decide +kernel
theorem dX4_grow_81 : decode cX4_grow 81 = .ok (.iconst 1, 1) := by decide +kernel
theorem dX4_grow_82 : decode cX4_grow 82 = .ok (.isub, 1) := by decide +kernel
theorem dX4_grow_83 : decode cX4_grow 83 = .ok (.invokevirtual 80, 3) := by decide +kernel
theorem dX4_grow_86 : decode cX4_grow 86 = .ok (.aload_n 0, 1) := by decide +kernel
theorem dX4_grow_87 : decode cX4_grow 87 = .ok (.getfield 43, 3) := by decide +kernel
theorem dX4_grow_90 : decode cX4_grow 90 = .ok (.invokevirtual 64, 3) := by decide +kernel
theorem dX4_grow_93 : decode cX4_grow 93 = .ok (.iconst 1, 1) := by decide +kernel
theorem dX4_grow_94 : decode cX4_grow 94 = .ok (.ireturn, 1) := by decide +kernel
theorem dX4_trim_0 : decode cX4_trim 0 = .ok (.aload_n 0, 1) := by decide +kernel
theorem dX4_trim_1 : decode cX4_trim 1 = .ok (.getfield 27, 3) := by decide +kernel
theorem dX4_trim_4 : decode cX4_trim 4 = .ok (.iload_n 1, 1) := by decide +kernel
theorem dX4_trim_5 : decode cX4_trim 5 = .ok (.invokevirtual 57, 3) := by decide +kernel
theorem dX4_trim_8 : decode cX4_trim 8 = .ok (.istore_n 3, 1) := by decide +kernel
theorem dX4_trim_9 : decode cX4_trim 9 = .ok (.iload_n 3, 1) := by decide +kernel
theorem dX4_trim_10 : decode cX4_trim 10 = .ok (.iconst (-1), 1) := by decide +kernel
theorem dX4_trim_11 : decode cX4_trim 11 = .ok (.if_icmp .eq 8, 3) := by decide +kernel
theorem dX4_trim_14 : decode cX4_trim 14 = .ok (.iload_n 2, 1) := by decide +kernel
theorem dX4_trim_15 : decode cX4_trim 15 = .ok (.iconst 1, 1) := by decide +kernel
theorem dX4_trim_16 : decode cX4_trim 16 = .ok (.if_icmp .ge 5, 3) := by decide +kernel
theorem dX4_trim_19 : decode cX4_trim 19 = .ok (.iconst 0, 1) := by decide +kernel
theorem dX4_trim_20 : decode cX4_trim 20 = .ok (.ireturn, 1) := by decide +kernel
theorem dX4_trim_21 : decode cX4_trim 21 = .ok (.iload_n 2, 1) := by decide +kernel
theorem dX4_trim_22 : decode cX4_trim 22 = .ok (.invokestatic 70, 3) := by decide +kernel
theorem dX4_trim_25 : decode cX4_trim 25 = .ok (.istore 4, 2) := by decide +kernel
theorem dX4_trim_27 : decode cX4_trim 27 = .ok (.iload 4, 2) := by decide +kernel
theorem dX4_trim_29 : decode cX4_trim 29 = .ok (.aload_n 0, 1) := by decide +kernel
theorem dX4_trim_30 : decode cX4_trim 30 = .ok (.getfield 27, 3) := by decide +kernel
theorem dX4_trim_33 : decode cX4_trim 33 = .ok (.getfield 67, 3) := by decide +kernel
theorem dX4_trim_36 : decode cX4_trim 36 = .ok (.iload_n 3, 1) := by decide +kernel
theorem dX4_trim_37 : decode cX4_trim 37 = .ok (.iaload, 1) := by decide +kernel
theorem dX4_trim_38 : decode cX4_trim 38 = .ok (.if_icmp .le 5, 3) := by decide +kernel
theorem dX4_trim_41 : decode cX4_trim 41 = .ok (.iconst 0, 1) := by decide +kernel
theorem dX4_trim_42 : decode cX4_trim 42 = .ok (.ireturn, 1) := by decide +kernel
theorem dX4_trim_43 : decode cX4_trim 43 = .ok (.aload_n 0, 1) := by decide +kernel
theorem dX4_trim_44 : decode cX4_trim 44 = .ok (.getfield 27, 3) := by decide +kernel
theorem dX4_trim_47 : decode cX4_trim 47 = .ok (.iload_n 3, 1) := by decide +kernel
theorem dX4_trim_48 : decode cX4_trim 48 = .ok (.iload 4, 2) := by decide +kernel
theorem dX4_trim_50 : decode cX4_trim 50 = .ok (.invokevirtual 84, 3) := by decide +kernel
theorem dX4_trim_53 : decode cX4_trim 53 = .ok (.aload_n 0, 1) := by decide +kernel
theorem dX4_trim_54 : decode cX4_trim 54 = .ok (.getfield 43, 3) := by decide +kernel
theorem dX4_trim_57 : decode cX4_trim 57 = .ok (.invokevirtual 64, 3) := by decide +kernel
theorem dX4_trim_60 : decode cX4_trim 60 = .ok (.iconst 1, 1) := by decide +kernel
theorem dX4_trim_61 : decode cX4_trim 61 = .ok (.ireturn, 1) := by decide +kernel
theorem dX4_pin_0 : decode cX4_pin 0 = .ok (.aload_n 0, 1) := by decide +kernel
theorem dX4_pin_1 : decode cX4_pin 1 = .ok (.getfield 27, 3) := by decide +kernel
theorem dX4_pin_4 : decode cX4_pin 4 = .ok (.iload_n 1, 1) := by decide +kernel
theorem dX4_pin_5 : decode cX4_pin 5 = .ok (.invokevirtual 57, 3) := by decide +kernel
theorem dX4_pin_8 : decode cX4_pin 8 = .ok (.istore_n 3, 1) := by decide +kernel
theorem dX4_pin_9 : decode cX4_pin 9 = .ok (.iload_n 3, 1) := by decide +kernel
theorem dX4_pin_10 : decode cX4_pin 10 = .ok (.iconst (-1), 1) := by decide +kernel
theorem dX4_pin_11 : decode cX4_pin 11 = .ok (.if_icmp .ne 5, 3) := by decide +kernel
theorem dX4_pin_14 : decode cX4_pin 14 = .ok (.iconst 0, 1) := by decide +kernel
theorem dX4_pin_15 : decode cX4_pin 15 = .ok (.ireturn, 1) := by decide +kernel
theorem dX4_pin_16 : decode cX4_pin 16 = .ok (.aload_n 0, 1) := by decide +kernel
theorem dX4_pin_17 : decode cX4_pin 17 = .ok (.getfield 27, 3) := by decide +kernel
theorem dX4_pin_20 : decode cX4_pin 20 = .ok (.getfield 87, 3) := by decide +kernel
theorem dX4_pin_23 : decode cX4_pin 23 = .ok (.iload_n 3, 1) := by decide +kernel
theorem dX4_pin_24 : decode cX4_pin 24 = .ok (.iload_n 2, 1) := by decide +kernel
theorem dX4_pin_25 : decode cX4_pin 25 = .ok (.ifCond .eq 7, 3) := by decide +kernel
theorem dX4_pin_28 : decode cX4_pin 28 = .ok (.iconst 2, 1) := by decide +kernel
theorem dX4_pin_29 : decode cX4_pin 29 = .ok (.goto 4, 3) := by decide +kernel
theorem dX4_pin_32 : decode cX4_pin 32 = .ok (.iconst 1, 1) := by decide +kernel
theorem dX4_pin_33 : decode cX4_pin 33 = .ok (.iastore, 1) := by decide +kernel
theorem dX4_pin_34 : decode cX4_pin 34 = .ok (.aload_n 0, 1) := by decide +kernel
theorem dX4_pin_35 : decode cX4_pin 35 = .ok (.getfield 43, 3) := by decide +kernel
theorem dX4_pin_38 : decode cX4_pin 38 = .ok (.invokevirtual 64, 3) := by decide +kernel
theorem dX4_pin_41 : decode cX4_pin 41 = .ok (.iconst 1, 1) := by decide +kernel
theorem dX4_pin_42 : decode cX4_pin 42 = .ok (.ireturn, 1) := by decide +kernel
theorem dX4_get_0 : decode cX4_get 0 = .ok (.aload_n 0, 1) := by decide +kernel
theorem dX4_get_1 : decode cX4_get 1 = .ok (.getfield 18, 3) := by decide +kernel
theorem dX4_get_4 : decode cX4_get 4 = .ok (.aload_n 0, 1) := by decide +kernel
theorem dX4_get_5 : decode cX4_get 5 = .ok (.iload_n 1, 1) := by decide +kernel
theorem dX4_get_6 : decode cX4_get 6 = .ok (.iload_n 2, 1) := by decide +kernel
theorem dX4_get_7 : decode cX4_get 7 = .ok (.invokevirtual 90, 3) := by decide +kernel
theorem dX4_get_10 : decode cX4_get 10 = .ok (.iaload, 1) := by decide +kernel
theorem dX4_get_11 : decode cX4_get 11 = .ok (.ireturn, 1) := by decide +kernel
theorem dX4_set_0 : decode cX4_set 0 = .ok (.aload_n 0, 1) := by decide +kernel
theorem dX4_set_1 : decode cX4_set 1 = .ok (.iload_n 1, 1) := by decide +kernel
theorem dX4_set_2 : decode cX4_set 2 = .ok (.iload_n 2, 1) := by decide +kernel
theorem dX4_set_3 : decode cX4_set 3 = .ok (.invokevirtual 90, 3) := by decide +kernel
theorem dX4_set_6 : decode cX4_set 6 = .ok (.istore 4, 2) := by decide +kernel
theorem dX4_set_8 : decode cX4_set 8 = .ok (.aload_n 0, 1) := by decide +kernel
theorem dX4_set_9 : decode cX4_set 9 = .ok (.getfield 18, 3) := by decide +kernel
theorem dX4_set_12 : decode cX4_set 12 = .ok (.iload 4, 2) := by decide +kernel
theorem dX4_set_14 : decode cX4_set 14 = .ok (.iaload, 1) := by decide +kernel
theorem dX4_set_15 : decode cX4_set 15 = .ok (.istore 5, 2) := by decide +kernel
theorem dX4_set_17 : decode cX4_set 17 = .ok (.aload_n 0, 1) := by decide +kernel
theorem dX4_set_18 : decode cX4_set 18 = .ok (.getfield 18, 3) := by decide +kernel
theorem dX4_set_21 : decode cX4_set 21 = .ok (.iload 4, 2) := by decide +kernel
theorem dX4_set_23 : decode cX4_set 23 = .ok (.iload_n 3, 1) := by decide +kernel
theorem dX4_set_24 : decode cX4_set 24 = .ok (.iastore, 1) := by decide +kernel
theorem dX4_set_25 : decode cX4_set 25 = .ok (.iload 5, 2) := by decide +kernel
theorem dX4_set_27 : decode cX4_set 27 = .ok (.ireturn, 1) := by decide +kernel
theorem dX4_sizeOf_0 : decode cX4_sizeOf 0 = .ok (.aload_n 0, 1) := by decide +kernel
theorem dX4_sizeOf_1 : decode cX4_sizeOf 1 = .ok (.getfield 27, 3) := by decide +kernel
theorem dX4_sizeOf_4 : decode cX4_sizeOf 4 = .ok (.iload_n 1, 1) := by decide +kernel
theorem dX4_sizeOf_5 : decode cX4_sizeOf 5 = .ok (.invokevirtual 57, 3) := by decide +kernel
theorem dX4_sizeOf_8 : decode cX4_sizeOf 8 = .ok (.istore_n 2, 1) := by decide +kernel
theorem dX4_sizeOf_9 : decode cX4_sizeOf 9 = .ok (.iload_n 2, 1) := by decide +kernel
theorem dX4_sizeOf_10 : decode cX4_sizeOf 10 = .ok (.iconst (-1), 1) := by decide +kernel
theorem dX4_sizeOf_11 : decode cX4_sizeOf 11 = .ok (.if_icmp .ne 7, 3) := by decide +kernel
theorem dX4_sizeOf_14 : decode cX4_sizeOf 14 = .ok (.iconst (-1), 1) := by decide +kernel
theorem dX4_sizeOf_15 : decode cX4_sizeOf 15 = .ok (.goto 14, 3) := by decide +kernel
theorem dX4_sizeOf_18 : decode cX4_sizeOf 18 = .ok (.aload_n 0, 1) := by decide +kernel
theorem dX4_sizeOf_19 : decode cX4_sizeOf 19 = .ok (.getfield 27, 3) := by decide +kernel
theorem dX4_sizeOf_22 : decode cX4_sizeOf 22 = .ok (.getfield 67, 3) := by decide +kernel
theorem dX4_sizeOf_25 : decode cX4_sizeOf 25 = .ok (.iload_n 2, 1) := by decide +kernel
theorem dX4_sizeOf_26 : decode cX4_sizeOf 26 = .ok (.iaload, 1) := by decide +kernel
theorem dX4_sizeOf_27 : decode cX4_sizeOf 27 = .ok (.iconst 1, 1) := by decide +kernel
theorem dX4_sizeOf_28 : decode cX4_sizeOf 28 = .ok (.isub, 1) := by decide +kernel
theorem dX4_sizeOf_29 : decode cX4_sizeOf 29 = .ok (.ireturn, 1) := by decide +kernel
theorem dX4_largest_0 : decode cX4_largest 0 = .ok (.aload_n 0, 1) := by decide +kernel
theorem dX4_largest_1 : decode cX4_largest 1 = .ok (.getfield 27, 3) := by decide +kernel
theorem dX4_largest_4 : decode cX4_largest 4 = .ok (.invokevirtual 93, 3) := by decide +kernel
theorem dX4_largest_7 : decode cX4_largest 7 = .ok (.ireturn, 1) := by decide +kernel
theorem dX4_count_0 : decode cX4_count 0 = .ok (.iload_n 1, 1) := by decide +kernel
theorem dX4_count_1 : decode cX4_count 1 = .ok (.tableswitch 78 0 4 #[35, 43, 51, 59, 70], 35) := by decide +kernel
theorem dX4_count_36 : decode cX4_count 36 = .ok (.aload_n 0, 1) := by decide +kernel
theorem dX4_count_37 : decode cX4_count 37 = .ok (.getfield 27, 3) := by decide +kernel
theorem dX4_count_40 : decode cX4_count 40 = .ok (.invokevirtual 97, 3) := by decide +kernel
theorem dX4_count_43 : decode cX4_count 43 = .ok (.ireturn, 1) := by decide +kernel
theorem dX4_count_44 : decode cX4_count 44 = .ok (.aload_n 0, 1) := by decide +kernel
theorem dX4_count_45 : decode cX4_count 45 = .ok (.getfield 27, 3) := by decide +kernel
theorem dX4_count_48 : decode cX4_count 48 = .ok (.invokevirtual 100, 3) := by decide +kernel
theorem dX4_count_51 : decode cX4_count 51 = .ok (.ireturn, 1) := by decide +kernel
theorem dX4_count_52 : decode cX4_count 52 = .ok (.aload_n 0, 1) := by decide +kernel
theorem dX4_count_53 : decode cX4_count 53 = .ok (.getfield 27, 3) := by decide +kernel
theorem dX4_count_56 : decode cX4_count 56 = .ok (.invokevirtual 103, 3) := by decide +kernel
theorem dX4_count_59 : decode cX4_count 59 = .ok (.ireturn, 1) := by decide +kernel
theorem dX4_count_60 : decode cX4_count 60 = .ok (.aload_n 0, 1) := by decide +kernel
theorem dX4_count_61 : decode cX4_count 61 = .ok (.getfield 43, 3) := by decide +kernel
theorem dX4_count_64 : decode cX4_count 64 = .ok (.getfield 106, 3) := by decide +kernel
theorem dX4_count_67 : decode cX4_count 67 = .ok (.getfield 109, 3) := by decide +kernel
theorem dX4_count_70 : decode cX4_count 70 = .ok (.ireturn, 1) := by decide +kernel
theorem dX4_count_71 : decode cX4_count 71 = .ok (.aload_n 0, 1) := by decide +kernel
theorem dX4_count_72 : decode cX4_count 72 = .ok (.getfield 36, 3) := by decide +kernel
theorem dX4_count_75 : decode cX4_count 75 = .ok (.invokevirtual 113, 3) := by decide +kernel
theorem dX4_count_78 : decode cX4_count 78 = .ok (.ireturn, 1) := by decide +kernel
theorem dX4_count_79 : decode cX4_count 79 = .ok (.iconst (-1), 1) := by decide +kernel
theorem dX4_count_80 : decode cX4_count 80 = .ok (.ireturn, 1) := by decide +kernel
theorem dX4_freeAt_0 : decode cX4_freeAt 0 = .ok (.aload_n 0, 1) := by decide +kernel
theorem dX4_freeAt_1 : decode cX4_freeAt 1 = .ok (.getfield 27, 3) := by decide +kernel
theorem dX4_freeAt_4 : decode cX4_freeAt 4 = .ok (.iload_n 1, 1) := by decide +kernel
theorem dX4_freeAt_5 : decode cX4_freeAt 5 = .ok (.invokevirtual 116, 3) := by decide +kernel
theorem dX4_freeAt_8 : decode cX4_freeAt 8 = .ok (.ireturn, 1) := by decide +kernel
theorem dX4_branch_0 : decode cX4_branch 0 = .ok (.aload_n 0, 1) := by decide +kernel
theorem dX4_branch_1 : decode cX4_branch 1 = .ok (.getfield 27, 3) := by decide +kernel
theorem dX4_branch_4 : decode cX4_branch 4 = .ok (.iload_n 1, 1) := by decide +kernel
theorem dX4_branch_5 : decode cX4_branch 5 = .ok (.invokevirtual 119, 3) := by decide +kernel
theorem dX4_branch_8 : decode cX4_branch 8 = .ok (.istore_n 3, 1) := by decide +kernel
theorem dX4_branch_9 : decode cX4_branch 9 = .ok (.iload_n 3, 1) := by decide +kernel
theorem dX4_branch_10 : decode cX4_branch 10 = .ok (.iconst (-1), 1) := by decide +kernel
theorem dX4_branch_11 : decode cX4_branch 11 = .ok (.if_icmp .ne 13, 3) := by decide +kernel
theorem dX4_branch_14 : decode cX4_branch 14 = .ok (.new 122, 3) := by decide +kernel
theorem dX4_branch_17 : decode cX4_branch 17 = .ok (.dup, 1) := by decide +kernel
theorem dX4_branch_18 : decode cX4_branch 18 = .ok (.ldc 124, 2) := by decide +kernel
theorem dX4_branch_20 : decode cX4_branch 20 = .ok (.invokespecial 126, 3) := by decide +kernel
theorem dX4_branch_23 : decode cX4_branch 23 = .ok (.athrow, 1) := by decide +kernel
theorem dX4_branch_24 : decode cX4_branch 24 = .ok (.iload_n 2, 1) := by decide +kernel
theorem dX4_branch_25 : decode cX4_branch 25 = .ok (.tableswitch 55 0 2 #[27, 36, 45], 27) := by decide +kernel
theorem dX4_branch_52 : decode cX4_branch 52 = .ok (.aload_n 0, 1) := by decide +kernel
theorem dX4_branch_53 : decode cX4_branch 53 = .ok (.getfield 36, 3) := by decide +kernel
theorem dX4_branch_56 : decode cX4_branch 56 = .ok (.iload_n 3, 1) := by decide +kernel
theorem dX4_branch_57 : decode cX4_branch 57 = .ok (.invokevirtual 129, 3) := by decide +kernel
theorem dX4_branch_60 : decode cX4_branch 60 = .ok (.ireturn, 1) := by decide +kernel
theorem dX4_branch_61 : decode cX4_branch 61 = .ok (.aload_n 0, 1) := by decide +kernel
theorem dX4_branch_62 : decode cX4_branch 62 = .ok (.getfield 36, 3) := by decide +kernel
theorem dX4_branch_65 : decode cX4_branch 65 = .ok (.iload_n 3, 1) := by decide +kernel
theorem dX4_branch_66 : decode cX4_branch 66 = .ok (.invokevirtual 132, 3) := by decide +kernel
theorem dX4_branch_69 : decode cX4_branch 69 = .ok (.ireturn, 1) := by decide +kernel
theorem dX4_branch_70 : decode cX4_branch 70 = .ok (.aload_n 0, 1) := by decide +kernel
theorem dX4_branch_71 : decode cX4_branch 71 = .ok (.getfield 27, 3) := by decide +kernel
theorem dX4_branch_74 : decode cX4_branch 74 = .ok (.getfield 67, 3) := by decide +kernel
theorem dX4_branch_77 : decode cX4_branch 77 = .ok (.iload_n 3, 1) := by decide +kernel
theorem dX4_branch_78 : decode cX4_branch 78 = .ok (.iaload, 1) := by decide +kernel
theorem dX4_branch_79 : decode cX4_branch 79 = .ok (.ireturn, 1) := by decide +kernel
theorem dX4_branch_80 : decode cX4_branch 80 = .ok (.new 135, 3) := by decide +kernel
theorem dX4_branch_83 : decode cX4_branch 83 = .ok (.dup, 1) := by decide +kernel
theorem dX4_branch_84 : decode cX4_branch 84 = .ok (.ldc 137, 2) := by decide +kernel
theorem dX4_branch_86 : decode cX4_branch 86 = .ok (.invokespecial 139, 3) := by decide +kernel
theorem dX4_branch_89 : decode cX4_branch 89 = .ok (.athrow, 1) := by decide +kernel
theorem dX4_advise_0 : decode cX4_advise 0 = .ok (.aload_n 0, 1) := by decide +kernel
theorem dX4_advise_1 : decode cX4_advise 1 = .ok (.getfield 43, 3) := by decide +kernel
theorem dX4_advise_4 : decode cX4_advise 4 = .ok (.invokevirtual 64, 3) := by decide +kernel
theorem dX4_advise_7 : decode cX4_advise 7 = .ok (.iload_n 1, 1) := by decide +kernel
theorem dX4_advise_8 : decode cX4_advise 8 = .ok (.iconst 1, 1) := by decide +kernel
theorem dX4_advise_9 : decode cX4_advise 9 = .ok (.if_icmp .lt 16, 3) := by decide +kernel
theorem dX4_advise_12 : decode cX4_advise 12 = .ok (.aload_n 0, 1) := by decide +kernel
theorem dX4_advise_13 : decode cX4_advise 13 = .ok (.getfield 27, 3) := by decide +kernel
theorem dX4_advise_16 : decode cX4_advise 16 = .ok (.invokevirtual 103, 3) := by decide +kernel
theorem dX4_advise_19 : decode cX4_advise 19 = .ok (.sipush 128, 3) := by decide +kernel
theorem dX4_advise_22 : decode cX4_advise 22 = .ok (.if_icmp .le 5, 3) := by decide +kernel
theorem dX4_advise_25 : decode cX4_advise 25 = .ok (.iconst (-1), 1) := by decide +kernel
theorem dX4_advise_26 : decode cX4_advise 26 = .ok (.ireturn, 1) := by decide +kernel
theorem dX4_advise_27 : decode cX4_advise 27 = .ok (.aload_n 0, 1) := by decide +kernel
theorem dX4_advise_28 : decode cX4_advise 28 = .ok (.getfield 43, 3) := by decide +kernel
theorem dX4_advise_31 : decode cX4_advise 31 = .ok (.iload_n 1, 1) := by decide +kernel
theorem dX4_advise_32 : decode cX4_advise 32 = .ok (.invokevirtual 140, 3) := by decide +kernel
theorem dX4_advise_35 : decode cX4_advise 35 = .ok (.aload_n 0, 1) := by decide +kernel
theorem dX4_advise_36 : decode cX4_advise 36 = .ok (.getfield 43, 3) := by decide +kernel
theorem dX4_advise_39 : decode cX4_advise 39 = .ok (.getfield 143, 3) := by decide +kernel
theorem dX4_advise_42 : decode cX4_advise 42 = .ok (.ifCond .eq 16, 3) := by decide +kernel
theorem dX4_advise_45 : decode cX4_advise 45 = .ok (.aload_n 0, 1) := by decide +kernel
theorem dX4_advise_46 : decode cX4_advise 46 = .ok (.getfield 43, 3) := by decide +kernel
theorem dX4_advise_49 : decode cX4_advise 49 = .ok (.getfield 106, 3) := by decide +kernel
theorem dX4_advise_52 : decode cX4_advise 52 = .ok (.getfield 109, 3) := by decide +kernel
theorem dX4_advise_55 : decode cX4_advise 55 = .ok (.goto 4, 3) := by decide +kernel
theorem dX4_advise_58 : decode cX4_advise 58 = .ok (.iconst (-1), 1) := by decide +kernel
theorem dX4_advise_59 : decode cX4_advise 59 = .ok (.ireturn, 1) := by decide +kernel
theorem dX4_window_0 : decode cX4_window 0 = .ok (.aload_n 0, 1) := by decide +kernel
theorem dX4_window_1 : decode cX4_window 1 = .ok (.getfield 43, 3) := by decide +kernel
theorem dX4_window_4 : decode cX4_window 4 = .ok (.getfield 143, 3) := by decide +kernel
theorem dX4_window_7 : decode cX4_window 7 = .ok (.ifCond .eq 13, 3) := by decide +kernel
theorem dX4_window_10 : decode cX4_window 10 = .ok (.aload_n 0, 1) := by decide +kernel
theorem dX4_window_11 : decode cX4_window 11 = .ok (.getfield 43, 3) := by decide +kernel
theorem dX4_window_14 : decode cX4_window 14 = .ok (.getfield 147, 3) := by decide +kernel
theorem dX4_window_17 : decode cX4_window 17 = .ok (.goto 4, 3) := by decide +kernel
theorem dX4_window_20 : decode cX4_window 20 = .ok (.iconst (-1), 1) := by decide +kernel
theorem dX4_window_21 : decode cX4_window 21 = .ok (.ireturn, 1) := by decide +kernel
theorem dX4_move_0 : decode cX4_move 0 = .ok (.aload_n 0, 1) := by decide +kernel
theorem dX4_move_1 : decode cX4_move 1 = .ok (.getfield 43, 3) := by decide +kernel
theorem dX4_move_4 : decode cX4_move 4 = .ok (.getfield 106, 3) := by decide +kernel
theorem dX4_move_7 : decode cX4_move 7 = .ok (.astore_n 3, 1) := by decide +kernel
theorem dX4_move_8 : decode cX4_move 8 = .ok (.iload_n 1, 1) := by decide +kernel
theorem dX4_move_9 : decode cX4_move 9 = .ok (.ifCond .lt 11, 3) := by decide +kernel
theorem dX4_move_12 : decode cX4_move 12 = .ok (.iload_n 1, 1) := by decide +kernel
theorem dX4_move_13 : decode cX4_move 13 = .ok (.aload_n 3, 1) := by decide +kernel
theorem dX4_move_14 : decode cX4_move 14 = .ok (.getfield 109, 3) := by decide +kernel
theorem dX4_move_17 : decode cX4_move 17 = .ok (.if_icmp .lt 13, 3) := by decide +kernel
theorem dX4_move_20 : decode cX4_move 20 = .ok (.new 150, 3) := by decide +kernel
theorem dX4_move_23 : decode cX4_move 23 = .ok (.dup, 1) := by decide +kernel
theorem dX4_move_24 : decode cX4_move 24 = .ok (.ldc 152, 2) := by decide +kernel
theorem dX4_move_26 : decode cX4_move 26 = .ok (.invokespecial 154, 3) := by decide +kernel
theorem dX4_move_29 : decode cX4_move 29 = .ok (.athrow, 1) := by decide +kernel
theorem dX4_move_30 : decode cX4_move 30 = .ok (.iload_n 2, 1) := by decide +kernel
theorem dX4_move_31 : decode cX4_move 31 = .ok (.ifCond .eq 18, 3) := by decide +kernel
theorem dX4_move_34 : decode cX4_move 34 = .ok (.iload_n 2, 1) := by decide +kernel
theorem dX4_move_35 : decode cX4_move 35 = .ok (.iconst 1, 1) := by decide +kernel
theorem dX4_move_36 : decode cX4_move 36 = .ok (.if_icmp .eq 13, 3) := by decide +kernel
theorem dX4_move_39 : decode cX4_move 39 = .ok (.new 135, 3) := by decide +kernel
theorem dX4_move_42 : decode cX4_move 42 = .ok (.dup, 1) := by decide +kernel
theorem dX4_move_43 : decode cX4_move 43 = .ok (.ldc 155, 2) := by decide +kernel
theorem dX4_move_45 : decode cX4_move 45 = .ok (.invokespecial 139, 3) := by decide +kernel
theorem dX4_move_48 : decode cX4_move 48 = .ok (.athrow, 1) := by decide +kernel
theorem dX4_move_49 : decode cX4_move 49 = .ok (.iload_n 2, 1) := by decide +kernel
theorem dX4_move_50 : decode cX4_move 50 = .ok (.ifCond .ne 12, 3) := by decide +kernel
theorem dX4_move_53 : decode cX4_move 53 = .ok (.aload_n 3, 1) := by decide +kernel
theorem dX4_move_54 : decode cX4_move 54 = .ok (.getfield 157, 3) := by decide +kernel
theorem dX4_move_57 : decode cX4_move 57 = .ok (.iload_n 1, 1) := by decide +kernel
theorem dX4_move_58 : decode cX4_move 58 = .ok (.iaload, 1) := by decide +kernel
theorem dX4_move_59 : decode cX4_move 59 = .ok (.goto 9, 3) := by decide +kernel
theorem dX4_move_62 : decode cX4_move 62 = .ok (.aload_n 3, 1) := by decide +kernel
theorem dX4_move_63 : decode cX4_move 63 = .ok (.getfield 160, 3) := by decide +kernel
theorem dX4_move_66 : decode cX4_move 66 = .ok (.iload_n 1, 1) := by decide +kernel
theorem dX4_move_67 : decode cX4_move 67 = .ok (.iaload, 1) := by decide +kernel
theorem dX4_move_68 : decode cX4_move 68 = .ok (.ireturn, 1) := by decide +kernel
theorem dX4_apply_0 : decode cX4_apply 0 = .ok (.aload_n 0, 1) := by decide +kernel
theorem dX4_apply_1 : decode cX4_apply 1 = .ok (.getfield 43, 3) := by decide +kernel
theorem dX4_apply_4 : decode cX4_apply 4 = .ok (.getfield 143, 3) := by decide +kernel
theorem dX4_apply_7 : decode cX4_apply 7 = .ok (.ifCond .ne 5, 3) := by decide +kernel
theorem dX4_apply_10 : decode cX4_apply 10 = .ok (.iconst (-1), 1) := by decide +kernel
theorem dX4_apply_11 : decode cX4_apply 11 = .ok (.ireturn, 1) := by decide +kernel
theorem dX4_apply_12 : decode cX4_apply 12 = .ok (.aload_n 0, 1) := by decide +kernel
theorem dX4_apply_13 : decode cX4_apply 13 = .ok (.getfield 50, 3) := by decide +kernel
theorem dX4_apply_16 : decode cX4_apply 16 = .ok (.aload_n 0, 1) := by decide +kernel
theorem dX4_apply_17 : decode cX4_apply 17 = .ok (.getfield 43, 3) := by decide +kernel
theorem dX4_apply_20 : decode cX4_apply 20 = .ok (.getfield 106, 3) := by decide +kernel
theorem dX4_apply_23 : decode cX4_apply 23 = .ok (.invokevirtual 163, 3) := by decide +kernel
theorem dX4_apply_26 : decode cX4_apply 26 = .ok (.aload_n 0, 1) := by decide +kernel
theorem dX4_apply_27 : decode cX4_apply 27 = .ok (.getfield 43, 3) := by decide +kernel
theorem dX4_apply_30 : decode cX4_apply 30 = .ok (.invokevirtual 64, 3) := by decide +kernel
theorem dX4_apply_33 : decode cX4_apply 33 = .ok (.iconst 0, 1) := by decide +kernel
theorem dX4_apply_34 : decode cX4_apply 34 = .ok (.istore_n 1, 1) := by decide +kernel
theorem dX4_apply_35 : decode cX4_apply 35 = .ok (.iload_n 1, 1) := by decide +kernel
theorem dX4_apply_36 : decode cX4_apply 36 = .ok (.aload_n 0, 1) := by decide +kernel
theorem dX4_apply_37 : decode cX4_apply 37 = .ok (.getfield 50, 3) := by decide +kernel
theorem dX4_apply_40 : decode cX4_apply 40 = .ok (.getfield 109, 3) := by decide +kernel
theorem dX4_apply_43 : decode cX4_apply 43 = .ok (.if_icmp .ge 31, 3) := by decide +kernel
theorem dX4_apply_46 : decode cX4_apply 46 = .ok (.aload_n 0, 1) := by decide +kernel
theorem dX4_apply_47 : decode cX4_apply 47 = .ok (.aload_n 0, 1) := by decide +kernel
theorem dX4_apply_48 : decode cX4_apply 48 = .ok (.getfield 50, 3) := by decide +kernel
theorem dX4_apply_51 : decode cX4_apply 51 = .ok (.getfield 157, 3) := by decide +kernel
theorem dX4_apply_54 : decode cX4_apply 54 = .ok (.iload_n 1, 1) := by decide +kernel
theorem dX4_apply_55 : decode cX4_apply 55 = .ok (.iaload, 1) := by decide +kernel
theorem dX4_apply_56 : decode cX4_apply 56 = .ok (.aload_n 0, 1) := by decide +kernel
theorem dX4_apply_57 : decode cX4_apply 57 = .ok (.getfield 50, 3) := by decide +kernel
theorem dX4_apply_60 : decode cX4_apply 60 = .ok (.getfield 160, 3) := by decide +kernel
theorem dX4_apply_63 : decode cX4_apply 63 = .ok (.iload_n 1, 1) := by decide +kernel
theorem dX4_apply_64 : decode cX4_apply 64 = .ok (.iaload, 1) := by decide +kernel
theorem dX4_apply_65 : decode cX4_apply 65 = .ok (.invokevirtual 167, 3) := by decide +kernel
theorem dX4_apply_68 : decode cX4_apply 68 = .ok (.iinc 1 1, 3) := by decide +kernel
theorem dX4_apply_71 : decode cX4_apply 71 = .ok (.goto (-36), 3) := by decide +kernel
theorem dX4_apply_74 : decode cX4_apply 74 = .ok (.iconst 0, 1) := by decide +kernel
theorem dX4_apply_75 : decode cX4_apply 75 = .ok (.istore_n 1, 1) := by decide +kernel
theorem dX4_apply_76 : decode cX4_apply 76 = .ok (.iload_n 1, 1) := by decide +kernel
theorem dX4_apply_77 : decode cX4_apply 77 = .ok (.aload_n 0, 1) := by decide +kernel
theorem dX4_apply_78 : decode cX4_apply 78 = .ok (.getfield 50, 3) := by decide +kernel
theorem dX4_apply_81 : decode cX4_apply 81 = .ok (.getfield 109, 3) := by decide +kernel
theorem dX4_apply_84 : decode cX4_apply 84 = .ok (.if_icmp .ge 22, 3) := by decide +kernel
theorem dX4_apply_87 : decode cX4_apply 87 = .ok (.aload_n 0, 1) := by decide +kernel
theorem dX4_apply_88 : decode cX4_apply 88 = .ok (.aload_n 0, 1) := by decide +kernel
theorem dX4_apply_89 : decode cX4_apply 89 = .ok (.getfield 50, 3) := by decide +kernel
theorem dX4_apply_92 : decode cX4_apply 92 = .ok (.getfield 157, 3) := by decide +kernel
theorem dX4_apply_95 : decode cX4_apply 95 = .ok (.iload_n 1, 1) := by decide +kernel
theorem dX4_apply_96 : decode cX4_apply 96 = .ok (.iaload, 1) := by decide +kernel
theorem dX4_apply_97 : decode cX4_apply 97 = .ok (.invokevirtual 170, 3) := by decide +kernel
theorem dX4_apply_100 : decode cX4_apply 100 = .ok (.iinc 1 1, 3) := by decide +kernel
theorem dX4_apply_103 : decode cX4_apply 103 = .ok (.goto (-27), 3) := by decide +kernel
theorem dX4_apply_106 : decode cX4_apply 106 = .ok (.aload_n 0, 1) := by decide +kernel
theorem dX4_apply_107 : decode cX4_apply 107 = .ok (.getfield 50, 3) := by decide +kernel
theorem dX4_apply_110 : decode cX4_apply 110 = .ok (.getfield 109, 3) := by decide +kernel
theorem dX4_apply_113 : decode cX4_apply 113 = .ok (.ireturn, 1) := by decide +kernel
theorem dX4_moved_0 : decode cX4_moved 0 = .ok (.aload_n 0, 1) := by decide +kernel
theorem dX4_moved_1 : decode cX4_moved 1 = .ok (.getfield 50, 3) := by decide +kernel
theorem dX4_moved_4 : decode cX4_moved 4 = .ok (.iload_n 1, 1) := by decide +kernel
theorem dX4_moved_5 : decode cX4_moved 5 = .ok (.invokevirtual 173, 3) := by decide +kernel
theorem dX4_moved_8 : decode cX4_moved 8 = .ok (.ireturn, 1) := by decide +kernel
theorem dX4_sizeFor_0 : decode cX4_sizeFor 0 = .ok (.iload_n 0, 1) := by decide +kernel
theorem dX4_sizeFor_1 : decode cX4_sizeFor 1 = .ok (.sipush 4096, 3) := by decide +kernel
theorem dX4_sizeFor_4 : decode cX4_sizeFor 4 = .ok (.invokestatic 9, 3) := by decide +kernel
theorem dX4_sizeFor_7 : decode cX4_sizeFor 7 = .ok (.iconst 4, 1) := by decide +kernel
theorem dX4_sizeFor_8 : decode cX4_sizeFor 8 = .ok (.idiv, 1) := by decide +kernel
theorem dX4_sizeFor_9 : decode cX4_sizeFor 9 = .ok (.iconst 1, 1) := by decide +kernel
theorem dX4_sizeFor_10 : decode cX4_sizeFor 10 = .ok (.iadd, 1) := by decide +kernel
theorem dX4_sizeFor_11 : decode cX4_sizeFor 11 = .ok (.iconst 4, 1) := by decide +kernel
theorem dX4_sizeFor_12 : decode cX4_sizeFor 12 = .ok (.imul, 1) := by decide +kernel
theorem dX4_sizeFor_13 : decode cX4_sizeFor 13 = .ok (.ireturn, 1) := by decide +kernel
theorem dX4_nextMultiple_0 : decode cX4_nextMultiple 0 = .ok (.iload_n 0, 1) := by decide +kernel
theorem dX4_nextMultiple_1 : decode cX4_nextMultiple 1 = .ok (.iload_n 1, 1) := by decide +kernel
theorem dX4_nextMultiple_2 : decode cX4_nextMultiple 2 = .ok (.iadd, 1) := by decide +kernel
theorem dX4_nextMultiple_3 : decode cX4_nextMultiple 3 = .ok (.iconst 1, 1) := by decide +kernel
theorem dX4_nextMultiple_4 : decode cX4_nextMultiple 4 = .ok (.isub, 1) := by decide +kernel
theorem dX4_nextMultiple_5 : decode cX4_nextMultiple 5 = .ok (.iload_n 1, 1) := by decide +kernel
theorem dX4_nextMultiple_6 : decode cX4_nextMultiple 6 = .ok (.idiv, 1) := by decide +kernel
theorem dX4_nextMultiple_7 : decode cX4_nextMultiple 7 = .ok (.iload_n 1, 1) := by decide +kernel
theorem dX4_nextMultiple_8 : decode cX4_nextMultiple 8 = .ok (.imul, 1) := by decide +kernel
theorem dX4_nextMultiple_9 : decode cX4_nextMultiple 9 = .ok (.ireturn, 1) := by decide +kernel
theorem dX4_giveAtMultiple_0 : decode cX4_giveAtMultiple 0 = .ok (.iload_n 1, 1) := by decide +kernel
theorem dX4_giveAtMultiple_1 : decode cX4_giveAtMultiple 1 = .ok (.iconst 1, 1) := by decide +kernel
theorem dX4_giveAtMultiple_2 : decode cX4_giveAtMultiple 2 = .ok (.if_icmp .ge 5, 3) := by decide +kernel
theorem dX4_giveAtMultiple_5 : decode cX4_giveAtMultiple 5 = .ok (.iconst 0, 1) := by decide +kernel
theorem dX4_giveAtMultiple_6 : decode cX4_giveAtMultiple 6 = .ok (.ireturn, 1) := by decide +kernel
theorem dX4_giveAtMultiple_7 : decode cX4_giveAtMultiple 7 = .ok (.iload_n 1, 1) := by decide +kernel
theorem dX4_giveAtMultiple_8 : decode cX4_giveAtMultiple 8 = .ok (.invokestatic 70, 3) := by decide +kernel
theorem dX4_giveAtMultiple_11 : decode cX4_giveAtMultiple 11 = .ok (.istore_n 3, 1) := by decide +kernel
theorem dX4_giveAtMultiple_12 : decode cX4_giveAtMultiple 12 = .ok (.iconst 0, 1) := by decide +kernel
theorem dX4_giveAtMultiple_13 : decode cX4_giveAtMultiple 13 = .ok (.istore 4, 2) := by decide +kernel
theorem dX4_giveAtMultiple_15 : decode cX4_giveAtMultiple 15 = .ok (.iload 4, 2) := by decide +kernel
theorem dX4_giveAtMultiple_17 : decode cX4_giveAtMultiple 17 = .ok (.aload_n 0, 1) := by decide +kernel
theorem dX4_giveAtMultiple_18 : decode cX4_giveAtMultiple 18 = .ok (.getfield 27, 3) := by decide +kernel
theorem dX4_giveAtMultiple_21 : decode cX4_giveAtMultiple 21 = .ok (.getfield 176, 3) := by decide +kernel
theorem dX4_giveAtMultiple_24 : decode cX4_giveAtMultiple 24 = .ok (.if_icmp .ge 86, 3) := by decide +kernel
theorem dX4_giveAtMultiple_27 : decode cX4_giveAtMultiple 27 = .ok (.aload_n 0, 1) := by decide +kernel
theorem dX4_giveAtMultiple_28 : decode cX4_giveAtMultiple 28 = .ok (.getfield 27, 3) := by decide +kernel
theorem dX4_giveAtMultiple_31 : decode cX4_giveAtMultiple 31 = .ok (.getfield 179, 3) := by decide +kernel
theorem dX4_giveAtMultiple_34 : decode cX4_giveAtMultiple 34 = .ok (.iload 4, 2) := by decide +kernel
theorem dX4_giveAtMultiple_36 : decode cX4_giveAtMultiple 36 = .ok (.iaload, 1) := by decide +kernel
theorem dX4_giveAtMultiple_37 : decode cX4_giveAtMultiple 37 = .ok (.iload_n 2, 1) := by decide +kernel
theorem dX4_giveAtMultiple_38 : decode cX4_giveAtMultiple 38 = .ok (.invokestatic 182, 3) := by decide +kernel
theorem dX4_giveAtMultiple_41 : decode cX4_giveAtMultiple 41 = .ok (.istore 5, 2) := by decide +kernel
theorem dX4_giveAtMultiple_43 : decode cX4_giveAtMultiple 43 = .ok (.aload_n 0, 1) := by decide +kernel
theorem dX4_giveAtMultiple_44 : decode cX4_giveAtMultiple 44 = .ok (.getfield 27, 3) := by decide +kernel
theorem dX4_giveAtMultiple_47 : decode cX4_giveAtMultiple 47 = .ok (.getfield 87, 3) := by decide +kernel
theorem dX4_giveAtMultiple_50 : decode cX4_giveAtMultiple 50 = .ok (.iload 4, 2) := by decide +kernel
theorem dX4_giveAtMultiple_52 : decode cX4_giveAtMultiple 52 = .ok (.iaload, 1) := by decide +kernel
theorem dX4_giveAtMultiple_53 : decode cX4_giveAtMultiple 53 = .ok (.ifCond .ne 51, 3) := by decide +kernel
theorem dX4_giveAtMultiple_56 : decode cX4_giveAtMultiple 56 = .ok (.iload 5, 2) := by decide +kernel
theorem dX4_giveAtMultiple_58 : decode cX4_giveAtMultiple 58 = .ok (.iload_n 3, 1) := by decide +kernel
theorem dX4_giveAtMultiple_59 : decode cX4_giveAtMultiple 59 = .ok (.iadd, 1) := by decide +kernel
theorem dX4_giveAtMultiple_60 : decode cX4_giveAtMultiple 60 = .ok (.aload_n 0, 1) := by decide +kernel
theorem dX4_giveAtMultiple_61 : decode cX4_giveAtMultiple 61 = .ok (.getfield 27, 3) := by decide +kernel
theorem dX4_giveAtMultiple_64 : decode cX4_giveAtMultiple 64 = .ok (.iload 4, 2) := by decide +kernel
theorem dX4_giveAtMultiple_66 : decode cX4_giveAtMultiple 66 = .ok (.invokevirtual 185, 3) := by decide +kernel
theorem dX4_giveAtMultiple_69 : decode cX4_giveAtMultiple 69 = .ok (.if_icmp .gt 35, 3) := by decide +kernel
theorem dX4_giveAtMultiple_72 : decode cX4_giveAtMultiple 72 = .ok (.aload_n 0, 1) := by decide +kernel
theorem dX4_giveAtMultiple_73 : decode cX4_giveAtMultiple 73 = .ok (.getfield 27, 3) := by decide +kernel
theorem dX4_giveAtMultiple_76 : decode cX4_giveAtMultiple 76 = .ok (.iload 4, 2) := by decide +kernel
theorem dX4_giveAtMultiple_78 : decode cX4_giveAtMultiple 78 = .ok (.iload 5, 2) := by decide +kernel
theorem dX4_giveAtMultiple_80 : decode cX4_giveAtMultiple 80 = .ok (.iload_n 3, 1) := by decide +kernel
theorem dX4_giveAtMultiple_81 : decode cX4_giveAtMultiple 81 = .ok (.invokevirtual 188, 3) := by decide +kernel
theorem dX4_giveAtMultiple_84 : decode cX4_giveAtMultiple 84 = .ok (.aload_n 0, 1) := by decide +kernel
theorem dX4_giveAtMultiple_85 : decode cX4_giveAtMultiple 85 = .ok (.iload 5, 2) := by decide +kernel
theorem dX4_giveAtMultiple_87 : decode cX4_giveAtMultiple 87 = .ok (.iconst 0, 1) := by decide +kernel
theorem dX4_giveAtMultiple_88 : decode cX4_giveAtMultiple 88 = .ok (.iload_n 3, 1) := by decide +kernel
theorem dX4_giveAtMultiple_89 : decode cX4_giveAtMultiple 89 = .ok (.iconst 1, 1) := by decide +kernel
theorem dX4_giveAtMultiple_90 : decode cX4_giveAtMultiple 90 = .ok (.isub, 1) := by decide +kernel
theorem dX4_giveAtMultiple_91 : decode cX4_giveAtMultiple 91 = .ok (.invokevirtual 80, 3) := by decide +kernel
theorem dX4_giveAtMultiple_94 : decode cX4_giveAtMultiple 94 = .ok (.aload_n 0, 1) := by decide +kernel
theorem dX4_giveAtMultiple_95 : decode cX4_giveAtMultiple 95 = .ok (.getfield 43, 3) := by decide +kernel
theorem dX4_giveAtMultiple_98 : decode cX4_giveAtMultiple 98 = .ok (.invokevirtual 64, 3) := by decide +kernel
theorem dX4_giveAtMultiple_101 : decode cX4_giveAtMultiple 101 = .ok (.iload 5, 2) := by decide +kernel
theorem dX4_giveAtMultiple_103 : decode cX4_giveAtMultiple 103 = .ok (.ireturn, 1) := by decide +kernel
theorem dX4_giveAtMultiple_104 : decode cX4_giveAtMultiple 104 = .ok (.iinc 4 1, 3) := by decide +kernel
theorem dX4_giveAtMultiple_107 : decode cX4_giveAtMultiple 107 = .ok (.goto (-92), 3) := by decide +kernel
theorem dX4_giveAtMultiple_110 : decode cX4_giveAtMultiple 110 = .ok (.iconst 0, 1) := by decide +kernel
theorem dX4_giveAtMultiple_111 : decode cX4_giveAtMultiple 111 = .ok (.ireturn, 1) := by decide +kernel
theorem dX4_clearPayload_0 : decode cX4_clearPayload 0 = .ok (.aload_n 0, 1) := by decide +kernel
theorem dX4_clearPayload_1 : decode cX4_clearPayload 1 = .ok (.getfield 18, 3) := by decide +kernel
theorem dX4_clearPayload_4 : decode cX4_clearPayload 4 = .ok (.iload_n 1, 1) := by decide +kernel
theorem dX4_clearPayload_5 : decode cX4_clearPayload 5 = .ok (.iload_n 2, 1) := by decide +kernel
theorem dX4_clearPayload_6 : decode cX4_clearPayload 6 = .ok (.iadd, 1) := by decide +kernel
theorem dX4_clearPayload_7 : decode cX4_clearPayload 7 = .ok (.iload_n 1, 1) := by decide +kernel
theorem dX4_clearPayload_8 : decode cX4_clearPayload 8 = .ok (.iload_n 3, 1) := by decide +kernel
theorem dX4_clearPayload_9 : decode cX4_clearPayload 9 = .ok (.iadd, 1) := by decide +kernel
theorem dX4_clearPayload_10 : decode cX4_clearPayload 10 = .ok (.iconst 0, 1) := by decide +kernel
theorem dX4_clearPayload_11 : decode cX4_clearPayload 11 = .ok (.invokestatic 191, 3) := by decide +kernel
theorem dX4_clearPayload_14 : decode cX4_clearPayload 14 = .ok (.return_, 1) := by decide +kernel
theorem dX4_payloadWord_0 : decode cX4_payloadWord 0 = .ok (.aload_n 0, 1) := by decide +kernel
theorem dX4_payloadWord_1 : decode cX4_payloadWord 1 = .ok (.getfield 27, 3) := by decide +kernel
theorem dX4_payloadWord_4 : decode cX4_payloadWord 4 = .ok (.iload_n 1, 1) := by decide +kernel
theorem dX4_payloadWord_5 : decode cX4_payloadWord 5 = .ok (.invokevirtual 57, 3) := by decide +kernel
theorem dX4_payloadWord_8 : decode cX4_payloadWord 8 = .ok (.istore_n 3, 1) := by decide +kernel
theorem dX4_payloadWord_9 : decode cX4_payloadWord 9 = .ok (.iload_n 3, 1) := by decide +kernel
theorem dX4_payloadWord_10 : decode cX4_payloadWord 10 = .ok (.iconst (-1), 1) := by decide +kernel
theorem dX4_payloadWord_11 : decode cX4_payloadWord 11 = .ok (.if_icmp .ne 13, 3) := by decide +kernel
theorem dX4_payloadWord_14 : decode cX4_payloadWord 14 = .ok (.new 122, 3) := by decide +kernel
theorem dX4_payloadWord_17 : decode cX4_payloadWord 17 = .ok (.dup, 1) := by decide +kernel
theorem dX4_payloadWord_18 : decode cX4_payloadWord 18 = .ok (.ldc 197, 2) := by decide +kernel
theorem dX4_payloadWord_20 : decode cX4_payloadWord 20 = .ok (.invokespecial 126, 3) := by decide +kernel
theorem dX4_payloadWord_23 : decode cX4_payloadWord 23 = .ok (.athrow, 1) := by decide +kernel
theorem dX4_payloadWord_24 : decode cX4_payloadWord 24 = .ok (.iload_n 2, 1) := by decide +kernel
theorem dX4_payloadWord_25 : decode cX4_payloadWord 25 = .ok (.ifCond .lt 18, 3) := by decide +kernel
theorem dX4_payloadWord_28 : decode cX4_payloadWord 28 = .ok (.iload_n 2, 1) := by decide +kernel
theorem dX4_payloadWord_29 : decode cX4_payloadWord 29 = .ok (.aload_n 0, 1) := by decide +kernel
theorem dX4_payloadWord_30 : decode cX4_payloadWord 30 = .ok (.getfield 27, 3) := by decide +kernel
theorem dX4_payloadWord_33 : decode cX4_payloadWord 33 = .ok (.getfield 67, 3) := by decide +kernel
theorem dX4_payloadWord_36 : decode cX4_payloadWord 36 = .ok (.iload_n 3, 1) := by decide +kernel
theorem dX4_payloadWord_37 : decode cX4_payloadWord 37 = .ok (.iaload, 1) := by decide +kernel
theorem dX4_payloadWord_38 : decode cX4_payloadWord 38 = .ok (.iconst 1, 1) := by decide +kernel
theorem dX4_payloadWord_39 : decode cX4_payloadWord 39 = .ok (.isub, 1) := by decide +kernel
theorem dX4_payloadWord_40 : decode cX4_payloadWord 40 = .ok (.if_icmp .lt 13, 3) := by decide +kernel
theorem dX4_payloadWord_43 : decode cX4_payloadWord 43 = .ok (.new 150, 3) := by decide +kernel
theorem dX4_payloadWord_46 : decode cX4_payloadWord 46 = .ok (.dup, 1) := by decide +kernel
theorem dX4_payloadWord_47 : decode cX4_payloadWord 47 = .ok (.ldc 199, 2) := by decide +kernel
theorem dX4_payloadWord_49 : decode cX4_payloadWord 49 = .ok (.invokespecial 154, 3) := by decide +kernel
theorem dX4_payloadWord_52 : decode cX4_payloadWord 52 = .ok (.athrow, 1) := by decide +kernel
theorem dX4_payloadWord_53 : decode cX4_payloadWord 53 = .ok (.iload_n 1, 1) := by decide +kernel
theorem dX4_payloadWord_54 : decode cX4_payloadWord 54 = .ok (.iload_n 2, 1) := by decide +kernel
theorem dX4_payloadWord_55 : decode cX4_payloadWord 55 = .ok (.iadd, 1) := by decide +kernel
theorem dX4_payloadWord_56 : decode cX4_payloadWord 56 = .ok (.ireturn, 1) := by decide +kernel
theorem dX4_copyBlock_0 : decode cX4_copyBlock 0 = .ok (.aload_n 0, 1) := by decide +kernel
theorem dX4_copyBlock_1 : decode cX4_copyBlock 1 = .ok (.getfield 27, 3) := by decide +kernel
theorem dX4_copyBlock_4 : decode cX4_copyBlock 4 = .ok (.iload_n 1, 1) := by decide +kernel
theorem dX4_copyBlock_5 : decode cX4_copyBlock 5 = .ok (.invokevirtual 57, 3) := by decide +kernel
theorem dX4_copyBlock_8 : decode cX4_copyBlock 8 = .ok (.istore_n 3, 1) := by decide +kernel
theorem dX4_copyBlock_9 : decode cX4_copyBlock 9 = .ok (.aload_n 0, 1) := by decide +kernel
theorem dX4_copyBlock_10 : decode cX4_copyBlock 10 = .ok (.getfield 27, 3) := by decide +kernel
theorem dX4_copyBlock_13 : decode cX4_copyBlock 13 = .ok (.iload_n 2, 1) := by decide +kernel
theorem dX4_copyBlock_14 : decode cX4_copyBlock 14 = .ok (.invokevirtual 119, 3) := by decide +kernel
theorem dX4_copyBlock_17 : decode cX4_copyBlock 17 = .ok (.istore 4, 2) := by decide +kernel
theorem dX4_copyBlock_19 : decode cX4_copyBlock 19 = .ok (.iload_n 3, 1) := by decide +kernel
theorem dX4_copyBlock_20 : decode cX4_copyBlock 20 = .ok (.iconst (-1), 1) := by decide +kernel
theorem dX4_copyBlock_21 : decode cX4_copyBlock 21 = .ok (.if_icmp .eq 49, 3) := by decide +kernel
theorem dX4_copyBlock_24 : decode cX4_copyBlock 24 = .ok (.iload 4, 2) := by decide +kernel
theorem dX4_copyBlock_26 : decode cX4_copyBlock 26 = .ok (.iconst (-1), 1) := by decide +kernel
theorem dX4_copyBlock_27 : decode cX4_copyBlock 27 = .ok (.if_icmp .eq 43, 3) := by decide +kernel
theorem dX4_copyBlock_30 : decode cX4_copyBlock 30 = .ok (.aload_n 0, 1) := by decide +kernel
theorem dX4_copyBlock_31 : decode cX4_copyBlock 31 = .ok (.getfield 27, 3) := by decide +kernel
theorem dX4_copyBlock_34 : decode cX4_copyBlock 34 = .ok (.getfield 67, 3) := by decide +kernel
theorem dX4_copyBlock_37 : decode cX4_copyBlock 37 = .ok (.iload_n 3, 1) := by decide +kernel
theorem dX4_copyBlock_38 : decode cX4_copyBlock 38 = .ok (.iaload, 1) := by decide +kernel
theorem dX4_copyBlock_39 : decode cX4_copyBlock 39 = .ok (.istore 5, 2) := by decide +kernel
theorem dX4_copyBlock_41 : decode cX4_copyBlock 41 = .ok (.aload_n 0, 1) := by decide +kernel
theorem dX4_copyBlock_42 : decode cX4_copyBlock 42 = .ok (.getfield 27, 3) := by decide +kernel
theorem dX4_copyBlock_45 : decode cX4_copyBlock 45 = .ok (.iload 4, 2) := by decide +kernel
theorem dX4_copyBlock_47 : decode cX4_copyBlock 47 = .ok (.iload_n 2, 1) := by decide +kernel
theorem dX4_copyBlock_48 : decode cX4_copyBlock 48 = .ok (.iload 5, 2) := by decide +kernel
theorem dX4_copyBlock_50 : decode cX4_copyBlock 50 = .ok (.invokevirtual 188, 3) := by decide +kernel
theorem dX4_copyBlock_53 : decode cX4_copyBlock 53 = .ok (.aload_n 0, 1) := by decide +kernel
theorem dX4_copyBlock_54 : decode cX4_copyBlock 54 = .ok (.getfield 18, 3) := by decide +kernel
theorem dX4_copyBlock_57 : decode cX4_copyBlock 57 = .ok (.iload_n 1, 1) := by decide +kernel
theorem dX4_copyBlock_58 : decode cX4_copyBlock 58 = .ok (.aload_n 0, 1) := by decide +kernel
theorem dX4_copyBlock_59 : decode cX4_copyBlock 59 = .ok (.getfield 18, 3) := by decide +kernel
theorem dX4_copyBlock_62 : decode cX4_copyBlock 62 = .ok (.iload_n 2, 1) := by decide +kernel
theorem dX4_copyBlock_63 : decode cX4_copyBlock 63 = .ok (.iload 5, 2) := by decide +kernel
theorem dX4_copyBlock_65 : decode cX4_copyBlock 65 = .ok (.iconst 1, 1) := by decide +kernel
theorem dX4_copyBlock_66 : decode cX4_copyBlock 66 = .ok (.isub, 1) := by decide +kernel
theorem dX4_copyBlock_67 : decode cX4_copyBlock 67 = .ok (.invokestatic 201, 3) := by decide +kernel
theorem dX4_copyBlock_70 : decode cX4_copyBlock 70 = .ok (.return_, 1) := by decide +kernel
theorem dX4_leaveBlock_0 : decode cX4_leaveBlock 0 = .ok (.aload_n 0, 1) := by decide +kernel
theorem dX4_leaveBlock_1 : decode cX4_leaveBlock 1 = .ok (.getfield 27, 3) := by decide +kernel
theorem dX4_leaveBlock_4 : decode cX4_leaveBlock 4 = .ok (.iload_n 1, 1) := by decide +kernel
theorem dX4_leaveBlock_5 : decode cX4_leaveBlock 5 = .ok (.invokevirtual 57, 3) := by decide +kernel
theorem dX4_leaveBlock_8 : decode cX4_leaveBlock 8 = .ok (.istore_n 2, 1) := by decide +kernel
theorem dX4_leaveBlock_9 : decode cX4_leaveBlock 9 = .ok (.iload_n 2, 1) := by decide +kernel
theorem dX4_leaveBlock_10 : decode cX4_leaveBlock 10 = .ok (.iconst (-1), 1) := by decide +kernel
theorem dX4_leaveBlock_11 : decode cX4_leaveBlock 11 = .ok (.if_icmp .eq 11, 3) := by decide +kernel
theorem dX4_leaveBlock_14 : decode cX4_leaveBlock 14 = .ok (.aload_n 0, 1) := by decide +kernel
theorem dX4_leaveBlock_15 : decode cX4_leaveBlock 15 = .ok (.getfield 27, 3) := by decide +kernel
theorem dX4_leaveBlock_18 : decode cX4_leaveBlock 18 = .ok (.iload_n 2, 1) := by decide +kernel
theorem dX4_leaveBlock_19 : decode cX4_leaveBlock 19 = .ok (.invokevirtual 61, 3) := by decide +kernel
theorem dX4_leaveBlock_22 : decode cX4_leaveBlock 22 = .ok (.return_, 1) := by decide +kernel
end
section
theorem dX5_init_0 : decode cX5_init 0 = .ok (.aload_n 0, 1) := by decide +kernel
theorem dX5_init_1 : decode cX5_init 1 = .ok (.invokespecial 1, 3) := by decide +kernel
theorem dX5_init_4 : decode cX5_init 4 = .ok (.aload_n 0, 1) := by decide +kernel
theorem dX5_init_5 : decode cX5_init 5 = .ok (.sipush 1024, 3) := by decide +kernel
theorem dX5_init_8 : decode cX5_init 8 = .ok (.newarray .int, 2) := by decide +kernel
theorem dX5_init_10 : decode cX5_init 10 = .ok (.putfield 7, 3) := by decide +kernel
theorem dX5_init_13 : decode cX5_init 13 = .ok (.aload_n 0, 1) := by decide +kernel
theorem dX5_init_14 : decode cX5_init 14 = .ok (.sipush 1024, 3) := by decide +kernel
theorem dX5_init_17 : decode cX5_init 17 = .ok (.newarray .boolean, 2) := by decide +kernel
theorem dX5_init_19 : decode cX5_init 19 = .ok (.putfield 13, 3) := by decide +kernel
theorem dX5_init_22 : decode cX5_init 22 = .ok (.aload_n 0, 1) := by decide +kernel
theorem dX5_init_23 : decode cX5_init 23 = .ok (.sipush 1024, 3) := by decide +kernel
theorem dX5_init_26 : decode cX5_init 26 = .ok (.newarray .boolean, 2) := by decide +kernel
theorem dX5_init_28 : decode cX5_init 28 = .ok (.putfield 17, 3) := by decide +kernel
theorem dX5_init_31 : decode cX5_init 31 = .ok (.aload_n 0, 1) := by decide +kernel
theorem dX5_init_32 : decode cX5_init 32 = .ok (.sipush 4097, 3) := by decide +kernel
theorem dX5_init_35 : decode cX5_init 35 = .ok (.newarray .int, 2) := by decide +kernel
theorem dX5_init_37 : decode cX5_init 37 = .ok (.putfield 20, 3) := by decide +kernel
theorem dX5_init_40 : decode cX5_init 40 = .ok (.aload_n 0, 1) := by decide +kernel
theorem dX5_init_41 : decode cX5_init 41 = .ok (.sipush 128, 3) := by decide +kernel
theorem dX5_init_44 : decode cX5_init 44 = .ok (.newarray .int, 2) := by decide +kernel
theorem dX5_init_46 : decode cX5_init 46 = .ok (.putfield 23, 3) := by decide +kernel
theorem dX5_init_49 : decode cX5_init 49 = .ok (.aload_n 0, 1) := by decide +kernel
theorem dX5_init_50 : decode cX5_init 50 = .ok (.sipush 128, 3) := by decide +kernel
theorem dX5_init_53 : decode cX5_init 53 = .ok (.newarray .int, 2) := by decide +kernel
theorem dX5_init_55 : decode cX5_init 55 = .ok (.putfield 26, 3) := by decide +kernel
theorem dX5_init_58 : decode cX5_init 58 = .ok (.aload_n 0, 1) := by decide +kernel
theorem dX5_init_59 : decode cX5_init 59 = .ok (.sipush 128, 3) := by decide +kernel
theorem dX5_init_62 : decode cX5_init 62 = .ok (.newarray .int, 2) := by decide +kernel
theorem dX5_init_64 : decode cX5_init 64 = .ok (.putfield 29, 3) := by decide +kernel
theorem dX5_init_67 : decode cX5_init 67 = .ok (.aload_n 0, 1) := by decide +kernel
theorem dX5_init_68 : decode cX5_init 68 = .ok (.sipush 128, 3) := by decide +kernel
theorem dX5_init_71 : decode cX5_init 71 = .ok (.newarray .int, 2) := by decide +kernel
theorem dX5_init_73 : decode cX5_init 73 = .ok (.putfield 32, 3) := by decide +kernel
theorem dX5_init_76 : decode cX5_init 76 = .ok (.aload_n 0, 1) := by decide +kernel
theorem dX5_init_77 : decode cX5_init 77 = .ok (.sipush 128, 3) := by decide +kernel
theorem dX5_init_80 : decode cX5_init 80 = .ok (.newarray .int, 2) := by decide +kernel
theorem dX5_init_82 : decode cX5_init 82 = .ok (.putfield 35, 3) := by decide +kernel
theorem dX5_init_85 : decode cX5_init 85 = .ok (.aload_n 0, 1) := by decide +kernel
theorem dX5_init_86 : decode cX5_init 86 = .ok (.sipush 128, 3) := by decide +kernel
theorem dX5_init_89 : decode cX5_init 89 = .ok (.newarray .int, 2) := by decide +kernel
theorem dX5_init_91 : decode cX5_init 91 = .ok (.putfield 38, 3) := by decide +kernel
theorem dX5_init_94 : decode cX5_init 94 = .ok (.aload_n 0, 1) := by decide +kernel
theorem dX5_init_95 : decode cX5_init 95 = .ok (.sipush 1024, 3) := by decide +kernel
theorem dX5_init_98 : decode cX5_init 98 = .ok (.newarray .int, 2) := by decide +kernel
theorem dX5_init_100 : decode cX5_init 100 = .ok (.putfield 41, 3) := by decide +kernel
theorem dX5_init_103 : decode cX5_init 103 = .ok (.iload_n 1, 1) := by decide +kernel
theorem dX5_init_104 : decode cX5_init 104 = .ok (.bipush 16, 2) := by decide +kernel
theorem dX5_init_106 : decode cX5_init 106 = .ok (.if_icmp .ge 8, 3) := by decide +kernel
theorem dX5_init_109 : decode cX5_init 109 = .ok (.bipush 16, 2) := by decide +kernel
theorem dX5_init_111 : decode cX5_init 111 = .ok (.goto 17, 3) := by decide +kernel
theorem dX5_init_114 : decode cX5_init 114 = .ok (.iload_n 1, 1) := by decide +kernel
theorem dX5_init_115 : decode cX5_init 115 = .ok (.sipush 4096, 3) := by decide +kernel
theorem dX5_init_118 : decode cX5_init 118 = .ok (.if_icmp .le 9, 3) := by decide +kernel
theorem dX5_init_121 : decode cX5_init 121 = .ok (.sipush 4096, 3) := by decide +kernel
theorem dX5_init_124 : decode cX5_init 124 = .ok (.goto 4, 3) := by decide +kernel
theorem dX5_init_127 : decode cX5_init 127 = .ok (.iload_n 1, 1) := by decide +kernel
theorem dX5_init_128 : decode cX5_init 128 = .ok (.istore_n 2, 1) := by decide +kernel
theorem dX5_init_129 : decode cX5_init 129 = .ok (.aload_n 0, 1) := by decide +kernel
theorem dX5_init_130 : decode cX5_init 130 = .ok (.iload_n 2, 1) := by decide +kernel
theorem dX5_init_131 : decode cX5_init 131 = .ok (.iconst 3, 1) := by decide +kernel
theorem dX5_init_132 : decode cX5_init 132 = .ok (.isub, 1) := by decide +kernel
theorem dX5_init_133 : decode cX5_init 133 = .ok (.iconst 4, 1) := by decide +kernel
theorem dX5_init_134 : decode cX5_init 134 = .ok (.idiv, 1) := by decide +kernel
theorem dX5_init_135 : decode cX5_init 135 = .ok (.putfield 44, 3) := by decide +kernel
theorem dX5_init_138 : decode cX5_init 138 = .ok (.aload_n 0, 1) := by decide +kernel
theorem dX5_init_139 : decode cX5_init 139 = .ok (.getfield 7, 3) := by decide +kernel
theorem dX5_init_142 : decode cX5_init 142 = .ok (.iconst 0, 1) := by decide +kernel
theorem dX5_init_143 : decode cX5_init 143 = .ok (.aload_n 0, 1) := by decide +kernel
theorem dX5_init_144 : decode cX5_init 144 = .ok (.getfield 44, 3) := by decide +kernel
theorem dX5_init_147 : decode cX5_init 147 = .ok (.iastore, 1) := by decide +kernel
theorem dX5_init_148 : decode cX5_init 148 = .ok (.return_, 1) := by decide +kernel
theorem dX5_thrown_0 : decode cX5_thrown 0 = .ok (.aload_n 0, 1) := by decide +kernel
theorem dX5_thrown_1 : decode cX5_thrown 1 = .ok (.getfield 48, 3) := by decide +kernel
theorem dX5_thrown_4 : decode cX5_thrown 4 = .ok (.ireturn, 1) := by decide +kernel
theorem dX5_address_0 : decode cX5_address 0 = .ok (.iconst 4, 1) := by decide +kernel
theorem dX5_address_1 : decode cX5_address 1 = .ok (.iload_n 0, 1) := by decide +kernel
theorem dX5_address_2 : decode cX5_address 2 = .ok (.imul, 1) := by decide +kernel
theorem dX5_address_3 : decode cX5_address 3 = .ok (.iconst 4, 1) := by decide +kernel
theorem dX5_address_4 : decode cX5_address 4 = .ok (.iadd, 1) := by decide +kernel
theorem dX5_address_5 : decode cX5_address 5 = .ok (.ireturn, 1) := by decide +kernel
theorem dX5_find_0 : decode cX5_find 0 = .ok (.iload_n 1, 1) := by decide +kernel
theorem dX5_find_1 : decode cX5_find 1 = .ok (.iconst 4, 1) := by decide +kernel
theorem dX5_find_2 : decode cX5_find 2 = .ok (.if_icmp .lt 19, 3) := by decide +kernel
theorem dX5_find_5 : decode cX5_find 5 = .ok (.iload_n 1, 1) := by decide +kernel
theorem dX5_find_6 : decode cX5_find 6 = .ok (.iconst 4, 1) := by decide +kernel
theorem dX5_find_7 : decode cX5_find 7 = .ok (.irem, 1) := by decide +kernel
theorem dX5_find_8 : decode cX5_find 8 = .ok (.ifCond .ne 13, 3) := by decide +kernel
theorem dX5_find_11 : decode cX5_find 11 = .ok (.iload_n 1, 1) := by decide +kernel
theorem dX5_find_12 : decode cX5_find 12 = .ok (.iconst 4, 1) := by decide +kernel
theorem dX5_find_13 : decode cX5_find 13 = .ok (.idiv, 1) := by decide +kernel
theorem dX5_find_14 : decode cX5_find 14 = .ok (.aload_n 0, 1) := by decide +kernel
theorem dX5_find_15 : decode cX5_find 15 = .ok (.getfield 44, 3) := by decide +kernel
theorem dX5_find_18 : decode cX5_find 18 = .ok (.if_icmp .le 5, 3) := by decide +kernel
theorem dX5_find_21 : decode cX5_find 21 = .ok (.iconst (-1), 1) := by decide +kernel
theorem dX5_find_22 : decode cX5_find 22 = .ok (.ireturn, 1) := by decide +kernel
theorem dX5_find_23 : decode cX5_find 23 = .ok (.iload_n 1, 1) := by decide +kernel
theorem dX5_find_24 : decode cX5_find 24 = .ok (.iconst 4, 1) := by decide +kernel
theorem dX5_find_25 : decode cX5_find 25 = .ok (.idiv, 1) := by decide +kernel
theorem dX5_find_26 : decode cX5_find 26 = .ok (.iconst 1, 1) := by decide +kernel
theorem dX5_find_27 : decode cX5_find 27 = .ok (.isub, 1) := by decide +kernel
theorem dX5_find_28 : decode cX5_find 28 = .ok (.istore_n 2, 1) := by decide +kernel
theorem dX5_find_29 : decode cX5_find 29 = .ok (.aload_n 0, 1) := by decide +kernel
theorem dX5_find_30 : decode cX5_find 30 = .ok (.getfield 7, 3) := by decide +kernel
theorem dX5_find_33 : decode cX5_find 33 = .ok (.iload_n 2, 1) := by decide +kernel
theorem dX5_find_34 : decode cX5_find 34 = .ok (.iaload, 1) := by decide +kernel
theorem dX5_find_35 : decode cX5_find 35 = .ok (.ifCond .le 16, 3) := by decide +kernel
theorem dX5_find_38 : decode cX5_find 38 = .ok (.aload_n 0, 1) := by decide +kernel
theorem dX5_find_39 : decode cX5_find 39 = .ok (.getfield 13, 3) := by decide +kernel
theorem dX5_find_42 : decode cX5_find 42 = .ok (.iload_n 2, 1) := by decide +kernel
theorem dX5_find_43 : decode cX5_find 43 = .ok (.baload, 1) := by decide +kernel
theorem dX5_find_44 : decode cX5_find 44 = .ok (.ifCond .eq 7, 3) := by decide +kernel
theorem dX5_find_47 : decode cX5_find 47 = .ok (.iload_n 2, 1) := by decide +kernel
theorem dX5_find_48 : decode cX5_find 48 = .ok (.goto 4, 3) := by decide +kernel
theorem dX5_find_51 : decode cX5_find 51 = .ok (.iconst (-1), 1) := by decide +kernel
theorem dX5_find_52 : decode cX5_find 52 = .ok (.ireturn, 1) := by decide +kernel
theorem dX5_isFree_0 : decode cX5_isFree 0 = .ok (.iload_n 1, 1) := by decide +kernel
theorem dX5_isFree_1 : decode cX5_isFree 1 = .ok (.aload_n 0, 1) := by decide +kernel
theorem dX5_isFree_2 : decode cX5_isFree 2 = .ok (.getfield 44, 3) := by decide +kernel
theorem dX5_isFree_5 : decode cX5_isFree 5 = .ok (.if_icmp .ge 25, 3) := by decide +kernel
theorem dX5_isFree_8 : decode cX5_isFree 8 = .ok (.aload_n 0, 1) := by decide +kernel
theorem dX5_isFree_9 : decode cX5_isFree 9 = .ok (.getfield 7, 3) := by decide +kernel
theorem dX5_isFree_12 : decode cX5_isFree 12 = .ok (.iload_n 1, 1) := by decide +kernel
theorem dX5_isFree_13 : decode cX5_isFree 13 = .ok (.iaload, 1) := by decide +kernel
theorem dX5_isFree_14 : decode cX5_isFree 14 = .ok (.ifCond .le 16, 3) := by decide +kernel
theorem dX5_isFree_17 : decode cX5_isFree 17 = .ok (.aload_n 0, 1) := by decide +kernel
theorem dX5_isFree_18 : decode cX5_isFree 18 = .ok (.getfield 13, 3) := by decide +kernel
theorem dX5_isFree_21 : decode cX5_isFree 21 = .ok (.iload_n 1, 1) := by decide +kernel
theorem dX5_isFree_22 : decode cX5_isFree 22 = .ok (.baload, 1) := by decide +kernel
theorem dX5_isFree_23 : decode cX5_isFree 23 = .ok (.ifCond .ne 7, 3) := by decide +kernel
theorem dX5_isFree_26 : decode cX5_isFree 26 = .ok (.iconst 1, 1) := by decide +kernel
theorem dX5_isFree_27 : decode cX5_isFree 27 = .ok (.goto 4, 3) := by decide +kernel
theorem dX5_isFree_30 : decode cX5_isFree 30 = .ok (.iconst 0, 1) := by decide +kernel
theorem dX5_isFree_31 : decode cX5_isFree 31 = .ok (.ireturn, 1) := by decide +kernel
theorem dX5_groupsFor_0 : decode cX5_groupsFor 0 = .ok (.iload_n 1, 1) := by decide +kernel
theorem dX5_groupsFor_1 : decode cX5_groupsFor 1 = .ok (.iconst 4, 1) := by decide +kernel
theorem dX5_groupsFor_2 : decode cX5_groupsFor 2 = .ok (.idiv, 1) := by decide +kernel
theorem dX5_groupsFor_3 : decode cX5_groupsFor 3 = .ok (.iconst 1, 1) := by decide +kernel
theorem dX5_groupsFor_4 : decode cX5_groupsFor 4 = .ok (.iadd, 1) := by decide +kernel
theorem dX5_groupsFor_5 : decode cX5_groupsFor 5 = .ok (.ireturn, 1) := by decide +kernel
theorem dX5_joins_0 : decode cX5_joins 0 = .ok (.iconst 0, 1) := by decide +kernel
theorem dX5_joins_1 : decode cX5_joins 1 = .ok (.istore_n 1, 1) := by decide +kernel
theorem dX5_joins_2 : decode cX5_joins 2 = .ok (.iload_n 1, 1) := by decide +kernel
theorem dX5_joins_3 : decode cX5_joins 3 = .ok (.aload_n 0, 1) := by decide +kernel
theorem dX5_joins_4 : decode cX5_joins 4 = .ok (.getfield 44, 3) := by decide +kernel
theorem dX5_joins_7 : decode cX5_joins 7 = .ok (.if_icmp .ge 58, 3) := by decide +kernel
theorem dX5_joins_10 : decode cX5_joins 10 = .ok (.iload_n 1, 1) := by decide +kernel
theorem dX5_joins_11 : decode cX5_joins 11 = .ok (.aload_n 0, 1) := by decide +kernel
theorem dX5_joins_12 : decode cX5_joins 12 = .ok (.getfield 7, 3) := by decide +kernel
theorem dX5_joins_15 : decode cX5_joins 15 = .ok (.iload_n 1, 1) := by decide +kernel
theorem dX5_joins_16 : decode cX5_joins 16 = .ok (.iaload, 1) := by decide +kernel
theorem dX5_joins_17 : decode cX5_joins 17 = .ok (.iadd, 1) := by decide +kernel
theorem dX5_joins_18 : decode cX5_joins 18 = .ok (.istore_n 2, 1) := by decide +kernel
theorem dX5_joins_19 : decode cX5_joins 19 = .ok (.aload_n 0, 1) := by decide +kernel
theorem dX5_joins_20 : decode cX5_joins 20 = .ok (.iload_n 1, 1) := by decide +kernel
theorem dX5_joins_21 : decode cX5_joins 21 = .ok (.invokevirtual 51, 3) := by decide +kernel
theorem dX5_joins_24 : decode cX5_joins 24 = .ok (.ifCond .eq 36, 3) := by decide +kernel
theorem dX5_joins_27 : decode cX5_joins 27 = .ok (.aload_n 0, 1) := by decide +kernel
theorem dX5_joins_28 : decode cX5_joins 28 = .ok (.iload_n 2, 1) := by decide +kernel
theorem dX5_joins_29 : decode cX5_joins 29 = .ok (.invokevirtual 51, 3) := by decide +kernel
theorem dX5_joins_32 : decode cX5_joins 32 = .ok (.ifCond .eq 28, 3) := by decide +kernel
theorem dX5_joins_35 : decode cX5_joins 35 = .ok (.aload_n 0, 1) := by decide +kernel
theorem dX5_joins_36 : decode cX5_joins 36 = .ok (.getfield 7, 3) := by decide +kernel
theorem dX5_joins_39 : decode cX5_joins 39 = .ok (.iload_n 1, 1) := by decide +kernel
theorem dX5_joins_40 : decode cX5_joins 40 = .ok (.dup2, 1) := by decide +kernel
theorem dX5_joins_41 : decode cX5_joins 41 = .ok (.iaload, 1) := by decide +kernel
theorem dX5_joins_42 : decode cX5_joins 42 = .ok (.aload_n 0, 1) := by decide +kernel
theorem dX5_joins_43 : decode cX5_joins 43 = .ok (.getfield 7, 3) := by decide +kernel
theorem dX5_joins_46 : decode cX5_joins 46 = .ok (.iload_n 2, 1) := by decide +kernel
theorem dX5_joins_47 : decode cX5_joins 47 = .ok (.iaload, 1) := by decide +kernel
theorem dX5_joins_48 : decode cX5_joins 48 = .ok (.iadd, 1) := by decide +kernel
theorem dX5_joins_49 : decode cX5_joins 49 = .ok (.iastore, 1) := by decide +kernel
theorem dX5_joins_50 : decode cX5_joins 50 = .ok (.aload_n 0, 1) := by decide +kernel
theorem dX5_joins_51 : decode cX5_joins 51 = .ok (.getfield 7, 3) := by decide +kernel
theorem dX5_joins_54 : decode cX5_joins 54 = .ok (.iload_n 2, 1) := by decide +kernel
theorem dX5_joins_55 : decode cX5_joins 55 = .ok (.iconst 0, 1) := by decide +kernel
theorem dX5_joins_56 : decode cX5_joins 56 = .ok (.iastore, 1) := by decide +kernel
theorem dX5_joins_57 : decode cX5_joins 57 = .ok (.goto 5, 3) := by decide +kernel
theorem dX5_joins_60 : decode cX5_joins 60 = .ok (.iload_n 2, 1) := by decide +kernel
theorem dX5_joins_61 : decode cX5_joins 61 = .ok (.istore_n 1, 1) := by decide +kernel
theorem dX5_joins_62 : decode cX5_joins 62 = .ok (.goto (-60), 3) := by decide +kernel
theorem dX5_joins_65 : decode cX5_joins 65 = .ok (.return_, 1) := by decide +kernel
theorem dX5_takes_0 : decode cX5_takes 0 = .ok (.aload_n 0, 1) := by decide +kernel
theorem dX5_takes_1 : decode cX5_takes 1 = .ok (.getfield 7, 3) := by decide +kernel
theorem dX5_takes_4 : decode cX5_takes 4 = .ok (.iload_n 1, 1) := by decide +kernel
theorem dX5_takes_5 : decode cX5_takes 5 = .ok (.iaload, 1) := by decide +kernel
theorem dX5_takes_6 : decode cX5_takes 6 = .ok (.istore 4, 2) := by decide +kernel
theorem dX5_takes_8 : decode cX5_takes 8 = .ok (.iload_n 1, 1) := by decide +kernel
theorem dX5_takes_9 : decode cX5_takes 9 = .ok (.iload 4, 2) := by decide +kernel
theorem dX5_takes_11 : decode cX5_takes 11 = .ok (.iadd, 1) := by decide +kernel
theorem dX5_takes_12 : decode cX5_takes 12 = .ok (.iload_n 2, 1) := by decide +kernel
theorem dX5_takes_13 : decode cX5_takes 13 = .ok (.isub, 1) := by decide +kernel
theorem dX5_takes_14 : decode cX5_takes 14 = .ok (.iload_n 3, 1) := by decide +kernel
theorem dX5_takes_15 : decode cX5_takes 15 = .ok (.isub, 1) := by decide +kernel
theorem dX5_takes_16 : decode cX5_takes 16 = .ok (.istore 5, 2) := by decide +kernel
theorem dX5_takes_18 : decode cX5_takes 18 = .ok (.aload_n 0, 1) := by decide +kernel
theorem dX5_takes_19 : decode cX5_takes 19 = .ok (.getfield 7, 3) := by decide +kernel
theorem dX5_takes_22 : decode cX5_takes 22 = .ok (.iload_n 1, 1) := by decide +kernel
theorem dX5_takes_23 : decode cX5_takes 23 = .ok (.iload_n 2, 1) := by decide +kernel
theorem dX5_takes_24 : decode cX5_takes 24 = .ok (.iload_n 1, 1) := by decide +kernel
theorem dX5_takes_25 : decode cX5_takes 25 = .ok (.isub, 1) := by decide +kernel
theorem dX5_takes_26 : decode cX5_takes 26 = .ok (.iastore, 1) := by decide +kernel
theorem dX5_takes_27 : decode cX5_takes 27 = .ok (.aload_n 0, 1) := by decide +kernel
theorem dX5_takes_28 : decode cX5_takes 28 = .ok (.getfield 7, 3) := by decide +kernel
theorem dX5_takes_31 : decode cX5_takes 31 = .ok (.iload_n 2, 1) := by decide +kernel
theorem dX5_takes_32 : decode cX5_takes 32 = .ok (.iload_n 3, 1) := by decide +kernel
theorem dX5_takes_33 : decode cX5_takes 33 = .ok (.iastore, 1) := by decide +kernel
theorem dX5_takes_34 : decode cX5_takes 34 = .ok (.aload_n 0, 1) := by decide +kernel
theorem dX5_takes_35 : decode cX5_takes 35 = .ok (.getfield 13, 3) := by decide +kernel
theorem dX5_takes_38 : decode cX5_takes 38 = .ok (.iload_n 2, 1) := by decide +kernel
theorem dX5_takes_39 : decode cX5_takes 39 = .ok (.iconst 1, 1) := by decide +kernel
theorem dX5_takes_40 : decode cX5_takes 40 = .ok (.bastore, 1) := by decide +kernel
theorem dX5_takes_41 : decode cX5_takes 41 = .ok (.aload_n 0, 1) := by decide +kernel
theorem dX5_takes_42 : decode cX5_takes 42 = .ok (.getfield 17, 3) := by decide +kernel
theorem dX5_takes_45 : decode cX5_takes 45 = .ok (.iload_n 2, 1) := by decide +kernel
theorem dX5_takes_46 : decode cX5_takes 46 = .ok (.iconst 0, 1) := by decide +kernel
theorem dX5_takes_47 : decode cX5_takes 47 = .ok (.bastore, 1) := by decide +kernel
theorem dX5_takes_48 : decode cX5_takes 48 = .ok (.iload 5, 2) := by decide +kernel
theorem dX5_takes_50 : decode cX5_takes 50 = .ok (.ifCond .le 22, 3) := by decide +kernel
theorem dX5_takes_53 : decode cX5_takes 53 = .ok (.aload_n 0, 1) := by decide +kernel
theorem dX5_takes_54 : decode cX5_takes 54 = .ok (.getfield 7, 3) := by decide +kernel
theorem dX5_takes_57 : decode cX5_takes 57 = .ok (.iload_n 2, 1) := by decide +kernel
theorem dX5_takes_58 : decode cX5_takes 58 = .ok (.iload_n 3, 1) := by decide +kernel
theorem dX5_takes_59 : decode cX5_takes 59 = .ok (.iadd, 1) := by decide +kernel
theorem dX5_takes_60 : decode cX5_takes 60 = .ok (.iload 5, 2) := by decide +kernel
theorem dX5_takes_62 : decode cX5_takes 62 = .ok (.iastore, 1) := by decide +kernel
theorem dX5_takes_63 : decode cX5_takes 63 = .ok (.aload_n 0, 1) := by decide +kernel
theorem dX5_takes_64 : decode cX5_takes 64 = .ok (.getfield 13, 3) := by decide +kernel
theorem dX5_takes_67 : decode cX5_takes 67 = .ok (.iload_n 2, 1) := by decide +kernel
theorem dX5_takes_68 : decode cX5_takes 68 = .ok (.iload_n 3, 1) := by decide +kernel
theorem dX5_takes_69 : decode cX5_takes 69 = .ok (.iadd, 1) := by decide +kernel
theorem dX5_takes_70 : decode cX5_takes 70 = .ok (.iconst 0, 1) := by decide +kernel
theorem dX5_takes_71 : decode cX5_takes 71 = .ok (.bastore, 1) := by decide +kernel
theorem dX5_takes_72 : decode cX5_takes 72 = .ok (.iconst 0, 1) := by decide +kernel
theorem dX5_takes_73 : decode cX5_takes 73 = .ok (.istore 6, 2) := by decide +kernel
theorem dX5_takes_75 : decode cX5_takes 75 = .ok (.iload 6, 2) := by decide +kernel
theorem dX5_takes_77 : decode cX5_takes 77 = .ok (.iconst 4, 1) := by decide +kernel
theorem dX5_takes_78 : decode cX5_takes 78 = .ok (.iload_n 3, 1) := by decide +kernel
theorem dX5_takes_79 : decode cX5_takes 79 = .ok (.imul, 1) := by decide +kernel
theorem dX5_takes_80 : decode cX5_takes 80 = .ok (.iconst 1, 1) := by decide +kernel
theorem dX5_takes_81 : decode cX5_takes 81 = .ok (.isub, 1) := by decide +kernel
theorem dX5_takes_82 : decode cX5_takes 82 = .ok (.if_icmp .ge 22, 3) := by decide +kernel
theorem dX5_takes_85 : decode cX5_takes 85 = .ok (.aload_n 0, 1) := by decide +kernel
theorem dX5_takes_86 : decode cX5_takes 86 = .ok (.getfield 20, 3) := by decide +kernel
theorem dX5_takes_89 : decode cX5_takes 89 = .ok (.iload_n 2, 1) := by decide +kernel
theorem dX5_takes_90 : decode cX5_takes 90 = .ok (.invokestatic 55, 3) := by decide +kernel
theorem dX5_takes_93 : decode cX5_takes 93 = .ok (.iload 6, 2) := by decide +kernel
theorem dX5_takes_95 : decode cX5_takes 95 = .ok (.iadd, 1) := by decide +kernel
theorem dX5_takes_96 : decode cX5_takes 96 = .ok (.iconst 0, 1) := by decide +kernel
theorem dX5_takes_97 : decode cX5_takes 97 = .ok (.iastore, 1) := by decide +kernel
theorem dX5_takes_98 : decode cX5_takes 98 = .ok (.iinc 6 1, 3) := by decide +kernel
theorem dX5_takes_101 : decode cX5_takes 101 = .ok (.goto (-26), 3) := by decide +kernel
theorem dX5_takes_104 : decode cX5_takes 104 = .ok (.return_, 1) := by decide +kernel
theorem dX5_give_0 : decode cX5_give 0 = .ok (.aload_n 0, 1) := by decide +kernel
theorem dX5_give_1 : decode cX5_give 1 = .ok (.iconst 0, 1) := by decide +kernel
theorem dX5_give_2 : decode cX5_give 2 = .ok (.putfield 48, 3) := by decide +kernel
theorem dX5_give_5 : decode cX5_give 5 = .ok (.aload_n 0, 1) := by decide +kernel
theorem dX5_give_6 : decode cX5_give 6 = .ok (.iload_n 1, 1) := by decide +kernel
theorem dX5_give_7 : decode cX5_give 7 = .ok (.iconst 1, 1) := by decide +kernel
theorem dX5_give_8 : decode cX5_give 8 = .ok (.invokevirtual 59, 3) := by decide +kernel
theorem dX5_give_11 : decode cX5_give 11 = .ok (.ireturn, 1) := by decide +kernel
theorem dX5_giveAligned_0 : decode cX5_giveAligned 0 = .ok (.aload_n 0, 1) := by decide +kernel
theorem dX5_giveAligned_1 : decode cX5_giveAligned 1 = .ok (.iconst 0, 1) := by decide +kernel
theorem dX5_giveAligned_2 : decode cX5_giveAligned 2 = .ok (.putfield 48, 3) := by decide +kernel
theorem dX5_giveAligned_5 : decode cX5_giveAligned 5 = .ok (.iconst 4, 1) := by decide +kernel
theorem dX5_giveAligned_6 : decode cX5_giveAligned 6 = .ok (.istore_n 3, 1) := by decide +kernel
theorem dX5_giveAligned_7 : decode cX5_giveAligned 7 = .ok (.iload_n 3, 1) := by decide +kernel
theorem dX5_giveAligned_8 : decode cX5_giveAligned 8 = .ok (.sipush 1024, 3) := by decide +kernel
theorem dX5_giveAligned_11 : decode cX5_giveAligned 11 = .ok (.if_icmp .gt 24, 3) := by decide +kernel
theorem dX5_giveAligned_14 : decode cX5_giveAligned 14 = .ok (.iload_n 3, 1) := by decide +kernel
theorem dX5_giveAligned_15 : decode cX5_giveAligned 15 = .ok (.iload_n 2, 1) := by decide +kernel
theorem dX5_giveAligned_16 : decode cX5_giveAligned 16 = .ok (.if_icmp .ne 12, 3) := by decide +kernel
theorem dX5_giveAligned_19 : decode cX5_giveAligned 19 = .ok (.aload_n 0, 1) := by decide +kernel
theorem dX5_giveAligned_20 : decode cX5_giveAligned 20 = .ok (.iload_n 1, 1) := by decide +kernel
theorem dX5_giveAligned_21 : decode cX5_giveAligned 21 = .ok (.iload_n 2, 1) := by decide +kernel
theorem dX5_giveAligned_22 : decode cX5_giveAligned 22 = .ok (.iconst 4, 1) := by decide +kernel
theorem dX5_giveAligned_23 : decode cX5_giveAligned 23 = .ok (.idiv, 1) := by decide +kernel
theorem dX5_giveAligned_24 : decode cX5_giveAligned 24 = .ok (.invokevirtual 59, 3) := by decide +kernel
theorem dX5_giveAligned_27 : decode cX5_giveAligned 27 = .ok (.ireturn, 1) := by decide +kernel
theorem dX5_giveAligned_28 : decode cX5_giveAligned 28 = .ok (.iconst 2, 1) := by decide +kernel
theorem dX5_giveAligned_29 : decode cX5_giveAligned 29 = .ok (.iload_n 3, 1) := by decide +kernel
theorem dX5_giveAligned_30 : decode cX5_giveAligned 30 = .ok (.imul, 1) := by decide +kernel
theorem dX5_giveAligned_31 : decode cX5_giveAligned 31 = .ok (.istore_n 3, 1) := by decide +kernel
theorem dX5_giveAligned_32 : decode cX5_giveAligned 32 = .ok (.goto (-25), 3) := by decide +kernel
theorem dX5_giveAligned_35 : decode cX5_giveAligned 35 = .ok (.iconst 0, 1) := by decide +kernel
theorem dX5_giveAligned_36 : decode cX5_giveAligned 36 = .ok (.ireturn, 1) := by decide +kernel
theorem dX5_gives_0 : decode cX5_gives 0 = .ok (.iload_n 1, 1) := by decide +kernel
theorem dX5_gives_1 : decode cX5_gives 1 = .ok (.iconst 1, 1) := by decide +kernel
theorem dX5_gives_2 : decode cX5_gives 2 = .ok (.if_icmp .ge 5, 3) := by decide +kernel
theorem dX5_gives_5 : decode cX5_gives 5 = .ok (.iconst 0, 1) := by decide +kernel
theorem dX5_gives_6 : decode cX5_gives 6 = .ok (.ireturn, 1) := by decide +kernel
theorem dX5_gives_7 : decode cX5_gives 7 = .ok (.aload_n 0, 1) := by decide +kernel
theorem dX5_gives_8 : decode cX5_gives 8 = .ok (.iload_n 1, 1) := by decide +kernel
theorem dX5_gives_9 : decode cX5_gives 9 = .ok (.invokevirtual 63, 3) := by decide +kernel
theorem dX5_gives_12 : decode cX5_gives 12 = .ok (.istore_n 3, 1) := by decide +kernel
theorem dX5_gives_13 : decode cX5_gives 13 = .ok (.iconst 0, 1) := by decide +kernel
theorem dX5_gives_14 : decode cX5_gives 14 = .ok (.istore 4, 2) := by decide +kernel
theorem dX5_gives_16 : decode cX5_gives 16 = .ok (.iload 4, 2) := by decide +kernel
theorem dX5_gives_18 : decode cX5_gives 18 = .ok (.aload_n 0, 1) := by decide +kernel
theorem dX5_gives_19 : decode cX5_gives 19 = .ok (.getfield 44, 3) := by decide +kernel
theorem dX5_gives_22 : decode cX5_gives 22 = .ok (.if_icmp .ge 78, 3) := by decide +kernel
theorem dX5_gives_25 : decode cX5_gives 25 = .ok (.aload_n 0, 1) := by decide +kernel
theorem dX5_gives_26 : decode cX5_gives 26 = .ok (.iload 4, 2) := by decide +kernel
theorem dX5_gives_28 : decode cX5_gives 28 = .ok (.invokevirtual 51, 3) := by decide +kernel
theorem dX5_gives_31 : decode cX5_gives 31 = .ok (.ifCond .eq 63, 3) := by decide +kernel
theorem dX5_gives_34 : decode cX5_gives 34 = .ok (.iload 4, 2) := by decide +kernel
theorem dX5_gives_36 : decode cX5_gives 36 = .ok (.istore 5, 2) := by decide +kernel
theorem dX5_gives_38 : decode cX5_gives 38 = .ok (.iload 5, 2) := by decide +kernel
theorem dX5_gives_40 : decode cX5_gives 40 = .ok (.iconst 1, 1) := by decide +kernel
theorem dX5_gives_41 : decode cX5_gives 41 = .ok (.iadd, 1) := by decide +kernel
theorem dX5_gives_42 : decode cX5_gives 42 = .ok (.iload_n 2, 1) := by decide +kernel
theorem dX5_gives_43 : decode cX5_gives 43 = .ok (.irem, 1) := by decide +kernel
theorem dX5_gives_44 : decode cX5_gives 44 = .ok (.ifCond .eq 9, 3) := by decide +kernel
theorem dX5_gives_47 : decode cX5_gives 47 = .ok (.iinc 5 1, 3) := by decide +kernel
theorem dX5_gives_50 : decode cX5_gives 50 = .ok (.goto (-12), 3) := by decide +kernel
theorem dX5_gives_53 : decode cX5_gives 53 = .ok (.iload 5, 2) := by decide +kernel
theorem dX5_gives_55 : decode cX5_gives 55 = .ok (.iload 4, 2) := by decide +kernel
theorem dX5_gives_57 : decode cX5_gives 57 = .ok (.isub, 1) := by decide +kernel
theorem dX5_gives_58 : decode cX5_gives 58 = .ok (.i2l, 1) := by decide +kernel
theorem dX5_gives_59 : decode cX5_gives 59 = .ok (.iload_n 3, 1) := by decide +kernel
theorem dX5_gives_60 : decode cX5_gives 60 = .ok (.i2l, 1) := by decide +kernel
theorem dX5_gives_61 : decode cX5_gives 61 = .ok (.ladd, 1) := by decide +kernel
theorem dX5_gives_62 : decode cX5_gives 62 = .ok (.aload_n 0, 1) := by decide +kernel
theorem dX5_gives_63 : decode cX5_gives 63 = .ok (.getfield 7, 3) := by decide +kernel
theorem dX5_gives_66 : decode cX5_gives 66 = .ok (.iload 4, 2) := by decide +kernel
theorem dX5_gives_68 : decode cX5_gives 68 = .ok (.iaload, 1) := by decide +kernel
theorem dX5_gives_69 : decode cX5_gives 69 = .ok (.i2l, 1) := by decide +kernel
theorem dX5_gives_70 : decode cX5_gives 70 = .ok (.lcmp, 1) := by decide +kernel
theorem dX5_gives_71 : decode cX5_gives 71 = .ok (.ifCond .gt 23, 3) := by decide +kernel
theorem dX5_gives_74 : decode cX5_gives 74 = .ok (.aload_n 0, 1) := by decide +kernel
theorem dX5_gives_75 : decode cX5_gives 75 = .ok (.iload 4, 2) := by decide +kernel
theorem dX5_gives_77 : decode cX5_gives 77 = .ok (.iload 5, 2) := by decide +kernel
theorem dX5_gives_79 : decode cX5_gives 79 = .ok (.iload_n 3, 1) := by decide +kernel
theorem dX5_gives_80 : decode cX5_gives 80 = .ok (.invokevirtual 66, 3) := by decide +kernel
theorem dX5_gives_83 : decode cX5_gives 83 = .ok (.aload_n 0, 1) := by decide +kernel
theorem dX5_gives_84 : decode cX5_gives 84 = .ok (.iconst 0, 1) := by decide +kernel
theorem dX5_gives_85 : decode cX5_gives 85 = .ok (.putfield 70, 3) := by decide +kernel
theorem dX5_gives_88 : decode cX5_gives 88 = .ok (.iload 5, 2) := by decide +kernel
theorem dX5_gives_90 : decode cX5_gives 90 = .ok (.invokestatic 55, 3) := by decide +kernel
theorem dX5_gives_93 : decode cX5_gives 93 = .ok (.ireturn, 1) := by decide +kernel
theorem dX5_gives_94 : decode cX5_gives 94 = .ok (.iinc 4 1, 3) := by decide +kernel
theorem dX5_gives_97 : decode cX5_gives 97 = .ok (.goto (-81), 3) := by decide +kernel
theorem dX5_gives_100 : decode cX5_gives 100 = .ok (.iconst 0, 1) := by decide +kernel
theorem dX5_gives_101 : decode cX5_gives 101 = .ok (.ireturn, 1) := by decide +kernel
theorem dX5_free_0 : decode cX5_free 0 = .ok (.aload_n 0, 1) := by decide +kernel
theorem dX5_free_1 : decode cX5_free 1 = .ok (.iconst 0, 1) := by decide +kernel
theorem dX5_free_2 : decode cX5_free 2 = .ok (.putfield 48, 3) := by decide +kernel
theorem dX5_free_5 : decode cX5_free 5 = .ok (.aload_n 0, 1) := by decide +kernel
theorem dX5_free_6 : decode cX5_free 6 = .ok (.iload_n 1, 1) := by decide +kernel
theorem dX5_free_7 : decode cX5_free 7 = .ok (.invokevirtual 74, 3) := by decide +kernel
theorem dX5_free_10 : decode cX5_free 10 = .ok (.istore_n 2, 1) := by decide +kernel
theorem dX5_free_11 : decode cX5_free 11 = .ok (.iload_n 2, 1) := by decide +kernel
theorem dX5_free_12 : decode cX5_free 12 = .ok (.iconst (-1), 1) := by decide +kernel
theorem dX5_free_13 : decode cX5_free 13 = .ok (.if_icmp .ne 5, 3) := by decide +kernel
theorem dX5_free_16 : decode cX5_free 16 = .ok (.iconst 0, 1) := by decide +kernel
theorem dX5_free_17 : decode cX5_free 17 = .ok (.ireturn, 1) := by decide +kernel
theorem dX5_free_18 : decode cX5_free 18 = .ok (.aload_n 0, 1) := by decide +kernel
theorem dX5_free_19 : decode cX5_free 19 = .ok (.getfield 13, 3) := by decide +kernel
theorem dX5_free_22 : decode cX5_free 22 = .ok (.iload_n 2, 1) := by decide +kernel
theorem dX5_free_23 : decode cX5_free 23 = .ok (.iconst 0, 1) := by decide +kernel
theorem dX5_free_24 : decode cX5_free 24 = .ok (.bastore, 1) := by decide +kernel
theorem dX5_free_25 : decode cX5_free 25 = .ok (.aload_n 0, 1) := by decide +kernel
theorem dX5_free_26 : decode cX5_free 26 = .ok (.iconst 0, 1) := by decide +kernel
theorem dX5_free_27 : decode cX5_free 27 = .ok (.putfield 70, 3) := by decide +kernel
theorem dX5_free_30 : decode cX5_free 30 = .ok (.aload_n 0, 1) := by decide +kernel
theorem dX5_free_31 : decode cX5_free 31 = .ok (.invokevirtual 77, 3) := by decide +kernel
theorem dX5_free_34 : decode cX5_free 34 = .ok (.iconst 1, 1) := by decide +kernel
theorem dX5_free_35 : decode cX5_free 35 = .ok (.ireturn, 1) := by decide +kernel
theorem dX5_grow_0 : decode cX5_grow 0 = .ok (.aload_n 0, 1) := by decide +kernel
theorem dX5_grow_1 : decode cX5_grow 1 = .ok (.iconst 0, 1) := by decide +kernel
theorem dX5_grow_2 : decode cX5_grow 2 = .ok (.putfield 48, 3) := by decide +kernel
theorem dX5_grow_5 : decode cX5_grow 5 = .ok (.aload_n 0, 1) := by decide +kernel
theorem dX5_grow_6 : decode cX5_grow 6 = .ok (.iload_n 1, 1) := by decide +kernel
theorem dX5_grow_7 : decode cX5_grow 7 = .ok (.invokevirtual 74, 3) := by decide +kernel
theorem dX5_grow_10 : decode cX5_grow 10 = .ok (.istore_n 3, 1) := by decide +kernel
theorem dX5_grow_11 : decode cX5_grow 11 = .ok (.iload_n 3, 1) := by decide +kernel
theorem dX5_grow_12 : decode cX5_grow 12 = .ok (.iconst (-1), 1) := by decide +kernel
theorem dX5_grow_13 : decode cX5_grow 13 = .ok (.if_icmp .eq 8, 3) := by decide +kernel
theorem dX5_grow_16 : decode cX5_grow 16 = .ok (.iload_n 2, 1) := by decide +kernel
theorem dX5_grow_17 : decode cX5_grow 17 = .ok (.iconst 1, 1) := by decide +kernel
theorem dX5_grow_18 : decode cX5_grow 18 = .ok (.if_icmp .ge 5, 3) := by decide +kernel
theorem dX5_grow_21 : decode cX5_grow 21 = .ok (.iconst 0, 1) := by decide +kernel
theorem dX5_grow_22 : decode cX5_grow 22 = .ok (.ireturn, 1) := by decide +kernel
theorem dX5_grow_23 : decode cX5_grow 23 = .ok (.aload_n 0, 1) := by decide +kernel
theorem dX5_grow_24 : decode cX5_grow 24 = .ok (.iload_n 2, 1) := by decide +kernel
theorem dX5_grow_25 : decode cX5_grow 25 = .ok (.invokevirtual 63, 3) := by decide +kernel
theorem dX5_grow_28 : decode cX5_grow 28 = .ok (.aload_n 0, 1) := by decide +kernel
theorem dX5_grow_29 : decode cX5_grow 29 = .ok (.getfield 7, 3) := by decide +kernel
theorem dX5_grow_32 : decode cX5_grow 32 = .ok (.iload_n 3, 1) := by decide +kernel
theorem dX5_grow_33 : decode cX5_grow 33 = .ok (.iaload, 1) := by decide +kernel
theorem dX5_grow_34 : decode cX5_grow 34 = .ok (.isub, 1) := by decide +kernel
theorem dX5_grow_35 : decode cX5_grow 35 = .ok (.istore 4, 2) := by decide +kernel
theorem dX5_grow_37 : decode cX5_grow 37 = .ok (.iload_n 3, 1) := by decide +kernel
theorem dX5_grow_38 : decode cX5_grow 38 = .ok (.aload_n 0, 1) := by decide +kernel
theorem dX5_grow_39 : decode cX5_grow 39 = .ok (.getfield 7, 3) := by decide +kernel
theorem dX5_grow_42 : decode cX5_grow 42 = .ok (.iload_n 3, 1) := by decide +kernel
theorem dX5_grow_43 : decode cX5_grow 43 = .ok (.iaload, 1) := by decide +kernel
theorem dX5_grow_44 : decode cX5_grow 44 = .ok (.iadd, 1) := by decide +kernel
theorem dX5_grow_45 : decode cX5_grow 45 = .ok (.istore 5, 2) := by decide +kernel
theorem dX5_grow_47 : decode cX5_grow 47 = .ok (.iload 4, 2) := by decide +kernel
theorem dX5_grow_49 : decode cX5_grow 49 = .ok (.ifCond .le 125, 3) := by decide +kernel
theorem dX5_grow_52 : decode cX5_grow 52 = .ok (.aload_n 0, 1) := by decide +kernel
theorem dX5_grow_53 : decode cX5_grow 53 = .ok (.iload 5, 2) := by decide +kernel
theorem dX5_grow_55 : decode cX5_grow 55 = .ok (.invokevirtual 51, 3) := by decide +kernel
theorem dX5_grow_58 : decode cX5_grow 58 = .ok (.ifCond .eq 15, 3) := by decide +kernel
theorem dX5_grow_61 : decode cX5_grow 61 = .ok (.aload_n 0, 1) := by decide +kernel
theorem dX5_grow_62 : decode cX5_grow 62 = .ok (.getfield 7, 3) := by decide +kernel
theorem dX5_grow_65 : decode cX5_grow 65 = .ok (.iload 5, 2) := by decide +kernel
theorem dX5_grow_67 : decode cX5_grow 67 = .ok (.iaload, 1) := by decide +kernel
theorem dX5_grow_68 : decode cX5_grow 68 = .ok (.iload 4, 2) := by decide +kernel
theorem dX5_grow_70 : decode cX5_grow 70 = .ok (.if_icmp .ge 5, 3) := by decide +kernel
theorem dX5_grow_73 : decode cX5_grow 73 = .ok (.iconst 0, 1) := by decide +kernel
theorem dX5_grow_74 : decode cX5_grow 74 = .ok (.ireturn, 1) := by decide +kernel
theorem dX5_grow_75 : decode cX5_grow 75 = .ok (.aload_n 0, 1) := by decide +kernel
theorem dX5_grow_76 : decode cX5_grow 76 = .ok (.getfield 7, 3) := by decide +kernel
theorem dX5_grow_79 : decode cX5_grow 79 = .ok (.iload 5, 2) := by decide +kernel
theorem dX5_grow_81 : decode cX5_grow 81 = .ok (.iaload, 1) := by decide +kernel
theorem dX5_grow_82 : decode cX5_grow 82 = .ok (.iload 4, 2) := by decide +kernel
theorem dX5_grow_84 : decode cX5_grow 84 = .ok (.isub, 1) := by decide +kernel
theorem dX5_grow_85 : decode cX5_grow 85 = .ok (.istore 6, 2) := by decide +kernel
theorem dX5_grow_87 : decode cX5_grow 87 = .ok (.iconst 0, 1) := by decide +kernel
theorem dX5_grow_88 : decode cX5_grow 88 = .ok (.istore 7, 2) := by decide +kernel
theorem dX5_grow_90 : decode cX5_grow 90 = .ok (.iload 7, 2) := by decide +kernel
theorem dX5_grow_92 : decode cX5_grow 92 = .ok (.iconst 4, 1) := by decide +kernel
theorem dX5_grow_93 : decode cX5_grow 93 = .ok (.iload 4, 2) := by decide +kernel
theorem dX5_grow_95 : decode cX5_grow 95 = .ok (.imul, 1) := by decide +kernel
theorem dX5_grow_96 : decode cX5_grow 96 = .ok (.if_icmp .ge 25, 3) := by decide +kernel
theorem dX5_grow_99 : decode cX5_grow 99 = .ok (.aload_n 0, 1) := by decide +kernel
theorem dX5_grow_100 : decode cX5_grow 100 = .ok (.getfield 20, 3) := by decide +kernel
theorem dX5_grow_103 : decode cX5_grow 103 = .ok (.iload 5, 2) := by decide +kernel
theorem dX5_grow_105 : decode cX5_grow 105 = .ok (.invokestatic 55, 3) := by decide +kernel
theorem dX5_grow_108 : decode cX5_grow 108 = .ok (.iconst 1, 1) := by decide +kernel
theorem dX5_grow_109 : decode cX5_grow 109 = .ok (.isub, 1) := by decide +kernel
theorem dX5_grow_110 : decode cX5_grow 110 = .ok (.iload 7, 2) := by decide +kernel
theorem dX5_grow_112 : decode cX5_grow 112 = .ok (.iadd, 1) := by decide +kernel
theorem dX5_grow_113 : decode cX5_grow 113 = .ok (.iconst 0, 1) := by decide +kernel
theorem dX5_grow_114 : decode cX5_grow 114 = .ok (.iastore, 1) := by decide +kernel
theorem dX5_grow_115 : decode cX5_grow 115 = .ok (.iinc 7 1, 3) := by decide +kernel
theorem dX5_grow_118 : decode cX5_grow 118 = .ok (.goto (-28), 3) := by decide +kernel
theorem dX5_grow_121 : decode cX5_grow 121 = .ok (.aload_n 0, 1) := by decide +kernel
theorem dX5_grow_122 : decode cX5_grow 122 = .ok (.getfield 7, 3) := by decide +kernel
theorem dX5_grow_125 : decode cX5_grow 125 = .ok (.iload 5, 2) := by decide +kernel
theorem dX5_grow_127 : decode cX5_grow 127 = .ok (.iconst 0, 1) := by decide +kernel
theorem dX5_grow_128 : decode cX5_grow 128 = .ok (.iastore, 1) := by decide +kernel
theorem dX5_grow_129 : decode cX5_grow 129 = .ok (.aload_n 0, 1) := by decide +kernel
theorem dX5_grow_130 : decode cX5_grow 130 = .ok (.getfield 7, 3) := by decide +kernel
theorem dX5_grow_133 : decode cX5_grow 133 = .ok (.iload_n 3, 1) := by decide +kernel
theorem dX5_grow_134 : decode cX5_grow 134 = .ok (.dup2, 1) := by decide +kernel
theorem dX5_grow_135 : decode cX5_grow 135 = .ok (.iaload, 1) := by decide +kernel
theorem dX5_grow_136 : decode cX5_grow 136 = .ok (.iload 4, 2) := by decide +kernel
theorem dX5_grow_138 : decode cX5_grow 138 = .ok (.iadd, 1) := by decide +kernel
theorem dX5_grow_139 : decode cX5_grow 139 = .ok (.iastore, 1) := by decide +kernel
theorem dX5_grow_140 : decode cX5_grow 140 = .ok (.iload 6, 2) := by decide +kernel
theorem dX5_grow_142 : decode cX5_grow 142 = .ok (.ifCond .le 32, 3) := by decide +kernel
theorem dX5_grow_145 : decode cX5_grow 145 = .ok (.aload_n 0, 1) := by decide +kernel
theorem dX5_grow_146 : decode cX5_grow 146 = .ok (.getfield 7, 3) := by decide +kernel
theorem dX5_grow_149 : decode cX5_grow 149 = .ok (.iload_n 3, 1) := by decide +kernel
theorem dX5_grow_150 : decode cX5_grow 150 = .ok (.aload_n 0, 1) := by decide +kernel
theorem dX5_grow_151 : decode cX5_grow 151 = .ok (.getfield 7, 3) := by decide +kernel
theorem dX5_grow_154 : decode cX5_grow 154 = .ok (.iload_n 3, 1) := by decide +kernel
theorem dX5_grow_155 : decode cX5_grow 155 = .ok (.iaload, 1) := by decide +kernel
theorem dX5_grow_156 : decode cX5_grow 156 = .ok (.iadd, 1) := by decide +kernel
theorem dX5_grow_157 : decode cX5_grow 157 = .ok (.iload 6, 2) := by decide +kernel
theorem dX5_grow_159 : decode cX5_grow 159 = .ok (.iastore, 1) := by decide +kernel
theorem dX5_grow_160 : decode cX5_grow 160 = .ok (.aload_n 0, 1) := by decide +kernel
theorem dX5_grow_161 : decode cX5_grow 161 = .ok (.getfield 13, 3) := by decide +kernel
theorem dX5_grow_164 : decode cX5_grow 164 = .ok (.iload_n 3, 1) := by decide +kernel
theorem dX5_grow_165 : decode cX5_grow 165 = .ok (.aload_n 0, 1) := by decide +kernel
theorem dX5_grow_166 : decode cX5_grow 166 = .ok (.getfield 7, 3) := by decide +kernel
theorem dX5_grow_169 : decode cX5_grow 169 = .ok (.iload_n 3, 1) := by decide +kernel
theorem dX5_grow_170 : decode cX5_grow 170 = .ok (.iaload, 1) := by decide +kernel
theorem dX5_grow_171 : decode cX5_grow 171 = .ok (.iadd, 1) := by decide +kernel
theorem dX5_grow_172 : decode cX5_grow 172 = .ok (.iconst 0, 1) := by decide +kernel
theorem dX5_grow_173 : decode cX5_grow 173 = .ok (.bastore, 1) := by decide +kernel
theorem dX5_grow_174 : decode cX5_grow 174 = .ok (.aload_n 0, 1) := by decide +kernel
theorem dX5_grow_175 : decode cX5_grow 175 = .ok (.iconst 0, 1) := by decide +kernel
theorem dX5_grow_176 : decode cX5_grow 176 = .ok (.putfield 70, 3) := by decide +kernel
theorem dX5_grow_179 : decode cX5_grow 179 = .ok (.iconst 1, 1) := by decide +kernel
theorem dX5_grow_180 : decode cX5_grow 180 = .ok (.ireturn, 1) := by decide +kernel
theorem dX5_trim_0 : decode cX5_trim 0 = .ok (.aload_n 0, 1) := by decide +kernel
theorem dX5_trim_1 : decode cX5_trim 1 = .ok (.iconst 0, 1) := by decide +kernel
theorem dX5_trim_2 : decode cX5_trim 2 = .ok (.putfield 48, 3) := by decide +kernel
theorem dX5_trim_5 : decode cX5_trim 5 = .ok (.aload_n 0, 1) := by decide +kernel
theorem dX5_trim_6 : decode cX5_trim 6 = .ok (.iload_n 1, 1) := by decide +kernel
theorem dX5_trim_7 : decode cX5_trim 7 = .ok (.invokevirtual 74, 3) := by decide +kernel
theorem dX5_trim_10 : decode cX5_trim 10 = .ok (.istore_n 3, 1) := by decide +kernel
theorem dX5_trim_11 : decode cX5_trim 11 = .ok (.iload_n 3, 1) := by decide +kernel
theorem dX5_trim_12 : decode cX5_trim 12 = .ok (.iconst (-1), 1) := by decide +kernel
theorem dX5_trim_13 : decode cX5_trim 13 = .ok (.if_icmp .eq 22, 3) := by decide +kernel
theorem dX5_trim_16 : decode cX5_trim 16 = .ok (.iload_n 2, 1) := by decide +kernel
theorem dX5_trim_17 : decode cX5_trim 17 = .ok (.iconst 1, 1) := by decide +kernel
theorem dX5_trim_18 : decode cX5_trim 18 = .ok (.if_icmp .lt 17, 3) := by decide +kernel
theorem dX5_trim_21 : decode cX5_trim 21 = .ok (.aload_n 0, 1) := by decide +kernel
theorem dX5_trim_22 : decode cX5_trim 22 = .ok (.iload_n 2, 1) := by decide +kernel
theorem dX5_trim_23 : decode cX5_trim 23 = .ok (.invokevirtual 63, 3) := by decide +kernel
theorem dX5_trim_26 : decode cX5_trim 26 = .ok (.aload_n 0, 1) := by decide +kernel
theorem dX5_trim_27 : decode cX5_trim 27 = .ok (.getfield 7, 3) := by decide +kernel
theorem dX5_trim_30 : decode cX5_trim 30 = .ok (.iload_n 3, 1) := by decide +kernel
theorem dX5_trim_31 : decode cX5_trim 31 = .ok (.iaload, 1) := by decide +kernel
theorem dX5_trim_32 : decode cX5_trim 32 = .ok (.if_icmp .le 5, 3) := by decide +kernel
theorem dX5_trim_35 : decode cX5_trim 35 = .ok (.iconst 0, 1) := by decide +kernel
theorem dX5_trim_36 : decode cX5_trim 36 = .ok (.ireturn, 1) := by decide +kernel
theorem dX5_trim_37 : decode cX5_trim 37 = .ok (.aload_n 0, 1) := by decide +kernel
theorem dX5_trim_38 : decode cX5_trim 38 = .ok (.getfield 7, 3) := by decide +kernel
theorem dX5_trim_41 : decode cX5_trim 41 = .ok (.iload_n 3, 1) := by decide +kernel
theorem dX5_trim_42 : decode cX5_trim 42 = .ok (.iaload, 1) := by decide +kernel
theorem dX5_trim_43 : decode cX5_trim 43 = .ok (.aload_n 0, 1) := by decide +kernel
theorem dX5_trim_44 : decode cX5_trim 44 = .ok (.iload_n 2, 1) := by decide +kernel
theorem dX5_trim_45 : decode cX5_trim 45 = .ok (.invokevirtual 63, 3) := by decide +kernel
theorem dX5_trim_48 : decode cX5_trim 48 = .ok (.isub, 1) := by decide +kernel
theorem dX5_trim_49 : decode cX5_trim 49 = .ok (.istore 4, 2) := by decide +kernel
theorem dX5_trim_51 : decode cX5_trim 51 = .ok (.iload 4, 2) := by decide +kernel
theorem dX5_trim_53 : decode cX5_trim 53 = .ok (.ifCond .le 47, 3) := by decide +kernel
theorem dX5_trim_56 : decode cX5_trim 56 = .ok (.aload_n 0, 1) := by decide +kernel
theorem dX5_trim_57 : decode cX5_trim 57 = .ok (.getfield 7, 3) := by decide +kernel
theorem dX5_trim_60 : decode cX5_trim 60 = .ok (.iload_n 3, 1) := by decide +kernel
theorem dX5_trim_61 : decode cX5_trim 61 = .ok (.dup2, 1) := by decide +kernel
theorem dX5_trim_62 : decode cX5_trim 62 = .ok (.iaload, 1) := by decide +kernel
theorem dX5_trim_63 : decode cX5_trim 63 = .ok (.iload 4, 2) := by decide +kernel
theorem dX5_trim_65 : decode cX5_trim 65 = .ok (.isub, 1) := by decide +kernel
theorem dX5_trim_66 : decode cX5_trim 66 = .ok (.iastore, 1) := by decide +kernel
theorem dX5_trim_67 : decode cX5_trim 67 = .ok (.aload_n 0, 1) := by decide +kernel
theorem dX5_trim_68 : decode cX5_trim 68 = .ok (.getfield 7, 3) := by decide +kernel
theorem dX5_trim_71 : decode cX5_trim 71 = .ok (.iload_n 3, 1) := by decide +kernel
theorem dX5_trim_72 : decode cX5_trim 72 = .ok (.aload_n 0, 1) := by decide +kernel
theorem dX5_trim_73 : decode cX5_trim 73 = .ok (.getfield 7, 3) := by decide +kernel
theorem dX5_trim_76 : decode cX5_trim 76 = .ok (.iload_n 3, 1) := by decide +kernel
theorem dX5_trim_77 : decode cX5_trim 77 = .ok (.iaload, 1) := by decide +kernel
theorem dX5_trim_78 : decode cX5_trim 78 = .ok (.iadd, 1) := by decide +kernel
theorem dX5_trim_79 : decode cX5_trim 79 = .ok (.iload 4, 2) := by decide +kernel
theorem dX5_trim_81 : decode cX5_trim 81 = .ok (.iastore, 1) := by decide +kernel
theorem dX5_trim_82 : decode cX5_trim 82 = .ok (.aload_n 0, 1) := by decide +kernel
theorem dX5_trim_83 : decode cX5_trim 83 = .ok (.getfield 13, 3) := by decide +kernel
theorem dX5_trim_86 : decode cX5_trim 86 = .ok (.iload_n 3, 1) := by decide +kernel
theorem dX5_trim_87 : decode cX5_trim 87 = .ok (.aload_n 0, 1) := by decide +kernel
theorem dX5_trim_88 : decode cX5_trim 88 = .ok (.getfield 7, 3) := by decide +kernel
theorem dX5_trim_91 : decode cX5_trim 91 = .ok (.iload_n 3, 1) := by decide +kernel
theorem dX5_trim_92 : decode cX5_trim 92 = .ok (.iaload, 1) := by decide +kernel
theorem dX5_trim_93 : decode cX5_trim 93 = .ok (.iadd, 1) := by decide +kernel
theorem dX5_trim_94 : decode cX5_trim 94 = .ok (.iconst 0, 1) := by decide +kernel
theorem dX5_trim_95 : decode cX5_trim 95 = .ok (.bastore, 1) := by decide +kernel
theorem dX5_trim_96 : decode cX5_trim 96 = .ok (.aload_n 0, 1) := by decide +kernel
theorem dX5_trim_97 : decode cX5_trim 97 = .ok (.invokevirtual 77, 3) := by decide +kernel
theorem dX5_trim_100 : decode cX5_trim 100 = .ok (.aload_n 0, 1) := by decide +kernel
theorem dX5_trim_101 : decode cX5_trim 101 = .ok (.iconst 0, 1) := by decide +kernel
theorem dX5_trim_102 : decode cX5_trim 102 = .ok (.putfield 70, 3) := by decide +kernel
theorem dX5_trim_105 : decode cX5_trim 105 = .ok (.iconst 1, 1) := by decide +kernel
theorem dX5_trim_106 : decode cX5_trim 106 = .ok (.ireturn, 1) := by decide +kernel
theorem dX5_pin_0 : decode cX5_pin 0 = .ok (.aload_n 0, 1) := by decide +kernel
theorem dX5_pin_1 : decode cX5_pin 1 = .ok (.iconst 0, 1) := by decide +kernel
theorem dX5_pin_2 : decode cX5_pin 2 = .ok (.putfield 48, 3) := by decide +kernel
theorem dX5_pin_5 : decode cX5_pin 5 = .ok (.aload_n 0, 1) := by decide +kernel
theorem dX5_pin_6 : decode cX5_pin 6 = .ok (.iload_n 1, 1) := by decide +kernel
theorem dX5_pin_7 : decode cX5_pin 7 = .ok (.invokevirtual 74, 3) := by decide +kernel
theorem dX5_pin_10 : decode cX5_pin 10 = .ok (.istore_n 3, 1) := by decide +kernel
theorem dX5_pin_11 : decode cX5_pin 11 = .ok (.iload_n 3, 1) := by decide +kernel
theorem dX5_pin_12 : decode cX5_pin 12 = .ok (.iconst (-1), 1) := by decide +kernel
theorem dX5_pin_13 : decode cX5_pin 13 = .ok (.if_icmp .ne 5, 3) := by decide +kernel
theorem dX5_pin_16 : decode cX5_pin 16 = .ok (.iconst 0, 1) := by decide +kernel
theorem dX5_pin_17 : decode cX5_pin 17 = .ok (.ireturn, 1) := by decide +kernel
theorem dX5_pin_18 : decode cX5_pin 18 = .ok (.aload_n 0, 1) := by decide +kernel
theorem dX5_pin_19 : decode cX5_pin 19 = .ok (.getfield 17, 3) := by decide +kernel
theorem dX5_pin_22 : decode cX5_pin 22 = .ok (.iload_n 3, 1) := by decide +kernel
theorem dX5_pin_23 : decode cX5_pin 23 = .ok (.iload_n 2, 1) := by decide +kernel
theorem dX5_pin_24 : decode cX5_pin 24 = .ok (.bastore, 1) := by decide +kernel
theorem dX5_pin_25 : decode cX5_pin 25 = .ok (.aload_n 0, 1) := by decide +kernel
theorem dX5_pin_26 : decode cX5_pin 26 = .ok (.iconst 0, 1) := by decide +kernel
theorem dX5_pin_27 : decode cX5_pin 27 = .ok (.putfield 70, 3) := by decide +kernel
theorem dX5_pin_30 : decode cX5_pin 30 = .ok (.iconst 1, 1) := by decide +kernel
theorem dX5_pin_31 : decode cX5_pin 31 = .ok (.ireturn, 1) := by decide +kernel
theorem dX5_get_0 : decode cX5_get 0 = .ok (.aload_n 0, 1) := by decide +kernel
theorem dX5_get_1 : decode cX5_get 1 = .ok (.iload_n 1, 1) := by decide +kernel
theorem dX5_get_2 : decode cX5_get 2 = .ok (.invokevirtual 74, 3) := by decide +kernel
theorem dX5_get_5 : decode cX5_get 5 = .ok (.istore_n 3, 1) := by decide +kernel
theorem dX5_get_6 : decode cX5_get 6 = .ok (.aload_n 0, 1) := by decide +kernel
theorem dX5_get_7 : decode cX5_get 7 = .ok (.iload_n 3, 1) := by decide +kernel
theorem dX5_get_8 : decode cX5_get 8 = .ok (.iconst (-1), 1) := by decide +kernel
theorem dX5_get_9 : decode cX5_get 9 = .ok (.if_icmp .ne 7, 3) := by decide +kernel
theorem dX5_get_12 : decode cX5_get 12 = .ok (.iconst 1, 1) := by decide +kernel
theorem dX5_get_13 : decode cX5_get 13 = .ok (.goto 26, 3) := by decide +kernel
theorem dX5_get_16 : decode cX5_get 16 = .ok (.iload_n 2, 1) := by decide +kernel
theorem dX5_get_17 : decode cX5_get 17 = .ok (.ifCond .lt 17, 3) := by decide +kernel
theorem dX5_get_20 : decode cX5_get 20 = .ok (.iload_n 2, 1) := by decide +kernel
theorem dX5_get_21 : decode cX5_get 21 = .ok (.iconst 4, 1) := by decide +kernel
theorem dX5_get_22 : decode cX5_get 22 = .ok (.aload_n 0, 1) := by decide +kernel
theorem dX5_get_23 : decode cX5_get 23 = .ok (.getfield 7, 3) := by decide +kernel
theorem dX5_get_26 : decode cX5_get 26 = .ok (.iload_n 3, 1) := by decide +kernel
theorem dX5_get_27 : decode cX5_get 27 = .ok (.iaload, 1) := by decide +kernel
theorem dX5_get_28 : decode cX5_get 28 = .ok (.imul, 1) := by decide +kernel
theorem dX5_get_29 : decode cX5_get 29 = .ok (.iconst 1, 1) := by decide +kernel
theorem dX5_get_30 : decode cX5_get 30 = .ok (.isub, 1) := by decide +kernel
theorem dX5_get_31 : decode cX5_get 31 = .ok (.if_icmp .lt 7, 3) := by decide +kernel
theorem dX5_get_34 : decode cX5_get 34 = .ok (.iconst 2, 1) := by decide +kernel
theorem dX5_get_35 : decode cX5_get 35 = .ok (.goto 4, 3) := by decide +kernel
theorem dX5_get_38 : decode cX5_get 38 = .ok (.iconst 0, 1) := by decide +kernel
theorem dX5_get_39 : decode cX5_get 39 = .ok (.putfield 48, 3) := by decide +kernel
theorem dX5_get_42 : decode cX5_get 42 = .ok (.aload_n 0, 1) := by decide +kernel
theorem dX5_get_43 : decode cX5_get 43 = .ok (.getfield 48, 3) := by decide +kernel
theorem dX5_get_46 : decode cX5_get 46 = .ok (.ifCond .ne 14, 3) := by decide +kernel
theorem dX5_get_49 : decode cX5_get 49 = .ok (.aload_n 0, 1) := by decide +kernel
theorem dX5_get_50 : decode cX5_get 50 = .ok (.getfield 20, 3) := by decide +kernel
theorem dX5_get_53 : decode cX5_get 53 = .ok (.iload_n 1, 1) := by decide +kernel
theorem dX5_get_54 : decode cX5_get 54 = .ok (.iload_n 2, 1) := by decide +kernel
theorem dX5_get_55 : decode cX5_get 55 = .ok (.iadd, 1) := by decide +kernel
theorem dX5_get_56 : decode cX5_get 56 = .ok (.iaload, 1) := by decide +kernel
theorem dX5_get_57 : decode cX5_get 57 = .ok (.goto 4, 3) := by decide +kernel
theorem dX5_get_60 : decode cX5_get 60 = .ok (.iconst 0, 1) := by decide +kernel
theorem dX5_get_61 : decode cX5_get 61 = .ok (.ireturn, 1) := by decide +kernel
theorem dX5_set_0 : decode cX5_set 0 = .ok (.aload_n 0, 1) := by decide +kernel
theorem dX5_set_1 : decode cX5_set 1 = .ok (.iload_n 1, 1) := by decide +kernel
theorem dX5_set_2 : decode cX5_set 2 = .ok (.iload_n 2, 1) := by decide +kernel
theorem dX5_set_3 : decode cX5_set 3 = .ok (.invokevirtual 80, 3) := by decide +kernel
theorem dX5_set_6 : decode cX5_set 6 = .ok (.istore 4, 2) := by decide +kernel
theorem dX5_set_8 : decode cX5_set 8 = .ok (.aload_n 0, 1) := by decide +kernel
theorem dX5_set_9 : decode cX5_set 9 = .ok (.getfield 48, 3) := by decide +kernel
theorem dX5_set_12 : decode cX5_set 12 = .ok (.ifCond .ne 12, 3) := by decide +kernel
theorem dX5_set_15 : decode cX5_set 15 = .ok (.aload_n 0, 1) := by decide +kernel
theorem dX5_set_16 : decode cX5_set 16 = .ok (.getfield 20, 3) := by decide +kernel
theorem dX5_set_19 : decode cX5_set 19 = .ok (.iload_n 1, 1) := by decide +kernel
theorem dX5_set_20 : decode cX5_set 20 = .ok (.iload_n 2, 1) := by decide +kernel
theorem dX5_set_21 : decode cX5_set 21 = .ok (.iadd, 1) := by decide +kernel
theorem dX5_set_22 : decode cX5_set 22 = .ok (.iload_n 3, 1) := by decide +kernel
theorem dX5_set_23 : decode cX5_set 23 = .ok (.iastore, 1) := by decide +kernel
theorem dX5_set_24 : decode cX5_set 24 = .ok (.iload 4, 2) := by decide +kernel
theorem dX5_set_26 : decode cX5_set 26 = .ok (.ireturn, 1) := by decide +kernel
theorem dX5_sizeOf_0 : decode cX5_sizeOf 0 = .ok (.aload_n 0, 1) := by decide +kernel
theorem dX5_sizeOf_1 : decode cX5_sizeOf 1 = .ok (.iconst 0, 1) := by decide +kernel
theorem dX5_sizeOf_2 : decode cX5_sizeOf 2 = .ok (.putfield 48, 3) := by decide +kernel
theorem dX5_sizeOf_5 : decode cX5_sizeOf 5 = .ok (.aload_n 0, 1) := by decide +kernel
theorem dX5_sizeOf_6 : decode cX5_sizeOf 6 = .ok (.iload_n 1, 1) := by decide +kernel
theorem dX5_sizeOf_7 : decode cX5_sizeOf 7 = .ok (.invokevirtual 74, 3) := by decide +kernel
theorem dX5_sizeOf_10 : decode cX5_sizeOf 10 = .ok (.istore_n 2, 1) := by decide +kernel
theorem dX5_sizeOf_11 : decode cX5_sizeOf 11 = .ok (.iload_n 2, 1) := by decide +kernel
theorem dX5_sizeOf_12 : decode cX5_sizeOf 12 = .ok (.iconst (-1), 1) := by decide +kernel
theorem dX5_sizeOf_13 : decode cX5_sizeOf 13 = .ok (.if_icmp .ne 7, 3) := by decide +kernel
theorem dX5_sizeOf_16 : decode cX5_sizeOf 16 = .ok (.iconst (-1), 1) := by decide +kernel
theorem dX5_sizeOf_17 : decode cX5_sizeOf 17 = .ok (.goto 13, 3) := by decide +kernel
theorem dX5_sizeOf_20 : decode cX5_sizeOf 20 = .ok (.iconst 4, 1) := by decide +kernel
theorem dX5_sizeOf_21 : decode cX5_sizeOf 21 = .ok (.aload_n 0, 1) := by decide +kernel
theorem dX5_sizeOf_22 : decode cX5_sizeOf 22 = .ok (.getfield 7, 3) := by decide +kernel
theorem dX5_sizeOf_25 : decode cX5_sizeOf 25 = .ok (.iload_n 2, 1) := by decide +kernel
theorem dX5_sizeOf_26 : decode cX5_sizeOf 26 = .ok (.iaload, 1) := by decide +kernel
theorem dX5_sizeOf_27 : decode cX5_sizeOf 27 = .ok (.imul, 1) := by decide +kernel
theorem dX5_sizeOf_28 : decode cX5_sizeOf 28 = .ok (.iconst 1, 1) := by decide +kernel
theorem dX5_sizeOf_29 : decode cX5_sizeOf 29 = .ok (.isub, 1) := by decide +kernel
theorem dX5_sizeOf_30 : decode cX5_sizeOf 30 = .ok (.ireturn, 1) := by decide +kernel
theorem dX5_top_0 : decode cX5_top 0 = .ok (.iconst (-1), 1) := by decide +kernel
theorem dX5_top_1 : decode cX5_top 1 = .ok (.istore_n 3, 1) := by decide +kernel
theorem dX5_top_2 : decode cX5_top 2 = .ok (.iload_n 1, 1) := by decide +kernel
theorem dX5_top_3 : decode cX5_top 3 = .ok (.istore 4, 2) := by decide +kernel
theorem dX5_top_5 : decode cX5_top 5 = .ok (.iload 4, 2) := by decide +kernel
theorem dX5_top_7 : decode cX5_top 7 = .ok (.iload_n 2, 1) := by decide +kernel
theorem dX5_top_8 : decode cX5_top 8 = .ok (.if_icmp .ge 42, 3) := by decide +kernel
theorem dX5_top_11 : decode cX5_top 11 = .ok (.aload_n 0, 1) := by decide +kernel
theorem dX5_top_12 : decode cX5_top 12 = .ok (.iload 4, 2) := by decide +kernel
theorem dX5_top_14 : decode cX5_top 14 = .ok (.invokevirtual 51, 3) := by decide +kernel
theorem dX5_top_17 : decode cX5_top 17 = .ok (.ifCond .eq 27, 3) := by decide +kernel
theorem dX5_top_20 : decode cX5_top 20 = .ok (.iload_n 3, 1) := by decide +kernel
theorem dX5_top_21 : decode cX5_top 21 = .ok (.iconst (-1), 1) := by decide +kernel
theorem dX5_top_22 : decode cX5_top 22 = .ok (.if_icmp .eq 19, 3) := by decide +kernel
theorem dX5_top_25 : decode cX5_top 25 = .ok (.aload_n 0, 1) := by decide +kernel
theorem dX5_top_26 : decode cX5_top 26 = .ok (.getfield 7, 3) := by decide +kernel
theorem dX5_top_29 : decode cX5_top 29 = .ok (.iload 4, 2) := by decide +kernel
theorem dX5_top_31 : decode cX5_top 31 = .ok (.iaload, 1) := by decide +kernel
theorem dX5_top_32 : decode cX5_top 32 = .ok (.aload_n 0, 1) := by decide +kernel
theorem dX5_top_33 : decode cX5_top 33 = .ok (.getfield 7, 3) := by decide +kernel
theorem dX5_top_36 : decode cX5_top 36 = .ok (.iload_n 3, 1) := by decide +kernel
theorem dX5_top_37 : decode cX5_top 37 = .ok (.iaload, 1) := by decide +kernel
theorem dX5_top_38 : decode cX5_top 38 = .ok (.if_icmp .le 6, 3) := by decide +kernel
theorem dX5_top_41 : decode cX5_top 41 = .ok (.iload 4, 2) := by decide +kernel
theorem dX5_top_43 : decode cX5_top 43 = .ok (.istore_n 3, 1) := by decide +kernel
theorem dX5_top_44 : decode cX5_top 44 = .ok (.iinc 4 1, 3) := by decide +kernel
theorem dX5_top_47 : decode cX5_top 47 = .ok (.goto (-42), 3) := by decide +kernel
theorem dX5_top_50 : decode cX5_top 50 = .ok (.iload_n 3, 1) := by decide +kernel
theorem dX5_top_51 : decode cX5_top 51 = .ok (.ireturn, 1) := by decide +kernel
theorem dX5_largest_0 : decode cX5_largest 0 = .ok (.aload_n 0, 1) := by decide +kernel
theorem dX5_largest_1 : decode cX5_largest 1 = .ok (.iconst 0, 1) := by decide +kernel
theorem dX5_largest_2 : decode cX5_largest 2 = .ok (.putfield 48, 3) := by decide +kernel
theorem dX5_largest_5 : decode cX5_largest 5 = .ok (.aload_n 0, 1) := by decide +kernel
theorem dX5_largest_6 : decode cX5_largest 6 = .ok (.iconst 0, 1) := by decide +kernel
theorem dX5_largest_7 : decode cX5_largest 7 = .ok (.aload_n 0, 1) := by decide +kernel
theorem dX5_largest_8 : decode cX5_largest 8 = .ok (.getfield 44, 3) := by decide +kernel
theorem dX5_largest_11 : decode cX5_largest 11 = .ok (.invokevirtual 83, 3) := by decide +kernel
theorem dX5_largest_14 : decode cX5_largest 14 = .ok (.istore_n 1, 1) := by decide +kernel
theorem dX5_largest_15 : decode cX5_largest 15 = .ok (.iload_n 1, 1) := by decide +kernel
theorem dX5_largest_16 : decode cX5_largest 16 = .ok (.iconst (-1), 1) := by decide +kernel
theorem dX5_largest_17 : decode cX5_largest 17 = .ok (.if_icmp .ne 7, 3) := by decide +kernel
theorem dX5_largest_20 : decode cX5_largest 20 = .ok (.iconst 0, 1) := by decide +kernel
theorem dX5_largest_21 : decode cX5_largest 21 = .ok (.goto 11, 3) := by decide +kernel
theorem dX5_largest_24 : decode cX5_largest 24 = .ok (.iconst 4, 1) := by decide +kernel
theorem dX5_largest_25 : decode cX5_largest 25 = .ok (.aload_n 0, 1) := by decide +kernel
theorem dX5_largest_26 : decode cX5_largest 26 = .ok (.getfield 7, 3) := by decide +kernel
theorem dX5_largest_29 : decode cX5_largest 29 = .ok (.iload_n 1, 1) := by decide +kernel
theorem dX5_largest_30 : decode cX5_largest 30 = .ok (.iaload, 1) := by decide +kernel
theorem dX5_largest_31 : decode cX5_largest 31 = .ok (.imul, 1) := by decide +kernel
theorem dX5_largest_32 : decode cX5_largest 32 = .ok (.ireturn, 1) := by decide +kernel
theorem dX5_depth_0 : decode cX5_depth 0 = .ok (.iconst 0, 1) := by decide +kernel
theorem dX5_depth_1 : decode cX5_depth 1 = .ok (.istore_n 2, 1) := by decide +kernel
theorem dX5_depth_2 : decode cX5_depth 2 = .ok (.iconst 0, 1) := by decide +kernel
theorem dX5_depth_3 : decode cX5_depth 3 = .ok (.istore_n 3, 1) := by decide +kernel
theorem dX5_depth_4 : decode cX5_depth 4 = .ok (.iload_n 3, 1) := by decide +kernel
theorem dX5_depth_5 : decode cX5_depth 5 = .ok (.aload_n 0, 1) := by decide +kernel
theorem dX5_depth_6 : decode cX5_depth 6 = .ok (.getfield 44, 3) := by decide +kernel
theorem dX5_depth_9 : decode cX5_depth 9 = .ok (.if_icmp .ge 55, 3) := by decide +kernel
theorem dX5_depth_12 : decode cX5_depth 12 = .ok (.iload_n 2, 1) := by decide +kernel
theorem dX5_depth_13 : decode cX5_depth 13 = .ok (.aload_n 0, 1) := by decide +kernel
theorem dX5_depth_14 : decode cX5_depth 14 = .ok (.iload_n 3, 1) := by decide +kernel
theorem dX5_depth_15 : decode cX5_depth 15 = .ok (.invokevirtual 51, 3) := by decide +kernel
theorem dX5_depth_18 : decode cX5_depth 18 = .ok (.ifCond .eq 37, 3) := by decide +kernel
theorem dX5_depth_21 : decode cX5_depth 21 = .ok (.aload_n 0, 1) := by decide +kernel
theorem dX5_depth_22 : decode cX5_depth 22 = .ok (.iload_n 3, 1) := by decide +kernel
theorem dX5_depth_23 : decode cX5_depth 23 = .ok (.iload_n 1, 1) := by decide +kernel
theorem dX5_depth_24 : decode cX5_depth 24 = .ok (.if_icmp .ge 7, 3) := by decide +kernel
theorem dX5_depth_27 : decode cX5_depth 27 = .ok (.iload_n 3, 1) := by decide +kernel
theorem dX5_depth_28 : decode cX5_depth 28 = .ok (.goto 4, 3) := by decide +kernel
theorem dX5_depth_31 : decode cX5_depth 31 = .ok (.iload_n 1, 1) := by decide +kernel
theorem dX5_depth_32 : decode cX5_depth 32 = .ok (.iload_n 3, 1) := by decide +kernel
theorem dX5_depth_33 : decode cX5_depth 33 = .ok (.iload_n 1, 1) := by decide +kernel
theorem dX5_depth_34 : decode cX5_depth 34 = .ok (.if_icmp .ge 7, 3) := by decide +kernel
theorem dX5_depth_37 : decode cX5_depth 37 = .ok (.iload_n 1, 1) := by decide +kernel
theorem dX5_depth_38 : decode cX5_depth 38 = .ok (.goto 4, 3) := by decide +kernel
theorem dX5_depth_41 : decode cX5_depth 41 = .ok (.iload_n 3, 1) := by decide +kernel
theorem dX5_depth_42 : decode cX5_depth 42 = .ok (.iconst 1, 1) := by decide +kernel
theorem dX5_depth_43 : decode cX5_depth 43 = .ok (.iadd, 1) := by decide +kernel
theorem dX5_depth_44 : decode cX5_depth 44 = .ok (.invokevirtual 83, 3) := by decide +kernel
theorem dX5_depth_47 : decode cX5_depth 47 = .ok (.iload_n 3, 1) := by decide +kernel
theorem dX5_depth_48 : decode cX5_depth 48 = .ok (.if_icmp .ne 7, 3) := by decide +kernel
theorem dX5_depth_51 : decode cX5_depth 51 = .ok (.iconst 1, 1) := by decide +kernel
theorem dX5_depth_52 : decode cX5_depth 52 = .ok (.goto 4, 3) := by decide +kernel
theorem dX5_depth_55 : decode cX5_depth 55 = .ok (.iconst 0, 1) := by decide +kernel
theorem dX5_depth_56 : decode cX5_depth 56 = .ok (.iadd, 1) := by decide +kernel
theorem dX5_depth_57 : decode cX5_depth 57 = .ok (.istore_n 2, 1) := by decide +kernel
theorem dX5_depth_58 : decode cX5_depth 58 = .ok (.iinc 3 1, 3) := by decide +kernel
theorem dX5_depth_61 : decode cX5_depth 61 = .ok (.goto (-57), 3) := by decide +kernel
theorem dX5_depth_64 : decode cX5_depth 64 = .ok (.iload_n 2, 1) := by decide +kernel
theorem dX5_depth_65 : decode cX5_depth 65 = .ok (.ireturn, 1) := by decide +kernel
theorem dX5_count_0 : decode cX5_count 0 = .ok (.aload_n 0, 1) := by decide +kernel
theorem dX5_count_1 : decode cX5_count 1 = .ok (.iconst 0, 1) := by decide +kernel
theorem dX5_count_2 : decode cX5_count 2 = .ok (.putfield 48, 3) := by decide +kernel
theorem dX5_count_5 : decode cX5_count 5 = .ok (.iconst 0, 1) := by decide +kernel
theorem dX5_count_6 : decode cX5_count 6 = .ok (.istore_n 2, 1) := by decide +kernel
theorem dX5_count_7 : decode cX5_count 7 = .ok (.iconst 0, 1) := by decide +kernel
theorem dX5_count_8 : decode cX5_count 8 = .ok (.istore_n 3, 1) := by decide +kernel
theorem dX5_count_9 : decode cX5_count 9 = .ok (.iconst 0, 1) := by decide +kernel
theorem dX5_count_10 : decode cX5_count 10 = .ok (.istore 4, 2) := by decide +kernel
theorem dX5_count_12 : decode cX5_count 12 = .ok (.iconst 0, 1) := by decide +kernel
theorem dX5_count_13 : decode cX5_count 13 = .ok (.istore 5, 2) := by decide +kernel
theorem dX5_count_15 : decode cX5_count 15 = .ok (.iconst 0, 1) := by decide +kernel
theorem dX5_count_16 : decode cX5_count 16 = .ok (.istore 6, 2) := by decide +kernel
theorem dX5_count_18 : decode cX5_count 18 = .ok (.iload 6, 2) := by decide +kernel
theorem dX5_count_20 : decode cX5_count 20 = .ok (.aload_n 0, 1) := by decide +kernel
theorem dX5_count_21 : decode cX5_count 21 = .ok (.getfield 44, 3) := by decide +kernel
theorem dX5_count_24 : decode cX5_count 24 = .ok (.if_icmp .ge 96, 3) := by decide +kernel
theorem dX5_count_27 : decode cX5_count 27 = .ok (.aload_n 0, 1) := by decide +kernel
theorem dX5_count_28 : decode cX5_count 28 = .ok (.iload 6, 2) := by decide +kernel
theorem dX5_count_30 : decode cX5_count 30 = .ok (.invokevirtual 51, 3) := by decide +kernel
theorem dX5_count_33 : decode cX5_count 33 = .ok (.ifCond .eq 51, 3) := by decide +kernel
theorem dX5_count_36 : decode cX5_count 36 = .ok (.iload_n 1, 1) := by decide +kernel
theorem dX5_count_37 : decode cX5_count 37 = .ok (.iconst 4, 1) := by decide +kernel
theorem dX5_count_38 : decode cX5_count 38 = .ok (.if_icmp .ne 12, 3) := by decide +kernel
theorem dX5_count_41 : decode cX5_count 41 = .ok (.aload_n 0, 1) := by decide +kernel
theorem dX5_count_42 : decode cX5_count 42 = .ok (.iload 6, 2) := by decide +kernel
theorem dX5_count_44 : decode cX5_count 44 = .ok (.invokevirtual 86, 3) := by decide +kernel
theorem dX5_count_47 : decode cX5_count 47 = .ok (.goto 4, 3) := by decide +kernel
theorem dX5_count_50 : decode cX5_count 50 = .ok (.iconst 0, 1) := by decide +kernel
theorem dX5_count_51 : decode cX5_count 51 = .ok (.istore 7, 2) := by decide +kernel
theorem dX5_count_53 : decode cX5_count 53 = .ok (.iload 7, 2) := by decide +kernel
theorem dX5_count_55 : decode cX5_count 55 = .ok (.iload 5, 2) := by decide +kernel
theorem dX5_count_57 : decode cX5_count 57 = .ok (.if_icmp .le 8, 3) := by decide +kernel
theorem dX5_count_60 : decode cX5_count 60 = .ok (.iload 7, 2) := by decide +kernel
theorem dX5_count_62 : decode cX5_count 62 = .ok (.goto 5, 3) := by decide +kernel
theorem dX5_count_65 : decode cX5_count 65 = .ok (.iload 5, 2) := by decide +kernel
theorem dX5_count_67 : decode cX5_count 67 = .ok (.istore 5, 2) := by decide +kernel
theorem dX5_count_69 : decode cX5_count 69 = .ok (.iinc 2 1, 3) := by decide +kernel
theorem dX5_count_72 : decode cX5_count 72 = .ok (.iload_n 3, 1) := by decide +kernel
theorem dX5_count_73 : decode cX5_count 73 = .ok (.iconst 4, 1) := by decide +kernel
theorem dX5_count_74 : decode cX5_count 74 = .ok (.aload_n 0, 1) := by decide +kernel
theorem dX5_count_75 : decode cX5_count 75 = .ok (.getfield 7, 3) := by decide +kernel
theorem dX5_count_78 : decode cX5_count 78 = .ok (.iload 6, 2) := by decide +kernel
theorem dX5_count_80 : decode cX5_count 80 = .ok (.iaload, 1) := by decide +kernel
theorem dX5_count_81 : decode cX5_count 81 = .ok (.imul, 1) := by decide +kernel
theorem dX5_count_82 : decode cX5_count 82 = .ok (.iadd, 1) := by decide +kernel
theorem dX5_count_83 : decode cX5_count 83 = .ok (.istore_n 3, 1) := by decide +kernel
theorem dX5_count_84 : decode cX5_count 84 = .ok (.iload 4, 2) := by decide +kernel
theorem dX5_count_86 : decode cX5_count 86 = .ok (.aload_n 0, 1) := by decide +kernel
theorem dX5_count_87 : decode cX5_count 87 = .ok (.getfield 7, 3) := by decide +kernel
theorem dX5_count_90 : decode cX5_count 90 = .ok (.iload 6, 2) := by decide +kernel
theorem dX5_count_92 : decode cX5_count 92 = .ok (.iaload, 1) := by decide +kernel
theorem dX5_count_93 : decode cX5_count 93 = .ok (.ifCond .le 17, 3) := by decide +kernel
theorem dX5_count_96 : decode cX5_count 96 = .ok (.aload_n 0, 1) := by decide +kernel
theorem dX5_count_97 : decode cX5_count 97 = .ok (.getfield 13, 3) := by decide +kernel
theorem dX5_count_100 : decode cX5_count 100 = .ok (.iload 6, 2) := by decide +kernel
theorem dX5_count_102 : decode cX5_count 102 = .ok (.baload, 1) := by decide +kernel
theorem dX5_count_103 : decode cX5_count 103 = .ok (.ifCond .eq 7, 3) := by decide +kernel
theorem dX5_count_106 : decode cX5_count 106 = .ok (.iconst 1, 1) := by decide +kernel
theorem dX5_count_107 : decode cX5_count 107 = .ok (.goto 4, 3) := by decide +kernel
theorem dX5_count_110 : decode cX5_count 110 = .ok (.iconst 0, 1) := by decide +kernel
theorem dX5_count_111 : decode cX5_count 111 = .ok (.iadd, 1) := by decide +kernel
theorem dX5_count_112 : decode cX5_count 112 = .ok (.istore 4, 2) := by decide +kernel
theorem dX5_count_114 : decode cX5_count 114 = .ok (.iinc 6 1, 3) := by decide +kernel
theorem dX5_count_117 : decode cX5_count 117 = .ok (.goto (-99), 3) := by decide +kernel
theorem dX5_count_120 : decode cX5_count 120 = .ok (.iload_n 1, 1) := by decide +kernel
theorem dX5_count_121 : decode cX5_count 121 = .ok (.tableswitch 61 0 4 #[35, 37, 39, 42, 58], 35) := by decide +kernel
theorem dX5_count_156 : decode cX5_count 156 = .ok (.iload_n 2, 1) := by decide +kernel
theorem dX5_count_157 : decode cX5_count 157 = .ok (.ireturn, 1) := by decide +kernel
theorem dX5_count_158 : decode cX5_count 158 = .ok (.iload_n 3, 1) := by decide +kernel
theorem dX5_count_159 : decode cX5_count 159 = .ok (.ireturn, 1) := by decide +kernel
theorem dX5_count_160 : decode cX5_count 160 = .ok (.iload 4, 2) := by decide +kernel
theorem dX5_count_162 : decode cX5_count 162 = .ok (.ireturn, 1) := by decide +kernel
theorem dX5_count_163 : decode cX5_count 163 = .ok (.aload_n 0, 1) := by decide +kernel
theorem dX5_count_164 : decode cX5_count 164 = .ok (.getfield 70, 3) := by decide +kernel
theorem dX5_count_167 : decode cX5_count 167 = .ok (.ifCond .eq 10, 3) := by decide +kernel
theorem dX5_count_170 : decode cX5_count 170 = .ok (.aload_n 0, 1) := by decide +kernel
theorem dX5_count_171 : decode cX5_count 171 = .ok (.getfield 89, 3) := by decide +kernel
theorem dX5_count_174 : decode cX5_count 174 = .ok (.goto 4, 3) := by decide +kernel
theorem dX5_count_177 : decode cX5_count 177 = .ok (.iconst 0, 1) := by decide +kernel
theorem dX5_count_178 : decode cX5_count 178 = .ok (.ireturn, 1) := by decide +kernel
theorem dX5_count_179 : decode cX5_count 179 = .ok (.iload 5, 2) := by decide +kernel
theorem dX5_count_181 : decode cX5_count 181 = .ok (.ireturn, 1) := by decide +kernel
theorem dX5_count_182 : decode cX5_count 182 = .ok (.iconst (-1), 1) := by decide +kernel
theorem dX5_count_183 : decode cX5_count 183 = .ok (.ireturn, 1) := by decide +kernel
theorem dX5_freeAt_0 : decode cX5_freeAt 0 = .ok (.aload_n 0, 1) := by decide +kernel
theorem dX5_freeAt_1 : decode cX5_freeAt 1 = .ok (.iconst 0, 1) := by decide +kernel
theorem dX5_freeAt_2 : decode cX5_freeAt 2 = .ok (.putfield 48, 3) := by decide +kernel
theorem dX5_freeAt_5 : decode cX5_freeAt 5 = .ok (.iload_n 1, 1) := by decide +kernel
theorem dX5_freeAt_6 : decode cX5_freeAt 6 = .ok (.istore_n 2, 1) := by decide +kernel
theorem dX5_freeAt_7 : decode cX5_freeAt 7 = .ok (.iconst 0, 1) := by decide +kernel
theorem dX5_freeAt_8 : decode cX5_freeAt 8 = .ok (.istore_n 3, 1) := by decide +kernel
theorem dX5_freeAt_9 : decode cX5_freeAt 9 = .ok (.iload_n 3, 1) := by decide +kernel
theorem dX5_freeAt_10 : decode cX5_freeAt 10 = .ok (.aload_n 0, 1) := by decide +kernel
theorem dX5_freeAt_11 : decode cX5_freeAt 11 = .ok (.getfield 44, 3) := by decide +kernel
theorem dX5_freeAt_14 : decode cX5_freeAt 14 = .ok (.if_icmp .ge 29, 3) := by decide +kernel
theorem dX5_freeAt_17 : decode cX5_freeAt 17 = .ok (.aload_n 0, 1) := by decide +kernel
theorem dX5_freeAt_18 : decode cX5_freeAt 18 = .ok (.iload_n 3, 1) := by decide +kernel
theorem dX5_freeAt_19 : decode cX5_freeAt 19 = .ok (.invokevirtual 51, 3) := by decide +kernel
theorem dX5_freeAt_22 : decode cX5_freeAt 22 = .ok (.ifCond .eq 15, 3) := by decide +kernel
theorem dX5_freeAt_25 : decode cX5_freeAt 25 = .ok (.iload_n 2, 1) := by decide +kernel
theorem dX5_freeAt_26 : decode cX5_freeAt 26 = .ok (.ifCond .ne 8, 3) := by decide +kernel
theorem dX5_freeAt_29 : decode cX5_freeAt 29 = .ok (.iload_n 3, 1) := by decide +kernel
theorem dX5_freeAt_30 : decode cX5_freeAt 30 = .ok (.invokestatic 55, 3) := by decide +kernel
theorem dX5_freeAt_33 : decode cX5_freeAt 33 = .ok (.ireturn, 1) := by decide +kernel
theorem dX5_freeAt_34 : decode cX5_freeAt 34 = .ok (.iinc 2 (-1), 3) := by decide +kernel
theorem dX5_freeAt_37 : decode cX5_freeAt 37 = .ok (.iinc 3 1, 3) := by decide +kernel
theorem dX5_freeAt_40 : decode cX5_freeAt 40 = .ok (.goto (-31), 3) := by decide +kernel
theorem dX5_freeAt_43 : decode cX5_freeAt 43 = .ok (.iconst (-1), 1) := by decide +kernel
theorem dX5_freeAt_44 : decode cX5_freeAt 44 = .ok (.ireturn, 1) := by decide +kernel
theorem dX5_branch_0 : decode cX5_branch 0 = .ok (.iload_n 1, 1) := by decide +kernel
theorem dX5_branch_1 : decode cX5_branch 1 = .ok (.iconst 4, 1) := by decide +kernel
theorem dX5_branch_2 : decode cX5_branch 2 = .ok (.if_icmp .lt 35, 3) := by decide +kernel
theorem dX5_branch_5 : decode cX5_branch 5 = .ok (.iload_n 1, 1) := by decide +kernel
theorem dX5_branch_6 : decode cX5_branch 6 = .ok (.iconst 4, 1) := by decide +kernel
theorem dX5_branch_7 : decode cX5_branch 7 = .ok (.irem, 1) := by decide +kernel
theorem dX5_branch_8 : decode cX5_branch 8 = .ok (.ifCond .ne 29, 3) := by decide +kernel
theorem dX5_branch_11 : decode cX5_branch 11 = .ok (.iload_n 1, 1) := by decide +kernel
theorem dX5_branch_12 : decode cX5_branch 12 = .ok (.iconst 4, 1) := by decide +kernel
theorem dX5_branch_13 : decode cX5_branch 13 = .ok (.idiv, 1) := by decide +kernel
theorem dX5_branch_14 : decode cX5_branch 14 = .ok (.aload_n 0, 1) := by decide +kernel
theorem dX5_branch_15 : decode cX5_branch 15 = .ok (.getfield 44, 3) := by decide +kernel
theorem dX5_branch_18 : decode cX5_branch 18 = .ok (.if_icmp .gt 19, 3) := by decide +kernel
theorem dX5_branch_21 : decode cX5_branch 21 = .ok (.aload_n 0, 1) := by decide +kernel
theorem dX5_branch_22 : decode cX5_branch 22 = .ok (.iload_n 1, 1) := by decide +kernel
theorem dX5_branch_23 : decode cX5_branch 23 = .ok (.iconst 4, 1) := by decide +kernel
theorem dX5_branch_24 : decode cX5_branch 24 = .ok (.idiv, 1) := by decide +kernel
theorem dX5_branch_25 : decode cX5_branch 25 = .ok (.iconst 1, 1) := by decide +kernel
theorem dX5_branch_26 : decode cX5_branch 26 = .ok (.isub, 1) := by decide +kernel
theorem dX5_branch_27 : decode cX5_branch 27 = .ok (.invokevirtual 51, 3) := by decide +kernel
theorem dX5_branch_30 : decode cX5_branch 30 = .ok (.ifCond .eq 7, 3) := by decide +kernel
theorem dX5_branch_33 : decode cX5_branch 33 = .ok (.iconst 1, 1) := by decide +kernel
theorem dX5_branch_34 : decode cX5_branch 34 = .ok (.goto 4, 3) := by decide +kernel
theorem dX5_branch_37 : decode cX5_branch 37 = .ok (.iconst 0, 1) := by decide +kernel
theorem dX5_branch_38 : decode cX5_branch 38 = .ok (.istore_n 3, 1) := by decide +kernel
theorem dX5_branch_39 : decode cX5_branch 39 = .ok (.aload_n 0, 1) := by decide +kernel
theorem dX5_branch_40 : decode cX5_branch 40 = .ok (.iload_n 3, 1) := by decide +kernel
theorem dX5_branch_41 : decode cX5_branch 41 = .ok (.ifCond .ne 7, 3) := by decide +kernel
theorem dX5_branch_44 : decode cX5_branch 44 = .ok (.iconst 1, 1) := by decide +kernel
theorem dX5_branch_45 : decode cX5_branch 45 = .ok (.goto 17, 3) := by decide +kernel
theorem dX5_branch_48 : decode cX5_branch 48 = .ok (.iload_n 2, 1) := by decide +kernel
theorem dX5_branch_49 : decode cX5_branch 49 = .ok (.ifCond .lt 8, 3) := by decide +kernel
theorem dX5_branch_52 : decode cX5_branch 52 = .ok (.iload_n 2, 1) := by decide +kernel
theorem dX5_branch_53 : decode cX5_branch 53 = .ok (.iconst 2, 1) := by decide +kernel
theorem dX5_branch_54 : decode cX5_branch 54 = .ok (.if_icmp .le 7, 3) := by decide +kernel
theorem dX5_branch_57 : decode cX5_branch 57 = .ok (.iconst 2, 1) := by decide +kernel
theorem dX5_branch_58 : decode cX5_branch 58 = .ok (.goto 4, 3) := by decide +kernel
theorem dX5_branch_61 : decode cX5_branch 61 = .ok (.iconst 0, 1) := by decide +kernel
theorem dX5_branch_62 : decode cX5_branch 62 = .ok (.putfield 48, 3) := by decide +kernel
theorem dX5_branch_65 : decode cX5_branch 65 = .ok (.aload_n 0, 1) := by decide +kernel
theorem dX5_branch_66 : decode cX5_branch 66 = .ok (.getfield 48, 3) := by decide +kernel
theorem dX5_branch_69 : decode cX5_branch 69 = .ok (.ifCond .eq 5, 3) := by decide +kernel
theorem dX5_branch_72 : decode cX5_branch 72 = .ok (.iconst 0, 1) := by decide +kernel
theorem dX5_branch_73 : decode cX5_branch 73 = .ok (.ireturn, 1) := by decide +kernel
theorem dX5_branch_74 : decode cX5_branch 74 = .ok (.iload_n 1, 1) := by decide +kernel
theorem dX5_branch_75 : decode cX5_branch 75 = .ok (.iconst 4, 1) := by decide +kernel
theorem dX5_branch_76 : decode cX5_branch 76 = .ok (.idiv, 1) := by decide +kernel
theorem dX5_branch_77 : decode cX5_branch 77 = .ok (.iconst 1, 1) := by decide +kernel
theorem dX5_branch_78 : decode cX5_branch 78 = .ok (.isub, 1) := by decide +kernel
theorem dX5_branch_79 : decode cX5_branch 79 = .ok (.istore 4, 2) := by decide +kernel
theorem dX5_branch_81 : decode cX5_branch 81 = .ok (.iconst 0, 1) := by decide +kernel
theorem dX5_branch_82 : decode cX5_branch 82 = .ok (.istore 5, 2) := by decide +kernel
theorem dX5_branch_84 : decode cX5_branch 84 = .ok (.aload_n 0, 1) := by decide +kernel
theorem dX5_branch_85 : decode cX5_branch 85 = .ok (.getfield 44, 3) := by decide +kernel
theorem dX5_branch_88 : decode cX5_branch 88 = .ok (.istore 6, 2) := by decide +kernel
theorem dX5_branch_90 : decode cX5_branch 90 = .ok (.aload_n 0, 1) := by decide +kernel
theorem dX5_branch_91 : decode cX5_branch 91 = .ok (.iload 5, 2) := by decide +kernel
theorem dX5_branch_93 : decode cX5_branch 93 = .ok (.iload 6, 2) := by decide +kernel
theorem dX5_branch_95 : decode cX5_branch 95 = .ok (.invokevirtual 83, 3) := by decide +kernel
theorem dX5_branch_98 : decode cX5_branch 98 = .ok (.istore 7, 2) := by decide +kernel
theorem dX5_branch_100 : decode cX5_branch 100 = .ok (.iload 7, 2) := by decide +kernel
theorem dX5_branch_102 : decode cX5_branch 102 = .ok (.iload 4, 2) := by decide +kernel
theorem dX5_branch_104 : decode cX5_branch 104 = .ok (.if_icmp .eq 50, 3) := by decide +kernel
theorem dX5_branch_107 : decode cX5_branch 107 = .ok (.iload 7, 2) := by decide +kernel
theorem dX5_branch_109 : decode cX5_branch 109 = .ok (.iload 4, 2) := by decide +kernel
theorem dX5_branch_111 : decode cX5_branch 111 = .ok (.if_icmp .ge 10, 3) := by decide +kernel
theorem dX5_branch_114 : decode cX5_branch 114 = .ok (.iload 7, 2) := by decide +kernel
theorem dX5_branch_116 : decode cX5_branch 116 = .ok (.iconst 1, 1) := by decide +kernel
theorem dX5_branch_117 : decode cX5_branch 117 = .ok (.iadd, 1) := by decide +kernel
theorem dX5_branch_118 : decode cX5_branch 118 = .ok (.goto 5, 3) := by decide +kernel
theorem dX5_branch_121 : decode cX5_branch 121 = .ok (.iload 5, 2) := by decide +kernel
theorem dX5_branch_123 : decode cX5_branch 123 = .ok (.istore 5, 2) := by decide +kernel
theorem dX5_branch_125 : decode cX5_branch 125 = .ok (.iload 7, 2) := by decide +kernel
theorem dX5_branch_127 : decode cX5_branch 127 = .ok (.iload 4, 2) := by decide +kernel
theorem dX5_branch_129 : decode cX5_branch 129 = .ok (.if_icmp .ge 8, 3) := by decide +kernel
theorem dX5_branch_132 : decode cX5_branch 132 = .ok (.iload 6, 2) := by decide +kernel
theorem dX5_branch_134 : decode cX5_branch 134 = .ok (.goto 5, 3) := by decide +kernel
theorem dX5_branch_137 : decode cX5_branch 137 = .ok (.iload 7, 2) := by decide +kernel
theorem dX5_branch_139 : decode cX5_branch 139 = .ok (.istore 6, 2) := by decide +kernel
theorem dX5_branch_141 : decode cX5_branch 141 = .ok (.aload_n 0, 1) := by decide +kernel
theorem dX5_branch_142 : decode cX5_branch 142 = .ok (.iload 5, 2) := by decide +kernel
theorem dX5_branch_144 : decode cX5_branch 144 = .ok (.iload 6, 2) := by decide +kernel
theorem dX5_branch_146 : decode cX5_branch 146 = .ok (.invokevirtual 83, 3) := by decide +kernel
theorem dX5_branch_149 : decode cX5_branch 149 = .ok (.istore 7, 2) := by decide +kernel
theorem dX5_branch_151 : decode cX5_branch 151 = .ok (.goto (-51), 3) := by decide +kernel
theorem dX5_branch_154 : decode cX5_branch 154 = .ok (.iload_n 2, 1) := by decide +kernel
theorem dX5_branch_155 : decode cX5_branch 155 = .ok (.iconst 2, 1) := by decide +kernel
theorem dX5_branch_156 : decode cX5_branch 156 = .ok (.if_icmp .ne 13, 3) := by decide +kernel
theorem dX5_branch_159 : decode cX5_branch 159 = .ok (.iconst 4, 1) := by decide +kernel
theorem dX5_branch_160 : decode cX5_branch 160 = .ok (.aload_n 0, 1) := by decide +kernel
theorem dX5_branch_161 : decode cX5_branch 161 = .ok (.getfield 7, 3) := by decide +kernel
theorem dX5_branch_164 : decode cX5_branch 164 = .ok (.iload 4, 2) := by decide +kernel
theorem dX5_branch_166 : decode cX5_branch 166 = .ok (.iaload, 1) := by decide +kernel
theorem dX5_branch_167 : decode cX5_branch 167 = .ok (.imul, 1) := by decide +kernel
theorem dX5_branch_168 : decode cX5_branch 168 = .ok (.ireturn, 1) := by decide +kernel
theorem dX5_branch_169 : decode cX5_branch 169 = .ok (.iload_n 2, 1) := by decide +kernel
theorem dX5_branch_170 : decode cX5_branch 170 = .ok (.ifCond .ne 14, 3) := by decide +kernel
theorem dX5_branch_173 : decode cX5_branch 173 = .ok (.aload_n 0, 1) := by decide +kernel
theorem dX5_branch_174 : decode cX5_branch 174 = .ok (.iload 5, 2) := by decide +kernel
theorem dX5_branch_176 : decode cX5_branch 176 = .ok (.iload 4, 2) := by decide +kernel
theorem dX5_branch_178 : decode cX5_branch 178 = .ok (.invokevirtual 83, 3) := by decide +kernel
theorem dX5_branch_181 : decode cX5_branch 181 = .ok (.goto 13, 3) := by decide +kernel
theorem dX5_branch_184 : decode cX5_branch 184 = .ok (.aload_n 0, 1) := by decide +kernel
theorem dX5_branch_185 : decode cX5_branch 185 = .ok (.iload 4, 2) := by decide +kernel
theorem dX5_branch_187 : decode cX5_branch 187 = .ok (.iconst 1, 1) := by decide +kernel
theorem dX5_branch_188 : decode cX5_branch 188 = .ok (.iadd, 1) := by decide +kernel
theorem dX5_branch_189 : decode cX5_branch 189 = .ok (.iload 6, 2) := by decide +kernel
theorem dX5_branch_191 : decode cX5_branch 191 = .ok (.invokevirtual 83, 3) := by decide +kernel
theorem dX5_branch_194 : decode cX5_branch 194 = .ok (.istore 8, 2) := by decide +kernel
theorem dX5_branch_196 : decode cX5_branch 196 = .ok (.iload 8, 2) := by decide +kernel
theorem dX5_branch_198 : decode cX5_branch 198 = .ok (.iconst (-1), 1) := by decide +kernel
theorem dX5_branch_199 : decode cX5_branch 199 = .ok (.if_icmp .ne 7, 3) := by decide +kernel
theorem dX5_branch_202 : decode cX5_branch 202 = .ok (.iconst 0, 1) := by decide +kernel
theorem dX5_branch_203 : decode cX5_branch 203 = .ok (.goto 8, 3) := by decide +kernel
theorem dX5_branch_206 : decode cX5_branch 206 = .ok (.iload 8, 2) := by decide +kernel
theorem dX5_branch_208 : decode cX5_branch 208 = .ok (.invokestatic 55, 3) := by decide +kernel
theorem dX5_branch_211 : decode cX5_branch 211 = .ok (.ireturn, 1) := by decide +kernel
theorem dX5_windowEnd_0 : decode cX5_windowEnd 0 = .ok (.iload_n 1, 1) := by decide +kernel
theorem dX5_windowEnd_1 : decode cX5_windowEnd 1 = .ok (.istore_n 3, 1) := by decide +kernel
theorem dX5_windowEnd_2 : decode cX5_windowEnd 2 = .ok (.iload_n 3, 1) := by decide +kernel
theorem dX5_windowEnd_3 : decode cX5_windowEnd 3 = .ok (.aload_n 0, 1) := by decide +kernel
theorem dX5_windowEnd_4 : decode cX5_windowEnd 4 = .ok (.getfield 44, 3) := by decide +kernel
theorem dX5_windowEnd_7 : decode cX5_windowEnd 7 = .ok (.if_icmp .ge 49, 3) := by decide +kernel
theorem dX5_windowEnd_10 : decode cX5_windowEnd 10 = .ok (.ldc2_w 92, 3) := by decide +kernel
theorem dX5_windowEnd_13 : decode cX5_windowEnd 13 = .ok (.iload_n 3, 1) := by decide +kernel
theorem dX5_windowEnd_14 : decode cX5_windowEnd 14 = .ok (.iload_n 1, 1) := by decide +kernel
theorem dX5_windowEnd_15 : decode cX5_windowEnd 15 = .ok (.isub, 1) := by decide +kernel
theorem dX5_windowEnd_16 : decode cX5_windowEnd 16 = .ok (.i2l, 1) := by decide +kernel
theorem dX5_windowEnd_17 : decode cX5_windowEnd 17 = .ok (.lmul, 1) := by decide +kernel
theorem dX5_windowEnd_18 : decode cX5_windowEnd 18 = .ok (.iload_n 2, 1) := by decide +kernel
theorem dX5_windowEnd_19 : decode cX5_windowEnd 19 = .ok (.i2l, 1) := by decide +kernel
theorem dX5_windowEnd_20 : decode cX5_windowEnd 20 = .ok (.lcmp, 1) := by decide +kernel
theorem dX5_windowEnd_21 : decode cX5_windowEnd 21 = .ok (.ifCond .ge 35, 3) := by decide +kernel
theorem dX5_windowEnd_24 : decode cX5_windowEnd 24 = .ok (.aload_n 0, 1) := by decide +kernel
theorem dX5_windowEnd_25 : decode cX5_windowEnd 25 = .ok (.getfield 13, 3) := by decide +kernel
theorem dX5_windowEnd_28 : decode cX5_windowEnd 28 = .ok (.iload_n 3, 1) := by decide +kernel
theorem dX5_windowEnd_29 : decode cX5_windowEnd 29 = .ok (.baload, 1) := by decide +kernel
theorem dX5_windowEnd_30 : decode cX5_windowEnd 30 = .ok (.ifCond .eq 14, 3) := by decide +kernel
theorem dX5_windowEnd_33 : decode cX5_windowEnd 33 = .ok (.aload_n 0, 1) := by decide +kernel
theorem dX5_windowEnd_34 : decode cX5_windowEnd 34 = .ok (.getfield 17, 3) := by decide +kernel
theorem dX5_windowEnd_37 : decode cX5_windowEnd 37 = .ok (.iload_n 3, 1) := by decide +kernel
theorem dX5_windowEnd_38 : decode cX5_windowEnd 38 = .ok (.baload, 1) := by decide +kernel
theorem dX5_windowEnd_39 : decode cX5_windowEnd 39 = .ok (.ifCond .eq 5, 3) := by decide +kernel
theorem dX5_windowEnd_42 : decode cX5_windowEnd 42 = .ok (.iconst (-1), 1) := by decide +kernel
theorem dX5_windowEnd_43 : decode cX5_windowEnd 43 = .ok (.ireturn, 1) := by decide +kernel
theorem dX5_windowEnd_44 : decode cX5_windowEnd 44 = .ok (.iload_n 3, 1) := by decide +kernel
theorem dX5_windowEnd_45 : decode cX5_windowEnd 45 = .ok (.aload_n 0, 1) := by decide +kernel
theorem dX5_windowEnd_46 : decode cX5_windowEnd 46 = .ok (.getfield 7, 3) := by decide +kernel
theorem dX5_windowEnd_49 : decode cX5_windowEnd 49 = .ok (.iload_n 3, 1) := by decide +kernel
theorem dX5_windowEnd_50 : decode cX5_windowEnd 50 = .ok (.iaload, 1) := by decide +kernel
theorem dX5_windowEnd_51 : decode cX5_windowEnd 51 = .ok (.iadd, 1) := by decide +kernel
theorem dX5_windowEnd_52 : decode cX5_windowEnd 52 = .ok (.istore_n 3, 1) := by decide +kernel
theorem dX5_windowEnd_53 : decode cX5_windowEnd 53 = .ok (.goto (-51), 3) := by decide +kernel
theorem dX5_windowEnd_56 : decode cX5_windowEnd 56 = .ok (.ldc2_w 92, 3) := by decide +kernel
theorem dX5_windowEnd_59 : decode cX5_windowEnd 59 = .ok (.iload_n 3, 1) := by decide +kernel
theorem dX5_windowEnd_60 : decode cX5_windowEnd 60 = .ok (.iload_n 1, 1) := by decide +kernel
theorem dX5_windowEnd_61 : decode cX5_windowEnd 61 = .ok (.isub, 1) := by decide +kernel
theorem dX5_windowEnd_62 : decode cX5_windowEnd 62 = .ok (.i2l, 1) := by decide +kernel
theorem dX5_windowEnd_63 : decode cX5_windowEnd 63 = .ok (.lmul, 1) := by decide +kernel
theorem dX5_windowEnd_64 : decode cX5_windowEnd 64 = .ok (.iload_n 2, 1) := by decide +kernel
theorem dX5_windowEnd_65 : decode cX5_windowEnd 65 = .ok (.i2l, 1) := by decide +kernel
theorem dX5_windowEnd_66 : decode cX5_windowEnd 66 = .ok (.lcmp, 1) := by decide +kernel
theorem dX5_windowEnd_67 : decode cX5_windowEnd 67 = .ok (.ifCond .lt 7, 3) := by decide +kernel
theorem dX5_windowEnd_70 : decode cX5_windowEnd 70 = .ok (.iload_n 3, 1) := by decide +kernel
theorem dX5_windowEnd_71 : decode cX5_windowEnd 71 = .ok (.goto 4, 3) := by decide +kernel
theorem dX5_windowEnd_74 : decode cX5_windowEnd 74 = .ok (.iconst (-1), 1) := by decide +kernel
theorem dX5_windowEnd_75 : decode cX5_windowEnd 75 = .ok (.ireturn, 1) := by decide +kernel
theorem dX5_gathers_0 : decode cX5_gathers 0 = .ok (.aload_n 0, 1) := by decide +kernel
theorem dX5_gathers_1 : decode cX5_gathers 1 = .ok (.iconst 0, 1) := by decide +kernel
theorem dX5_gathers_2 : decode cX5_gathers 2 = .ok (.putfield 94, 3) := by decide +kernel
theorem dX5_gathers_5 : decode cX5_gathers 5 = .ok (.iload_n 1, 1) := by decide +kernel
theorem dX5_gathers_6 : decode cX5_gathers 6 = .ok (.istore_n 3, 1) := by decide +kernel
theorem dX5_gathers_7 : decode cX5_gathers 7 = .ok (.iload_n 3, 1) := by decide +kernel
theorem dX5_gathers_8 : decode cX5_gathers 8 = .ok (.iload_n 2, 1) := by decide +kernel
theorem dX5_gathers_9 : decode cX5_gathers 9 = .ok (.if_icmp .ge 98, 3) := by decide +kernel
theorem dX5_gathers_12 : decode cX5_gathers 12 = .ok (.aload_n 0, 1) := by decide +kernel
theorem dX5_gathers_13 : decode cX5_gathers 13 = .ok (.getfield 13, 3) := by decide +kernel
theorem dX5_gathers_16 : decode cX5_gathers 16 = .ok (.iload_n 3, 1) := by decide +kernel
theorem dX5_gathers_17 : decode cX5_gathers 17 = .ok (.baload, 1) := by decide +kernel
theorem dX5_gathers_18 : decode cX5_gathers 18 = .ok (.ifCond .eq 77, 3) := by decide +kernel
theorem dX5_gathers_21 : decode cX5_gathers 21 = .ok (.aload_n 0, 1) := by decide +kernel
theorem dX5_gathers_22 : decode cX5_gathers 22 = .ok (.getfield 94, 3) := by decide +kernel
theorem dX5_gathers_25 : decode cX5_gathers 25 = .ok (.istore 4, 2) := by decide +kernel
theorem dX5_gathers_27 : decode cX5_gathers 27 = .ok (.iload 4, 2) := by decide +kernel
theorem dX5_gathers_29 : decode cX5_gathers 29 = .ok (.ifCond .le 48, 3) := by decide +kernel
theorem dX5_gathers_32 : decode cX5_gathers 32 = .ok (.aload_n 0, 1) := by decide +kernel
theorem dX5_gathers_33 : decode cX5_gathers 33 = .ok (.getfield 7, 3) := by decide +kernel
theorem dX5_gathers_36 : decode cX5_gathers 36 = .ok (.aload_n 0, 1) := by decide +kernel
theorem dX5_gathers_37 : decode cX5_gathers 37 = .ok (.getfield 35, 3) := by decide +kernel
theorem dX5_gathers_40 : decode cX5_gathers 40 = .ok (.iload 4, 2) := by decide +kernel
theorem dX5_gathers_42 : decode cX5_gathers 42 = .ok (.iconst 1, 1) := by decide +kernel
theorem dX5_gathers_43 : decode cX5_gathers 43 = .ok (.isub, 1) := by decide +kernel
theorem dX5_gathers_44 : decode cX5_gathers 44 = .ok (.iaload, 1) := by decide +kernel
theorem dX5_gathers_45 : decode cX5_gathers 45 = .ok (.iaload, 1) := by decide +kernel
theorem dX5_gathers_46 : decode cX5_gathers 46 = .ok (.aload_n 0, 1) := by decide +kernel
theorem dX5_gathers_47 : decode cX5_gathers 47 = .ok (.getfield 7, 3) := by decide +kernel
theorem dX5_gathers_50 : decode cX5_gathers 50 = .ok (.iload_n 3, 1) := by decide +kernel
theorem dX5_gathers_51 : decode cX5_gathers 51 = .ok (.iaload, 1) := by decide +kernel
theorem dX5_gathers_52 : decode cX5_gathers 52 = .ok (.if_icmp .ge 25, 3) := by decide +kernel
theorem dX5_gathers_55 : decode cX5_gathers 55 = .ok (.aload_n 0, 1) := by decide +kernel
theorem dX5_gathers_56 : decode cX5_gathers 56 = .ok (.getfield 35, 3) := by decide +kernel
theorem dX5_gathers_59 : decode cX5_gathers 59 = .ok (.iload 4, 2) := by decide +kernel
theorem dX5_gathers_61 : decode cX5_gathers 61 = .ok (.aload_n 0, 1) := by decide +kernel
theorem dX5_gathers_62 : decode cX5_gathers 62 = .ok (.getfield 35, 3) := by decide +kernel
theorem dX5_gathers_65 : decode cX5_gathers 65 = .ok (.iload 4, 2) := by decide +kernel
theorem dX5_gathers_67 : decode cX5_gathers 67 = .ok (.iconst 1, 1) := by decide +kernel
theorem dX5_gathers_68 : decode cX5_gathers 68 = .ok (.isub, 1) := by decide +kernel
theorem dX5_gathers_69 : decode cX5_gathers 69 = .ok (.iaload, 1) := by decide +kernel
theorem dX5_gathers_70 : decode cX5_gathers 70 = .ok (.iastore, 1) := by decide +kernel
theorem dX5_gathers_71 : decode cX5_gathers 71 = .ok (.iinc 4 (-1), 3) := by decide +kernel
theorem dX5_gathers_74 : decode cX5_gathers 74 = .ok (.goto (-47), 3) := by decide +kernel
theorem dX5_gathers_77 : decode cX5_gathers 77 = .ok (.aload_n 0, 1) := by decide +kernel
theorem dX5_gathers_78 : decode cX5_gathers 78 = .ok (.getfield 35, 3) := by decide +kernel
theorem dX5_gathers_81 : decode cX5_gathers 81 = .ok (.iload 4, 2) := by decide +kernel
theorem dX5_gathers_83 : decode cX5_gathers 83 = .ok (.iload_n 3, 1) := by decide +kernel
theorem dX5_gathers_84 : decode cX5_gathers 84 = .ok (.iastore, 1) := by decide +kernel
theorem dX5_gathers_85 : decode cX5_gathers 85 = .ok (.aload_n 0, 1) := by decide +kernel
theorem dX5_gathers_86 : decode cX5_gathers 86 = .ok (.dup, 1) := by decide +kernel
theorem dX5_gathers_87 : decode cX5_gathers 87 = .ok (.getfield 94, 3) := by decide +kernel
theorem dX5_gathers_90 : decode cX5_gathers 90 = .ok (.iconst 1, 1) := by decide +kernel
theorem dX5_gathers_91 : decode cX5_gathers 91 = .ok (.iadd, 1) := by decide +kernel
theorem dX5_gathers_92 : decode cX5_gathers 92 = .ok (.putfield 94, 3) := by decide +kernel
theorem dX5_gathers_95 : decode cX5_gathers 95 = .ok (.iload_n 3, 1) := by decide +kernel
theorem dX5_gathers_96 : decode cX5_gathers 96 = .ok (.aload_n 0, 1) := by decide +kernel
theorem dX5_gathers_97 : decode cX5_gathers 97 = .ok (.getfield 7, 3) := by decide +kernel
theorem dX5_gathers_100 : decode cX5_gathers 100 = .ok (.iload_n 3, 1) := by decide +kernel
theorem dX5_gathers_101 : decode cX5_gathers 101 = .ok (.iaload, 1) := by decide +kernel
theorem dX5_gathers_102 : decode cX5_gathers 102 = .ok (.iadd, 1) := by decide +kernel
theorem dX5_gathers_103 : decode cX5_gathers 103 = .ok (.istore_n 3, 1) := by decide +kernel
theorem dX5_gathers_104 : decode cX5_gathers 104 = .ok (.goto (-97), 3) := by decide +kernel
theorem dX5_gathers_107 : decode cX5_gathers 107 = .ok (.return_, 1) := by decide +kernel
theorem dX5_places_0 : decode cX5_places 0 = .ok (.iconst 0, 1) := by decide +kernel
theorem dX5_places_1 : decode cX5_places 1 = .ok (.istore_n 3, 1) := by decide +kernel
theorem dX5_places_2 : decode cX5_places 2 = .ok (.iload_n 3, 1) := by decide +kernel
theorem dX5_places_3 : decode cX5_places 3 = .ok (.aload_n 0, 1) := by decide +kernel
theorem dX5_places_4 : decode cX5_places 4 = .ok (.getfield 44, 3) := by decide +kernel
theorem dX5_places_7 : decode cX5_places 7 = .ok (.if_icmp .ge 43, 3) := by decide +kernel
theorem dX5_places_10 : decode cX5_places 10 = .ok (.aload_n 0, 1) := by decide +kernel
theorem dX5_places_11 : decode cX5_places 11 = .ok (.getfield 41, 3) := by decide +kernel
theorem dX5_places_14 : decode cX5_places 14 = .ok (.iload_n 3, 1) := by decide +kernel
theorem dX5_places_15 : decode cX5_places 15 = .ok (.aload_n 0, 1) := by decide +kernel
theorem dX5_places_16 : decode cX5_places 16 = .ok (.iload_n 3, 1) := by decide +kernel
theorem dX5_places_17 : decode cX5_places 17 = .ok (.invokevirtual 51, 3) := by decide +kernel
theorem dX5_places_20 : decode cX5_places 20 = .ok (.ifCond .eq 22, 3) := by decide +kernel
theorem dX5_places_23 : decode cX5_places 23 = .ok (.iload_n 3, 1) := by decide +kernel
theorem dX5_places_24 : decode cX5_places 24 = .ok (.iload_n 1, 1) := by decide +kernel
theorem dX5_places_25 : decode cX5_places 25 = .ok (.if_icmp .lt 8, 3) := by decide +kernel
theorem dX5_places_28 : decode cX5_places 28 = .ok (.iload_n 3, 1) := by decide +kernel
theorem dX5_places_29 : decode cX5_places 29 = .ok (.iload_n 2, 1) := by decide +kernel
theorem dX5_places_30 : decode cX5_places 30 = .ok (.if_icmp .lt 12, 3) := by decide +kernel
theorem dX5_places_33 : decode cX5_places 33 = .ok (.aload_n 0, 1) := by decide +kernel
theorem dX5_places_34 : decode cX5_places 34 = .ok (.getfield 7, 3) := by decide +kernel
theorem dX5_places_37 : decode cX5_places 37 = .ok (.iload_n 3, 1) := by decide +kernel
theorem dX5_places_38 : decode cX5_places 38 = .ok (.iaload, 1) := by decide +kernel
theorem dX5_places_39 : decode cX5_places 39 = .ok (.goto 4, 3) := by decide +kernel
theorem dX5_places_42 : decode cX5_places 42 = .ok (.iconst 0, 1) := by decide +kernel
theorem dX5_places_43 : decode cX5_places 43 = .ok (.iastore, 1) := by decide +kernel
theorem dX5_places_44 : decode cX5_places 44 = .ok (.iinc 3 1, 3) := by decide +kernel
theorem dX5_places_47 : decode cX5_places 47 = .ok (.goto (-45), 3) := by decide +kernel
theorem dX5_places_50 : decode cX5_places 50 = .ok (.iconst 0, 1) := by decide +kernel
theorem dX5_places_51 : decode cX5_places 51 = .ok (.istore_n 3, 1) := by decide +kernel
theorem dX5_places_52 : decode cX5_places 52 = .ok (.iload_n 3, 1) := by decide +kernel
theorem dX5_places_53 : decode cX5_places 53 = .ok (.aload_n 0, 1) := by decide +kernel
theorem dX5_places_54 : decode cX5_places 54 = .ok (.getfield 94, 3) := by decide +kernel
theorem dX5_places_57 : decode cX5_places 57 = .ok (.if_icmp .ge 99, 3) := by decide +kernel
theorem dX5_places_60 : decode cX5_places 60 = .ok (.aload_n 0, 1) := by decide +kernel
theorem dX5_places_61 : decode cX5_places 61 = .ok (.getfield 7, 3) := by decide +kernel
theorem dX5_places_64 : decode cX5_places 64 = .ok (.aload_n 0, 1) := by decide +kernel
theorem dX5_places_65 : decode cX5_places 65 = .ok (.getfield 35, 3) := by decide +kernel
theorem dX5_places_68 : decode cX5_places 68 = .ok (.iload_n 3, 1) := by decide +kernel
theorem dX5_places_69 : decode cX5_places 69 = .ok (.iaload, 1) := by decide +kernel
theorem dX5_places_70 : decode cX5_places 70 = .ok (.iaload, 1) := by decide +kernel
theorem dX5_places_71 : decode cX5_places 71 = .ok (.istore 4, 2) := by decide +kernel
theorem dX5_places_73 : decode cX5_places 73 = .ok (.iconst 0, 1) := by decide +kernel
theorem dX5_places_74 : decode cX5_places 74 = .ok (.istore 5, 2) := by decide +kernel
theorem dX5_places_76 : decode cX5_places 76 = .ok (.iload 5, 2) := by decide +kernel
theorem dX5_places_78 : decode cX5_places 78 = .ok (.aload_n 0, 1) := by decide +kernel
theorem dX5_places_79 : decode cX5_places 79 = .ok (.getfield 44, 3) := by decide +kernel
theorem dX5_places_82 : decode cX5_places 82 = .ok (.if_icmp .ge 21, 3) := by decide +kernel
theorem dX5_places_85 : decode cX5_places 85 = .ok (.aload_n 0, 1) := by decide +kernel
theorem dX5_places_86 : decode cX5_places 86 = .ok (.getfield 41, 3) := by decide +kernel
theorem dX5_places_89 : decode cX5_places 89 = .ok (.iload 5, 2) := by decide +kernel
theorem dX5_places_91 : decode cX5_places 91 = .ok (.iaload, 1) := by decide +kernel
theorem dX5_places_92 : decode cX5_places 92 = .ok (.iload 4, 2) := by decide +kernel
theorem dX5_places_94 : decode cX5_places 94 = .ok (.if_icmp .ge 9, 3) := by decide +kernel
theorem dX5_places_97 : decode cX5_places 97 = .ok (.iinc 5 1, 3) := by decide +kernel
theorem dX5_places_100 : decode cX5_places 100 = .ok (.goto (-24), 3) := by decide +kernel
theorem dX5_places_103 : decode cX5_places 103 = .ok (.iload 5, 2) := by decide +kernel
theorem dX5_places_105 : decode cX5_places 105 = .ok (.aload_n 0, 1) := by decide +kernel
theorem dX5_places_106 : decode cX5_places 106 = .ok (.getfield 44, 3) := by decide +kernel
theorem dX5_places_109 : decode cX5_places 109 = .ok (.if_icmp .ne 5, 3) := by decide +kernel
theorem dX5_places_112 : decode cX5_places 112 = .ok (.iconst 0, 1) := by decide +kernel
theorem dX5_places_113 : decode cX5_places 113 = .ok (.ireturn, 1) := by decide +kernel
theorem dX5_places_114 : decode cX5_places 114 = .ok (.aload_n 0, 1) := by decide +kernel
theorem dX5_places_115 : decode cX5_places 115 = .ok (.getfield 38, 3) := by decide +kernel
theorem dX5_places_118 : decode cX5_places 118 = .ok (.iload_n 3, 1) := by decide +kernel
theorem dX5_places_119 : decode cX5_places 119 = .ok (.iload 5, 2) := by decide +kernel
theorem dX5_places_121 : decode cX5_places 121 = .ok (.aload_n 0, 1) := by decide +kernel
theorem dX5_places_122 : decode cX5_places 122 = .ok (.getfield 7, 3) := by decide +kernel
theorem dX5_places_125 : decode cX5_places 125 = .ok (.iload 5, 2) := by decide +kernel
theorem dX5_places_127 : decode cX5_places 127 = .ok (.iaload, 1) := by decide +kernel
theorem dX5_places_128 : decode cX5_places 128 = .ok (.iadd, 1) := by decide +kernel
theorem dX5_places_129 : decode cX5_places 129 = .ok (.aload_n 0, 1) := by decide +kernel
theorem dX5_places_130 : decode cX5_places 130 = .ok (.getfield 41, 3) := by decide +kernel
theorem dX5_places_133 : decode cX5_places 133 = .ok (.iload 5, 2) := by decide +kernel
theorem dX5_places_135 : decode cX5_places 135 = .ok (.iaload, 1) := by decide +kernel
theorem dX5_places_136 : decode cX5_places 136 = .ok (.isub, 1) := by decide +kernel
theorem dX5_places_137 : decode cX5_places 137 = .ok (.iastore, 1) := by decide +kernel
theorem dX5_places_138 : decode cX5_places 138 = .ok (.aload_n 0, 1) := by decide +kernel
theorem dX5_places_139 : decode cX5_places 139 = .ok (.getfield 41, 3) := by decide +kernel
theorem dX5_places_142 : decode cX5_places 142 = .ok (.iload 5, 2) := by decide +kernel
theorem dX5_places_144 : decode cX5_places 144 = .ok (.dup2, 1) := by decide +kernel
theorem dX5_places_145 : decode cX5_places 145 = .ok (.iaload, 1) := by decide +kernel
theorem dX5_places_146 : decode cX5_places 146 = .ok (.iload 4, 2) := by decide +kernel
theorem dX5_places_148 : decode cX5_places 148 = .ok (.isub, 1) := by decide +kernel
theorem dX5_places_149 : decode cX5_places 149 = .ok (.iastore, 1) := by decide +kernel
theorem dX5_places_150 : decode cX5_places 150 = .ok (.iinc 3 1, 3) := by decide +kernel
theorem dX5_places_153 : decode cX5_places 153 = .ok (.goto (-101), 3) := by decide +kernel
theorem dX5_places_156 : decode cX5_places 156 = .ok (.iconst 1, 1) := by decide +kernel
theorem dX5_places_157 : decode cX5_places 157 = .ok (.ireturn, 1) := by decide +kernel
theorem dX5_advise_0 : decode cX5_advise 0 = .ok (.aload_n 0, 1) := by decide +kernel
theorem dX5_advise_1 : decode cX5_advise 1 = .ok (.iconst 0, 1) := by decide +kernel
theorem dX5_advise_2 : decode cX5_advise 2 = .ok (.putfield 48, 3) := by decide +kernel
theorem dX5_advise_5 : decode cX5_advise 5 = .ok (.aload_n 0, 1) := by decide +kernel
theorem dX5_advise_6 : decode cX5_advise 6 = .ok (.iconst 0, 1) := by decide +kernel
theorem dX5_advise_7 : decode cX5_advise 7 = .ok (.putfield 70, 3) := by decide +kernel
theorem dX5_advise_10 : decode cX5_advise 10 = .ok (.iload_n 1, 1) := by decide +kernel
theorem dX5_advise_11 : decode cX5_advise 11 = .ok (.iconst 1, 1) := by decide +kernel
theorem dX5_advise_12 : decode cX5_advise 12 = .ok (.if_icmp .lt 14, 3) := by decide +kernel
theorem dX5_advise_15 : decode cX5_advise 15 = .ok (.aload_n 0, 1) := by decide +kernel
theorem dX5_advise_16 : decode cX5_advise 16 = .ok (.iconst 2, 1) := by decide +kernel
theorem dX5_advise_17 : decode cX5_advise 17 = .ok (.invokevirtual 97, 3) := by decide +kernel
theorem dX5_advise_20 : decode cX5_advise 20 = .ok (.sipush 128, 3) := by decide +kernel
theorem dX5_advise_23 : decode cX5_advise 23 = .ok (.if_icmp .le 5, 3) := by decide +kernel
theorem dX5_advise_26 : decode cX5_advise 26 = .ok (.iconst (-1), 1) := by decide +kernel
theorem dX5_advise_27 : decode cX5_advise 27 = .ok (.ireturn, 1) := by decide +kernel
theorem dX5_advise_28 : decode cX5_advise 28 = .ok (.iconst 0, 1) := by decide +kernel
theorem dX5_advise_29 : decode cX5_advise 29 = .ok (.istore_n 2, 1) := by decide +kernel
theorem dX5_advise_30 : decode cX5_advise 30 = .ok (.iload_n 2, 1) := by decide +kernel
theorem dX5_advise_31 : decode cX5_advise 31 = .ok (.aload_n 0, 1) := by decide +kernel
theorem dX5_advise_32 : decode cX5_advise 32 = .ok (.getfield 44, 3) := by decide +kernel
theorem dX5_advise_35 : decode cX5_advise 35 = .ok (.if_icmp .ge 131, 3) := by decide +kernel
theorem dX5_advise_38 : decode cX5_advise 38 = .ok (.aload_n 0, 1) := by decide +kernel
theorem dX5_advise_39 : decode cX5_advise 39 = .ok (.getfield 7, 3) := by decide +kernel
theorem dX5_advise_42 : decode cX5_advise 42 = .ok (.iload_n 2, 1) := by decide +kernel
theorem dX5_advise_43 : decode cX5_advise 43 = .ok (.iaload, 1) := by decide +kernel
theorem dX5_advise_44 : decode cX5_advise 44 = .ok (.ifCond .le 12, 3) := by decide +kernel
theorem dX5_advise_47 : decode cX5_advise 47 = .ok (.aload_n 0, 1) := by decide +kernel
theorem dX5_advise_48 : decode cX5_advise 48 = .ok (.iload_n 2, 1) := by decide +kernel
theorem dX5_advise_49 : decode cX5_advise 49 = .ok (.iload_n 1, 1) := by decide +kernel
theorem dX5_advise_50 : decode cX5_advise 50 = .ok (.invokevirtual 100, 3) := by decide +kernel
theorem dX5_advise_53 : decode cX5_advise 53 = .ok (.goto 4, 3) := by decide +kernel
theorem dX5_advise_56 : decode cX5_advise 56 = .ok (.iconst (-1), 1) := by decide +kernel
theorem dX5_advise_57 : decode cX5_advise 57 = .ok (.istore_n 3, 1) := by decide +kernel
theorem dX5_advise_58 : decode cX5_advise 58 = .ok (.iload_n 3, 1) := by decide +kernel
theorem dX5_advise_59 : decode cX5_advise 59 = .ok (.iconst (-1), 1) := by decide +kernel
theorem dX5_advise_60 : decode cX5_advise 60 = .ok (.if_icmp .eq 100, 3) := by decide +kernel
theorem dX5_advise_63 : decode cX5_advise 63 = .ok (.aload_n 0, 1) := by decide +kernel
theorem dX5_advise_64 : decode cX5_advise 64 = .ok (.iload_n 2, 1) := by decide +kernel
theorem dX5_advise_65 : decode cX5_advise 65 = .ok (.iload_n 3, 1) := by decide +kernel
theorem dX5_advise_66 : decode cX5_advise 66 = .ok (.invokevirtual 103, 3) := by decide +kernel
theorem dX5_advise_69 : decode cX5_advise 69 = .ok (.aload_n 0, 1) := by decide +kernel
theorem dX5_advise_70 : decode cX5_advise 70 = .ok (.getfield 70, 3) := by decide +kernel
theorem dX5_advise_73 : decode cX5_advise 73 = .ok (.ifCond .eq 14, 3) := by decide +kernel
theorem dX5_advise_76 : decode cX5_advise 76 = .ok (.aload_n 0, 1) := by decide +kernel
theorem dX5_advise_77 : decode cX5_advise 77 = .ok (.getfield 94, 3) := by decide +kernel
theorem dX5_advise_80 : decode cX5_advise 80 = .ok (.aload_n 0, 1) := by decide +kernel
theorem dX5_advise_81 : decode cX5_advise 81 = .ok (.getfield 89, 3) := by decide +kernel
theorem dX5_advise_84 : decode cX5_advise 84 = .ok (.if_icmp .ge 76, 3) := by decide +kernel
theorem dX5_advise_87 : decode cX5_advise 87 = .ok (.aload_n 0, 1) := by decide +kernel
theorem dX5_advise_88 : decode cX5_advise 88 = .ok (.iload_n 2, 1) := by decide +kernel
theorem dX5_advise_89 : decode cX5_advise 89 = .ok (.iload_n 3, 1) := by decide +kernel
theorem dX5_advise_90 : decode cX5_advise 90 = .ok (.invokevirtual 107, 3) := by decide +kernel
theorem dX5_advise_93 : decode cX5_advise 93 = .ok (.ifCond .eq 67, 3) := by decide +kernel
theorem dX5_advise_96 : decode cX5_advise 96 = .ok (.aload_n 0, 1) := by decide +kernel
theorem dX5_advise_97 : decode cX5_advise 97 = .ok (.iconst 1, 1) := by decide +kernel
theorem dX5_advise_98 : decode cX5_advise 98 = .ok (.putfield 70, 3) := by decide +kernel
theorem dX5_advise_101 : decode cX5_advise 101 = .ok (.aload_n 0, 1) := by decide +kernel
theorem dX5_advise_102 : decode cX5_advise 102 = .ok (.iload_n 2, 1) := by decide +kernel
theorem dX5_advise_103 : decode cX5_advise 103 = .ok (.putfield 111, 3) := by decide +kernel
theorem dX5_advise_106 : decode cX5_advise 106 = .ok (.aload_n 0, 1) := by decide +kernel
theorem dX5_advise_107 : decode cX5_advise 107 = .ok (.aload_n 0, 1) := by decide +kernel
theorem dX5_advise_108 : decode cX5_advise 108 = .ok (.getfield 94, 3) := by decide +kernel
theorem dX5_advise_111 : decode cX5_advise 111 = .ok (.putfield 89, 3) := by decide +kernel
theorem dX5_advise_114 : decode cX5_advise 114 = .ok (.iconst 0, 1) := by decide +kernel
theorem dX5_advise_115 : decode cX5_advise 115 = .ok (.istore 4, 2) := by decide +kernel
theorem dX5_advise_117 : decode cX5_advise 117 = .ok (.iload 4, 2) := by decide +kernel
theorem dX5_advise_119 : decode cX5_advise 119 = .ok (.aload_n 0, 1) := by decide +kernel
theorem dX5_advise_120 : decode cX5_advise 120 = .ok (.getfield 94, 3) := by decide +kernel
theorem dX5_advise_123 : decode cX5_advise 123 = .ok (.if_icmp .ge 37, 3) := by decide +kernel
theorem dX5_advise_126 : decode cX5_advise 126 = .ok (.aload_n 0, 1) := by decide +kernel
theorem dX5_advise_127 : decode cX5_advise 127 = .ok (.getfield 23, 3) := by decide +kernel
theorem dX5_advise_130 : decode cX5_advise 130 = .ok (.iload 4, 2) := by decide +kernel
theorem dX5_advise_132 : decode cX5_advise 132 = .ok (.aload_n 0, 1) := by decide +kernel
theorem dX5_advise_133 : decode cX5_advise 133 = .ok (.getfield 35, 3) := by decide +kernel
theorem dX5_advise_136 : decode cX5_advise 136 = .ok (.iload 4, 2) := by decide +kernel
theorem dX5_advise_138 : decode cX5_advise 138 = .ok (.iaload, 1) := by decide +kernel
theorem dX5_advise_139 : decode cX5_advise 139 = .ok (.iastore, 1) := by decide +kernel
theorem dX5_advise_140 : decode cX5_advise 140 = .ok (.aload_n 0, 1) := by decide +kernel
theorem dX5_advise_141 : decode cX5_advise 141 = .ok (.getfield 26, 3) := by decide +kernel
theorem dX5_advise_144 : decode cX5_advise 144 = .ok (.iload 4, 2) := by decide +kernel
theorem dX5_advise_146 : decode cX5_advise 146 = .ok (.aload_n 0, 1) := by decide +kernel
theorem dX5_advise_147 : decode cX5_advise 147 = .ok (.getfield 38, 3) := by decide +kernel
theorem dX5_advise_150 : decode cX5_advise 150 = .ok (.iload 4, 2) := by decide +kernel
theorem dX5_advise_152 : decode cX5_advise 152 = .ok (.iaload, 1) := by decide +kernel
theorem dX5_advise_153 : decode cX5_advise 153 = .ok (.iastore, 1) := by decide +kernel
theorem dX5_advise_154 : decode cX5_advise 154 = .ok (.iinc 4 1, 3) := by decide +kernel
theorem dX5_advise_157 : decode cX5_advise 157 = .ok (.goto (-40), 3) := by decide +kernel
theorem dX5_advise_160 : decode cX5_advise 160 = .ok (.iinc 2 1, 3) := by decide +kernel
theorem dX5_advise_163 : decode cX5_advise 163 = .ok (.goto (-133), 3) := by decide +kernel
theorem dX5_advise_166 : decode cX5_advise 166 = .ok (.aload_n 0, 1) := by decide +kernel
theorem dX5_advise_167 : decode cX5_advise 167 = .ok (.getfield 70, 3) := by decide +kernel
theorem dX5_advise_170 : decode cX5_advise 170 = .ok (.ifCond .eq 10, 3) := by decide +kernel
theorem dX5_advise_173 : decode cX5_advise 173 = .ok (.aload_n 0, 1) := by decide +kernel
theorem dX5_advise_174 : decode cX5_advise 174 = .ok (.getfield 89, 3) := by decide +kernel
theorem dX5_advise_177 : decode cX5_advise 177 = .ok (.goto 4, 3) := by decide +kernel
theorem dX5_advise_180 : decode cX5_advise 180 = .ok (.iconst (-1), 1) := by decide +kernel
theorem dX5_advise_181 : decode cX5_advise 181 = .ok (.ireturn, 1) := by decide +kernel
theorem dX5_window_0 : decode cX5_window 0 = .ok (.aload_n 0, 1) := by decide +kernel
theorem dX5_window_1 : decode cX5_window 1 = .ok (.iconst 0, 1) := by decide +kernel
theorem dX5_window_2 : decode cX5_window 2 = .ok (.putfield 48, 3) := by decide +kernel
theorem dX5_window_5 : decode cX5_window 5 = .ok (.aload_n 0, 1) := by decide +kernel
theorem dX5_window_6 : decode cX5_window 6 = .ok (.getfield 70, 3) := by decide +kernel
theorem dX5_window_9 : decode cX5_window 9 = .ok (.ifCond .eq 13, 3) := by decide +kernel
theorem dX5_window_12 : decode cX5_window 12 = .ok (.aload_n 0, 1) := by decide +kernel
theorem dX5_window_13 : decode cX5_window 13 = .ok (.getfield 111, 3) := by decide +kernel
theorem dX5_window_16 : decode cX5_window 16 = .ok (.invokestatic 55, 3) := by decide +kernel
theorem dX5_window_19 : decode cX5_window 19 = .ok (.goto 4, 3) := by decide +kernel
theorem dX5_window_22 : decode cX5_window 22 = .ok (.iconst (-1), 1) := by decide +kernel
theorem dX5_window_23 : decode cX5_window 23 = .ok (.ireturn, 1) := by decide +kernel
theorem dX5_move_0 : decode cX5_move 0 = .ok (.aload_n 0, 1) := by decide +kernel
theorem dX5_move_1 : decode cX5_move 1 = .ok (.aload_n 0, 1) := by decide +kernel
theorem dX5_move_2 : decode cX5_move 2 = .ok (.getfield 70, 3) := by decide +kernel
theorem dX5_move_5 : decode cX5_move 5 = .ok (.ifCond .eq 15, 3) := by decide +kernel
theorem dX5_move_8 : decode cX5_move 8 = .ok (.iload_n 1, 1) := by decide +kernel
theorem dX5_move_9 : decode cX5_move 9 = .ok (.ifCond .lt 11, 3) := by decide +kernel
theorem dX5_move_12 : decode cX5_move 12 = .ok (.iload_n 1, 1) := by decide +kernel
theorem dX5_move_13 : decode cX5_move 13 = .ok (.aload_n 0, 1) := by decide +kernel
theorem dX5_move_14 : decode cX5_move 14 = .ok (.getfield 89, 3) := by decide +kernel
theorem dX5_move_17 : decode cX5_move 17 = .ok (.if_icmp .lt 7, 3) := by decide +kernel
theorem dX5_move_20 : decode cX5_move 20 = .ok (.iconst 1, 1) := by decide +kernel
theorem dX5_move_21 : decode cX5_move 21 = .ok (.goto 17, 3) := by decide +kernel
theorem dX5_move_24 : decode cX5_move 24 = .ok (.iload_n 2, 1) := by decide +kernel
theorem dX5_move_25 : decode cX5_move 25 = .ok (.ifCond .lt 8, 3) := by decide +kernel
theorem dX5_move_28 : decode cX5_move 28 = .ok (.iload_n 2, 1) := by decide +kernel
theorem dX5_move_29 : decode cX5_move 29 = .ok (.iconst 1, 1) := by decide +kernel
theorem dX5_move_30 : decode cX5_move 30 = .ok (.if_icmp .le 7, 3) := by decide +kernel
theorem dX5_move_33 : decode cX5_move 33 = .ok (.iconst 2, 1) := by decide +kernel
theorem dX5_move_34 : decode cX5_move 34 = .ok (.goto 4, 3) := by decide +kernel
theorem dX5_move_37 : decode cX5_move 37 = .ok (.iconst 0, 1) := by decide +kernel
theorem dX5_move_38 : decode cX5_move 38 = .ok (.putfield 48, 3) := by decide +kernel
theorem dX5_move_41 : decode cX5_move 41 = .ok (.aload_n 0, 1) := by decide +kernel
theorem dX5_move_42 : decode cX5_move 42 = .ok (.getfield 48, 3) := by decide +kernel
theorem dX5_move_45 : decode cX5_move 45 = .ok (.ifCond .eq 7, 3) := by decide +kernel
theorem dX5_move_48 : decode cX5_move 48 = .ok (.iconst 0, 1) := by decide +kernel
theorem dX5_move_49 : decode cX5_move 49 = .ok (.goto 25, 3) := by decide +kernel
theorem dX5_move_52 : decode cX5_move 52 = .ok (.iload_n 2, 1) := by decide +kernel
theorem dX5_move_53 : decode cX5_move 53 = .ok (.ifCond .ne 12, 3) := by decide +kernel
theorem dX5_move_56 : decode cX5_move 56 = .ok (.aload_n 0, 1) := by decide +kernel
theorem dX5_move_57 : decode cX5_move 57 = .ok (.getfield 23, 3) := by decide +kernel
theorem dX5_move_60 : decode cX5_move 60 = .ok (.iload_n 1, 1) := by decide +kernel
theorem dX5_move_61 : decode cX5_move 61 = .ok (.iaload, 1) := by decide +kernel
theorem dX5_move_62 : decode cX5_move 62 = .ok (.goto 9, 3) := by decide +kernel
theorem dX5_move_65 : decode cX5_move 65 = .ok (.aload_n 0, 1) := by decide +kernel
theorem dX5_move_66 : decode cX5_move 66 = .ok (.getfield 26, 3) := by decide +kernel
theorem dX5_move_69 : decode cX5_move 69 = .ok (.iload_n 1, 1) := by decide +kernel
theorem dX5_move_70 : decode cX5_move 70 = .ok (.iaload, 1) := by decide +kernel
theorem dX5_move_71 : decode cX5_move 71 = .ok (.invokestatic 55, 3) := by decide +kernel
theorem dX5_move_74 : decode cX5_move 74 = .ok (.ireturn, 1) := by decide +kernel
theorem dX5_goes_0 : decode cX5_goes 0 = .ok (.aload_n 0, 1) := by decide +kernel
theorem dX5_goes_1 : decode cX5_goes 1 = .ok (.getfield 7, 3) := by decide +kernel
theorem dX5_goes_4 : decode cX5_goes 4 = .ok (.iload_n 1, 1) := by decide +kernel
theorem dX5_goes_5 : decode cX5_goes 5 = .ok (.iaload, 1) := by decide +kernel
theorem dX5_goes_6 : decode cX5_goes 6 = .ok (.istore_n 3, 1) := by decide +kernel
theorem dX5_goes_7 : decode cX5_goes 7 = .ok (.iload_n 2, 1) := by decide +kernel
theorem dX5_goes_8 : decode cX5_goes 8 = .ok (.istore 4, 2) := by decide +kernel
theorem dX5_goes_10 : decode cX5_goes 10 = .ok (.aload_n 0, 1) := by decide +kernel
theorem dX5_goes_11 : decode cX5_goes 11 = .ok (.getfield 7, 3) := by decide +kernel
theorem dX5_goes_14 : decode cX5_goes 14 = .ok (.iload 4, 2) := by decide +kernel
theorem dX5_goes_16 : decode cX5_goes 16 = .ok (.iaload, 1) := by decide +kernel
theorem dX5_goes_17 : decode cX5_goes 17 = .ok (.ifCond .ne 9, 3) := by decide +kernel
theorem dX5_goes_20 : decode cX5_goes 20 = .ok (.iinc 4 (-1), 3) := by decide +kernel
theorem dX5_goes_23 : decode cX5_goes 23 = .ok (.goto (-13), 3) := by decide +kernel
theorem dX5_goes_26 : decode cX5_goes 26 = .ok (.aload_n 0, 1) := by decide +kernel
theorem dX5_goes_27 : decode cX5_goes 27 = .ok (.iload 4, 2) := by decide +kernel
theorem dX5_goes_29 : decode cX5_goes 29 = .ok (.iload_n 2, 1) := by decide +kernel
theorem dX5_goes_30 : decode cX5_goes 30 = .ok (.iload_n 3, 1) := by decide +kernel
theorem dX5_goes_31 : decode cX5_goes 31 = .ok (.invokevirtual 66, 3) := by decide +kernel
theorem dX5_goes_34 : decode cX5_goes 34 = .ok (.iconst 0, 1) := by decide +kernel
theorem dX5_goes_35 : decode cX5_goes 35 = .ok (.istore 5, 2) := by decide +kernel
theorem dX5_goes_37 : decode cX5_goes 37 = .ok (.iload 5, 2) := by decide +kernel
theorem dX5_goes_39 : decode cX5_goes 39 = .ok (.iconst 4, 1) := by decide +kernel
theorem dX5_goes_40 : decode cX5_goes 40 = .ok (.iload_n 3, 1) := by decide +kernel
theorem dX5_goes_41 : decode cX5_goes 41 = .ok (.imul, 1) := by decide +kernel
theorem dX5_goes_42 : decode cX5_goes 42 = .ok (.iconst 1, 1) := by decide +kernel
theorem dX5_goes_43 : decode cX5_goes 43 = .ok (.isub, 1) := by decide +kernel
theorem dX5_goes_44 : decode cX5_goes 44 = .ok (.if_icmp .ge 33, 3) := by decide +kernel
theorem dX5_goes_47 : decode cX5_goes 47 = .ok (.aload_n 0, 1) := by decide +kernel
theorem dX5_goes_48 : decode cX5_goes 48 = .ok (.getfield 20, 3) := by decide +kernel
theorem dX5_goes_51 : decode cX5_goes 51 = .ok (.iload_n 2, 1) := by decide +kernel
theorem dX5_goes_52 : decode cX5_goes 52 = .ok (.invokestatic 55, 3) := by decide +kernel
theorem dX5_goes_55 : decode cX5_goes 55 = .ok (.iload 5, 2) := by decide +kernel
theorem dX5_goes_57 : decode cX5_goes 57 = .ok (.iadd, 1) := by decide +kernel
theorem dX5_goes_58 : decode cX5_goes 58 = .ok (.aload_n 0, 1) := by decide +kernel
theorem dX5_goes_59 : decode cX5_goes 59 = .ok (.getfield 20, 3) := by decide +kernel
theorem dX5_goes_62 : decode cX5_goes 62 = .ok (.iload_n 1, 1) := by decide +kernel
theorem dX5_goes_63 : decode cX5_goes 63 = .ok (.invokestatic 55, 3) := by decide +kernel
theorem dX5_goes_66 : decode cX5_goes 66 = .ok (.iload 5, 2) := by decide +kernel
theorem dX5_goes_68 : decode cX5_goes 68 = .ok (.iadd, 1) := by decide +kernel
theorem dX5_goes_69 : decode cX5_goes 69 = .ok (.iaload, 1) := by decide +kernel
theorem dX5_goes_70 : decode cX5_goes 70 = .ok (.iastore, 1) := by decide +kernel
theorem dX5_goes_71 : decode cX5_goes 71 = .ok (.iinc 5 1, 3) := by decide +kernel
theorem dX5_goes_74 : decode cX5_goes 74 = .ok (.goto (-37), 3) := by decide +kernel
theorem dX5_goes_77 : decode cX5_goes 77 = .ok (.aload_n 0, 1) := by decide +kernel
theorem dX5_goes_78 : decode cX5_goes 78 = .ok (.getfield 13, 3) := by decide +kernel
theorem dX5_goes_81 : decode cX5_goes 81 = .ok (.iload_n 1, 1) := by decide +kernel
theorem dX5_goes_82 : decode cX5_goes 82 = .ok (.iconst 0, 1) := by decide +kernel
theorem dX5_goes_83 : decode cX5_goes 83 = .ok (.bastore, 1) := by decide +kernel
theorem dX5_goes_84 : decode cX5_goes 84 = .ok (.return_, 1) := by decide +kernel
theorem dX5_apply_0 : decode cX5_apply 0 = .ok (.aload_n 0, 1) := by decide +kernel
theorem dX5_apply_1 : decode cX5_apply 1 = .ok (.iconst 0, 1) := by decide +kernel
theorem dX5_apply_2 : decode cX5_apply 2 = .ok (.putfield 48, 3) := by decide +kernel
theorem dX5_apply_5 : decode cX5_apply 5 = .ok (.aload_n 0, 1) := by decide +kernel
theorem dX5_apply_6 : decode cX5_apply 6 = .ok (.getfield 70, 3) := by decide +kernel
theorem dX5_apply_9 : decode cX5_apply 9 = .ok (.ifCond .ne 5, 3) := by decide +kernel
theorem dX5_apply_12 : decode cX5_apply 12 = .ok (.iconst (-1), 1) := by decide +kernel
theorem dX5_apply_13 : decode cX5_apply 13 = .ok (.ireturn, 1) := by decide +kernel
theorem dX5_apply_14 : decode cX5_apply 14 = .ok (.aload_n 0, 1) := by decide +kernel
theorem dX5_apply_15 : decode cX5_apply 15 = .ok (.aload_n 0, 1) := by decide +kernel
theorem dX5_apply_16 : decode cX5_apply 16 = .ok (.getfield 89, 3) := by decide +kernel
theorem dX5_apply_19 : decode cX5_apply 19 = .ok (.putfield 114, 3) := by decide +kernel
theorem dX5_apply_22 : decode cX5_apply 22 = .ok (.iconst 0, 1) := by decide +kernel
theorem dX5_apply_23 : decode cX5_apply 23 = .ok (.istore_n 1, 1) := by decide +kernel
theorem dX5_apply_24 : decode cX5_apply 24 = .ok (.iload_n 1, 1) := by decide +kernel
theorem dX5_apply_25 : decode cX5_apply 25 = .ok (.aload_n 0, 1) := by decide +kernel
theorem dX5_apply_26 : decode cX5_apply 26 = .ok (.getfield 89, 3) := by decide +kernel
theorem dX5_apply_29 : decode cX5_apply 29 = .ok (.if_icmp .ge 55, 3) := by decide +kernel
theorem dX5_apply_32 : decode cX5_apply 32 = .ok (.aload_n 0, 1) := by decide +kernel
theorem dX5_apply_33 : decode cX5_apply 33 = .ok (.getfield 29, 3) := by decide +kernel
theorem dX5_apply_36 : decode cX5_apply 36 = .ok (.iload_n 1, 1) := by decide +kernel
theorem dX5_apply_37 : decode cX5_apply 37 = .ok (.aload_n 0, 1) := by decide +kernel
theorem dX5_apply_38 : decode cX5_apply 38 = .ok (.getfield 23, 3) := by decide +kernel
theorem dX5_apply_41 : decode cX5_apply 41 = .ok (.iload_n 1, 1) := by decide +kernel
theorem dX5_apply_42 : decode cX5_apply 42 = .ok (.iaload, 1) := by decide +kernel
theorem dX5_apply_43 : decode cX5_apply 43 = .ok (.invokestatic 55, 3) := by decide +kernel
theorem dX5_apply_46 : decode cX5_apply 46 = .ok (.iastore, 1) := by decide +kernel
theorem dX5_apply_47 : decode cX5_apply 47 = .ok (.aload_n 0, 1) := by decide +kernel
theorem dX5_apply_48 : decode cX5_apply 48 = .ok (.getfield 32, 3) := by decide +kernel
theorem dX5_apply_51 : decode cX5_apply 51 = .ok (.iload_n 1, 1) := by decide +kernel
theorem dX5_apply_52 : decode cX5_apply 52 = .ok (.aload_n 0, 1) := by decide +kernel
theorem dX5_apply_53 : decode cX5_apply 53 = .ok (.getfield 26, 3) := by decide +kernel
theorem dX5_apply_56 : decode cX5_apply 56 = .ok (.iload_n 1, 1) := by decide +kernel
theorem dX5_apply_57 : decode cX5_apply 57 = .ok (.iaload, 1) := by decide +kernel
theorem dX5_apply_58 : decode cX5_apply 58 = .ok (.invokestatic 55, 3) := by decide +kernel
theorem dX5_apply_61 : decode cX5_apply 61 = .ok (.iastore, 1) := by decide +kernel
theorem dX5_apply_62 : decode cX5_apply 62 = .ok (.aload_n 0, 1) := by decide +kernel
theorem dX5_apply_63 : decode cX5_apply 63 = .ok (.aload_n 0, 1) := by decide +kernel
theorem dX5_apply_64 : decode cX5_apply 64 = .ok (.getfield 23, 3) := by decide +kernel
theorem dX5_apply_67 : decode cX5_apply 67 = .ok (.iload_n 1, 1) := by decide +kernel
theorem dX5_apply_68 : decode cX5_apply 68 = .ok (.iaload, 1) := by decide +kernel
theorem dX5_apply_69 : decode cX5_apply 69 = .ok (.aload_n 0, 1) := by decide +kernel
theorem dX5_apply_70 : decode cX5_apply 70 = .ok (.getfield 26, 3) := by decide +kernel
theorem dX5_apply_73 : decode cX5_apply 73 = .ok (.iload_n 1, 1) := by decide +kernel
theorem dX5_apply_74 : decode cX5_apply 74 = .ok (.iaload, 1) := by decide +kernel
theorem dX5_apply_75 : decode cX5_apply 75 = .ok (.invokevirtual 117, 3) := by decide +kernel
theorem dX5_apply_78 : decode cX5_apply 78 = .ok (.iinc 1 1, 3) := by decide +kernel
theorem dX5_apply_81 : decode cX5_apply 81 = .ok (.goto (-57), 3) := by decide +kernel
theorem dX5_apply_84 : decode cX5_apply 84 = .ok (.aload_n 0, 1) := by decide +kernel
theorem dX5_apply_85 : decode cX5_apply 85 = .ok (.invokevirtual 77, 3) := by decide +kernel
theorem dX5_apply_88 : decode cX5_apply 88 = .ok (.aload_n 0, 1) := by decide +kernel
theorem dX5_apply_89 : decode cX5_apply 89 = .ok (.iconst 0, 1) := by decide +kernel
theorem dX5_apply_90 : decode cX5_apply 90 = .ok (.putfield 70, 3) := by decide +kernel
theorem dX5_apply_93 : decode cX5_apply 93 = .ok (.aload_n 0, 1) := by decide +kernel
theorem dX5_apply_94 : decode cX5_apply 94 = .ok (.getfield 114, 3) := by decide +kernel
theorem dX5_apply_97 : decode cX5_apply 97 = .ok (.ireturn, 1) := by decide +kernel
theorem dX5_moved_0 : decode cX5_moved 0 = .ok (.aload_n 0, 1) := by decide +kernel
theorem dX5_moved_1 : decode cX5_moved 1 = .ok (.iconst 0, 1) := by decide +kernel
theorem dX5_moved_2 : decode cX5_moved 2 = .ok (.putfield 48, 3) := by decide +kernel
theorem dX5_moved_5 : decode cX5_moved 5 = .ok (.iconst 0, 1) := by decide +kernel
theorem dX5_moved_6 : decode cX5_moved 6 = .ok (.istore_n 2, 1) := by decide +kernel
theorem dX5_moved_7 : decode cX5_moved 7 = .ok (.iload_n 2, 1) := by decide +kernel
theorem dX5_moved_8 : decode cX5_moved 8 = .ok (.aload_n 0, 1) := by decide +kernel
theorem dX5_moved_9 : decode cX5_moved 9 = .ok (.getfield 114, 3) := by decide +kernel
theorem dX5_moved_12 : decode cX5_moved 12 = .ok (.if_icmp .ge 26, 3) := by decide +kernel
theorem dX5_moved_15 : decode cX5_moved 15 = .ok (.aload_n 0, 1) := by decide +kernel
theorem dX5_moved_16 : decode cX5_moved 16 = .ok (.getfield 29, 3) := by decide +kernel
theorem dX5_moved_19 : decode cX5_moved 19 = .ok (.iload_n 2, 1) := by decide +kernel
theorem dX5_moved_20 : decode cX5_moved 20 = .ok (.iaload, 1) := by decide +kernel
theorem dX5_moved_21 : decode cX5_moved 21 = .ok (.iload_n 1, 1) := by decide +kernel
theorem dX5_moved_22 : decode cX5_moved 22 = .ok (.if_icmp .ne 10, 3) := by decide +kernel
theorem dX5_moved_25 : decode cX5_moved 25 = .ok (.aload_n 0, 1) := by decide +kernel
theorem dX5_moved_26 : decode cX5_moved 26 = .ok (.getfield 32, 3) := by decide +kernel
theorem dX5_moved_29 : decode cX5_moved 29 = .ok (.iload_n 2, 1) := by decide +kernel
theorem dX5_moved_30 : decode cX5_moved 30 = .ok (.iaload, 1) := by decide +kernel
theorem dX5_moved_31 : decode cX5_moved 31 = .ok (.ireturn, 1) := by decide +kernel
theorem dX5_moved_32 : decode cX5_moved 32 = .ok (.iinc 2 1, 3) := by decide +kernel
theorem dX5_moved_35 : decode cX5_moved 35 = .ok (.goto (-28), 3) := by decide +kernel
theorem dX5_moved_38 : decode cX5_moved 38 = .ok (.iconst (-1), 1) := by decide +kernel
theorem dX5_moved_39 : decode cX5_moved 39 = .ok (.ireturn, 1) := by decide +kernel
end
section
theorem dL_cell_0 : decode cL_cell 0 = .ok (.iload_n 1, 1) := by decide +kernel
theorem dL_cell_1 : decode cL_cell 1 = .ok (.aload_n 0, 1) := by decide +kernel
theorem dL_cell_2 : decode cL_cell 2 = .ok (.arraylength, 1) := by decide +kernel
theorem dL_cell_3 : decode cL_cell 3 = .ok (.if_icmp .ge 9, 3) := by decide +kernel
theorem dL_cell_6 : decode cL_cell 6 = .ok (.aload_n 0, 1) := by decide +kernel
theorem dL_cell_7 : decode cL_cell 7 = .ok (.iload_n 1, 1) := by decide +kernel
theorem dL_cell_8 : decode cL_cell 8 = .ok (.iaload, 1) := by decide +kernel
theorem dL_cell_9 : decode cL_cell 9 = .ok (.goto 4, 3) := by decide +kernel
theorem dL_cell_12 : decode cL_cell 12 = .ok (.iconst 0, 1) := by decide +kernel
theorem dL_cell_13 : decode cL_cell 13 = .ok (.ireturn, 1) := by decide +kernel
theorem dL_get_0 : decode cL_get 0 = .ok (.aload_n 3, 1) := by decide +kernel
theorem dL_get_1 : decode cL_get 1 = .ok (.iconst 0, 1) := by decide +kernel
theorem dL_get_2 : decode cL_get 2 = .ok (.aload_n 0, 1) := by decide +kernel
theorem dL_get_3 : decode cL_get 3 = .ok (.iload_n 1, 1) := by decide +kernel
theorem dL_get_4 : decode cL_get 4 = .ok (.iload_n 2, 1) := by decide +kernel
theorem dL_get_5 : decode cL_get 5 = .ok (.invokevirtual 7, 3) := by decide +kernel
theorem dL_get_8 : decode cL_get 8 = .ok (.i2l, 1) := by decide +kernel
theorem dL_get_9 : decode cL_get 9 = .ok (.lastore, 1) := by decide +kernel
theorem dL_get_10 : decode cL_get 10 = .ok (.goto 11, 3) := by decide +kernel
theorem dL_get_13 : decode cL_get 13 = .ok (.astore 4, 2) := by decide +kernel
theorem dL_get_15 : decode cL_get 15 = .ok (.iconst 1, 1) := by decide +kernel
theorem dL_get_16 : decode cL_get 16 = .ok (.ireturn, 1) := by decide +kernel
theorem dL_get_17 : decode cL_get 17 = .ok (.astore 4, 2) := by decide +kernel
theorem dL_get_19 : decode cL_get 19 = .ok (.iconst 2, 1) := by decide +kernel
theorem dL_get_20 : decode cL_get 20 = .ok (.ireturn, 1) := by decide +kernel
theorem dL_get_21 : decode cL_get 21 = .ok (.iconst 0, 1) := by decide +kernel
theorem dL_get_22 : decode cL_get 22 = .ok (.ireturn, 1) := by decide +kernel
theorem dL_set_0 : decode cL_set 0 = .ok (.aload 4, 2) := by decide +kernel
theorem dL_set_2 : decode cL_set 2 = .ok (.iconst 0, 1) := by decide +kernel
theorem dL_set_3 : decode cL_set 3 = .ok (.aload_n 0, 1) := by decide +kernel
theorem dL_set_4 : decode cL_set 4 = .ok (.iload_n 1, 1) := by decide +kernel
theorem dL_set_5 : decode cL_set 5 = .ok (.iload_n 2, 1) := by decide +kernel
theorem dL_set_6 : decode cL_set 6 = .ok (.iload_n 3, 1) := by decide +kernel
theorem dL_set_7 : decode cL_set 7 = .ok (.invokevirtual 17, 3) := by decide +kernel
theorem dL_set_10 : decode cL_set 10 = .ok (.i2l, 1) := by decide +kernel
theorem dL_set_11 : decode cL_set 11 = .ok (.lastore, 1) := by decide +kernel
theorem dL_set_12 : decode cL_set 12 = .ok (.goto 11, 3) := by decide +kernel
theorem dL_set_15 : decode cL_set 15 = .ok (.astore 5, 2) := by decide +kernel
theorem dL_set_17 : decode cL_set 17 = .ok (.iconst 1, 1) := by decide +kernel
theorem dL_set_18 : decode cL_set 18 = .ok (.ireturn, 1) := by decide +kernel
theorem dL_set_19 : decode cL_set 19 = .ok (.astore 5, 2) := by decide +kernel
theorem dL_set_21 : decode cL_set 21 = .ok (.iconst 2, 1) := by decide +kernel
theorem dL_set_22 : decode cL_set 22 = .ok (.ireturn, 1) := by decide +kernel
theorem dL_set_23 : decode cL_set 23 = .ok (.iconst 0, 1) := by decide +kernel
theorem dL_set_24 : decode cL_set 24 = .ok (.ireturn, 1) := by decide +kernel
theorem dL_branch_0 : decode cL_branch 0 = .ok (.aload_n 3, 1) := by decide +kernel
theorem dL_branch_1 : decode cL_branch 1 = .ok (.iconst 0, 1) := by decide +kernel
theorem dL_branch_2 : decode cL_branch 2 = .ok (.aload_n 0, 1) := by decide +kernel
theorem dL_branch_3 : decode cL_branch 3 = .ok (.iload_n 1, 1) := by decide +kernel
theorem dL_branch_4 : decode cL_branch 4 = .ok (.iload_n 2, 1) := by decide +kernel
theorem dL_branch_5 : decode cL_branch 5 = .ok (.invokevirtual 21, 3) := by decide +kernel
theorem dL_branch_8 : decode cL_branch 8 = .ok (.i2l, 1) := by decide +kernel
theorem dL_branch_9 : decode cL_branch 9 = .ok (.lastore, 1) := by decide +kernel
theorem dL_branch_10 : decode cL_branch 10 = .ok (.goto 11, 3) := by decide +kernel
theorem dL_branch_13 : decode cL_branch 13 = .ok (.astore 4, 2) := by decide +kernel
theorem dL_branch_15 : decode cL_branch 15 = .ok (.iconst 1, 1) := by decide +kernel
theorem dL_branch_16 : decode cL_branch 16 = .ok (.ireturn, 1) := by decide +kernel
theorem dL_branch_17 : decode cL_branch 17 = .ok (.astore 4, 2) := by decide +kernel
theorem dL_branch_19 : decode cL_branch 19 = .ok (.iconst 2, 1) := by decide +kernel
theorem dL_branch_20 : decode cL_branch 20 = .ok (.ireturn, 1) := by decide +kernel
theorem dL_branch_21 : decode cL_branch 21 = .ok (.iconst 0, 1) := by decide +kernel
theorem dL_branch_22 : decode cL_branch 22 = .ok (.ireturn, 1) := by decide +kernel
theorem dL_move_0 : decode cL_move 0 = .ok (.aload_n 3, 1) := by decide +kernel
theorem dL_move_1 : decode cL_move 1 = .ok (.iconst 0, 1) := by decide +kernel
theorem dL_move_2 : decode cL_move 2 = .ok (.aload_n 0, 1) := by decide +kernel
theorem dL_move_3 : decode cL_move 3 = .ok (.iload_n 1, 1) := by decide +kernel
theorem dL_move_4 : decode cL_move 4 = .ok (.iload_n 2, 1) := by decide +kernel
theorem dL_move_5 : decode cL_move 5 = .ok (.invokevirtual 26, 3) := by decide +kernel
theorem dL_move_8 : decode cL_move 8 = .ok (.i2l, 1) := by decide +kernel
theorem dL_move_9 : decode cL_move 9 = .ok (.lastore, 1) := by decide +kernel
theorem dL_move_10 : decode cL_move 10 = .ok (.goto 11, 3) := by decide +kernel
theorem dL_move_13 : decode cL_move 13 = .ok (.astore 4, 2) := by decide +kernel
theorem dL_move_15 : decode cL_move 15 = .ok (.iconst 1, 1) := by decide +kernel
theorem dL_move_16 : decode cL_move 16 = .ok (.ireturn, 1) := by decide +kernel
theorem dL_move_17 : decode cL_move 17 = .ok (.astore 4, 2) := by decide +kernel
theorem dL_move_19 : decode cL_move 19 = .ok (.iconst 2, 1) := by decide +kernel
theorem dL_move_20 : decode cL_move 20 = .ok (.ireturn, 1) := by decide +kernel
theorem dL_move_21 : decode cL_move 21 = .ok (.iconst 0, 1) := by decide +kernel
theorem dL_move_22 : decode cL_move 22 = .ok (.ireturn, 1) := by decide +kernel
theorem dL_law_0 : decode cL_law 0 = .ok (.new 8, 3) := by decide +kernel
theorem dL_law_3 : decode cL_law 3 = .ok (.dup, 1) := by decide +kernel
theorem dL_law_4 : decode cL_law 4 = .ok (.aload_n 0, 1) := by decide +kernel
theorem dL_law_5 : decode cL_law 5 = .ok (.iconst 0, 1) := by decide +kernel
theorem dL_law_6 : decode cL_law 6 = .ok (.invokestatic 29, 3) := by decide +kernel
theorem dL_law_9 : decode cL_law 9 = .ok (.invokespecial 35, 3) := by decide +kernel
theorem dL_law_12 : decode cL_law 12 = .ok (.astore_n 1, 1) := by decide +kernel
theorem dL_law_13 : decode cL_law 13 = .ok (.new 38, 3) := by decide +kernel
theorem dL_law_16 : decode cL_law 16 = .ok (.dup, 1) := by decide +kernel
theorem dL_law_17 : decode cL_law 17 = .ok (.aload_n 0, 1) := by decide +kernel
theorem dL_law_18 : decode cL_law 18 = .ok (.iconst 0, 1) := by decide +kernel
theorem dL_law_19 : decode cL_law 19 = .ok (.invokestatic 29, 3) := by decide +kernel
theorem dL_law_22 : decode cL_law 22 = .ok (.invokespecial 40, 3) := by decide +kernel
theorem dL_law_25 : decode cL_law 25 = .ok (.astore_n 2, 1) := by decide +kernel
theorem dL_law_26 : decode cL_law 26 = .ok (.iconst 1, 1) := by decide +kernel
theorem dL_law_27 : decode cL_law 27 = .ok (.newarray .long, 2) := by decide +kernel
theorem dL_law_29 : decode cL_law 29 = .ok (.astore_n 3, 1) := by decide +kernel
theorem dL_law_30 : decode cL_law 30 = .ok (.iconst 1, 1) := by decide +kernel
theorem dL_law_31 : decode cL_law 31 = .ok (.istore 4, 2) := by decide +kernel
theorem dL_law_33 : decode cL_law 33 = .ok (.iload 4, 2) := by decide +kernel
theorem dL_law_35 : decode cL_law 35 = .ok (.aload_n 0, 1) := by decide +kernel
theorem dL_law_36 : decode cL_law 36 = .ok (.arraylength, 1) := by decide +kernel
theorem dL_law_37 : decode cL_law 37 = .ok (.iconst 4, 1) := by decide +kernel
theorem dL_law_38 : decode cL_law 38 = .ok (.isub, 1) := by decide +kernel
theorem dL_law_39 : decode cL_law 39 = .ok (.if_icmp .gt 765, 3) := by decide +kernel
theorem dL_law_42 : decode cL_law 42 = .ok (.aload_n 0, 1) := by decide +kernel
theorem dL_law_43 : decode cL_law 43 = .ok (.iload 4, 2) := by decide +kernel
theorem dL_law_45 : decode cL_law 45 = .ok (.iaload, 1) := by decide +kernel
theorem dL_law_46 : decode cL_law 46 = .ok (.bipush 31, 2) := by decide +kernel
theorem dL_law_48 : decode cL_law 48 = .ok (.iand, 1) := by decide +kernel
theorem dL_law_49 : decode cL_law 49 = .ok (.tableswitch 749 0 17 #[87, 112, 149, 174, 211, 248, 301, 369, 449, 474, 487, 512, 537, 605, 630, 643, 711, 724], 87) := by decide +kernel
theorem dL_law_136 : decode cL_law 136 = .ok (.aload_n 1, 1) := by decide +kernel
theorem dL_law_137 : decode cL_law 137 = .ok (.aload_n 0, 1) := by decide +kernel
theorem dL_law_138 : decode cL_law 138 = .ok (.iload 4, 2) := by decide +kernel
theorem dL_law_140 : decode cL_law 140 = .ok (.iconst 1, 1) := by decide +kernel
theorem dL_law_141 : decode cL_law 141 = .ok (.iadd, 1) := by decide +kernel
theorem dL_law_142 : decode cL_law 142 = .ok (.iaload, 1) := by decide +kernel
theorem dL_law_143 : decode cL_law 143 = .ok (.invokevirtual 41, 3) := by decide +kernel
theorem dL_law_146 : decode cL_law 146 = .ok (.aload_n 2, 1) := by decide +kernel
theorem dL_law_147 : decode cL_law 147 = .ok (.aload_n 0, 1) := by decide +kernel
theorem dL_law_148 : decode cL_law 148 = .ok (.iload 4, 2) := by decide +kernel
theorem dL_law_150 : decode cL_law 150 = .ok (.iconst 1, 1) := by decide +kernel
theorem dL_law_151 : decode cL_law 151 = .ok (.iadd, 1) := by decide +kernel
theorem dL_law_152 : decode cL_law 152 = .ok (.iaload, 1) := by decide +kernel
theorem dL_law_153 : decode cL_law 153 = .ok (.invokevirtual 45, 3) := by decide +kernel
theorem dL_law_156 : decode cL_law 156 = .ok (.if_icmp .eq 642, 3) := by decide +kernel
theorem dL_law_159 : decode cL_law 159 = .ok (.iconst 0, 1) := by decide +kernel
theorem dL_law_160 : decode cL_law 160 = .ok (.ireturn, 1) := by decide +kernel
theorem dL_law_161 : decode cL_law 161 = .ok (.aload_n 1, 1) := by decide +kernel
theorem dL_law_162 : decode cL_law 162 = .ok (.aload_n 0, 1) := by decide +kernel
theorem dL_law_163 : decode cL_law 163 = .ok (.iload 4, 2) := by decide +kernel
theorem dL_law_165 : decode cL_law 165 = .ok (.iconst 1, 1) := by decide +kernel
theorem dL_law_166 : decode cL_law 166 = .ok (.iadd, 1) := by decide +kernel
theorem dL_law_167 : decode cL_law 167 = .ok (.iaload, 1) := by decide +kernel
theorem dL_law_168 : decode cL_law 168 = .ok (.aload_n 0, 1) := by decide +kernel
theorem dL_law_169 : decode cL_law 169 = .ok (.iload 4, 2) := by decide +kernel
theorem dL_law_171 : decode cL_law 171 = .ok (.iconst 2, 1) := by decide +kernel
theorem dL_law_172 : decode cL_law 172 = .ok (.iadd, 1) := by decide +kernel
theorem dL_law_173 : decode cL_law 173 = .ok (.iaload, 1) := by decide +kernel
theorem dL_law_174 : decode cL_law 174 = .ok (.invokevirtual 46, 3) := by decide +kernel
theorem dL_law_177 : decode cL_law 177 = .ok (.aload_n 2, 1) := by decide +kernel
theorem dL_law_178 : decode cL_law 178 = .ok (.aload_n 0, 1) := by decide +kernel
theorem dL_law_179 : decode cL_law 179 = .ok (.iload 4, 2) := by decide +kernel
theorem dL_law_181 : decode cL_law 181 = .ok (.iconst 1, 1) := by decide +kernel
theorem dL_law_182 : decode cL_law 182 = .ok (.iadd, 1) := by decide +kernel
theorem dL_law_183 : decode cL_law 183 = .ok (.iaload, 1) := by decide +kernel
theorem dL_law_184 : decode cL_law 184 = .ok (.aload_n 0, 1) := by decide +kernel
theorem dL_law_185 : decode cL_law 185 = .ok (.iload 4, 2) := by decide +kernel
theorem dL_law_187 : decode cL_law 187 = .ok (.iconst 2, 1) := by decide +kernel
theorem dL_law_188 : decode cL_law 188 = .ok (.iadd, 1) := by decide +kernel
theorem dL_law_189 : decode cL_law 189 = .ok (.iaload, 1) := by decide +kernel
theorem dL_law_190 : decode cL_law 190 = .ok (.invokevirtual 49, 3) := by decide +kernel
theorem dL_law_193 : decode cL_law 193 = .ok (.if_icmp .eq 605, 3) := by decide +kernel
theorem dL_law_196 : decode cL_law 196 = .ok (.iconst 0, 1) := by decide +kernel
theorem dL_law_197 : decode cL_law 197 = .ok (.ireturn, 1) := by decide +kernel
theorem dL_law_198 : decode cL_law 198 = .ok (.aload_n 1, 1) := by decide +kernel
theorem dL_law_199 : decode cL_law 199 = .ok (.aload_n 0, 1) := by decide +kernel
theorem dL_law_200 : decode cL_law 200 = .ok (.iload 4, 2) := by decide +kernel
theorem dL_law_202 : decode cL_law 202 = .ok (.iconst 1, 1) := by decide +kernel
theorem dL_law_203 : decode cL_law 203 = .ok (.iadd, 1) := by decide +kernel
theorem dL_law_204 : decode cL_law 204 = .ok (.iaload, 1) := by decide +kernel
theorem dL_law_205 : decode cL_law 205 = .ok (.invokevirtual 50, 3) := by decide +kernel
theorem dL_law_208 : decode cL_law 208 = .ok (.aload_n 2, 1) := by decide +kernel
theorem dL_law_209 : decode cL_law 209 = .ok (.aload_n 0, 1) := by decide +kernel
theorem dL_law_210 : decode cL_law 210 = .ok (.iload 4, 2) := by decide +kernel
theorem dL_law_212 : decode cL_law 212 = .ok (.iconst 1, 1) := by decide +kernel
theorem dL_law_213 : decode cL_law 213 = .ok (.iadd, 1) := by decide +kernel
theorem dL_law_214 : decode cL_law 214 = .ok (.iaload, 1) := by decide +kernel
theorem dL_law_215 : decode cL_law 215 = .ok (.invokevirtual 54, 3) := by decide +kernel
theorem dL_law_218 : decode cL_law 218 = .ok (.if_icmp .eq 580, 3) := by decide +kernel
theorem dL_law_221 : decode cL_law 221 = .ok (.iconst 0, 1) := by decide +kernel
theorem dL_law_222 : decode cL_law 222 = .ok (.ireturn, 1) := by decide +kernel
theorem dL_law_223 : decode cL_law 223 = .ok (.aload_n 1, 1) := by decide +kernel
theorem dL_law_224 : decode cL_law 224 = .ok (.aload_n 0, 1) := by decide +kernel
theorem dL_law_225 : decode cL_law 225 = .ok (.iload 4, 2) := by decide +kernel
theorem dL_law_227 : decode cL_law 227 = .ok (.iconst 1, 1) := by decide +kernel
theorem dL_law_228 : decode cL_law 228 = .ok (.iadd, 1) := by decide +kernel
theorem dL_law_229 : decode cL_law 229 = .ok (.iaload, 1) := by decide +kernel
theorem dL_law_230 : decode cL_law 230 = .ok (.aload_n 0, 1) := by decide +kernel
theorem dL_law_231 : decode cL_law 231 = .ok (.iload 4, 2) := by decide +kernel
theorem dL_law_233 : decode cL_law 233 = .ok (.iconst 2, 1) := by decide +kernel
theorem dL_law_234 : decode cL_law 234 = .ok (.iadd, 1) := by decide +kernel
theorem dL_law_235 : decode cL_law 235 = .ok (.iaload, 1) := by decide +kernel
theorem dL_law_236 : decode cL_law 236 = .ok (.invokevirtual 55, 3) := by decide +kernel
theorem dL_law_239 : decode cL_law 239 = .ok (.aload_n 2, 1) := by decide +kernel
theorem dL_law_240 : decode cL_law 240 = .ok (.aload_n 0, 1) := by decide +kernel
theorem dL_law_241 : decode cL_law 241 = .ok (.iload 4, 2) := by decide +kernel
theorem dL_law_243 : decode cL_law 243 = .ok (.iconst 1, 1) := by decide +kernel
theorem dL_law_244 : decode cL_law 244 = .ok (.iadd, 1) := by decide +kernel
theorem dL_law_245 : decode cL_law 245 = .ok (.iaload, 1) := by decide +kernel
theorem dL_law_246 : decode cL_law 246 = .ok (.aload_n 0, 1) := by decide +kernel
theorem dL_law_247 : decode cL_law 247 = .ok (.iload 4, 2) := by decide +kernel
theorem dL_law_249 : decode cL_law 249 = .ok (.iconst 2, 1) := by decide +kernel
theorem dL_law_250 : decode cL_law 250 = .ok (.iadd, 1) := by decide +kernel
theorem dL_law_251 : decode cL_law 251 = .ok (.iaload, 1) := by decide +kernel
theorem dL_law_252 : decode cL_law 252 = .ok (.invokevirtual 59, 3) := by decide +kernel
theorem dL_law_255 : decode cL_law 255 = .ok (.if_icmp .eq 543, 3) := by decide +kernel
theorem dL_law_258 : decode cL_law 258 = .ok (.iconst 0, 1) := by decide +kernel
theorem dL_law_259 : decode cL_law 259 = .ok (.ireturn, 1) := by decide +kernel
theorem dL_law_260 : decode cL_law 260 = .ok (.aload_n 1, 1) := by decide +kernel
theorem dL_law_261 : decode cL_law 261 = .ok (.aload_n 0, 1) := by decide +kernel
theorem dL_law_262 : decode cL_law 262 = .ok (.iload 4, 2) := by decide +kernel
theorem dL_law_264 : decode cL_law 264 = .ok (.iconst 1, 1) := by decide +kernel
theorem dL_law_265 : decode cL_law 265 = .ok (.iadd, 1) := by decide +kernel
theorem dL_law_266 : decode cL_law 266 = .ok (.iaload, 1) := by decide +kernel
theorem dL_law_267 : decode cL_law 267 = .ok (.aload_n 0, 1) := by decide +kernel
theorem dL_law_268 : decode cL_law 268 = .ok (.iload 4, 2) := by decide +kernel
theorem dL_law_270 : decode cL_law 270 = .ok (.iconst 2, 1) := by decide +kernel
theorem dL_law_271 : decode cL_law 271 = .ok (.iadd, 1) := by decide +kernel
theorem dL_law_272 : decode cL_law 272 = .ok (.iaload, 1) := by decide +kernel
theorem dL_law_273 : decode cL_law 273 = .ok (.invokevirtual 60, 3) := by decide +kernel
theorem dL_law_276 : decode cL_law 276 = .ok (.aload_n 2, 1) := by decide +kernel
theorem dL_law_277 : decode cL_law 277 = .ok (.aload_n 0, 1) := by decide +kernel
theorem dL_law_278 : decode cL_law 278 = .ok (.iload 4, 2) := by decide +kernel
theorem dL_law_280 : decode cL_law 280 = .ok (.iconst 1, 1) := by decide +kernel
theorem dL_law_281 : decode cL_law 281 = .ok (.iadd, 1) := by decide +kernel
theorem dL_law_282 : decode cL_law 282 = .ok (.iaload, 1) := by decide +kernel
theorem dL_law_283 : decode cL_law 283 = .ok (.aload_n 0, 1) := by decide +kernel
theorem dL_law_284 : decode cL_law 284 = .ok (.iload 4, 2) := by decide +kernel
theorem dL_law_286 : decode cL_law 286 = .ok (.iconst 2, 1) := by decide +kernel
theorem dL_law_287 : decode cL_law 287 = .ok (.iadd, 1) := by decide +kernel
theorem dL_law_288 : decode cL_law 288 = .ok (.iaload, 1) := by decide +kernel
theorem dL_law_289 : decode cL_law 289 = .ok (.invokevirtual 63, 3) := by decide +kernel
theorem dL_law_292 : decode cL_law 292 = .ok (.if_icmp .eq 506, 3) := by decide +kernel
theorem dL_law_295 : decode cL_law 295 = .ok (.iconst 0, 1) := by decide +kernel
theorem dL_law_296 : decode cL_law 296 = .ok (.ireturn, 1) := by decide +kernel
theorem dL_law_297 : decode cL_law 297 = .ok (.aload_n 1, 1) := by decide +kernel
theorem dL_law_298 : decode cL_law 298 = .ok (.aload_n 0, 1) := by decide +kernel
theorem dL_law_299 : decode cL_law 299 = .ok (.iload 4, 2) := by decide +kernel
theorem dL_law_301 : decode cL_law 301 = .ok (.iconst 1, 1) := by decide +kernel
theorem dL_law_302 : decode cL_law 302 = .ok (.iadd, 1) := by decide +kernel
theorem dL_law_303 : decode cL_law 303 = .ok (.iaload, 1) := by decide +kernel
theorem dL_law_304 : decode cL_law 304 = .ok (.aload_n 0, 1) := by decide +kernel
theorem dL_law_305 : decode cL_law 305 = .ok (.iload 4, 2) := by decide +kernel
theorem dL_law_307 : decode cL_law 307 = .ok (.iconst 2, 1) := by decide +kernel
theorem dL_law_308 : decode cL_law 308 = .ok (.iadd, 1) := by decide +kernel
theorem dL_law_309 : decode cL_law 309 = .ok (.iaload, 1) := by decide +kernel
theorem dL_law_310 : decode cL_law 310 = .ok (.ifCond .eq 7, 3) := by decide +kernel
theorem dL_law_313 : decode cL_law 313 = .ok (.iconst 1, 1) := by decide +kernel
theorem dL_law_314 : decode cL_law 314 = .ok (.goto 4, 3) := by decide +kernel
theorem dL_law_317 : decode cL_law 317 = .ok (.iconst 0, 1) := by decide +kernel
theorem dL_law_318 : decode cL_law 318 = .ok (.invokevirtual 64, 3) := by decide +kernel
theorem dL_law_321 : decode cL_law 321 = .ok (.aload_n 2, 1) := by decide +kernel
theorem dL_law_322 : decode cL_law 322 = .ok (.aload_n 0, 1) := by decide +kernel
theorem dL_law_323 : decode cL_law 323 = .ok (.iload 4, 2) := by decide +kernel
theorem dL_law_325 : decode cL_law 325 = .ok (.iconst 1, 1) := by decide +kernel
theorem dL_law_326 : decode cL_law 326 = .ok (.iadd, 1) := by decide +kernel
theorem dL_law_327 : decode cL_law 327 = .ok (.iaload, 1) := by decide +kernel
theorem dL_law_328 : decode cL_law 328 = .ok (.aload_n 0, 1) := by decide +kernel
theorem dL_law_329 : decode cL_law 329 = .ok (.iload 4, 2) := by decide +kernel
theorem dL_law_331 : decode cL_law 331 = .ok (.iconst 2, 1) := by decide +kernel
theorem dL_law_332 : decode cL_law 332 = .ok (.iadd, 1) := by decide +kernel
theorem dL_law_333 : decode cL_law 333 = .ok (.iaload, 1) := by decide +kernel
theorem dL_law_334 : decode cL_law 334 = .ok (.ifCond .eq 7, 3) := by decide +kernel
theorem dL_law_337 : decode cL_law 337 = .ok (.iconst 1, 1) := by decide +kernel
theorem dL_law_338 : decode cL_law 338 = .ok (.goto 4, 3) := by decide +kernel
theorem dL_law_341 : decode cL_law 341 = .ok (.iconst 0, 1) := by decide +kernel
theorem dL_law_342 : decode cL_law 342 = .ok (.invokevirtual 68, 3) := by decide +kernel
theorem dL_law_345 : decode cL_law 345 = .ok (.if_icmp .eq 453, 3) := by decide +kernel
theorem dL_law_348 : decode cL_law 348 = .ok (.iconst 0, 1) := by decide +kernel
theorem dL_law_349 : decode cL_law 349 = .ok (.ireturn, 1) := by decide +kernel
theorem dL_law_350 : decode cL_law 350 = .ok (.aload_n 1, 1) := by decide +kernel
theorem dL_law_351 : decode cL_law 351 = .ok (.aload_n 0, 1) := by decide +kernel
theorem dL_law_352 : decode cL_law 352 = .ok (.iload 4, 2) := by decide +kernel
theorem dL_law_354 : decode cL_law 354 = .ok (.iconst 1, 1) := by decide +kernel
theorem dL_law_355 : decode cL_law 355 = .ok (.iadd, 1) := by decide +kernel
theorem dL_law_356 : decode cL_law 356 = .ok (.iaload, 1) := by decide +kernel
theorem dL_law_357 : decode cL_law 357 = .ok (.aload_n 0, 1) := by decide +kernel
theorem dL_law_358 : decode cL_law 358 = .ok (.iload 4, 2) := by decide +kernel
theorem dL_law_360 : decode cL_law 360 = .ok (.iconst 2, 1) := by decide +kernel
theorem dL_law_361 : decode cL_law 361 = .ok (.iadd, 1) := by decide +kernel
theorem dL_law_362 : decode cL_law 362 = .ok (.iaload, 1) := by decide +kernel
theorem dL_law_363 : decode cL_law 363 = .ok (.aload_n 3, 1) := by decide +kernel
theorem dL_law_364 : decode cL_law 364 = .ok (.invokestatic 69, 3) := by decide +kernel
theorem dL_law_367 : decode cL_law 367 = .ok (.istore 5, 2) := by decide +kernel
theorem dL_law_369 : decode cL_law 369 = .ok (.aload_n 2, 1) := by decide +kernel
theorem dL_law_370 : decode cL_law 370 = .ok (.aload_n 0, 1) := by decide +kernel
theorem dL_law_371 : decode cL_law 371 = .ok (.iload 4, 2) := by decide +kernel
theorem dL_law_373 : decode cL_law 373 = .ok (.iconst 1, 1) := by decide +kernel
theorem dL_law_374 : decode cL_law 374 = .ok (.iadd, 1) := by decide +kernel
theorem dL_law_375 : decode cL_law 375 = .ok (.iaload, 1) := by decide +kernel
theorem dL_law_376 : decode cL_law 376 = .ok (.aload_n 0, 1) := by decide +kernel
theorem dL_law_377 : decode cL_law 377 = .ok (.iload 4, 2) := by decide +kernel
theorem dL_law_379 : decode cL_law 379 = .ok (.iconst 2, 1) := by decide +kernel
theorem dL_law_380 : decode cL_law 380 = .ok (.iadd, 1) := by decide +kernel
theorem dL_law_381 : decode cL_law 381 = .ok (.iaload, 1) := by decide +kernel
theorem dL_law_382 : decode cL_law 382 = .ok (.invokevirtual 72, 3) := by decide +kernel
theorem dL_law_385 : decode cL_law 385 = .ok (.istore 6, 2) := by decide +kernel
theorem dL_law_387 : decode cL_law 387 = .ok (.aload_n 2, 1) := by decide +kernel
theorem dL_law_388 : decode cL_law 388 = .ok (.invokevirtual 73, 3) := by decide +kernel
theorem dL_law_391 : decode cL_law 391 = .ok (.iload 5, 2) := by decide +kernel
theorem dL_law_393 : decode cL_law 393 = .ok (.if_icmp .eq 5, 3) := by decide +kernel
theorem dL_law_396 : decode cL_law 396 = .ok (.iconst 0, 1) := by decide +kernel
theorem dL_law_397 : decode cL_law 397 = .ok (.ireturn, 1) := by decide +kernel
theorem dL_law_398 : decode cL_law 398 = .ok (.iload 5, 2) := by decide +kernel
theorem dL_law_400 : decode cL_law 400 = .ok (.ifCond .ne 15, 3) := by decide +kernel
theorem dL_law_403 : decode cL_law 403 = .ok (.aload_n 3, 1) := by decide +kernel
theorem dL_law_404 : decode cL_law 404 = .ok (.iconst 0, 1) := by decide +kernel
theorem dL_law_405 : decode cL_law 405 = .ok (.laload, 1) := by decide +kernel
theorem dL_law_406 : decode cL_law 406 = .ok (.iload 6, 2) := by decide +kernel
theorem dL_law_408 : decode cL_law 408 = .ok (.i2l, 1) := by decide +kernel
theorem dL_law_409 : decode cL_law 409 = .ok (.lcmp, 1) := by decide +kernel
theorem dL_law_410 : decode cL_law 410 = .ok (.ifCond .eq 5, 3) := by decide +kernel
theorem dL_law_413 : decode cL_law 413 = .ok (.iconst 0, 1) := by decide +kernel
theorem dL_law_414 : decode cL_law 414 = .ok (.ireturn, 1) := by decide +kernel
theorem dL_law_415 : decode cL_law 415 = .ok (.goto 383, 3) := by decide +kernel
theorem dL_law_418 : decode cL_law 418 = .ok (.aload_n 1, 1) := by decide +kernel
theorem dL_law_419 : decode cL_law 419 = .ok (.aload_n 0, 1) := by decide +kernel
theorem dL_law_420 : decode cL_law 420 = .ok (.iload 4, 2) := by decide +kernel
theorem dL_law_422 : decode cL_law 422 = .ok (.iconst 1, 1) := by decide +kernel
theorem dL_law_423 : decode cL_law 423 = .ok (.iadd, 1) := by decide +kernel
theorem dL_law_424 : decode cL_law 424 = .ok (.iaload, 1) := by decide +kernel
theorem dL_law_425 : decode cL_law 425 = .ok (.aload_n 0, 1) := by decide +kernel
theorem dL_law_426 : decode cL_law 426 = .ok (.iload 4, 2) := by decide +kernel
theorem dL_law_428 : decode cL_law 428 = .ok (.iconst 2, 1) := by decide +kernel
theorem dL_law_429 : decode cL_law 429 = .ok (.iadd, 1) := by decide +kernel
theorem dL_law_430 : decode cL_law 430 = .ok (.iaload, 1) := by decide +kernel
theorem dL_law_431 : decode cL_law 431 = .ok (.aload_n 0, 1) := by decide +kernel
theorem dL_law_432 : decode cL_law 432 = .ok (.iload 4, 2) := by decide +kernel
theorem dL_law_434 : decode cL_law 434 = .ok (.iconst 3, 1) := by decide +kernel
theorem dL_law_435 : decode cL_law 435 = .ok (.iadd, 1) := by decide +kernel
theorem dL_law_436 : decode cL_law 436 = .ok (.iaload, 1) := by decide +kernel
theorem dL_law_437 : decode cL_law 437 = .ok (.aload_n 3, 1) := by decide +kernel
theorem dL_law_438 : decode cL_law 438 = .ok (.invokestatic 77, 3) := by decide +kernel
theorem dL_law_441 : decode cL_law 441 = .ok (.istore 5, 2) := by decide +kernel
theorem dL_law_443 : decode cL_law 443 = .ok (.aload_n 2, 1) := by decide +kernel
theorem dL_law_444 : decode cL_law 444 = .ok (.aload_n 0, 1) := by decide +kernel
theorem dL_law_445 : decode cL_law 445 = .ok (.iload 4, 2) := by decide +kernel
theorem dL_law_447 : decode cL_law 447 = .ok (.iconst 1, 1) := by decide +kernel
theorem dL_law_448 : decode cL_law 448 = .ok (.iadd, 1) := by decide +kernel
theorem dL_law_449 : decode cL_law 449 = .ok (.iaload, 1) := by decide +kernel
theorem dL_law_450 : decode cL_law 450 = .ok (.aload_n 0, 1) := by decide +kernel
theorem dL_law_451 : decode cL_law 451 = .ok (.iload 4, 2) := by decide +kernel
theorem dL_law_453 : decode cL_law 453 = .ok (.iconst 2, 1) := by decide +kernel
theorem dL_law_454 : decode cL_law 454 = .ok (.iadd, 1) := by decide +kernel
theorem dL_law_455 : decode cL_law 455 = .ok (.iaload, 1) := by decide +kernel
theorem dL_law_456 : decode cL_law 456 = .ok (.aload_n 0, 1) := by decide +kernel
theorem dL_law_457 : decode cL_law 457 = .ok (.iload 4, 2) := by decide +kernel
theorem dL_law_459 : decode cL_law 459 = .ok (.iconst 3, 1) := by decide +kernel
theorem dL_law_460 : decode cL_law 460 = .ok (.iadd, 1) := by decide +kernel
theorem dL_law_461 : decode cL_law 461 = .ok (.iaload, 1) := by decide +kernel
theorem dL_law_462 : decode cL_law 462 = .ok (.invokevirtual 80, 3) := by decide +kernel
theorem dL_law_465 : decode cL_law 465 = .ok (.istore 6, 2) := by decide +kernel
theorem dL_law_467 : decode cL_law 467 = .ok (.aload_n 2, 1) := by decide +kernel
theorem dL_law_468 : decode cL_law 468 = .ok (.invokevirtual 73, 3) := by decide +kernel
theorem dL_law_471 : decode cL_law 471 = .ok (.iload 5, 2) := by decide +kernel
theorem dL_law_473 : decode cL_law 473 = .ok (.if_icmp .eq 5, 3) := by decide +kernel
theorem dL_law_476 : decode cL_law 476 = .ok (.iconst 0, 1) := by decide +kernel
theorem dL_law_477 : decode cL_law 477 = .ok (.ireturn, 1) := by decide +kernel
theorem dL_law_478 : decode cL_law 478 = .ok (.iload 5, 2) := by decide +kernel
theorem dL_law_480 : decode cL_law 480 = .ok (.ifCond .ne 15, 3) := by decide +kernel
theorem dL_law_483 : decode cL_law 483 = .ok (.aload_n 3, 1) := by decide +kernel
theorem dL_law_484 : decode cL_law 484 = .ok (.iconst 0, 1) := by decide +kernel
theorem dL_law_485 : decode cL_law 485 = .ok (.laload, 1) := by decide +kernel
theorem dL_law_486 : decode cL_law 486 = .ok (.iload 6, 2) := by decide +kernel
theorem dL_law_488 : decode cL_law 488 = .ok (.i2l, 1) := by decide +kernel
theorem dL_law_489 : decode cL_law 489 = .ok (.lcmp, 1) := by decide +kernel
theorem dL_law_490 : decode cL_law 490 = .ok (.ifCond .eq 5, 3) := by decide +kernel
theorem dL_law_493 : decode cL_law 493 = .ok (.iconst 0, 1) := by decide +kernel
theorem dL_law_494 : decode cL_law 494 = .ok (.ireturn, 1) := by decide +kernel
theorem dL_law_495 : decode cL_law 495 = .ok (.goto 303, 3) := by decide +kernel
theorem dL_law_498 : decode cL_law 498 = .ok (.aload_n 1, 1) := by decide +kernel
theorem dL_law_499 : decode cL_law 499 = .ok (.aload_n 0, 1) := by decide +kernel
theorem dL_law_500 : decode cL_law 500 = .ok (.iload 4, 2) := by decide +kernel
theorem dL_law_502 : decode cL_law 502 = .ok (.iconst 1, 1) := by decide +kernel
theorem dL_law_503 : decode cL_law 503 = .ok (.iadd, 1) := by decide +kernel
theorem dL_law_504 : decode cL_law 504 = .ok (.iaload, 1) := by decide +kernel
theorem dL_law_505 : decode cL_law 505 = .ok (.invokevirtual 81, 3) := by decide +kernel
theorem dL_law_508 : decode cL_law 508 = .ok (.aload_n 2, 1) := by decide +kernel
theorem dL_law_509 : decode cL_law 509 = .ok (.aload_n 0, 1) := by decide +kernel
theorem dL_law_510 : decode cL_law 510 = .ok (.iload 4, 2) := by decide +kernel
theorem dL_law_512 : decode cL_law 512 = .ok (.iconst 1, 1) := by decide +kernel
theorem dL_law_513 : decode cL_law 513 = .ok (.iadd, 1) := by decide +kernel
theorem dL_law_514 : decode cL_law 514 = .ok (.iaload, 1) := by decide +kernel
theorem dL_law_515 : decode cL_law 515 = .ok (.invokevirtual 84, 3) := by decide +kernel
theorem dL_law_518 : decode cL_law 518 = .ok (.if_icmp .eq 280, 3) := by decide +kernel
theorem dL_law_521 : decode cL_law 521 = .ok (.iconst 0, 1) := by decide +kernel
theorem dL_law_522 : decode cL_law 522 = .ok (.ireturn, 1) := by decide +kernel
theorem dL_law_523 : decode cL_law 523 = .ok (.aload_n 1, 1) := by decide +kernel
theorem dL_law_524 : decode cL_law 524 = .ok (.invokevirtual 85, 3) := by decide +kernel
theorem dL_law_527 : decode cL_law 527 = .ok (.aload_n 2, 1) := by decide +kernel
theorem dL_law_528 : decode cL_law 528 = .ok (.invokevirtual 88, 3) := by decide +kernel
theorem dL_law_531 : decode cL_law 531 = .ok (.if_icmp .eq 267, 3) := by decide +kernel
theorem dL_law_534 : decode cL_law 534 = .ok (.iconst 0, 1) := by decide +kernel
theorem dL_law_535 : decode cL_law 535 = .ok (.ireturn, 1) := by decide +kernel
theorem dL_law_536 : decode cL_law 536 = .ok (.aload_n 1, 1) := by decide +kernel
theorem dL_law_537 : decode cL_law 537 = .ok (.aload_n 0, 1) := by decide +kernel
theorem dL_law_538 : decode cL_law 538 = .ok (.iload 4, 2) := by decide +kernel
theorem dL_law_540 : decode cL_law 540 = .ok (.iconst 1, 1) := by decide +kernel
theorem dL_law_541 : decode cL_law 541 = .ok (.iadd, 1) := by decide +kernel
theorem dL_law_542 : decode cL_law 542 = .ok (.iaload, 1) := by decide +kernel
theorem dL_law_543 : decode cL_law 543 = .ok (.invokevirtual 89, 3) := by decide +kernel
theorem dL_law_546 : decode cL_law 546 = .ok (.aload_n 2, 1) := by decide +kernel
theorem dL_law_547 : decode cL_law 547 = .ok (.aload_n 0, 1) := by decide +kernel
theorem dL_law_548 : decode cL_law 548 = .ok (.iload 4, 2) := by decide +kernel
theorem dL_law_550 : decode cL_law 550 = .ok (.iconst 1, 1) := by decide +kernel
theorem dL_law_551 : decode cL_law 551 = .ok (.iadd, 1) := by decide +kernel
theorem dL_law_552 : decode cL_law 552 = .ok (.iaload, 1) := by decide +kernel
theorem dL_law_553 : decode cL_law 553 = .ok (.invokevirtual 92, 3) := by decide +kernel
theorem dL_law_556 : decode cL_law 556 = .ok (.if_icmp .eq 242, 3) := by decide +kernel
theorem dL_law_559 : decode cL_law 559 = .ok (.iconst 0, 1) := by decide +kernel
theorem dL_law_560 : decode cL_law 560 = .ok (.ireturn, 1) := by decide +kernel
theorem dL_law_561 : decode cL_law 561 = .ok (.aload_n 1, 1) := by decide +kernel
theorem dL_law_562 : decode cL_law 562 = .ok (.aload_n 0, 1) := by decide +kernel
theorem dL_law_563 : decode cL_law 563 = .ok (.iload 4, 2) := by decide +kernel
theorem dL_law_565 : decode cL_law 565 = .ok (.iconst 1, 1) := by decide +kernel
theorem dL_law_566 : decode cL_law 566 = .ok (.iadd, 1) := by decide +kernel
theorem dL_law_567 : decode cL_law 567 = .ok (.iaload, 1) := by decide +kernel
theorem dL_law_568 : decode cL_law 568 = .ok (.invokevirtual 93, 3) := by decide +kernel
theorem dL_law_571 : decode cL_law 571 = .ok (.aload_n 2, 1) := by decide +kernel
theorem dL_law_572 : decode cL_law 572 = .ok (.aload_n 0, 1) := by decide +kernel
theorem dL_law_573 : decode cL_law 573 = .ok (.iload 4, 2) := by decide +kernel
theorem dL_law_575 : decode cL_law 575 = .ok (.iconst 1, 1) := by decide +kernel
theorem dL_law_576 : decode cL_law 576 = .ok (.iadd, 1) := by decide +kernel
theorem dL_law_577 : decode cL_law 577 = .ok (.iaload, 1) := by decide +kernel
theorem dL_law_578 : decode cL_law 578 = .ok (.invokevirtual 96, 3) := by decide +kernel
theorem dL_law_581 : decode cL_law 581 = .ok (.if_icmp .eq 217, 3) := by decide +kernel
theorem dL_law_584 : decode cL_law 584 = .ok (.iconst 0, 1) := by decide +kernel
theorem dL_law_585 : decode cL_law 585 = .ok (.ireturn, 1) := by decide +kernel
theorem dL_law_586 : decode cL_law 586 = .ok (.aload_n 1, 1) := by decide +kernel
theorem dL_law_587 : decode cL_law 587 = .ok (.aload_n 0, 1) := by decide +kernel
theorem dL_law_588 : decode cL_law 588 = .ok (.iload 4, 2) := by decide +kernel
theorem dL_law_590 : decode cL_law 590 = .ok (.iconst 1, 1) := by decide +kernel
theorem dL_law_591 : decode cL_law 591 = .ok (.iadd, 1) := by decide +kernel
theorem dL_law_592 : decode cL_law 592 = .ok (.iaload, 1) := by decide +kernel
theorem dL_law_593 : decode cL_law 593 = .ok (.aload_n 0, 1) := by decide +kernel
theorem dL_law_594 : decode cL_law 594 = .ok (.iload 4, 2) := by decide +kernel
theorem dL_law_596 : decode cL_law 596 = .ok (.iconst 2, 1) := by decide +kernel
theorem dL_law_597 : decode cL_law 597 = .ok (.iadd, 1) := by decide +kernel
theorem dL_law_598 : decode cL_law 598 = .ok (.iaload, 1) := by decide +kernel
theorem dL_law_599 : decode cL_law 599 = .ok (.aload_n 3, 1) := by decide +kernel
theorem dL_law_600 : decode cL_law 600 = .ok (.invokestatic 97, 3) := by decide +kernel
theorem dL_law_603 : decode cL_law 603 = .ok (.istore 5, 2) := by decide +kernel
theorem dL_law_605 : decode cL_law 605 = .ok (.aload_n 2, 1) := by decide +kernel
theorem dL_law_606 : decode cL_law 606 = .ok (.aload_n 0, 1) := by decide +kernel
theorem dL_law_607 : decode cL_law 607 = .ok (.iload 4, 2) := by decide +kernel
theorem dL_law_609 : decode cL_law 609 = .ok (.iconst 1, 1) := by decide +kernel
theorem dL_law_610 : decode cL_law 610 = .ok (.iadd, 1) := by decide +kernel
theorem dL_law_611 : decode cL_law 611 = .ok (.iaload, 1) := by decide +kernel
theorem dL_law_612 : decode cL_law 612 = .ok (.aload_n 0, 1) := by decide +kernel
theorem dL_law_613 : decode cL_law 613 = .ok (.iload 4, 2) := by decide +kernel
theorem dL_law_615 : decode cL_law 615 = .ok (.iconst 2, 1) := by decide +kernel
theorem dL_law_616 : decode cL_law 616 = .ok (.iadd, 1) := by decide +kernel
theorem dL_law_617 : decode cL_law 617 = .ok (.iaload, 1) := by decide +kernel
theorem dL_law_618 : decode cL_law 618 = .ok (.invokevirtual 99, 3) := by decide +kernel
theorem dL_law_621 : decode cL_law 621 = .ok (.istore 6, 2) := by decide +kernel
theorem dL_law_623 : decode cL_law 623 = .ok (.aload_n 2, 1) := by decide +kernel
theorem dL_law_624 : decode cL_law 624 = .ok (.invokevirtual 73, 3) := by decide +kernel
theorem dL_law_627 : decode cL_law 627 = .ok (.iload 5, 2) := by decide +kernel
theorem dL_law_629 : decode cL_law 629 = .ok (.if_icmp .eq 5, 3) := by decide +kernel
theorem dL_law_632 : decode cL_law 632 = .ok (.iconst 0, 1) := by decide +kernel
theorem dL_law_633 : decode cL_law 633 = .ok (.ireturn, 1) := by decide +kernel
theorem dL_law_634 : decode cL_law 634 = .ok (.iload 5, 2) := by decide +kernel
theorem dL_law_636 : decode cL_law 636 = .ok (.ifCond .ne 15, 3) := by decide +kernel
theorem dL_law_639 : decode cL_law 639 = .ok (.aload_n 3, 1) := by decide +kernel
theorem dL_law_640 : decode cL_law 640 = .ok (.iconst 0, 1) := by decide +kernel
theorem dL_law_641 : decode cL_law 641 = .ok (.laload, 1) := by decide +kernel
theorem dL_law_642 : decode cL_law 642 = .ok (.iload 6, 2) := by decide +kernel
theorem dL_law_644 : decode cL_law 644 = .ok (.i2l, 1) := by decide +kernel
theorem dL_law_645 : decode cL_law 645 = .ok (.lcmp, 1) := by decide +kernel
theorem dL_law_646 : decode cL_law 646 = .ok (.ifCond .eq 5, 3) := by decide +kernel
theorem dL_law_649 : decode cL_law 649 = .ok (.iconst 0, 1) := by decide +kernel
theorem dL_law_650 : decode cL_law 650 = .ok (.ireturn, 1) := by decide +kernel
theorem dL_law_651 : decode cL_law 651 = .ok (.goto 147, 3) := by decide +kernel
theorem dL_law_654 : decode cL_law 654 = .ok (.aload_n 1, 1) := by decide +kernel
theorem dL_law_655 : decode cL_law 655 = .ok (.aload_n 0, 1) := by decide +kernel
theorem dL_law_656 : decode cL_law 656 = .ok (.iload 4, 2) := by decide +kernel
theorem dL_law_658 : decode cL_law 658 = .ok (.iconst 1, 1) := by decide +kernel
theorem dL_law_659 : decode cL_law 659 = .ok (.iadd, 1) := by decide +kernel
theorem dL_law_660 : decode cL_law 660 = .ok (.iaload, 1) := by decide +kernel
theorem dL_law_661 : decode cL_law 661 = .ok (.invokevirtual 100, 3) := by decide +kernel
theorem dL_law_664 : decode cL_law 664 = .ok (.aload_n 2, 1) := by decide +kernel
theorem dL_law_665 : decode cL_law 665 = .ok (.aload_n 0, 1) := by decide +kernel
theorem dL_law_666 : decode cL_law 666 = .ok (.iload 4, 2) := by decide +kernel
theorem dL_law_668 : decode cL_law 668 = .ok (.iconst 1, 1) := by decide +kernel
theorem dL_law_669 : decode cL_law 669 = .ok (.iadd, 1) := by decide +kernel
theorem dL_law_670 : decode cL_law 670 = .ok (.iaload, 1) := by decide +kernel
theorem dL_law_671 : decode cL_law 671 = .ok (.invokevirtual 103, 3) := by decide +kernel
theorem dL_law_674 : decode cL_law 674 = .ok (.if_icmp .eq 124, 3) := by decide +kernel
theorem dL_law_677 : decode cL_law 677 = .ok (.iconst 0, 1) := by decide +kernel
theorem dL_law_678 : decode cL_law 678 = .ok (.ireturn, 1) := by decide +kernel
theorem dL_law_679 : decode cL_law 679 = .ok (.aload_n 1, 1) := by decide +kernel
theorem dL_law_680 : decode cL_law 680 = .ok (.invokevirtual 104, 3) := by decide +kernel
theorem dL_law_683 : decode cL_law 683 = .ok (.aload_n 2, 1) := by decide +kernel
theorem dL_law_684 : decode cL_law 684 = .ok (.invokevirtual 107, 3) := by decide +kernel
theorem dL_law_687 : decode cL_law 687 = .ok (.if_icmp .eq 111, 3) := by decide +kernel
theorem dL_law_690 : decode cL_law 690 = .ok (.iconst 0, 1) := by decide +kernel
theorem dL_law_691 : decode cL_law 691 = .ok (.ireturn, 1) := by decide +kernel
theorem dL_law_692 : decode cL_law 692 = .ok (.aload_n 1, 1) := by decide +kernel
theorem dL_law_693 : decode cL_law 693 = .ok (.aload_n 0, 1) := by decide +kernel
theorem dL_law_694 : decode cL_law 694 = .ok (.iload 4, 2) := by decide +kernel
theorem dL_law_696 : decode cL_law 696 = .ok (.iconst 1, 1) := by decide +kernel
theorem dL_law_697 : decode cL_law 697 = .ok (.iadd, 1) := by decide +kernel
theorem dL_law_698 : decode cL_law 698 = .ok (.iaload, 1) := by decide +kernel
theorem dL_law_699 : decode cL_law 699 = .ok (.aload_n 0, 1) := by decide +kernel
theorem dL_law_700 : decode cL_law 700 = .ok (.iload 4, 2) := by decide +kernel
theorem dL_law_702 : decode cL_law 702 = .ok (.iconst 2, 1) := by decide +kernel
theorem dL_law_703 : decode cL_law 703 = .ok (.iadd, 1) := by decide +kernel
theorem dL_law_704 : decode cL_law 704 = .ok (.iaload, 1) := by decide +kernel
theorem dL_law_705 : decode cL_law 705 = .ok (.aload_n 3, 1) := by decide +kernel
theorem dL_law_706 : decode cL_law 706 = .ok (.invokestatic 108, 3) := by decide +kernel
theorem dL_law_709 : decode cL_law 709 = .ok (.istore 5, 2) := by decide +kernel
theorem dL_law_711 : decode cL_law 711 = .ok (.aload_n 2, 1) := by decide +kernel
theorem dL_law_712 : decode cL_law 712 = .ok (.aload_n 0, 1) := by decide +kernel
theorem dL_law_713 : decode cL_law 713 = .ok (.iload 4, 2) := by decide +kernel
theorem dL_law_715 : decode cL_law 715 = .ok (.iconst 1, 1) := by decide +kernel
theorem dL_law_716 : decode cL_law 716 = .ok (.iadd, 1) := by decide +kernel
theorem dL_law_717 : decode cL_law 717 = .ok (.iaload, 1) := by decide +kernel
theorem dL_law_718 : decode cL_law 718 = .ok (.aload_n 0, 1) := by decide +kernel
theorem dL_law_719 : decode cL_law 719 = .ok (.iload 4, 2) := by decide +kernel
theorem dL_law_721 : decode cL_law 721 = .ok (.iconst 2, 1) := by decide +kernel
theorem dL_law_722 : decode cL_law 722 = .ok (.iadd, 1) := by decide +kernel
theorem dL_law_723 : decode cL_law 723 = .ok (.iaload, 1) := by decide +kernel
theorem dL_law_724 : decode cL_law 724 = .ok (.invokevirtual 110, 3) := by decide +kernel
theorem dL_law_727 : decode cL_law 727 = .ok (.istore 6, 2) := by decide +kernel
theorem dL_law_729 : decode cL_law 729 = .ok (.aload_n 2, 1) := by decide +kernel
theorem dL_law_730 : decode cL_law 730 = .ok (.invokevirtual 73, 3) := by decide +kernel
theorem dL_law_733 : decode cL_law 733 = .ok (.iload 5, 2) := by decide +kernel
theorem dL_law_735 : decode cL_law 735 = .ok (.if_icmp .eq 5, 3) := by decide +kernel
theorem dL_law_738 : decode cL_law 738 = .ok (.iconst 0, 1) := by decide +kernel
theorem dL_law_739 : decode cL_law 739 = .ok (.ireturn, 1) := by decide +kernel
theorem dL_law_740 : decode cL_law 740 = .ok (.iload 5, 2) := by decide +kernel
theorem dL_law_742 : decode cL_law 742 = .ok (.ifCond .ne 15, 3) := by decide +kernel
theorem dL_law_745 : decode cL_law 745 = .ok (.aload_n 3, 1) := by decide +kernel
theorem dL_law_746 : decode cL_law 746 = .ok (.iconst 0, 1) := by decide +kernel
theorem dL_law_747 : decode cL_law 747 = .ok (.laload, 1) := by decide +kernel
theorem dL_law_748 : decode cL_law 748 = .ok (.iload 6, 2) := by decide +kernel
theorem dL_law_750 : decode cL_law 750 = .ok (.i2l, 1) := by decide +kernel
theorem dL_law_751 : decode cL_law 751 = .ok (.lcmp, 1) := by decide +kernel
theorem dL_law_752 : decode cL_law 752 = .ok (.ifCond .eq 5, 3) := by decide +kernel
theorem dL_law_755 : decode cL_law 755 = .ok (.iconst 0, 1) := by decide +kernel
theorem dL_law_756 : decode cL_law 756 = .ok (.ireturn, 1) := by decide +kernel
theorem dL_law_757 : decode cL_law 757 = .ok (.goto 41, 3) := by decide +kernel
theorem dL_law_760 : decode cL_law 760 = .ok (.aload_n 1, 1) := by decide +kernel
theorem dL_law_761 : decode cL_law 761 = .ok (.invokevirtual 111, 3) := by decide +kernel
theorem dL_law_764 : decode cL_law 764 = .ok (.aload_n 2, 1) := by decide +kernel
theorem dL_law_765 : decode cL_law 765 = .ok (.invokevirtual 114, 3) := by decide +kernel
theorem dL_law_768 : decode cL_law 768 = .ok (.if_icmp .eq 30, 3) := by decide +kernel
theorem dL_law_771 : decode cL_law 771 = .ok (.iconst 0, 1) := by decide +kernel
theorem dL_law_772 : decode cL_law 772 = .ok (.ireturn, 1) := by decide +kernel
theorem dL_law_773 : decode cL_law 773 = .ok (.aload_n 1, 1) := by decide +kernel
theorem dL_law_774 : decode cL_law 774 = .ok (.aload_n 0, 1) := by decide +kernel
theorem dL_law_775 : decode cL_law 775 = .ok (.iload 4, 2) := by decide +kernel
theorem dL_law_777 : decode cL_law 777 = .ok (.iconst 1, 1) := by decide +kernel
theorem dL_law_778 : decode cL_law 778 = .ok (.iadd, 1) := by decide +kernel
theorem dL_law_779 : decode cL_law 779 = .ok (.iaload, 1) := by decide +kernel
theorem dL_law_780 : decode cL_law 780 = .ok (.invokevirtual 115, 3) := by decide +kernel
theorem dL_law_783 : decode cL_law 783 = .ok (.aload_n 2, 1) := by decide +kernel
theorem dL_law_784 : decode cL_law 784 = .ok (.aload_n 0, 1) := by decide +kernel
theorem dL_law_785 : decode cL_law 785 = .ok (.iload 4, 2) := by decide +kernel
theorem dL_law_787 : decode cL_law 787 = .ok (.iconst 1, 1) := by decide +kernel
theorem dL_law_788 : decode cL_law 788 = .ok (.iadd, 1) := by decide +kernel
theorem dL_law_789 : decode cL_law 789 = .ok (.iaload, 1) := by decide +kernel
theorem dL_law_790 : decode cL_law 790 = .ok (.invokevirtual 118, 3) := by decide +kernel
theorem dL_law_793 : decode cL_law 793 = .ok (.if_icmp .eq 5, 3) := by decide +kernel
theorem dL_law_796 : decode cL_law 796 = .ok (.iconst 0, 1) := by decide +kernel
theorem dL_law_797 : decode cL_law 797 = .ok (.ireturn, 1) := by decide +kernel
theorem dL_law_798 : decode cL_law 798 = .ok (.iinc 4 4, 3) := by decide +kernel
theorem dL_law_801 : decode cL_law 801 = .ok (.goto (-768), 3) := by decide +kernel
theorem dL_law_804 : decode cL_law 804 = .ok (.iconst 1, 1) := by decide +kernel
theorem dL_law_805 : decode cL_law 805 = .ok (.ireturn, 1) := by decide +kernel
end
section
/-! A pure state: numbers by their places, rows by the places of their cells. -/
abbrev CS : Type := (Nat → Int32) × (Nat → Nat → Int32)
def setF (σ : CS) (k : Nat) (v : Int32) : CS := (upd σ.1 k v, σ.2)
def setR (σ : CS) (k : Nat) (f : Nat → Int32) : CS := (σ.1, fun j => if j = k then f else σ.2 j)
def setA (σ : CS) (k i : Nat) (v : Int32) : CS := setR σ k (upd (σ.2 k) i v)
abbrev vwX : List vw_C := [(RX0, TX0, 8), (RX1, TX1, 3), (RX2, TX2, 4), (RX3, TX3, 3), (RX4, TX4, 5), (RX5, TX5, 18)]
/-- the room of a method by its height over the leaves -/
def rmK (k : Nat) : Room := { frames := 4 + 4 * k, cells := 0, slots := 0, locals := 100 + 100 * k }
def wC (y : MethodName) (cc : ByteArray) (nL : Nat) (ret : Option FieldType) : List Cond := Cond.code y cc nL ret :: wAll
theorem good_mem {w : Cond} (h : w ∈ wAll) : w ∈ wAll ∧ ((w.onTables && w.keeps) = true ∨ ∃ ty, w = .arrayClass ty) := ⟨h, good_of_word (List.all_eq_true.mp wAll_good w h)⟩
/-- the world of a walk: the tables, the cells, apart, nothing else written -/
def WD (D : va_G) (tys : List (ClassId × FieldType)) (ws : va_W) (A : Nat → Prop) (s : State) (H : Heap) (locs : List Loc) : Prop :=
  va_K D vwX tys s ∧ va_P D vwX ws H ∧ va_D A ws ∧ va_S A s.heap H locs ∧ ∀ q, s.heap.size ≤ q → A q
def MB (p : Program) (s : State) (m : MethodId) (args : Array Value) (meth : Method) (c : Code) (cc : ByteArray) (nL : Nat) (ret : Option FieldType) (own : String) : Prop :=
  p.tables.exec = Jvm.exec ∧ c.code = cc ∧ meth.sig.returnType = ret ∧ c.maxLocals = nL ∧ s.vm.findClass own = some m.cls ∧ (∀ w ∈ wAll, w.before args s = true) ∧ meth.locks = false
def Pre0 (D : va_G) (tys : List (ClassId × FieldType)) (ws : va_W) (sz : Nat) (U : State) : Prop :=
  U.heap.size = sz ∧ va_P D vwX ws U.heap ∧ va_K D vwX tys U ∧ va_D (fun _ => True) ws
def Pos0 {S : Type} (D : va_G) (tys : List (ClassId × FieldType)) (cf : S → va_W) (A : Nat → Prop) (σ : S) (t : State) : Prop :=
  va_P D vwX (cf σ) t.heap ∧ va_K D vwX tys t ∧ va_D A (cf σ)
/-- contracts: the answer and the state behind the call meet post -/
def MtI {S : Type} (l : Launch) (D : va_G) (tys : List (ClassId × FieldType)) (cf : S → va_W) (y : MethodName) (cc : ByteArray) (nL : Nat) (ret : Option FieldType) (rm : Room) (av : List Value) (σ : S) (post : Int32 → S → Prop) : Prop :=
  ∀ sz, Met l y (wC y cc nL ret) rm (va_Pc av (Pre0 D tys (cf σ) sz)) (va_Qi post (Pos0 D tys cf (va_A (cf σ) sz)) (va_A (cf σ) sz)) 0 0 (va_A (cf σ) sz)
def MtV {S : Type} (l : Launch) (D : va_G) (tys : List (ClassId × FieldType)) (cf : S → va_W) (y : MethodName) (cc : ByteArray) (nL : Nat) (ret : Option FieldType) (rm : Room) (av : List Value) (σ : S) (post : S → Prop) : Prop :=
  ∀ sz, Met l y (wC y cc nL ret) rm (va_Pc av (Pre0 D tys (cf σ) sz)) (va_Qv post (Pos0 D tys cf (va_A (cf σ) sz)) (va_A (cf σ) sz)) 0 0 (va_A (cf σ) sz)
theorem WD_free {D : va_G} {tys : List (ClassId × FieldType)} {ws : va_W} {A : Nat → Prop} {s : State} {H : Heap} {locs : List Loc} (hw : WD D tys ws A s H locs) : ∀ q, va_A ws H.size q → A q := by
  intro q h
  rcases h with ⟨k, e, h⟩ | h
  · exact hw.2.2.1.2 k _ h
  · exact hw.2.2.2.2 q (Nat.le_trans hw.2.2.2.1.1 h)
section WORLD
variable {p : Program} {l : Launch} {e : Env} {R : Room} {s : State} {m : MethodId} {args : Array Value} {below : List Frame} {meth : Method} {c : Code} {H : Heap} {locs : List Loc} {cells slots : Nat} {Q : State → Prop}
variable {pc : Nat} {ls : Array Slot} {rest st0 : List Value} {A : Nat → Prop} {D : va_G} {tys : List (ClassId × FieldType)} {S : Type} {cf : S → va_W} {σ : S} {cc : ByteArray} {nL : Nat} {ret : Option FieldType} {own : String}
set_option maxHeartbeats 4000000 in
theorem MtI_of {y : MethodName} {rm : Room} {av : List Value} {post : Int32 → S → Prop} (hpl : plainName y.cls = true) (hlen : (lg_sl av).length ≤ nL)
    (K : ∀ (p : Program) (e : Env) (s : State) (m : MethodId) (below : List Frame) (meth : Method) (c : Code) (A : Nat → Prop) (ls : Array Slot), MB p s m av.toArray meth c cc nL ret y.cls → WD D tys (cf σ) A s s.heap [] → lv_has ls nL (lv_args 0 av) → W p l e rm s m av.toArray below meth c s.heap [] 0 0 (MQ below (va_Qi post (Pos0 D tys cf A) A) av.toArray s 0 0 A) (F0 m 0 ls [])) :
    MtI l D tys cf y cc nL ret rm av σ post := by
  intro sz
  refine Met.ofW (cc := cc) (maxL := nL) (ret := ret) hpl rfl ?_
  intro p e s m args below meth c s₁ B hml hv
  obtain ⟨rfl, hsz, hP, hK, hD0⟩ := hv
  subst hsz
  have hts := atoms_spec (ws := wC y cc nL ret) B.pre
  have hown : s.vm.findClass y.cls = some m.cls := findClass_of_methodNamed B.named
  have hl := lv_entry av (n := nL) hlen
  rw [lg_entry_eq]
  exact K p e s m below meth c _ _ ⟨B.exec, B.bytes, B.returns, hml, hown, fun w h => hts w (List.mem_cons_of_mem _ h), B.notSynchronized⟩ ⟨hK, hP, hD0.self (sz := s.heap.size), va_S.rf, fun q h => Or.inr h⟩ hl
set_option maxHeartbeats 4000000 in
theorem MtV_of {y : MethodName} {rm : Room} {av : List Value} {post : S → Prop} (hpl : plainName y.cls = true) (hlen : (lg_sl av).length ≤ nL)
    (K : ∀ (p : Program) (e : Env) (s : State) (m : MethodId) (below : List Frame) (meth : Method) (c : Code) (A : Nat → Prop) (ls : Array Slot), MB p s m av.toArray meth c cc nL ret y.cls → WD D tys (cf σ) A s s.heap [] → lv_has ls nL (lv_args 0 av) → W p l e rm s m av.toArray below meth c s.heap [] 0 0 (MQ below (va_Qv post (Pos0 D tys cf A) A) av.toArray s 0 0 A) (F0 m 0 ls [])) :
    MtV l D tys cf y cc nL ret rm av σ post := by
  intro sz
  refine Met.ofW (cc := cc) (maxL := nL) (ret := ret) hpl rfl ?_
  intro p e s m args below meth c s₁ B hml hv
  obtain ⟨rfl, hsz, hP, hK, hD0⟩ := hv
  subst hsz
  have hts := atoms_spec (ws := wC y cc nL ret) B.pre
  have hown : s.vm.findClass y.cls = some m.cls := findClass_of_methodNamed B.named
  have hl := lv_entry av (n := nL) hlen
  rw [lg_entry_eq]
  exact K p e s m below meth c _ _ ⟨B.exec, B.bytes, B.returns, hml, hown, fun w h => hts w (List.mem_cons_of_mem _ h), B.notSynchronized⟩ ⟨hK, hP, hD0.self (sz := s.heap.size), va_S.rf, fun q h => Or.inr h⟩ hl
theorem w_iret {post : Int32 → S → Prop} {v : Int32} (hB : MB p s m args meth c cc nL (some .int) own) (hw : WD D tys (cf σ) A s H locs) (hp : post v σ) (hdg : decode cc pc = .ok (.ireturn, 1)) :
    W p l e R s m args below meth c H locs 0 0 (MQ below (va_Qi post (Pos0 D tys cf A) A) args s 0 0 A) (F0 m pc ls [.int v]) := by
  obtain ⟨hx, hb, hr, hml, hown, hts, hlk⟩ := hB
  exact W.iret hx hb hr (fun t ht hW => ⟨⟨v, σ, rfl, hp, by rw [ht]; exact hw.2.1, va_K.moved hW.alike hw.1, hw.2.2.1⟩, hw.2.2.2.1.F ht⟩) hw.2.2.2.1.2.2 hdg hlk
theorem w_zret {post : Int32 → S → Prop} {v : Int32} {ty : FieldType} (hB : MB p s m args meth c cc nL (some ty) own) (hw : WD D tys (cf σ) A s H locs) (hn : narrow ty (.int v) = .int v) (hp : post v σ) (hdg : decode cc pc = .ok (.ireturn, 1)) :
    W p l e R s m args below meth c H locs 0 0 (MQ below (va_Qi post (Pos0 D tys cf A) A) args s 0 0 A) (F0 m pc ls [.int v]) := by
  obtain ⟨hx, hb, hr, hml, hown, hts, hlk⟩ := hB
  exact W.zret hx hb hr hn (fun t ht hW => ⟨⟨v, σ, rfl, hp, by rw [ht]; exact hw.2.1, va_K.moved hW.alike hw.1, hw.2.2.1⟩, hw.2.2.2.1.F ht⟩) hw.2.2.2.1.2.2 hdg hlk
theorem w_vret {post : S → Prop} (hB : MB p s m args meth c cc nL none own) (hw : WD D tys (cf σ) A s H locs) (hp : post σ) (hdg : decode cc pc = .ok (.return_, 1)) :
    W p l e R s m args below meth c H locs 0 0 (MQ below (va_Qv post (Pos0 D tys cf A) A) args s 0 0 A) (F0 m pc ls []) := by
  obtain ⟨hx, hb, hr, hml, hown, hts, hlk⟩ := hB
  exact W.vret hx hb hr (fun t ht hW => ⟨⟨σ, rfl, hp, by rw [ht]; exact hw.2.1, va_K.moved hW.alike hw.1, hw.2.2.1⟩, hw.2.2.2.1.F ht⟩) hw.2.2.2.1.2.2 hdg hlk
theorem good_V {own C : String} {idx : Nat} {y : MethodName} {ycc : ByteArray} {ynL : Nat} {yret : Option FieldType} (h1 : Cond.methodLink own idx y ∈ wAll) (h2 : Cond.instanceMethod y ∈ wAll) (h3 : Cond.selects C y y ∈ wAll) (h4 : Cond.initialized C ∈ wAll) (h5 : Cond.code y ycc ynL yret ∈ wAll) : GoodIn wAll (wsV own idx C y (wC y ycc ynL yret)) := by
  intro w hw
  rcases List.mem_append.mp hw with h | h
  · rcases List.mem_cons.mp h with rfl | h
    · exact good_mem h1
    rcases List.mem_cons.mp h with rfl | h
    · exact good_mem h2
    rcases List.mem_cons.mp h with rfl | h
    · exact good_mem h3
    rcases List.mem_cons.mp h with rfl | h
    · exact good_mem h4
    cases h
  · rcases List.mem_cons.mp h with rfl | h
    · exact good_mem h5
    · exact good_mem h
theorem good_S {own : String} {idx : Nat} {y : MethodName} {ycc : ByteArray} {ynL : Nat} {yret : Option FieldType} (h1 : Cond.methodLink own idx y ∈ wAll) (h2 : Cond.static y ∈ wAll) (h4 : Cond.initialized y.cls ∈ wAll) (h5 : Cond.code y ycc ynL yret ∈ wAll) : GoodIn wAll (va_wsS own idx y (wC y ycc ynL yret)) := by
  intro w hw
  rcases List.mem_append.mp hw with h | h
  · rcases List.mem_cons.mp h with rfl | h
    · exact good_mem h1
    rcases List.mem_cons.mp h with rfl | h
    · exact good_mem h2
    rcases List.mem_cons.mp h with rfl | h
    · exact good_mem h4
    cases h
  · rcases List.mem_cons.mp h with rfl | h
    · exact good_mem h5
    · exact good_mem h
def okY (y : MethodName) (n : Nat) : Prop := y.cls ≠ "java/lang/invoke/MethodHandle" ∧ y.cls ≠ "java/lang/invoke/VarHandle" ∧ (parseMethodDescriptor y.desc).map (fun d => d.parameters.length) = some n
def okR (rm : Room) (ynL : Nat) (R : Room) : Prop := rm.cells = 0 ∧ rm.slots = 0 ∧ rm.frames + 1 ≤ R.frames ∧ 8 + (ynL + 11) + rm.locals ≤ R.locals
theorem okR_K {a b n : Nat} (h : a < b) (hn : n ≤ 80) : okR (rmK a) n (rmK b) := by
  refine ⟨rfl, rfl, ?_, ?_⟩
  · show 4 + 4 * a + 1 ≤ 4 + 4 * b
    omega
  · show 8 + (n + 11) + (100 + 100 * a) ≤ 100 + 100 * b
    omega
set_option maxHeartbeats 4000000 in
/-- a virtual call that answers an int, in the same world -/
theorem w_cVI {y : MethodName} {ycc : ByteArray} {ynL n idx q0 ci N : Nat} {yret : Option FieldType} {rm : Room} {b : Nat} {fs : List Value} {T : u_T} {C : String} {As : List Value} {post : Int32 → S → Prop}
    (hB : MB p s m args meth c cc nL ret own) (hw : WD D tys (cf σ) A s H locs) (hl : ls.size = nL) (hM : MtI l D tys cf y ycc ynL yret rm (.ref b :: As) σ post)
    (h1 : Cond.methodLink own idx y ∈ wAll) (h2 : Cond.instanceMethod y ∈ wAll) (h3 : Cond.selects C y y ∈ wAll) (h4 : Cond.initialized C ∈ wAll) (h5 : Cond.code y ycc ynL yret ∈ wAll) (hC : y.cls = C) (hd : okY y n) (hR : okR rm ynL R)
    (he : (cf σ)[q0]? = some (b, .inr (ci, fs))) (hci : vwX[ci]? = some (C, T, N)) (hn : As.length = n) (hst : st0 = As.reverse ++ .ref b :: rest) (hrest : (rest.map fun v => v.category).sum ≤ 8) (hdg : decode cc pc = .ok (.invokevirtual idx, 3))
    (kk : ∀ (r : Int32) (σ' : S) (H : Heap) (locs : List Loc), post r σ' → WD D tys (cf σ') A s H locs → W p l e R s m args below meth c H locs 0 0 Q (F0 m (pc + 3) ls (.int r :: rest))) :
    W p l e R s m args below meth c H locs 0 0 Q (F0 m pc ls st0) := by
  obtain ⟨hx, hb, hr, hml, hown, hts, hlk⟩ := hB
  obtain ⟨hK, hP, hD, hS, hA⟩ := id hw
  have hF := WD_free hw
  subst hst
  refine va_calli (va_runV (As := As) (rest := rest) ⟨hx, hb, hml, hown, hts⟩ (hM H.size) (cwV n hts (good_V h1 h2 h3 h4 h5) rfl hR.1 hR.2.1 ⟨hC, hd⟩ hR.2.2) ⟨fun a U g mk q => by obtain ⟨q0, q1, qP, qK, qD⟩ := q; exact ⟨q0, q1, qP, va_K.moved (u := U) (U := U.calling g mk a) (Vm.Alike.refl U.vm) qK, qD⟩, va_recv hK hP hci he, fun U hU hW => ⟨rfl, by rw [hU], by rw [hU]; exact hP, va_K.moved hW.alike hK, hD.weaken (fun _ _ _ _ => trivial)⟩⟩ rfl hn hl rfl (lv_room hrest) hdg ⟨Nat.zero_le _, Nat.zero_le _⟩) hS (fun q _ h => hF q h) hF (fun r u t H1 locs1 ht hvm hp hB hz1 hk1 hS1 => ?_)
  obtain ⟨hP1, hK1, hD1⟩ := hB
  rw [ht] at hP1
  exact kk r u H1 locs1 hp ⟨va_K.moved hvm.symm hK1, hP1, hD1.weaken (fun _ _ _ h => hF _ h), hS1, hA⟩
set_option maxHeartbeats 4000000 in
theorem w_cVV {y : MethodName} {ycc : ByteArray} {ynL n idx q0 ci N : Nat} {yret : Option FieldType} {rm : Room} {b : Nat} {fs : List Value} {T : u_T} {C : String} {As : List Value} {post : S → Prop}
    (hB : MB p s m args meth c cc nL ret own) (hw : WD D tys (cf σ) A s H locs) (hl : ls.size = nL) (hM : MtV l D tys cf y ycc ynL yret rm (.ref b :: As) σ post)
    (h1 : Cond.methodLink own idx y ∈ wAll) (h2 : Cond.instanceMethod y ∈ wAll) (h3 : Cond.selects C y y ∈ wAll) (h4 : Cond.initialized C ∈ wAll) (h5 : Cond.code y ycc ynL yret ∈ wAll) (hC : y.cls = C) (hd : okY y n) (hR : okR rm ynL R)
    (he : (cf σ)[q0]? = some (b, .inr (ci, fs))) (hci : vwX[ci]? = some (C, T, N)) (hn : As.length = n) (hst : st0 = As.reverse ++ .ref b :: rest) (hrest : (rest.map fun v => v.category).sum ≤ 8) (hdg : decode cc pc = .ok (.invokevirtual idx, 3))
    (kk : ∀ (σ' : S) (H : Heap) (locs : List Loc), post σ' → WD D tys (cf σ') A s H locs → W p l e R s m args below meth c H locs 0 0 Q (F0 m (pc + 3) ls rest)) :
    W p l e R s m args below meth c H locs 0 0 Q (F0 m pc ls st0) := by
  obtain ⟨hx, hb, hr, hml, hown, hts, hlk⟩ := hB
  obtain ⟨hK, hP, hD, hS, hA⟩ := id hw
  have hF := WD_free hw
  subst hst
  refine va_callv (va_runV (As := As) (rest := rest) ⟨hx, hb, hml, hown, hts⟩ (hM H.size) (cwV n hts (good_V h1 h2 h3 h4 h5) rfl hR.1 hR.2.1 ⟨hC, hd⟩ hR.2.2) ⟨fun a U g mk q => by obtain ⟨q0, q1, qP, qK, qD⟩ := q; exact ⟨q0, q1, qP, va_K.moved (u := U) (U := U.calling g mk a) (Vm.Alike.refl U.vm) qK, qD⟩, va_recv hK hP hci he, fun U hU hW => ⟨rfl, by rw [hU], by rw [hU]; exact hP, va_K.moved hW.alike hK, hD.weaken (fun _ _ _ _ => trivial)⟩⟩ rfl hn hl rfl (lv_room hrest) hdg ⟨Nat.zero_le _, Nat.zero_le _⟩) hS (fun q _ h => hF q h) hF (fun u t H1 locs1 ht hvm hp hB hz1 hk1 hS1 => ?_)
  obtain ⟨hP1, hK1, hD1⟩ := hB
  rw [ht] at hP1
  exact kk u H1 locs1 hp ⟨va_K.moved hvm.symm hK1, hP1, hD1.weaken (fun _ _ _ h => hF _ h), hS1, hA⟩
set_option maxHeartbeats 4000000 in
theorem w_cSI {y : MethodName} {ycc : ByteArray} {ynL n idx : Nat} {yret : Option FieldType} {rm : Room} {As : List Value} {post : Int32 → S → Prop}
    (hB : MB p s m args meth c cc nL ret own) (hw : WD D tys (cf σ) A s H locs) (hl : ls.size = nL) (hM : MtI l D tys cf y ycc ynL yret rm As σ post)
    (h1 : Cond.methodLink own idx y ∈ wAll) (h2 : Cond.static y ∈ wAll) (h4 : Cond.initialized y.cls ∈ wAll) (h5 : Cond.code y ycc ynL yret ∈ wAll) (hd : okY y n) (hR : okR rm ynL R)
    (hn : As.length = n) (hst : st0 = As.reverse ++ rest) (hrest : (rest.map fun v => v.category).sum ≤ 8) (hdg : decode cc pc = .ok (.invokestatic idx, 3))
    (kk : ∀ (r : Int32) (σ' : S) (H : Heap) (locs : List Loc), post r σ' → WD D tys (cf σ') A s H locs → W p l e R s m args below meth c H locs 0 0 Q (F0 m (pc + 3) ls (.int r :: rest))) :
    W p l e R s m args below meth c H locs 0 0 Q (F0 m pc ls st0) := by
  obtain ⟨hx, hb, hr, hml, hown, hts, hlk⟩ := hB
  obtain ⟨hK, hP, hD, hS, hA⟩ := id hw
  have hF := WD_free hw
  subst hst
  refine va_calli (va_runS (As := As) (rest := rest) ⟨hx, hb, hml, hown, hts⟩ (hM H.size) (va_cwS n hts (good_S h1 h2 h4 h5) rfl hR.1 hR.2.1 hd hR.2.2) ⟨fun a U g mk q => by obtain ⟨q0, q1, qP, qK, qD⟩ := q; exact ⟨q0, q1, qP, va_K.moved (u := U) (U := U.calling g mk a) (Vm.Alike.refl U.vm) qK, qD⟩, fun U hU hW => ⟨rfl, by rw [hU], by rw [hU]; exact hP, va_K.moved hW.alike hK, hD.weaken (fun _ _ _ _ => trivial)⟩⟩ rfl hn hl rfl (lv_room hrest) hdg ⟨Nat.zero_le _, Nat.zero_le _⟩) hS (fun q _ h => hF q h) hF (fun r u t H1 locs1 ht hvm hp hB hz1 hk1 hS1 => ?_)
  obtain ⟨hP1, hK1, hD1⟩ := hB
  rw [ht] at hP1
  exact kk r u H1 locs1 hp ⟨va_K.moved hvm.symm hK1, hP1, hD1.weaken (fun _ _ _ h => hF _ h), hS1, hA⟩
set_option maxHeartbeats 4000000 in
theorem w_cSV {y : MethodName} {ycc : ByteArray} {ynL n idx : Nat} {yret : Option FieldType} {rm : Room} {As : List Value} {post : S → Prop}
    (hB : MB p s m args meth c cc nL ret own) (hw : WD D tys (cf σ) A s H locs) (hl : ls.size = nL) (hM : MtV l D tys cf y ycc ynL yret rm As σ post)
    (h1 : Cond.methodLink own idx y ∈ wAll) (h2 : Cond.static y ∈ wAll) (h4 : Cond.initialized y.cls ∈ wAll) (h5 : Cond.code y ycc ynL yret ∈ wAll) (hd : okY y n) (hR : okR rm ynL R)
    (hn : As.length = n) (hst : st0 = As.reverse ++ rest) (hrest : (rest.map fun v => v.category).sum ≤ 8) (hdg : decode cc pc = .ok (.invokestatic idx, 3))
    (kk : ∀ (σ' : S) (H : Heap) (locs : List Loc), post σ' → WD D tys (cf σ') A s H locs → W p l e R s m args below meth c H locs 0 0 Q (F0 m (pc + 3) ls rest)) :
    W p l e R s m args below meth c H locs 0 0 Q (F0 m pc ls st0) := by
  obtain ⟨hx, hb, hr, hml, hown, hts, hlk⟩ := hB
  obtain ⟨hK, hP, hD, hS, hA⟩ := id hw
  have hF := WD_free hw
  subst hst
  refine va_callv (va_runS (As := As) (rest := rest) ⟨hx, hb, hml, hown, hts⟩ (hM H.size) (va_cwS n hts (good_S h1 h2 h4 h5) rfl hR.1 hR.2.1 hd hR.2.2) ⟨fun a U g mk q => by obtain ⟨q0, q1, qP, qK, qD⟩ := q; exact ⟨q0, q1, qP, va_K.moved (u := U) (U := U.calling g mk a) (Vm.Alike.refl U.vm) qK, qD⟩, fun U hU hW => ⟨rfl, by rw [hU], by rw [hU]; exact hP, va_K.moved hW.alike hK, hD.weaken (fun _ _ _ _ => trivial)⟩⟩ rfl hn hl rfl (lv_room hrest) hdg ⟨Nat.zero_le _, Nat.zero_le _⟩) hS (fun q _ h => hF q h) hF (fun u t H1 locs1 ht hvm hp hB hz1 hk1 hS1 => ?_)
  obtain ⟨hP1, hK1, hD1⟩ := hB
  rw [ht] at hP1
  exact kk u H1 locs1 hp ⟨va_K.moved hvm.symm hK1, hP1, hD1.weaken (fun _ _ _ h => hF _ h), hS1, hA⟩
/-- a field is read -/
theorem w_get {own ref C : String} {T : u_T} {N ci index a : Nat} {ws : va_W} (hB : MB p s m args meth c cc nL ret own) (hw : WD D tys ws A s H locs) (hin : ∀ w ∈ u_ws C T N, w ∈ wAll) (q0 : Nat) {fs : List Value} (he : ws[q0]? = some (a, .inr (ci, fs))) (hc : vwX[ci]? = some (C, T, N)) (k : Nat) (hk : k < N) (hlink : Cond.fieldLink own index ref (T k).2.1 (T k).2.2.1 ∈ wAll) (hr : (T k).1 = ref) {v : Value} (hv : fs[k]? = some v) (hdg : decode cc pc = .ok (.getfield index, 3))
    (kk : W p l e R s m args below meth c H locs cells slots Q (F0 m (pc + 3) ls (v :: rest))) : W p l e R s m args below meth c H locs cells slots Q (F0 m pc ls (.ref a :: rest)) := by
  obtain ⟨hx, hb, -, -, hown, hts, -⟩ := hB
  subst hr
  exact va_get hx hb hts hin hown hw.1 hw.2.1 q0 he hc k hk (hts _ hlink) (fun _ h => h) hv hdg kk
/-- a field is written -/
theorem w_put {own ref C : String} {T : u_T} {N ci index a : Nat} {ws ws' : va_W} (hB : MB p s m args meth c cc nL ret own) (hw : WD D tys ws A s H locs) (hin : ∀ w ∈ u_ws C T N, w ∈ wAll) (ty0 : Nat → FieldType) (hty : ∀ k, k < N → parseFieldDescriptor (T k).2.2.1 = some (ty0 k)) (hnm : ∀ a, a < N → ∀ b, b < N → a ≠ b → (T a).2.1 ≠ (T b).2.1) (q0 : Nat) {fs : List Value} (he : ws[q0]? = some (a, .inr (ci, fs))) (hc : vwX[ci]? = some (C, T, N)) (k : Nat) (hk : k < N) (hlink : Cond.fieldLink own index ref (T k).2.1 (T k).2.2.1 ∈ wAll) (hr : (T k).1 = ref) (hfin : (T k).2.2.2 = false) {ty : FieldType} {v : Value} (hd : parseFieldDescriptor (T k).2.2.1 = some ty) (hn : narrow ty v = v) (hfit : fits ty v = true) (hl : k < fs.length) (hws : ws.set q0 (a, .inr (ci, fs.set k v)) = ws')
    (hdg : decode cc pc = .ok (.putfield index, 3)) (kk : ∀ (H1 : Heap) (locs1 : List Loc), WD D tys ws' A s H1 locs1 → W p l e R s m args below meth c H1 locs1 cells slots Q (F0 m (pc + 3) ls rest)) : W p l e R s m args below meth c H locs cells slots Q (F0 m pc ls (v :: .ref a :: rest)) := by
  obtain ⟨hx, hb, -, -, hown, hts, -⟩ := hB
  subst hr
  subst hws
  exact va_put hx hb hts hin ty0 hty hnm hown hw.1 hw.2.1 hw.2.2.1 hw.2.2.2.1 q0 he hc k hk (hts _ hlink) (fun _ h => h) hfin hd hn hfit hl hdg (fun H1 locs1 h1 h2 h3 => kk H1 locs1 ⟨hw.1, h1, h2, h3, hw.2.2.2.2⟩)
theorem w_iald {a : Nat} {ws : va_W} (hB : MB p s m args meth c cc nL ret own) (hw : WD D tys ws A s H locs) (q0 t0 : Nat) {cA : ClassId} {n : Nat} {f : Nat → Int32} (ha : ws[q0]? = some (a, .inl (cA, n, .inl f))) (ht : tys[t0]? = some (cA, .int)) {i : Int32} (hin : vp_in i n) (hdg : decode cc pc = .ok (.iaload, 1))
    (kk : W p l e R s m args below meth c H locs cells slots Q (F0 m (pc + 1) ls (.int (f i.toNatClampNeg) :: rest))) : W p l e R s m args below meth c H locs cells slots Q (F0 m pc ls (.int i :: .ref a :: rest)) :=
  va_iald hB.1 hB.2.1 hw.1 hw.2.1 q0 t0 ha ht hin hdg kk
theorem w_zald {a : Nat} {ws : va_W} (hB : MB p s m args meth c cc nL ret own) (hw : WD D tys ws A s H locs) (q0 t0 : Nat) {cA : ClassId} {n : Nat} {f : Nat → Int32} (ha : ws[q0]? = some (a, .inl (cA, n, .inl f))) (ht : tys[t0]? = some (cA, .boolean)) {i : Int32} (hin : vp_in i n) (hdg : decode cc pc = .ok (.baload, 1))
    (kk : W p l e R s m args below meth c H locs cells slots Q (F0 m (pc + 1) ls (.int (f i.toNatClampNeg) :: rest))) : W p l e R s m args below meth c H locs cells slots Q (F0 m pc ls (.int i :: .ref a :: rest)) :=
  va_zald hB.1 hB.2.1 hw.1 hw.2.1 q0 t0 ha ht hin hdg kk
theorem w_iast {a : Nat} {ws ws' : va_W} (hB : MB p s m args meth c cc nL ret own) (hw : WD D tys ws A s H locs) (q0 t0 : Nat) {cA : ClassId} {n : Nat} {f : Nat → Int32} (ha : ws[q0]? = some (a, .inl (cA, n, .inl f))) (ht : tys[t0]? = some (cA, .int)) {i x : Int32} (hin : vp_in i n) (hws : ws.set q0 (a, .inl (cA, n, .inl (upd f i.toNatClampNeg x))) = ws') (hdg : decode cc pc = .ok (.iastore, 1))
    (kk : ∀ (H1 : Heap) (locs1 : List Loc), WD D tys ws' A s H1 locs1 → W p l e R s m args below meth c H1 locs1 cells slots Q (F0 m (pc + 1) ls rest)) : W p l e R s m args below meth c H locs cells slots Q (F0 m pc ls (.int x :: .int i :: .ref a :: rest)) := by
  subst hws
  exact va_iast hB.1 hB.2.1 hw.1 hw.2.1 hw.2.2.1 hw.2.2.2.1 q0 t0 ha ht hin hdg (fun H1 locs1 h1 h2 h3 => kk H1 locs1 ⟨hw.1, h1, h2, h3, hw.2.2.2.2⟩)
theorem w_zast {a : Nat} {ws ws' : va_W} (hB : MB p s m args meth c cc nL ret own) (hw : WD D tys ws A s H locs) (q0 t0 : Nat) {cA : ClassId} {n : Nat} {f : Nat → Int32} (ha : ws[q0]? = some (a, .inl (cA, n, .inl f))) (ht : tys[t0]? = some (cA, .boolean)) {i x : Int32} (hin : vp_in i n) (hws : ws.set q0 (a, .inl (cA, n, .inl (upd f i.toNatClampNeg (vp_nar .boolean x)))) = ws') (hdg : decode cc pc = .ok (.bastore, 1))
    (kk : ∀ (H1 : Heap) (locs1 : List Loc), WD D tys ws' A s H1 locs1 → W p l e R s m args below meth c H1 locs1 cells slots Q (F0 m (pc + 1) ls rest)) : W p l e R s m args below meth c H locs cells slots Q (F0 m pc ls (.int x :: .int i :: .ref a :: rest)) := by
  subst hws
  exact va_zast hB.1 hB.2.1 hw.1 hw.2.1 hw.2.2.1 hw.2.2.2.1 q0 t0 ha ht hin hdg (fun H1 locs1 h1 h2 h3 => kk H1 locs1 ⟨hw.1, h1, h2, h3, hw.2.2.2.2⟩)
end WORLD
end
section
def cellsC (ad ln : Nat → Nat) (cI : ClassId) (σ : CS) : va_W := [(ad 0, .inr (4, [.ref (ad 1), .ref (ad 2), .ref (ad 6), .ref (ad 9), .ref (ad 18)])),
  (ad 1, .inl (cI, ln 1, .inl (σ.2 1))),
  (ad 2, .inr (2, [.ref (ad 3), .ref (ad 4), .ref (ad 5), .int (σ.1 0)])),
  (ad 3, .inl (cI, ln 3, .inl (σ.2 3))),
  (ad 4, .inl (cI, ln 4, .inl (σ.2 4))),
  (ad 5, .inl (cI, ln 5, .inl (σ.2 5))),
  (ad 6, .inr (3, [.ref (ad 2), .ref (ad 7), .ref (ad 8)])),
  (ad 7, .inl (cI, ln 7, .inl (σ.2 7))),
  (ad 8, .inl (cI, ln 8, .inl (σ.2 8))),
  (ad 9, .inr (0, [.ref (ad 10), .int (σ.1 1), .int (σ.1 2), .ref (ad 2), .ref (ad 13), .ref (ad 16), .int (σ.1 3), .ref (ad 17)])),
  (ad 10, .inr (1, [.ref (ad 11), .ref (ad 12), .int (σ.1 4)])),
  (ad 11, .inl (cI, ln 11, .inl (σ.2 11))),
  (ad 12, .inl (cI, ln 12, .inl (σ.2 12))),
  (ad 13, .inr (1, [.ref (ad 14), .ref (ad 15), .int (σ.1 5)])),
  (ad 14, .inl (cI, ln 14, .inl (σ.2 14))),
  (ad 15, .inl (cI, ln 15, .inl (σ.2 15))),
  (ad 16, .inl (cI, ln 16, .inl (σ.2 16))),
  (ad 17, .inl (cI, ln 17, .inl (σ.2 17))),
  (ad 18, .inr (1, [.ref (ad 19), .ref (ad 20), .int (σ.1 6)])),
  (ad 19, .inl (cI, ln 19, .inl (σ.2 19))),
  (ad 20, .inl (cI, ln 20, .inl (σ.2 20)))]
abbrev tyC (cI : ClassId) : List (ClassId × FieldType) := [(cI, .int)]
section CELLSC
variable {p : Program} {l : Launch} {e : Env} {R : Room} {s : State} {m : MethodId} {args : Array Value} {below : List Frame} {meth : Method} {c : Code} {H : Heap} {locs : List Loc} {cells slots : Nat} {Q : State → Prop}
variable {pc : Nat} {ls : Array Slot} {rest : List Value} {A : Nat → Prop} {D : va_G} {ad ln : Nat → Nat} {cI : ClassId} {σ : CS} {cc : ByteArray} {nL : Nat} {ret : Option FieldType} {own : String} {index : Nat}
theorem gC_0_0 (hB : MB p s m args meth c cc nL ret own) (hw : WD D (tyC cI) (cellsC ad ln cI σ) A s H locs) (hk : Cond.fieldLink own index "RunHeap" "memory" "[I" ∈ wAll) (hdg : decode cc pc = .ok (.getfield index, 3)) (kk : W p l e R s m args below meth c H locs cells slots Q (F0 m (pc + 3) ls (.ref (ad 1) :: rest))) : W p l e R s m args below meth c H locs cells slots Q (F0 m pc ls (.ref (ad 0) :: rest)) :=
  w_get hB hw inA_wsX40 0 rfl rfl 0 (by decide) hk rfl rfl hdg kk
theorem gC_0_1 (hB : MB p s m args meth c cc nL ret own) (hw : WD D (tyC cI) (cellsC ad ln cI σ) A s H locs) (hk : Cond.fieldLink own index "RunHeap" "row" "LRunHeap$Row;" ∈ wAll) (hdg : decode cc pc = .ok (.getfield index, 3)) (kk : W p l e R s m args below meth c H locs cells slots Q (F0 m (pc + 3) ls (.ref (ad 2) :: rest))) : W p l e R s m args below meth c H locs cells slots Q (F0 m pc ls (.ref (ad 0) :: rest)) :=
  w_get hB hw inA_wsX40 0 rfl rfl 1 (by decide) hk rfl rfl hdg kk
theorem gC_0_2 (hB : MB p s m args meth c cc nL ret own) (hw : WD D (tyC cI) (cellsC ad ln cI σ) A s H locs) (hk : Cond.fieldLink own index "RunHeap" "tree" "LRunHeap$Tree;" ∈ wAll) (hdg : decode cc pc = .ok (.getfield index, 3)) (kk : W p l e R s m args below meth c H locs cells slots Q (F0 m (pc + 3) ls (.ref (ad 6) :: rest))) : W p l e R s m args below meth c H locs cells slots Q (F0 m pc ls (.ref (ad 0) :: rest)) :=
  w_get hB hw inA_wsX40 0 rfl rfl 2 (by decide) hk rfl rfl hdg kk
theorem gC_0_3 (hB : MB p s m args meth c cc nL ret own) (hw : WD D (tyC cI) (cellsC ad ln cI σ) A s H locs) (hk : Cond.fieldLink own index "RunHeap" "adviser" "LRunHeap$Adviser;" ∈ wAll) (hdg : decode cc pc = .ok (.getfield index, 3)) (kk : W p l e R s m args below meth c H locs cells slots Q (F0 m (pc + 3) ls (.ref (ad 9) :: rest))) : W p l e R s m args below meth c H locs cells slots Q (F0 m pc ls (.ref (ad 0) :: rest)) :=
  w_get hB hw inA_wsX40 0 rfl rfl 3 (by decide) hk rfl rfl hdg kk
theorem gC_0_4 (hB : MB p s m args meth c cc nL ret own) (hw : WD D (tyC cI) (cellsC ad ln cI σ) A s H locs) (hk : Cond.fieldLink own index "RunHeap" "applied" "LRunHeap$Moves;" ∈ wAll) (hdg : decode cc pc = .ok (.getfield index, 3)) (kk : W p l e R s m args below meth c H locs cells slots Q (F0 m (pc + 3) ls (.ref (ad 18) :: rest))) : W p l e R s m args below meth c H locs cells slots Q (F0 m pc ls (.ref (ad 0) :: rest)) :=
  w_get hB hw inA_wsX40 0 rfl rfl 4 (by decide) hk rfl rfl hdg kk
theorem aC_1 {i : Int32} {f : Nat → Int32} (hB : MB p s m args meth c cc nL ret own) (hw : WD D (tyC cI) (cellsC ad ln cI σ) A s H locs) (hf : σ.2 1 = f) (hin : vp_in i (ln 1)) (hdg : decode cc pc = .ok (.iaload, 1)) (kk : W p l e R s m args below meth c H locs cells slots Q (F0 m (pc + 1) ls (.int (f i.toNatClampNeg) :: rest))) : W p l e R s m args below meth c H locs cells slots Q (F0 m pc ls (.int i :: .ref (ad 1) :: rest)) := by
  subst hf
  exact w_iald hB hw 1 0 rfl rfl hin hdg kk
theorem sC_1 {i x : Int32} (hB : MB p s m args meth c cc nL ret own) (hw : WD D (tyC cI) (cellsC ad ln cI σ) A s H locs) (hin : vp_in i (ln 1)) (hdg : decode cc pc = .ok (.iastore, 1)) (kk : ∀ (H1 : Heap) (locs1 : List Loc), WD D (tyC cI) (cellsC ad ln cI (setA σ 1 i.toNatClampNeg x)) A s H1 locs1 → W p l e R s m args below meth c H1 locs1 cells slots Q (F0 m (pc + 1) ls rest)) : W p l e R s m args below meth c H locs cells slots Q (F0 m pc ls (.int x :: .int i :: .ref (ad 1) :: rest)) :=
  w_iast hB hw 1 0 rfl rfl hin rfl hdg kk
theorem nC_1 {x : Int32} (hB : MB p s m args meth c cc nL ret own) (hw : WD D (tyC cI) (cellsC ad ln cI σ) A s H locs) (hx : nI (ln 1) = x) (hdg : decode cc pc = .ok (.arraylength, 1)) (kk : W p l e R s m args below meth c H locs cells slots Q (F0 m (pc + 1) ls (.int x :: rest))) : W p l e R s m args below meth c H locs cells slots Q (F0 m pc ls (.ref (ad 1) :: rest)) :=
  va_alen hB.1 hB.2.1 hw.1 hw.2.1 1 0 rfl rfl hx hdg kk
theorem gC_2_0 (hB : MB p s m args meth c cc nL ret own) (hw : WD D (tyC cI) (cellsC ad ln cI σ) A s H locs) (hk : Cond.fieldLink own index "RunHeap$Row" "address" "[I" ∈ wAll) (hdg : decode cc pc = .ok (.getfield index, 3)) (kk : W p l e R s m args below meth c H locs cells slots Q (F0 m (pc + 3) ls (.ref (ad 3) :: rest))) : W p l e R s m args below meth c H locs cells slots Q (F0 m pc ls (.ref (ad 2) :: rest)) :=
  w_get hB hw inA_wsX20 2 rfl rfl 0 (by decide) hk rfl rfl hdg kk
theorem gC_2_1 (hB : MB p s m args meth c cc nL ret own) (hw : WD D (tyC cI) (cellsC ad ln cI σ) A s H locs) (hk : Cond.fieldLink own index "RunHeap$Row" "size" "[I" ∈ wAll) (hdg : decode cc pc = .ok (.getfield index, 3)) (kk : W p l e R s m args below meth c H locs cells slots Q (F0 m (pc + 3) ls (.ref (ad 4) :: rest))) : W p l e R s m args below meth c H locs cells slots Q (F0 m pc ls (.ref (ad 2) :: rest)) :=
  w_get hB hw inA_wsX20 2 rfl rfl 1 (by decide) hk rfl rfl hdg kk
theorem gC_2_2 (hB : MB p s m args meth c cc nL ret own) (hw : WD D (tyC cI) (cellsC ad ln cI σ) A s H locs) (hk : Cond.fieldLink own index "RunHeap$Row" "kind" "[I" ∈ wAll) (hdg : decode cc pc = .ok (.getfield index, 3)) (kk : W p l e R s m args below meth c H locs cells slots Q (F0 m (pc + 3) ls (.ref (ad 5) :: rest))) : W p l e R s m args below meth c H locs cells slots Q (F0 m pc ls (.ref (ad 2) :: rest)) :=
  w_get hB hw inA_wsX20 2 rfl rfl 2 (by decide) hk rfl rfl hdg kk
theorem gC_2_3 {x : Int32} (hB : MB p s m args meth c cc nL ret own) (hw : WD D (tyC cI) (cellsC ad ln cI σ) A s H locs) (hk : Cond.fieldLink own index "RunHeap$Row" "blocks" "I" ∈ wAll) (hx : σ.1 0 = x) (hdg : decode cc pc = .ok (.getfield index, 3)) (kk : W p l e R s m args below meth c H locs cells slots Q (F0 m (pc + 3) ls (.int x :: rest))) : W p l e R s m args below meth c H locs cells slots Q (F0 m pc ls (.ref (ad 2) :: rest)) := by
  subst hx
  exact w_get hB hw inA_wsX20 2 rfl rfl 3 (by decide) hk rfl rfl hdg kk
theorem pC_2_3 {x : Int32} (hB : MB p s m args meth c cc nL ret own) (hw : WD D (tyC cI) (cellsC ad ln cI σ) A s H locs) (hk : Cond.fieldLink own index "RunHeap$Row" "blocks" "I" ∈ wAll) (hdg : decode cc pc = .ok (.putfield index, 3)) (kk : ∀ (H1 : Heap) (locs1 : List Loc), WD D (tyC cI) (cellsC ad ln cI (setF σ 0 x)) A s H1 locs1 → W p l e R s m args below meth c H1 locs1 cells slots Q (F0 m (pc + 3) ls rest)) : W p l e R s m args below meth c H locs cells slots Q (F0 m pc ls (.int x :: .ref (ad 2) :: rest)) :=
  w_put hB hw inA_wsX20 tyX2 tyX2_ok nmX2 2 rfl rfl 3 (by decide) hk rfl rfl (ty := .int) rfl rfl rfl (Nat.le_of_ble_eq_true rfl) rfl hdg kk
theorem aC_3 {i : Int32} {f : Nat → Int32} (hB : MB p s m args meth c cc nL ret own) (hw : WD D (tyC cI) (cellsC ad ln cI σ) A s H locs) (hf : σ.2 3 = f) (hin : vp_in i (ln 3)) (hdg : decode cc pc = .ok (.iaload, 1)) (kk : W p l e R s m args below meth c H locs cells slots Q (F0 m (pc + 1) ls (.int (f i.toNatClampNeg) :: rest))) : W p l e R s m args below meth c H locs cells slots Q (F0 m pc ls (.int i :: .ref (ad 3) :: rest)) := by
  subst hf
  exact w_iald hB hw 3 0 rfl rfl hin hdg kk
theorem sC_3 {i x : Int32} (hB : MB p s m args meth c cc nL ret own) (hw : WD D (tyC cI) (cellsC ad ln cI σ) A s H locs) (hin : vp_in i (ln 3)) (hdg : decode cc pc = .ok (.iastore, 1)) (kk : ∀ (H1 : Heap) (locs1 : List Loc), WD D (tyC cI) (cellsC ad ln cI (setA σ 3 i.toNatClampNeg x)) A s H1 locs1 → W p l e R s m args below meth c H1 locs1 cells slots Q (F0 m (pc + 1) ls rest)) : W p l e R s m args below meth c H locs cells slots Q (F0 m pc ls (.int x :: .int i :: .ref (ad 3) :: rest)) :=
  w_iast hB hw 3 0 rfl rfl hin rfl hdg kk
theorem nC_3 {x : Int32} (hB : MB p s m args meth c cc nL ret own) (hw : WD D (tyC cI) (cellsC ad ln cI σ) A s H locs) (hx : nI (ln 3) = x) (hdg : decode cc pc = .ok (.arraylength, 1)) (kk : W p l e R s m args below meth c H locs cells slots Q (F0 m (pc + 1) ls (.int x :: rest))) : W p l e R s m args below meth c H locs cells slots Q (F0 m pc ls (.ref (ad 3) :: rest)) :=
  va_alen hB.1 hB.2.1 hw.1 hw.2.1 3 0 rfl rfl hx hdg kk
theorem aC_4 {i : Int32} {f : Nat → Int32} (hB : MB p s m args meth c cc nL ret own) (hw : WD D (tyC cI) (cellsC ad ln cI σ) A s H locs) (hf : σ.2 4 = f) (hin : vp_in i (ln 4)) (hdg : decode cc pc = .ok (.iaload, 1)) (kk : W p l e R s m args below meth c H locs cells slots Q (F0 m (pc + 1) ls (.int (f i.toNatClampNeg) :: rest))) : W p l e R s m args below meth c H locs cells slots Q (F0 m pc ls (.int i :: .ref (ad 4) :: rest)) := by
  subst hf
  exact w_iald hB hw 4 0 rfl rfl hin hdg kk
theorem sC_4 {i x : Int32} (hB : MB p s m args meth c cc nL ret own) (hw : WD D (tyC cI) (cellsC ad ln cI σ) A s H locs) (hin : vp_in i (ln 4)) (hdg : decode cc pc = .ok (.iastore, 1)) (kk : ∀ (H1 : Heap) (locs1 : List Loc), WD D (tyC cI) (cellsC ad ln cI (setA σ 4 i.toNatClampNeg x)) A s H1 locs1 → W p l e R s m args below meth c H1 locs1 cells slots Q (F0 m (pc + 1) ls rest)) : W p l e R s m args below meth c H locs cells slots Q (F0 m pc ls (.int x :: .int i :: .ref (ad 4) :: rest)) :=
  w_iast hB hw 4 0 rfl rfl hin rfl hdg kk
theorem nC_4 {x : Int32} (hB : MB p s m args meth c cc nL ret own) (hw : WD D (tyC cI) (cellsC ad ln cI σ) A s H locs) (hx : nI (ln 4) = x) (hdg : decode cc pc = .ok (.arraylength, 1)) (kk : W p l e R s m args below meth c H locs cells slots Q (F0 m (pc + 1) ls (.int x :: rest))) : W p l e R s m args below meth c H locs cells slots Q (F0 m pc ls (.ref (ad 4) :: rest)) :=
  va_alen hB.1 hB.2.1 hw.1 hw.2.1 4 0 rfl rfl hx hdg kk
theorem aC_5 {i : Int32} {f : Nat → Int32} (hB : MB p s m args meth c cc nL ret own) (hw : WD D (tyC cI) (cellsC ad ln cI σ) A s H locs) (hf : σ.2 5 = f) (hin : vp_in i (ln 5)) (hdg : decode cc pc = .ok (.iaload, 1)) (kk : W p l e R s m args below meth c H locs cells slots Q (F0 m (pc + 1) ls (.int (f i.toNatClampNeg) :: rest))) : W p l e R s m args below meth c H locs cells slots Q (F0 m pc ls (.int i :: .ref (ad 5) :: rest)) := by
  subst hf
  exact w_iald hB hw 5 0 rfl rfl hin hdg kk
theorem sC_5 {i x : Int32} (hB : MB p s m args meth c cc nL ret own) (hw : WD D (tyC cI) (cellsC ad ln cI σ) A s H locs) (hin : vp_in i (ln 5)) (hdg : decode cc pc = .ok (.iastore, 1)) (kk : ∀ (H1 : Heap) (locs1 : List Loc), WD D (tyC cI) (cellsC ad ln cI (setA σ 5 i.toNatClampNeg x)) A s H1 locs1 → W p l e R s m args below meth c H1 locs1 cells slots Q (F0 m (pc + 1) ls rest)) : W p l e R s m args below meth c H locs cells slots Q (F0 m pc ls (.int x :: .int i :: .ref (ad 5) :: rest)) :=
  w_iast hB hw 5 0 rfl rfl hin rfl hdg kk
theorem nC_5 {x : Int32} (hB : MB p s m args meth c cc nL ret own) (hw : WD D (tyC cI) (cellsC ad ln cI σ) A s H locs) (hx : nI (ln 5) = x) (hdg : decode cc pc = .ok (.arraylength, 1)) (kk : W p l e R s m args below meth c H locs cells slots Q (F0 m (pc + 1) ls (.int x :: rest))) : W p l e R s m args below meth c H locs cells slots Q (F0 m pc ls (.ref (ad 5) :: rest)) :=
  va_alen hB.1 hB.2.1 hw.1 hw.2.1 5 0 rfl rfl hx hdg kk
theorem gC_6_0 (hB : MB p s m args meth c cc nL ret own) (hw : WD D (tyC cI) (cellsC ad ln cI σ) A s H locs) (hk : Cond.fieldLink own index "RunHeap$Tree" "row" "LRunHeap$Row;" ∈ wAll) (hdg : decode cc pc = .ok (.getfield index, 3)) (kk : W p l e R s m args below meth c H locs cells slots Q (F0 m (pc + 3) ls (.ref (ad 2) :: rest))) : W p l e R s m args below meth c H locs cells slots Q (F0 m pc ls (.ref (ad 6) :: rest)) :=
  w_get hB hw inA_wsX30 6 rfl rfl 0 (by decide) hk rfl rfl hdg kk
theorem gC_6_1 (hB : MB p s m args meth c cc nL ret own) (hw : WD D (tyC cI) (cellsC ad ln cI σ) A s H locs) (hk : Cond.fieldLink own index "RunHeap$Tree" "spineSize" "[I" ∈ wAll) (hdg : decode cc pc = .ok (.getfield index, 3)) (kk : W p l e R s m args below meth c H locs cells slots Q (F0 m (pc + 3) ls (.ref (ad 7) :: rest))) : W p l e R s m args below meth c H locs cells slots Q (F0 m pc ls (.ref (ad 6) :: rest)) :=
  w_get hB hw inA_wsX30 6 rfl rfl 1 (by decide) hk rfl rfl hdg kk
theorem gC_6_2 (hB : MB p s m args meth c cc nL ret own) (hw : WD D (tyC cI) (cellsC ad ln cI σ) A s H locs) (hk : Cond.fieldLink own index "RunHeap$Tree" "spineDepth" "[I" ∈ wAll) (hdg : decode cc pc = .ok (.getfield index, 3)) (kk : W p l e R s m args below meth c H locs cells slots Q (F0 m (pc + 3) ls (.ref (ad 8) :: rest))) : W p l e R s m args below meth c H locs cells slots Q (F0 m pc ls (.ref (ad 6) :: rest)) :=
  w_get hB hw inA_wsX30 6 rfl rfl 2 (by decide) hk rfl rfl hdg kk
theorem aC_7 {i : Int32} {f : Nat → Int32} (hB : MB p s m args meth c cc nL ret own) (hw : WD D (tyC cI) (cellsC ad ln cI σ) A s H locs) (hf : σ.2 7 = f) (hin : vp_in i (ln 7)) (hdg : decode cc pc = .ok (.iaload, 1)) (kk : W p l e R s m args below meth c H locs cells slots Q (F0 m (pc + 1) ls (.int (f i.toNatClampNeg) :: rest))) : W p l e R s m args below meth c H locs cells slots Q (F0 m pc ls (.int i :: .ref (ad 7) :: rest)) := by
  subst hf
  exact w_iald hB hw 7 0 rfl rfl hin hdg kk
theorem sC_7 {i x : Int32} (hB : MB p s m args meth c cc nL ret own) (hw : WD D (tyC cI) (cellsC ad ln cI σ) A s H locs) (hin : vp_in i (ln 7)) (hdg : decode cc pc = .ok (.iastore, 1)) (kk : ∀ (H1 : Heap) (locs1 : List Loc), WD D (tyC cI) (cellsC ad ln cI (setA σ 7 i.toNatClampNeg x)) A s H1 locs1 → W p l e R s m args below meth c H1 locs1 cells slots Q (F0 m (pc + 1) ls rest)) : W p l e R s m args below meth c H locs cells slots Q (F0 m pc ls (.int x :: .int i :: .ref (ad 7) :: rest)) :=
  w_iast hB hw 7 0 rfl rfl hin rfl hdg kk
theorem nC_7 {x : Int32} (hB : MB p s m args meth c cc nL ret own) (hw : WD D (tyC cI) (cellsC ad ln cI σ) A s H locs) (hx : nI (ln 7) = x) (hdg : decode cc pc = .ok (.arraylength, 1)) (kk : W p l e R s m args below meth c H locs cells slots Q (F0 m (pc + 1) ls (.int x :: rest))) : W p l e R s m args below meth c H locs cells slots Q (F0 m pc ls (.ref (ad 7) :: rest)) :=
  va_alen hB.1 hB.2.1 hw.1 hw.2.1 7 0 rfl rfl hx hdg kk
theorem aC_8 {i : Int32} {f : Nat → Int32} (hB : MB p s m args meth c cc nL ret own) (hw : WD D (tyC cI) (cellsC ad ln cI σ) A s H locs) (hf : σ.2 8 = f) (hin : vp_in i (ln 8)) (hdg : decode cc pc = .ok (.iaload, 1)) (kk : W p l e R s m args below meth c H locs cells slots Q (F0 m (pc + 1) ls (.int (f i.toNatClampNeg) :: rest))) : W p l e R s m args below meth c H locs cells slots Q (F0 m pc ls (.int i :: .ref (ad 8) :: rest)) := by
  subst hf
  exact w_iald hB hw 8 0 rfl rfl hin hdg kk
theorem sC_8 {i x : Int32} (hB : MB p s m args meth c cc nL ret own) (hw : WD D (tyC cI) (cellsC ad ln cI σ) A s H locs) (hin : vp_in i (ln 8)) (hdg : decode cc pc = .ok (.iastore, 1)) (kk : ∀ (H1 : Heap) (locs1 : List Loc), WD D (tyC cI) (cellsC ad ln cI (setA σ 8 i.toNatClampNeg x)) A s H1 locs1 → W p l e R s m args below meth c H1 locs1 cells slots Q (F0 m (pc + 1) ls rest)) : W p l e R s m args below meth c H locs cells slots Q (F0 m pc ls (.int x :: .int i :: .ref (ad 8) :: rest)) :=
  w_iast hB hw 8 0 rfl rfl hin rfl hdg kk
theorem nC_8 {x : Int32} (hB : MB p s m args meth c cc nL ret own) (hw : WD D (tyC cI) (cellsC ad ln cI σ) A s H locs) (hx : nI (ln 8) = x) (hdg : decode cc pc = .ok (.arraylength, 1)) (kk : W p l e R s m args below meth c H locs cells slots Q (F0 m (pc + 1) ls (.int x :: rest))) : W p l e R s m args below meth c H locs cells slots Q (F0 m pc ls (.ref (ad 8) :: rest)) :=
  va_alen hB.1 hB.2.1 hw.1 hw.2.1 8 0 rfl rfl hx hdg kk
theorem gC_9_0 (hB : MB p s m args meth c cc nL ret own) (hw : WD D (tyC cI) (cellsC ad ln cI σ) A s H locs) (hk : Cond.fieldLink own index "RunHeap$Adviser" "best" "LRunHeap$Moves;" ∈ wAll) (hdg : decode cc pc = .ok (.getfield index, 3)) (kk : W p l e R s m args below meth c H locs cells slots Q (F0 m (pc + 3) ls (.ref (ad 10) :: rest))) : W p l e R s m args below meth c H locs cells slots Q (F0 m pc ls (.ref (ad 9) :: rest)) :=
  w_get hB hw inA_wsX00 9 rfl rfl 0 (by decide) hk rfl rfl hdg kk
theorem gC_9_1 {x : Int32} (hB : MB p s m args meth c cc nL ret own) (hw : WD D (tyC cI) (cellsC ad ln cI σ) A s H locs) (hk : Cond.fieldLink own index "RunHeap$Adviser" "given" "Z" ∈ wAll) (hx : σ.1 1 = x) (hdg : decode cc pc = .ok (.getfield index, 3)) (kk : W p l e R s m args below meth c H locs cells slots Q (F0 m (pc + 3) ls (.int x :: rest))) : W p l e R s m args below meth c H locs cells slots Q (F0 m pc ls (.ref (ad 9) :: rest)) := by
  subst hx
  exact w_get hB hw inA_wsX00 9 rfl rfl 1 (by decide) hk rfl rfl hdg kk
theorem pC_9_1 {x : Int32} (hB : MB p s m args meth c cc nL ret own) (hw : WD D (tyC cI) (cellsC ad ln cI σ) A s H locs) (hk : Cond.fieldLink own index "RunHeap$Adviser" "given" "Z" ∈ wAll) (hn : narrow .boolean (.int x) = .int x) (hf : fits .boolean (.int x) = true) (hdg : decode cc pc = .ok (.putfield index, 3)) (kk : ∀ (H1 : Heap) (locs1 : List Loc), WD D (tyC cI) (cellsC ad ln cI (setF σ 1 x)) A s H1 locs1 → W p l e R s m args below meth c H1 locs1 cells slots Q (F0 m (pc + 3) ls rest)) : W p l e R s m args below meth c H locs cells slots Q (F0 m pc ls (.int x :: .ref (ad 9) :: rest)) :=
  w_put hB hw inA_wsX00 tyX0 tyX0_ok nmX0 9 rfl rfl 1 (by decide) hk rfl rfl (ty := .boolean) rfl hn hf (Nat.le_of_ble_eq_true rfl) rfl hdg kk
theorem gC_9_2 {x : Int32} (hB : MB p s m args meth c cc nL ret own) (hw : WD D (tyC cI) (cellsC ad ln cI σ) A s H locs) (hk : Cond.fieldLink own index "RunHeap$Adviser" "lowest" "I" ∈ wAll) (hx : σ.1 2 = x) (hdg : decode cc pc = .ok (.getfield index, 3)) (kk : W p l e R s m args below meth c H locs cells slots Q (F0 m (pc + 3) ls (.int x :: rest))) : W p l e R s m args below meth c H locs cells slots Q (F0 m pc ls (.ref (ad 9) :: rest)) := by
  subst hx
  exact w_get hB hw inA_wsX00 9 rfl rfl 2 (by decide) hk rfl rfl hdg kk
theorem pC_9_2 {x : Int32} (hB : MB p s m args meth c cc nL ret own) (hw : WD D (tyC cI) (cellsC ad ln cI σ) A s H locs) (hk : Cond.fieldLink own index "RunHeap$Adviser" "lowest" "I" ∈ wAll) (hdg : decode cc pc = .ok (.putfield index, 3)) (kk : ∀ (H1 : Heap) (locs1 : List Loc), WD D (tyC cI) (cellsC ad ln cI (setF σ 2 x)) A s H1 locs1 → W p l e R s m args below meth c H1 locs1 cells slots Q (F0 m (pc + 3) ls rest)) : W p l e R s m args below meth c H locs cells slots Q (F0 m pc ls (.int x :: .ref (ad 9) :: rest)) :=
  w_put hB hw inA_wsX00 tyX0 tyX0_ok nmX0 9 rfl rfl 2 (by decide) hk rfl rfl (ty := .int) rfl rfl rfl (Nat.le_of_ble_eq_true rfl) rfl hdg kk
theorem gC_9_3 (hB : MB p s m args meth c cc nL ret own) (hw : WD D (tyC cI) (cellsC ad ln cI σ) A s H locs) (hk : Cond.fieldLink own index "RunHeap$Adviser" "row" "LRunHeap$Row;" ∈ wAll) (hdg : decode cc pc = .ok (.getfield index, 3)) (kk : W p l e R s m args below meth c H locs cells slots Q (F0 m (pc + 3) ls (.ref (ad 2) :: rest))) : W p l e R s m args below meth c H locs cells slots Q (F0 m pc ls (.ref (ad 9) :: rest)) :=
  w_get hB hw inA_wsX00 9 rfl rfl 3 (by decide) hk rfl rfl hdg kk
theorem gC_9_4 (hB : MB p s m args meth c cc nL ret own) (hw : WD D (tyC cI) (cellsC ad ln cI σ) A s H locs) (hk : Cond.fieldLink own index "RunHeap$Adviser" "trial" "LRunHeap$Moves;" ∈ wAll) (hdg : decode cc pc = .ok (.getfield index, 3)) (kk : W p l e R s m args below meth c H locs cells slots Q (F0 m (pc + 3) ls (.ref (ad 13) :: rest))) : W p l e R s m args below meth c H locs cells slots Q (F0 m pc ls (.ref (ad 9) :: rest)) :=
  w_get hB hw inA_wsX00 9 rfl rfl 4 (by decide) hk rfl rfl hdg kk
theorem gC_9_5 (hB : MB p s m args meth c cc nL ret own) (hw : WD D (tyC cI) (cellsC ad ln cI σ) A s H locs) (hk : Cond.fieldLink own index "RunHeap$Adviser" "movable" "[I" ∈ wAll) (hdg : decode cc pc = .ok (.getfield index, 3)) (kk : W p l e R s m args below meth c H locs cells slots Q (F0 m (pc + 3) ls (.ref (ad 16) :: rest))) : W p l e R s m args below meth c H locs cells slots Q (F0 m pc ls (.ref (ad 9) :: rest)) :=
  w_get hB hw inA_wsX00 9 rfl rfl 5 (by decide) hk rfl rfl hdg kk
theorem gC_9_6 {x : Int32} (hB : MB p s m args meth c cc nL ret own) (hw : WD D (tyC cI) (cellsC ad ln cI σ) A s H locs) (hk : Cond.fieldLink own index "RunHeap$Adviser" "movables" "I" ∈ wAll) (hx : σ.1 3 = x) (hdg : decode cc pc = .ok (.getfield index, 3)) (kk : W p l e R s m args below meth c H locs cells slots Q (F0 m (pc + 3) ls (.int x :: rest))) : W p l e R s m args below meth c H locs cells slots Q (F0 m pc ls (.ref (ad 9) :: rest)) := by
  subst hx
  exact w_get hB hw inA_wsX00 9 rfl rfl 6 (by decide) hk rfl rfl hdg kk
theorem pC_9_6 {x : Int32} (hB : MB p s m args meth c cc nL ret own) (hw : WD D (tyC cI) (cellsC ad ln cI σ) A s H locs) (hk : Cond.fieldLink own index "RunHeap$Adviser" "movables" "I" ∈ wAll) (hdg : decode cc pc = .ok (.putfield index, 3)) (kk : ∀ (H1 : Heap) (locs1 : List Loc), WD D (tyC cI) (cellsC ad ln cI (setF σ 3 x)) A s H1 locs1 → W p l e R s m args below meth c H1 locs1 cells slots Q (F0 m (pc + 3) ls rest)) : W p l e R s m args below meth c H locs cells slots Q (F0 m pc ls (.int x :: .ref (ad 9) :: rest)) :=
  w_put hB hw inA_wsX00 tyX0 tyX0_ok nmX0 9 rfl rfl 6 (by decide) hk rfl rfl (ty := .int) rfl rfl rfl (Nat.le_of_ble_eq_true rfl) rfl hdg kk
theorem gC_9_7 (hB : MB p s m args meth c cc nL ret own) (hw : WD D (tyC cI) (cellsC ad ln cI σ) A s H locs) (hk : Cond.fieldLink own index "RunHeap$Adviser" "left" "[I" ∈ wAll) (hdg : decode cc pc = .ok (.getfield index, 3)) (kk : W p l e R s m args below meth c H locs cells slots Q (F0 m (pc + 3) ls (.ref (ad 17) :: rest))) : W p l e R s m args below meth c H locs cells slots Q (F0 m pc ls (.ref (ad 9) :: rest)) :=
  w_get hB hw inA_wsX00 9 rfl rfl 7 (by decide) hk rfl rfl hdg kk
theorem gC_10_0 (hB : MB p s m args meth c cc nL ret own) (hw : WD D (tyC cI) (cellsC ad ln cI σ) A s H locs) (hk : Cond.fieldLink own index "RunHeap$Moves" "from" "[I" ∈ wAll) (hdg : decode cc pc = .ok (.getfield index, 3)) (kk : W p l e R s m args below meth c H locs cells slots Q (F0 m (pc + 3) ls (.ref (ad 11) :: rest))) : W p l e R s m args below meth c H locs cells slots Q (F0 m pc ls (.ref (ad 10) :: rest)) :=
  w_get hB hw inA_wsX10 10 rfl rfl 0 (by decide) hk rfl rfl hdg kk
theorem gC_10_1 (hB : MB p s m args meth c cc nL ret own) (hw : WD D (tyC cI) (cellsC ad ln cI σ) A s H locs) (hk : Cond.fieldLink own index "RunHeap$Moves" "to" "[I" ∈ wAll) (hdg : decode cc pc = .ok (.getfield index, 3)) (kk : W p l e R s m args below meth c H locs cells slots Q (F0 m (pc + 3) ls (.ref (ad 12) :: rest))) : W p l e R s m args below meth c H locs cells slots Q (F0 m pc ls (.ref (ad 10) :: rest)) :=
  w_get hB hw inA_wsX10 10 rfl rfl 1 (by decide) hk rfl rfl hdg kk
theorem gC_10_2 {x : Int32} (hB : MB p s m args meth c cc nL ret own) (hw : WD D (tyC cI) (cellsC ad ln cI σ) A s H locs) (hk : Cond.fieldLink own index "RunHeap$Moves" "made" "I" ∈ wAll) (hx : σ.1 4 = x) (hdg : decode cc pc = .ok (.getfield index, 3)) (kk : W p l e R s m args below meth c H locs cells slots Q (F0 m (pc + 3) ls (.int x :: rest))) : W p l e R s m args below meth c H locs cells slots Q (F0 m pc ls (.ref (ad 10) :: rest)) := by
  subst hx
  exact w_get hB hw inA_wsX10 10 rfl rfl 2 (by decide) hk rfl rfl hdg kk
theorem pC_10_2 {x : Int32} (hB : MB p s m args meth c cc nL ret own) (hw : WD D (tyC cI) (cellsC ad ln cI σ) A s H locs) (hk : Cond.fieldLink own index "RunHeap$Moves" "made" "I" ∈ wAll) (hdg : decode cc pc = .ok (.putfield index, 3)) (kk : ∀ (H1 : Heap) (locs1 : List Loc), WD D (tyC cI) (cellsC ad ln cI (setF σ 4 x)) A s H1 locs1 → W p l e R s m args below meth c H1 locs1 cells slots Q (F0 m (pc + 3) ls rest)) : W p l e R s m args below meth c H locs cells slots Q (F0 m pc ls (.int x :: .ref (ad 10) :: rest)) :=
  w_put hB hw inA_wsX10 tyX1 tyX1_ok nmX1 10 rfl rfl 2 (by decide) hk rfl rfl (ty := .int) rfl rfl rfl (Nat.le_of_ble_eq_true rfl) rfl hdg kk
theorem aC_11 {i : Int32} {f : Nat → Int32} (hB : MB p s m args meth c cc nL ret own) (hw : WD D (tyC cI) (cellsC ad ln cI σ) A s H locs) (hf : σ.2 11 = f) (hin : vp_in i (ln 11)) (hdg : decode cc pc = .ok (.iaload, 1)) (kk : W p l e R s m args below meth c H locs cells slots Q (F0 m (pc + 1) ls (.int (f i.toNatClampNeg) :: rest))) : W p l e R s m args below meth c H locs cells slots Q (F0 m pc ls (.int i :: .ref (ad 11) :: rest)) := by
  subst hf
  exact w_iald hB hw 11 0 rfl rfl hin hdg kk
theorem sC_11 {i x : Int32} (hB : MB p s m args meth c cc nL ret own) (hw : WD D (tyC cI) (cellsC ad ln cI σ) A s H locs) (hin : vp_in i (ln 11)) (hdg : decode cc pc = .ok (.iastore, 1)) (kk : ∀ (H1 : Heap) (locs1 : List Loc), WD D (tyC cI) (cellsC ad ln cI (setA σ 11 i.toNatClampNeg x)) A s H1 locs1 → W p l e R s m args below meth c H1 locs1 cells slots Q (F0 m (pc + 1) ls rest)) : W p l e R s m args below meth c H locs cells slots Q (F0 m pc ls (.int x :: .int i :: .ref (ad 11) :: rest)) :=
  w_iast hB hw 11 0 rfl rfl hin rfl hdg kk
theorem nC_11 {x : Int32} (hB : MB p s m args meth c cc nL ret own) (hw : WD D (tyC cI) (cellsC ad ln cI σ) A s H locs) (hx : nI (ln 11) = x) (hdg : decode cc pc = .ok (.arraylength, 1)) (kk : W p l e R s m args below meth c H locs cells slots Q (F0 m (pc + 1) ls (.int x :: rest))) : W p l e R s m args below meth c H locs cells slots Q (F0 m pc ls (.ref (ad 11) :: rest)) :=
  va_alen hB.1 hB.2.1 hw.1 hw.2.1 11 0 rfl rfl hx hdg kk
theorem aC_12 {i : Int32} {f : Nat → Int32} (hB : MB p s m args meth c cc nL ret own) (hw : WD D (tyC cI) (cellsC ad ln cI σ) A s H locs) (hf : σ.2 12 = f) (hin : vp_in i (ln 12)) (hdg : decode cc pc = .ok (.iaload, 1)) (kk : W p l e R s m args below meth c H locs cells slots Q (F0 m (pc + 1) ls (.int (f i.toNatClampNeg) :: rest))) : W p l e R s m args below meth c H locs cells slots Q (F0 m pc ls (.int i :: .ref (ad 12) :: rest)) := by
  subst hf
  exact w_iald hB hw 12 0 rfl rfl hin hdg kk
theorem sC_12 {i x : Int32} (hB : MB p s m args meth c cc nL ret own) (hw : WD D (tyC cI) (cellsC ad ln cI σ) A s H locs) (hin : vp_in i (ln 12)) (hdg : decode cc pc = .ok (.iastore, 1)) (kk : ∀ (H1 : Heap) (locs1 : List Loc), WD D (tyC cI) (cellsC ad ln cI (setA σ 12 i.toNatClampNeg x)) A s H1 locs1 → W p l e R s m args below meth c H1 locs1 cells slots Q (F0 m (pc + 1) ls rest)) : W p l e R s m args below meth c H locs cells slots Q (F0 m pc ls (.int x :: .int i :: .ref (ad 12) :: rest)) :=
  w_iast hB hw 12 0 rfl rfl hin rfl hdg kk
theorem nC_12 {x : Int32} (hB : MB p s m args meth c cc nL ret own) (hw : WD D (tyC cI) (cellsC ad ln cI σ) A s H locs) (hx : nI (ln 12) = x) (hdg : decode cc pc = .ok (.arraylength, 1)) (kk : W p l e R s m args below meth c H locs cells slots Q (F0 m (pc + 1) ls (.int x :: rest))) : W p l e R s m args below meth c H locs cells slots Q (F0 m pc ls (.ref (ad 12) :: rest)) :=
  va_alen hB.1 hB.2.1 hw.1 hw.2.1 12 0 rfl rfl hx hdg kk
theorem gC_13_0 (hB : MB p s m args meth c cc nL ret own) (hw : WD D (tyC cI) (cellsC ad ln cI σ) A s H locs) (hk : Cond.fieldLink own index "RunHeap$Moves" "from" "[I" ∈ wAll) (hdg : decode cc pc = .ok (.getfield index, 3)) (kk : W p l e R s m args below meth c H locs cells slots Q (F0 m (pc + 3) ls (.ref (ad 14) :: rest))) : W p l e R s m args below meth c H locs cells slots Q (F0 m pc ls (.ref (ad 13) :: rest)) :=
  w_get hB hw inA_wsX10 13 rfl rfl 0 (by decide) hk rfl rfl hdg kk
theorem gC_13_1 (hB : MB p s m args meth c cc nL ret own) (hw : WD D (tyC cI) (cellsC ad ln cI σ) A s H locs) (hk : Cond.fieldLink own index "RunHeap$Moves" "to" "[I" ∈ wAll) (hdg : decode cc pc = .ok (.getfield index, 3)) (kk : W p l e R s m args below meth c H locs cells slots Q (F0 m (pc + 3) ls (.ref (ad 15) :: rest))) : W p l e R s m args below meth c H locs cells slots Q (F0 m pc ls (.ref (ad 13) :: rest)) :=
  w_get hB hw inA_wsX10 13 rfl rfl 1 (by decide) hk rfl rfl hdg kk
theorem gC_13_2 {x : Int32} (hB : MB p s m args meth c cc nL ret own) (hw : WD D (tyC cI) (cellsC ad ln cI σ) A s H locs) (hk : Cond.fieldLink own index "RunHeap$Moves" "made" "I" ∈ wAll) (hx : σ.1 5 = x) (hdg : decode cc pc = .ok (.getfield index, 3)) (kk : W p l e R s m args below meth c H locs cells slots Q (F0 m (pc + 3) ls (.int x :: rest))) : W p l e R s m args below meth c H locs cells slots Q (F0 m pc ls (.ref (ad 13) :: rest)) := by
  subst hx
  exact w_get hB hw inA_wsX10 13 rfl rfl 2 (by decide) hk rfl rfl hdg kk
theorem pC_13_2 {x : Int32} (hB : MB p s m args meth c cc nL ret own) (hw : WD D (tyC cI) (cellsC ad ln cI σ) A s H locs) (hk : Cond.fieldLink own index "RunHeap$Moves" "made" "I" ∈ wAll) (hdg : decode cc pc = .ok (.putfield index, 3)) (kk : ∀ (H1 : Heap) (locs1 : List Loc), WD D (tyC cI) (cellsC ad ln cI (setF σ 5 x)) A s H1 locs1 → W p l e R s m args below meth c H1 locs1 cells slots Q (F0 m (pc + 3) ls rest)) : W p l e R s m args below meth c H locs cells slots Q (F0 m pc ls (.int x :: .ref (ad 13) :: rest)) :=
  w_put hB hw inA_wsX10 tyX1 tyX1_ok nmX1 13 rfl rfl 2 (by decide) hk rfl rfl (ty := .int) rfl rfl rfl (Nat.le_of_ble_eq_true rfl) rfl hdg kk
theorem aC_14 {i : Int32} {f : Nat → Int32} (hB : MB p s m args meth c cc nL ret own) (hw : WD D (tyC cI) (cellsC ad ln cI σ) A s H locs) (hf : σ.2 14 = f) (hin : vp_in i (ln 14)) (hdg : decode cc pc = .ok (.iaload, 1)) (kk : W p l e R s m args below meth c H locs cells slots Q (F0 m (pc + 1) ls (.int (f i.toNatClampNeg) :: rest))) : W p l e R s m args below meth c H locs cells slots Q (F0 m pc ls (.int i :: .ref (ad 14) :: rest)) := by
  subst hf
  exact w_iald hB hw 14 0 rfl rfl hin hdg kk
theorem sC_14 {i x : Int32} (hB : MB p s m args meth c cc nL ret own) (hw : WD D (tyC cI) (cellsC ad ln cI σ) A s H locs) (hin : vp_in i (ln 14)) (hdg : decode cc pc = .ok (.iastore, 1)) (kk : ∀ (H1 : Heap) (locs1 : List Loc), WD D (tyC cI) (cellsC ad ln cI (setA σ 14 i.toNatClampNeg x)) A s H1 locs1 → W p l e R s m args below meth c H1 locs1 cells slots Q (F0 m (pc + 1) ls rest)) : W p l e R s m args below meth c H locs cells slots Q (F0 m pc ls (.int x :: .int i :: .ref (ad 14) :: rest)) :=
  w_iast hB hw 14 0 rfl rfl hin rfl hdg kk
theorem nC_14 {x : Int32} (hB : MB p s m args meth c cc nL ret own) (hw : WD D (tyC cI) (cellsC ad ln cI σ) A s H locs) (hx : nI (ln 14) = x) (hdg : decode cc pc = .ok (.arraylength, 1)) (kk : W p l e R s m args below meth c H locs cells slots Q (F0 m (pc + 1) ls (.int x :: rest))) : W p l e R s m args below meth c H locs cells slots Q (F0 m pc ls (.ref (ad 14) :: rest)) :=
  va_alen hB.1 hB.2.1 hw.1 hw.2.1 14 0 rfl rfl hx hdg kk
theorem aC_15 {i : Int32} {f : Nat → Int32} (hB : MB p s m args meth c cc nL ret own) (hw : WD D (tyC cI) (cellsC ad ln cI σ) A s H locs) (hf : σ.2 15 = f) (hin : vp_in i (ln 15)) (hdg : decode cc pc = .ok (.iaload, 1)) (kk : W p l e R s m args below meth c H locs cells slots Q (F0 m (pc + 1) ls (.int (f i.toNatClampNeg) :: rest))) : W p l e R s m args below meth c H locs cells slots Q (F0 m pc ls (.int i :: .ref (ad 15) :: rest)) := by
  subst hf
  exact w_iald hB hw 15 0 rfl rfl hin hdg kk
theorem sC_15 {i x : Int32} (hB : MB p s m args meth c cc nL ret own) (hw : WD D (tyC cI) (cellsC ad ln cI σ) A s H locs) (hin : vp_in i (ln 15)) (hdg : decode cc pc = .ok (.iastore, 1)) (kk : ∀ (H1 : Heap) (locs1 : List Loc), WD D (tyC cI) (cellsC ad ln cI (setA σ 15 i.toNatClampNeg x)) A s H1 locs1 → W p l e R s m args below meth c H1 locs1 cells slots Q (F0 m (pc + 1) ls rest)) : W p l e R s m args below meth c H locs cells slots Q (F0 m pc ls (.int x :: .int i :: .ref (ad 15) :: rest)) :=
  w_iast hB hw 15 0 rfl rfl hin rfl hdg kk
theorem nC_15 {x : Int32} (hB : MB p s m args meth c cc nL ret own) (hw : WD D (tyC cI) (cellsC ad ln cI σ) A s H locs) (hx : nI (ln 15) = x) (hdg : decode cc pc = .ok (.arraylength, 1)) (kk : W p l e R s m args below meth c H locs cells slots Q (F0 m (pc + 1) ls (.int x :: rest))) : W p l e R s m args below meth c H locs cells slots Q (F0 m pc ls (.ref (ad 15) :: rest)) :=
  va_alen hB.1 hB.2.1 hw.1 hw.2.1 15 0 rfl rfl hx hdg kk
theorem aC_16 {i : Int32} {f : Nat → Int32} (hB : MB p s m args meth c cc nL ret own) (hw : WD D (tyC cI) (cellsC ad ln cI σ) A s H locs) (hf : σ.2 16 = f) (hin : vp_in i (ln 16)) (hdg : decode cc pc = .ok (.iaload, 1)) (kk : W p l e R s m args below meth c H locs cells slots Q (F0 m (pc + 1) ls (.int (f i.toNatClampNeg) :: rest))) : W p l e R s m args below meth c H locs cells slots Q (F0 m pc ls (.int i :: .ref (ad 16) :: rest)) := by
  subst hf
  exact w_iald hB hw 16 0 rfl rfl hin hdg kk
theorem sC_16 {i x : Int32} (hB : MB p s m args meth c cc nL ret own) (hw : WD D (tyC cI) (cellsC ad ln cI σ) A s H locs) (hin : vp_in i (ln 16)) (hdg : decode cc pc = .ok (.iastore, 1)) (kk : ∀ (H1 : Heap) (locs1 : List Loc), WD D (tyC cI) (cellsC ad ln cI (setA σ 16 i.toNatClampNeg x)) A s H1 locs1 → W p l e R s m args below meth c H1 locs1 cells slots Q (F0 m (pc + 1) ls rest)) : W p l e R s m args below meth c H locs cells slots Q (F0 m pc ls (.int x :: .int i :: .ref (ad 16) :: rest)) :=
  w_iast hB hw 16 0 rfl rfl hin rfl hdg kk
theorem nC_16 {x : Int32} (hB : MB p s m args meth c cc nL ret own) (hw : WD D (tyC cI) (cellsC ad ln cI σ) A s H locs) (hx : nI (ln 16) = x) (hdg : decode cc pc = .ok (.arraylength, 1)) (kk : W p l e R s m args below meth c H locs cells slots Q (F0 m (pc + 1) ls (.int x :: rest))) : W p l e R s m args below meth c H locs cells slots Q (F0 m pc ls (.ref (ad 16) :: rest)) :=
  va_alen hB.1 hB.2.1 hw.1 hw.2.1 16 0 rfl rfl hx hdg kk
theorem aC_17 {i : Int32} {f : Nat → Int32} (hB : MB p s m args meth c cc nL ret own) (hw : WD D (tyC cI) (cellsC ad ln cI σ) A s H locs) (hf : σ.2 17 = f) (hin : vp_in i (ln 17)) (hdg : decode cc pc = .ok (.iaload, 1)) (kk : W p l e R s m args below meth c H locs cells slots Q (F0 m (pc + 1) ls (.int (f i.toNatClampNeg) :: rest))) : W p l e R s m args below meth c H locs cells slots Q (F0 m pc ls (.int i :: .ref (ad 17) :: rest)) := by
  subst hf
  exact w_iald hB hw 17 0 rfl rfl hin hdg kk
theorem sC_17 {i x : Int32} (hB : MB p s m args meth c cc nL ret own) (hw : WD D (tyC cI) (cellsC ad ln cI σ) A s H locs) (hin : vp_in i (ln 17)) (hdg : decode cc pc = .ok (.iastore, 1)) (kk : ∀ (H1 : Heap) (locs1 : List Loc), WD D (tyC cI) (cellsC ad ln cI (setA σ 17 i.toNatClampNeg x)) A s H1 locs1 → W p l e R s m args below meth c H1 locs1 cells slots Q (F0 m (pc + 1) ls rest)) : W p l e R s m args below meth c H locs cells slots Q (F0 m pc ls (.int x :: .int i :: .ref (ad 17) :: rest)) :=
  w_iast hB hw 17 0 rfl rfl hin rfl hdg kk
theorem nC_17 {x : Int32} (hB : MB p s m args meth c cc nL ret own) (hw : WD D (tyC cI) (cellsC ad ln cI σ) A s H locs) (hx : nI (ln 17) = x) (hdg : decode cc pc = .ok (.arraylength, 1)) (kk : W p l e R s m args below meth c H locs cells slots Q (F0 m (pc + 1) ls (.int x :: rest))) : W p l e R s m args below meth c H locs cells slots Q (F0 m pc ls (.ref (ad 17) :: rest)) :=
  va_alen hB.1 hB.2.1 hw.1 hw.2.1 17 0 rfl rfl hx hdg kk
theorem gC_18_0 (hB : MB p s m args meth c cc nL ret own) (hw : WD D (tyC cI) (cellsC ad ln cI σ) A s H locs) (hk : Cond.fieldLink own index "RunHeap$Moves" "from" "[I" ∈ wAll) (hdg : decode cc pc = .ok (.getfield index, 3)) (kk : W p l e R s m args below meth c H locs cells slots Q (F0 m (pc + 3) ls (.ref (ad 19) :: rest))) : W p l e R s m args below meth c H locs cells slots Q (F0 m pc ls (.ref (ad 18) :: rest)) :=
  w_get hB hw inA_wsX10 18 rfl rfl 0 (by decide) hk rfl rfl hdg kk
theorem gC_18_1 (hB : MB p s m args meth c cc nL ret own) (hw : WD D (tyC cI) (cellsC ad ln cI σ) A s H locs) (hk : Cond.fieldLink own index "RunHeap$Moves" "to" "[I" ∈ wAll) (hdg : decode cc pc = .ok (.getfield index, 3)) (kk : W p l e R s m args below meth c H locs cells slots Q (F0 m (pc + 3) ls (.ref (ad 20) :: rest))) : W p l e R s m args below meth c H locs cells slots Q (F0 m pc ls (.ref (ad 18) :: rest)) :=
  w_get hB hw inA_wsX10 18 rfl rfl 1 (by decide) hk rfl rfl hdg kk
theorem gC_18_2 {x : Int32} (hB : MB p s m args meth c cc nL ret own) (hw : WD D (tyC cI) (cellsC ad ln cI σ) A s H locs) (hk : Cond.fieldLink own index "RunHeap$Moves" "made" "I" ∈ wAll) (hx : σ.1 6 = x) (hdg : decode cc pc = .ok (.getfield index, 3)) (kk : W p l e R s m args below meth c H locs cells slots Q (F0 m (pc + 3) ls (.int x :: rest))) : W p l e R s m args below meth c H locs cells slots Q (F0 m pc ls (.ref (ad 18) :: rest)) := by
  subst hx
  exact w_get hB hw inA_wsX10 18 rfl rfl 2 (by decide) hk rfl rfl hdg kk
theorem pC_18_2 {x : Int32} (hB : MB p s m args meth c cc nL ret own) (hw : WD D (tyC cI) (cellsC ad ln cI σ) A s H locs) (hk : Cond.fieldLink own index "RunHeap$Moves" "made" "I" ∈ wAll) (hdg : decode cc pc = .ok (.putfield index, 3)) (kk : ∀ (H1 : Heap) (locs1 : List Loc), WD D (tyC cI) (cellsC ad ln cI (setF σ 6 x)) A s H1 locs1 → W p l e R s m args below meth c H1 locs1 cells slots Q (F0 m (pc + 3) ls rest)) : W p l e R s m args below meth c H locs cells slots Q (F0 m pc ls (.int x :: .ref (ad 18) :: rest)) :=
  w_put hB hw inA_wsX10 tyX1 tyX1_ok nmX1 18 rfl rfl 2 (by decide) hk rfl rfl (ty := .int) rfl rfl rfl (Nat.le_of_ble_eq_true rfl) rfl hdg kk
theorem aC_19 {i : Int32} {f : Nat → Int32} (hB : MB p s m args meth c cc nL ret own) (hw : WD D (tyC cI) (cellsC ad ln cI σ) A s H locs) (hf : σ.2 19 = f) (hin : vp_in i (ln 19)) (hdg : decode cc pc = .ok (.iaload, 1)) (kk : W p l e R s m args below meth c H locs cells slots Q (F0 m (pc + 1) ls (.int (f i.toNatClampNeg) :: rest))) : W p l e R s m args below meth c H locs cells slots Q (F0 m pc ls (.int i :: .ref (ad 19) :: rest)) := by
  subst hf
  exact w_iald hB hw 19 0 rfl rfl hin hdg kk
theorem sC_19 {i x : Int32} (hB : MB p s m args meth c cc nL ret own) (hw : WD D (tyC cI) (cellsC ad ln cI σ) A s H locs) (hin : vp_in i (ln 19)) (hdg : decode cc pc = .ok (.iastore, 1)) (kk : ∀ (H1 : Heap) (locs1 : List Loc), WD D (tyC cI) (cellsC ad ln cI (setA σ 19 i.toNatClampNeg x)) A s H1 locs1 → W p l e R s m args below meth c H1 locs1 cells slots Q (F0 m (pc + 1) ls rest)) : W p l e R s m args below meth c H locs cells slots Q (F0 m pc ls (.int x :: .int i :: .ref (ad 19) :: rest)) :=
  w_iast hB hw 19 0 rfl rfl hin rfl hdg kk
theorem nC_19 {x : Int32} (hB : MB p s m args meth c cc nL ret own) (hw : WD D (tyC cI) (cellsC ad ln cI σ) A s H locs) (hx : nI (ln 19) = x) (hdg : decode cc pc = .ok (.arraylength, 1)) (kk : W p l e R s m args below meth c H locs cells slots Q (F0 m (pc + 1) ls (.int x :: rest))) : W p l e R s m args below meth c H locs cells slots Q (F0 m pc ls (.ref (ad 19) :: rest)) :=
  va_alen hB.1 hB.2.1 hw.1 hw.2.1 19 0 rfl rfl hx hdg kk
theorem aC_20 {i : Int32} {f : Nat → Int32} (hB : MB p s m args meth c cc nL ret own) (hw : WD D (tyC cI) (cellsC ad ln cI σ) A s H locs) (hf : σ.2 20 = f) (hin : vp_in i (ln 20)) (hdg : decode cc pc = .ok (.iaload, 1)) (kk : W p l e R s m args below meth c H locs cells slots Q (F0 m (pc + 1) ls (.int (f i.toNatClampNeg) :: rest))) : W p l e R s m args below meth c H locs cells slots Q (F0 m pc ls (.int i :: .ref (ad 20) :: rest)) := by
  subst hf
  exact w_iald hB hw 20 0 rfl rfl hin hdg kk
theorem sC_20 {i x : Int32} (hB : MB p s m args meth c cc nL ret own) (hw : WD D (tyC cI) (cellsC ad ln cI σ) A s H locs) (hin : vp_in i (ln 20)) (hdg : decode cc pc = .ok (.iastore, 1)) (kk : ∀ (H1 : Heap) (locs1 : List Loc), WD D (tyC cI) (cellsC ad ln cI (setA σ 20 i.toNatClampNeg x)) A s H1 locs1 → W p l e R s m args below meth c H1 locs1 cells slots Q (F0 m (pc + 1) ls rest)) : W p l e R s m args below meth c H locs cells slots Q (F0 m pc ls (.int x :: .int i :: .ref (ad 20) :: rest)) :=
  w_iast hB hw 20 0 rfl rfl hin rfl hdg kk
theorem nC_20 {x : Int32} (hB : MB p s m args meth c cc nL ret own) (hw : WD D (tyC cI) (cellsC ad ln cI σ) A s H locs) (hx : nI (ln 20) = x) (hdg : decode cc pc = .ok (.arraylength, 1)) (kk : W p l e R s m args below meth c H locs cells slots Q (F0 m (pc + 1) ls (.int x :: rest))) : W p l e R s m args below meth c H locs cells slots Q (F0 m pc ls (.ref (ad 20) :: rest)) :=
  va_alen hB.1 hB.2.1 hw.1 hw.2.1 20 0 rfl rfl hx hdg kk
theorem yC_3 {sp dp n : Int32} {f : Nat → Int32} (hB : MB p s m args meth c cc nL ret own) (hw : WD D (tyC cI) (cellsC ad ln cI σ) A s H locs) (hls : ls.size = nL) (hk : Cond.methodLink own index arraycopyName ∈ wAll) (hfr : 1 ≤ R.frames) (hlo : (rest.map fun v => v.category).sum + (nativeFrameWords "java/lang/System" "arraycopy" 5 + 11) ≤ R.locals) (hf : σ.2 3 = f) (h1 : ¬ sp < 0) (h2 : ¬ dp < 0) (h3 : ¬ n < 0) (h4 : sp.toNatClampNeg + n.toNatClampNeg ≤ ln 3) (h5 : dp.toNatClampNeg + n.toNatClampNeg ≤ ln 3) (hdg : decode cc pc = .ok (.invokestatic index, 3)) (kk : ∀ (H1 : Heap) (locs1 : List Loc), WD D (tyC cI) (cellsC ad ln cI (setR σ 3 (va_cpy f f sp.toNatClampNeg dp.toNatClampNeg n.toNatClampNeg))) A s H1 locs1 → W p l e R s m args below meth c H1 locs1 cells slots Q (F0 m (pc + 3) ls rest)) : W p l e R s m args below meth c H locs cells slots Q (F0 m pc ls (.int n :: .int dp :: .ref (ad 3) :: .int sp :: .ref (ad 3) :: rest)) := by
  subst hf
  obtain ⟨hx, hb, -, hml, hown, hts, -⟩ := hB
  exact va_copyi hx hb (hml.trans hls.symm) hown (hts _ hk) (hts (.native arraycopyName) m409) (hts (.static arraycopyName) m496) (hts (.initialized "java/lang/System") m179) hw.1 hw.2.1 hw.2.2.1 hw.2.2.2.1 3 3 0 0 rfl rfl rfl rfl rfl h1 h2 h3 h4 h5 (fun i _ => rfl) hfr hlo hdg (fun H1 locs1 q1 q2 q3 => kk H1 locs1 ⟨hw.1, q1, q2, q3, hw.2.2.2.2⟩)
theorem yC_4 {sp dp n : Int32} {f : Nat → Int32} (hB : MB p s m args meth c cc nL ret own) (hw : WD D (tyC cI) (cellsC ad ln cI σ) A s H locs) (hls : ls.size = nL) (hk : Cond.methodLink own index arraycopyName ∈ wAll) (hfr : 1 ≤ R.frames) (hlo : (rest.map fun v => v.category).sum + (nativeFrameWords "java/lang/System" "arraycopy" 5 + 11) ≤ R.locals) (hf : σ.2 4 = f) (h1 : ¬ sp < 0) (h2 : ¬ dp < 0) (h3 : ¬ n < 0) (h4 : sp.toNatClampNeg + n.toNatClampNeg ≤ ln 4) (h5 : dp.toNatClampNeg + n.toNatClampNeg ≤ ln 4) (hdg : decode cc pc = .ok (.invokestatic index, 3)) (kk : ∀ (H1 : Heap) (locs1 : List Loc), WD D (tyC cI) (cellsC ad ln cI (setR σ 4 (va_cpy f f sp.toNatClampNeg dp.toNatClampNeg n.toNatClampNeg))) A s H1 locs1 → W p l e R s m args below meth c H1 locs1 cells slots Q (F0 m (pc + 3) ls rest)) : W p l e R s m args below meth c H locs cells slots Q (F0 m pc ls (.int n :: .int dp :: .ref (ad 4) :: .int sp :: .ref (ad 4) :: rest)) := by
  subst hf
  obtain ⟨hx, hb, -, hml, hown, hts, -⟩ := hB
  exact va_copyi hx hb (hml.trans hls.symm) hown (hts _ hk) (hts (.native arraycopyName) m409) (hts (.static arraycopyName) m496) (hts (.initialized "java/lang/System") m179) hw.1 hw.2.1 hw.2.2.1 hw.2.2.2.1 4 4 0 0 rfl rfl rfl rfl rfl h1 h2 h3 h4 h5 (fun i _ => rfl) hfr hlo hdg (fun H1 locs1 q1 q2 q3 => kk H1 locs1 ⟨hw.1, q1, q2, q3, hw.2.2.2.2⟩)
theorem yC_5 {sp dp n : Int32} {f : Nat → Int32} (hB : MB p s m args meth c cc nL ret own) (hw : WD D (tyC cI) (cellsC ad ln cI σ) A s H locs) (hls : ls.size = nL) (hk : Cond.methodLink own index arraycopyName ∈ wAll) (hfr : 1 ≤ R.frames) (hlo : (rest.map fun v => v.category).sum + (nativeFrameWords "java/lang/System" "arraycopy" 5 + 11) ≤ R.locals) (hf : σ.2 5 = f) (h1 : ¬ sp < 0) (h2 : ¬ dp < 0) (h3 : ¬ n < 0) (h4 : sp.toNatClampNeg + n.toNatClampNeg ≤ ln 5) (h5 : dp.toNatClampNeg + n.toNatClampNeg ≤ ln 5) (hdg : decode cc pc = .ok (.invokestatic index, 3)) (kk : ∀ (H1 : Heap) (locs1 : List Loc), WD D (tyC cI) (cellsC ad ln cI (setR σ 5 (va_cpy f f sp.toNatClampNeg dp.toNatClampNeg n.toNatClampNeg))) A s H1 locs1 → W p l e R s m args below meth c H1 locs1 cells slots Q (F0 m (pc + 3) ls rest)) : W p l e R s m args below meth c H locs cells slots Q (F0 m pc ls (.int n :: .int dp :: .ref (ad 5) :: .int sp :: .ref (ad 5) :: rest)) := by
  subst hf
  obtain ⟨hx, hb, -, hml, hown, hts, -⟩ := hB
  exact va_copyi hx hb (hml.trans hls.symm) hown (hts _ hk) (hts (.native arraycopyName) m409) (hts (.static arraycopyName) m496) (hts (.initialized "java/lang/System") m179) hw.1 hw.2.1 hw.2.2.1 hw.2.2.2.1 5 5 0 0 rfl rfl rfl rfl rfl h1 h2 h3 h4 h5 (fun i _ => rfl) hfr hlo hdg (fun H1 locs1 q1 q2 q3 => kk H1 locs1 ⟨hw.1, q1, q2, q3, hw.2.2.2.2⟩)
theorem yC_1 {sp dp n : Int32} {f : Nat → Int32} (hB : MB p s m args meth c cc nL ret own) (hw : WD D (tyC cI) (cellsC ad ln cI σ) A s H locs) (hls : ls.size = nL) (hk : Cond.methodLink own index arraycopyName ∈ wAll) (hfr : 1 ≤ R.frames) (hlo : (rest.map fun v => v.category).sum + (nativeFrameWords "java/lang/System" "arraycopy" 5 + 11) ≤ R.locals) (hf : σ.2 1 = f) (h1 : ¬ sp < 0) (h2 : ¬ dp < 0) (h3 : ¬ n < 0) (h4 : sp.toNatClampNeg + n.toNatClampNeg ≤ ln 1) (h5 : dp.toNatClampNeg + n.toNatClampNeg ≤ ln 1) (hdg : decode cc pc = .ok (.invokestatic index, 3)) (kk : ∀ (H1 : Heap) (locs1 : List Loc), WD D (tyC cI) (cellsC ad ln cI (setR σ 1 (va_cpy f f sp.toNatClampNeg dp.toNatClampNeg n.toNatClampNeg))) A s H1 locs1 → W p l e R s m args below meth c H1 locs1 cells slots Q (F0 m (pc + 3) ls rest)) : W p l e R s m args below meth c H locs cells slots Q (F0 m pc ls (.int n :: .int dp :: .ref (ad 1) :: .int sp :: .ref (ad 1) :: rest)) := by
  subst hf
  obtain ⟨hx, hb, -, hml, hown, hts, -⟩ := hB
  exact va_copyi hx hb (hml.trans hls.symm) hown (hts _ hk) (hts (.native arraycopyName) m409) (hts (.static arraycopyName) m496) (hts (.initialized "java/lang/System") m179) hw.1 hw.2.1 hw.2.2.1 hw.2.2.2.1 1 1 0 0 rfl rfl rfl rfl rfl h1 h2 h3 h4 h5 (fun i _ => rfl) hfr hlo hdg (fun H1 locs1 q1 q2 q3 => kk H1 locs1 ⟨hw.1, q1, q2, q3, hw.2.2.2.2⟩)
theorem m_max {x y : Int32} (hB : MB p s m args meth c cc nL ret own) (hls : ls.size = nL) (hk : Cond.methodLink own index Lib.Math.max.name ∈ wAll) (hfr : 1 ≤ R.frames) (hlo : (rest.map fun v => v.category).sum + 13 ≤ R.locals) (hc : cells ≤ R.cells) (hs : slots ≤ R.slots) (hdg : decode cc pc = .ok (.invokestatic index, 3)) (kk : W p l e R s m args below meth c H locs cells slots Q (F0 m (pc + 3) ls (.int (if x < y then y else x) :: rest))) : W p l e R s m args below meth c H locs cells slots Q (F0 m pc ls (.int y :: .int x :: rest)) := by
  obtain ⟨hx, hb, -, hml, hown, hts, -⟩ := hB
  exact va_mmax hx hb (hml.trans hls.symm) hown (hts _ hk) (hts (.static Lib.Math.max.name) m494) (hts (.initialized "java/lang/Math") m178) (hts (.code Lib.Math.max.name Lib.Math.max.code 2 (some .int)) m16) hfr hlo hc hs hdg kk
theorem m_min {x y : Int32} (hB : MB p s m args meth c cc nL ret own) (hls : ls.size = nL) (hk : Cond.methodLink own index Lib.Math.min.name ∈ wAll) (hfr : 1 ≤ R.frames) (hlo : (rest.map fun v => v.category).sum + 13 ≤ R.locals) (hc : cells ≤ R.cells) (hs : slots ≤ R.slots) (hdg : decode cc pc = .ok (.invokestatic index, 3)) (kk : W p l e R s m args below meth c H locs cells slots Q (F0 m (pc + 3) ls (.int (if y < x then y else x) :: rest))) : W p l e R s m args below meth c H locs cells slots Q (F0 m pc ls (.int y :: .int x :: rest)) := by
  obtain ⟨hx, hb, -, hml, hown, hts, -⟩ := hB
  exact va_mmin hx hb (hml.trans hls.symm) hown (hts _ hk) (hts (.static Lib.Math.min.name) m495) (hts (.initialized "java/lang/Math") m178) (hts (.code Lib.Math.min.name Lib.Math.min.code 2 (some .int)) m17) hfr hlo hc hs hdg kk
end CELLSC
def cellsM (ad ln : Nat → Nat) (cI cZ : ClassId) (σ : CS) : va_W := [(ad 0, .inr (5, [.int (σ.1 0), .int (σ.1 1), .ref (ad 1), .ref (ad 2), .ref (ad 3), .ref (ad 4), .int (σ.1 2), .int (σ.1 3), .int (σ.1 4), .ref (ad 5), .ref (ad 6), .int (σ.1 5), .ref (ad 7), .ref (ad 8), .int (σ.1 6), .ref (ad 9), .ref (ad 10), .ref (ad 11)])),
  (ad 1, .inl (cI, ln 1, .inl (σ.2 1))),
  (ad 2, .inl (cZ, ln 2, .inl (σ.2 2))),
  (ad 3, .inl (cZ, ln 3, .inl (σ.2 3))),
  (ad 4, .inl (cI, ln 4, .inl (σ.2 4))),
  (ad 5, .inl (cI, ln 5, .inl (σ.2 5))),
  (ad 6, .inl (cI, ln 6, .inl (σ.2 6))),
  (ad 7, .inl (cI, ln 7, .inl (σ.2 7))),
  (ad 8, .inl (cI, ln 8, .inl (σ.2 8))),
  (ad 9, .inl (cI, ln 9, .inl (σ.2 9))),
  (ad 10, .inl (cI, ln 10, .inl (σ.2 10))),
  (ad 11, .inl (cI, ln 11, .inl (σ.2 11)))]
abbrev tyM (cI cZ : ClassId) : List (ClassId × FieldType) := [(cI, .int), (cZ, .boolean)]
section CELLSM
variable {p : Program} {l : Launch} {e : Env} {R : Room} {s : State} {m : MethodId} {args : Array Value} {below : List Frame} {meth : Method} {c : Code} {H : Heap} {locs : List Loc} {cells slots : Nat} {Q : State → Prop}
variable {pc : Nat} {ls : Array Slot} {rest : List Value} {A : Nat → Prop} {D : va_G} {ad ln : Nat → Nat} {cI cZ : ClassId} {σ : CS} {cc : ByteArray} {nL : Nat} {ret : Option FieldType} {own : String} {index : Nat}
theorem gM_0_0 {x : Int32} (hB : MB p s m args meth c cc nL ret own) (hw : WD D (tyM cI cZ) (cellsM ad ln cI cZ σ) A s H locs) (hk : Cond.fieldLink own index "RunHeapModel" "thrown" "I" ∈ wAll) (hx : σ.1 0 = x) (hdg : decode cc pc = .ok (.getfield index, 3)) (kk : W p l e R s m args below meth c H locs cells slots Q (F0 m (pc + 3) ls (.int x :: rest))) : W p l e R s m args below meth c H locs cells slots Q (F0 m pc ls (.ref (ad 0) :: rest)) := by
  subst hx
  exact w_get hB hw inA_wsX50 0 rfl rfl 0 (by decide) hk rfl rfl hdg kk
theorem pM_0_0 {x : Int32} (hB : MB p s m args meth c cc nL ret own) (hw : WD D (tyM cI cZ) (cellsM ad ln cI cZ σ) A s H locs) (hk : Cond.fieldLink own index "RunHeapModel" "thrown" "I" ∈ wAll) (hdg : decode cc pc = .ok (.putfield index, 3)) (kk : ∀ (H1 : Heap) (locs1 : List Loc), WD D (tyM cI cZ) (cellsM ad ln cI cZ (setF σ 0 x)) A s H1 locs1 → W p l e R s m args below meth c H1 locs1 cells slots Q (F0 m (pc + 3) ls rest)) : W p l e R s m args below meth c H locs cells slots Q (F0 m pc ls (.int x :: .ref (ad 0) :: rest)) :=
  w_put hB hw inA_wsX50 tyX5 tyX5_ok nmX5 0 rfl rfl 0 (by decide) hk rfl rfl (ty := .int) rfl rfl rfl (Nat.le_of_ble_eq_true rfl) rfl hdg kk
theorem gM_0_1 {x : Int32} (hB : MB p s m args meth c cc nL ret own) (hw : WD D (tyM cI cZ) (cellsM ad ln cI cZ σ) A s H locs) (hk : Cond.fieldLink own index "RunHeapModel" "groups" "I" ∈ wAll) (hx : σ.1 1 = x) (hdg : decode cc pc = .ok (.getfield index, 3)) (kk : W p l e R s m args below meth c H locs cells slots Q (F0 m (pc + 3) ls (.int x :: rest))) : W p l e R s m args below meth c H locs cells slots Q (F0 m pc ls (.ref (ad 0) :: rest)) := by
  subst hx
  exact w_get hB hw inA_wsX50 0 rfl rfl 1 (by decide) hk rfl rfl hdg kk
theorem gM_0_2 (hB : MB p s m args meth c cc nL ret own) (hw : WD D (tyM cI cZ) (cellsM ad ln cI cZ σ) A s H locs) (hk : Cond.fieldLink own index "RunHeapModel" "size" "[I" ∈ wAll) (hdg : decode cc pc = .ok (.getfield index, 3)) (kk : W p l e R s m args below meth c H locs cells slots Q (F0 m (pc + 3) ls (.ref (ad 1) :: rest))) : W p l e R s m args below meth c H locs cells slots Q (F0 m pc ls (.ref (ad 0) :: rest)) :=
  w_get hB hw inA_wsX50 0 rfl rfl 2 (by decide) hk rfl rfl hdg kk
theorem gM_0_3 (hB : MB p s m args meth c cc nL ret own) (hw : WD D (tyM cI cZ) (cellsM ad ln cI cZ σ) A s H locs) (hk : Cond.fieldLink own index "RunHeapModel" "live" "[Z" ∈ wAll) (hdg : decode cc pc = .ok (.getfield index, 3)) (kk : W p l e R s m args below meth c H locs cells slots Q (F0 m (pc + 3) ls (.ref (ad 2) :: rest))) : W p l e R s m args below meth c H locs cells slots Q (F0 m pc ls (.ref (ad 0) :: rest)) :=
  w_get hB hw inA_wsX50 0 rfl rfl 3 (by decide) hk rfl rfl hdg kk
theorem gM_0_4 (hB : MB p s m args meth c cc nL ret own) (hw : WD D (tyM cI cZ) (cellsM ad ln cI cZ σ) A s H locs) (hk : Cond.fieldLink own index "RunHeapModel" "pinned" "[Z" ∈ wAll) (hdg : decode cc pc = .ok (.getfield index, 3)) (kk : W p l e R s m args below meth c H locs cells slots Q (F0 m (pc + 3) ls (.ref (ad 3) :: rest))) : W p l e R s m args below meth c H locs cells slots Q (F0 m pc ls (.ref (ad 0) :: rest)) :=
  w_get hB hw inA_wsX50 0 rfl rfl 4 (by decide) hk rfl rfl hdg kk
theorem gM_0_5 (hB : MB p s m args meth c cc nL ret own) (hw : WD D (tyM cI cZ) (cellsM ad ln cI cZ σ) A s H locs) (hk : Cond.fieldLink own index "RunHeapModel" "words" "[I" ∈ wAll) (hdg : decode cc pc = .ok (.getfield index, 3)) (kk : W p l e R s m args below meth c H locs cells slots Q (F0 m (pc + 3) ls (.ref (ad 4) :: rest))) : W p l e R s m args below meth c H locs cells slots Q (F0 m pc ls (.ref (ad 0) :: rest)) :=
  w_get hB hw inA_wsX50 0 rfl rfl 5 (by decide) hk rfl rfl hdg kk
theorem gM_0_6 {x : Int32} (hB : MB p s m args meth c cc nL ret own) (hw : WD D (tyM cI cZ) (cellsM ad ln cI cZ σ) A s H locs) (hk : Cond.fieldLink own index "RunHeapModel" "advised" "Z" ∈ wAll) (hx : σ.1 2 = x) (hdg : decode cc pc = .ok (.getfield index, 3)) (kk : W p l e R s m args below meth c H locs cells slots Q (F0 m (pc + 3) ls (.int x :: rest))) : W p l e R s m args below meth c H locs cells slots Q (F0 m pc ls (.ref (ad 0) :: rest)) := by
  subst hx
  exact w_get hB hw inA_wsX50 0 rfl rfl 6 (by decide) hk rfl rfl hdg kk
theorem pM_0_6 {x : Int32} (hB : MB p s m args meth c cc nL ret own) (hw : WD D (tyM cI cZ) (cellsM ad ln cI cZ σ) A s H locs) (hk : Cond.fieldLink own index "RunHeapModel" "advised" "Z" ∈ wAll) (hn : narrow .boolean (.int x) = .int x) (hf : fits .boolean (.int x) = true) (hdg : decode cc pc = .ok (.putfield index, 3)) (kk : ∀ (H1 : Heap) (locs1 : List Loc), WD D (tyM cI cZ) (cellsM ad ln cI cZ (setF σ 2 x)) A s H1 locs1 → W p l e R s m args below meth c H1 locs1 cells slots Q (F0 m (pc + 3) ls rest)) : W p l e R s m args below meth c H locs cells slots Q (F0 m pc ls (.int x :: .ref (ad 0) :: rest)) :=
  w_put hB hw inA_wsX50 tyX5 tyX5_ok nmX5 0 rfl rfl 6 (by decide) hk rfl rfl (ty := .boolean) rfl hn hf (Nat.le_of_ble_eq_true rfl) rfl hdg kk
theorem gM_0_7 {x : Int32} (hB : MB p s m args meth c cc nL ret own) (hw : WD D (tyM cI cZ) (cellsM ad ln cI cZ σ) A s H locs) (hk : Cond.fieldLink own index "RunHeapModel" "windowAt" "I" ∈ wAll) (hx : σ.1 3 = x) (hdg : decode cc pc = .ok (.getfield index, 3)) (kk : W p l e R s m args below meth c H locs cells slots Q (F0 m (pc + 3) ls (.int x :: rest))) : W p l e R s m args below meth c H locs cells slots Q (F0 m pc ls (.ref (ad 0) :: rest)) := by
  subst hx
  exact w_get hB hw inA_wsX50 0 rfl rfl 7 (by decide) hk rfl rfl hdg kk
theorem pM_0_7 {x : Int32} (hB : MB p s m args meth c cc nL ret own) (hw : WD D (tyM cI cZ) (cellsM ad ln cI cZ σ) A s H locs) (hk : Cond.fieldLink own index "RunHeapModel" "windowAt" "I" ∈ wAll) (hdg : decode cc pc = .ok (.putfield index, 3)) (kk : ∀ (H1 : Heap) (locs1 : List Loc), WD D (tyM cI cZ) (cellsM ad ln cI cZ (setF σ 3 x)) A s H1 locs1 → W p l e R s m args below meth c H1 locs1 cells slots Q (F0 m (pc + 3) ls rest)) : W p l e R s m args below meth c H locs cells slots Q (F0 m pc ls (.int x :: .ref (ad 0) :: rest)) :=
  w_put hB hw inA_wsX50 tyX5 tyX5_ok nmX5 0 rfl rfl 7 (by decide) hk rfl rfl (ty := .int) rfl rfl rfl (Nat.le_of_ble_eq_true rfl) rfl hdg kk
theorem gM_0_8 {x : Int32} (hB : MB p s m args meth c cc nL ret own) (hw : WD D (tyM cI cZ) (cellsM ad ln cI cZ σ) A s H locs) (hk : Cond.fieldLink own index "RunHeapModel" "moves" "I" ∈ wAll) (hx : σ.1 4 = x) (hdg : decode cc pc = .ok (.getfield index, 3)) (kk : W p l e R s m args below meth c H locs cells slots Q (F0 m (pc + 3) ls (.int x :: rest))) : W p l e R s m args below meth c H locs cells slots Q (F0 m pc ls (.ref (ad 0) :: rest)) := by
  subst hx
  exact w_get hB hw inA_wsX50 0 rfl rfl 8 (by decide) hk rfl rfl hdg kk
theorem pM_0_8 {x : Int32} (hB : MB p s m args meth c cc nL ret own) (hw : WD D (tyM cI cZ) (cellsM ad ln cI cZ σ) A s H locs) (hk : Cond.fieldLink own index "RunHeapModel" "moves" "I" ∈ wAll) (hdg : decode cc pc = .ok (.putfield index, 3)) (kk : ∀ (H1 : Heap) (locs1 : List Loc), WD D (tyM cI cZ) (cellsM ad ln cI cZ (setF σ 4 x)) A s H1 locs1 → W p l e R s m args below meth c H1 locs1 cells slots Q (F0 m (pc + 3) ls rest)) : W p l e R s m args below meth c H locs cells slots Q (F0 m pc ls (.int x :: .ref (ad 0) :: rest)) :=
  w_put hB hw inA_wsX50 tyX5 tyX5_ok nmX5 0 rfl rfl 8 (by decide) hk rfl rfl (ty := .int) rfl rfl rfl (Nat.le_of_ble_eq_true rfl) rfl hdg kk
theorem gM_0_9 (hB : MB p s m args meth c cc nL ret own) (hw : WD D (tyM cI cZ) (cellsM ad ln cI cZ σ) A s H locs) (hk : Cond.fieldLink own index "RunHeapModel" "movesFrom" "[I" ∈ wAll) (hdg : decode cc pc = .ok (.getfield index, 3)) (kk : W p l e R s m args below meth c H locs cells slots Q (F0 m (pc + 3) ls (.ref (ad 5) :: rest))) : W p l e R s m args below meth c H locs cells slots Q (F0 m pc ls (.ref (ad 0) :: rest)) :=
  w_get hB hw inA_wsX50 0 rfl rfl 9 (by decide) hk rfl rfl hdg kk
theorem gM_0_10 (hB : MB p s m args meth c cc nL ret own) (hw : WD D (tyM cI cZ) (cellsM ad ln cI cZ σ) A s H locs) (hk : Cond.fieldLink own index "RunHeapModel" "movesTo" "[I" ∈ wAll) (hdg : decode cc pc = .ok (.getfield index, 3)) (kk : W p l e R s m args below meth c H locs cells slots Q (F0 m (pc + 3) ls (.ref (ad 6) :: rest))) : W p l e R s m args below meth c H locs cells slots Q (F0 m pc ls (.ref (ad 0) :: rest)) :=
  w_get hB hw inA_wsX50 0 rfl rfl 10 (by decide) hk rfl rfl hdg kk
theorem gM_0_11 {x : Int32} (hB : MB p s m args meth c cc nL ret own) (hw : WD D (tyM cI cZ) (cellsM ad ln cI cZ σ) A s H locs) (hk : Cond.fieldLink own index "RunHeapModel" "done" "I" ∈ wAll) (hx : σ.1 5 = x) (hdg : decode cc pc = .ok (.getfield index, 3)) (kk : W p l e R s m args below meth c H locs cells slots Q (F0 m (pc + 3) ls (.int x :: rest))) : W p l e R s m args below meth c H locs cells slots Q (F0 m pc ls (.ref (ad 0) :: rest)) := by
  subst hx
  exact w_get hB hw inA_wsX50 0 rfl rfl 11 (by decide) hk rfl rfl hdg kk
theorem pM_0_11 {x : Int32} (hB : MB p s m args meth c cc nL ret own) (hw : WD D (tyM cI cZ) (cellsM ad ln cI cZ σ) A s H locs) (hk : Cond.fieldLink own index "RunHeapModel" "done" "I" ∈ wAll) (hdg : decode cc pc = .ok (.putfield index, 3)) (kk : ∀ (H1 : Heap) (locs1 : List Loc), WD D (tyM cI cZ) (cellsM ad ln cI cZ (setF σ 5 x)) A s H1 locs1 → W p l e R s m args below meth c H1 locs1 cells slots Q (F0 m (pc + 3) ls rest)) : W p l e R s m args below meth c H locs cells slots Q (F0 m pc ls (.int x :: .ref (ad 0) :: rest)) :=
  w_put hB hw inA_wsX50 tyX5 tyX5_ok nmX5 0 rfl rfl 11 (by decide) hk rfl rfl (ty := .int) rfl rfl rfl (Nat.le_of_ble_eq_true rfl) rfl hdg kk
theorem gM_0_12 (hB : MB p s m args meth c cc nL ret own) (hw : WD D (tyM cI cZ) (cellsM ad ln cI cZ σ) A s H locs) (hk : Cond.fieldLink own index "RunHeapModel" "doneFrom" "[I" ∈ wAll) (hdg : decode cc pc = .ok (.getfield index, 3)) (kk : W p l e R s m args below meth c H locs cells slots Q (F0 m (pc + 3) ls (.ref (ad 7) :: rest))) : W p l e R s m args below meth c H locs cells slots Q (F0 m pc ls (.ref (ad 0) :: rest)) :=
  w_get hB hw inA_wsX50 0 rfl rfl 12 (by decide) hk rfl rfl hdg kk
theorem gM_0_13 (hB : MB p s m args meth c cc nL ret own) (hw : WD D (tyM cI cZ) (cellsM ad ln cI cZ σ) A s H locs) (hk : Cond.fieldLink own index "RunHeapModel" "doneTo" "[I" ∈ wAll) (hdg : decode cc pc = .ok (.getfield index, 3)) (kk : W p l e R s m args below meth c H locs cells slots Q (F0 m (pc + 3) ls (.ref (ad 8) :: rest))) : W p l e R s m args below meth c H locs cells slots Q (F0 m pc ls (.ref (ad 0) :: rest)) :=
  w_get hB hw inA_wsX50 0 rfl rfl 13 (by decide) hk rfl rfl hdg kk
theorem gM_0_14 {x : Int32} (hB : MB p s m args meth c cc nL ret own) (hw : WD D (tyM cI cZ) (cellsM ad ln cI cZ σ) A s H locs) (hk : Cond.fieldLink own index "RunHeapModel" "victims" "I" ∈ wAll) (hx : σ.1 6 = x) (hdg : decode cc pc = .ok (.getfield index, 3)) (kk : W p l e R s m args below meth c H locs cells slots Q (F0 m (pc + 3) ls (.int x :: rest))) : W p l e R s m args below meth c H locs cells slots Q (F0 m pc ls (.ref (ad 0) :: rest)) := by
  subst hx
  exact w_get hB hw inA_wsX50 0 rfl rfl 14 (by decide) hk rfl rfl hdg kk
theorem pM_0_14 {x : Int32} (hB : MB p s m args meth c cc nL ret own) (hw : WD D (tyM cI cZ) (cellsM ad ln cI cZ σ) A s H locs) (hk : Cond.fieldLink own index "RunHeapModel" "victims" "I" ∈ wAll) (hdg : decode cc pc = .ok (.putfield index, 3)) (kk : ∀ (H1 : Heap) (locs1 : List Loc), WD D (tyM cI cZ) (cellsM ad ln cI cZ (setF σ 6 x)) A s H1 locs1 → W p l e R s m args below meth c H1 locs1 cells slots Q (F0 m (pc + 3) ls rest)) : W p l e R s m args below meth c H locs cells slots Q (F0 m pc ls (.int x :: .ref (ad 0) :: rest)) :=
  w_put hB hw inA_wsX50 tyX5 tyX5_ok nmX5 0 rfl rfl 14 (by decide) hk rfl rfl (ty := .int) rfl rfl rfl (Nat.le_of_ble_eq_true rfl) rfl hdg kk
theorem gM_0_15 (hB : MB p s m args meth c cc nL ret own) (hw : WD D (tyM cI cZ) (cellsM ad ln cI cZ σ) A s H locs) (hk : Cond.fieldLink own index "RunHeapModel" "victim" "[I" ∈ wAll) (hdg : decode cc pc = .ok (.getfield index, 3)) (kk : W p l e R s m args below meth c H locs cells slots Q (F0 m (pc + 3) ls (.ref (ad 9) :: rest))) : W p l e R s m args below meth c H locs cells slots Q (F0 m pc ls (.ref (ad 0) :: rest)) :=
  w_get hB hw inA_wsX50 0 rfl rfl 15 (by decide) hk rfl rfl hdg kk
theorem gM_0_16 (hB : MB p s m args meth c cc nL ret own) (hw : WD D (tyM cI cZ) (cellsM ad ln cI cZ σ) A s H locs) (hk : Cond.fieldLink own index "RunHeapModel" "placed" "[I" ∈ wAll) (hdg : decode cc pc = .ok (.getfield index, 3)) (kk : W p l e R s m args below meth c H locs cells slots Q (F0 m (pc + 3) ls (.ref (ad 10) :: rest))) : W p l e R s m args below meth c H locs cells slots Q (F0 m pc ls (.ref (ad 0) :: rest)) :=
  w_get hB hw inA_wsX50 0 rfl rfl 16 (by decide) hk rfl rfl hdg kk
theorem gM_0_17 (hB : MB p s m args meth c cc nL ret own) (hw : WD D (tyM cI cZ) (cellsM ad ln cI cZ σ) A s H locs) (hk : Cond.fieldLink own index "RunHeapModel" "left" "[I" ∈ wAll) (hdg : decode cc pc = .ok (.getfield index, 3)) (kk : W p l e R s m args below meth c H locs cells slots Q (F0 m (pc + 3) ls (.ref (ad 11) :: rest))) : W p l e R s m args below meth c H locs cells slots Q (F0 m pc ls (.ref (ad 0) :: rest)) :=
  w_get hB hw inA_wsX50 0 rfl rfl 17 (by decide) hk rfl rfl hdg kk
theorem aM_1 {i : Int32} {f : Nat → Int32} (hB : MB p s m args meth c cc nL ret own) (hw : WD D (tyM cI cZ) (cellsM ad ln cI cZ σ) A s H locs) (hf : σ.2 1 = f) (hin : vp_in i (ln 1)) (hdg : decode cc pc = .ok (.iaload, 1)) (kk : W p l e R s m args below meth c H locs cells slots Q (F0 m (pc + 1) ls (.int (f i.toNatClampNeg) :: rest))) : W p l e R s m args below meth c H locs cells slots Q (F0 m pc ls (.int i :: .ref (ad 1) :: rest)) := by
  subst hf
  exact w_iald hB hw 1 0 rfl rfl hin hdg kk
theorem sM_1 {i x : Int32} (hB : MB p s m args meth c cc nL ret own) (hw : WD D (tyM cI cZ) (cellsM ad ln cI cZ σ) A s H locs) (hin : vp_in i (ln 1)) (hdg : decode cc pc = .ok (.iastore, 1)) (kk : ∀ (H1 : Heap) (locs1 : List Loc), WD D (tyM cI cZ) (cellsM ad ln cI cZ (setA σ 1 i.toNatClampNeg x)) A s H1 locs1 → W p l e R s m args below meth c H1 locs1 cells slots Q (F0 m (pc + 1) ls rest)) : W p l e R s m args below meth c H locs cells slots Q (F0 m pc ls (.int x :: .int i :: .ref (ad 1) :: rest)) :=
  w_iast hB hw 1 0 rfl rfl hin rfl hdg kk
theorem nM_1 {x : Int32} (hB : MB p s m args meth c cc nL ret own) (hw : WD D (tyM cI cZ) (cellsM ad ln cI cZ σ) A s H locs) (hx : nI (ln 1) = x) (hdg : decode cc pc = .ok (.arraylength, 1)) (kk : W p l e R s m args below meth c H locs cells slots Q (F0 m (pc + 1) ls (.int x :: rest))) : W p l e R s m args below meth c H locs cells slots Q (F0 m pc ls (.ref (ad 1) :: rest)) :=
  va_alen hB.1 hB.2.1 hw.1 hw.2.1 1 0 rfl rfl hx hdg kk
theorem aM_2 {i : Int32} {f : Nat → Int32} (hB : MB p s m args meth c cc nL ret own) (hw : WD D (tyM cI cZ) (cellsM ad ln cI cZ σ) A s H locs) (hf : σ.2 2 = f) (hin : vp_in i (ln 2)) (hdg : decode cc pc = .ok (.baload, 1)) (kk : W p l e R s m args below meth c H locs cells slots Q (F0 m (pc + 1) ls (.int (f i.toNatClampNeg) :: rest))) : W p l e R s m args below meth c H locs cells slots Q (F0 m pc ls (.int i :: .ref (ad 2) :: rest)) := by
  subst hf
  exact w_zald hB hw 2 1 rfl rfl hin hdg kk
theorem sM_2 {i x : Int32} (hB : MB p s m args meth c cc nL ret own) (hw : WD D (tyM cI cZ) (cellsM ad ln cI cZ σ) A s H locs) (hin : vp_in i (ln 2)) (hdg : decode cc pc = .ok (.bastore, 1)) (kk : ∀ (H1 : Heap) (locs1 : List Loc), WD D (tyM cI cZ) (cellsM ad ln cI cZ (setA σ 2 i.toNatClampNeg (vp_nar .boolean x))) A s H1 locs1 → W p l e R s m args below meth c H1 locs1 cells slots Q (F0 m (pc + 1) ls rest)) : W p l e R s m args below meth c H locs cells slots Q (F0 m pc ls (.int x :: .int i :: .ref (ad 2) :: rest)) :=
  w_zast hB hw 2 1 rfl rfl hin rfl hdg kk
theorem nM_2 {x : Int32} (hB : MB p s m args meth c cc nL ret own) (hw : WD D (tyM cI cZ) (cellsM ad ln cI cZ σ) A s H locs) (hx : nI (ln 2) = x) (hdg : decode cc pc = .ok (.arraylength, 1)) (kk : W p l e R s m args below meth c H locs cells slots Q (F0 m (pc + 1) ls (.int x :: rest))) : W p l e R s m args below meth c H locs cells slots Q (F0 m pc ls (.ref (ad 2) :: rest)) :=
  va_alen hB.1 hB.2.1 hw.1 hw.2.1 2 1 rfl rfl hx hdg kk
theorem aM_3 {i : Int32} {f : Nat → Int32} (hB : MB p s m args meth c cc nL ret own) (hw : WD D (tyM cI cZ) (cellsM ad ln cI cZ σ) A s H locs) (hf : σ.2 3 = f) (hin : vp_in i (ln 3)) (hdg : decode cc pc = .ok (.baload, 1)) (kk : W p l e R s m args below meth c H locs cells slots Q (F0 m (pc + 1) ls (.int (f i.toNatClampNeg) :: rest))) : W p l e R s m args below meth c H locs cells slots Q (F0 m pc ls (.int i :: .ref (ad 3) :: rest)) := by
  subst hf
  exact w_zald hB hw 3 1 rfl rfl hin hdg kk
theorem sM_3 {i x : Int32} (hB : MB p s m args meth c cc nL ret own) (hw : WD D (tyM cI cZ) (cellsM ad ln cI cZ σ) A s H locs) (hin : vp_in i (ln 3)) (hdg : decode cc pc = .ok (.bastore, 1)) (kk : ∀ (H1 : Heap) (locs1 : List Loc), WD D (tyM cI cZ) (cellsM ad ln cI cZ (setA σ 3 i.toNatClampNeg (vp_nar .boolean x))) A s H1 locs1 → W p l e R s m args below meth c H1 locs1 cells slots Q (F0 m (pc + 1) ls rest)) : W p l e R s m args below meth c H locs cells slots Q (F0 m pc ls (.int x :: .int i :: .ref (ad 3) :: rest)) :=
  w_zast hB hw 3 1 rfl rfl hin rfl hdg kk
theorem nM_3 {x : Int32} (hB : MB p s m args meth c cc nL ret own) (hw : WD D (tyM cI cZ) (cellsM ad ln cI cZ σ) A s H locs) (hx : nI (ln 3) = x) (hdg : decode cc pc = .ok (.arraylength, 1)) (kk : W p l e R s m args below meth c H locs cells slots Q (F0 m (pc + 1) ls (.int x :: rest))) : W p l e R s m args below meth c H locs cells slots Q (F0 m pc ls (.ref (ad 3) :: rest)) :=
  va_alen hB.1 hB.2.1 hw.1 hw.2.1 3 1 rfl rfl hx hdg kk
theorem aM_4 {i : Int32} {f : Nat → Int32} (hB : MB p s m args meth c cc nL ret own) (hw : WD D (tyM cI cZ) (cellsM ad ln cI cZ σ) A s H locs) (hf : σ.2 4 = f) (hin : vp_in i (ln 4)) (hdg : decode cc pc = .ok (.iaload, 1)) (kk : W p l e R s m args below meth c H locs cells slots Q (F0 m (pc + 1) ls (.int (f i.toNatClampNeg) :: rest))) : W p l e R s m args below meth c H locs cells slots Q (F0 m pc ls (.int i :: .ref (ad 4) :: rest)) := by
  subst hf
  exact w_iald hB hw 4 0 rfl rfl hin hdg kk
theorem sM_4 {i x : Int32} (hB : MB p s m args meth c cc nL ret own) (hw : WD D (tyM cI cZ) (cellsM ad ln cI cZ σ) A s H locs) (hin : vp_in i (ln 4)) (hdg : decode cc pc = .ok (.iastore, 1)) (kk : ∀ (H1 : Heap) (locs1 : List Loc), WD D (tyM cI cZ) (cellsM ad ln cI cZ (setA σ 4 i.toNatClampNeg x)) A s H1 locs1 → W p l e R s m args below meth c H1 locs1 cells slots Q (F0 m (pc + 1) ls rest)) : W p l e R s m args below meth c H locs cells slots Q (F0 m pc ls (.int x :: .int i :: .ref (ad 4) :: rest)) :=
  w_iast hB hw 4 0 rfl rfl hin rfl hdg kk
theorem nM_4 {x : Int32} (hB : MB p s m args meth c cc nL ret own) (hw : WD D (tyM cI cZ) (cellsM ad ln cI cZ σ) A s H locs) (hx : nI (ln 4) = x) (hdg : decode cc pc = .ok (.arraylength, 1)) (kk : W p l e R s m args below meth c H locs cells slots Q (F0 m (pc + 1) ls (.int x :: rest))) : W p l e R s m args below meth c H locs cells slots Q (F0 m pc ls (.ref (ad 4) :: rest)) :=
  va_alen hB.1 hB.2.1 hw.1 hw.2.1 4 0 rfl rfl hx hdg kk
theorem aM_5 {i : Int32} {f : Nat → Int32} (hB : MB p s m args meth c cc nL ret own) (hw : WD D (tyM cI cZ) (cellsM ad ln cI cZ σ) A s H locs) (hf : σ.2 5 = f) (hin : vp_in i (ln 5)) (hdg : decode cc pc = .ok (.iaload, 1)) (kk : W p l e R s m args below meth c H locs cells slots Q (F0 m (pc + 1) ls (.int (f i.toNatClampNeg) :: rest))) : W p l e R s m args below meth c H locs cells slots Q (F0 m pc ls (.int i :: .ref (ad 5) :: rest)) := by
  subst hf
  exact w_iald hB hw 5 0 rfl rfl hin hdg kk
theorem sM_5 {i x : Int32} (hB : MB p s m args meth c cc nL ret own) (hw : WD D (tyM cI cZ) (cellsM ad ln cI cZ σ) A s H locs) (hin : vp_in i (ln 5)) (hdg : decode cc pc = .ok (.iastore, 1)) (kk : ∀ (H1 : Heap) (locs1 : List Loc), WD D (tyM cI cZ) (cellsM ad ln cI cZ (setA σ 5 i.toNatClampNeg x)) A s H1 locs1 → W p l e R s m args below meth c H1 locs1 cells slots Q (F0 m (pc + 1) ls rest)) : W p l e R s m args below meth c H locs cells slots Q (F0 m pc ls (.int x :: .int i :: .ref (ad 5) :: rest)) :=
  w_iast hB hw 5 0 rfl rfl hin rfl hdg kk
theorem nM_5 {x : Int32} (hB : MB p s m args meth c cc nL ret own) (hw : WD D (tyM cI cZ) (cellsM ad ln cI cZ σ) A s H locs) (hx : nI (ln 5) = x) (hdg : decode cc pc = .ok (.arraylength, 1)) (kk : W p l e R s m args below meth c H locs cells slots Q (F0 m (pc + 1) ls (.int x :: rest))) : W p l e R s m args below meth c H locs cells slots Q (F0 m pc ls (.ref (ad 5) :: rest)) :=
  va_alen hB.1 hB.2.1 hw.1 hw.2.1 5 0 rfl rfl hx hdg kk
theorem aM_6 {i : Int32} {f : Nat → Int32} (hB : MB p s m args meth c cc nL ret own) (hw : WD D (tyM cI cZ) (cellsM ad ln cI cZ σ) A s H locs) (hf : σ.2 6 = f) (hin : vp_in i (ln 6)) (hdg : decode cc pc = .ok (.iaload, 1)) (kk : W p l e R s m args below meth c H locs cells slots Q (F0 m (pc + 1) ls (.int (f i.toNatClampNeg) :: rest))) : W p l e R s m args below meth c H locs cells slots Q (F0 m pc ls (.int i :: .ref (ad 6) :: rest)) := by
  subst hf
  exact w_iald hB hw 6 0 rfl rfl hin hdg kk
theorem sM_6 {i x : Int32} (hB : MB p s m args meth c cc nL ret own) (hw : WD D (tyM cI cZ) (cellsM ad ln cI cZ σ) A s H locs) (hin : vp_in i (ln 6)) (hdg : decode cc pc = .ok (.iastore, 1)) (kk : ∀ (H1 : Heap) (locs1 : List Loc), WD D (tyM cI cZ) (cellsM ad ln cI cZ (setA σ 6 i.toNatClampNeg x)) A s H1 locs1 → W p l e R s m args below meth c H1 locs1 cells slots Q (F0 m (pc + 1) ls rest)) : W p l e R s m args below meth c H locs cells slots Q (F0 m pc ls (.int x :: .int i :: .ref (ad 6) :: rest)) :=
  w_iast hB hw 6 0 rfl rfl hin rfl hdg kk
theorem nM_6 {x : Int32} (hB : MB p s m args meth c cc nL ret own) (hw : WD D (tyM cI cZ) (cellsM ad ln cI cZ σ) A s H locs) (hx : nI (ln 6) = x) (hdg : decode cc pc = .ok (.arraylength, 1)) (kk : W p l e R s m args below meth c H locs cells slots Q (F0 m (pc + 1) ls (.int x :: rest))) : W p l e R s m args below meth c H locs cells slots Q (F0 m pc ls (.ref (ad 6) :: rest)) :=
  va_alen hB.1 hB.2.1 hw.1 hw.2.1 6 0 rfl rfl hx hdg kk
theorem aM_7 {i : Int32} {f : Nat → Int32} (hB : MB p s m args meth c cc nL ret own) (hw : WD D (tyM cI cZ) (cellsM ad ln cI cZ σ) A s H locs) (hf : σ.2 7 = f) (hin : vp_in i (ln 7)) (hdg : decode cc pc = .ok (.iaload, 1)) (kk : W p l e R s m args below meth c H locs cells slots Q (F0 m (pc + 1) ls (.int (f i.toNatClampNeg) :: rest))) : W p l e R s m args below meth c H locs cells slots Q (F0 m pc ls (.int i :: .ref (ad 7) :: rest)) := by
  subst hf
  exact w_iald hB hw 7 0 rfl rfl hin hdg kk
theorem sM_7 {i x : Int32} (hB : MB p s m args meth c cc nL ret own) (hw : WD D (tyM cI cZ) (cellsM ad ln cI cZ σ) A s H locs) (hin : vp_in i (ln 7)) (hdg : decode cc pc = .ok (.iastore, 1)) (kk : ∀ (H1 : Heap) (locs1 : List Loc), WD D (tyM cI cZ) (cellsM ad ln cI cZ (setA σ 7 i.toNatClampNeg x)) A s H1 locs1 → W p l e R s m args below meth c H1 locs1 cells slots Q (F0 m (pc + 1) ls rest)) : W p l e R s m args below meth c H locs cells slots Q (F0 m pc ls (.int x :: .int i :: .ref (ad 7) :: rest)) :=
  w_iast hB hw 7 0 rfl rfl hin rfl hdg kk
theorem nM_7 {x : Int32} (hB : MB p s m args meth c cc nL ret own) (hw : WD D (tyM cI cZ) (cellsM ad ln cI cZ σ) A s H locs) (hx : nI (ln 7) = x) (hdg : decode cc pc = .ok (.arraylength, 1)) (kk : W p l e R s m args below meth c H locs cells slots Q (F0 m (pc + 1) ls (.int x :: rest))) : W p l e R s m args below meth c H locs cells slots Q (F0 m pc ls (.ref (ad 7) :: rest)) :=
  va_alen hB.1 hB.2.1 hw.1 hw.2.1 7 0 rfl rfl hx hdg kk
theorem aM_8 {i : Int32} {f : Nat → Int32} (hB : MB p s m args meth c cc nL ret own) (hw : WD D (tyM cI cZ) (cellsM ad ln cI cZ σ) A s H locs) (hf : σ.2 8 = f) (hin : vp_in i (ln 8)) (hdg : decode cc pc = .ok (.iaload, 1)) (kk : W p l e R s m args below meth c H locs cells slots Q (F0 m (pc + 1) ls (.int (f i.toNatClampNeg) :: rest))) : W p l e R s m args below meth c H locs cells slots Q (F0 m pc ls (.int i :: .ref (ad 8) :: rest)) := by
  subst hf
  exact w_iald hB hw 8 0 rfl rfl hin hdg kk
theorem sM_8 {i x : Int32} (hB : MB p s m args meth c cc nL ret own) (hw : WD D (tyM cI cZ) (cellsM ad ln cI cZ σ) A s H locs) (hin : vp_in i (ln 8)) (hdg : decode cc pc = .ok (.iastore, 1)) (kk : ∀ (H1 : Heap) (locs1 : List Loc), WD D (tyM cI cZ) (cellsM ad ln cI cZ (setA σ 8 i.toNatClampNeg x)) A s H1 locs1 → W p l e R s m args below meth c H1 locs1 cells slots Q (F0 m (pc + 1) ls rest)) : W p l e R s m args below meth c H locs cells slots Q (F0 m pc ls (.int x :: .int i :: .ref (ad 8) :: rest)) :=
  w_iast hB hw 8 0 rfl rfl hin rfl hdg kk
theorem nM_8 {x : Int32} (hB : MB p s m args meth c cc nL ret own) (hw : WD D (tyM cI cZ) (cellsM ad ln cI cZ σ) A s H locs) (hx : nI (ln 8) = x) (hdg : decode cc pc = .ok (.arraylength, 1)) (kk : W p l e R s m args below meth c H locs cells slots Q (F0 m (pc + 1) ls (.int x :: rest))) : W p l e R s m args below meth c H locs cells slots Q (F0 m pc ls (.ref (ad 8) :: rest)) :=
  va_alen hB.1 hB.2.1 hw.1 hw.2.1 8 0 rfl rfl hx hdg kk
theorem aM_9 {i : Int32} {f : Nat → Int32} (hB : MB p s m args meth c cc nL ret own) (hw : WD D (tyM cI cZ) (cellsM ad ln cI cZ σ) A s H locs) (hf : σ.2 9 = f) (hin : vp_in i (ln 9)) (hdg : decode cc pc = .ok (.iaload, 1)) (kk : W p l e R s m args below meth c H locs cells slots Q (F0 m (pc + 1) ls (.int (f i.toNatClampNeg) :: rest))) : W p l e R s m args below meth c H locs cells slots Q (F0 m pc ls (.int i :: .ref (ad 9) :: rest)) := by
  subst hf
  exact w_iald hB hw 9 0 rfl rfl hin hdg kk
theorem sM_9 {i x : Int32} (hB : MB p s m args meth c cc nL ret own) (hw : WD D (tyM cI cZ) (cellsM ad ln cI cZ σ) A s H locs) (hin : vp_in i (ln 9)) (hdg : decode cc pc = .ok (.iastore, 1)) (kk : ∀ (H1 : Heap) (locs1 : List Loc), WD D (tyM cI cZ) (cellsM ad ln cI cZ (setA σ 9 i.toNatClampNeg x)) A s H1 locs1 → W p l e R s m args below meth c H1 locs1 cells slots Q (F0 m (pc + 1) ls rest)) : W p l e R s m args below meth c H locs cells slots Q (F0 m pc ls (.int x :: .int i :: .ref (ad 9) :: rest)) :=
  w_iast hB hw 9 0 rfl rfl hin rfl hdg kk
theorem nM_9 {x : Int32} (hB : MB p s m args meth c cc nL ret own) (hw : WD D (tyM cI cZ) (cellsM ad ln cI cZ σ) A s H locs) (hx : nI (ln 9) = x) (hdg : decode cc pc = .ok (.arraylength, 1)) (kk : W p l e R s m args below meth c H locs cells slots Q (F0 m (pc + 1) ls (.int x :: rest))) : W p l e R s m args below meth c H locs cells slots Q (F0 m pc ls (.ref (ad 9) :: rest)) :=
  va_alen hB.1 hB.2.1 hw.1 hw.2.1 9 0 rfl rfl hx hdg kk
theorem aM_10 {i : Int32} {f : Nat → Int32} (hB : MB p s m args meth c cc nL ret own) (hw : WD D (tyM cI cZ) (cellsM ad ln cI cZ σ) A s H locs) (hf : σ.2 10 = f) (hin : vp_in i (ln 10)) (hdg : decode cc pc = .ok (.iaload, 1)) (kk : W p l e R s m args below meth c H locs cells slots Q (F0 m (pc + 1) ls (.int (f i.toNatClampNeg) :: rest))) : W p l e R s m args below meth c H locs cells slots Q (F0 m pc ls (.int i :: .ref (ad 10) :: rest)) := by
  subst hf
  exact w_iald hB hw 10 0 rfl rfl hin hdg kk
theorem sM_10 {i x : Int32} (hB : MB p s m args meth c cc nL ret own) (hw : WD D (tyM cI cZ) (cellsM ad ln cI cZ σ) A s H locs) (hin : vp_in i (ln 10)) (hdg : decode cc pc = .ok (.iastore, 1)) (kk : ∀ (H1 : Heap) (locs1 : List Loc), WD D (tyM cI cZ) (cellsM ad ln cI cZ (setA σ 10 i.toNatClampNeg x)) A s H1 locs1 → W p l e R s m args below meth c H1 locs1 cells slots Q (F0 m (pc + 1) ls rest)) : W p l e R s m args below meth c H locs cells slots Q (F0 m pc ls (.int x :: .int i :: .ref (ad 10) :: rest)) :=
  w_iast hB hw 10 0 rfl rfl hin rfl hdg kk
theorem nM_10 {x : Int32} (hB : MB p s m args meth c cc nL ret own) (hw : WD D (tyM cI cZ) (cellsM ad ln cI cZ σ) A s H locs) (hx : nI (ln 10) = x) (hdg : decode cc pc = .ok (.arraylength, 1)) (kk : W p l e R s m args below meth c H locs cells slots Q (F0 m (pc + 1) ls (.int x :: rest))) : W p l e R s m args below meth c H locs cells slots Q (F0 m pc ls (.ref (ad 10) :: rest)) :=
  va_alen hB.1 hB.2.1 hw.1 hw.2.1 10 0 rfl rfl hx hdg kk
theorem aM_11 {i : Int32} {f : Nat → Int32} (hB : MB p s m args meth c cc nL ret own) (hw : WD D (tyM cI cZ) (cellsM ad ln cI cZ σ) A s H locs) (hf : σ.2 11 = f) (hin : vp_in i (ln 11)) (hdg : decode cc pc = .ok (.iaload, 1)) (kk : W p l e R s m args below meth c H locs cells slots Q (F0 m (pc + 1) ls (.int (f i.toNatClampNeg) :: rest))) : W p l e R s m args below meth c H locs cells slots Q (F0 m pc ls (.int i :: .ref (ad 11) :: rest)) := by
  subst hf
  exact w_iald hB hw 11 0 rfl rfl hin hdg kk
theorem sM_11 {i x : Int32} (hB : MB p s m args meth c cc nL ret own) (hw : WD D (tyM cI cZ) (cellsM ad ln cI cZ σ) A s H locs) (hin : vp_in i (ln 11)) (hdg : decode cc pc = .ok (.iastore, 1)) (kk : ∀ (H1 : Heap) (locs1 : List Loc), WD D (tyM cI cZ) (cellsM ad ln cI cZ (setA σ 11 i.toNatClampNeg x)) A s H1 locs1 → W p l e R s m args below meth c H1 locs1 cells slots Q (F0 m (pc + 1) ls rest)) : W p l e R s m args below meth c H locs cells slots Q (F0 m pc ls (.int x :: .int i :: .ref (ad 11) :: rest)) :=
  w_iast hB hw 11 0 rfl rfl hin rfl hdg kk
theorem nM_11 {x : Int32} (hB : MB p s m args meth c cc nL ret own) (hw : WD D (tyM cI cZ) (cellsM ad ln cI cZ σ) A s H locs) (hx : nI (ln 11) = x) (hdg : decode cc pc = .ok (.arraylength, 1)) (kk : W p l e R s m args below meth c H locs cells slots Q (F0 m (pc + 1) ls (.int x :: rest))) : W p l e R s m args below meth c H locs cells slots Q (F0 m pc ls (.ref (ad 11) :: rest)) :=
  va_alen hB.1 hB.2.1 hw.1 hw.2.1 11 0 rfl rfl hx hdg kk
end CELLSM
end
section
/-! X2_end -/
def wp_X2_end (ln : Nat → Nat) (σ : CS) (p1 : Int32) (post : Int32 → CS → Prop) : Prop :=
  (vp_in p1 (ln 3) ∧ (vp_in p1 (ln 4) ∧ post (((σ.2 3) p1.toNatClampNeg) + ((σ.2 4) p1.toNatClampNeg)) σ))
set_option maxHeartbeats 4000000 in
set_option maxRecDepth 100000 in
theorem c_X2_end (l : Launch) (D : va_G) (ad ln : Nat → Nat) (cI : ClassId) (σ : CS) (p1 : Int32) (post : Int32 → CS → Prop) (hq : wp_X2_end ln σ p1 post) : MtI l D (tyC cI) (cellsC ad ln cI) yX2_end cX2_end 2 (some .int) (rmK 0) [.ref (ad 2), .int p1] σ post := by
  refine MtI_of (by decide) (Nat.le_of_ble_eq_true rfl) ?_
  intro p e s m below meth c A ls hB hw hl
  replace hB : MB p s m _ meth c cX2_end 2 (some .int) RX2 := hB
  replace hl : lv_has ls 2 [(0, .ref (ad 2)), (1, .int p1)] := hl
  obtain ⟨hx, hb, hr, hml, hown, hts, hlk⟩ := id hB
  unfold wp_X2_end at hq
  refine lv_aload_n hx hb dX2_end_0 rfl (lv_at hl 0 rfl) ?_
  refine gC_2_0 hB hw m135 dX2_end_1 ?_
  refine lv_iload_n hx hb dX2_end_4 rfl (lv_at hl 1 rfl) ?_
  obtain ⟨h1, hq⟩ := hq
  refine aC_3 (f := (σ.2 3)) hB hw rfl h1 dX2_end_5 ?_
  refine lv_aload_n hx hb dX2_end_6 rfl (lv_at hl 0 rfl) ?_
  refine gC_2_1 hB hw m132 dX2_end_7 ?_
  refine lv_iload_n hx hb dX2_end_10 rfl (lv_at hl 1 rfl) ?_
  obtain ⟨h2, hq⟩ := hq
  refine aC_4 (f := (σ.2 4)) hB hw rfl h2 dX2_end_11 ?_
  refine lv_iadd hx hb dX2_end_12 ?_
  exact w_iret hB hw hq dX2_end_13
theorem ok_X2_end : okY yX2_end 1 := ⟨by decide, by decide, by decide +kernel⟩
/-! X2_indexOf -/
def lb_X2_indexOf_2 (ln : Nat → Nat) (post : Int32 → CS → Prop)  (Kx : CS → Prop) (x1 : Int32) (Kb : CS → Int32 → Prop) (σ : CS) (x2 : Int32) : Prop :=
  (((σ.1 0) ≤ x2 → Kx σ) ∧ (¬ (σ.1 0) ≤ x2 → (vp_in x2 (ln 3) ∧ ((¬ ((σ.2 3) x2.toNatClampNeg) = x1 → Kb σ (x2 + 1)) ∧ (((σ.2 3) x2.toNatClampNeg) = x1 → post x2 σ)))))
def lp_X2_indexOf_2 (ln : Nat → Nat) (post : Int32 → CS → Prop)  (Kx : CS → Prop) (x1 : Int32) : Nat → CS → Int32 → Prop
  | 0 => fun _ _ => False
  | n + 1 => lb_X2_indexOf_2 ln post  Kx x1 (lp_X2_indexOf_2 ln post  Kx x1 n)
def wp_X2_indexOf (ln : Nat → Nat) (σ : CS) (p1 : Int32) (post : Int32 → CS → Prop) : Prop :=
  (∃ n4 : Nat, lp_X2_indexOf_2 ln post  (fun σ5 => post (-1) σ5) p1 n4 σ 0)
set_option maxHeartbeats 4000000 in
set_option maxRecDepth 100000 in
theorem wl_X2_indexOf_2 {p : Program} {l : Launch} {e : Env} {s : State} {m : MethodId} {args : Array Value} {below : List Frame} {meth : Method} {c : Code} {D : va_G} {ad ln : Nat → Nat} {cI : ClassId} {A : Nat → Prop} {post : Int32 → CS → Prop}  {Kx : CS → Prop} {x1 : Int32} (hB : MB p s m args meth c cX2_indexOf 3 (some .int) RX2)  (hKx : ∀ (σ : CS) (H : Heap) (locs : List Loc) (ls : Array Slot), Kx σ  → WD D (tyC cI) (cellsC ad ln cI σ) A s H locs → lv_has ls 3 [] → W p l e (rmK 0) s m args below meth c H locs 0 0 (MQ below (va_Qi post (Pos0 D (tyC cI) (cellsC ad ln cI) A) A) args s 0 0 A) (F0 m 28 ls [])) :
    ∀ (n : Nat) (σ : CS) (x2 : Int32) (H : Heap) (locs : List Loc) (ls : Array Slot), lp_X2_indexOf_2 ln post  Kx x1 n σ x2 → WD D (tyC cI) (cellsC ad ln cI σ) A s H locs → lv_has ls 3 [(0, .ref (ad 2)), (1, .int x1), (2, .int x2)] → W p l e (rmK 0) s m args below meth c H locs 0 0 (MQ below (va_Qi post (Pos0 D (tyC cI) (cellsC ad ln cI) A) A) args s 0 0 A) (F0 m 2 ls []) := by
  obtain ⟨hx, hb, hr, hml, hown, hts, hlk⟩ := id hB
  intro n
  induction n with
  | zero => intro σ x2 H locs ls hq hw hl; exact hq.elim
  | succ n ih =>
    intro σ x2 H locs ls hq hw hl
    replace hq : lb_X2_indexOf_2 ln post  Kx x1 (lp_X2_indexOf_2 ln post  Kx x1 n) σ x2 := hq
    refine lv_iload_n hx hb dX2_indexOf_2 rfl (lv_at hl 2 rfl) ?_
    refine lv_aload_n hx hb dX2_indexOf_3 rfl (lv_at hl 0 rfl) ?_
    refine gC_2_3 (x := σ.1 0) hB hw m134 rfl dX2_indexOf_4 ?_
    refine lv_icmp_ge (tgt := 28) hx hb dX2_indexOf_7 (by decide) (fun c1 => ?_) (fun c1 => ?_)
    · replace hq := hq.1 c1
      exact hKx σ _ _ _ hq hw (lv_sub hl [] rfl)
    · replace hq := hq.2 c1
      refine lv_aload_n hx hb dX2_indexOf_10 rfl (lv_at hl 0 rfl) ?_
      refine gC_2_0 hB hw m135 dX2_indexOf_11 ?_
      refine lv_iload_n hx hb dX2_indexOf_14 rfl (lv_at hl 2 rfl) ?_
      obtain ⟨h2, hq⟩ := hq
      refine aC_3 (f := (σ.2 3)) hB hw rfl h2 dX2_indexOf_15 ?_
      refine lv_iload_n hx hb dX2_indexOf_16 rfl (lv_at hl 1 rfl) ?_
      refine lv_icmp_ne (tgt := 22) hx hb dX2_indexOf_17 (by decide) (fun c3 => ?_) (fun c3 => ?_)
      · replace hq := hq.1 c3
        refine lv_iinc (v := x2 + 1) (lv' := [(2, .int (x2 + 1)), (0, .ref (ad 2)), (1, .int x1)]) hx hb dX2_indexOf_22 hl (k := 2) rfl rfl (by decide) rfl (fun ls hl => ?_)
        refine lv_goto (tgt := 2) hx hb dX2_indexOf_25 (by decide) ?_
        exact ih σ (x2 + 1) _ _ _ hq hw (lv_sub hl [1, 2, 0] rfl)
      · replace hq := hq.2 c3
        refine lv_iload_n hx hb dX2_indexOf_20 rfl (lv_at hl 2 rfl) ?_
        exact w_iret hB hw hq dX2_indexOf_21
set_option maxHeartbeats 4000000 in
set_option maxRecDepth 100000 in
theorem c_X2_indexOf (l : Launch) (D : va_G) (ad ln : Nat → Nat) (cI : ClassId) (σ : CS) (p1 : Int32) (post : Int32 → CS → Prop) (hq : wp_X2_indexOf ln σ p1 post) : MtI l D (tyC cI) (cellsC ad ln cI) yX2_indexOf cX2_indexOf 3 (some .int) (rmK 0) [.ref (ad 2), .int p1] σ post := by
  refine MtI_of (by decide) (Nat.le_of_ble_eq_true rfl) ?_
  intro p e s m below meth c A ls hB hw hl
  replace hB : MB p s m _ meth c cX2_indexOf 3 (some .int) RX2 := hB
  replace hl : lv_has ls 3 [(0, .ref (ad 2)), (1, .int p1)] := hl
  obtain ⟨hx, hb, hr, hml, hown, hts, hlk⟩ := id hB
  unfold wp_X2_indexOf at hq
  refine lv_iconst (v := 0) hx hb dX2_indexOf_0 (by decide) ?_
  refine lv_istore_n (lv' := [(2, .int 0), (0, .ref (ad 2)), (1, .int p1)]) hx hb dX2_indexOf_1 rfl hl (by decide) rfl (fun ls hl => ?_)
  obtain ⟨n4, hq⟩ := hq
  refine wl_X2_indexOf_2 hB  (fun σ5 H locs ls hq hw hl => ?_) n4 σ 0 _ _ _ hq hw (lv_sub hl [1, 2, 0] rfl)
  refine lv_iconst (v := (-1)) hx hb dX2_indexOf_28 (by decide) ?_
  exact w_iret hB hw hq dX2_indexOf_29
theorem ok_X2_indexOf : okY yX2_indexOf 1 := ⟨by decide, by decide, by decide +kernel⟩
/-! X2_liveIndex -/
def wp_X2_liveIndex (ln : Nat → Nat) (σ : CS) (p1 : Int32) (post : Int32 → CS → Prop) : Prop :=
  wp_X2_indexOf ln σ p1 (fun r2 σ1 => ((r2 = (-1) → post (-1) σ1) ∧ (¬ r2 = (-1) → (vp_in r2 (ln 5) ∧ ((((σ1.2 5) r2.toNatClampNeg) = 0 → post (-1) σ1) ∧ (¬ ((σ1.2 5) r2.toNatClampNeg) = 0 → post r2 σ1))))))
set_option maxHeartbeats 4000000 in
set_option maxRecDepth 100000 in
theorem c_X2_liveIndex (l : Launch) (D : va_G) (ad ln : Nat → Nat) (cI : ClassId) (σ : CS) (p1 : Int32) (post : Int32 → CS → Prop) (hq : wp_X2_liveIndex ln σ p1 post) : MtI l D (tyC cI) (cellsC ad ln cI) yX2_liveIndex cX2_liveIndex 3 (some .int) (rmK 1) [.ref (ad 2), .int p1] σ post := by
  refine MtI_of (by decide) (Nat.le_of_ble_eq_true rfl) ?_
  intro p e s m below meth c A ls hB hw hl
  replace hB : MB p s m _ meth c cX2_liveIndex 3 (some .int) RX2 := hB
  replace hl : lv_has ls 3 [(0, .ref (ad 2)), (1, .int p1)] := hl
  obtain ⟨hx, hb, hr, hml, hown, hts, hlk⟩ := id hB
  unfold wp_X2_liveIndex at hq
  refine lv_aload_n hx hb dX2_liveIndex_0 rfl (lv_at hl 0 rfl) ?_
  refine lv_iload_n hx hb dX2_liveIndex_1 rfl (lv_at hl 1 rfl) ?_
  refine w_cVI (As := [.int p1]) (rest := []) hB hw hl.1 (c_X2_indexOf l D ad ln cI σ p1 _ hq) m344 m208 m426 m185 m40 rfl ok_X2_indexOf (okR_K (by decide) (by decide)) (q0 := 2) (ci := 2) rfl rfl rfl rfl (Nat.le_of_ble_eq_true rfl) dX2_liveIndex_2 (fun r2 σ1 H locs hq hw => ?_)
  refine lv_istore_n (lv' := [(2, .int r2), (0, .ref (ad 2)), (1, .int p1)]) hx hb dX2_liveIndex_5 rfl hl (by decide) rfl (fun ls hl => ?_)
  refine lv_iload_n hx hb dX2_liveIndex_6 rfl (lv_at hl 0 rfl) ?_
  refine lv_iconst (v := (-1)) hx hb dX2_liveIndex_7 (by decide) ?_
  refine lv_icmp_eq (tgt := 24) hx hb dX2_liveIndex_8 (by decide) (fun c3 => ?_) (fun c3 => ?_)
  · replace hq := hq.1 c3
    refine lv_iconst (v := (-1)) hx hb dX2_liveIndex_24 (by decide) ?_
    exact w_iret hB hw hq dX2_liveIndex_25
  · replace hq := hq.2 c3
    refine lv_aload_n hx hb dX2_liveIndex_11 rfl (lv_at hl 1 rfl) ?_
    refine gC_2_2 hB hw m133 dX2_liveIndex_12 ?_
    refine lv_iload_n hx hb dX2_liveIndex_15 rfl (lv_at hl 0 rfl) ?_
    obtain ⟨h4, hq⟩ := hq
    refine aC_5 (f := (σ1.2 5)) hB hw rfl h4 dX2_liveIndex_16 ?_
    refine lv_if_eq (tgt := 24) hx hb dX2_liveIndex_17 (by decide) (fun c5 => ?_) (fun c5 => ?_)
    · replace hq := hq.1 c5
      refine lv_iconst (v := (-1)) hx hb dX2_liveIndex_24 (by decide) ?_
      exact w_iret hB hw hq dX2_liveIndex_25
    · replace hq := hq.2 c5
      refine lv_iload_n hx hb dX2_liveIndex_20 rfl (lv_at hl 0 rfl) ?_
      refine lv_goto (tgt := 25) hx hb dX2_liveIndex_21 (by decide) ?_
      exact w_iret hB hw hq dX2_liveIndex_25
theorem ok_X2_liveIndex : okY yX2_liveIndex 1 := ⟨by decide, by decide, by decide +kernel⟩
/-! X2_freeIndex -/
def wp_X2_freeIndex (ln : Nat → Nat) (σ : CS) (p1 : Int32) (post : Int32 → CS → Prop) : Prop :=
  wp_X2_indexOf ln σ p1 (fun r2 σ1 => ((r2 = (-1) → post (-1) σ1) ∧ (¬ r2 = (-1) → (vp_in r2 (ln 5) ∧ ((¬ ((σ1.2 5) r2.toNatClampNeg) = 0 → post (-1) σ1) ∧ (((σ1.2 5) r2.toNatClampNeg) = 0 → post r2 σ1))))))
set_option maxHeartbeats 4000000 in
set_option maxRecDepth 100000 in
theorem c_X2_freeIndex (l : Launch) (D : va_G) (ad ln : Nat → Nat) (cI : ClassId) (σ : CS) (p1 : Int32) (post : Int32 → CS → Prop) (hq : wp_X2_freeIndex ln σ p1 post) : MtI l D (tyC cI) (cellsC ad ln cI) yX2_freeIndex cX2_freeIndex 3 (some .int) (rmK 1) [.ref (ad 2), .int p1] σ post := by
  refine MtI_of (by decide) (Nat.le_of_ble_eq_true rfl) ?_
  intro p e s m below meth c A ls hB hw hl
  replace hB : MB p s m _ meth c cX2_freeIndex 3 (some .int) RX2 := hB
  replace hl : lv_has ls 3 [(0, .ref (ad 2)), (1, .int p1)] := hl
  obtain ⟨hx, hb, hr, hml, hown, hts, hlk⟩ := id hB
  unfold wp_X2_freeIndex at hq
  refine lv_aload_n hx hb dX2_freeIndex_0 rfl (lv_at hl 0 rfl) ?_
  refine lv_iload_n hx hb dX2_freeIndex_1 rfl (lv_at hl 1 rfl) ?_
  refine w_cVI (As := [.int p1]) (rest := []) hB hw hl.1 (c_X2_indexOf l D ad ln cI σ p1 _ hq) m344 m208 m426 m185 m40 rfl ok_X2_indexOf (okR_K (by decide) (by decide)) (q0 := 2) (ci := 2) rfl rfl rfl rfl (Nat.le_of_ble_eq_true rfl) dX2_freeIndex_2 (fun r2 σ1 H locs hq hw => ?_)
  refine lv_istore_n (lv' := [(2, .int r2), (0, .ref (ad 2)), (1, .int p1)]) hx hb dX2_freeIndex_5 rfl hl (by decide) rfl (fun ls hl => ?_)
  refine lv_iload_n hx hb dX2_freeIndex_6 rfl (lv_at hl 0 rfl) ?_
  refine lv_iconst (v := (-1)) hx hb dX2_freeIndex_7 (by decide) ?_
  refine lv_icmp_eq (tgt := 24) hx hb dX2_freeIndex_8 (by decide) (fun c3 => ?_) (fun c3 => ?_)
  · replace hq := hq.1 c3
    refine lv_iconst (v := (-1)) hx hb dX2_freeIndex_24 (by decide) ?_
    exact w_iret hB hw hq dX2_freeIndex_25
  · replace hq := hq.2 c3
    refine lv_aload_n hx hb dX2_freeIndex_11 rfl (lv_at hl 1 rfl) ?_
    refine gC_2_2 hB hw m133 dX2_freeIndex_12 ?_
    refine lv_iload_n hx hb dX2_freeIndex_15 rfl (lv_at hl 0 rfl) ?_
    obtain ⟨h4, hq⟩ := hq
    refine aC_5 (f := (σ1.2 5)) hB hw rfl h4 dX2_freeIndex_16 ?_
    refine lv_if_ne (tgt := 24) hx hb dX2_freeIndex_17 (by decide) (fun c5 => ?_) (fun c5 => ?_)
    · replace hq := hq.1 c5
      refine lv_iconst (v := (-1)) hx hb dX2_freeIndex_24 (by decide) ?_
      exact w_iret hB hw hq dX2_freeIndex_25
    · replace hq := hq.2 c5
      refine lv_iload_n hx hb dX2_freeIndex_20 rfl (lv_at hl 0 rfl) ?_
      refine lv_goto (tgt := 25) hx hb dX2_freeIndex_21 (by decide) ?_
      exact w_iret hB hw hq dX2_freeIndex_25
theorem ok_X2_freeIndex : okY yX2_freeIndex 1 := ⟨by decide, by decide, by decide +kernel⟩
/-! X2_freeBlocks -/
def lb_X2_freeBlocks_4 (ln : Nat → Nat) (post : Int32 → CS → Prop)  (Kx : CS → Int32 → Prop)  (Kb : CS → Int32 → Int32 → Prop) (σ : CS) (x1 x2 : Int32) : Prop :=
  (((σ.1 0) ≤ x2 → Kx σ x1) ∧ (¬ (σ.1 0) ≤ x2 → (vp_in x2 (ln 5) ∧ ((¬ ((σ.2 5) x2.toNatClampNeg) = 0 → Kb σ (x1 + 0) (x2 + 1)) ∧ (((σ.2 5) x2.toNatClampNeg) = 0 → Kb σ (x1 + 1) (x2 + 1))))))
def lp_X2_freeBlocks_4 (ln : Nat → Nat) (post : Int32 → CS → Prop)  (Kx : CS → Int32 → Prop)  : Nat → CS → Int32 → Int32 → Prop
  | 0 => fun _ _ _ => False
  | n + 1 => lb_X2_freeBlocks_4 ln post  Kx  (lp_X2_freeBlocks_4 ln post  Kx  n)
def wp_X2_freeBlocks (ln : Nat → Nat) (σ : CS) (post : Int32 → CS → Prop) : Prop :=
  (∃ n4 : Nat, lp_X2_freeBlocks_4 ln post  (fun σ5 x1_6 => post x1_6 σ5)  n4 σ 0 0)
set_option maxHeartbeats 4000000 in
set_option maxRecDepth 100000 in
theorem wl_X2_freeBlocks_4 {p : Program} {l : Launch} {e : Env} {s : State} {m : MethodId} {args : Array Value} {below : List Frame} {meth : Method} {c : Code} {D : va_G} {ad ln : Nat → Nat} {cI : ClassId} {A : Nat → Prop} {post : Int32 → CS → Prop}  {Kx : CS → Int32 → Prop}  (hB : MB p s m args meth c cX2_freeBlocks 3 (some .int) RX2)  (hKx : ∀ (σ : CS) (x1 : Int32) (H : Heap) (locs : List Loc) (ls : Array Slot), Kx σ x1 → WD D (tyC cI) (cellsC ad ln cI σ) A s H locs → lv_has ls 3 [(1, .int x1)] → W p l e (rmK 0) s m args below meth c H locs 0 0 (MQ below (va_Qi post (Pos0 D (tyC cI) (cellsC ad ln cI) A) A) args s 0 0 A) (F0 m 35 ls [])) :
    ∀ (n : Nat) (σ : CS) (x1 x2 : Int32) (H : Heap) (locs : List Loc) (ls : Array Slot), lp_X2_freeBlocks_4 ln post  Kx  n σ x1 x2 → WD D (tyC cI) (cellsC ad ln cI σ) A s H locs → lv_has ls 3 [(0, .ref (ad 2)), (1, .int x1), (2, .int x2)] → W p l e (rmK 0) s m args below meth c H locs 0 0 (MQ below (va_Qi post (Pos0 D (tyC cI) (cellsC ad ln cI) A) A) args s 0 0 A) (F0 m 4 ls []) := by
  obtain ⟨hx, hb, hr, hml, hown, hts, hlk⟩ := id hB
  intro n
  induction n with
  | zero => intro σ x1 x2 H locs ls hq hw hl; exact hq.elim
  | succ n ih =>
    intro σ x1 x2 H locs ls hq hw hl
    replace hq : lb_X2_freeBlocks_4 ln post  Kx  (lp_X2_freeBlocks_4 ln post  Kx  n) σ x1 x2 := hq
    refine lv_iload_n hx hb dX2_freeBlocks_4 rfl (lv_at hl 2 rfl) ?_
    refine lv_aload_n hx hb dX2_freeBlocks_5 rfl (lv_at hl 0 rfl) ?_
    refine gC_2_3 (x := σ.1 0) hB hw m134 rfl dX2_freeBlocks_6 ?_
    refine lv_icmp_ge (tgt := 35) hx hb dX2_freeBlocks_9 (by decide) (fun c1 => ?_) (fun c1 => ?_)
    · replace hq := hq.1 c1
      exact hKx σ x1 _ _ _ hq hw (lv_sub hl [1] rfl)
    · replace hq := hq.2 c1
      refine lv_iload_n hx hb dX2_freeBlocks_12 rfl (lv_at hl 1 rfl) ?_
      refine lv_aload_n hx hb dX2_freeBlocks_13 rfl (lv_at hl 0 rfl) ?_
      refine gC_2_2 hB hw m133 dX2_freeBlocks_14 ?_
      refine lv_iload_n hx hb dX2_freeBlocks_17 rfl (lv_at hl 2 rfl) ?_
      obtain ⟨h2, hq⟩ := hq
      refine aC_5 (f := (σ.2 5)) hB hw rfl h2 dX2_freeBlocks_18 ?_
      refine lv_if_ne (tgt := 26) hx hb dX2_freeBlocks_19 (by decide) (fun c3 => ?_) (fun c3 => ?_)
      · replace hq := hq.1 c3
        refine lv_iconst (v := 0) hx hb dX2_freeBlocks_26 (by decide) ?_
        refine lv_iadd hx hb dX2_freeBlocks_27 ?_
        refine lv_istore_n (lv' := [(1, .int (x1 + 0)), (0, .ref (ad 2)), (2, .int x2)]) hx hb dX2_freeBlocks_28 rfl hl (by decide) rfl (fun ls hl => ?_)
        refine lv_iinc (v := x2 + 1) (lv' := [(2, .int (x2 + 1)), (1, .int (x1 + 0)), (0, .ref (ad 2))]) hx hb dX2_freeBlocks_29 hl (k := 2) rfl rfl (by decide) rfl (fun ls hl => ?_)
        refine lv_goto (tgt := 4) hx hb dX2_freeBlocks_32 (by decide) ?_
        exact ih σ (x1 + 0) (x2 + 1) _ _ _ hq hw (lv_sub hl [2, 1, 0] rfl)
      · replace hq := hq.2 c3
        refine lv_iconst (v := 1) hx hb dX2_freeBlocks_22 (by decide) ?_
        refine lv_goto (tgt := 27) hx hb dX2_freeBlocks_23 (by decide) ?_
        refine lv_iadd hx hb dX2_freeBlocks_27 ?_
        refine lv_istore_n (lv' := [(1, .int (x1 + 1)), (0, .ref (ad 2)), (2, .int x2)]) hx hb dX2_freeBlocks_28 rfl hl (by decide) rfl (fun ls hl => ?_)
        refine lv_iinc (v := x2 + 1) (lv' := [(2, .int (x2 + 1)), (1, .int (x1 + 1)), (0, .ref (ad 2))]) hx hb dX2_freeBlocks_29 hl (k := 2) rfl rfl (by decide) rfl (fun ls hl => ?_)
        refine lv_goto (tgt := 4) hx hb dX2_freeBlocks_32 (by decide) ?_
        exact ih σ (x1 + 1) (x2 + 1) _ _ _ hq hw (lv_sub hl [2, 1, 0] rfl)
set_option maxHeartbeats 4000000 in
set_option maxRecDepth 100000 in
theorem c_X2_freeBlocks (l : Launch) (D : va_G) (ad ln : Nat → Nat) (cI : ClassId) (σ : CS) (post : Int32 → CS → Prop) (hq : wp_X2_freeBlocks ln σ  post) : MtI l D (tyC cI) (cellsC ad ln cI) yX2_freeBlocks cX2_freeBlocks 3 (some .int) (rmK 0) [.ref (ad 2)] σ post := by
  refine MtI_of (by decide) (Nat.le_of_ble_eq_true rfl) ?_
  intro p e s m below meth c A ls hB hw hl
  replace hB : MB p s m _ meth c cX2_freeBlocks 3 (some .int) RX2 := hB
  replace hl : lv_has ls 3 [(0, .ref (ad 2))] := hl
  obtain ⟨hx, hb, hr, hml, hown, hts, hlk⟩ := id hB
  unfold wp_X2_freeBlocks at hq
  refine lv_iconst (v := 0) hx hb dX2_freeBlocks_0 (by decide) ?_
  refine lv_istore_n (lv' := [(1, .int 0), (0, .ref (ad 2))]) hx hb dX2_freeBlocks_1 rfl hl (by decide) rfl (fun ls hl => ?_)
  refine lv_iconst (v := 0) hx hb dX2_freeBlocks_2 (by decide) ?_
  refine lv_istore_n (lv' := [(2, .int 0), (1, .int 0), (0, .ref (ad 2))]) hx hb dX2_freeBlocks_3 rfl hl (by decide) rfl (fun ls hl => ?_)
  obtain ⟨n4, hq⟩ := hq
  refine wl_X2_freeBlocks_4 hB  (fun σ5 x1_6 H locs ls hq hw hl => ?_) n4 σ 0 0 _ _ _ hq hw (lv_sub hl [2, 1, 0] rfl)
  refine lv_iload_n hx hb dX2_freeBlocks_35 rfl (lv_at hl 0 rfl) ?_
  exact w_iret hB hw hq dX2_freeBlocks_36
theorem ok_X2_freeBlocks : okY yX2_freeBlocks 0 := ⟨by decide, by decide, by decide +kernel⟩
/-! X2_liveBlocks -/
def wp_X2_liveBlocks (ln : Nat → Nat) (σ : CS) (post : Int32 → CS → Prop) : Prop :=
  wp_X2_freeBlocks ln σ (fun r2 σ1 => post ((σ.1 0) - r2) σ1)
set_option maxHeartbeats 4000000 in
set_option maxRecDepth 100000 in
theorem c_X2_liveBlocks (l : Launch) (D : va_G) (ad ln : Nat → Nat) (cI : ClassId) (σ : CS) (post : Int32 → CS → Prop) (hq : wp_X2_liveBlocks ln σ  post) : MtI l D (tyC cI) (cellsC ad ln cI) yX2_liveBlocks cX2_liveBlocks 1 (some .int) (rmK 1) [.ref (ad 2)] σ post := by
  refine MtI_of (by decide) (Nat.le_of_ble_eq_true rfl) ?_
  intro p e s m below meth c A ls hB hw hl
  replace hB : MB p s m _ meth c cX2_liveBlocks 1 (some .int) RX2 := hB
  replace hl : lv_has ls 1 [(0, .ref (ad 2))] := hl
  obtain ⟨hx, hb, hr, hml, hown, hts, hlk⟩ := id hB
  unfold wp_X2_liveBlocks at hq
  refine lv_aload_n hx hb dX2_liveBlocks_0 rfl (lv_at hl 0 rfl) ?_
  refine gC_2_3 (x := σ.1 0) hB hw m134 rfl dX2_liveBlocks_1 ?_
  refine lv_aload_n hx hb dX2_liveBlocks_4 rfl (lv_at hl 0 rfl) ?_
  refine w_cVI (As := []) (rest := [.int (σ.1 0)]) hB hw hl.1 (c_X2_freeBlocks l D ad ln cI σ _ hq) m345 m205 m423 m185 m37 rfl ok_X2_freeBlocks (okR_K (by decide) (by decide)) (q0 := 2) (ci := 2) rfl rfl rfl rfl (Nat.le_of_ble_eq_true rfl) dX2_liveBlocks_5 (fun r2 σ1 H locs hq hw => ?_)
  refine lv_isub hx hb dX2_liveBlocks_8 ?_
  exact w_iret hB hw hq dX2_liveBlocks_9
theorem ok_X2_liveBlocks : okY yX2_liveBlocks 0 := ⟨by decide, by decide, by decide +kernel⟩
/-! X2_freeWords -/
def lb_X2_freeWords_4 (ln : Nat → Nat) (post : Int32 → CS → Prop)  (Kx : CS → Int32 → Prop)  (Kb : CS → Int32 → Int32 → Prop) (σ : CS) (x1 x2 : Int32) : Prop :=
  (((σ.1 0) ≤ x2 → Kx σ x1) ∧ (¬ (σ.1 0) ≤ x2 → (vp_in x2 (ln 5) ∧ ((¬ ((σ.2 5) x2.toNatClampNeg) = 0 → Kb σ (x1 + 0) (x2 + 1)) ∧ (((σ.2 5) x2.toNatClampNeg) = 0 → (vp_in x2 (ln 4) ∧ Kb σ (x1 + ((σ.2 4) x2.toNatClampNeg)) (x2 + 1)))))))
def lp_X2_freeWords_4 (ln : Nat → Nat) (post : Int32 → CS → Prop)  (Kx : CS → Int32 → Prop)  : Nat → CS → Int32 → Int32 → Prop
  | 0 => fun _ _ _ => False
  | n + 1 => lb_X2_freeWords_4 ln post  Kx  (lp_X2_freeWords_4 ln post  Kx  n)
def wp_X2_freeWords (ln : Nat → Nat) (σ : CS) (post : Int32 → CS → Prop) : Prop :=
  (∃ n5 : Nat, lp_X2_freeWords_4 ln post  (fun σ6 x1_7 => post x1_7 σ6)  n5 σ 0 0)
set_option maxHeartbeats 4000000 in
set_option maxRecDepth 100000 in
theorem wl_X2_freeWords_4 {p : Program} {l : Launch} {e : Env} {s : State} {m : MethodId} {args : Array Value} {below : List Frame} {meth : Method} {c : Code} {D : va_G} {ad ln : Nat → Nat} {cI : ClassId} {A : Nat → Prop} {post : Int32 → CS → Prop}  {Kx : CS → Int32 → Prop}  (hB : MB p s m args meth c cX2_freeWords 3 (some .int) RX2)  (hKx : ∀ (σ : CS) (x1 : Int32) (H : Heap) (locs : List Loc) (ls : Array Slot), Kx σ x1 → WD D (tyC cI) (cellsC ad ln cI σ) A s H locs → lv_has ls 3 [(1, .int x1)] → W p l e (rmK 0) s m args below meth c H locs 0 0 (MQ below (va_Qi post (Pos0 D (tyC cI) (cellsC ad ln cI) A) A) args s 0 0 A) (F0 m 40 ls [])) :
    ∀ (n : Nat) (σ : CS) (x1 x2 : Int32) (H : Heap) (locs : List Loc) (ls : Array Slot), lp_X2_freeWords_4 ln post  Kx  n σ x1 x2 → WD D (tyC cI) (cellsC ad ln cI σ) A s H locs → lv_has ls 3 [(0, .ref (ad 2)), (1, .int x1), (2, .int x2)] → W p l e (rmK 0) s m args below meth c H locs 0 0 (MQ below (va_Qi post (Pos0 D (tyC cI) (cellsC ad ln cI) A) A) args s 0 0 A) (F0 m 4 ls []) := by
  obtain ⟨hx, hb, hr, hml, hown, hts, hlk⟩ := id hB
  intro n
  induction n with
  | zero => intro σ x1 x2 H locs ls hq hw hl; exact hq.elim
  | succ n ih =>
    intro σ x1 x2 H locs ls hq hw hl
    replace hq : lb_X2_freeWords_4 ln post  Kx  (lp_X2_freeWords_4 ln post  Kx  n) σ x1 x2 := hq
    refine lv_iload_n hx hb dX2_freeWords_4 rfl (lv_at hl 2 rfl) ?_
    refine lv_aload_n hx hb dX2_freeWords_5 rfl (lv_at hl 0 rfl) ?_
    refine gC_2_3 (x := σ.1 0) hB hw m134 rfl dX2_freeWords_6 ?_
    refine lv_icmp_ge (tgt := 40) hx hb dX2_freeWords_9 (by decide) (fun c1 => ?_) (fun c1 => ?_)
    · replace hq := hq.1 c1
      exact hKx σ x1 _ _ _ hq hw (lv_sub hl [1] rfl)
    · replace hq := hq.2 c1
      refine lv_iload_n hx hb dX2_freeWords_12 rfl (lv_at hl 1 rfl) ?_
      refine lv_aload_n hx hb dX2_freeWords_13 rfl (lv_at hl 0 rfl) ?_
      refine gC_2_2 hB hw m133 dX2_freeWords_14 ?_
      refine lv_iload_n hx hb dX2_freeWords_17 rfl (lv_at hl 2 rfl) ?_
      obtain ⟨h2, hq⟩ := hq
      refine aC_5 (f := (σ.2 5)) hB hw rfl h2 dX2_freeWords_18 ?_
      refine lv_if_ne (tgt := 31) hx hb dX2_freeWords_19 (by decide) (fun c3 => ?_) (fun c3 => ?_)
      · replace hq := hq.1 c3
        refine lv_iconst (v := 0) hx hb dX2_freeWords_31 (by decide) ?_
        refine lv_iadd hx hb dX2_freeWords_32 ?_
        refine lv_istore_n (lv' := [(1, .int (x1 + 0)), (0, .ref (ad 2)), (2, .int x2)]) hx hb dX2_freeWords_33 rfl hl (by decide) rfl (fun ls hl => ?_)
        refine lv_iinc (v := x2 + 1) (lv' := [(2, .int (x2 + 1)), (1, .int (x1 + 0)), (0, .ref (ad 2))]) hx hb dX2_freeWords_34 hl (k := 2) rfl rfl (by decide) rfl (fun ls hl => ?_)
        refine lv_goto (tgt := 4) hx hb dX2_freeWords_37 (by decide) ?_
        exact ih σ (x1 + 0) (x2 + 1) _ _ _ hq hw (lv_sub hl [2, 1, 0] rfl)
      · replace hq := hq.2 c3
        refine lv_aload_n hx hb dX2_freeWords_22 rfl (lv_at hl 0 rfl) ?_
        refine gC_2_1 hB hw m132 dX2_freeWords_23 ?_
        refine lv_iload_n hx hb dX2_freeWords_26 rfl (lv_at hl 2 rfl) ?_
        obtain ⟨h4, hq⟩ := hq
        refine aC_4 (f := (σ.2 4)) hB hw rfl h4 dX2_freeWords_27 ?_
        refine lv_goto (tgt := 32) hx hb dX2_freeWords_28 (by decide) ?_
        refine lv_iadd hx hb dX2_freeWords_32 ?_
        refine lv_istore_n (lv' := [(1, .int (x1 + ((σ.2 4) x2.toNatClampNeg))), (0, .ref (ad 2)), (2, .int x2)]) hx hb dX2_freeWords_33 rfl hl (by decide) rfl (fun ls hl => ?_)
        refine lv_iinc (v := x2 + 1) (lv' := [(2, .int (x2 + 1)), (1, .int (x1 + ((σ.2 4) x2.toNatClampNeg))), (0, .ref (ad 2))]) hx hb dX2_freeWords_34 hl (k := 2) rfl rfl (by decide) rfl (fun ls hl => ?_)
        refine lv_goto (tgt := 4) hx hb dX2_freeWords_37 (by decide) ?_
        exact ih σ (x1 + ((σ.2 4) x2.toNatClampNeg)) (x2 + 1) _ _ _ hq hw (lv_sub hl [2, 1, 0] rfl)
set_option maxHeartbeats 4000000 in
set_option maxRecDepth 100000 in
theorem c_X2_freeWords (l : Launch) (D : va_G) (ad ln : Nat → Nat) (cI : ClassId) (σ : CS) (post : Int32 → CS → Prop) (hq : wp_X2_freeWords ln σ  post) : MtI l D (tyC cI) (cellsC ad ln cI) yX2_freeWords cX2_freeWords 3 (some .int) (rmK 0) [.ref (ad 2)] σ post := by
  refine MtI_of (by decide) (Nat.le_of_ble_eq_true rfl) ?_
  intro p e s m below meth c A ls hB hw hl
  replace hB : MB p s m _ meth c cX2_freeWords 3 (some .int) RX2 := hB
  replace hl : lv_has ls 3 [(0, .ref (ad 2))] := hl
  obtain ⟨hx, hb, hr, hml, hown, hts, hlk⟩ := id hB
  unfold wp_X2_freeWords at hq
  refine lv_iconst (v := 0) hx hb dX2_freeWords_0 (by decide) ?_
  refine lv_istore_n (lv' := [(1, .int 0), (0, .ref (ad 2))]) hx hb dX2_freeWords_1 rfl hl (by decide) rfl (fun ls hl => ?_)
  refine lv_iconst (v := 0) hx hb dX2_freeWords_2 (by decide) ?_
  refine lv_istore_n (lv' := [(2, .int 0), (1, .int 0), (0, .ref (ad 2))]) hx hb dX2_freeWords_3 rfl hl (by decide) rfl (fun ls hl => ?_)
  obtain ⟨n5, hq⟩ := hq
  refine wl_X2_freeWords_4 hB  (fun σ6 x1_7 H locs ls hq hw hl => ?_) n5 σ 0 0 _ _ _ hq hw (lv_sub hl [2, 1, 0] rfl)
  refine lv_iload_n hx hb dX2_freeWords_40 rfl (lv_at hl 0 rfl) ?_
  exact w_iret hB hw hq dX2_freeWords_41
theorem ok_X2_freeWords : okY yX2_freeWords 0 := ⟨by decide, by decide, by decide +kernel⟩
/-! X2_largestFree -/
def lb_X2_largestFree_4 (ln : Nat → Nat) (post : Int32 → CS → Prop)  (Kx : CS → Int32 → Prop)  (Kb : CS → Int32 → Int32 → Prop) (σ : CS) (x1 x2 : Int32) : Prop :=
  (((σ.1 0) ≤ x2 → Kx σ x1) ∧ (¬ (σ.1 0) ≤ x2 → (vp_in x2 (ln 5) ∧ ((¬ ((σ.2 5) x2.toNatClampNeg) = 0 → Kb σ x1 (x2 + 1)) ∧ (((σ.2 5) x2.toNatClampNeg) = 0 → (vp_in x2 (ln 4) ∧ Kb σ (if x1 < ((σ.2 4) x2.toNatClampNeg) then ((σ.2 4) x2.toNatClampNeg) else x1) (x2 + 1)))))))
def lp_X2_largestFree_4 (ln : Nat → Nat) (post : Int32 → CS → Prop)  (Kx : CS → Int32 → Prop)  : Nat → CS → Int32 → Int32 → Prop
  | 0 => fun _ _ _ => False
  | n + 1 => lb_X2_largestFree_4 ln post  Kx  (lp_X2_largestFree_4 ln post  Kx  n)
def wp_X2_largestFree (ln : Nat → Nat) (σ : CS) (post : Int32 → CS → Prop) : Prop :=
  (∃ n5 : Nat, lp_X2_largestFree_4 ln post  (fun σ6 x1_7 => post x1_7 σ6)  n5 σ 0 0)
set_option maxHeartbeats 4000000 in
set_option maxRecDepth 100000 in
theorem wl_X2_largestFree_4 {p : Program} {l : Launch} {e : Env} {s : State} {m : MethodId} {args : Array Value} {below : List Frame} {meth : Method} {c : Code} {D : va_G} {ad ln : Nat → Nat} {cI : ClassId} {A : Nat → Prop} {post : Int32 → CS → Prop}  {Kx : CS → Int32 → Prop}  (hB : MB p s m args meth c cX2_largestFree 3 (some .int) RX2)  (hKx : ∀ (σ : CS) (x1 : Int32) (H : Heap) (locs : List Loc) (ls : Array Slot), Kx σ x1 → WD D (tyC cI) (cellsC ad ln cI σ) A s H locs → lv_has ls 3 [(1, .int x1)] → W p l e (rmK 0) s m args below meth c H locs 0 0 (MQ below (va_Qi post (Pos0 D (tyC cI) (cellsC ad ln cI) A) A) args s 0 0 A) (F0 m 42 ls [])) :
    ∀ (n : Nat) (σ : CS) (x1 x2 : Int32) (H : Heap) (locs : List Loc) (ls : Array Slot), lp_X2_largestFree_4 ln post  Kx  n σ x1 x2 → WD D (tyC cI) (cellsC ad ln cI σ) A s H locs → lv_has ls 3 [(0, .ref (ad 2)), (1, .int x1), (2, .int x2)] → W p l e (rmK 0) s m args below meth c H locs 0 0 (MQ below (va_Qi post (Pos0 D (tyC cI) (cellsC ad ln cI) A) A) args s 0 0 A) (F0 m 4 ls []) := by
  obtain ⟨hx, hb, hr, hml, hown, hts, hlk⟩ := id hB
  intro n
  induction n with
  | zero => intro σ x1 x2 H locs ls hq hw hl; exact hq.elim
  | succ n ih =>
    intro σ x1 x2 H locs ls hq hw hl
    replace hq : lb_X2_largestFree_4 ln post  Kx  (lp_X2_largestFree_4 ln post  Kx  n) σ x1 x2 := hq
    refine lv_iload_n hx hb dX2_largestFree_4 rfl (lv_at hl 2 rfl) ?_
    refine lv_aload_n hx hb dX2_largestFree_5 rfl (lv_at hl 0 rfl) ?_
    refine gC_2_3 (x := σ.1 0) hB hw m134 rfl dX2_largestFree_6 ?_
    refine lv_icmp_ge (tgt := 42) hx hb dX2_largestFree_9 (by decide) (fun c1 => ?_) (fun c1 => ?_)
    · replace hq := hq.1 c1
      exact hKx σ x1 _ _ _ hq hw (lv_sub hl [1] rfl)
    · replace hq := hq.2 c1
      refine lv_aload_n hx hb dX2_largestFree_12 rfl (lv_at hl 0 rfl) ?_
      refine gC_2_2 hB hw m133 dX2_largestFree_13 ?_
      refine lv_iload_n hx hb dX2_largestFree_16 rfl (lv_at hl 2 rfl) ?_
      obtain ⟨h2, hq⟩ := hq
      refine aC_5 (f := (σ.2 5)) hB hw rfl h2 dX2_largestFree_17 ?_
      refine lv_if_ne (tgt := 34) hx hb dX2_largestFree_18 (by decide) (fun c3 => ?_) (fun c3 => ?_)
      · replace hq := hq.1 c3
        refine lv_iload_n hx hb dX2_largestFree_34 rfl (lv_at hl 1 rfl) ?_
        refine lv_istore_n (lv' := [(1, .int x1), (0, .ref (ad 2)), (2, .int x2)]) hx hb dX2_largestFree_35 rfl hl (by decide) rfl (fun ls hl => ?_)
        refine lv_iinc (v := x2 + 1) (lv' := [(2, .int (x2 + 1)), (1, .int x1), (0, .ref (ad 2))]) hx hb dX2_largestFree_36 hl (k := 2) rfl rfl (by decide) rfl (fun ls hl => ?_)
        refine lv_goto (tgt := 4) hx hb dX2_largestFree_39 (by decide) ?_
        exact ih σ x1 (x2 + 1) _ _ _ hq hw (lv_sub hl [2, 1, 0] rfl)
      · replace hq := hq.2 c3
        refine lv_iload_n hx hb dX2_largestFree_21 rfl (lv_at hl 1 rfl) ?_
        refine lv_aload_n hx hb dX2_largestFree_22 rfl (lv_at hl 0 rfl) ?_
        refine gC_2_1 hB hw m132 dX2_largestFree_23 ?_
        refine lv_iload_n hx hb dX2_largestFree_26 rfl (lv_at hl 2 rfl) ?_
        obtain ⟨h4, hq⟩ := hq
        refine aC_4 (f := (σ.2 4)) hB hw rfl h4 dX2_largestFree_27 ?_
        refine m_max hB hl.1 m347 (Nat.le_of_ble_eq_true rfl) (Nat.le_of_ble_eq_true rfl) (Nat.zero_le _) (Nat.zero_le _) dX2_largestFree_28 ?_
        refine lv_goto (tgt := 35) hx hb dX2_largestFree_31 (by decide) ?_
        refine lv_istore_n (lv' := [(1, .int (if x1 < ((σ.2 4) x2.toNatClampNeg) then ((σ.2 4) x2.toNatClampNeg) else x1)), (0, .ref (ad 2)), (2, .int x2)]) hx hb dX2_largestFree_35 rfl hl (by decide) rfl (fun ls hl => ?_)
        refine lv_iinc (v := x2 + 1) (lv' := [(2, .int (x2 + 1)), (1, .int (if x1 < ((σ.2 4) x2.toNatClampNeg) then ((σ.2 4) x2.toNatClampNeg) else x1)), (0, .ref (ad 2))]) hx hb dX2_largestFree_36 hl (k := 2) rfl rfl (by decide) rfl (fun ls hl => ?_)
        refine lv_goto (tgt := 4) hx hb dX2_largestFree_39 (by decide) ?_
        exact ih σ (if x1 < ((σ.2 4) x2.toNatClampNeg) then ((σ.2 4) x2.toNatClampNeg) else x1) (x2 + 1) _ _ _ hq hw (lv_sub hl [2, 1, 0] rfl)
set_option maxHeartbeats 4000000 in
set_option maxRecDepth 100000 in
theorem c_X2_largestFree (l : Launch) (D : va_G) (ad ln : Nat → Nat) (cI : ClassId) (σ : CS) (post : Int32 → CS → Prop) (hq : wp_X2_largestFree ln σ  post) : MtI l D (tyC cI) (cellsC ad ln cI) yX2_largestFree cX2_largestFree 3 (some .int) (rmK 0) [.ref (ad 2)] σ post := by
  refine MtI_of (by decide) (Nat.le_of_ble_eq_true rfl) ?_
  intro p e s m below meth c A ls hB hw hl
  replace hB : MB p s m _ meth c cX2_largestFree 3 (some .int) RX2 := hB
  replace hl : lv_has ls 3 [(0, .ref (ad 2))] := hl
  obtain ⟨hx, hb, hr, hml, hown, hts, hlk⟩ := id hB
  unfold wp_X2_largestFree at hq
  refine lv_iconst (v := 0) hx hb dX2_largestFree_0 (by decide) ?_
  refine lv_istore_n (lv' := [(1, .int 0), (0, .ref (ad 2))]) hx hb dX2_largestFree_1 rfl hl (by decide) rfl (fun ls hl => ?_)
  refine lv_iconst (v := 0) hx hb dX2_largestFree_2 (by decide) ?_
  refine lv_istore_n (lv' := [(2, .int 0), (1, .int 0), (0, .ref (ad 2))]) hx hb dX2_largestFree_3 rfl hl (by decide) rfl (fun ls hl => ?_)
  obtain ⟨n5, hq⟩ := hq
  refine wl_X2_largestFree_4 hB  (fun σ6 x1_7 H locs ls hq hw hl => ?_) n5 σ 0 0 _ _ _ hq hw (lv_sub hl [2, 1, 0] rfl)
  refine lv_iload_n hx hb dX2_largestFree_42 rfl (lv_at hl 0 rfl) ?_
  exact w_iret hB hw hq dX2_largestFree_43
theorem ok_X2_largestFree : okY yX2_largestFree 0 := ⟨by decide, by decide, by decide +kernel⟩
/-! X2_freeAddress -/
def lb_X2_freeAddress_4 (ln : Nat → Nat) (post : Int32 → CS → Prop)  (Kx : CS → Prop) (x1 : Int32) (Kb : CS → Int32 → Int32 → Prop) (σ : CS) (x2 x3 : Int32) : Prop :=
  (((σ.1 0) ≤ x3 → Kx σ) ∧ (¬ (σ.1 0) ≤ x3 → (vp_in x3 (ln 5) ∧ ((¬ ((σ.2 5) x3.toNatClampNeg) = 0 → Kb σ x2 (x3 + 1)) ∧ (((σ.2 5) x3.toNatClampNeg) = 0 → ((¬ x2 = x1 → Kb σ (x2 + 1) (x3 + 1)) ∧ (x2 = x1 → (vp_in x3 (ln 3) ∧ post ((σ.2 3) x3.toNatClampNeg) σ))))))))
def lp_X2_freeAddress_4 (ln : Nat → Nat) (post : Int32 → CS → Prop)  (Kx : CS → Prop) (x1 : Int32) : Nat → CS → Int32 → Int32 → Prop
  | 0 => fun _ _ _ => False
  | n + 1 => lb_X2_freeAddress_4 ln post  Kx x1 (lp_X2_freeAddress_4 ln post  Kx x1 n)
def wp_X2_freeAddress (ln : Nat → Nat) (σ : CS) (p1 : Int32) (post : Int32 → CS → Prop) : Prop :=
  (∃ n6 : Nat, lp_X2_freeAddress_4 ln post  (fun σ7 => post (-1) σ7) p1 n6 σ 0 0)
set_option maxHeartbeats 4000000 in
set_option maxRecDepth 100000 in
theorem wl_X2_freeAddress_4 {p : Program} {l : Launch} {e : Env} {s : State} {m : MethodId} {args : Array Value} {below : List Frame} {meth : Method} {c : Code} {D : va_G} {ad ln : Nat → Nat} {cI : ClassId} {A : Nat → Prop} {post : Int32 → CS → Prop}  {Kx : CS → Prop} {x1 : Int32} (hB : MB p s m args meth c cX2_freeAddress 4 (some .int) RX2)  (hKx : ∀ (σ : CS) (H : Heap) (locs : List Loc) (ls : Array Slot), Kx σ  → WD D (tyC cI) (cellsC ad ln cI σ) A s H locs → lv_has ls 4 [] → W p l e (rmK 0) s m args below meth c H locs 0 0 (MQ below (va_Qi post (Pos0 D (tyC cI) (cellsC ad ln cI) A) A) args s 0 0 A) (F0 m 42 ls [])) :
    ∀ (n : Nat) (σ : CS) (x2 x3 : Int32) (H : Heap) (locs : List Loc) (ls : Array Slot), lp_X2_freeAddress_4 ln post  Kx x1 n σ x2 x3 → WD D (tyC cI) (cellsC ad ln cI σ) A s H locs → lv_has ls 4 [(0, .ref (ad 2)), (1, .int x1), (2, .int x2), (3, .int x3)] → W p l e (rmK 0) s m args below meth c H locs 0 0 (MQ below (va_Qi post (Pos0 D (tyC cI) (cellsC ad ln cI) A) A) args s 0 0 A) (F0 m 4 ls []) := by
  obtain ⟨hx, hb, hr, hml, hown, hts, hlk⟩ := id hB
  intro n
  induction n with
  | zero => intro σ x2 x3 H locs ls hq hw hl; exact hq.elim
  | succ n ih =>
    intro σ x2 x3 H locs ls hq hw hl
    replace hq : lb_X2_freeAddress_4 ln post  Kx x1 (lp_X2_freeAddress_4 ln post  Kx x1 n) σ x2 x3 := hq
    refine lv_iload_n hx hb dX2_freeAddress_4 rfl (lv_at hl 3 rfl) ?_
    refine lv_aload_n hx hb dX2_freeAddress_5 rfl (lv_at hl 0 rfl) ?_
    refine gC_2_3 (x := σ.1 0) hB hw m134 rfl dX2_freeAddress_6 ?_
    refine lv_icmp_ge (tgt := 42) hx hb dX2_freeAddress_9 (by decide) (fun c1 => ?_) (fun c1 => ?_)
    · replace hq := hq.1 c1
      exact hKx σ _ _ _ hq hw (lv_sub hl [] rfl)
    · replace hq := hq.2 c1
      refine lv_aload_n hx hb dX2_freeAddress_12 rfl (lv_at hl 0 rfl) ?_
      refine gC_2_2 hB hw m133 dX2_freeAddress_13 ?_
      refine lv_iload_n hx hb dX2_freeAddress_16 rfl (lv_at hl 3 rfl) ?_
      obtain ⟨h2, hq⟩ := hq
      refine aC_5 (f := (σ.2 5)) hB hw rfl h2 dX2_freeAddress_17 ?_
      refine lv_if_ne (tgt := 36) hx hb dX2_freeAddress_18 (by decide) (fun c3 => ?_) (fun c3 => ?_)
      · replace hq := hq.1 c3
        refine lv_iinc (v := x3 + 1) (lv' := [(3, .int (x3 + 1)), (0, .ref (ad 2)), (1, .int x1), (2, .int x2)]) hx hb dX2_freeAddress_36 hl (k := 3) rfl rfl (by decide) rfl (fun ls hl => ?_)
        refine lv_goto (tgt := 4) hx hb dX2_freeAddress_39 (by decide) ?_
        exact ih σ x2 (x3 + 1) _ _ _ hq hw (lv_sub hl [1, 2, 3, 0] rfl)
      · replace hq := hq.2 c3
        refine lv_iload_n hx hb dX2_freeAddress_21 rfl (lv_at hl 2 rfl) ?_
        refine lv_iload_n hx hb dX2_freeAddress_22 rfl (lv_at hl 1 rfl) ?_
        refine lv_icmp_ne (tgt := 33) hx hb dX2_freeAddress_23 (by decide) (fun c4 => ?_) (fun c4 => ?_)
        · replace hq := hq.1 c4
          refine lv_iinc (v := x2 + 1) (lv' := [(2, .int (x2 + 1)), (0, .ref (ad 2)), (1, .int x1), (3, .int x3)]) hx hb dX2_freeAddress_33 hl (k := 2) rfl rfl (by decide) rfl (fun ls hl => ?_)
          refine lv_iinc (v := x3 + 1) (lv' := [(3, .int (x3 + 1)), (2, .int (x2 + 1)), (0, .ref (ad 2)), (1, .int x1)]) hx hb dX2_freeAddress_36 hl (k := 3) rfl rfl (by decide) rfl (fun ls hl => ?_)
          refine lv_goto (tgt := 4) hx hb dX2_freeAddress_39 (by decide) ?_
          exact ih σ (x2 + 1) (x3 + 1) _ _ _ hq hw (lv_sub hl [2, 3, 1, 0] rfl)
        · replace hq := hq.2 c4
          refine lv_aload_n hx hb dX2_freeAddress_26 rfl (lv_at hl 0 rfl) ?_
          refine gC_2_0 hB hw m135 dX2_freeAddress_27 ?_
          refine lv_iload_n hx hb dX2_freeAddress_30 rfl (lv_at hl 3 rfl) ?_
          obtain ⟨h5, hq⟩ := hq
          refine aC_3 (f := (σ.2 3)) hB hw rfl h5 dX2_freeAddress_31 ?_
          exact w_iret hB hw hq dX2_freeAddress_32
set_option maxHeartbeats 4000000 in
set_option maxRecDepth 100000 in
theorem c_X2_freeAddress (l : Launch) (D : va_G) (ad ln : Nat → Nat) (cI : ClassId) (σ : CS) (p1 : Int32) (post : Int32 → CS → Prop) (hq : wp_X2_freeAddress ln σ p1 post) : MtI l D (tyC cI) (cellsC ad ln cI) yX2_freeAddress cX2_freeAddress 4 (some .int) (rmK 0) [.ref (ad 2), .int p1] σ post := by
  refine MtI_of (by decide) (Nat.le_of_ble_eq_true rfl) ?_
  intro p e s m below meth c A ls hB hw hl
  replace hB : MB p s m _ meth c cX2_freeAddress 4 (some .int) RX2 := hB
  replace hl : lv_has ls 4 [(0, .ref (ad 2)), (1, .int p1)] := hl
  obtain ⟨hx, hb, hr, hml, hown, hts, hlk⟩ := id hB
  unfold wp_X2_freeAddress at hq
  refine lv_iconst (v := 0) hx hb dX2_freeAddress_0 (by decide) ?_
  refine lv_istore_n (lv' := [(2, .int 0), (0, .ref (ad 2)), (1, .int p1)]) hx hb dX2_freeAddress_1 rfl hl (by decide) rfl (fun ls hl => ?_)
  refine lv_iconst (v := 0) hx hb dX2_freeAddress_2 (by decide) ?_
  refine lv_istore_n (lv' := [(3, .int 0), (2, .int 0), (0, .ref (ad 2)), (1, .int p1)]) hx hb dX2_freeAddress_3 rfl hl (by decide) rfl (fun ls hl => ?_)
  obtain ⟨n6, hq⟩ := hq
  refine wl_X2_freeAddress_4 hB  (fun σ7 H locs ls hq hw hl => ?_) n6 σ 0 0 _ _ _ hq hw (lv_sub hl [2, 3, 1, 0] rfl)
  refine lv_iconst (v := (-1)) hx hb dX2_freeAddress_42 (by decide) ?_
  exact w_iret hB hw hq dX2_freeAddress_43
theorem ok_X2_freeAddress : okY yX2_freeAddress 1 := ⟨by decide, by decide, by decide +kernel⟩
/-! X2_isFree -/
def wp_X2_isFree (ln : Nat → Nat) (σ : CS) (p1 : Int32) (post : Int32 → CS → Prop) : Prop :=
  ((p1 < 0 → post 0 σ) ∧ (¬ p1 < 0 → (((σ.1 0) ≤ p1 → post 0 σ) ∧ (¬ (σ.1 0) ≤ p1 → (vp_in p1 (ln 5) ∧ ((¬ ((σ.2 5) p1.toNatClampNeg) = 0 → post 0 σ) ∧ (((σ.2 5) p1.toNatClampNeg) = 0 → post 1 σ)))))))
set_option maxHeartbeats 4000000 in
set_option maxRecDepth 100000 in
theorem c_X2_isFree (l : Launch) (D : va_G) (ad ln : Nat → Nat) (cI : ClassId) (σ : CS) (p1 : Int32) (post : Int32 → CS → Prop) (hq : wp_X2_isFree ln σ p1 post) : MtI l D (tyC cI) (cellsC ad ln cI) yX2_isFree cX2_isFree 2 (some .boolean) (rmK 0) [.ref (ad 2), .int p1] σ post := by
  refine MtI_of (by decide) (Nat.le_of_ble_eq_true rfl) ?_
  intro p e s m below meth c A ls hB hw hl
  replace hB : MB p s m _ meth c cX2_isFree 2 (some .boolean) RX2 := hB
  replace hl : lv_has ls 2 [(0, .ref (ad 2)), (1, .int p1)] := hl
  obtain ⟨hx, hb, hr, hml, hown, hts, hlk⟩ := id hB
  unfold wp_X2_isFree at hq
  refine lv_iload_n hx hb dX2_isFree_0 rfl (lv_at hl 1 rfl) ?_
  refine lv_if_lt (tgt := 25) hx hb dX2_isFree_1 (by decide) (fun c1 => ?_) (fun c1 => ?_)
  · replace hq := hq.1 c1
    refine lv_iconst (v := 0) hx hb dX2_isFree_25 (by decide) ?_
    exact w_zret hB hw rfl hq dX2_isFree_26
  · replace hq := hq.2 c1
    refine lv_iload_n hx hb dX2_isFree_4 rfl (lv_at hl 1 rfl) ?_
    refine lv_aload_n hx hb dX2_isFree_5 rfl (lv_at hl 0 rfl) ?_
    refine gC_2_3 (x := σ.1 0) hB hw m134 rfl dX2_isFree_6 ?_
    refine lv_icmp_ge (tgt := 25) hx hb dX2_isFree_9 (by decide) (fun c2 => ?_) (fun c2 => ?_)
    · replace hq := hq.1 c2
      refine lv_iconst (v := 0) hx hb dX2_isFree_25 (by decide) ?_
      exact w_zret hB hw rfl hq dX2_isFree_26
    · replace hq := hq.2 c2
      refine lv_aload_n hx hb dX2_isFree_12 rfl (lv_at hl 0 rfl) ?_
      refine gC_2_2 hB hw m133 dX2_isFree_13 ?_
      refine lv_iload_n hx hb dX2_isFree_16 rfl (lv_at hl 1 rfl) ?_
      obtain ⟨h3, hq⟩ := hq
      refine aC_5 (f := (σ.2 5)) hB hw rfl h3 dX2_isFree_17 ?_
      refine lv_if_ne (tgt := 25) hx hb dX2_isFree_18 (by decide) (fun c4 => ?_) (fun c4 => ?_)
      · replace hq := hq.1 c4
        refine lv_iconst (v := 0) hx hb dX2_isFree_25 (by decide) ?_
        exact w_zret hB hw rfl hq dX2_isFree_26
      · replace hq := hq.2 c4
        refine lv_iconst (v := 1) hx hb dX2_isFree_21 (by decide) ?_
        refine lv_goto (tgt := 26) hx hb dX2_isFree_22 (by decide) ?_
        exact w_zret hB hw rfl hq dX2_isFree_26
theorem ok_X2_isFree : okY yX2_isFree 1 := ⟨by decide, by decide, by decide +kernel⟩
/-! X2_freeBehind -/
def wp_X2_freeBehind (ln : Nat → Nat) (σ : CS) (p1 : Int32) (post : Int32 → CS → Prop) : Prop :=
  wp_X2_isFree ln σ (p1 + 1) (fun r2 σ1 => ((r2 = 0 → post 0 σ1) ∧ (¬ r2 = 0 → (vp_in (p1 + 1) (ln 4) ∧ post ((σ1.2 4) (p1 + 1).toNatClampNeg) σ1))))
set_option maxHeartbeats 4000000 in
set_option maxRecDepth 100000 in
theorem c_X2_freeBehind (l : Launch) (D : va_G) (ad ln : Nat → Nat) (cI : ClassId) (σ : CS) (p1 : Int32) (post : Int32 → CS → Prop) (hq : wp_X2_freeBehind ln σ p1 post) : MtI l D (tyC cI) (cellsC ad ln cI) yX2_freeBehind cX2_freeBehind 2 (some .int) (rmK 1) [.ref (ad 2), .int p1] σ post := by
  refine MtI_of (by decide) (Nat.le_of_ble_eq_true rfl) ?_
  intro p e s m below meth c A ls hB hw hl
  replace hB : MB p s m _ meth c cX2_freeBehind 2 (some .int) RX2 := hB
  replace hl : lv_has ls 2 [(0, .ref (ad 2)), (1, .int p1)] := hl
  obtain ⟨hx, hb, hr, hml, hown, hts, hlk⟩ := id hB
  unfold wp_X2_freeBehind at hq
  refine lv_aload_n hx hb dX2_freeBehind_0 rfl (lv_at hl 0 rfl) ?_
  refine lv_iload_n hx hb dX2_freeBehind_1 rfl (lv_at hl 1 rfl) ?_
  refine lv_iconst (v := 1) hx hb dX2_freeBehind_2 (by decide) ?_
  refine lv_iadd hx hb dX2_freeBehind_3 ?_
  refine w_cVI (As := [.int (p1 + 1)]) (rest := []) hB hw hl.1 (c_X2_isFree l D ad ln cI σ (p1 + 1) _ hq) m348 m210 m427 m185 m42 rfl ok_X2_isFree (okR_K (by decide) (by decide)) (q0 := 2) (ci := 2) rfl rfl rfl rfl (Nat.le_of_ble_eq_true rfl) dX2_freeBehind_4 (fun r2 σ1 H locs hq hw => ?_)
  refine lv_if_eq (tgt := 21) hx hb dX2_freeBehind_7 (by decide) (fun c3 => ?_) (fun c3 => ?_)
  · replace hq := hq.1 c3
    refine lv_iconst (v := 0) hx hb dX2_freeBehind_21 (by decide) ?_
    exact w_iret hB hw hq dX2_freeBehind_22
  · replace hq := hq.2 c3
    refine lv_aload_n hx hb dX2_freeBehind_10 rfl (lv_at hl 0 rfl) ?_
    refine gC_2_1 hB hw m132 dX2_freeBehind_11 ?_
    refine lv_iload_n hx hb dX2_freeBehind_14 rfl (lv_at hl 1 rfl) ?_
    refine lv_iconst (v := 1) hx hb dX2_freeBehind_15 (by decide) ?_
    refine lv_iadd hx hb dX2_freeBehind_16 ?_
    obtain ⟨h4, hq⟩ := hq
    refine aC_4 (f := (σ1.2 4)) hB hw rfl h4 dX2_freeBehind_17 ?_
    refine lv_goto (tgt := 22) hx hb dX2_freeBehind_18 (by decide) ?_
    exact w_iret hB hw hq dX2_freeBehind_22
theorem ok_X2_freeBehind : okY yX2_freeBehind 1 := ⟨by decide, by decide, by decide +kernel⟩
/-! X2_shift -/
def wp_X2_shift (ln : Nat → Nat) (σ : CS) (p1 p2 : Int32) (post : CS → Prop) : Prop :=
  ((¬ p1 < 0) ∧ ((¬ p2 < 0) ∧ ((¬ ((σ.1 0) - p1) < 0) ∧ ((p1.toNatClampNeg + ((σ.1 0) - p1).toNatClampNeg ≤ ln 3) ∧ ((p2.toNatClampNeg + ((σ.1 0) - p1).toNatClampNeg ≤ ln 3) ∧ ((p1.toNatClampNeg + ((σ.1 0) - p1).toNatClampNeg ≤ ln 4) ∧ ((p2.toNatClampNeg + ((σ.1 0) - p1).toNatClampNeg ≤ ln 4) ∧ ((p1.toNatClampNeg + ((σ.1 0) - p1).toNatClampNeg ≤ ln 5) ∧ ((p2.toNatClampNeg + ((σ.1 0) - p1).toNatClampNeg ≤ ln 5) ∧ post (setF (setR (setR (setR σ 3 (va_cpy (σ.2 3) (σ.2 3) p1.toNatClampNeg p2.toNatClampNeg ((σ.1 0) - p1).toNatClampNeg)) 4 (va_cpy (σ.2 4) (σ.2 4) p1.toNatClampNeg p2.toNatClampNeg ((σ.1 0) - p1).toNatClampNeg)) 5 (va_cpy (σ.2 5) (σ.2 5) p1.toNatClampNeg p2.toNatClampNeg ((σ.1 0) - p1).toNatClampNeg)) 0 ((σ.1 0) + (p2 - p1))))))))))))
set_option maxHeartbeats 4000000 in
set_option maxRecDepth 100000 in
theorem c_X2_shift (l : Launch) (D : va_G) (ad ln : Nat → Nat) (cI : ClassId) (σ : CS) (p1 p2 : Int32) (post : CS → Prop) (hq : wp_X2_shift ln σ p1 p2 post) : MtV l D (tyC cI) (cellsC ad ln cI) yX2_shift cX2_shift 4 none (rmK 0) [.ref (ad 2), .int p1, .int p2] σ post := by
  refine MtV_of (by decide) (Nat.le_of_ble_eq_true rfl) ?_
  intro p e s m below meth c A ls hB hw hl
  replace hB : MB p s m _ meth c cX2_shift 4 none RX2 := hB
  replace hl : lv_has ls 4 [(0, .ref (ad 2)), (1, .int p1), (2, .int p2)] := hl
  obtain ⟨hx, hb, hr, hml, hown, hts, hlk⟩ := id hB
  unfold wp_X2_shift at hq
  refine lv_aload_n hx hb dX2_shift_0 rfl (lv_at hl 0 rfl) ?_
  refine gC_2_3 (x := σ.1 0) hB hw m134 rfl dX2_shift_1 ?_
  refine lv_iload_n hx hb dX2_shift_4 rfl (lv_at hl 1 rfl) ?_
  refine lv_isub hx hb dX2_shift_5 ?_
  refine lv_istore_n (lv' := [(3, .int ((σ.1 0) - p1)), (0, .ref (ad 2)), (1, .int p1), (2, .int p2)]) hx hb dX2_shift_6 rfl hl (by decide) rfl (fun ls hl => ?_)
  refine lv_aload_n hx hb dX2_shift_7 rfl (lv_at hl 1 rfl) ?_
  refine gC_2_0 hB hw m135 dX2_shift_8 ?_
  refine lv_iload_n hx hb dX2_shift_11 rfl (lv_at hl 2 rfl) ?_
  refine lv_aload_n hx hb dX2_shift_12 rfl (lv_at hl 1 rfl) ?_
  refine gC_2_0 hB hw m135 dX2_shift_13 ?_
  refine lv_iload_n hx hb dX2_shift_16 rfl (lv_at hl 3 rfl) ?_
  refine lv_iload_n hx hb dX2_shift_17 rfl (lv_at hl 0 rfl) ?_
  obtain ⟨h1, hq⟩ := hq
  obtain ⟨h2, hq⟩ := hq
  obtain ⟨h3, hq⟩ := hq
  obtain ⟨h4, hq⟩ := hq
  obtain ⟨h5, hq⟩ := hq
  refine yC_3 (f := (σ.2 3)) hB hw hl.1 m353 (Nat.le_of_ble_eq_true rfl) (Nat.le_of_ble_eq_true rfl) rfl h1 h2 h3 h4 h5 dX2_shift_18 (fun H locs hw => ?_)
  refine lv_aload_n hx hb dX2_shift_21 rfl (lv_at hl 1 rfl) ?_
  refine gC_2_1 hB hw m132 dX2_shift_22 ?_
  refine lv_iload_n hx hb dX2_shift_25 rfl (lv_at hl 2 rfl) ?_
  refine lv_aload_n hx hb dX2_shift_26 rfl (lv_at hl 1 rfl) ?_
  refine gC_2_1 hB hw m132 dX2_shift_27 ?_
  refine lv_iload_n hx hb dX2_shift_30 rfl (lv_at hl 3 rfl) ?_
  refine lv_iload_n hx hb dX2_shift_31 rfl (lv_at hl 0 rfl) ?_
  obtain ⟨h9, hq⟩ := hq
  obtain ⟨h10, hq⟩ := hq
  refine yC_4 (f := (σ.2 4)) hB hw hl.1 m353 (Nat.le_of_ble_eq_true rfl) (Nat.le_of_ble_eq_true rfl) rfl h1 h2 h3 h9 h10 dX2_shift_32 (fun H locs hw => ?_)
  refine lv_aload_n hx hb dX2_shift_35 rfl (lv_at hl 1 rfl) ?_
  refine gC_2_2 hB hw m133 dX2_shift_36 ?_
  refine lv_iload_n hx hb dX2_shift_39 rfl (lv_at hl 2 rfl) ?_
  refine lv_aload_n hx hb dX2_shift_40 rfl (lv_at hl 1 rfl) ?_
  refine gC_2_2 hB hw m133 dX2_shift_41 ?_
  refine lv_iload_n hx hb dX2_shift_44 rfl (lv_at hl 3 rfl) ?_
  refine lv_iload_n hx hb dX2_shift_45 rfl (lv_at hl 0 rfl) ?_
  obtain ⟨h14, hq⟩ := hq
  obtain ⟨h15, hq⟩ := hq
  refine yC_5 (f := (σ.2 5)) hB hw hl.1 m353 (Nat.le_of_ble_eq_true rfl) (Nat.le_of_ble_eq_true rfl) rfl h1 h2 h3 h14 h15 dX2_shift_46 (fun H locs hw => ?_)
  refine lv_aload_n hx hb dX2_shift_49 rfl (lv_at hl 1 rfl) ?_
  refine lv_dup hx hb dX2_shift_50 rfl ?_
  refine gC_2_3 (x := σ.1 0) hB hw m134 rfl dX2_shift_51 ?_
  refine lv_iload_n hx hb dX2_shift_54 rfl (lv_at hl 3 rfl) ?_
  refine lv_iload_n hx hb dX2_shift_55 rfl (lv_at hl 2 rfl) ?_
  refine lv_isub hx hb dX2_shift_56 ?_
  refine lv_iadd hx hb dX2_shift_57 ?_
  refine pC_2_3 hB hw m134 dX2_shift_58 (fun H locs hw => ?_)
  exact w_vret hB hw hq dX2_shift_61
theorem ok_X2_shift : okY yX2_shift 2 := ⟨by decide, by decide, by decide +kernel⟩
/-! X2_join -/
def wp_X2_join (ln : Nat → Nat) (σ : CS) (p1 : Int32) (post : CS → Prop) : Prop :=
  (vp_in p1 (ln 4) ∧ (vp_in (p1 + 1) (ln 4) ∧ wp_X2_shift ln (setA σ 4 p1.toNatClampNeg (((σ.2 4) p1.toNatClampNeg) + ((σ.2 4) (p1 + 1).toNatClampNeg))) (p1 + 2) (p1 + 1) (fun σ3 => post σ3)))
set_option maxHeartbeats 4000000 in
set_option maxRecDepth 100000 in
theorem c_X2_join (l : Launch) (D : va_G) (ad ln : Nat → Nat) (cI : ClassId) (σ : CS) (p1 : Int32) (post : CS → Prop) (hq : wp_X2_join ln σ p1 post) : MtV l D (tyC cI) (cellsC ad ln cI) yX2_join cX2_join 2 none (rmK 1) [.ref (ad 2), .int p1] σ post := by
  refine MtV_of (by decide) (Nat.le_of_ble_eq_true rfl) ?_
  intro p e s m below meth c A ls hB hw hl
  replace hB : MB p s m _ meth c cX2_join 2 none RX2 := hB
  replace hl : lv_has ls 2 [(0, .ref (ad 2)), (1, .int p1)] := hl
  obtain ⟨hx, hb, hr, hml, hown, hts, hlk⟩ := id hB
  unfold wp_X2_join at hq
  refine lv_aload_n hx hb dX2_join_0 rfl (lv_at hl 0 rfl) ?_
  refine gC_2_1 hB hw m132 dX2_join_1 ?_
  refine lv_iload_n hx hb dX2_join_4 rfl (lv_at hl 1 rfl) ?_
  refine lv_dup2_11 hx hb dX2_join_5 rfl rfl ?_
  obtain ⟨h1, hq⟩ := hq
  refine aC_4 (f := (σ.2 4)) hB hw rfl h1 dX2_join_6 ?_
  refine lv_aload_n hx hb dX2_join_7 rfl (lv_at hl 0 rfl) ?_
  refine gC_2_1 hB hw m132 dX2_join_8 ?_
  refine lv_iload_n hx hb dX2_join_11 rfl (lv_at hl 1 rfl) ?_
  refine lv_iconst (v := 1) hx hb dX2_join_12 (by decide) ?_
  refine lv_iadd hx hb dX2_join_13 ?_
  obtain ⟨h2, hq⟩ := hq
  refine aC_4 (f := (σ.2 4)) hB hw rfl h2 dX2_join_14 ?_
  refine lv_iadd hx hb dX2_join_15 ?_
  refine sC_4 hB hw h1 dX2_join_16 (fun H locs hw => ?_)
  refine lv_aload_n hx hb dX2_join_17 rfl (lv_at hl 0 rfl) ?_
  refine lv_iload_n hx hb dX2_join_18 rfl (lv_at hl 1 rfl) ?_
  refine lv_iconst (v := 2) hx hb dX2_join_19 (by decide) ?_
  refine lv_iadd hx hb dX2_join_20 ?_
  refine lv_iload_n hx hb dX2_join_21 rfl (lv_at hl 1 rfl) ?_
  refine lv_iconst (v := 1) hx hb dX2_join_22 (by decide) ?_
  refine lv_iadd hx hb dX2_join_23 ?_
  refine w_cVV (As := [.int (p1 + 2), .int (p1 + 1)]) (rest := []) hB hw hl.1 (c_X2_shift l D ad ln cI (setA σ 4 p1.toNatClampNeg (((σ.2 4) p1.toNatClampNeg) + ((σ.2 4) (p1 + 1).toNatClampNeg))) (p1 + 2) (p1 + 1) _ hq) m352 m216 m433 m185 m48 rfl ok_X2_shift (okR_K (by decide) (by decide)) (q0 := 2) (ci := 2) rfl rfl rfl rfl (Nat.le_of_ble_eq_true rfl) dX2_join_24 (fun σ3 H locs hq hw => ?_)
  exact w_vret hB hw hq dX2_join_27
theorem ok_X2_join : okY yX2_join 1 := ⟨by decide, by decide, by decide +kernel⟩
/-! X2_split -/
def wp_X2_split (ln : Nat → Nat) (σ : CS) (p1 p2 : Int32) (post : CS → Prop) : Prop :=
  (vp_in p1 (ln 4) ∧ ((0 < (((σ.2 4) p1.toNatClampNeg) - p2) → wp_X2_shift ln σ (p1 + 1) (p1 + 2) (fun σ3 => (vp_in p1 (ln 3) ∧ (vp_in (p1 + 1) (ln 3) ∧ (vp_in (p1 + 1) (ln 4) ∧ (vp_in p1 (ln 5) ∧ (vp_in (p1 + 1) (ln 5) ∧ post (setA (setA (setA (setA σ3 3 (p1 + 1).toNatClampNeg (((σ3.2 3) p1.toNatClampNeg) + p2)) 4 (p1 + 1).toNatClampNeg (((σ.2 4) p1.toNatClampNeg) - p2)) 5 (p1 + 1).toNatClampNeg ((σ3.2 5) p1.toNatClampNeg)) 4 p1.toNatClampNeg p2)))))))) ∧ (¬ 0 < (((σ.2 4) p1.toNatClampNeg) - p2) → post σ)))
set_option maxHeartbeats 4000000 in
set_option maxRecDepth 100000 in
theorem c_X2_split (l : Launch) (D : va_G) (ad ln : Nat → Nat) (cI : ClassId) (σ : CS) (p1 p2 : Int32) (post : CS → Prop) (hq : wp_X2_split ln σ p1 p2 post) : MtV l D (tyC cI) (cellsC ad ln cI) yX2_split cX2_split 4 none (rmK 1) [.ref (ad 2), .int p1, .int p2] σ post := by
  refine MtV_of (by decide) (Nat.le_of_ble_eq_true rfl) ?_
  intro p e s m below meth c A ls hB hw hl
  replace hB : MB p s m _ meth c cX2_split 4 none RX2 := hB
  replace hl : lv_has ls 4 [(0, .ref (ad 2)), (1, .int p1), (2, .int p2)] := hl
  obtain ⟨hx, hb, hr, hml, hown, hts, hlk⟩ := id hB
  unfold wp_X2_split at hq
  refine lv_aload_n hx hb dX2_split_0 rfl (lv_at hl 0 rfl) ?_
  refine gC_2_1 hB hw m132 dX2_split_1 ?_
  refine lv_iload_n hx hb dX2_split_4 rfl (lv_at hl 1 rfl) ?_
  obtain ⟨h1, hq⟩ := hq
  refine aC_4 (f := (σ.2 4)) hB hw rfl h1 dX2_split_5 ?_
  refine lv_iload_n hx hb dX2_split_6 rfl (lv_at hl 2 rfl) ?_
  refine lv_isub hx hb dX2_split_7 ?_
  refine lv_istore_n (lv' := [(3, .int (((σ.2 4) p1.toNatClampNeg) - p2)), (0, .ref (ad 2)), (1, .int p1), (2, .int p2)]) hx hb dX2_split_8 rfl hl (by decide) rfl (fun ls hl => ?_)
  refine lv_iload_n hx hb dX2_split_9 rfl (lv_at hl 0 rfl) ?_
  refine lv_if_gt (tgt := 14) hx hb dX2_split_10 (by decide) (fun c2 => ?_) (fun c2 => ?_)
  · replace hq := hq.1 c2
    refine lv_aload_n hx hb dX2_split_14 rfl (lv_at hl 1 rfl) ?_
    refine lv_iload_n hx hb dX2_split_15 rfl (lv_at hl 2 rfl) ?_
    refine lv_iconst (v := 1) hx hb dX2_split_16 (by decide) ?_
    refine lv_iadd hx hb dX2_split_17 ?_
    refine lv_iload_n hx hb dX2_split_18 rfl (lv_at hl 2 rfl) ?_
    refine lv_iconst (v := 2) hx hb dX2_split_19 (by decide) ?_
    refine lv_iadd hx hb dX2_split_20 ?_
    refine w_cVV (As := [.int (p1 + 1), .int (p1 + 2)]) (rest := []) hB hw hl.1 (c_X2_shift l D ad ln cI σ (p1 + 1) (p1 + 2) _ hq) m352 m216 m433 m185 m48 rfl ok_X2_shift (okR_K (by decide) (by decide)) (q0 := 2) (ci := 2) rfl rfl rfl rfl (Nat.le_of_ble_eq_true rfl) dX2_split_21 (fun σ3 H locs hq hw => ?_)
    refine lv_aload_n hx hb dX2_split_24 rfl (lv_at hl 1 rfl) ?_
    refine gC_2_0 hB hw m135 dX2_split_25 ?_
    refine lv_iload_n hx hb dX2_split_28 rfl (lv_at hl 2 rfl) ?_
    refine lv_iconst (v := 1) hx hb dX2_split_29 (by decide) ?_
    refine lv_iadd hx hb dX2_split_30 ?_
    refine lv_aload_n hx hb dX2_split_31 rfl (lv_at hl 1 rfl) ?_
    refine gC_2_0 hB hw m135 dX2_split_32 ?_
    refine lv_iload_n hx hb dX2_split_35 rfl (lv_at hl 2 rfl) ?_
    obtain ⟨h4, hq⟩ := hq
    refine aC_3 (f := (σ3.2 3)) hB hw rfl h4 dX2_split_36 ?_
    refine lv_iload_n hx hb dX2_split_37 rfl (lv_at hl 3 rfl) ?_
    refine lv_iadd hx hb dX2_split_38 ?_
    obtain ⟨h5, hq⟩ := hq
    refine sC_3 hB hw h5 dX2_split_39 (fun H locs hw => ?_)
    refine lv_aload_n hx hb dX2_split_40 rfl (lv_at hl 1 rfl) ?_
    refine gC_2_1 hB hw m132 dX2_split_41 ?_
    refine lv_iload_n hx hb dX2_split_44 rfl (lv_at hl 2 rfl) ?_
    refine lv_iconst (v := 1) hx hb dX2_split_45 (by decide) ?_
    refine lv_iadd hx hb dX2_split_46 ?_
    refine lv_iload_n hx hb dX2_split_47 rfl (lv_at hl 0 rfl) ?_
    obtain ⟨h6, hq⟩ := hq
    refine sC_4 hB hw h6 dX2_split_48 (fun H locs hw => ?_)
    refine lv_aload_n hx hb dX2_split_49 rfl (lv_at hl 1 rfl) ?_
    refine gC_2_2 hB hw m133 dX2_split_50 ?_
    refine lv_iload_n hx hb dX2_split_53 rfl (lv_at hl 2 rfl) ?_
    refine lv_iconst (v := 1) hx hb dX2_split_54 (by decide) ?_
    refine lv_iadd hx hb dX2_split_55 ?_
    refine lv_aload_n hx hb dX2_split_56 rfl (lv_at hl 1 rfl) ?_
    refine gC_2_2 hB hw m133 dX2_split_57 ?_
    refine lv_iload_n hx hb dX2_split_60 rfl (lv_at hl 2 rfl) ?_
    obtain ⟨h7, hq⟩ := hq
    refine aC_5 (f := (σ3.2 5)) hB hw rfl h7 dX2_split_61 ?_
    obtain ⟨h8, hq⟩ := hq
    refine sC_5 hB hw h8 dX2_split_62 (fun H locs hw => ?_)
    refine lv_aload_n hx hb dX2_split_63 rfl (lv_at hl 1 rfl) ?_
    refine gC_2_1 hB hw m132 dX2_split_64 ?_
    refine lv_iload_n hx hb dX2_split_67 rfl (lv_at hl 2 rfl) ?_
    refine lv_iload_n hx hb dX2_split_68 rfl (lv_at hl 3 rfl) ?_
    refine sC_4 hB hw h1 dX2_split_69 (fun H locs hw => ?_)
    exact w_vret hB hw hq dX2_split_70
  · replace hq := hq.2 c2
    exact w_vret hB hw hq dX2_split_13
theorem ok_X2_split : okY yX2_split 2 := ⟨by decide, by decide, by decide +kernel⟩
/-! X2_release -/
def wp_X2_release (ln : Nat → Nat) (σ : CS) (p1 : Int32) (post : CS → Prop) : Prop :=
  (vp_in p1 (ln 5) ∧ wp_X2_isFree ln (setA σ 5 p1.toNatClampNeg 0) (p1 + 1) (fun r3 σ2 => ((r3 = 0 → wp_X2_isFree ln σ2 (p1 - 1) (fun r6 σ5 => ((r6 = 0 → post σ5) ∧ (¬ r6 = 0 → wp_X2_join ln σ5 (p1 - 1) (fun σ8 => post σ8))))) ∧ (¬ r3 = 0 → wp_X2_join ln σ2 p1 (fun σ9 => wp_X2_isFree ln σ9 (p1 - 1) (fun r11 σ10 => ((r11 = 0 → post σ10) ∧ (¬ r11 = 0 → wp_X2_join ln σ10 (p1 - 1) (fun σ13 => post σ13)))))))))
set_option maxHeartbeats 4000000 in
set_option maxRecDepth 100000 in
theorem c_X2_release (l : Launch) (D : va_G) (ad ln : Nat → Nat) (cI : ClassId) (σ : CS) (p1 : Int32) (post : CS → Prop) (hq : wp_X2_release ln σ p1 post) : MtV l D (tyC cI) (cellsC ad ln cI) yX2_release cX2_release 2 none (rmK 2) [.ref (ad 2), .int p1] σ post := by
  refine MtV_of (by decide) (Nat.le_of_ble_eq_true rfl) ?_
  intro p e s m below meth c A ls hB hw hl
  replace hB : MB p s m _ meth c cX2_release 2 none RX2 := hB
  replace hl : lv_has ls 2 [(0, .ref (ad 2)), (1, .int p1)] := hl
  obtain ⟨hx, hb, hr, hml, hown, hts, hlk⟩ := id hB
  unfold wp_X2_release at hq
  refine lv_aload_n hx hb dX2_release_0 rfl (lv_at hl 0 rfl) ?_
  refine gC_2_2 hB hw m133 dX2_release_1 ?_
  refine lv_iload_n hx hb dX2_release_4 rfl (lv_at hl 1 rfl) ?_
  refine lv_iconst (v := 0) hx hb dX2_release_5 (by decide) ?_
  obtain ⟨h1, hq⟩ := hq
  refine sC_5 hB hw h1 dX2_release_6 (fun H locs hw => ?_)
  refine lv_aload_n hx hb dX2_release_7 rfl (lv_at hl 0 rfl) ?_
  refine lv_iload_n hx hb dX2_release_8 rfl (lv_at hl 1 rfl) ?_
  refine lv_iconst (v := 1) hx hb dX2_release_9 (by decide) ?_
  refine lv_iadd hx hb dX2_release_10 ?_
  refine w_cVI (As := [.int (p1 + 1)]) (rest := []) hB hw hl.1 (c_X2_isFree l D ad ln cI (setA σ 5 p1.toNatClampNeg 0) (p1 + 1) _ hq) m348 m210 m427 m185 m42 rfl ok_X2_isFree (okR_K (by decide) (by decide)) (q0 := 2) (ci := 2) rfl rfl rfl rfl (Nat.le_of_ble_eq_true rfl) dX2_release_11 (fun r3 σ2 H locs hq hw => ?_)
  refine lv_if_eq (tgt := 22) hx hb dX2_release_14 (by decide) (fun c4 => ?_) (fun c4 => ?_)
  · replace hq := hq.1 c4
    refine lv_aload_n hx hb dX2_release_22 rfl (lv_at hl 0 rfl) ?_
    refine lv_iload_n hx hb dX2_release_23 rfl (lv_at hl 1 rfl) ?_
    refine lv_iconst (v := 1) hx hb dX2_release_24 (by decide) ?_
    refine lv_isub hx hb dX2_release_25 ?_
    refine w_cVI (As := [.int (p1 - 1)]) (rest := []) hB hw hl.1 (c_X2_isFree l D ad ln cI σ2 (p1 - 1) _ hq) m348 m210 m427 m185 m42 rfl ok_X2_isFree (okR_K (by decide) (by decide)) (q0 := 2) (ci := 2) rfl rfl rfl rfl (Nat.le_of_ble_eq_true rfl) dX2_release_26 (fun r6 σ5 H locs hq hw => ?_)
    refine lv_if_eq (tgt := 39) hx hb dX2_release_29 (by decide) (fun c7 => ?_) (fun c7 => ?_)
    · replace hq := hq.1 c7
      exact w_vret hB hw hq dX2_release_39
    · replace hq := hq.2 c7
      refine lv_aload_n hx hb dX2_release_32 rfl (lv_at hl 0 rfl) ?_
      refine lv_iload_n hx hb dX2_release_33 rfl (lv_at hl 1 rfl) ?_
      refine lv_iconst (v := 1) hx hb dX2_release_34 (by decide) ?_
      refine lv_isub hx hb dX2_release_35 ?_
      refine w_cVV (As := [.int (p1 - 1)]) (rest := []) hB hw hl.1 (c_X2_join l D ad ln cI σ5 (p1 - 1) _ hq) m350 m211 m428 m185 m43 rfl ok_X2_join (okR_K (by decide) (by decide)) (q0 := 2) (ci := 2) rfl rfl rfl rfl (Nat.le_of_ble_eq_true rfl) dX2_release_36 (fun σ8 H locs hq hw => ?_)
      exact w_vret hB hw hq dX2_release_39
  · replace hq := hq.2 c4
    refine lv_aload_n hx hb dX2_release_17 rfl (lv_at hl 0 rfl) ?_
    refine lv_iload_n hx hb dX2_release_18 rfl (lv_at hl 1 rfl) ?_
    refine w_cVV (As := [.int p1]) (rest := []) hB hw hl.1 (c_X2_join l D ad ln cI σ2 p1 _ hq) m350 m211 m428 m185 m43 rfl ok_X2_join (okR_K (by decide) (by decide)) (q0 := 2) (ci := 2) rfl rfl rfl rfl (Nat.le_of_ble_eq_true rfl) dX2_release_19 (fun σ9 H locs hq hw => ?_)
    refine lv_aload_n hx hb dX2_release_22 rfl (lv_at hl 0 rfl) ?_
    refine lv_iload_n hx hb dX2_release_23 rfl (lv_at hl 1 rfl) ?_
    refine lv_iconst (v := 1) hx hb dX2_release_24 (by decide) ?_
    refine lv_isub hx hb dX2_release_25 ?_
    refine w_cVI (As := [.int (p1 - 1)]) (rest := []) hB hw hl.1 (c_X2_isFree l D ad ln cI σ9 (p1 - 1) _ hq) m348 m210 m427 m185 m42 rfl ok_X2_isFree (okR_K (by decide) (by decide)) (q0 := 2) (ci := 2) rfl rfl rfl rfl (Nat.le_of_ble_eq_true rfl) dX2_release_26 (fun r11 σ10 H locs hq hw => ?_)
    refine lv_if_eq (tgt := 39) hx hb dX2_release_29 (by decide) (fun c12 => ?_) (fun c12 => ?_)
    · replace hq := hq.1 c12
      exact w_vret hB hw hq dX2_release_39
    · replace hq := hq.2 c12
      refine lv_aload_n hx hb dX2_release_32 rfl (lv_at hl 0 rfl) ?_
      refine lv_iload_n hx hb dX2_release_33 rfl (lv_at hl 1 rfl) ?_
      refine lv_iconst (v := 1) hx hb dX2_release_34 (by decide) ?_
      refine lv_isub hx hb dX2_release_35 ?_
      refine w_cVV (As := [.int (p1 - 1)]) (rest := []) hB hw hl.1 (c_X2_join l D ad ln cI σ10 (p1 - 1) _ hq) m350 m211 m428 m185 m43 rfl ok_X2_join (okR_K (by decide) (by decide)) (q0 := 2) (ci := 2) rfl rfl rfl rfl (Nat.le_of_ble_eq_true rfl) dX2_release_36 (fun σ13 H locs hq hw => ?_)
      exact w_vret hB hw hq dX2_release_39
theorem ok_X2_release : okY yX2_release 1 := ⟨by decide, by decide, by decide +kernel⟩
/-! X2_carve -/
def wp_X2_carve (ln : Nat → Nat) (σ : CS) (p1 p2 p3 : Int32) (post : CS → Prop) : Prop :=
  (vp_in p1 (ln 3) ∧ (((p2 - ((σ.2 3) p1.toNatClampNeg)) ≤ 0 → wp_X2_split ln σ p1 p3 (fun σ3 => (vp_in p1 (ln 5) ∧ post (setA σ3 5 p1.toNatClampNeg 1)))) ∧ (¬ (p2 - ((σ.2 3) p1.toNatClampNeg)) ≤ 0 → wp_X2_split ln σ p1 (p2 - ((σ.2 3) p1.toNatClampNeg)) (fun σ5 => wp_X2_split ln σ5 (p1 + 1) p3 (fun σ6 => (vp_in (p1 + 1) (ln 5) ∧ post (setA σ6 5 (p1 + 1).toNatClampNeg 1)))))))
set_option maxHeartbeats 4000000 in
set_option maxRecDepth 100000 in
theorem c_X2_carve (l : Launch) (D : va_G) (ad ln : Nat → Nat) (cI : ClassId) (σ : CS) (p1 p2 p3 : Int32) (post : CS → Prop) (hq : wp_X2_carve ln σ p1 p2 p3 post) : MtV l D (tyC cI) (cellsC ad ln cI) yX2_carve cX2_carve 6 none (rmK 2) [.ref (ad 2), .int p1, .int p2, .int p3] σ post := by
  refine MtV_of (by decide) (Nat.le_of_ble_eq_true rfl) ?_
  intro p e s m below meth c A ls hB hw hl
  replace hB : MB p s m _ meth c cX2_carve 6 none RX2 := hB
  replace hl : lv_has ls 6 [(0, .ref (ad 2)), (1, .int p1), (2, .int p2), (3, .int p3)] := hl
  obtain ⟨hx, hb, hr, hml, hown, hts, hlk⟩ := id hB
  unfold wp_X2_carve at hq
  refine lv_iload_n hx hb dX2_carve_0 rfl (lv_at hl 2 rfl) ?_
  refine lv_aload_n hx hb dX2_carve_1 rfl (lv_at hl 0 rfl) ?_
  refine gC_2_0 hB hw m135 dX2_carve_2 ?_
  refine lv_iload_n hx hb dX2_carve_5 rfl (lv_at hl 1 rfl) ?_
  obtain ⟨h1, hq⟩ := hq
  refine aC_3 (f := (σ.2 3)) hB hw rfl h1 dX2_carve_6 ?_
  refine lv_isub hx hb dX2_carve_7 ?_
  refine lv_istore (lv' := [(4, .int (p2 - ((σ.2 3) p1.toNatClampNeg))), (0, .ref (ad 2)), (1, .int p1), (2, .int p2), (3, .int p3)]) hx hb dX2_carve_8 hl (by decide) rfl (fun ls hl => ?_)
  refine lv_iload_n hx hb dX2_carve_10 rfl (lv_at hl 2 rfl) ?_
  refine lv_istore (lv' := [(5, .int p1), (4, .int (p2 - ((σ.2 3) p1.toNatClampNeg))), (0, .ref (ad 2)), (1, .int p1), (2, .int p2), (3, .int p3)]) hx hb dX2_carve_11 hl (by decide) rfl (fun ls hl => ?_)
  refine lv_iload hx hb dX2_carve_13 (lv_at hl 1 rfl) ?_
  refine lv_if_le (tgt := 30) hx hb dX2_carve_15 (by decide) (fun c2 => ?_) (fun c2 => ?_)
  · replace hq := hq.1 c2
    refine lv_aload_n hx hb dX2_carve_30 rfl (lv_at hl 2 rfl) ?_
    refine lv_iload hx hb dX2_carve_31 (lv_at hl 0 rfl) ?_
    refine lv_iload_n hx hb dX2_carve_33 rfl (lv_at hl 5 rfl) ?_
    refine w_cVV (As := [.int p1, .int p3]) (rest := []) hB hw hl.1 (c_X2_split l D ad ln cI σ p1 p3 _ hq) m349 m218 m435 m185 m50 rfl ok_X2_split (okR_K (by decide) (by decide)) (q0 := 2) (ci := 2) rfl rfl rfl rfl (Nat.le_of_ble_eq_true rfl) dX2_carve_34 (fun σ3 H locs hq hw => ?_)
    refine lv_aload_n hx hb dX2_carve_37 rfl (lv_at hl 2 rfl) ?_
    refine gC_2_2 hB hw m133 dX2_carve_38 ?_
    refine lv_iload hx hb dX2_carve_41 (lv_at hl 0 rfl) ?_
    refine lv_iconst (v := 1) hx hb dX2_carve_43 (by decide) ?_
    obtain ⟨h4, hq⟩ := hq
    refine sC_5 hB hw h4 dX2_carve_44 (fun H locs hw => ?_)
    exact w_vret hB hw hq dX2_carve_45
  · replace hq := hq.2 c2
    refine lv_aload_n hx hb dX2_carve_18 rfl (lv_at hl 2 rfl) ?_
    refine lv_iload_n hx hb dX2_carve_19 rfl (lv_at hl 3 rfl) ?_
    refine lv_iload hx hb dX2_carve_20 (lv_at hl 1 rfl) ?_
    refine w_cVV (As := [.int p1, .int (p2 - ((σ.2 3) p1.toNatClampNeg))]) (rest := []) hB hw hl.1 (c_X2_split l D ad ln cI σ p1 (p2 - ((σ.2 3) p1.toNatClampNeg)) _ hq) m349 m218 m435 m185 m50 rfl ok_X2_split (okR_K (by decide) (by decide)) (q0 := 2) (ci := 2) rfl rfl rfl rfl (Nat.le_of_ble_eq_true rfl) dX2_carve_22 (fun σ5 H locs hq hw => ?_)
    refine lv_iload_n hx hb dX2_carve_25 rfl (lv_at hl 3 rfl) ?_
    refine lv_iconst (v := 1) hx hb dX2_carve_26 (by decide) ?_
    refine lv_iadd hx hb dX2_carve_27 ?_
    refine lv_istore (lv' := [(5, .int (p1 + 1)), (4, .int (p2 - ((σ.2 3) p1.toNatClampNeg))), (0, .ref (ad 2)), (1, .int p1), (2, .int p2), (3, .int p3)]) hx hb dX2_carve_28 hl (by decide) rfl (fun ls hl => ?_)
    refine lv_aload_n hx hb dX2_carve_30 rfl (lv_at hl 2 rfl) ?_
    refine lv_iload hx hb dX2_carve_31 (lv_at hl 0 rfl) ?_
    refine lv_iload_n hx hb dX2_carve_33 rfl (lv_at hl 5 rfl) ?_
    refine w_cVV (As := [.int (p1 + 1), .int p3]) (rest := []) hB hw hl.1 (c_X2_split l D ad ln cI σ5 (p1 + 1) p3 _ hq) m349 m218 m435 m185 m50 rfl ok_X2_split (okR_K (by decide) (by decide)) (q0 := 2) (ci := 2) rfl rfl rfl rfl (Nat.le_of_ble_eq_true rfl) dX2_carve_34 (fun σ6 H locs hq hw => ?_)
    refine lv_aload_n hx hb dX2_carve_37 rfl (lv_at hl 2 rfl) ?_
    refine gC_2_2 hB hw m133 dX2_carve_38 ?_
    refine lv_iload hx hb dX2_carve_41 (lv_at hl 0 rfl) ?_
    refine lv_iconst (v := 1) hx hb dX2_carve_43 (by decide) ?_
    obtain ⟨h7, hq⟩ := hq
    refine sC_5 hB hw h7 dX2_carve_44 (fun H locs hw => ?_)
    exact w_vret hB hw hq dX2_carve_45
theorem ok_X2_carve : okY yX2_carve 3 := ⟨by decide, by decide, by decide +kernel⟩
/-! X2_extend -/
def wp_X2_extend (ln : Nat → Nat) (σ : CS) (p1 p2 : Int32) (post : CS → Prop) : Prop :=
  (vp_in p1 (ln 4) ∧ wp_X2_split ln σ (p1 + 1) (p2 - ((σ.2 4) p1.toNatClampNeg)) (fun σ2 => wp_X2_join ln σ2 p1 (fun σ3 => post σ3)))
set_option maxHeartbeats 4000000 in
set_option maxRecDepth 100000 in
theorem c_X2_extend (l : Launch) (D : va_G) (ad ln : Nat → Nat) (cI : ClassId) (σ : CS) (p1 p2 : Int32) (post : CS → Prop) (hq : wp_X2_extend ln σ p1 p2 post) : MtV l D (tyC cI) (cellsC ad ln cI) yX2_extend cX2_extend 3 none (rmK 2) [.ref (ad 2), .int p1, .int p2] σ post := by
  refine MtV_of (by decide) (Nat.le_of_ble_eq_true rfl) ?_
  intro p e s m below meth c A ls hB hw hl
  replace hB : MB p s m _ meth c cX2_extend 3 none RX2 := hB
  replace hl : lv_has ls 3 [(0, .ref (ad 2)), (1, .int p1), (2, .int p2)] := hl
  obtain ⟨hx, hb, hr, hml, hown, hts, hlk⟩ := id hB
  unfold wp_X2_extend at hq
  refine lv_aload_n hx hb dX2_extend_0 rfl (lv_at hl 0 rfl) ?_
  refine lv_iload_n hx hb dX2_extend_1 rfl (lv_at hl 1 rfl) ?_
  refine lv_iconst (v := 1) hx hb dX2_extend_2 (by decide) ?_
  refine lv_iadd hx hb dX2_extend_3 ?_
  refine lv_iload_n hx hb dX2_extend_4 rfl (lv_at hl 2 rfl) ?_
  refine lv_aload_n hx hb dX2_extend_5 rfl (lv_at hl 0 rfl) ?_
  refine gC_2_1 hB hw m132 dX2_extend_6 ?_
  refine lv_iload_n hx hb dX2_extend_9 rfl (lv_at hl 1 rfl) ?_
  obtain ⟨h1, hq⟩ := hq
  refine aC_4 (f := (σ.2 4)) hB hw rfl h1 dX2_extend_10 ?_
  refine lv_isub hx hb dX2_extend_11 ?_
  refine w_cVV (As := [.int (p1 + 1), .int (p2 - ((σ.2 4) p1.toNatClampNeg))]) (rest := []) hB hw hl.1 (c_X2_split l D ad ln cI σ (p1 + 1) (p2 - ((σ.2 4) p1.toNatClampNeg)) _ hq) m349 m218 m435 m185 m50 rfl ok_X2_split (okR_K (by decide) (by decide)) (q0 := 2) (ci := 2) rfl rfl rfl rfl (Nat.le_of_ble_eq_true rfl) dX2_extend_12 (fun σ2 H locs hq hw => ?_)
  refine lv_aload_n hx hb dX2_extend_15 rfl (lv_at hl 0 rfl) ?_
  refine lv_iload_n hx hb dX2_extend_16 rfl (lv_at hl 1 rfl) ?_
  refine w_cVV (As := [.int p1]) (rest := []) hB hw hl.1 (c_X2_join l D ad ln cI σ2 p1 _ hq) m350 m211 m428 m185 m43 rfl ok_X2_join (okR_K (by decide) (by decide)) (q0 := 2) (ci := 2) rfl rfl rfl rfl (Nat.le_of_ble_eq_true rfl) dX2_extend_17 (fun σ3 H locs hq hw => ?_)
  exact w_vret hB hw hq dX2_extend_20
theorem ok_X2_extend : okY yX2_extend 2 := ⟨by decide, by decide, by decide +kernel⟩
/-! X2_shorten -/
def wp_X2_shorten (ln : Nat → Nat) (σ : CS) (p1 p2 : Int32) (post : CS → Prop) : Prop :=
  (vp_in p1 (ln 4) ∧ ((((σ.2 4) p1.toNatClampNeg) ≤ p2 → post σ) ∧ (¬ ((σ.2 4) p1.toNatClampNeg) ≤ p2 → wp_X2_split ln σ p1 p2 (fun σ3 => wp_X2_release ln σ3 (p1 + 1) (fun σ4 => post σ4)))))
set_option maxHeartbeats 4000000 in
set_option maxRecDepth 100000 in
theorem c_X2_shorten (l : Launch) (D : va_G) (ad ln : Nat → Nat) (cI : ClassId) (σ : CS) (p1 p2 : Int32) (post : CS → Prop) (hq : wp_X2_shorten ln σ p1 p2 post) : MtV l D (tyC cI) (cellsC ad ln cI) yX2_shorten cX2_shorten 3 none (rmK 3) [.ref (ad 2), .int p1, .int p2] σ post := by
  refine MtV_of (by decide) (Nat.le_of_ble_eq_true rfl) ?_
  intro p e s m below meth c A ls hB hw hl
  replace hB : MB p s m _ meth c cX2_shorten 3 none RX2 := hB
  replace hl : lv_has ls 3 [(0, .ref (ad 2)), (1, .int p1), (2, .int p2)] := hl
  obtain ⟨hx, hb, hr, hml, hown, hts, hlk⟩ := id hB
  unfold wp_X2_shorten at hq
  refine lv_iload_n hx hb dX2_shorten_0 rfl (lv_at hl 2 rfl) ?_
  refine lv_aload_n hx hb dX2_shorten_1 rfl (lv_at hl 0 rfl) ?_
  refine gC_2_1 hB hw m132 dX2_shorten_2 ?_
  refine lv_iload_n hx hb dX2_shorten_5 rfl (lv_at hl 1 rfl) ?_
  obtain ⟨h1, hq⟩ := hq
  refine aC_4 (f := (σ.2 4)) hB hw rfl h1 dX2_shorten_6 ?_
  refine lv_icmp_ge (tgt := 23) hx hb dX2_shorten_7 (by decide) (fun c2 => ?_) (fun c2 => ?_)
  · replace hq := hq.1 c2
    exact w_vret hB hw hq dX2_shorten_23
  · replace hq := hq.2 c2
    refine lv_aload_n hx hb dX2_shorten_10 rfl (lv_at hl 0 rfl) ?_
    refine lv_iload_n hx hb dX2_shorten_11 rfl (lv_at hl 1 rfl) ?_
    refine lv_iload_n hx hb dX2_shorten_12 rfl (lv_at hl 2 rfl) ?_
    refine w_cVV (As := [.int p1, .int p2]) (rest := []) hB hw hl.1 (c_X2_split l D ad ln cI σ p1 p2 _ hq) m349 m218 m435 m185 m50 rfl ok_X2_split (okR_K (by decide) (by decide)) (q0 := 2) (ci := 2) rfl rfl rfl rfl (Nat.le_of_ble_eq_true rfl) dX2_shorten_13 (fun σ3 H locs hq hw => ?_)
    refine lv_aload_n hx hb dX2_shorten_16 rfl (lv_at hl 0 rfl) ?_
    refine lv_iload_n hx hb dX2_shorten_17 rfl (lv_at hl 1 rfl) ?_
    refine lv_iconst (v := 1) hx hb dX2_shorten_18 (by decide) ?_
    refine lv_iadd hx hb dX2_shorten_19 ?_
    refine w_cVV (As := [.int (p1 + 1)]) (rest := []) hB hw hl.1 (c_X2_release l D ad ln cI σ3 (p1 + 1) _ hq) m351 m215 m432 m185 m47 rfl ok_X2_release (okR_K (by decide) (by decide)) (q0 := 2) (ci := 2) rfl rfl rfl rfl (Nat.le_of_ble_eq_true rfl) dX2_shorten_20 (fun σ4 H locs hq hw => ?_)
    exact w_vret hB hw hq dX2_shorten_23
theorem ok_X2_shorten : okY yX2_shorten 2 := ⟨by decide, by decide, by decide +kernel⟩
end
