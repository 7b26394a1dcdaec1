def RX0 : String := "FellersOrder$Acting"
def TX0 : u_T := fun k => match k with
  | 0 => ("FellersOrder$Acting", "bodies", "[I", true)
  | 1 => ("FellersOrder$Acting", "begun", "I", false)
  | 2 => ("FellersOrder$Acting", "length", "I", false)
  | 3 => ("FellersOrder$Acting", "weight", "I", false)
  | 4 => ("FellersOrder$Acting", "moment", "I", false)
  | _ => ("FellersOrder$Acting", "ahead", "I", false)
def tyX0 : Nat → FieldType := fun k => match k with
  | 0 => .array .int
  | 1 => .int
  | 2 => .int
  | 3 => .int
  | 4 => .int
  | _ => .int
abbrev wsX00 : List Cond := u_ws RX0 TX0 6
theorem nmX0 : ∀ a, a < 6 → ∀ b, b < 6 → a ≠ b → (TX0 a).2.1 ≠ (TX0 b).2.1 := by decide +kernel
theorem tyX0_ok : ∀ k, k < 6 → parseFieldDescriptor (TX0 k).2.2.1 = some (tyX0 k) := by decide +kernel
abbrev cX0_init : ByteArray := prog_2_method_1_code
def yX0_init : MethodName := ⟨RX0, "<init>", "()V"⟩
abbrev cX0_take : ByteArray := prog_2_method_2_code
def yX0_take : MethodName := ⟨RX0, "take", "(LFellersOrder$Yard;I)V"⟩
abbrev cX0_begin : ByteArray := prog_2_method_3_code
def yX0_begin : MethodName := ⟨RX0, "begin", "(I)V"⟩
abbrev cX0_begun : ByteArray := prog_2_method_4_code
def yX0_begun : MethodName := ⟨RX0, "begun", "()I"⟩
abbrev cX0_bodyAt : ByteArray := prog_2_method_5_code
def yX0_bodyAt : MethodName := ⟨RX0, "bodyAt", "(I)I"⟩
def RX1 : String := "FellersOrder$FirstKind"
def TX1 : u_T := fun k => match k with
  | _ => ("", "", "", false)
def tyX1 : Nat → FieldType := fun k => match k with
  | _ => .int
abbrev wsX10 : List Cond := u_ws RX1 TX1 0
theorem nmX1 : ∀ a, a < 0 → ∀ b, b < 0 → a ≠ b → (TX1 a).2.1 ≠ (TX1 b).2.1 := by decide +kernel
theorem tyX1_ok : ∀ k, k < 0 → parseFieldDescriptor (TX1 k).2.2.1 = some (tyX1 k) := by decide +kernel
abbrev cX1_init : ByteArray := prog_3_method_1_code
def yX1_init : MethodName := ⟨RX1, "<init>", "()V"⟩
abbrev cX1_follow : ByteArray := prog_3_method_2_code
def yX1_follow : MethodName := ⟨RX1, "follow", "(LFellersOrder$Acting;I)I"⟩
abbrev cX1_last : ByteArray := prog_3_method_3_code
def yX1_last : MethodName := ⟨RX1, "last", "(LFellersOrder$Acting;I)I"⟩
def RX2 : String := "FellersOrder$History"
def TX2 : u_T := fun k => match k with
  | 0 => ("FellersOrder$History", "change", "[I", true)
  | 1 => ("FellersOrder$History", "first", "[I", true)
  | 2 => ("FellersOrder$History", "second", "[I", true)
  | 3 => ("FellersOrder$History", "former", "[I", true)
  | 4 => ("FellersOrder$History", "next", "I", false)
  | _ => ("FellersOrder$History", "size", "I", false)
def tyX2 : Nat → FieldType := fun k => match k with
  | 0 => .array .int
  | 1 => .array .int
  | 2 => .array .int
  | 3 => .array .int
  | 4 => .int
  | _ => .int
abbrev wsX20 : List Cond := u_ws RX2 TX2 6
theorem nmX2 : ∀ a, a < 6 → ∀ b, b < 6 → a ≠ b → (TX2 a).2.1 ≠ (TX2 b).2.1 := by decide +kernel
theorem tyX2_ok : ∀ k, k < 6 → parseFieldDescriptor (TX2 k).2.2.1 = some (tyX2 k) := by decide +kernel
abbrev cX2_init : ByteArray := prog_4_method_1_code
def yX2_init : MethodName := ⟨RX2, "<init>", "()V"⟩
abbrev cX2_size : ByteArray := prog_4_method_2_code
def yX2_size : MethodName := ⟨RX2, "size", "()I"⟩
abbrev cX2_keep : ByteArray := prog_4_method_3_code
def yX2_keep : MethodName := ⟨RX2, "keep", "(IIII)V"⟩
abbrev cX2_takeBack : ByteArray := prog_4_method_4_code
def yX2_takeBack : MethodName := ⟨RX2, "takeBack", "(LFellersOrder$Yard;)V"⟩
def RX3 : String := "FellersOrder$IdleKind"
def TX3 : u_T := fun k => match k with
  | _ => ("", "", "", false)
def tyX3 : Nat → FieldType := fun k => match k with
  | _ => .int
abbrev wsX30 : List Cond := u_ws RX3 TX3 0
theorem nmX3 : ∀ a, a < 0 → ∀ b, b < 0 → a ≠ b → (TX3 a).2.1 ≠ (TX3 b).2.1 := by decide +kernel
theorem tyX3_ok : ∀ k, k < 0 → parseFieldDescriptor (TX3 k).2.2.1 = some (tyX3 k) := by decide +kernel
abbrev cX3_init : ByteArray := prog_5_method_1_code
def yX3_init : MethodName := ⟨RX3, "<init>", "()V"⟩
abbrev cX3_weigh : ByteArray := prog_5_method_2_code
def yX3_weigh : MethodName := ⟨RX3, "weigh", "(LFellersOrder$Acting;I)I"⟩
def RX4 : String := "FellersOrder$JobKind"
def TX4 : u_T := fun k => match k with
  | _ => ("", "", "", false)
def tyX4 : Nat → FieldType := fun k => match k with
  | _ => .int
abbrev wsX40 : List Cond := u_ws RX4 TX4 0
theorem nmX4 : ∀ a, a < 0 → ∀ b, b < 0 → a ≠ b → (TX4 a).2.1 ≠ (TX4 b).2.1 := by decide +kernel
theorem tyX4_ok : ∀ k, k < 0 → parseFieldDescriptor (TX4 k).2.2.1 = some (tyX4 k) := by decide +kernel
abbrev cX4_init : ByteArray := prog_6_method_1_code
def yX4_init : MethodName := ⟨RX4, "<init>", "()V"⟩
abbrev cX4_last : ByteArray := prog_6_method_2_code
def yX4_last : MethodName := ⟨RX4, "last", "(LFellersOrder$Acting;I)I"⟩
abbrev cX4_weigh : ByteArray := prog_6_method_3_code
def yX4_weigh : MethodName := ⟨RX4, "weigh", "(LFellersOrder$Acting;I)I"⟩
abbrev cX4_follow : ByteArray := prog_6_method_4_code
def yX4_follow : MethodName := ⟨RX4, "follow", "(LFellersOrder$Acting;I)I"⟩
abbrev cX4_tell : ByteArray := prog_6_method_5_code
def yX4_tell : MethodName := ⟨RX4, "tell", "(LFellersOrder$Acting;I)I"⟩
def RX5 : String := "FellersOrder$LateKind"
def TX5 : u_T := fun k => match k with
  | _ => ("", "", "", false)
def tyX5 : Nat → FieldType := fun k => match k with
  | _ => .int
abbrev wsX50 : List Cond := u_ws RX5 TX5 0
theorem nmX5 : ∀ a, a < 0 → ∀ b, b < 0 → a ≠ b → (TX5 a).2.1 ≠ (TX5 b).2.1 := by decide +kernel
theorem tyX5_ok : ∀ k, k < 0 → parseFieldDescriptor (TX5 k).2.2.1 = some (tyX5 k) := by decide +kernel
abbrev cX5_init : ByteArray := prog_7_method_1_code
def yX5_init : MethodName := ⟨RX5, "<init>", "()V"⟩
abbrev cX5_last : ByteArray := prog_7_method_2_code
def yX5_last : MethodName := ⟨RX5, "last", "(LFellersOrder$Acting;I)I"⟩
abbrev cX5_tell : ByteArray := prog_7_method_3_code
def yX5_tell : MethodName := ⟨RX5, "tell", "(LFellersOrder$Acting;I)I"⟩
def RX6 : String := "FellersOrder$Line"
def TX6 : u_T := fun k => match k with
  | 0 => ("FellersOrder$Line", "row", "[I", true)
  | _ => ("FellersOrder$Line", "size", "I", false)
def tyX6 : Nat → FieldType := fun k => match k with
  | 0 => .array .int
  | _ => .int
abbrev wsX60 : List Cond := u_ws RX6 TX6 2
theorem nmX6 : ∀ a, a < 2 → ∀ b, b < 2 → a ≠ b → (TX6 a).2.1 ≠ (TX6 b).2.1 := by decide +kernel
theorem tyX6_ok : ∀ k, k < 2 → parseFieldDescriptor (TX6 k).2.2.1 = some (tyX6 k) := by decide +kernel
abbrev cX6_init : ByteArray := prog_8_method_1_code
def yX6_init : MethodName := ⟨RX6, "<init>", "()V"⟩
abbrev cX6_size : ByteArray := prog_8_method_2_code
def yX6_size : MethodName := ⟨RX6, "size", "()I"⟩
abbrev cX6_jobAt : ByteArray := prog_8_method_3_code
def yX6_jobAt : MethodName := ⟨RX6, "jobAt", "(I)I"⟩
abbrev cX6_empty : ByteArray := prog_8_method_4_code
def yX6_empty : MethodName := ⟨RX6, "empty", "()V"⟩
abbrev cX6_append : ByteArray := prog_8_method_5_code
def yX6_append : MethodName := ⟨RX6, "append", "(I)V"⟩
abbrev cX6_exchange : ByteArray := prog_8_method_6_code
def yX6_exchange : MethodName := ⟨RX6, "exchange", "(I)V"⟩
abbrev cX6_placeOf : ByteArray := prog_8_method_7_code
def yX6_placeOf : MethodName := ⟨RX6, "placeOf", "(I)I"⟩
abbrev cX6_bitsBefore : ByteArray := prog_8_method_8_code
def yX6_bitsBefore : MethodName := ⟨RX6, "bitsBefore", "(I)I"⟩
abbrev cX6_lackingAt : ByteArray := prog_8_method_9_code
def yX6_lackingAt : MethodName := ⟨RX6, "lackingAt", "(LFellersOrder$Yard;I)I"⟩
abbrev cX6_firstLacking : ByteArray := prog_8_method_10_code
def yX6_firstLacking : MethodName := ⟨RX6, "firstLacking", "(LFellersOrder$Yard;)I"⟩
abbrev cX6_isKept : ByteArray := prog_8_method_11_code
def yX6_isKept : MethodName := ⟨RX6, "isKept", "(LFellersOrder$Yard;)Z"⟩
abbrev cX6_weightedWaiting : ByteArray := prog_8_method_12_code
def yX6_weightedWaiting : MethodName := ⟨RX6, "weightedWaiting", "(LFellersOrder$Yard;)I"⟩
def RX7 : String := "FellersOrder$Plan"
def TX7 : u_T := fun k => match k with
  | 0 => ("FellersOrder$Plan", "blockBits", "[I", true)
  | 1 => ("FellersOrder$Plan", "blocks", "I", false)
  | 2 => ("FellersOrder$Plan", "blocksVersion", "I", false)
  | 3 => ("FellersOrder$Plan", "costBehind", "[I", true)
  | 4 => ("FellersOrder$Plan", "ordersBehind", "[I", true)
  | 5 => ("FellersOrder$Plan", "bestRow", "[I", true)
  | 6 => ("FellersOrder$Plan", "ordersVersion", "I", false)
  | 7 => ("FellersOrder$Plan", "sometimesBehind", "[I", true)
  | _ => ("FellersOrder$Plan", "standingVersion", "I", false)
def tyX7 : Nat → FieldType := fun k => match k with
  | 0 => .array .int
  | 1 => .int
  | 2 => .int
  | 3 => .array .int
  | 4 => .array .int
  | 5 => .array .int
  | 6 => .int
  | 7 => .array .int
  | _ => .int
abbrev wsX70 : List Cond := u_ws RX7 TX7 9
theorem nmX7 : ∀ a, a < 9 → ∀ b, b < 9 → a ≠ b → (TX7 a).2.1 ≠ (TX7 b).2.1 := by decide +kernel
theorem tyX7_ok : ∀ k, k < 9 → parseFieldDescriptor (TX7 k).2.2.1 = some (tyX7 k) := by decide +kernel
abbrev cX7_init : ByteArray := prog_9_method_1_code
def yX7_init : MethodName := ⟨RX7, "<init>", "()V"⟩
abbrev cX7_blocks : ByteArray := prog_9_method_2_code
def yX7_blocks : MethodName := ⟨RX7, "blocks", "(LFellersOrder$Yard;)I"⟩
abbrev cX7_blockBits : ByteArray := prog_9_method_3_code
def yX7_blockBits : MethodName := ⟨RX7, "blockBits", "(I)I"⟩
abbrev cX7_blockOf : ByteArray := prog_9_method_4_code
def yX7_blockOf : MethodName := ⟨RX7, "blockOf", "(LFellersOrder$Yard;I)I"⟩
abbrev cX7_leastCost : ByteArray := prog_9_method_5_code
def yX7_leastCost : MethodName := ⟨RX7, "leastCost", "(LFellersOrder$Yard;)I"⟩
abbrev cX7_bestOrders : ByteArray := prog_9_method_6_code
def yX7_bestOrders : MethodName := ⟨RX7, "bestOrders", "(LFellersOrder$Yard;)I"⟩
abbrev cX7_bestAt : ByteArray := prog_9_method_7_code
def yX7_bestAt : MethodName := ⟨RX7, "bestAt", "(LFellersOrder$Yard;I)I"⟩
abbrev cX7_mayStandAhead : ByteArray := prog_9_method_8_code
def yX7_mayStandAhead : MethodName := ⟨RX7, "mayStandAhead", "(LFellersOrder$Yard;II)Z"⟩
abbrev cX7_findBlocks : ByteArray := prog_9_method_9_code
def yX7_findBlocks : MethodName := ⟨RX7, "findBlocks", "(LFellersOrder$Yard;)V"⟩
abbrev cX7_findBlock : ByteArray := prog_9_method_10_code
def yX7_findBlock : MethodName := ⟨RX7, "findBlock", "(LFellersOrder$Yard;I)I"⟩
abbrev cX7_findOrders : ByteArray := prog_9_method_11_code
def yX7_findOrders : MethodName := ⟨RX7, "findOrders", "(LFellersOrder$Yard;)V"⟩
abbrev cX7_goOnFrom : ByteArray := prog_9_method_12_code
def yX7_goOnFrom : MethodName := ⟨RX7, "goOnFrom", "(LFellersOrder$Yard;I)V"⟩
abbrev cX7_isBestNext : ByteArray := prog_9_method_13_code
def yX7_isBestNext : MethodName := ⟨RX7, "isBestNext", "(LFellersOrder$Yard;II)Z"⟩
abbrev cX7_readBestRow : ByteArray := prog_9_method_14_code
def yX7_readBestRow : MethodName := ⟨RX7, "readBestRow", "(LFellersOrder$Yard;)V"⟩
abbrev cX7_leastBestNext : ByteArray := prog_9_method_15_code
def yX7_leastBestNext : MethodName := ⟨RX7, "leastBestNext", "(LFellersOrder$Yard;I)I"⟩
abbrev cX7_findStanding : ByteArray := prog_9_method_16_code
def yX7_findStanding : MethodName := ⟨RX7, "findStanding", "(LFellersOrder$Yard;)V"⟩
abbrev cX7_beginsBestOrder : ByteArray := prog_9_method_17_code
def yX7_beginsBestOrder : MethodName := ⟨RX7, "beginsBestOrder", "(LFellersOrder$Yard;I)Z"⟩
abbrev cX7_noteStanding : ByteArray := prog_9_method_18_code
def yX7_noteStanding : MethodName := ⟨RX7, "noteStanding", "(LFellersOrder$Yard;I)V"⟩
def RX8 : String := "FellersOrder$Sheet"
def TX8 : u_T := fun k => match k with
  | 0 => ("FellersOrder$Sheet", "numbers", "[I", true)
  | 1 => ("FellersOrder$Sheet", "sort", "I", false)
  | _ => ("FellersOrder$Sheet", "size", "I", false)
def tyX8 : Nat → FieldType := fun k => match k with
  | 0 => .array .int
  | 1 => .int
  | _ => .int
abbrev wsX80 : List Cond := u_ws RX8 TX8 3
theorem nmX8 : ∀ a, a < 3 → ∀ b, b < 3 → a ≠ b → (TX8 a).2.1 ≠ (TX8 b).2.1 := by decide +kernel
theorem tyX8_ok : ∀ k, k < 3 → parseFieldDescriptor (TX8 k).2.2.1 = some (tyX8 k) := by decide +kernel
abbrev cX8_init : ByteArray := prog_10_method_1_code
def yX8_init : MethodName := ⟨RX8, "<init>", "()V"⟩
abbrev cX8_isMissing : ByteArray := prog_10_method_2_code
def yX8_isMissing : MethodName := ⟨RX8, "isMissing", "()Z"⟩
abbrev cX8_isOfSort : ByteArray := prog_10_method_3_code
def yX8_isOfSort : MethodName := ⟨RX8, "isOfSort", "(I)Z"⟩
abbrev cX8_size : ByteArray := prog_10_method_4_code
def yX8_size : MethodName := ⟨RX8, "size", "()I"⟩
abbrev cX8_numberAt : ByteArray := prog_10_method_5_code
def yX8_numberAt : MethodName := ⟨RX8, "numberAt", "(I)I"⟩
abbrev cX8_make : ByteArray := prog_10_method_6_code
def yX8_make : MethodName := ⟨RX8, "make", "(II)V"⟩
abbrev cX8_remove : ByteArray := prog_10_method_7_code
def yX8_remove : MethodName := ⟨RX8, "remove", "()V"⟩
abbrev cX8_write : ByteArray := prog_10_method_8_code
def yX8_write : MethodName := ⟨RX8, "write", "(II)V"⟩
abbrev cX8_refusalAs : ByteArray := prog_10_method_9_code
def yX8_refusalAs : MethodName := ⟨RX8, "refusalAs", "(I)I"⟩
abbrev cX8_sumFrom : ByteArray := prog_10_method_10_code
def yX8_sumFrom : MethodName := ⟨RX8, "sumFrom", "(II)I"⟩
def RX9 : String := "FellersOrder$UnitKind"
def TX9 : u_T := fun k => match k with
  | _ => ("", "", "", false)
def tyX9 : Nat → FieldType := fun k => match k with
  | _ => .int
abbrev wsX90 : List Cond := u_ws RX9 TX9 0
theorem nmX9 : ∀ a, a < 0 → ∀ b, b < 0 → a ≠ b → (TX9 a).2.1 ≠ (TX9 b).2.1 := by decide +kernel
theorem tyX9_ok : ∀ k, k < 0 → parseFieldDescriptor (TX9 k).2.2.1 = some (tyX9 k) := by decide +kernel
abbrev cX9_init : ByteArray := prog_11_method_1_code
def yX9_init : MethodName := ⟨RX9, "<init>", "()V"⟩
abbrev cX9_last : ByteArray := prog_11_method_2_code
def yX9_last : MethodName := ⟨RX9, "last", "(LFellersOrder$Acting;I)I"⟩
abbrev cX9_tell : ByteArray := prog_11_method_3_code
def yX9_tell : MethodName := ⟨RX9, "tell", "(LFellersOrder$Acting;I)I"⟩
def RX10 : String := "FellersOrder$Yard"
def TX10 : u_T := fun k => match k with
  | 0 => ("FellersOrder$Yard", "measures", "[[I", true)
  | 1 => ("FellersOrder$Yard", "laid", "[I", true)
  | 2 => ("FellersOrder$Yard", "ahead", "[I", true)
  | 3 => ("FellersOrder$Yard", "behind", "[I", true)
  | 4 => ("FellersOrder$Yard", "lengths", "[I", true)
  | 5 => ("FellersOrder$Yard", "weights", "[I", true)
  | 6 => ("FellersOrder$Yard", "needs", "[I", true)
  | 7 => ("FellersOrder$Yard", "jobs", "I", false)
  | 8 => ("FellersOrder$Yard", "laidPairs", "I", false)
  | _ => ("FellersOrder$Yard", "version", "I", false)
def tyX10 : Nat → FieldType := fun k => match k with
  | 0 => .array (.array .int)
  | 1 => .array .int
  | 2 => .array .int
  | 3 => .array .int
  | 4 => .array .int
  | 5 => .array .int
  | 6 => .array .int
  | 7 => .int
  | 8 => .int
  | _ => .int
abbrev wsX100 : List Cond := u_ws RX10 TX10 10
theorem nmX10 : ∀ a, a < 10 → ∀ b, b < 10 → a ≠ b → (TX10 a).2.1 ≠ (TX10 b).2.1 := by decide +kernel
theorem tyX10_ok : ∀ k, k < 10 → parseFieldDescriptor (TX10 k).2.2.1 = some (tyX10 k) := by decide +kernel
abbrev cX10_init : ByteArray := prog_12_method_1_code
def yX10_init : MethodName := ⟨RX10, "<init>", "()V"⟩
abbrev cX10_allows : ByteArray := prog_12_method_2_code
def yX10_allows : MethodName := ⟨RX10, "allows", "(II)Z"⟩
abbrev cX10_jobOfCrossing : ByteArray := prog_12_method_3_code
def yX10_jobOfCrossing : MethodName := ⟨RX10, "jobOfCrossing", "(II)I"⟩
abbrev cX10_has : ByteArray := prog_12_method_4_code
def yX10_has : MethodName := ⟨RX10, "has", "(I)Z"⟩
abbrev cX10_isFull : ByteArray := prog_12_method_5_code
def yX10_isFull : MethodName := ⟨RX10, "isFull", "()Z"⟩
abbrev cX10_jobs : ByteArray := prog_12_method_6_code
def yX10_jobs : MethodName := ⟨RX10, "jobs", "()I"⟩
abbrev cX10_laidPairs : ByteArray := prog_12_method_7_code
def yX10_laidPairs : MethodName := ⟨RX10, "laidPairs", "()I"⟩
abbrev cX10_version : ByteArray := prog_12_method_8_code
def yX10_version : MethodName := ⟨RX10, "version", "()I"⟩
abbrev cX10_everyJob : ByteArray := prog_12_method_9_code
def yX10_everyJob : MethodName := ⟨RX10, "everyJob", "()I"⟩
abbrev cX10_measure : ByteArray := prog_12_method_10_code
def yX10_measure : MethodName := ⟨RX10, "measure", "(II)I"⟩
abbrev cX10_aheadOf : ByteArray := prog_12_method_11_code
def yX10_aheadOf : MethodName := ⟨RX10, "aheadOf", "(I)I"⟩
abbrev cX10_behind : ByteArray := prog_12_method_12_code
def yX10_behind : MethodName := ⟨RX10, "behind", "(I)I"⟩
abbrev cX10_isLaid : ByteArray := prog_12_method_13_code
def yX10_isLaid : MethodName := ⟨RX10, "isLaid", "(II)Z"⟩
abbrev cX10_isAhead : ByteArray := prog_12_method_14_code
def yX10_isAhead : MethodName := ⟨RX10, "isAhead", "(II)Z"⟩
abbrev cX10_add : ByteArray := prog_12_method_15_code
def yX10_add : MethodName := ⟨RX10, "add", "(II)I"⟩
abbrev cX10_removeLast : ByteArray := prog_12_method_16_code
def yX10_removeLast : MethodName := ⟨RX10, "removeLast", "()V"⟩
abbrev cX10_measureAnew : ByteArray := prog_12_method_17_code
def yX10_measureAnew : MethodName := ⟨RX10, "measureAnew", "(III)V"⟩
abbrev cX10_bind : ByteArray := prog_12_method_18_code
def yX10_bind : MethodName := ⟨RX10, "bind", "(II)V"⟩
abbrev cX10_unbind : ByteArray := prog_12_method_19_code
def yX10_unbind : MethodName := ⟨RX10, "unbind", "(II)V"⟩
abbrev cX10_kindOf : ByteArray := prog_12_method_20_code
def yX10_kindOf : MethodName := ⟨RX10, "kindOf", "(I)I"⟩
abbrev cX10_lengthOf : ByteArray := prog_12_method_21_code
def yX10_lengthOf : MethodName := ⟨RX10, "lengthOf", "(I)I"⟩
abbrev cX10_weightOf : ByteArray := prog_12_method_22_code
def yX10_weightOf : MethodName := ⟨RX10, "weightOf", "(I)I"⟩
abbrev cX10_isBeginning : ByteArray := prog_12_method_23_code
def yX10_isBeginning : MethodName := ⟨RX10, "isBeginning", "(II)Z"⟩
abbrev cX10_mayComeNext : ByteArray := prog_12_method_24_code
def yX10_mayComeNext : MethodName := ⟨RX10, "mayComeNext", "(II)Z"⟩
abbrev cX10_costNext : ByteArray := prog_12_method_25_code
def yX10_costNext : MethodName := ⟨RX10, "costNext", "(II)I"⟩
abbrev cX10_beginnings : ByteArray := prog_12_method_26_code
def yX10_beginnings : MethodName := ⟨RX10, "beginnings", "()I"⟩
abbrev cX10_findCrossing : ByteArray := prog_12_method_27_code
def yX10_findCrossing : MethodName := ⟨RX10, "findCrossing", "()I"⟩
abbrev cX10_findEnds : ByteArray := prog_12_method_28_code
def yX10_findEnds : MethodName := ⟨RX10, "findEnds", "(II)I"⟩
abbrev cX10_unbound : ByteArray := prog_12_method_29_code
def yX10_unbound : MethodName := ⟨RX10, "unbound", "(I)I"⟩
abbrev cX10_renew : ByteArray := prog_12_method_30_code
def yX10_renew : MethodName := ⟨RX10, "renew", "()V"⟩
abbrev cX10_followLaid : ByteArray := prog_12_method_31_code
def yX10_followLaid : MethodName := ⟨RX10, "followLaid", "()V"⟩
abbrev cX10_turnBehind : ByteArray := prog_12_method_32_code
def yX10_turnBehind : MethodName := ⟨RX10, "turnBehind", "()V"⟩
abbrev cX10_sumHalf : ByteArray := prog_12_method_33_code
def yX10_sumHalf : MethodName := ⟨RX10, "sumHalf", "(II)V"⟩
def RX11 : String := "FellersOrder"
def TX11 : u_T := fun k => match k with
  | 0 => ("FellersOrder", "yard", "LFellersOrder$Yard;", true)
  | 1 => ("FellersOrder", "plan", "LFellersOrder$Plan;", true)
  | 2 => ("FellersOrder", "line", "LFellersOrder$Line;", true)
  | 3 => ("FellersOrder", "history", "LFellersOrder$History;", true)
  | 4 => ("FellersOrder", "acting", "LFellersOrder$Acting;", true)
  | 5 => ("FellersOrder", "kinds", "[LFellersOrder$JobKind;", true)
  | 6 => ("FellersOrder", "sheets", "[LFellersOrder$Sheet;", true)
  | _ => ("FellersOrder", "latest", "I", false)
def tyX11 : Nat → FieldType := fun k => match k with
  | 0 => .object "FellersOrder$Yard"
  | 1 => .object "FellersOrder$Plan"
  | 2 => .object "FellersOrder$Line"
  | 3 => .object "FellersOrder$History"
  | 4 => .object "FellersOrder$Acting"
  | 5 => .array (.object "FellersOrder$JobKind")
  | 6 => .array (.object "FellersOrder$Sheet")
  | _ => .int
abbrev wsX110 : List Cond := u_ws RX11 TX11 8
theorem nmX11 : ∀ a, a < 8 → ∀ b, b < 8 → a ≠ b → (TX11 a).2.1 ≠ (TX11 b).2.1 := by decide +kernel
theorem tyX11_ok : ∀ k, k < 8 → parseFieldDescriptor (TX11 k).2.2.1 = some (tyX11 k) := by decide +kernel
abbrev cX11_init : ByteArray := prog_1_method_1_code
def yX11_init : MethodName := ⟨RX11, "<init>", "()V"⟩
abbrev cX11_job : ByteArray := prog_1_method_2_code
def yX11_job : MethodName := ⟨RX11, "job", "(II)I"⟩
abbrev cX11_set : ByteArray := prog_1_method_3_code
def yX11_set : MethodName := ⟨RX11, "set", "(III)I"⟩
abbrev cX11_lay : ByteArray := prog_1_method_4_code
def yX11_lay : MethodName := ⟨RX11, "lay", "(II)I"⟩
abbrev cX11_free : ByteArray := prog_1_method_5_code
def yX11_free : MethodName := ⟨RX11, "free", "(II)I"⟩
abbrev cX11_put : ByteArray := prog_1_method_6_code
def yX11_put : MethodName := ⟨RX11, "put", "(I)I"⟩
abbrev cX11_clear : ByteArray := prog_1_method_7_code
def yX11_clear : MethodName := ⟨RX11, "clear", "()I"⟩
abbrev cX11_told : ByteArray := prog_1_method_8_code
def yX11_told : MethodName := ⟨RX11, "told", "(II)I"⟩
abbrev cX11_ahead : ByteArray := prog_1_method_9_code
def yX11_ahead : MethodName := ⟨RX11, "ahead", "(II)I"⟩
abbrev cX11_count : ByteArray := prog_1_method_10_code
def yX11_count : MethodName := ⟨RX11, "count", "(I)I"⟩
abbrev cX11_keeps : ByteArray := prog_1_method_11_code
def yX11_keeps : MethodName := ⟨RX11, "keeps", "()I"⟩
abbrev cX11_why : ByteArray := prog_1_method_12_code
def yX11_why : MethodName := ⟨RX11, "why", "(I)I"⟩
abbrev cX11_cost : ByteArray := prog_1_method_13_code
def yX11_cost : MethodName := ⟨RX11, "cost", "()I"⟩
abbrev cX11_swap : ByteArray := prog_1_method_14_code
def yX11_swap : MethodName := ⟨RX11, "swap", "(I)I"⟩
abbrev cX11_block : ByteArray := prog_1_method_15_code
def yX11_block : MethodName := ⟨RX11, "block", "(II)I"⟩
abbrev cX11_least : ByteArray := prog_1_method_16_code
def yX11_least : MethodName := ⟨RX11, "least", "()I"⟩
abbrev cX11_best : ByteArray := prog_1_method_17_code
def yX11_best : MethodName := ⟨RX11, "best", "(I)I"⟩
abbrev cX11_many : ByteArray := prog_1_method_18_code
def yX11_many : MethodName := ⟨RX11, "many", "()I"⟩
abbrev cX11_fixed : ByteArray := prog_1_method_19_code
def yX11_fixed : MethodName := ⟨RX11, "fixed", "(II)I"⟩
abbrev cX11_series : ByteArray := prog_1_method_20_code
def yX11_series : MethodName := ⟨RX11, "series", "()I"⟩
abbrev cX11_shows : ByteArray := prog_1_method_21_code
def yX11_shows : MethodName := ⟨RX11, "shows", "(I)I"⟩
abbrev cX11_turned : ByteArray := prog_1_method_22_code
def yX11_turned : MethodName := ⟨RX11, "turned", "()I"⟩
abbrev cX11_act : ByteArray := prog_1_method_23_code
def yX11_act : MethodName := ⟨RX11, "act", "(III)I"⟩
abbrev cX11_trace : ByteArray := prog_1_method_24_code
def yX11_trace : MethodName := ⟨RX11, "trace", "(I)I"⟩
abbrev cX11_sheet : ByteArray := prog_1_method_25_code
def yX11_sheet : MethodName := ⟨RX11, "sheet", "(III)I"⟩
abbrev cX11_cell : ByteArray := prog_1_method_26_code
def yX11_cell : MethodName := ⟨RX11, "cell", "(III)I"⟩
abbrev cX11_fromSheet : ByteArray := prog_1_method_27_code
def yX11_fromSheet : MethodName := ⟨RX11, "fromSheet", "(III)I"⟩
abbrev cX11_forge : ByteArray := prog_1_method_28_code
def yX11_forge : MethodName := ⟨RX11, "forge", "(III)I"⟩
abbrev cX11_undo : ByteArray := prog_1_method_29_code
def yX11_undo : MethodName := ⟨RX11, "undo", "()I"⟩
abbrev cX11_status : ByteArray := prog_1_method_30_code
def yX11_status : MethodName := ⟨RX11, "status", "()I"⟩
abbrev cX11_done : ByteArray := prog_1_method_31_code
def yX11_done : MethodName := ⟨RX11, "done", "(I)I"⟩
abbrev cX11_refused : ByteArray := prog_1_method_32_code
def yX11_refused : MethodName := ⟨RX11, "refused", "(I)I"⟩
abbrev cX11_bringJob : ByteArray := prog_1_method_33_code
def yX11_bringJob : MethodName := ⟨RX11, "bringJob", "(II)I"⟩
abbrev cX11_forgeSize : ByteArray := prog_1_method_34_code
def yX11_forgeSize : MethodName := ⟨RX11, "forgeSize", "(LFellersOrder$Sheet;I)I"⟩
abbrev cX11_forgeCopy : ByteArray := prog_1_method_35_code
def yX11_forgeCopy : MethodName := ⟨RX11, "forgeCopy", "(LFellersOrder$Sheet;I)I"⟩
abbrev cX11_forgeLaying : ByteArray := prog_1_method_36_code
def yX11_forgeLaying : MethodName := ⟨RX11, "forgeLaying", "(LFellersOrder$Sheet;)I"⟩
abbrev cX11_forgeUnit : ByteArray := prog_1_method_37_code
def yX11_forgeUnit : MethodName := ⟨RX11, "forgeUnit", "(I)I"⟩
abbrev cX11_isSheet : ByteArray := prog_1_method_38_code
def yX11_isSheet : MethodName := ⟨RX11, "isSheet", "(I)Z"⟩
abbrev cX11_asNumber : ByteArray := prog_1_method_39_code
def yX11_asNumber : MethodName := ⟨RX11, "asNumber", "(Z)I"⟩
abbrev cX11_hasBit : ByteArray := prog_1_method_40_code
def yX11_hasBit : MethodName := ⟨RX11, "hasBit", "(II)Z"⟩
def RX12 : String := "FellersOrderModel"
def TX12 : u_T := fun k => match k with
  | 0 => ("FellersOrderModel", "jobs", "I", false)
  | 1 => ("FellersOrderModel", "length", "[I", true)
  | 2 => ("FellersOrderModel", "weight", "[I", true)
  | 3 => ("FellersOrderModel", "moment", "[I", true)
  | 4 => ("FellersOrderModel", "laid", "[I", true)
  | 5 => ("FellersOrderModel", "must", "[I", true)
  | 6 => ("FellersOrderModel", "order", "[I", true)
  | 7 => ("FellersOrderModel", "ordered", "I", false)
  | 8 => ("FellersOrderModel", "changes", "I", false)
  | 9 => ("FellersOrderModel", "wasJobs", "[I", true)
  | 10 => ("FellersOrderModel", "was", "[I", true)
  | 11 => ("FellersOrderModel", "sort", "[I", true)
  | 12 => ("FellersOrderModel", "size", "[I", true)
  | 13 => ("FellersOrderModel", "cells", "[J", true)
  | 14 => ("FellersOrderModel", "status", "I", false)
  | 15 => ("FellersOrderModel", "traced", "[I", true)
  | 16 => ("FellersOrderModel", "traces", "I", false)
  | 17 => ("FellersOrderModel", "lacks", "I", false)
  | 18 => ("FellersOrderModel", "setLength", "[I", true)
  | 19 => ("FellersOrderModel", "forwards", "[I", true)
  | 20 => ("FellersOrderModel", "ways", "[I", true)
  | 21 => ("FellersOrderModel", "backwards", "[I", true)
  | 22 => ("FellersOrderModel", "l", "[I", true)
  | 23 => ("FellersOrderModel", "w", "[I", true)
  | 24 => ("FellersOrderModel", "m", "[I", true)
  | 25 => ("FellersOrderModel", "blocks", "I", false)
  | _ => ("FellersOrderModel", "blockOf", "[I", true)
def tyX12 : Nat → FieldType := fun k => match k with
  | 0 => .int
  | 1 => .array .int
  | 2 => .array .int
  | 3 => .array .int
  | 4 => .array .int
  | 5 => .array .int
  | 6 => .array .int
  | 7 => .int
  | 8 => .int
  | 9 => .array .int
  | 10 => .array .int
  | 11 => .array .int
  | 12 => .array .int
  | 13 => .array .long
  | 14 => .int
  | 15 => .array .int
  | 16 => .int
  | 17 => .int
  | 18 => .array .int
  | 19 => .array .int
  | 20 => .array .int
  | 21 => .array .int
  | 22 => .array .int
  | 23 => .array .int
  | 24 => .array .int
  | 25 => .int
  | _ => .array .int
abbrev wsX120 : List Cond := u_ws RX12 TX12 27
theorem nmX12 : ∀ a, a < 27 → ∀ b, b < 27 → a ≠ b → (TX12 a).2.1 ≠ (TX12 b).2.1 := by decide +kernel
theorem tyX12_ok : ∀ k, k < 27 → parseFieldDescriptor (TX12 k).2.2.1 = some (tyX12 k) := by decide +kernel
abbrev cX12_init : ByteArray := prog_14_method_1_code
def yX12_init : MethodName := ⟨RX12, "<init>", "()V"⟩
abbrev cX12_in : ByteArray := prog_14_method_2_code
def yX12_in : MethodName := ⟨RX12, "in", "(III)Z"⟩
abbrev cX12_refused : ByteArray := prog_14_method_3_code
def yX12_refused : MethodName := ⟨RX12, "refused", "(I)I"⟩
abbrev cX12_done : ByteArray := prog_14_method_4_code
def yX12_done : MethodName := ⟨RX12, "done", "(I)I"⟩
abbrev cX12_isJob : ByteArray := prog_14_method_5_code
def yX12_isJob : MethodName := ⟨RX12, "isJob", "(I)Z"⟩
abbrev cX12_has : ByteArray := prog_14_method_6_code
def yX12_has : MethodName := ⟨RX12, "has", "(II)Z"⟩
abbrev cX12_bits : ByteArray := prog_14_method_7_code
def yX12_bits : MethodName := ⟨RX12, "bits", "(I)I"⟩
abbrev cX12_close : ByteArray := prog_14_method_8_code
def yX12_close : MethodName := ⟨RX12, "close", "()V"⟩
abbrev cX12_keep : ByteArray := prog_14_method_9_code
def yX12_keep : MethodName := ⟨RX12, "keep", "()V"⟩
abbrev cX12_undo : ByteArray := prog_14_method_10_code
def yX12_undo : MethodName := ⟨RX12, "undo", "()I"⟩
abbrev cX12_made : ByteArray := prog_14_method_11_code
def yX12_made : MethodName := ⟨RX12, "made", "(II)I"⟩
abbrev cX12_job : ByteArray := prog_14_method_12_code
def yX12_job : MethodName := ⟨RX12, "job", "(II)I"⟩
abbrev cX12_set : ByteArray := prog_14_method_13_code
def yX12_set : MethodName := ⟨RX12, "set", "(III)I"⟩
abbrev cX12_lay : ByteArray := prog_14_method_14_code
def yX12_lay : MethodName := ⟨RX12, "lay", "(II)I"⟩
abbrev cX12_free : ByteArray := prog_14_method_15_code
def yX12_free : MethodName := ⟨RX12, "free", "(II)I"⟩
abbrev cX12_placeOf : ByteArray := prog_14_method_16_code
def yX12_placeOf : MethodName := ⟨RX12, "placeOf", "(I)I"⟩
abbrev cX12_put : ByteArray := prog_14_method_17_code
def yX12_put : MethodName := ⟨RX12, "put", "(I)I"⟩
abbrev cX12_clear : ByteArray := prog_14_method_18_code
def yX12_clear : MethodName := ⟨RX12, "clear", "()I"⟩
abbrev cX12_lacking : ByteArray := prog_14_method_19_code
def yX12_lacking : MethodName := ⟨RX12, "lacking", "()I"⟩
abbrev cX12_lowest : ByteArray := prog_14_method_20_code
def yX12_lowest : MethodName := ⟨RX12, "lowest", "(I)I"⟩
abbrev cX12_keeps : ByteArray := prog_14_method_21_code
def yX12_keeps : MethodName := ⟨RX12, "keeps", "()I"⟩
abbrev cX12_why : ByteArray := prog_14_method_22_code
def yX12_why : MethodName := ⟨RX12, "why", "(I)I"⟩
abbrev cX12_cost : ByteArray := prog_14_method_23_code
def yX12_cost : MethodName := ⟨RX12, "cost", "()I"⟩
abbrev cX12_change : ByteArray := prog_14_method_24_code
def yX12_change : MethodName := ⟨RX12, "change", "(I)V"⟩
abbrev cX12_swap : ByteArray := prog_14_method_25_code
def yX12_swap : MethodName := ⟨RX12, "swap", "(I)I"⟩
abbrev cX12_yard : ByteArray := prog_14_method_26_code
def yX12_yard : MethodName := ⟨RX12, "yard", "(Z)V"⟩
abbrev cX12_all : ByteArray := prog_14_method_27_code
def yX12_all : MethodName := ⟨RX12, "all", "()I"⟩
abbrev cX12_layAll : ByteArray := prog_14_method_28_code
def yX12_layAll : MethodName := ⟨RX12, "layAll", "()V"⟩
abbrev cX12_goes : ByteArray := prog_14_method_29_code
def yX12_goes : MethodName := ⟨RX12, "goes", "(III)V"⟩
abbrev cX12_look : ByteArray := prog_14_method_30_code
def yX12_look : MethodName := ⟨RX12, "look", "()V"⟩
abbrev cX12_least : ByteArray := prog_14_method_31_code
def yX12_least : MethodName := ⟨RX12, "least", "()I"⟩
abbrev cX12_many : ByteArray := prog_14_method_32_code
def yX12_many : MethodName := ⟨RX12, "many", "()I"⟩
abbrev cX12_best : ByteArray := prog_14_method_33_code
def yX12_best : MethodName := ⟨RX12, "best", "(I)I"⟩
abbrev cX12_fixed : ByteArray := prog_14_method_34_code
def yX12_fixed : MethodName := ⟨RX12, "fixed", "(II)I"⟩
abbrev cX12_turned : ByteArray := prog_14_method_35_code
def yX12_turned : MethodName := ⟨RX12, "turned", "()I"⟩
abbrev cX12_weightOf : ByteArray := prog_14_method_36_code
def yX12_weightOf : MethodName := ⟨RX12, "weightOf", "(I)I"⟩
abbrev cX12_lengthOf : ByteArray := prog_14_method_37_code
def yX12_lengthOf : MethodName := ⟨RX12, "lengthOf", "(I)I"⟩
abbrev cX12_isBeginning : ByteArray := prog_14_method_38_code
def yX12_isBeginning : MethodName := ⟨RX12, "isBeginning", "(II)Z"⟩
abbrev cX12_blockBehind : ByteArray := prog_14_method_39_code
def yX12_blockBehind : MethodName := ⟨RX12, "blockBehind", "(I)I"⟩
abbrev cX12_findBlocks : ByteArray := prog_14_method_40_code
def yX12_findBlocks : MethodName := ⟨RX12, "findBlocks", "()V"⟩
abbrev cX12_block : ByteArray := prog_14_method_41_code
def yX12_block : MethodName := ⟨RX12, "block", "(II)I"⟩
abbrev cX12_kindOf : ByteArray := prog_14_method_42_code
def yX12_kindOf : MethodName := ⟨RX12, "kindOf", "(I)I"⟩
abbrev cX12_behindOf : ByteArray := prog_14_method_43_code
def yX12_behindOf : MethodName := ⟨RX12, "behindOf", "(I)I"⟩
abbrev cX12_blockWith : ByteArray := prog_14_method_44_code
def yX12_blockWith : MethodName := ⟨RX12, "blockWith", "(I)I"⟩
abbrev cX12_told : ByteArray := prog_14_method_45_code
def yX12_told : MethodName := ⟨RX12, "told", "(II)I"⟩
abbrev cX12_ahead : ByteArray := prog_14_method_46_code
def yX12_ahead : MethodName := ⟨RX12, "ahead", "(II)I"⟩
abbrev cX12_beginnings : ByteArray := prog_14_method_47_code
def yX12_beginnings : MethodName := ⟨RX12, "beginnings", "()I"⟩
abbrev cX12_pairs : ByteArray := prog_14_method_48_code
def yX12_pairs : MethodName := ⟨RX12, "pairs", "()I"⟩
abbrev cX12_count : ByteArray := prog_14_method_49_code
def yX12_count : MethodName := ⟨RX12, "count", "(I)I"⟩
abbrev cX12_apart : ByteArray := prog_14_method_50_code
def yX12_apart : MethodName := ⟨RX12, "apart", "(II)Z"⟩
abbrev cX12_four : ByteArray := prog_14_method_51_code
def yX12_four : MethodName := ⟨RX12, "four", "()I"⟩
abbrev cX12_series : ByteArray := prog_14_method_52_code
def yX12_series : MethodName := ⟨RX12, "series", "()I"⟩
abbrev cX12_shows : ByteArray := prog_14_method_53_code
def yX12_shows : MethodName := ⟨RX12, "shows", "(I)I"⟩
abbrev cX12_ran : ByteArray := prog_14_method_54_code
def yX12_ran : MethodName := ⟨RX12, "ran", "(I)V"⟩
abbrev cX12_jobLast : ByteArray := prog_14_method_55_code
def yX12_jobLast : MethodName := ⟨RX12, "jobLast", "(II)I"⟩
abbrev cX12_unitLast : ByteArray := prog_14_method_56_code
def yX12_unitLast : MethodName := ⟨RX12, "unitLast", "(II)I"⟩
abbrev cX12_jobFollow : ByteArray := prog_14_method_57_code
def yX12_jobFollow : MethodName := ⟨RX12, "jobFollow", "(II)I"⟩
abbrev cX12_last : ByteArray := prog_14_method_58_code
def yX12_last : MethodName := ⟨RX12, "last", "(III)I"⟩
abbrev cX12_weigh : ByteArray := prog_14_method_59_code
def yX12_weigh : MethodName := ⟨RX12, "weigh", "(III)I"⟩
abbrev cX12_follow : ByteArray := prog_14_method_60_code
def yX12_follow : MethodName := ⟨RX12, "follow", "(III)I"⟩
abbrev cX12_jobTell : ByteArray := prog_14_method_61_code
def yX12_jobTell : MethodName := ⟨RX12, "jobTell", "(III)I"⟩
abbrev cX12_tell : ByteArray := prog_14_method_62_code
def yX12_tell : MethodName := ⟨RX12, "tell", "(III)I"⟩
abbrev cX12_act : ByteArray := prog_14_method_63_code
def yX12_act : MethodName := ⟨RX12, "act", "(III)I"⟩
abbrev cX12_trace : ByteArray := prog_14_method_64_code
def yX12_trace : MethodName := ⟨RX12, "trace", "(I)I"⟩
abbrev cX12_sheet : ByteArray := prog_14_method_65_code
def yX12_sheet : MethodName := ⟨RX12, "sheet", "(III)I"⟩
abbrev cX12_cell : ByteArray := prog_14_method_66_code
def yX12_cell : MethodName := ⟨RX12, "cell", "(III)I"⟩
abbrev cX12_fromSheet : ByteArray := prog_14_method_67_code
def yX12_fromSheet : MethodName := ⟨RX12, "fromSheet", "(III)I"⟩
abbrev cX12_sum : ByteArray := prog_14_method_68_code
def yX12_sum : MethodName := ⟨RX12, "sum", "(II)I"⟩
abbrev cX12_unitTaken : ByteArray := prog_14_method_69_code
def yX12_unitTaken : MethodName := ⟨RX12, "unitTaken", "(I)I"⟩
abbrev cX12_forge : ByteArray := prog_14_method_70_code
def yX12_forge : MethodName := ⟨RX12, "forge", "(III)I"⟩
abbrev cX12_status : ByteArray := prog_14_method_71_code
def yX12_status : MethodName := ⟨RX12, "status", "()I"⟩
def RJ6 : String := "java/lang/Integer"
def TJ6 : u_T := fun k => match k with
  | _ => ("", "", "", false)
def tyJ6 : Nat → FieldType := fun k => match k with
  | _ => .int
abbrev wsJ60 : List Cond := u_ws RJ6 TJ6 0
theorem nmJ6 : ∀ a, a < 0 → ∀ b, b < 0 → a ≠ b → (TJ6 a).2.1 ≠ (TJ6 b).2.1 := by decide +kernel
theorem tyJ6_ok : ∀ k, k < 0 → parseFieldDescriptor (TJ6 k).2.2.1 = some (tyJ6 k) := by decide +kernel
abbrev cJ6_numberOfTrailingZeros_0f7a4 : ByteArray := prog_15_method_48_code
def yJ6_numberOfTrailingZeros_0f7a4 : MethodName := ⟨RJ6, "numberOfTrailingZeros", "(I)I"⟩
abbrev cJ6_bitCount_0f7a4 : ByteArray := prog_15_method_49_code
def yJ6_bitCount_0f7a4 : MethodName := ⟨RJ6, "bitCount", "(I)I"⟩
def RJ9 : String := "java/lang/Math"
def TJ9 : u_T := fun k => match k with
  | _ => ("", "", "", false)
def tyJ9 : Nat → FieldType := fun k => match k with
  | _ => .int
abbrev wsJ90 : List Cond := u_ws RJ9 TJ9 0
theorem nmJ9 : ∀ a, a < 0 → ∀ b, b < 0 → a ≠ b → (TJ9 a).2.1 ≠ (TJ9 b).2.1 := by decide +kernel
theorem tyJ9_ok : ∀ k, k < 0 → parseFieldDescriptor (TJ9 k).2.2.1 = some (tyJ9 k) := by decide +kernel
abbrev cJ9_floorMod_7cf53 : ByteArray := prog_16_method_50_code
def yJ9_floorMod_7cf53 : MethodName := ⟨RJ9, "floorMod", "(II)I"⟩
abbrev cJ9_max_7cf53 : ByteArray := prog_16_method_65_code
def yJ9_max_7cf53 : MethodName := ⟨RJ9, "max", "(II)I"⟩
abbrev cJ9_min_7cf53 : ByteArray := prog_16_method_69_code
def yJ9_min_7cf53 : MethodName := ⟨RJ9, "min", "(II)I"⟩
def RL : String := "FellersOrderLaw"
abbrev cL_law : ByteArray := code
def yL_law : MethodName := ⟨RL, "law", "([I)Z"⟩
def wsL_law_r1 : List Cond := [Cond.classLink RL 7 RX11, Cond.instantiable RX11 8, Cond.initialized RX11, Cond.classLink RL 10 RX12, Cond.instantiable RX12 27, Cond.initialized RX12, Cond.methodLink RL 9 yX11_init, Cond.instanceMethod yX11_init, Cond.code yX11_init cX11_init 2 none, Cond.methodLink RX11 1 objectInit, Cond.instanceMethod objectInit, Cond.code objectInit ⟨#[0xb1]⟩ 1 none, Cond.classLink RX11 7 RX10, Cond.instantiable RX10 10, Cond.initialized RX10, Cond.fieldLink RX11 10 "FellersOrder" "yard" "LFellersOrder$Yard;", Cond.classLink RX11 16 RX7, Cond.instantiable RX7 9, Cond.initialized RX7, Cond.fieldLink RX11 19 "FellersOrder" "plan" "LFellersOrder$Plan;", Cond.classLink RX11 23 RX6, Cond.instantiable RX6 2, Cond.initialized RX6, Cond.fieldLink RX11 26 "FellersOrder" "line" "LFellersOrder$Line;"]
def wsL_law_r2 : List Cond := [Cond.classLink RX11 30 RX2, Cond.instantiable RX2 6, Cond.initialized RX2, Cond.fieldLink RX11 33 "FellersOrder" "history" "LFellersOrder$History;", Cond.classLink RX11 37 RX0, Cond.instantiable RX0 6, Cond.initialized RX0, Cond.fieldLink RX11 40 "FellersOrder" "acting" "LFellersOrder$Acting;", Cond.classLink RX11 44 RX4, Cond.instantiable RX4 0, Cond.initialized RX4, Cond.classLink RX11 47 RX9, Cond.instantiable RX9 0, Cond.initialized RX9, Cond.classLink RX11 50 RX3, Cond.instantiable RX3 0, Cond.initialized RX3, Cond.classLink RX11 53 RX1, Cond.instantiable RX1 0, Cond.initialized RX1, Cond.classLink RX11 56 RX5, Cond.instantiable RX5 0, Cond.initialized RX5, Cond.fieldLink RX11 59 "FellersOrder" "kinds" "[LFellersOrder$JobKind;"]
def wsL_law_r3 : List Cond := [Cond.classLink RX11 63 RX8, Cond.fieldLink RX11 65 "FellersOrder" "sheets" "[LFellersOrder$Sheet;", Cond.instantiable RX8 3, Cond.initialized RX8, Cond.fieldLink RX11 70 "FellersOrder" "latest" "I", Cond.instanceMethod yX10_init, Cond.code yX10_init cX10_init 1 none, Cond.methodLink RX10 5 objectInit, Cond.classLink RX10 11 "[[I", Cond.arrayClass .int, Cond.fieldLink RX10 13 "FellersOrder$Yard" "measures" "[[I", Cond.fieldLink RX10 16 "FellersOrder$Yard" "laid" "[I", Cond.fieldLink RX10 20 "FellersOrder$Yard" "ahead" "[I", Cond.fieldLink RX10 23 "FellersOrder$Yard" "behind" "[I", Cond.fieldLink RX10 26 "FellersOrder$Yard" "lengths" "[I", Cond.fieldLink RX10 29 "FellersOrder$Yard" "weights" "[I", Cond.fieldLink RX10 32 "FellersOrder$Yard" "needs" "[I", Cond.instanceMethod yX7_init, Cond.code yX7_init cX7_init 1 none, Cond.methodLink RX7 3 objectInit, Cond.fieldLink RX7 9 "FellersOrder$Plan" "blockBits" "[I", Cond.fieldLink RX7 15 "FellersOrder$Plan" "blocksVersion" "I", Cond.fieldLink RX7 19 "FellersOrder$Plan" "costBehind" "[I", Cond.fieldLink RX7 22 "FellersOrder$Plan" "ordersBehind" "[I"]
def wsL_law_r4 : List Cond := [Cond.fieldLink RX7 25 "FellersOrder$Plan" "bestRow" "[I", Cond.fieldLink RX7 28 "FellersOrder$Plan" "ordersVersion" "I", Cond.fieldLink RX7 31 "FellersOrder$Plan" "sometimesBehind" "[I", Cond.fieldLink RX7 34 "FellersOrder$Plan" "standingVersion" "I", Cond.instanceMethod yX6_init, Cond.code yX6_init cX6_init 1 none, Cond.methodLink RX6 3 objectInit, Cond.fieldLink RX6 9 "FellersOrder$Line" "row" "[I", Cond.instanceMethod yX2_init, Cond.code yX2_init cX2_init 1 none, Cond.methodLink RX2 3 objectInit, Cond.fieldLink RX2 9 "FellersOrder$History" "change" "[I", Cond.fieldLink RX2 15 "FellersOrder$History" "first" "[I", Cond.fieldLink RX2 18 "FellersOrder$History" "second" "[I", Cond.fieldLink RX2 21 "FellersOrder$History" "former" "[I", Cond.instanceMethod yX0_init, Cond.code yX0_init cX0_init 1 none, Cond.methodLink RX0 3 objectInit, Cond.fieldLink RX0 9 "FellersOrder$Acting" "bodies" "[I", Cond.instanceMethod yX4_init, Cond.code yX4_init cX4_init 1 none, Cond.methodLink RX4 1 objectInit, Cond.instanceMethod yX9_init, Cond.code yX9_init cX9_init 1 none]
def wsL_law_r5 : List Cond := [Cond.instanceMethod yX3_init, Cond.code yX3_init cX3_init 1 none, Cond.instanceMethod yX1_init, Cond.code yX1_init cX1_init 1 none, Cond.instanceMethod yX5_init, Cond.code yX5_init cX5_init 1 none, Cond.instanceMethod yX8_init, Cond.code yX8_init cX8_init 1 none, Cond.methodLink RX8 3 objectInit, Cond.fieldLink RX8 9 "FellersOrder$Sheet" "numbers" "[I", Cond.fieldLink RX8 15 "FellersOrder$Sheet" "sort" "I", Cond.methodLink RL 12 yX12_init, Cond.instanceMethod yX12_init, Cond.code yX12_init cX12_init 2 none, Cond.methodLink RX12 1 objectInit, Cond.fieldLink RX12 7 "FellersOrderModel" "length" "[I", Cond.fieldLink RX12 13 "FellersOrderModel" "weight" "[I", Cond.fieldLink RX12 16 "FellersOrderModel" "moment" "[I", Cond.fieldLink RX12 19 "FellersOrderModel" "laid" "[I", Cond.fieldLink RX12 22 "FellersOrderModel" "must" "[I", Cond.fieldLink RX12 25 "FellersOrderModel" "order" "[I", Cond.fieldLink RX12 28 "FellersOrderModel" "wasJobs" "[I", Cond.fieldLink RX12 31 "FellersOrderModel" "was" "[I", Cond.fieldLink RX12 34 "FellersOrderModel" "sort" "[I"]
def wsL_law_r6 : List Cond := [Cond.fieldLink RX12 37 "FellersOrderModel" "size" "[I", Cond.arrayClass .long, Cond.fieldLink RX12 40 "FellersOrderModel" "cells" "[J", Cond.fieldLink RX12 44 "FellersOrderModel" "traced" "[I", Cond.fieldLink RX12 47 "FellersOrderModel" "setLength" "[I", Cond.fieldLink RX12 50 "FellersOrderModel" "forwards" "[I", Cond.fieldLink RX12 53 "FellersOrderModel" "ways" "[I", Cond.fieldLink RX12 56 "FellersOrderModel" "backwards" "[I", Cond.fieldLink RX12 59 "FellersOrderModel" "l" "[I", Cond.fieldLink RX12 62 "FellersOrderModel" "w" "[I", Cond.fieldLink RX12 65 "FellersOrderModel" "m" "[I", Cond.fieldLink RX12 68 "FellersOrderModel" "blockOf" "[I", Cond.methodLink RL 13 yX11_job, Cond.instanceMethod yX11_job, Cond.selects RX11 yX11_job yX11_job, Cond.code yX11_job cX11_job 3 (some .int), Cond.methodLink RX11 74 yX10_allows, Cond.static yX10_allows, Cond.code yX10_allows cX10_allows 2 (some .boolean), Cond.fieldLink RX10 35 "FellersOrder$Yard" "LOWEST" "[I", Cond.fieldLink RX10 38 "FellersOrder$Yard" "HIGHEST" "[I", Cond.methodLink RX11 78 yX11_refused, Cond.instanceMethod yX11_refused, Cond.selects RX11 yX11_refused yX11_refused]
def wsL_law_r7 : List Cond := [Cond.code yX11_refused cX11_refused 2 (some .int), Cond.methodLink RX11 82 yX10_isFull, Cond.instanceMethod yX10_isFull, Cond.selects RX10 yX10_isFull yX10_isFull, Cond.code yX10_isFull cX10_isFull 1 (some .boolean), Cond.fieldLink RX10 41 "FellersOrder$Yard" "jobs" "I", Cond.methodLink RX11 86 yX11_bringJob, Cond.instanceMethod yX11_bringJob, Cond.selects RX11 yX11_bringJob yX11_bringJob, Cond.code yX11_bringJob cX11_bringJob 4 (some .int), Cond.methodLink RX11 296 yX10_add, Cond.instanceMethod yX10_add, Cond.selects RX10 yX10_add yX10_add, Cond.code yX10_add cX10_add 4 (some .int), Cond.methodLink RX10 55 yX10_renew, Cond.instanceMethod yX10_renew, Cond.selects RX10 yX10_renew yX10_renew, Cond.code yX10_renew cX10_renew 1 none, Cond.fieldLink RX10 48 "FellersOrder$Yard" "version" "I", Cond.methodLink RX10 78 yX10_followLaid, Cond.instanceMethod yX10_followLaid, Cond.selects RX10 yX10_followLaid yX10_followLaid, Cond.code yX10_followLaid cX10_followLaid 3 none, Cond.static yX11_hasBit]
def wsL_law_r8 : List Cond := [Cond.code yX11_hasBit cX11_hasBit 2 (some .boolean), Cond.methodLink RX10 81 yX10_turnBehind, Cond.instanceMethod yX10_turnBehind, Cond.selects RX10 yX10_turnBehind yX10_turnBehind, Cond.code yX10_turnBehind cX10_turnBehind 4 none, Cond.methodLink RX10 84 yX10_sumHalf, Cond.instanceMethod yX10_sumHalf, Cond.selects RX10 yX10_sumHalf yX10_sumHalf, Cond.code yX10_sumHalf cX10_sumHalf 7 none, Cond.methodLink RX10 88 Lib.Math.max.name, Cond.static Lib.Math.max.name, Cond.initialized "java/lang/Math", Cond.code Lib.Math.max.name Lib.Math.max.code 2 (some .int), Cond.methodLink RX10 93 Lib.Math.min.name, Cond.static Lib.Math.min.name, Cond.code Lib.Math.min.name Lib.Math.min.code 2 (some .int), Cond.methodLink RX10 73 yJ6_numberOfTrailingZeros_0f7a4, Cond.static yJ6_numberOfTrailingZeros_0f7a4, Cond.initialized RJ6, Cond.code yJ6_numberOfTrailingZeros_0f7a4 cJ6_numberOfTrailingZeros_0f7a4 2 (some .int), Cond.constant RJ6 264 (65536), Cond.methodLink RX11 104 yX2_keep, Cond.instanceMethod yX2_keep, Cond.selects RX2 yX2_keep yX2_keep]
def wsL_law_r9 : List Cond := [Cond.code yX2_keep cX2_keep 5 none, Cond.fieldLink RX2 28 "FellersOrder$History" "next" "I", Cond.fieldLink RX2 24 "FellersOrder$History" "size" "I", Cond.methodLink RX2 31 Lib.Math.min.name, Cond.methodLink RX11 90 yX11_done, Cond.instanceMethod yX11_done, Cond.selects RX11 yX11_done yX11_done, Cond.code yX11_done cX11_done 2 (some .int), Cond.methodLink RL 17 yX12_job, Cond.instanceMethod yX12_job, Cond.selects RX12 yX12_job yX12_job, Cond.code yX12_job cX12_job 3 (some .int), Cond.fieldLink RX12 75 "FellersOrderModel" "jobs" "I", Cond.methodLink RX12 78 yX12_in, Cond.static yX12_in, Cond.code yX12_in cX12_in 3 (some .boolean), Cond.methodLink RX12 89 yX12_refused, Cond.instanceMethod yX12_refused, Cond.selects RX12 yX12_refused yX12_refused, Cond.code yX12_refused cX12_refused 2 (some .int), Cond.fieldLink RX12 71 "FellersOrderModel" "status" "I", Cond.methodLink RX12 102 yX12_made, Cond.instanceMethod yX12_made, Cond.selects RX12 yX12_made yX12_made]
def wsL_law_r10 : List Cond := [Cond.code yX12_made cX12_made 3 (some .int), Cond.methodLink RX12 99 yX12_keep, Cond.instanceMethod yX12_keep, Cond.selects RX12 yX12_keep yX12_keep, Cond.code yX12_keep cX12_keep 3 none, Cond.fieldLink RX12 86 "FellersOrderModel" "changes" "I", Cond.methodLink RX12 96 yX12_done, Cond.instanceMethod yX12_done, Cond.selects RX12 yX12_done yX12_done, Cond.code yX12_done cX12_done 2 (some .int), Cond.methodLink RL 18 yX11_set, Cond.instanceMethod yX11_set, Cond.selects RX11 yX11_set yX11_set, Cond.code yX11_set cX11_set 5 (some .int), Cond.methodLink RX11 93 yX10_has, Cond.instanceMethod yX10_has, Cond.selects RX10 yX10_has yX10_has, Cond.code yX10_has cX10_has 2 (some .boolean), Cond.methodLink RX11 97 yX10_measure, Cond.instanceMethod yX10_measure, Cond.selects RX10 yX10_measure yX10_measure, Cond.code yX10_measure cX10_measure 3 (some .int), Cond.methodLink RX11 100 yX10_measureAnew, Cond.instanceMethod yX10_measureAnew]
def wsL_law_r11 : List Cond := [Cond.selects RX10 yX10_measureAnew yX10_measureAnew, Cond.code yX10_measureAnew cX10_measureAnew 4 none, Cond.methodLink RL 22 yX12_set, Cond.instanceMethod yX12_set, Cond.selects RX12 yX12_set yX12_set, Cond.code yX12_set cX12_set 6 (some .int), Cond.methodLink RX12 106 yX12_isJob, Cond.instanceMethod yX12_isJob, Cond.selects RX12 yX12_isJob yX12_isJob, Cond.code yX12_isJob cX12_isJob 2 (some .boolean), Cond.methodLink RL 23 yX11_lay, Cond.instanceMethod yX11_lay, Cond.selects RX11 yX11_lay yX11_lay, Cond.code yX11_lay cX11_lay 3 (some .int), Cond.methodLink RX11 108 yX10_isLaid, Cond.instanceMethod yX10_isLaid, Cond.selects RX10 yX10_isLaid yX10_isLaid, Cond.code yX10_isLaid cX10_isLaid 3 (some .boolean), Cond.methodLink RX11 111 yX10_isAhead, Cond.instanceMethod yX10_isAhead, Cond.selects RX10 yX10_isAhead yX10_isAhead, Cond.code yX10_isAhead cX10_isAhead 3 (some .boolean), Cond.methodLink RX11 114 yX10_bind, Cond.instanceMethod yX10_bind]
def wsL_law_r12 : List Cond := [Cond.selects RX10 yX10_bind yX10_bind, Cond.code yX10_bind cX10_bind 3 none, Cond.fieldLink RX10 45 "FellersOrder$Yard" "laidPairs" "I", Cond.methodLink RL 26 yX12_lay, Cond.instanceMethod yX12_lay, Cond.selects RX12 yX12_lay yX12_lay, Cond.code yX12_lay cX12_lay 3 (some .int), Cond.methodLink RX12 110 yX12_close, Cond.instanceMethod yX12_close, Cond.selects RX12 yX12_close yX12_close, Cond.code yX12_close cX12_close 3 none, Cond.methodLink RX12 82 yX12_has, Cond.static yX12_has, Cond.code yX12_has cX12_has 2 (some .boolean), Cond.methodLink RL 27 yX11_free, Cond.instanceMethod yX11_free, Cond.selects RX11 yX11_free yX11_free, Cond.code yX11_free cX11_free 3 (some .int), Cond.methodLink RX11 118 yX10_unbind, Cond.instanceMethod yX10_unbind, Cond.selects RX10 yX10_unbind yX10_unbind, Cond.code yX10_unbind cX10_unbind 3 none, Cond.methodLink RL 30 yX12_free, Cond.instanceMethod yX12_free]
def wsL_law_r13 : List Cond := [Cond.selects RX12 yX12_free yX12_free, Cond.code yX12_free cX12_free 3 (some .int), Cond.methodLink RL 31 yX11_put, Cond.instanceMethod yX11_put, Cond.selects RX11 yX11_put yX11_put, Cond.code yX11_put cX11_put 2 (some .int), Cond.methodLink RX11 121 yX6_placeOf, Cond.instanceMethod yX6_placeOf, Cond.selects RX6 yX6_placeOf yX6_placeOf, Cond.code yX6_placeOf cX6_placeOf 3 (some .int), Cond.fieldLink RX6 15 "FellersOrder$Line" "size" "I", Cond.methodLink RX11 124 yX6_append, Cond.instanceMethod yX6_append, Cond.selects RX6 yX6_append yX6_append, Cond.code yX6_append cX6_append 2 none, Cond.methodLink RX11 128 yX6_size, Cond.instanceMethod yX6_size, Cond.selects RX6 yX6_size yX6_size, Cond.code yX6_size cX6_size 1 (some .int), Cond.methodLink RL 35 yX12_put, Cond.instanceMethod yX12_put, Cond.selects RX12 yX12_put yX12_put, Cond.code yX12_put cX12_put 2 (some .int), Cond.fieldLink RX12 93 "FellersOrderModel" "ordered" "I"]
def wsL_law_r14 : List Cond := [Cond.methodLink RX12 113 yX12_placeOf, Cond.instanceMethod yX12_placeOf, Cond.selects RX12 yX12_placeOf yX12_placeOf, Cond.code yX12_placeOf cX12_placeOf 3 (some .int), Cond.methodLink RL 36 yX11_clear, Cond.instanceMethod yX11_clear, Cond.selects RX11 yX11_clear yX11_clear, Cond.code yX11_clear cX11_clear 2 (some .int), Cond.methodLink RX11 132 yX6_empty, Cond.instanceMethod yX6_empty, Cond.selects RX6 yX6_empty yX6_empty, Cond.code yX6_empty cX6_empty 1 none, Cond.methodLink RL 40 yX12_clear, Cond.instanceMethod yX12_clear, Cond.selects RX12 yX12_clear yX12_clear, Cond.code yX12_clear cX12_clear 2 (some .int), Cond.methodLink RL 41 yX11_told, Cond.instanceMethod yX11_told, Cond.selects RX11 yX11_told yX11_told, Cond.code yX11_told cX11_told 3 (some .int), Cond.methodLink RX11 135 yX10_kindOf, Cond.instanceMethod yX10_kindOf, Cond.selects RX10 yX10_kindOf yX10_kindOf, Cond.code yX10_kindOf cX10_kindOf 2 (some .int)]
def wsL_law_r15 : List Cond := [Cond.methodLink RX11 138 yX10_aheadOf, Cond.instanceMethod yX10_aheadOf, Cond.selects RX10 yX10_aheadOf yX10_aheadOf, Cond.code yX10_aheadOf cX10_aheadOf 2 (some .int), Cond.methodLink RX11 141 yJ6_bitCount_0f7a4, Cond.static yJ6_bitCount_0f7a4, Cond.code yJ6_bitCount_0f7a4 cJ6_bitCount_0f7a4 1 (some .int), Cond.constant RJ6 265 (1431655765), Cond.constant RJ6 266 (858993459), Cond.constant RJ6 267 (252645135), Cond.methodLink RX11 146 yX10_behind, Cond.instanceMethod yX10_behind, Cond.selects RX10 yX10_behind yX10_behind, Cond.code yX10_behind cX10_behind 2 (some .int), Cond.methodLink RX11 149 yX7_blockOf, Cond.instanceMethod yX7_blockOf, Cond.selects RX7 yX7_blockOf yX7_blockOf, Cond.code yX7_blockOf cX7_blockOf 5 (some .int), Cond.methodLink RX7 50 yX7_blocks, Cond.instanceMethod yX7_blocks, Cond.selects RX7 yX7_blocks yX7_blocks, Cond.code yX7_blocks cX7_blocks 2 (some .int), Cond.fieldLink RX7 47 "FellersOrder$Plan" "blocks" "I", Cond.methodLink RX7 37 yX10_version]
def wsL_law_r16 : List Cond := [Cond.instanceMethod yX10_version, Cond.selects RX10 yX10_version yX10_version, Cond.code yX10_version cX10_version 1 (some .int), Cond.methodLink RX7 43 yX7_findBlocks, Cond.instanceMethod yX7_findBlocks, Cond.selects RX7 yX7_findBlocks yX7_findBlocks, Cond.code yX7_findBlocks cX7_findBlocks 4 none, Cond.methodLink RX7 63 yX10_everyJob, Cond.instanceMethod yX10_everyJob, Cond.selects RX10 yX10_everyJob yX10_everyJob, Cond.code yX10_everyJob cX10_everyJob 1 (some .int), Cond.methodLink RX7 66 yX7_findBlock, Cond.static yX7_findBlock, Cond.code yX7_findBlock cX7_findBlock 10 (some .int), Cond.methodLink RX7 70 yX10_lengthOf, Cond.instanceMethod yX10_lengthOf, Cond.selects RX10 yX10_lengthOf yX10_lengthOf, Cond.code yX10_lengthOf cX10_lengthOf 2 (some .int), Cond.methodLink RX7 74 yX10_weightOf, Cond.instanceMethod yX10_weightOf, Cond.selects RX10 yX10_weightOf yX10_weightOf, Cond.code yX10_weightOf cX10_weightOf 2 (some .int), Cond.methodLink RX7 77 yX10_isBeginning, Cond.instanceMethod yX10_isBeginning]
def wsL_law_r17 : List Cond := [Cond.selects RX10 yX10_isBeginning yX10_isBeginning, Cond.code yX10_isBeginning cX10_isBeginning 4 (some .boolean), Cond.methodLink RL 44 yX12_told, Cond.instanceMethod yX12_told, Cond.selects RX12 yX12_told yX12_told, Cond.code yX12_told cX12_told 3 (some .int), Cond.methodLink RX12 170 yX12_kindOf, Cond.instanceMethod yX12_kindOf, Cond.selects RX12 yX12_kindOf yX12_kindOf, Cond.code yX12_kindOf cX12_kindOf 2 (some .int), Cond.methodLink RX12 173 yX12_bits, Cond.static yX12_bits, Cond.code yX12_bits cX12_bits 3 (some .int), Cond.methodLink RX12 176 yX12_behindOf, Cond.instanceMethod yX12_behindOf, Cond.selects RX12 yX12_behindOf yX12_behindOf, Cond.code yX12_behindOf cX12_behindOf 4 (some .int), Cond.methodLink RX12 179 yX12_blockWith, Cond.instanceMethod yX12_blockWith, Cond.selects RX12 yX12_blockWith yX12_blockWith, Cond.code yX12_blockWith cX12_blockWith 3 (some .int), Cond.methodLink RX12 167 yX12_findBlocks, Cond.instanceMethod yX12_findBlocks, Cond.selects RX12 yX12_findBlocks yX12_findBlocks]
def wsL_law_r18 : List Cond := [Cond.code yX12_findBlocks cX12_findBlocks 2 none, Cond.fieldLink RX12 161 "FellersOrderModel" "blocks" "I", Cond.methodLink RX12 134 yX12_all, Cond.instanceMethod yX12_all, Cond.selects RX12 yX12_all yX12_all, Cond.code yX12_all cX12_all 1 (some .int), Cond.methodLink RX12 164 yX12_blockBehind, Cond.instanceMethod yX12_blockBehind, Cond.selects RX12 yX12_blockBehind yX12_blockBehind, Cond.code yX12_blockBehind cX12_blockBehind 5 (some .int), Cond.methodLink RX12 152 yX12_isBeginning, Cond.instanceMethod yX12_isBeginning, Cond.selects RX12 yX12_isBeginning yX12_isBeginning, Cond.code yX12_isBeginning cX12_isBeginning 5 (some .boolean), Cond.methodLink RX12 155 yX12_weightOf, Cond.instanceMethod yX12_weightOf, Cond.selects RX12 yX12_weightOf yX12_weightOf, Cond.code yX12_weightOf cX12_weightOf 4 (some .int), Cond.methodLink RX12 158 yX12_lengthOf, Cond.instanceMethod yX12_lengthOf, Cond.selects RX12 yX12_lengthOf yX12_lengthOf, Cond.code yX12_lengthOf cX12_lengthOf 4 (some .int), Cond.methodLink RL 45 yX11_ahead, Cond.instanceMethod yX11_ahead]
def wsL_law_r19 : List Cond := [Cond.selects RX11 yX11_ahead yX11_ahead, Cond.code yX11_ahead cX11_ahead 3 (some .int), Cond.methodLink RX11 153 yX11_asNumber, Cond.static yX11_asNumber, Cond.code yX11_asNumber cX11_asNumber 1 (some .int), Cond.methodLink RL 48 yX12_ahead, Cond.instanceMethod yX12_ahead, Cond.selects RX12 yX12_ahead yX12_ahead, Cond.code yX12_ahead cX12_ahead 3 (some .int), Cond.methodLink RL 49 yX11_count, Cond.instanceMethod yX11_count, Cond.selects RX11 yX11_count yX11_count, Cond.code yX11_count cX11_count 2 (some .int), Cond.methodLink RX11 157 yX10_jobs, Cond.instanceMethod yX10_jobs, Cond.selects RX10 yX10_jobs yX10_jobs, Cond.code yX10_jobs cX10_jobs 1 (some .int), Cond.methodLink RX11 160 yX10_laidPairs, Cond.instanceMethod yX10_laidPairs, Cond.selects RX10 yX10_laidPairs yX10_laidPairs, Cond.code yX10_laidPairs cX10_laidPairs 1 (some .int), Cond.methodLink RX11 163 yX7_blocks, Cond.methodLink RX11 167 yX10_beginnings, Cond.instanceMethod yX10_beginnings]
def wsL_law_r20 : List Cond := [Cond.selects RX10 yX10_beginnings yX10_beginnings, Cond.code yX10_beginnings cX10_beginnings 4 (some .int), Cond.methodLink RX10 58 yX10_everyJob, Cond.methodLink RX10 62 yX10_isBeginning, Cond.methodLink RX11 170 yX0_begun, Cond.instanceMethod yX0_begun, Cond.selects RX0 yX0_begun yX0_begun, Cond.code yX0_begun cX0_begun 1 (some .int), Cond.fieldLink RX0 15 "FellersOrder$Acting" "begun" "I", Cond.methodLink RX11 173 yX2_size, Cond.instanceMethod yX2_size, Cond.selects RX2 yX2_size yX2_size, Cond.code yX2_size cX2_size 1 (some .int), Cond.methodLink RL 52 yX12_count, Cond.instanceMethod yX12_count, Cond.selects RX12 yX12_count yX12_count, Cond.code yX12_count cX12_count 2 (some .int), Cond.fieldLink RX12 188 "FellersOrderModel" "traces" "I", Cond.methodLink RX12 182 yX12_pairs, Cond.instanceMethod yX12_pairs, Cond.selects RX12 yX12_pairs yX12_pairs, Cond.code yX12_pairs cX12_pairs 3 (some .int), Cond.methodLink RX12 185 yX12_beginnings, Cond.instanceMethod yX12_beginnings]
def wsL_law_r21 : List Cond := [Cond.selects RX12 yX12_beginnings yX12_beginnings, Cond.code yX12_beginnings cX12_beginnings 3 (some .int), Cond.methodLink RL 53 yX11_keeps, Cond.instanceMethod yX11_keeps, Cond.selects RX11 yX11_keeps yX11_keeps, Cond.code yX11_keeps cX11_keeps 1 (some .int), Cond.methodLink RX11 174 yX6_isKept, Cond.instanceMethod yX6_isKept, Cond.selects RX6 yX6_isKept yX6_isKept, Cond.code yX6_isKept cX6_isKept 2 (some .boolean), Cond.methodLink RX6 32 yX10_jobs, Cond.methodLink RX6 36 yX6_firstLacking, Cond.instanceMethod yX6_firstLacking, Cond.selects RX6 yX6_firstLacking yX6_firstLacking, Cond.code yX6_firstLacking cX6_firstLacking 3 (some .int), Cond.methodLink RX6 28 yX6_lackingAt, Cond.instanceMethod yX6_lackingAt, Cond.selects RX6 yX6_lackingAt yX6_lackingAt, Cond.code yX6_lackingAt cX6_lackingAt 3 (some .int), Cond.methodLink RX6 19 yX10_aheadOf, Cond.methodLink RX6 25 yX6_bitsBefore, Cond.instanceMethod yX6_bitsBefore, Cond.selects RX6 yX6_bitsBefore yX6_bitsBefore, Cond.code yX6_bitsBefore cX6_bitsBefore 4 (some .int)]
def wsL_law_r22 : List Cond := [Cond.methodLink RL 56 yX12_keeps, Cond.instanceMethod yX12_keeps, Cond.selects RX12 yX12_keeps yX12_keeps, Cond.code yX12_keeps cX12_keeps 1 (some .int), Cond.fieldLink RX12 116 "FellersOrderModel" "lacks" "I", Cond.methodLink RX12 119 yX12_lacking, Cond.instanceMethod yX12_lacking, Cond.selects RX12 yX12_lacking yX12_lacking, Cond.code yX12_lacking cX12_lacking 4 (some .int), Cond.methodLink RL 57 yX11_why, Cond.instanceMethod yX11_why, Cond.selects RX11 yX11_why yX11_why, Cond.code yX11_why cX11_why 4 (some .int), Cond.methodLink RX11 178 yX6_firstLacking, Cond.methodLink RX11 181 yX6_jobAt, Cond.instanceMethod yX6_jobAt, Cond.selects RX6 yX6_jobAt yX6_jobAt, Cond.code yX6_jobAt cX6_jobAt 2 (some .int), Cond.methodLink RX11 184 yX10_everyJob, Cond.methodLink RX11 187 yX6_bitsBefore, Cond.methodLink RX11 190 yX6_lackingAt, Cond.methodLink RX11 193 yJ6_numberOfTrailingZeros_0f7a4, Cond.methodLink RL 60 yX12_why, Cond.instanceMethod yX12_why]
def wsL_law_r23 : List Cond := [Cond.selects RX12 yX12_why yX12_why, Cond.code yX12_why cX12_why 3 (some .int), Cond.methodLink RX12 123 yX12_lowest, Cond.static yX12_lowest, Cond.code yX12_lowest cX12_lowest 2 (some .int), Cond.methodLink RL 61 yX11_cost, Cond.instanceMethod yX11_cost, Cond.selects RX11 yX11_cost yX11_cost, Cond.code yX11_cost cX11_cost 1 (some .int), Cond.methodLink RX11 196 yX6_weightedWaiting, Cond.instanceMethod yX6_weightedWaiting, Cond.selects RX6 yX6_weightedWaiting yX6_weightedWaiting, Cond.code yX6_weightedWaiting cX6_weightedWaiting 6 (some .int), Cond.methodLink RX6 44 Lib.Math.max.name, Cond.methodLink RX6 40 yX10_measure, Cond.methodLink RL 64 yX12_cost, Cond.instanceMethod yX12_cost, Cond.selects RX12 yX12_cost yX12_cost, Cond.code yX12_cost cX12_cost 5 (some .int), Cond.methodLink RL 65 yX11_swap, Cond.instanceMethod yX11_swap, Cond.selects RX11 yX11_swap yX11_swap, Cond.code yX11_swap cX11_swap 4 (some .int), Cond.constant RX11 199 (-1000000000)]
def wsL_law_r24 : List Cond := [Cond.methodLink RX11 200 yX6_exchange, Cond.instanceMethod yX6_exchange, Cond.selects RX6 yX6_exchange yX6_exchange, Cond.code yX6_exchange cX6_exchange 3 none, Cond.methodLink RL 68 yX12_swap, Cond.instanceMethod yX12_swap, Cond.selects RX12 yX12_swap yX12_swap, Cond.code yX12_swap cX12_swap 4 (some .int), Cond.constant RX12 126 (-1000000000), Cond.methodLink RX12 127 yX12_cost, Cond.methodLink RX12 130 yX12_change, Cond.instanceMethod yX12_change, Cond.selects RX12 yX12_change yX12_change, Cond.code yX12_change cX12_change 3 none, Cond.methodLink RL 69 yX11_block, Cond.instanceMethod yX11_block, Cond.selects RX11 yX11_block yX11_block, Cond.code yX11_block cX11_block 4 (some .int), Cond.methodLink RX11 203 yX7_blockBits, Cond.instanceMethod yX7_blockBits, Cond.selects RX7 yX7_blockBits yX7_blockBits, Cond.code yX7_blockBits cX7_blockBits 2 (some .int), Cond.methodLink RX11 206 yX10_weightOf, Cond.methodLink RX11 209 yX10_lengthOf]
def wsL_law_r25 : List Cond := [Cond.methodLink RL 72 yX12_block, Cond.instanceMethod yX12_block, Cond.selects RX12 yX12_block yX12_block, Cond.code yX12_block cX12_block 3 (some .int), Cond.methodLink RL 73 yX11_least, Cond.instanceMethod yX11_least, Cond.selects RX11 yX11_least yX11_least, Cond.code yX11_least cX11_least 1 (some .int), Cond.methodLink RX11 212 yX7_leastCost, Cond.instanceMethod yX7_leastCost, Cond.selects RX7 yX7_leastCost yX7_leastCost, Cond.code yX7_leastCost cX7_leastCost 2 (some .int), Cond.methodLink RX7 57 yX7_findOrders, Cond.instanceMethod yX7_findOrders, Cond.selects RX7 yX7_findOrders yX7_findOrders, Cond.code yX7_findOrders cX7_findOrders 4 none, Cond.constant RX7 84 (1000000000), Cond.methodLink RX7 80 yX7_goOnFrom, Cond.instanceMethod yX7_goOnFrom, Cond.selects RX7 yX7_goOnFrom yX7_goOnFrom, Cond.code yX7_goOnFrom cX7_goOnFrom 10 none, Cond.methodLink RX7 88 yX10_jobs, Cond.methodLink RX7 91 yX10_mayComeNext, Cond.instanceMethod yX10_mayComeNext]
def wsL_law_r26 : List Cond := [Cond.selects RX10 yX10_mayComeNext yX10_mayComeNext, Cond.code yX10_mayComeNext cX10_mayComeNext 3 (some .boolean), Cond.methodLink RX7 94 yX10_costNext, Cond.instanceMethod yX10_costNext, Cond.selects RX10 yX10_costNext yX10_costNext, Cond.code yX10_costNext cX10_costNext 3 (some .int), Cond.methodLink RX7 85 yX7_readBestRow, Cond.instanceMethod yX7_readBestRow, Cond.selects RX7 yX7_readBestRow yX7_readBestRow, Cond.code yX7_readBestRow cX7_readBestRow 5 none, Cond.methodLink RX7 98 yX7_leastBestNext, Cond.instanceMethod yX7_leastBestNext, Cond.selects RX7 yX7_leastBestNext yX7_leastBestNext, Cond.code yX7_leastBestNext cX7_leastBestNext 4 (some .int), Cond.methodLink RX7 101 yX7_isBestNext, Cond.instanceMethod yX7_isBestNext, Cond.selects RX7 yX7_isBestNext yX7_isBestNext, Cond.code yX7_isBestNext cX7_isBestNext 4 (some .boolean), Cond.methodLink RL 76 yX12_least, Cond.instanceMethod yX12_least, Cond.selects RX12 yX12_least yX12_least, Cond.code yX12_least cX12_least 1 (some .int), Cond.methodLink RX12 149 yX12_look, Cond.instanceMethod yX12_look]
def wsL_law_r27 : List Cond := [Cond.selects RX12 yX12_look yX12_look, Cond.code yX12_look cX12_look 1 none, Cond.methodLink RX12 142 yX12_yard, Cond.instanceMethod yX12_yard, Cond.selects RX12 yX12_yard yX12_yard, Cond.code yX12_yard cX12_yard 4 none, Cond.methodLink RX12 146 yX12_layAll, Cond.instanceMethod yX12_layAll, Cond.selects RX12 yX12_layAll yX12_layAll, Cond.code yX12_layAll cX12_layAll 5 none, Cond.constant RX12 137 (2000000000), Cond.methodLink RX12 138 yX12_goes, Cond.instanceMethod yX12_goes, Cond.selects RX12 yX12_goes yX12_goes, Cond.code yX12_goes cX12_goes 4 none, Cond.methodLink RL 77 yX11_best, Cond.instanceMethod yX11_best, Cond.selects RX11 yX11_best yX11_best, Cond.code yX11_best cX11_best 2 (some .int), Cond.methodLink RX11 215 yX7_bestAt, Cond.instanceMethod yX7_bestAt, Cond.selects RX7 yX7_bestAt yX7_bestAt, Cond.code yX7_bestAt cX7_bestAt 3 (some .int), Cond.methodLink RL 80 yX12_best]
def wsL_law_r28 : List Cond := [Cond.instanceMethod yX12_best, Cond.selects RX12 yX12_best yX12_best, Cond.code yX12_best cX12_best 8 (some .int), Cond.methodLink RL 81 yX11_many, Cond.instanceMethod yX11_many, Cond.selects RX11 yX11_many yX11_many, Cond.code yX11_many cX11_many 1 (some .int), Cond.methodLink RX11 218 yX7_bestOrders, Cond.instanceMethod yX7_bestOrders, Cond.selects RX7 yX7_bestOrders yX7_bestOrders, Cond.code yX7_bestOrders cX7_bestOrders 2 (some .int), Cond.methodLink RL 84 yX12_many, Cond.instanceMethod yX12_many, Cond.selects RX12 yX12_many yX12_many, Cond.code yX12_many cX12_many 1 (some .int), Cond.methodLink RL 85 yX11_fixed, Cond.instanceMethod yX11_fixed, Cond.selects RX11 yX11_fixed yX11_fixed, Cond.code yX11_fixed cX11_fixed 3 (some .int), Cond.methodLink RX11 221 yX7_mayStandAhead, Cond.instanceMethod yX7_mayStandAhead, Cond.selects RX7 yX7_mayStandAhead yX7_mayStandAhead, Cond.code yX7_mayStandAhead cX7_mayStandAhead 4 (some .boolean), Cond.methodLink RX7 60 yX7_findStanding]
def wsL_law_r29 : List Cond := [Cond.instanceMethod yX7_findStanding, Cond.selects RX7 yX7_findStanding yX7_findStanding, Cond.code yX7_findStanding cX7_findStanding 4 none, Cond.methodLink RX7 105 yX7_beginsBestOrder, Cond.instanceMethod yX7_beginsBestOrder, Cond.selects RX7 yX7_beginsBestOrder yX7_beginsBestOrder, Cond.code yX7_beginsBestOrder cX7_beginsBestOrder 5 (some .boolean), Cond.methodLink RX7 109 yX7_noteStanding, Cond.instanceMethod yX7_noteStanding, Cond.selects RX7 yX7_noteStanding yX7_noteStanding, Cond.code yX7_noteStanding cX7_noteStanding 6 none, Cond.methodLink RL 88 yX12_fixed, Cond.instanceMethod yX12_fixed, Cond.selects RX12 yX12_fixed yX12_fixed, Cond.code yX12_fixed cX12_fixed 6 (some .int), Cond.methodLink RL 89 yX11_series, Cond.instanceMethod yX11_series, Cond.selects RX11 yX11_series yX11_series, Cond.code yX11_series cX11_series 1 (some .int), Cond.methodLink RX11 225 yX10_findCrossing, Cond.instanceMethod yX10_findCrossing, Cond.selects RX10 yX10_findCrossing yX10_findCrossing, Cond.code yX10_findCrossing cX10_findCrossing 4 (some .int), Cond.methodLink RX10 65 yX10_unbound]
def wsL_law_r30 : List Cond := [Cond.instanceMethod yX10_unbound, Cond.selects RX10 yX10_unbound yX10_unbound, Cond.code yX10_unbound cX10_unbound 2 (some .int), Cond.methodLink RX10 69 yX10_findEnds, Cond.instanceMethod yX10_findEnds, Cond.selects RX10 yX10_findEnds yX10_findEnds, Cond.code yX10_findEnds cX10_findEnds 5 (some .int), Cond.methodLink RL 92 yX12_series, Cond.instanceMethod yX12_series, Cond.selects RX12 yX12_series yX12_series, Cond.code yX12_series cX12_series 1 (some .int), Cond.methodLink RX12 194 yX12_four, Cond.instanceMethod yX12_four, Cond.selects RX12 yX12_four yX12_four, Cond.code yX12_four cX12_four 6 (some .int), Cond.methodLink RX12 191 yX12_apart, Cond.instanceMethod yX12_apart, Cond.selects RX12 yX12_apart yX12_apart, Cond.code yX12_apart cX12_apart 3 (some .boolean), Cond.methodLink RL 93 yX11_shows, Cond.instanceMethod yX11_shows, Cond.selects RX11 yX11_shows yX11_shows, Cond.code yX11_shows cX11_shows 3 (some .int), Cond.methodLink RX11 228 yX10_jobOfCrossing]
def wsL_law_r31 : List Cond := [Cond.static yX10_jobOfCrossing, Cond.code yX10_jobOfCrossing cX10_jobOfCrossing 2 (some .int), Cond.methodLink RL 96 yX12_shows, Cond.instanceMethod yX12_shows, Cond.selects RX12 yX12_shows yX12_shows, Cond.code yX12_shows cX12_shows 3 (some .int), Cond.methodLink RL 97 yX11_turned, Cond.instanceMethod yX11_turned, Cond.selects RX11 yX11_turned yX11_turned, Cond.code yX11_turned cX11_turned 2 (some .int), Cond.methodLink RL 100 yX12_turned, Cond.instanceMethod yX12_turned, Cond.selects RX12 yX12_turned yX12_turned, Cond.code yX12_turned cX12_turned 2 (some .int), Cond.methodLink RL 101 yX11_act, Cond.instanceMethod yX11_act, Cond.selects RX11 yX11_act yX11_act, Cond.code yX11_act cX11_act 5 (some .int), Cond.methodLink RX11 231 yX0_take, Cond.instanceMethod yX0_take, Cond.selects RX0 yX0_take yX0_take, Cond.code yX0_take cX0_take 3 none, Cond.fieldLink RX0 25 "FellersOrder$Acting" "length" "I", Cond.fieldLink RX0 28 "FellersOrder$Acting" "weight" "I"]
def wsL_law_r32 : List Cond := [Cond.fieldLink RX0 31 "FellersOrder$Acting" "moment" "I", Cond.fieldLink RX0 43 "FellersOrder$Acting" "ahead" "I", Cond.methodLink RX0 19 yX10_measure, Cond.methodLink RX0 34 yX10_aheadOf, Cond.methodLink RX0 38 yJ6_bitCount_0f7a4, Cond.methodLink RX11 235 ⟨"FellersOrder$JobKind", "last", "(LFellersOrder$Acting;I)I"⟩, Cond.sameMethod "FellersOrder$JobKind" "FellersOrder$JobKind" "last" "(LFellersOrder$Acting;I)I", Cond.instanceMethod ⟨"FellersOrder$JobKind", "last", "(LFellersOrder$Acting;I)I"⟩, Cond.selects RX1 ⟨"FellersOrder$JobKind", "last", "(LFellersOrder$Acting;I)I"⟩ yX1_last, Cond.instanceMethod yX1_last, Cond.code yX1_last cX1_last 3 (some .int), Cond.methodLink RX1 7 yX0_begin, Cond.instanceMethod yX0_begin, Cond.selects RX0 yX0_begin yX0_begin, Cond.code yX0_begin cX0_begin 2 none, Cond.methodLink RX1 17 yX9_last, Cond.sameMethod "FellersOrder$UnitKind" "FellersOrder$UnitKind" "last" "(LFellersOrder$Acting;I)I", Cond.superclass RX1 RX9, Cond.instanceMethod yX9_last, Cond.code yX9_last cX9_last 3 (some .int), Cond.methodLink RX9 7 yX0_begin, Cond.methodLink RX9 13 yX4_last, Cond.superclass RX9 RX4, Cond.instanceMethod yX4_last]
def wsL_law_r33 : List Cond := [Cond.code yX4_last cX4_last 3 (some .int), Cond.methodLink RX4 7 yX0_begin, Cond.selects RX3 ⟨"FellersOrder$JobKind", "last", "(LFellersOrder$Acting;I)I"⟩ yX4_last, Cond.methodLink RX11 235 yX4_last, Cond.selects RX4 yX4_last yX4_last, Cond.selects RX5 ⟨"FellersOrder$JobKind", "last", "(LFellersOrder$Acting;I)I"⟩ yX5_last, Cond.instanceMethod yX5_last, Cond.code yX5_last cX5_last 3 (some .int), Cond.methodLink RX5 7 yX0_begin, Cond.methodLink RX5 17 yX4_last, Cond.superclass RX5 RX4, Cond.selects RX9 ⟨"FellersOrder$JobKind", "last", "(LFellersOrder$Acting;I)I"⟩ yX9_last, Cond.methodLink RX11 239 ⟨"FellersOrder$JobKind", "weigh", "(LFellersOrder$Acting;I)I"⟩, Cond.sameMethod "FellersOrder$JobKind" "FellersOrder$JobKind" "weigh" "(LFellersOrder$Acting;I)I", Cond.selects RX1 ⟨"FellersOrder$JobKind", "weigh", "(LFellersOrder$Acting;I)I"⟩ yX4_weigh, Cond.instanceMethod yX4_weigh, Cond.code yX4_weigh cX4_weigh 3 (some .int), Cond.methodLink RX4 17 ⟨"FellersOrder$JobKind", "last", "(LFellersOrder$Acting;I)I"⟩, Cond.methodLink RX4 17 yX4_last, Cond.instanceMethod ⟨"FellersOrder$JobKind", "weigh", "(LFellersOrder$Acting;I)I"⟩, Cond.selects RX3 ⟨"FellersOrder$JobKind", "weigh", "(LFellersOrder$Acting;I)I"⟩ yX3_weigh, Cond.instanceMethod yX3_weigh, Cond.code yX3_weigh cX3_weigh 3 (some .int), Cond.methodLink RX3 7 yX0_begin]
def wsL_law_r34 : List Cond := [Cond.methodLink RX3 13 yX4_weigh, Cond.superclass RX3 RX4, Cond.methodLink RX11 239 yX4_weigh, Cond.selects RX4 yX4_weigh yX4_weigh, Cond.selects RX5 ⟨"FellersOrder$JobKind", "weigh", "(LFellersOrder$Acting;I)I"⟩ yX4_weigh, Cond.selects RX9 ⟨"FellersOrder$JobKind", "weigh", "(LFellersOrder$Acting;I)I"⟩ yX4_weigh, Cond.methodLink RX11 242 ⟨"FellersOrder$JobKind", "follow", "(LFellersOrder$Acting;I)I"⟩, Cond.sameMethod "FellersOrder$JobKind" "FellersOrder$JobKind" "follow" "(LFellersOrder$Acting;I)I", Cond.instanceMethod ⟨"FellersOrder$JobKind", "follow", "(LFellersOrder$Acting;I)I"⟩, Cond.selects RX1 ⟨"FellersOrder$JobKind", "follow", "(LFellersOrder$Acting;I)I"⟩ yX1_follow, Cond.instanceMethod yX1_follow, Cond.code yX1_follow cX1_follow 3 (some .int), Cond.code yX4_follow cX4_follow 3 (some .int), Cond.selects RX3 ⟨"FellersOrder$JobKind", "follow", "(LFellersOrder$Acting;I)I"⟩ yX4_follow, Cond.instanceMethod yX4_follow, Cond.methodLink RX11 242 yX4_follow, Cond.selects RX4 yX4_follow yX4_follow, Cond.selects RX5 ⟨"FellersOrder$JobKind", "follow", "(LFellersOrder$Acting;I)I"⟩ yX4_follow, Cond.selects RX9 ⟨"FellersOrder$JobKind", "follow", "(LFellersOrder$Acting;I)I"⟩ yX4_follow, Cond.methodLink RX11 245 ⟨"FellersOrder$JobKind", "tell", "(LFellersOrder$Acting;I)I"⟩, Cond.sameMethod "FellersOrder$JobKind" "FellersOrder$JobKind" "tell" "(LFellersOrder$Acting;I)I", Cond.instanceMethod ⟨"FellersOrder$JobKind", "tell", "(LFellersOrder$Acting;I)I"⟩, Cond.selects RX1 ⟨"FellersOrder$JobKind", "tell", "(LFellersOrder$Acting;I)I"⟩ yX9_tell, Cond.instanceMethod yX9_tell]
def wsL_law_r35 : List Cond := [Cond.code yX9_tell cX9_tell 3 (some .int), Cond.methodLink RX9 17 yX4_tell, Cond.instanceMethod yX4_tell, Cond.code yX4_tell cX4_tell 3 (some .int), Cond.methodLink RX4 29 ⟨"FellersOrder$JobKind", "weigh", "(LFellersOrder$Acting;I)I"⟩, Cond.methodLink RX4 29 yX4_weigh, Cond.methodLink RX4 32 ⟨"FellersOrder$JobKind", "follow", "(LFellersOrder$Acting;I)I"⟩, Cond.methodLink RX4 32 yX4_follow, Cond.selects RX3 ⟨"FellersOrder$JobKind", "tell", "(LFellersOrder$Acting;I)I"⟩ yX4_tell, Cond.methodLink RX11 245 yX4_tell, Cond.selects RX4 yX4_tell yX4_tell, Cond.selects RX5 ⟨"FellersOrder$JobKind", "tell", "(LFellersOrder$Acting;I)I"⟩ yX5_tell, Cond.instanceMethod yX5_tell, Cond.code yX5_tell cX5_tell 3 (some .int), Cond.methodLink RX5 21 ⟨"FellersOrder$LateKind", "follow", "(LFellersOrder$Acting;I)I"⟩, Cond.sameMethod "FellersOrder$LateKind" "FellersOrder$JobKind" "follow" "(LFellersOrder$Acting;I)I", Cond.selects RX5 ⟨"FellersOrder$LateKind", "follow", "(LFellersOrder$Acting;I)I"⟩ yX4_follow, Cond.methodLink RX5 26 yX4_tell, Cond.selects RX9 ⟨"FellersOrder$JobKind", "tell", "(LFellersOrder$Acting;I)I"⟩ yX9_tell, Cond.methodLink RL 104 yX12_act, Cond.instanceMethod yX12_act, Cond.selects RX12 yX12_act yX12_act, Cond.code yX12_act cX12_act 5 (some .int), Cond.methodLink RX12 209 yX12_last]
def wsL_law_r36 : List Cond := [Cond.instanceMethod yX12_last, Cond.selects RX12 yX12_last yX12_last, Cond.code yX12_last cX12_last 5 (some .int), Cond.methodLink RX12 203 yX12_unitLast, Cond.instanceMethod yX12_unitLast, Cond.selects RX12 yX12_unitLast yX12_unitLast, Cond.code yX12_unitLast cX12_unitLast 3 (some .int), Cond.methodLink RX12 197 yX12_ran, Cond.instanceMethod yX12_ran, Cond.selects RX12 yX12_ran yX12_ran, Cond.code yX12_ran cX12_ran 2 none, Cond.methodLink RX12 200 yX12_jobLast, Cond.instanceMethod yX12_jobLast, Cond.selects RX12 yX12_jobLast yX12_jobLast, Cond.code yX12_jobLast cX12_jobLast 3 (some .int), Cond.methodLink RX12 206 yX12_jobFollow, Cond.instanceMethod yX12_jobFollow, Cond.selects RX12 yX12_jobFollow yX12_jobFollow, Cond.code yX12_jobFollow cX12_jobFollow 3 (some .int), Cond.methodLink RX12 213 yX12_weigh, Cond.instanceMethod yX12_weigh, Cond.selects RX12 yX12_weigh yX12_weigh, Cond.code yX12_weigh cX12_weigh 5 (some .int), Cond.methodLink RX12 216 yX12_follow]
def wsL_law_r37 : List Cond := [Cond.instanceMethod yX12_follow, Cond.selects RX12 yX12_follow yX12_follow, Cond.code yX12_follow cX12_follow 4 (some .int), Cond.methodLink RX12 222 yX12_tell, Cond.instanceMethod yX12_tell, Cond.selects RX12 yX12_tell yX12_tell, Cond.code yX12_tell cX12_tell 5 (some .int), Cond.methodLink RX12 219 yX12_jobTell, Cond.instanceMethod yX12_jobTell, Cond.selects RX12 yX12_jobTell yX12_jobTell, Cond.code yX12_jobTell cX12_jobTell 5 (some .int), Cond.methodLink RL 105 yX11_trace, Cond.instanceMethod yX11_trace, Cond.selects RX11 yX11_trace yX11_trace, Cond.code yX11_trace cX11_trace 2 (some .int), Cond.methodLink RX11 248 yX0_bodyAt, Cond.instanceMethod yX0_bodyAt, Cond.selects RX0 yX0_bodyAt yX0_bodyAt, Cond.code yX0_bodyAt cX0_bodyAt 2 (some .int), Cond.methodLink RL 108 yX12_trace, Cond.instanceMethod yX12_trace, Cond.selects RX12 yX12_trace yX12_trace, Cond.code yX12_trace cX12_trace 2 (some .int), Cond.methodLink RL 109 yX11_sheet]
def wsL_law_r38 : List Cond := [Cond.instanceMethod yX11_sheet, Cond.selects RX11 yX11_sheet yX11_sheet, Cond.code yX11_sheet cX11_sheet 4 (some .int), Cond.methodLink RX11 251 yX11_isSheet, Cond.static yX11_isSheet, Cond.code yX11_isSheet cX11_isSheet 1 (some .boolean), Cond.methodLink RX11 254 yX8_remove, Cond.instanceMethod yX8_remove, Cond.selects RX8 yX8_remove yX8_remove, Cond.code yX8_remove cX8_remove 1 none, Cond.fieldLink RX8 19 "FellersOrder$Sheet" "size" "I", Cond.methodLink RX11 257 yX8_make, Cond.instanceMethod yX8_make, Cond.selects RX8 yX8_make yX8_make, Cond.code yX8_make cX8_make 4 none, Cond.methodLink RL 112 yX12_sheet, Cond.instanceMethod yX12_sheet, Cond.selects RX12 yX12_sheet yX12_sheet, Cond.code yX12_sheet cX12_sheet 5 (some .int), Cond.methodLink RL 113 yX11_cell, Cond.instanceMethod yX11_cell, Cond.selects RX11 yX11_cell yX11_cell, Cond.code yX11_cell cX11_cell 5 (some .int), Cond.methodLink RX11 260 yX8_isMissing]
def wsL_law_r39 : List Cond := [Cond.instanceMethod yX8_isMissing, Cond.selects RX8 yX8_isMissing yX8_isMissing, Cond.code yX8_isMissing cX8_isMissing 1 (some .boolean), Cond.methodLink RX11 263 yX8_size, Cond.instanceMethod yX8_size, Cond.selects RX8 yX8_size yX8_size, Cond.code yX8_size cX8_size 1 (some .int), Cond.methodLink RX11 264 yX8_write, Cond.instanceMethod yX8_write, Cond.selects RX8 yX8_write yX8_write, Cond.code yX8_write cX8_write 3 none, Cond.methodLink RL 116 yX12_cell, Cond.instanceMethod yX12_cell, Cond.selects RX12 yX12_cell yX12_cell, Cond.code yX12_cell cX12_cell 4 (some .int), Cond.methodLink RL 117 yX11_fromSheet, Cond.instanceMethod yX11_fromSheet, Cond.selects RX11 yX11_fromSheet yX11_fromSheet, Cond.code yX11_fromSheet cX11_fromSheet 8 (some .int), Cond.methodLink RX11 267 yX8_refusalAs, Cond.instanceMethod yX8_refusalAs, Cond.selects RX8 yX8_refusalAs yX8_refusalAs, Cond.code yX8_refusalAs cX8_refusalAs 2 (some .int), Cond.methodLink RX8 22 yX8_isMissing]
def wsL_law_r40 : List Cond := [Cond.methodLink RX8 26 yX8_isOfSort, Cond.instanceMethod yX8_isOfSort, Cond.selects RX8 yX8_isOfSort yX8_isOfSort, Cond.code yX8_isOfSort cX8_isOfSort 2 (some .boolean), Cond.methodLink RX11 270 yX8_numberAt, Cond.instanceMethod yX8_numberAt, Cond.selects RX8 yX8_numberAt yX8_numberAt, Cond.code yX8_numberAt cX8_numberAt 2 (some .int), Cond.methodLink RL 120 yX12_fromSheet, Cond.instanceMethod yX12_fromSheet, Cond.selects RX12 yX12_fromSheet yX12_fromSheet, Cond.code yX12_fromSheet cX12_fromSheet 8 (some .int), Cond.constantLong RX12 225 (100), Cond.methodLink RL 121 yX11_forge, Cond.instanceMethod yX11_forge, Cond.selects RX11 yX11_forge yX11_forge, Cond.code yX11_forge cX11_forge 5 (some .int), Cond.methodLink RX11 273 yJ9_floorMod_7cf53, Cond.static yJ9_floorMod_7cf53, Cond.initialized RJ9, Cond.code yJ9_floorMod_7cf53 cJ9_floorMod_7cf53 3 (some .int), Cond.methodLink RX11 278 yX11_forgeSize, Cond.instanceMethod yX11_forgeSize, Cond.selects RX11 yX11_forgeSize yX11_forgeSize]
def wsL_law_r41 : List Cond := [Cond.code yX11_forgeSize cX11_forgeSize 4 (some .int), Cond.methodLink RX11 282 yX11_forgeCopy, Cond.instanceMethod yX11_forgeCopy, Cond.selects RX11 yX11_forgeCopy yX11_forgeCopy, Cond.code yX11_forgeCopy cX11_forgeCopy 4 (some .int), Cond.methodLink RX11 299 yX8_sumFrom, Cond.instanceMethod yX8_sumFrom, Cond.selects RX8 yX8_sumFrom yX8_sumFrom, Cond.code yX8_sumFrom cX8_sumFrom 5 (some .int), Cond.methodLink RX11 285 yX11_forgeLaying, Cond.instanceMethod yX11_forgeLaying, Cond.selects RX11 yX11_forgeLaying yX11_forgeLaying, Cond.code yX11_forgeLaying cX11_forgeLaying 2 (some .int), Cond.methodLink RX11 302 yX8_isOfSort, Cond.methodLink RX11 289 yX11_forgeUnit, Cond.instanceMethod yX11_forgeUnit, Cond.selects RX11 yX11_forgeUnit yX11_forgeUnit, Cond.code yX11_forgeUnit cX11_forgeUnit 2 (some .int), Cond.classLink RX11 47 "FellersOrder$UnitKind", Cond.methodLink RL 124 yX12_forge, Cond.instanceMethod yX12_forge, Cond.selects RX12 yX12_forge yX12_forge, Cond.code yX12_forge cX12_forge 5 (some .int), Cond.methodLink RX12 227 yX12_sum]
def wsL_law_r42 : List Cond := [Cond.instanceMethod yX12_sum, Cond.selects RX12 yX12_sum yX12_sum, Cond.code yX12_sum cX12_sum 5 (some .int), Cond.methodLink RX12 230 yX12_unitTaken, Cond.instanceMethod yX12_unitTaken, Cond.selects RX12 yX12_unitTaken yX12_unitTaken, Cond.code yX12_unitTaken cX12_unitTaken 4 (some .int), Cond.methodLink RL 125 yX11_undo, Cond.instanceMethod yX11_undo, Cond.selects RX11 yX11_undo yX11_undo, Cond.code yX11_undo cX11_undo 1 (some .int), Cond.methodLink RX11 292 yX2_takeBack, Cond.instanceMethod yX2_takeBack, Cond.selects RX2 yX2_takeBack yX2_takeBack, Cond.code yX2_takeBack cX2_takeBack 2 none, Cond.methodLink RX2 37 yX10_removeLast, Cond.instanceMethod yX10_removeLast, Cond.selects RX10 yX10_removeLast yX10_removeLast, Cond.code yX10_removeLast cX10_removeLast 1 none, Cond.methodLink RX2 42 yX10_measureAnew, Cond.methodLink RX2 46 yX10_unbind, Cond.methodLink RX2 50 yX10_bind, Cond.methodLink RL 128 yX12_undo, Cond.instanceMethod yX12_undo]
def wsL_law_r43 : List Cond := [Cond.selects RX12 yX12_undo yX12_undo, Cond.code yX12_undo cX12_undo 3 (some .int), Cond.methodLink RL 129 yX11_status, Cond.instanceMethod yX11_status, Cond.selects RX11 yX11_status yX11_status, Cond.code yX11_status cX11_status 1 (some .int), Cond.methodLink RL 132 yX12_status, Cond.instanceMethod yX12_status, Cond.selects RX12 yX12_status yX12_status, Cond.code yX12_status cX12_status 1 (some .int)]
def wsL_law : List Cond := (wsL_law_r1 ++ (wsL_law_r2 ++ (wsL_law_r3 ++ (wsL_law_r4 ++ (wsL_law_r5 ++ (wsL_law_r6 ++ (wsL_law_r7 ++ (wsL_law_r8 ++ (wsL_law_r9 ++ (wsL_law_r10 ++ (wsL_law_r11 ++ (wsL_law_r12 ++ (wsL_law_r13 ++ (wsL_law_r14 ++ (wsL_law_r15 ++ (wsL_law_r16 ++ (wsL_law_r17 ++ (wsL_law_r18 ++ (wsL_law_r19 ++ (wsL_law_r20 ++ (wsL_law_r21 ++ (wsL_law_r22 ++ (wsL_law_r23 ++ (wsL_law_r24 ++ (wsL_law_r25 ++ (wsL_law_r26 ++ (wsL_law_r27 ++ (wsL_law_r28 ++ (wsL_law_r29 ++ (wsL_law_r30 ++ (wsL_law_r31 ++ (wsL_law_r32 ++ (wsL_law_r33 ++ (wsL_law_r34 ++ (wsL_law_r35 ++ (wsL_law_r36 ++ (wsL_law_r37 ++ (wsL_law_r38 ++ (wsL_law_r39 ++ (wsL_law_r40 ++ (wsL_law_r41 ++ (wsL_law_r42 ++ wsL_law_r43)))))))))))))))))))))))))))))))))))))))))) ++ wsX110 ++ wsX120 ++ wsX100 ++ wsX70 ++ wsX60 ++ wsX20 ++ wsX00 ++ wsX40 ++ wsX90 ++ wsX30 ++ wsX10 ++ wsX50 ++ wsX80 ++ ([] : List Cond)
theorem inlX0 : ∀ w ∈ wsX00, w ∈ wsL_law := fun _ h => List.mem_append_left _ (List.mem_append_left _ (List.mem_append_left _ (List.mem_append_left _ (List.mem_append_left _ (List.mem_append_left _ (List.mem_append_left _ (List.mem_append_right _ h)))))))
theorem inlX1 : ∀ w ∈ wsX10, w ∈ wsL_law := fun _ h => List.mem_append_left _ (List.mem_append_left _ (List.mem_append_left _ (List.mem_append_right _ h)))
theorem inlX2 : ∀ w ∈ wsX20, w ∈ wsL_law := fun _ h => List.mem_append_left _ (List.mem_append_left _ (List.mem_append_left _ (List.mem_append_left _ (List.mem_append_left _ (List.mem_append_left _ (List.mem_append_left _ (List.mem_append_left _ (List.mem_append_right _ h))))))))
theorem inlX3 : ∀ w ∈ wsX30, w ∈ wsL_law := fun _ h => List.mem_append_left _ (List.mem_append_left _ (List.mem_append_left _ (List.mem_append_left _ (List.mem_append_right _ h))))
theorem inlX4 : ∀ w ∈ wsX40, w ∈ wsL_law := fun _ h => List.mem_append_left _ (List.mem_append_left _ (List.mem_append_left _ (List.mem_append_left _ (List.mem_append_left _ (List.mem_append_left _ (List.mem_append_right _ h))))))
theorem inlX5 : ∀ w ∈ wsX50, w ∈ wsL_law := fun _ h => List.mem_append_left _ (List.mem_append_left _ (List.mem_append_right _ h))
theorem inlX6 : ∀ w ∈ wsX60, w ∈ wsL_law := fun _ h => List.mem_append_left _ (List.mem_append_left _ (List.mem_append_left _ (List.mem_append_left _ (List.mem_append_left _ (List.mem_append_left _ (List.mem_append_left _ (List.mem_append_left _ (List.mem_append_left _ (List.mem_append_right _ h)))))))))
theorem inlX7 : ∀ w ∈ wsX70, w ∈ wsL_law := fun _ h => List.mem_append_left _ (List.mem_append_left _ (List.mem_append_left _ (List.mem_append_left _ (List.mem_append_left _ (List.mem_append_left _ (List.mem_append_left _ (List.mem_append_left _ (List.mem_append_left _ (List.mem_append_left _ (List.mem_append_right _ h))))))))))
theorem inlX8 : ∀ w ∈ wsX80, w ∈ wsL_law := fun _ h => List.mem_append_left _ (List.mem_append_right _ h)
theorem inlX9 : ∀ w ∈ wsX90, w ∈ wsL_law := fun _ h => List.mem_append_left _ (List.mem_append_left _ (List.mem_append_left _ (List.mem_append_left _ (List.mem_append_left _ (List.mem_append_right _ h)))))
theorem inlX10 : ∀ w ∈ wsX100, w ∈ wsL_law := fun _ h => List.mem_append_left _ (List.mem_append_left _ (List.mem_append_left _ (List.mem_append_left _ (List.mem_append_left _ (List.mem_append_left _ (List.mem_append_left _ (List.mem_append_left _ (List.mem_append_left _ (List.mem_append_left _ (List.mem_append_left _ (List.mem_append_right _ h)))))))))))
theorem inlX11 : ∀ w ∈ wsX110, w ∈ wsL_law := fun _ h => List.mem_append_left _ (List.mem_append_left _ (List.mem_append_left _ (List.mem_append_left _ (List.mem_append_left _ (List.mem_append_left _ (List.mem_append_left _ (List.mem_append_left _ (List.mem_append_left _ (List.mem_append_left _ (List.mem_append_left _ (List.mem_append_left _ (List.mem_append_left _ (List.mem_append_right _ h)))))))))))))
theorem inlX12 : ∀ w ∈ wsX120, w ∈ wsL_law := fun _ h => List.mem_append_left _ (List.mem_append_left _ (List.mem_append_left _ (List.mem_append_left _ (List.mem_append_left _ (List.mem_append_left _ (List.mem_append_left _ (List.mem_append_left _ (List.mem_append_left _ (List.mem_append_left _ (List.mem_append_left _ (List.mem_append_left _ (List.mem_append_right _ h))))))))))))
theorem dX0_init_0 : decode cX0_init 0 = .ok (.aload_n 0, 1) := by decide +kernel
theorem dX0_init_1 : decode cX0_init 1 = .ok (.invokespecial 3, 3) := by decide +kernel
theorem dX0_init_4 : decode cX0_init 4 = .ok (.aload_n 0, 1) := by decide +kernel
theorem dX0_init_5 : decode cX0_init 5 = .ok (.bipush 50, 2) := by decide +kernel
theorem dX0_init_7 : decode cX0_init 7 = .ok (.newarray .int, 2) := by decide +kernel
theorem dX0_init_9 : decode cX0_init 9 = .ok (.putfield 9, 3) := by decide +kernel
theorem dX0_init_12 : decode cX0_init 12 = .ok (.return_, 1) := by decide +kernel
theorem dX0_take_0 : decode cX0_take 0 = .ok (.aload_n 0, 1) := by decide +kernel
theorem dX0_take_1 : decode cX0_take 1 = .ok (.iconst 0, 1) := by decide +kernel
theorem dX0_take_2 : decode cX0_take 2 = .ok (.putfield 15, 3) := by decide +kernel
theorem dX0_take_5 : decode cX0_take 5 = .ok (.aload_n 0, 1) := by decide +kernel
theorem dX0_take_6 : decode cX0_take 6 = .ok (.aload_n 1, 1) := by decide +kernel
theorem dX0_take_7 : decode cX0_take 7 = .ok (.iload_n 2, 1) := by decide +kernel
theorem dX0_take_8 : decode cX0_take 8 = .ok (.iconst 0, 1) := by decide +kernel
theorem dX0_take_9 : decode cX0_take 9 = .ok (.invokevirtual 19, 3) := by decide +kernel
theorem dX0_take_12 : decode cX0_take 12 = .ok (.putfield 25, 3) := by decide +kernel
theorem dX0_take_15 : decode cX0_take 15 = .ok (.aload_n 0, 1) := by decide +kernel
theorem dX0_take_16 : decode cX0_take 16 = .ok (.aload_n 1, 1) := by decide +kernel
theorem dX0_take_17 : decode cX0_take 17 = .ok (.iload_n 2, 1) := by decide +kernel
theorem dX0_take_18 : decode cX0_take 18 = .ok (.iconst 1, 1) := by decide +kernel
theorem dX0_take_19 : decode cX0_take 19 = .ok (.invokevirtual 19, 3) := by decide +kernel
theorem dX0_take_22 : decode cX0_take 22 = .ok (.putfield 28, 3) := by decide +kernel
theorem dX0_take_25 : decode cX0_take 25 = .ok (.aload_n 0, 1) := by decide +kernel
theorem dX0_take_26 : decode cX0_take 26 = .ok (.aload_n 1, 1) := by decide +kernel
theorem dX0_take_27 : decode cX0_take 27 = .ok (.iload_n 2, 1) := by decide +kernel
theorem dX0_take_28 : decode cX0_take 28 = .ok (.iconst 2, 1) := by decide +kernel
theorem dX0_take_29 : decode cX0_take 29 = .ok (.invokevirtual 19, 3) := by decide +kernel
theorem dX0_take_32 : decode cX0_take 32 = .ok (.putfield 31, 3) := by decide +kernel
theorem dX0_take_35 : decode cX0_take 35 = .ok (.aload_n 0, 1) := by decide +kernel
theorem dX0_take_36 : decode cX0_take 36 = .ok (.aload_n 1, 1) := by decide +kernel
theorem dX0_take_37 : decode cX0_take 37 = .ok (.iload_n 2, 1) := by decide +kernel
theorem dX0_take_38 : decode cX0_take 38 = .ok (.invokevirtual 34, 3) := by decide +kernel
theorem dX0_take_41 : decode cX0_take 41 = .ok (.invokestatic 38, 3) := by decide +kernel
theorem dX0_take_44 : decode cX0_take 44 = .ok (.putfield 43, 3) := by decide +kernel
theorem dX0_take_47 : decode cX0_take 47 = .ok (.return_, 1) := by decide +kernel
theorem dX0_begin_0 : decode cX0_begin 0 = .ok (.aload_n 0, 1) := by decide +kernel
theorem dX0_begin_1 : decode cX0_begin 1 = .ok (.getfield 15, 3) := by decide +kernel
theorem dX0_begin_4 : decode cX0_begin 4 = .ok (.bipush 50, 2) := by decide +kernel
theorem dX0_begin_6 : decode cX0_begin 6 = .ok (.if_icmp .ge 23, 3) := by decide +kernel
theorem dX0_begin_9 : decode cX0_begin 9 = .ok (.aload_n 0, 1) := by decide +kernel
theorem dX0_begin_10 : decode cX0_begin 10 = .ok (.getfield 9, 3) := by decide +kernel
theorem dX0_begin_13 : decode cX0_begin 13 = .ok (.aload_n 0, 1) := by decide +kernel
theorem dX0_begin_14 : decode cX0_begin 14 = .ok (.getfield 15, 3) := by decide +kernel
theorem dX0_begin_17 : decode cX0_begin 17 = .ok (.iload_n 1, 1) := by decide +kernel
theorem dX0_begin_18 : decode cX0_begin 18 = .ok (.iastore, 1) := by decide +kernel
theorem dX0_begin_19 : decode cX0_begin 19 = .ok (.aload_n 0, 1) := by decide +kernel
theorem dX0_begin_20 : decode cX0_begin 20 = .ok (.dup, 1) := by decide +kernel
theorem dX0_begin_21 : decode cX0_begin 21 = .ok (.getfield 15, 3) := by decide +kernel
theorem dX0_begin_24 : decode cX0_begin 24 = .ok (.iconst 1, 1) := by decide +kernel
theorem dX0_begin_25 : decode cX0_begin 25 = .ok (.iadd, 1) := by decide +kernel
theorem dX0_begin_26 : decode cX0_begin 26 = .ok (.putfield 15, 3) := by decide +kernel
theorem dX0_begin_29 : decode cX0_begin 29 = .ok (.return_, 1) := by decide +kernel
theorem dX0_begun_0 : decode cX0_begun 0 = .ok (.aload_n 0, 1) := by decide +kernel
theorem dX0_begun_1 : decode cX0_begun 1 = .ok (.getfield 15, 3) := by decide +kernel
theorem dX0_begun_4 : decode cX0_begun 4 = .ok (.ireturn, 1) := by decide +kernel
theorem dX0_bodyAt_0 : decode cX0_bodyAt 0 = .ok (.iload_n 1, 1) := by decide +kernel
theorem dX0_bodyAt_1 : decode cX0_bodyAt 1 = .ok (.ifCond .lt 20, 3) := by decide +kernel
theorem dX0_bodyAt_4 : decode cX0_bodyAt 4 = .ok (.iload_n 1, 1) := by decide +kernel
theorem dX0_bodyAt_5 : decode cX0_bodyAt 5 = .ok (.aload_n 0, 1) := by decide +kernel
theorem dX0_bodyAt_6 : decode cX0_bodyAt 6 = .ok (.getfield 15, 3) := by decide +kernel
theorem dX0_bodyAt_9 : decode cX0_bodyAt 9 = .ok (.if_icmp .ge 12, 3) := by decide +kernel
theorem dX0_bodyAt_12 : decode cX0_bodyAt 12 = .ok (.aload_n 0, 1) := by decide +kernel
theorem dX0_bodyAt_13 : decode cX0_bodyAt 13 = .ok (.getfield 9, 3) := by decide +kernel
theorem dX0_bodyAt_16 : decode cX0_bodyAt 16 = .ok (.iload_n 1, 1) := by decide +kernel
theorem dX0_bodyAt_17 : decode cX0_bodyAt 17 = .ok (.iaload, 1) := by decide +kernel
theorem dX0_bodyAt_18 : decode cX0_bodyAt 18 = .ok (.goto 4, 3) := by decide +kernel
theorem dX0_bodyAt_21 : decode cX0_bodyAt 21 = .ok (.iconst (-1), 1) := by decide +kernel
theorem dX0_bodyAt_22 : decode cX0_bodyAt 22 = .ok (.ireturn, 1) := by decide +kernel
theorem dX1_init_0 : decode cX1_init 0 = .ok (.aload_n 0, 1) := by decide +kernel
theorem dX1_init_1 : decode cX1_init 1 = .ok (.invokespecial 1, 3) := by decide +kernel
theorem dX1_init_4 : decode cX1_init 4 = .ok (.return_, 1) := by decide +kernel
theorem dX1_follow_0 : decode cX1_follow 0 = .ok (.aload_n 1, 1) := by decide +kernel
theorem dX1_follow_1 : decode cX1_follow 1 = .ok (.bipush 40, 2) := by decide +kernel
theorem dX1_follow_3 : decode cX1_follow 3 = .ok (.invokevirtual 7, 3) := by decide +kernel
theorem dX1_follow_6 : decode cX1_follow 6 = .ok (.aload_n 0, 1) := by decide +kernel
theorem dX1_follow_7 : decode cX1_follow 7 = .ok (.aload_n 1, 1) := by decide +kernel
theorem dX1_follow_8 : decode cX1_follow 8 = .ok (.iload_n 2, 1) := by decide +kernel
theorem dX1_follow_9 : decode cX1_follow 9 = .ok (.invokespecial 13, 3) := by decide +kernel
theorem dX1_follow_12 : decode cX1_follow 12 = .ok (.bipush 7, 2) := by decide +kernel
theorem dX1_follow_14 : decode cX1_follow 14 = .ok (.isub, 1) := by decide +kernel
theorem dX1_follow_15 : decode cX1_follow 15 = .ok (.ireturn, 1) := by decide +kernel
theorem dX1_last_0 : decode cX1_last 0 = .ok (.aload_n 1, 1) := by decide +kernel
theorem dX1_last_1 : decode cX1_last 1 = .ok (.bipush 41, 2) := by decide +kernel
theorem dX1_last_3 : decode cX1_last 3 = .ok (.invokevirtual 7, 3) := by decide +kernel
theorem dX1_last_6 : decode cX1_last 6 = .ok (.aload_n 0, 1) := by decide +kernel
theorem dX1_last_7 : decode cX1_last 7 = .ok (.aload_n 1, 1) := by decide +kernel
theorem dX1_last_8 : decode cX1_last 8 = .ok (.iload_n 2, 1) := by decide +kernel
theorem dX1_last_9 : decode cX1_last 9 = .ok (.invokespecial 17, 3) := by decide +kernel
theorem dX1_last_12 : decode cX1_last 12 = .ok (.aload_n 0, 1) := by decide +kernel
theorem dX1_last_13 : decode cX1_last 13 = .ok (.aload_n 1, 1) := by decide +kernel
theorem dX1_last_14 : decode cX1_last 14 = .ok (.iload_n 2, 1) := by decide +kernel
theorem dX1_last_15 : decode cX1_last 15 = .ok (.invokespecial 13, 3) := by decide +kernel
theorem dX1_last_18 : decode cX1_last 18 = .ok (.iadd, 1) := by decide +kernel
theorem dX1_last_19 : decode cX1_last 19 = .ok (.ireturn, 1) := by decide +kernel
theorem dX2_init_0 : decode cX2_init 0 = .ok (.aload_n 0, 1) := by decide +kernel
theorem dX2_init_1 : decode cX2_init 1 = .ok (.invokespecial 3, 3) := by decide +kernel
theorem dX2_init_4 : decode cX2_init 4 = .ok (.aload_n 0, 1) := by decide +kernel
theorem dX2_init_5 : decode cX2_init 5 = .ok (.bipush 12, 2) := by decide +kernel
theorem dX2_init_7 : decode cX2_init 7 = .ok (.newarray .int, 2) := by decide +kernel
theorem dX2_init_9 : decode cX2_init 9 = .ok (.putfield 9, 3) := by decide +kernel
theorem dX2_init_12 : decode cX2_init 12 = .ok (.aload_n 0, 1) := by decide +kernel
theorem dX2_init_13 : decode cX2_init 13 = .ok (.bipush 12, 2) := by decide +kernel
theorem dX2_init_15 : decode cX2_init 15 = .ok (.newarray .int, 2) := by decide +kernel
theorem dX2_init_17 : decode cX2_init 17 = .ok (.putfield 15, 3) := by decide +kernel
theorem dX2_init_20 : decode cX2_init 20 = .ok (.aload_n 0, 1) := by decide +kernel
theorem dX2_init_21 : decode cX2_init 21 = .ok (.bipush 12, 2) := by decide +kernel
theorem dX2_init_23 : decode cX2_init 23 = .ok (.newarray .int, 2) := by decide +kernel
theorem dX2_init_25 : decode cX2_init 25 = .ok (.putfield 18, 3) := by decide +kernel
theorem dX2_init_28 : decode cX2_init 28 = .ok (.aload_n 0, 1) := by decide +kernel
theorem dX2_init_29 : decode cX2_init 29 = .ok (.bipush 12, 2) := by decide +kernel
theorem dX2_init_31 : decode cX2_init 31 = .ok (.newarray .int, 2) := by decide +kernel
theorem dX2_init_33 : decode cX2_init 33 = .ok (.putfield 21, 3) := by decide +kernel
theorem dX2_init_36 : decode cX2_init 36 = .ok (.return_, 1) := by decide +kernel
theorem dX2_size_0 : decode cX2_size 0 = .ok (.aload_n 0, 1) := by decide +kernel
theorem dX2_size_1 : decode cX2_size 1 = .ok (.getfield 24, 3) := by decide +kernel
theorem dX2_size_4 : decode cX2_size 4 = .ok (.ireturn, 1) := by decide +kernel
theorem dX2_keep_0 : decode cX2_keep 0 = .ok (.aload_n 0, 1) := by decide +kernel
theorem dX2_keep_1 : decode cX2_keep 1 = .ok (.getfield 9, 3) := by decide +kernel
theorem dX2_keep_4 : decode cX2_keep 4 = .ok (.aload_n 0, 1) := by decide +kernel
theorem dX2_keep_5 : decode cX2_keep 5 = .ok (.getfield 28, 3) := by decide +kernel
theorem dX2_keep_8 : decode cX2_keep 8 = .ok (.iload_n 1, 1) := by decide +kernel
theorem dX2_keep_9 : decode cX2_keep 9 = .ok (.iastore, 1) := by decide +kernel
theorem dX2_keep_10 : decode cX2_keep 10 = .ok (.aload_n 0, 1) := by decide +kernel
theorem dX2_keep_11 : decode cX2_keep 11 = .ok (.getfield 15, 3) := by decide +kernel
theorem dX2_keep_14 : decode cX2_keep 14 = .ok (.aload_n 0, 1) := by decide +kernel
theorem dX2_keep_15 : decode cX2_keep 15 = .ok (.getfield 28, 3) := by decide +kernel
theorem dX2_keep_18 : decode cX2_keep 18 = .ok (.iload_n 2, 1) := by decide +kernel
theorem dX2_keep_19 : decode cX2_keep 19 = .ok (.iastore, 1) := by decide +kernel
theorem dX2_keep_20 : decode cX2_keep 20 = .ok (.aload_n 0, 1) := by decide +kernel
theorem dX2_keep_21 : decode cX2_keep 21 = .ok (.getfield 18, 3) := by decide +kernel
theorem dX2_keep_24 : decode cX2_keep 24 = .ok (.aload_n 0, 1) := by decide +kernel
theorem dX2_keep_25 : decode cX2_keep 25 = .ok (.getfield 28, 3) := by decide +kernel
theorem dX2_keep_28 : decode cX2_keep 28 = .ok (.iload_n 3, 1) := by decide +kernel
theorem dX2_keep_29 : decode cX2_keep 29 = .ok (.iastore, 1) := by decide +kernel
theorem dX2_keep_30 : decode cX2_keep 30 = .ok (.aload_n 0, 1) := by decide +kernel
theorem dX2_keep_31 : decode cX2_keep 31 = .ok (.getfield 21, 3) := by decide +kernel
theorem dX2_keep_34 : decode cX2_keep 34 = .ok (.aload_n 0, 1) := by decide +kernel
theorem dX2_keep_35 : decode cX2_keep 35 = .ok (.getfield 28, 3) := by decide +kernel
theorem dX2_keep_38 : decode cX2_keep 38 = .ok (.iload 4, 2) := by decide +kernel
theorem dX2_keep_40 : decode cX2_keep 40 = .ok (.iastore, 1) := by decide +kernel
theorem dX2_keep_41 : decode cX2_keep 41 = .ok (.aload_n 0, 1) := by decide +kernel
theorem dX2_keep_42 : decode cX2_keep 42 = .ok (.aload_n 0, 1) := by decide +kernel
theorem dX2_keep_43 : decode cX2_keep 43 = .ok (.getfield 28, 3) := by decide +kernel
theorem dX2_keep_46 : decode cX2_keep 46 = .ok (.bipush 11, 2) := by decide +kernel
theorem dX2_keep_48 : decode cX2_keep 48 = .ok (.if_icmp .ne 7, 3) := by decide +kernel
theorem dX2_keep_51 : decode cX2_keep 51 = .ok (.iconst 0, 1) := by decide +kernel
theorem dX2_keep_52 : decode cX2_keep 52 = .ok (.goto 9, 3) := by decide +kernel
theorem dX2_keep_55 : decode cX2_keep 55 = .ok (.aload_n 0, 1) := by decide +kernel
theorem dX2_keep_56 : decode cX2_keep 56 = .ok (.getfield 28, 3) := by decide +kernel
theorem dX2_keep_59 : decode cX2_keep 59 = .ok (.iconst 1, 1) := by decide +kernel
theorem dX2_keep_60 : decode cX2_keep 60 = .ok (.iadd, 1) := by decide +kernel
theorem dX2_keep_61 : decode cX2_keep 61 = .ok (.putfield 28, 3) := by decide +kernel
theorem dX2_keep_64 : decode cX2_keep 64 = .ok (.aload_n 0, 1) := by decide +kernel
theorem dX2_keep_65 : decode cX2_keep 65 = .ok (.aload_n 0, 1) := by decide +kernel
theorem dX2_keep_66 : decode cX2_keep 66 = .ok (.getfield 24, 3) := by decide +kernel
theorem dX2_keep_69 : decode cX2_keep 69 = .ok (.iconst 1, 1) := by decide +kernel
theorem dX2_keep_70 : decode cX2_keep 70 = .ok (.iadd, 1) := by decide +kernel
theorem dX2_keep_71 : decode cX2_keep 71 = .ok (.bipush 12, 2) := by decide +kernel
theorem dX2_keep_73 : decode cX2_keep 73 = .ok (.invokestatic 31, 3) := by decide +kernel
theorem dX2_keep_76 : decode cX2_keep 76 = .ok (.putfield 24, 3) := by decide +kernel
theorem dX2_keep_79 : decode cX2_keep 79 = .ok (.return_, 1) := by decide +kernel
theorem dX2_takeBack_0 : decode cX2_takeBack 0 = .ok (.aload_n 0, 1) := by decide +kernel
theorem dX2_takeBack_1 : decode cX2_takeBack 1 = .ok (.aload_n 0, 1) := by decide +kernel
theorem dX2_takeBack_2 : decode cX2_takeBack 2 = .ok (.getfield 28, 3) := by decide +kernel
theorem dX2_takeBack_5 : decode cX2_takeBack 5 = .ok (.ifCond .ne 8, 3) := by decide +kernel
theorem dX2_takeBack_8 : decode cX2_takeBack 8 = .ok (.bipush 11, 2) := by decide +kernel
theorem dX2_takeBack_10 : decode cX2_takeBack 10 = .ok (.goto 9, 3) := by decide +kernel
theorem dX2_takeBack_13 : decode cX2_takeBack 13 = .ok (.aload_n 0, 1) := by decide +kernel
theorem dX2_takeBack_14 : decode cX2_takeBack 14 = .ok (.getfield 28, 3) := by decide +kernel
theorem dX2_takeBack_17 : decode cX2_takeBack 17 = .ok (.iconst 1, 1) := by decide +kernel
theorem dX2_takeBack_18 : decode cX2_takeBack 18 = .ok (.isub, 1) := by decide +kernel
theorem dX2_takeBack_19 : decode cX2_takeBack 19 = .ok (.putfield 28, 3) := by decide +kernel
theorem dX2_takeBack_22 : decode cX2_takeBack 22 = .ok (.aload_n 0, 1) := by decide +kernel
theorem dX2_takeBack_23 : decode cX2_takeBack 23 = .ok (.dup, 1) := by decide +kernel
theorem dX2_takeBack_24 : decode cX2_takeBack 24 = .ok (.getfield 24, 3) := by decide +kernel
theorem dX2_takeBack_27 : decode cX2_takeBack 27 = .ok (.iconst 1, 1) := by decide +kernel
theorem dX2_takeBack_28 : decode cX2_takeBack 28 = .ok (.isub, 1) := by decide +kernel
theorem dX2_takeBack_29 : decode cX2_takeBack 29 = .ok (.putfield 24, 3) := by decide +kernel
theorem dX2_takeBack_32 : decode cX2_takeBack 32 = .ok (.aload_n 0, 1) := by decide +kernel
theorem dX2_takeBack_33 : decode cX2_takeBack 33 = .ok (.getfield 9, 3) := by decide +kernel
theorem dX2_takeBack_36 : decode cX2_takeBack 36 = .ok (.aload_n 0, 1) := by decide +kernel
theorem dX2_takeBack_37 : decode cX2_takeBack 37 = .ok (.getfield 28, 3) := by decide +kernel
theorem dX2_takeBack_40 : decode cX2_takeBack 40 = .ok (.iaload, 1) := by decide +kernel
theorem dX2_takeBack_41 : decode cX2_takeBack 41 = .ok (.tableswitch 93 0 2 #[27, 34, 68], 27) := by decide +kernel
theorem dX2_takeBack_68 : decode cX2_takeBack 68 = .ok (.aload_n 1, 1) := by decide +kernel
theorem dX2_takeBack_69 : decode cX2_takeBack 69 = .ok (.invokevirtual 37, 3) := by decide +kernel
theorem dX2_takeBack_72 : decode cX2_takeBack 72 = .ok (.goto 84, 3) := by decide +kernel
theorem dX2_takeBack_75 : decode cX2_takeBack 75 = .ok (.aload_n 1, 1) := by decide +kernel
theorem dX2_takeBack_76 : decode cX2_takeBack 76 = .ok (.aload_n 0, 1) := by decide +kernel
theorem dX2_takeBack_77 : decode cX2_takeBack 77 = .ok (.getfield 15, 3) := by decide +kernel
theorem dX2_takeBack_80 : decode cX2_takeBack 80 = .ok (.aload_n 0, 1) := by decide +kernel
theorem dX2_takeBack_81 : decode cX2_takeBack 81 = .ok (.getfield 28, 3) := by decide +kernel
theorem dX2_takeBack_84 : decode cX2_takeBack 84 = .ok (.iaload, 1) := by decide +kernel
theorem dX2_takeBack_85 : decode cX2_takeBack 85 = .ok (.aload_n 0, 1) := by decide +kernel
theorem dX2_takeBack_86 : decode cX2_takeBack 86 = .ok (.getfield 18, 3) := by decide +kernel
theorem dX2_takeBack_89 : decode cX2_takeBack 89 = .ok (.aload_n 0, 1) := by decide +kernel
theorem dX2_takeBack_90 : decode cX2_takeBack 90 = .ok (.getfield 28, 3) := by decide +kernel
theorem dX2_takeBack_93 : decode cX2_takeBack 93 = .ok (.iaload, 1) := by decide +kernel
theorem dX2_takeBack_94 : decode cX2_takeBack 94 = .ok (.aload_n 0, 1) := by decide +kernel
theorem dX2_takeBack_95 : decode cX2_takeBack 95 = .ok (.getfield 21, 3) := by decide +kernel
theorem dX2_takeBack_98 : decode cX2_takeBack 98 = .ok (.aload_n 0, 1) := by decide +kernel
theorem dX2_takeBack_99 : decode cX2_takeBack 99 = .ok (.getfield 28, 3) := by decide +kernel
theorem dX2_takeBack_102 : decode cX2_takeBack 102 = .ok (.iaload, 1) := by decide +kernel
theorem dX2_takeBack_103 : decode cX2_takeBack 103 = .ok (.invokevirtual 42, 3) := by decide +kernel
theorem dX2_takeBack_106 : decode cX2_takeBack 106 = .ok (.goto 50, 3) := by decide +kernel
theorem dX2_takeBack_109 : decode cX2_takeBack 109 = .ok (.aload_n 1, 1) := by decide +kernel
theorem dX2_takeBack_110 : decode cX2_takeBack 110 = .ok (.aload_n 0, 1) := by decide +kernel
theorem dX2_takeBack_111 : decode cX2_takeBack 111 = .ok (.getfield 15, 3) := by decide +kernel
theorem dX2_takeBack_114 : decode cX2_takeBack 114 = .ok (.aload_n 0, 1) := by decide +kernel
theorem dX2_takeBack_115 : decode cX2_takeBack 115 = .ok (.getfield 28, 3) := by decide +kernel
theorem dX2_takeBack_118 : decode cX2_takeBack 118 = .ok (.iaload, 1) := by decide +kernel
theorem dX2_takeBack_119 : decode cX2_takeBack 119 = .ok (.aload_n 0, 1) := by decide +kernel
theorem dX2_takeBack_120 : decode cX2_takeBack 120 = .ok (.getfield 18, 3) := by decide +kernel
theorem dX2_takeBack_123 : decode cX2_takeBack 123 = .ok (.aload_n 0, 1) := by decide +kernel
theorem dX2_takeBack_124 : decode cX2_takeBack 124 = .ok (.getfield 28, 3) := by decide +kernel
theorem dX2_takeBack_127 : decode cX2_takeBack 127 = .ok (.iaload, 1) := by decide +kernel
theorem dX2_takeBack_128 : decode cX2_takeBack 128 = .ok (.invokevirtual 46, 3) := by decide +kernel
theorem dX2_takeBack_131 : decode cX2_takeBack 131 = .ok (.goto 25, 3) := by decide +kernel
theorem dX2_takeBack_134 : decode cX2_takeBack 134 = .ok (.aload_n 1, 1) := by decide +kernel
theorem dX2_takeBack_135 : decode cX2_takeBack 135 = .ok (.aload_n 0, 1) := by decide +kernel
theorem dX2_takeBack_136 : decode cX2_takeBack 136 = .ok (.getfield 15, 3) := by decide +kernel
theorem dX2_takeBack_139 : decode cX2_takeBack 139 = .ok (.aload_n 0, 1) := by decide +kernel
theorem dX2_takeBack_140 : decode cX2_takeBack 140 = .ok (.getfield 28, 3) := by decide +kernel
theorem dX2_takeBack_143 : decode cX2_takeBack 143 = .ok (.iaload, 1) := by decide +kernel
theorem dX2_takeBack_144 : decode cX2_takeBack 144 = .ok (.aload_n 0, 1) := by decide +kernel
theorem dX2_takeBack_145 : decode cX2_takeBack 145 = .ok (.getfield 18, 3) := by decide +kernel
theorem dX2_takeBack_148 : decode cX2_takeBack 148 = .ok (.aload_n 0, 1) := by decide +kernel
theorem dX2_takeBack_149 : decode cX2_takeBack 149 = .ok (.getfield 28, 3) := by decide +kernel
theorem dX2_takeBack_152 : decode cX2_takeBack 152 = .ok (.iaload, 1) := by decide +kernel
theorem dX2_takeBack_153 : decode cX2_takeBack 153 = .ok (.invokevirtual 50, 3) := by decide +kernel
theorem dX2_takeBack_156 : decode cX2_takeBack 156 = .ok (.return_, 1) := by decide +kernel
theorem dX3_init_0 : decode cX3_init 0 = .ok (.aload_n 0, 1) := by decide +kernel
theorem dX3_init_1 : decode cX3_init 1 = .ok (.invokespecial 1, 3) := by decide +kernel
theorem dX3_init_4 : decode cX3_init 4 = .ok (.return_, 1) := by decide +kernel
theorem dX3_weigh_0 : decode cX3_weigh 0 = .ok (.aload_n 1, 1) := by decide +kernel
theorem dX3_weigh_1 : decode cX3_weigh 1 = .ok (.bipush 30, 2) := by decide +kernel
theorem dX3_weigh_3 : decode cX3_weigh 3 = .ok (.invokevirtual 7, 3) := by decide +kernel
theorem dX3_weigh_6 : decode cX3_weigh 6 = .ok (.aload_n 0, 1) := by decide +kernel
theorem dX3_weigh_7 : decode cX3_weigh 7 = .ok (.aload_n 1, 1) := by decide +kernel
theorem dX3_weigh_8 : decode cX3_weigh 8 = .ok (.iload_n 2, 1) := by decide +kernel
theorem dX3_weigh_9 : decode cX3_weigh 9 = .ok (.invokespecial 13, 3) := by decide +kernel
theorem dX3_weigh_12 : decode cX3_weigh 12 = .ok (.aload_n 1, 1) := by decide +kernel
theorem dX3_weigh_13 : decode cX3_weigh 13 = .ok (.getfield 17, 3) := by decide +kernel
theorem dX3_weigh_16 : decode cX3_weigh 16 = .ok (.iadd, 1) := by decide +kernel
theorem dX3_weigh_17 : decode cX3_weigh 17 = .ok (.ireturn, 1) := by decide +kernel
theorem dX4_init_0 : decode cX4_init 0 = .ok (.aload_n 0, 1) := by decide +kernel
theorem dX4_init_1 : decode cX4_init 1 = .ok (.invokespecial 1, 3) := by decide +kernel
theorem dX4_init_4 : decode cX4_init 4 = .ok (.return_, 1) := by decide +kernel
theorem dX4_last_0 : decode cX4_last 0 = .ok (.aload_n 1, 1) := by decide +kernel
theorem dX4_last_1 : decode cX4_last 1 = .ok (.bipush 10, 2) := by decide +kernel
theorem dX4_last_3 : decode cX4_last 3 = .ok (.invokevirtual 7, 3) := by decide +kernel
theorem dX4_last_6 : decode cX4_last 6 = .ok (.iload_n 2, 1) := by decide +kernel
theorem dX4_last_7 : decode cX4_last 7 = .ok (.aload_n 1, 1) := by decide +kernel
theorem dX4_last_8 : decode cX4_last 8 = .ok (.getfield 13, 3) := by decide +kernel
theorem dX4_last_11 : decode cX4_last 11 = .ok (.iadd, 1) := by decide +kernel
theorem dX4_last_12 : decode cX4_last 12 = .ok (.ireturn, 1) := by decide +kernel
theorem dX4_weigh_0 : decode cX4_weigh 0 = .ok (.aload_n 1, 1) := by decide +kernel
theorem dX4_weigh_1 : decode cX4_weigh 1 = .ok (.bipush 11, 2) := by decide +kernel
theorem dX4_weigh_3 : decode cX4_weigh 3 = .ok (.invokevirtual 7, 3) := by decide +kernel
theorem dX4_weigh_6 : decode cX4_weigh 6 = .ok (.aload_n 0, 1) := by decide +kernel
theorem dX4_weigh_7 : decode cX4_weigh 7 = .ok (.aload_n 1, 1) := by decide +kernel
theorem dX4_weigh_8 : decode cX4_weigh 8 = .ok (.iload_n 2, 1) := by decide +kernel
theorem dX4_weigh_9 : decode cX4_weigh 9 = .ok (.invokevirtual 17, 3) := by decide +kernel
theorem dX4_weigh_12 : decode cX4_weigh 12 = .ok (.aload_n 1, 1) := by decide +kernel
theorem dX4_weigh_13 : decode cX4_weigh 13 = .ok (.getfield 23, 3) := by decide +kernel
theorem dX4_weigh_16 : decode cX4_weigh 16 = .ok (.imul, 1) := by decide +kernel
theorem dX4_weigh_17 : decode cX4_weigh 17 = .ok (.ireturn, 1) := by decide +kernel
theorem dX4_follow_0 : decode cX4_follow 0 = .ok (.aload_n 1, 1) := by decide +kernel
theorem dX4_follow_1 : decode cX4_follow 1 = .ok (.bipush 12, 2) := by decide +kernel
theorem dX4_follow_3 : decode cX4_follow 3 = .ok (.invokevirtual 7, 3) := by decide +kernel
theorem dX4_follow_6 : decode cX4_follow 6 = .ok (.iload_n 2, 1) := by decide +kernel
theorem dX4_follow_7 : decode cX4_follow 7 = .ok (.aload_n 1, 1) := by decide +kernel
theorem dX4_follow_8 : decode cX4_follow 8 = .ok (.getfield 26, 3) := by decide +kernel
theorem dX4_follow_11 : decode cX4_follow 11 = .ok (.iadd, 1) := by decide +kernel
theorem dX4_follow_12 : decode cX4_follow 12 = .ok (.ireturn, 1) := by decide +kernel
theorem dX4_tell_0 : decode cX4_tell 0 = .ok (.aload_n 1, 1) := by decide +kernel
theorem dX4_tell_1 : decode cX4_tell 1 = .ok (.bipush 13, 2) := by decide +kernel
theorem dX4_tell_3 : decode cX4_tell 3 = .ok (.invokevirtual 7, 3) := by decide +kernel
theorem dX4_tell_6 : decode cX4_tell 6 = .ok (.aload_n 0, 1) := by decide +kernel
theorem dX4_tell_7 : decode cX4_tell 7 = .ok (.aload_n 1, 1) := by decide +kernel
theorem dX4_tell_8 : decode cX4_tell 8 = .ok (.iload_n 2, 1) := by decide +kernel
theorem dX4_tell_9 : decode cX4_tell 9 = .ok (.invokevirtual 29, 3) := by decide +kernel
theorem dX4_tell_12 : decode cX4_tell 12 = .ok (.aload_n 0, 1) := by decide +kernel
theorem dX4_tell_13 : decode cX4_tell 13 = .ok (.aload_n 1, 1) := by decide +kernel
theorem dX4_tell_14 : decode cX4_tell 14 = .ok (.iload_n 2, 1) := by decide +kernel
theorem dX4_tell_15 : decode cX4_tell 15 = .ok (.invokevirtual 32, 3) := by decide +kernel
theorem dX4_tell_18 : decode cX4_tell 18 = .ok (.isub, 1) := by decide +kernel
theorem dX4_tell_19 : decode cX4_tell 19 = .ok (.ireturn, 1) := by decide +kernel
theorem dX5_init_0 : decode cX5_init 0 = .ok (.aload_n 0, 1) := by decide +kernel
theorem dX5_init_1 : decode cX5_init 1 = .ok (.invokespecial 1, 3) := by decide +kernel
theorem dX5_init_4 : decode cX5_init 4 = .ok (.return_, 1) := by decide +kernel
theorem dX5_last_0 : decode cX5_last 0 = .ok (.aload_n 1, 1) := by decide +kernel
theorem dX5_last_1 : decode cX5_last 1 = .ok (.bipush 50, 2) := by decide +kernel
theorem dX5_last_3 : decode cX5_last 3 = .ok (.invokevirtual 7, 3) := by decide +kernel
theorem dX5_last_6 : decode cX5_last 6 = .ok (.aload_n 0, 1) := by decide +kernel
theorem dX5_last_7 : decode cX5_last 7 = .ok (.aload_n 1, 1) := by decide +kernel
theorem dX5_last_8 : decode cX5_last 8 = .ok (.iload_n 2, 1) := by decide +kernel
theorem dX5_last_9 : decode cX5_last 9 = .ok (.aload_n 1, 1) := by decide +kernel
theorem dX5_last_10 : decode cX5_last 10 = .ok (.getfield 13, 3) := by decide +kernel
theorem dX5_last_13 : decode cX5_last 13 = .ok (.iadd, 1) := by decide +kernel
theorem dX5_last_14 : decode cX5_last 14 = .ok (.invokespecial 17, 3) := by decide +kernel
theorem dX5_last_17 : decode cX5_last 17 = .ok (.ireturn, 1) := by decide +kernel
theorem dX5_tell_0 : decode cX5_tell 0 = .ok (.aload_n 1, 1) := by decide +kernel
theorem dX5_tell_1 : decode cX5_tell 1 = .ok (.bipush 51, 2) := by decide +kernel
theorem dX5_tell_3 : decode cX5_tell 3 = .ok (.invokevirtual 7, 3) := by decide +kernel
theorem dX5_tell_6 : decode cX5_tell 6 = .ok (.aload_n 0, 1) := by decide +kernel
theorem dX5_tell_7 : decode cX5_tell 7 = .ok (.aload_n 1, 1) := by decide +kernel
theorem dX5_tell_8 : decode cX5_tell 8 = .ok (.iload_n 2, 1) := by decide +kernel
theorem dX5_tell_9 : decode cX5_tell 9 = .ok (.invokevirtual 21, 3) := by decide +kernel
theorem dX5_tell_12 : decode cX5_tell 12 = .ok (.aload_n 0, 1) := by decide +kernel
theorem dX5_tell_13 : decode cX5_tell 13 = .ok (.aload_n 1, 1) := by decide +kernel
theorem dX5_tell_14 : decode cX5_tell 14 = .ok (.iload_n 2, 1) := by decide +kernel
theorem dX5_tell_15 : decode cX5_tell 15 = .ok (.invokespecial 26, 3) := by decide +kernel
theorem dX5_tell_18 : decode cX5_tell 18 = .ok (.imul, 1) := by decide +kernel
theorem dX5_tell_19 : decode cX5_tell 19 = .ok (.ireturn, 1) := by decide +kernel
theorem dX6_init_0 : decode cX6_init 0 = .ok (.aload_n 0, 1) := by decide +kernel
theorem dX6_init_1 : decode cX6_init 1 = .ok (.invokespecial 3, 3) := by decide +kernel
theorem dX6_init_4 : decode cX6_init 4 = .ok (.aload_n 0, 1) := by decide +kernel
theorem dX6_init_5 : decode cX6_init 5 = .ok (.bipush 12, 2) := by decide +kernel
theorem dX6_init_7 : decode cX6_init 7 = .ok (.newarray .int, 2) := by decide +kernel
theorem dX6_init_9 : decode cX6_init 9 = .ok (.putfield 9, 3) := by decide +kernel
theorem dX6_init_12 : decode cX6_init 12 = .ok (.return_, 1) := by decide +kernel
theorem dX6_size_0 : decode cX6_size 0 = .ok (.aload_n 0, 1) := by decide +kernel
theorem dX6_size_1 : decode cX6_size 1 = .ok (.getfield 15, 3) := by decide +kernel
theorem dX6_size_4 : decode cX6_size 4 = .ok (.ireturn, 1) := by decide +kernel
theorem dX6_jobAt_0 : decode cX6_jobAt 0 = .ok (.aload_n 0, 1) := by decide +kernel
theorem dX6_jobAt_1 : decode cX6_jobAt 1 = .ok (.getfield 9, 3) := by decide +kernel
theorem dX6_jobAt_4 : decode cX6_jobAt 4 = .ok (.iload_n 1, 1) := by decide +kernel
theorem dX6_jobAt_5 : decode cX6_jobAt 5 = .ok (.iaload, 1) := by decide +kernel
theorem dX6_jobAt_6 : decode cX6_jobAt 6 = .ok (.ireturn, 1) := by decide +kernel
theorem dX6_empty_0 : decode cX6_empty 0 = .ok (.aload_n 0, 1) := by decide +kernel
theorem dX6_empty_1 : decode cX6_empty 1 = .ok (.iconst 0, 1) := by decide +kernel
theorem dX6_empty_2 : decode cX6_empty 2 = .ok (.putfield 15, 3) := by decide +kernel
theorem dX6_empty_5 : decode cX6_empty 5 = .ok (.return_, 1) := by decide +kernel
theorem dX6_append_0 : decode cX6_append 0 = .ok (.aload_n 0, 1) := by decide +kernel
theorem dX6_append_1 : decode cX6_append 1 = .ok (.getfield 15, 3) := by decide +kernel
theorem dX6_append_4 : decode cX6_append 4 = .ok (.bipush 12, 2) := by decide +kernel
theorem dX6_append_6 : decode cX6_append 6 = .ok (.if_icmp .ge 23, 3) := by decide +kernel
theorem dX6_append_9 : decode cX6_append 9 = .ok (.aload_n 0, 1) := by decide +kernel
theorem dX6_append_10 : decode cX6_append 10 = .ok (.getfield 9, 3) := by decide +kernel
theorem dX6_append_13 : decode cX6_append 13 = .ok (.aload_n 0, 1) := by decide +kernel
theorem dX6_append_14 : decode cX6_append 14 = .ok (.getfield 15, 3) := by decide +kernel
theorem dX6_append_17 : decode cX6_append 17 = .ok (.iload_n 1, 1) := by decide +kernel
theorem dX6_append_18 : decode cX6_append 18 = .ok (.iastore, 1) := by decide +kernel
theorem dX6_append_19 : decode cX6_append 19 = .ok (.aload_n 0, 1) := by decide +kernel
theorem dX6_append_20 : decode cX6_append 20 = .ok (.dup, 1) := by decide +kernel
theorem dX6_append_21 : decode cX6_append 21 = .ok (.getfield 15, 3) := by decide +kernel
theorem dX6_append_24 : decode cX6_append 24 = .ok (.iconst 1, 1) := by decide +kernel
theorem dX6_append_25 : decode cX6_append 25 = .ok (.iadd, 1) := by decide +kernel
theorem dX6_append_26 : decode cX6_append 26 = .ok (.putfield 15, 3) := by decide +kernel
theorem dX6_append_29 : decode cX6_append 29 = .ok (.return_, 1) := by decide +kernel
theorem dX6_exchange_0 : decode cX6_exchange 0 = .ok (.aload_n 0, 1) := by decide +kernel
theorem dX6_exchange_1 : decode cX6_exchange 1 = .ok (.getfield 9, 3) := by decide +kernel
theorem dX6_exchange_4 : decode cX6_exchange 4 = .ok (.iload_n 1, 1) := by decide +kernel
theorem dX6_exchange_5 : decode cX6_exchange 5 = .ok (.iaload, 1) := by decide +kernel
theorem dX6_exchange_6 : decode cX6_exchange 6 = .ok (.istore_n 2, 1) := by decide +kernel
theorem dX6_exchange_7 : decode cX6_exchange 7 = .ok (.aload_n 0, 1) := by decide +kernel
theorem dX6_exchange_8 : decode cX6_exchange 8 = .ok (.getfield 9, 3) := by decide +kernel
theorem dX6_exchange_11 : decode cX6_exchange 11 = .ok (.iload_n 1, 1) := by decide +kernel
theorem dX6_exchange_12 : decode cX6_exchange 12 = .ok (.aload_n 0, 1) := by decide +kernel
theorem dX6_exchange_13 : decode cX6_exchange 13 = .ok (.getfield 9, 3) := by decide +kernel
theorem dX6_exchange_16 : decode cX6_exchange 16 = .ok (.iload_n 1, 1) := by decide +kernel
theorem dX6_exchange_17 : decode cX6_exchange 17 = .ok (.iconst 1, 1) := by decide +kernel
theorem dX6_exchange_18 : decode cX6_exchange 18 = .ok (.iadd, 1) := by decide +kernel
theorem dX6_exchange_19 : decode cX6_exchange 19 = .ok (.iaload, 1) := by decide +kernel
theorem dX6_exchange_20 : decode cX6_exchange 20 = .ok (.iastore, 1) := by decide +kernel
theorem dX6_exchange_21 : decode cX6_exchange 21 = .ok (.aload_n 0, 1) := by decide +kernel
theorem dX6_exchange_22 : decode cX6_exchange 22 = .ok (.getfield 9, 3) := by decide +kernel
theorem dX6_exchange_25 : decode cX6_exchange 25 = .ok (.iload_n 1, 1) := by decide +kernel
theorem dX6_exchange_26 : decode cX6_exchange 26 = .ok (.iconst 1, 1) := by decide +kernel
theorem dX6_exchange_27 : decode cX6_exchange 27 = .ok (.iadd, 1) := by decide +kernel
theorem dX6_exchange_28 : decode cX6_exchange 28 = .ok (.iload_n 2, 1) := by decide +kernel
theorem dX6_exchange_29 : decode cX6_exchange 29 = .ok (.iastore, 1) := by decide +kernel
theorem dX6_exchange_30 : decode cX6_exchange 30 = .ok (.return_, 1) := by decide +kernel
theorem dX6_placeOf_0 : decode cX6_placeOf 0 = .ok (.iconst 0, 1) := by decide +kernel
theorem dX6_placeOf_1 : decode cX6_placeOf 1 = .ok (.istore_n 2, 1) := by decide +kernel
theorem dX6_placeOf_2 : decode cX6_placeOf 2 = .ok (.iload_n 2, 1) := by decide +kernel
theorem dX6_placeOf_3 : decode cX6_placeOf 3 = .ok (.aload_n 0, 1) := by decide +kernel
theorem dX6_placeOf_4 : decode cX6_placeOf 4 = .ok (.getfield 15, 3) := by decide +kernel
theorem dX6_placeOf_7 : decode cX6_placeOf 7 = .ok (.if_icmp .ge 21, 3) := by decide +kernel
theorem dX6_placeOf_10 : decode cX6_placeOf 10 = .ok (.aload_n 0, 1) := by decide +kernel
theorem dX6_placeOf_11 : decode cX6_placeOf 11 = .ok (.getfield 9, 3) := by decide +kernel
theorem dX6_placeOf_14 : decode cX6_placeOf 14 = .ok (.iload_n 2, 1) := by decide +kernel
theorem dX6_placeOf_15 : decode cX6_placeOf 15 = .ok (.iaload, 1) := by decide +kernel
theorem dX6_placeOf_16 : decode cX6_placeOf 16 = .ok (.iload_n 1, 1) := by decide +kernel
theorem dX6_placeOf_17 : decode cX6_placeOf 17 = .ok (.if_icmp .ne 5, 3) := by decide +kernel
theorem dX6_placeOf_20 : decode cX6_placeOf 20 = .ok (.iload_n 2, 1) := by decide +kernel
theorem dX6_placeOf_21 : decode cX6_placeOf 21 = .ok (.ireturn, 1) := by decide +kernel
theorem dX6_placeOf_22 : decode cX6_placeOf 22 = .ok (.iinc 2 1, 3) := by decide +kernel
theorem dX6_placeOf_25 : decode cX6_placeOf 25 = .ok (.goto (-23), 3) := by decide +kernel
theorem dX6_placeOf_28 : decode cX6_placeOf 28 = .ok (.iconst (-1), 1) := by decide +kernel
theorem dX6_placeOf_29 : decode cX6_placeOf 29 = .ok (.ireturn, 1) := by decide +kernel
theorem dX6_bitsBefore_0 : decode cX6_bitsBefore 0 = .ok (.iconst 0, 1) := by decide +kernel
theorem dX6_bitsBefore_1 : decode cX6_bitsBefore 1 = .ok (.istore_n 2, 1) := by decide +kernel
theorem dX6_bitsBefore_2 : decode cX6_bitsBefore 2 = .ok (.iconst 0, 1) := by decide +kernel
theorem dX6_bitsBefore_3 : decode cX6_bitsBefore 3 = .ok (.istore_n 3, 1) := by decide +kernel
theorem dX6_bitsBefore_4 : decode cX6_bitsBefore 4 = .ok (.iload_n 3, 1) := by decide +kernel
theorem dX6_bitsBefore_5 : decode cX6_bitsBefore 5 = .ok (.iload_n 1, 1) := by decide +kernel
theorem dX6_bitsBefore_6 : decode cX6_bitsBefore 6 = .ok (.if_icmp .ge 20, 3) := by decide +kernel
theorem dX6_bitsBefore_9 : decode cX6_bitsBefore 9 = .ok (.iload_n 2, 1) := by decide +kernel
theorem dX6_bitsBefore_10 : decode cX6_bitsBefore 10 = .ok (.iconst 1, 1) := by decide +kernel
theorem dX6_bitsBefore_11 : decode cX6_bitsBefore 11 = .ok (.aload_n 0, 1) := by decide +kernel
theorem dX6_bitsBefore_12 : decode cX6_bitsBefore 12 = .ok (.getfield 9, 3) := by decide +kernel
theorem dX6_bitsBefore_15 : decode cX6_bitsBefore 15 = .ok (.iload_n 3, 1) := by decide +kernel
theorem dX6_bitsBefore_16 : decode cX6_bitsBefore 16 = .ok (.iaload, 1) := by decide +kernel
theorem dX6_bitsBefore_17 : decode cX6_bitsBefore 17 = .ok (.ishl, 1) := by decide +kernel
theorem dX6_bitsBefore_18 : decode cX6_bitsBefore 18 = .ok (.ior, 1) := by decide +kernel
theorem dX6_bitsBefore_19 : decode cX6_bitsBefore 19 = .ok (.istore_n 2, 1) := by decide +kernel
theorem dX6_bitsBefore_20 : decode cX6_bitsBefore 20 = .ok (.iinc 3 1, 3) := by decide +kernel
theorem dX6_bitsBefore_23 : decode cX6_bitsBefore 23 = .ok (.goto (-19), 3) := by decide +kernel
theorem dX6_bitsBefore_26 : decode cX6_bitsBefore 26 = .ok (.iload_n 2, 1) := by decide +kernel
theorem dX6_bitsBefore_27 : decode cX6_bitsBefore 27 = .ok (.ireturn, 1) := by decide +kernel
theorem dX6_lackingAt_0 : decode cX6_lackingAt 0 = .ok (.aload_n 1, 1) := by decide +kernel
theorem dX6_lackingAt_1 : decode cX6_lackingAt 1 = .ok (.aload_n 0, 1) := by decide +kernel
theorem dX6_lackingAt_2 : decode cX6_lackingAt 2 = .ok (.getfield 9, 3) := by decide +kernel
theorem dX6_lackingAt_5 : decode cX6_lackingAt 5 = .ok (.iload_n 2, 1) := by decide +kernel
theorem dX6_lackingAt_6 : decode cX6_lackingAt 6 = .ok (.iaload, 1) := by decide +kernel
theorem dX6_lackingAt_7 : decode cX6_lackingAt 7 = .ok (.invokevirtual 19, 3) := by decide +kernel
theorem dX6_lackingAt_10 : decode cX6_lackingAt 10 = .ok (.aload_n 0, 1) := by decide +kernel
theorem dX6_lackingAt_11 : decode cX6_lackingAt 11 = .ok (.iload_n 2, 1) := by decide +kernel
theorem dX6_lackingAt_12 : decode cX6_lackingAt 12 = .ok (.invokevirtual 25, 3) := by decide +kernel
theorem dX6_lackingAt_15 : decode cX6_lackingAt 15 = .ok (.iconst (-1), 1) := by decide +kernel
theorem dX6_lackingAt_16 : decode cX6_lackingAt 16 = .ok (.ixor, 1) := by decide +kernel
theorem dX6_lackingAt_17 : decode cX6_lackingAt 17 = .ok (.iand, 1) := by decide +kernel
theorem dX6_lackingAt_18 : decode cX6_lackingAt 18 = .ok (.ireturn, 1) := by decide +kernel
theorem dX6_firstLacking_0 : decode cX6_firstLacking 0 = .ok (.iconst 0, 1) := by decide +kernel
theorem dX6_firstLacking_1 : decode cX6_firstLacking 1 = .ok (.istore_n 2, 1) := by decide +kernel
theorem dX6_firstLacking_2 : decode cX6_firstLacking 2 = .ok (.iload_n 2, 1) := by decide +kernel
theorem dX6_firstLacking_3 : decode cX6_firstLacking 3 = .ok (.aload_n 0, 1) := by decide +kernel
theorem dX6_firstLacking_4 : decode cX6_firstLacking 4 = .ok (.getfield 15, 3) := by decide +kernel
theorem dX6_firstLacking_7 : decode cX6_firstLacking 7 = .ok (.if_icmp .ge 20, 3) := by decide +kernel
theorem dX6_firstLacking_10 : decode cX6_firstLacking 10 = .ok (.aload_n 0, 1) := by decide +kernel
theorem dX6_firstLacking_11 : decode cX6_firstLacking 11 = .ok (.aload_n 1, 1) := by decide +kernel
theorem dX6_firstLacking_12 : decode cX6_firstLacking 12 = .ok (.iload_n 2, 1) := by decide +kernel
theorem dX6_firstLacking_13 : decode cX6_firstLacking 13 = .ok (.invokevirtual 28, 3) := by decide +kernel
theorem dX6_firstLacking_16 : decode cX6_firstLacking 16 = .ok (.ifCond .eq 5, 3) := by decide +kernel
theorem dX6_firstLacking_19 : decode cX6_firstLacking 19 = .ok (.iload_n 2, 1) := by decide +kernel
theorem dX6_firstLacking_20 : decode cX6_firstLacking 20 = .ok (.ireturn, 1) := by decide +kernel
theorem dX6_firstLacking_21 : decode cX6_firstLacking 21 = .ok (.iinc 2 1, 3) := by decide +kernel
theorem dX6_firstLacking_24 : decode cX6_firstLacking 24 = .ok (.goto (-22), 3) := by decide +kernel
theorem dX6_firstLacking_27 : decode cX6_firstLacking 27 = .ok (.iconst (-1), 1) := by decide +kernel
theorem dX6_firstLacking_28 : decode cX6_firstLacking 28 = .ok (.ireturn, 1) := by decide +kernel
theorem dX6_isKept_0 : decode cX6_isKept 0 = .ok (.aload_n 0, 1) := by decide +kernel
theorem dX6_isKept_1 : decode cX6_isKept 1 = .ok (.getfield 15, 3) := by decide +kernel
theorem dX6_isKept_4 : decode cX6_isKept 4 = .ok (.aload_n 1, 1) := by decide +kernel
theorem dX6_isKept_5 : decode cX6_isKept 5 = .ok (.invokevirtual 32, 3) := by decide +kernel
theorem dX6_isKept_8 : decode cX6_isKept 8 = .ok (.if_icmp .ne 16, 3) := by decide +kernel
theorem dX6_isKept_11 : decode cX6_isKept 11 = .ok (.aload_n 0, 1) := by decide +kernel
theorem dX6_isKept_12 : decode cX6_isKept 12 = .ok (.aload_n 1, 1) := by decide +kernel
theorem dX6_isKept_13 : decode cX6_isKept 13 = .ok (.invokevirtual 36, 3) := by decide +kernel
theorem dX6_isKept_16 : decode cX6_isKept 16 = .ok (.iconst (-1), 1) := by decide +kernel
theorem dX6_isKept_17 : decode cX6_isKept 17 = .ok (.if_icmp .ne 7, 3) := by decide +kernel
theorem dX6_isKept_20 : decode cX6_isKept 20 = .ok (.iconst 1, 1) := by decide +kernel
theorem dX6_isKept_21 : decode cX6_isKept 21 = .ok (.goto 4, 3) := by decide +kernel
theorem dX6_isKept_24 : decode cX6_isKept 24 = .ok (.iconst 0, 1) := by decide +kernel
theorem dX6_isKept_25 : decode cX6_isKept 25 = .ok (.ireturn, 1) := by decide +kernel
theorem dX6_weightedWaiting_0 : decode cX6_weightedWaiting 0 = .ok (.iconst 0, 1) := by decide +kernel
theorem dX6_weightedWaiting_1 : decode cX6_weightedWaiting 1 = .ok (.istore_n 2, 1) := by decide +kernel
theorem dX6_weightedWaiting_2 : decode cX6_weightedWaiting 2 = .ok (.iconst 0, 1) := by decide +kernel
theorem dX6_weightedWaiting_3 : decode cX6_weightedWaiting 3 = .ok (.istore_n 3, 1) := by decide +kernel
theorem dX6_weightedWaiting_4 : decode cX6_weightedWaiting 4 = .ok (.iconst 0, 1) := by decide +kernel
theorem dX6_weightedWaiting_5 : decode cX6_weightedWaiting 5 = .ok (.istore 4, 2) := by decide +kernel
theorem dX6_weightedWaiting_7 : decode cX6_weightedWaiting 7 = .ok (.iload 4, 2) := by decide +kernel
theorem dX6_weightedWaiting_9 : decode cX6_weightedWaiting 9 = .ok (.aload_n 0, 1) := by decide +kernel
theorem dX6_weightedWaiting_10 : decode cX6_weightedWaiting 10 = .ok (.getfield 15, 3) := by decide +kernel
theorem dX6_weightedWaiting_13 : decode cX6_weightedWaiting 13 = .ok (.if_icmp .ge 50, 3) := by decide +kernel
theorem dX6_weightedWaiting_16 : decode cX6_weightedWaiting 16 = .ok (.aload_n 0, 1) := by decide +kernel
theorem dX6_weightedWaiting_17 : decode cX6_weightedWaiting 17 = .ok (.getfield 9, 3) := by decide +kernel
theorem dX6_weightedWaiting_20 : decode cX6_weightedWaiting 20 = .ok (.iload 4, 2) := by decide +kernel
theorem dX6_weightedWaiting_22 : decode cX6_weightedWaiting 22 = .ok (.iaload, 1) := by decide +kernel
theorem dX6_weightedWaiting_23 : decode cX6_weightedWaiting 23 = .ok (.istore 5, 2) := by decide +kernel
theorem dX6_weightedWaiting_25 : decode cX6_weightedWaiting 25 = .ok (.iload_n 2, 1) := by decide +kernel
theorem dX6_weightedWaiting_26 : decode cX6_weightedWaiting 26 = .ok (.aload_n 1, 1) := by decide +kernel
theorem dX6_weightedWaiting_27 : decode cX6_weightedWaiting 27 = .ok (.iload 5, 2) := by decide +kernel
theorem dX6_weightedWaiting_29 : decode cX6_weightedWaiting 29 = .ok (.iconst 2, 1) := by decide +kernel
theorem dX6_weightedWaiting_30 : decode cX6_weightedWaiting 30 = .ok (.invokevirtual 40, 3) := by decide +kernel
theorem dX6_weightedWaiting_33 : decode cX6_weightedWaiting 33 = .ok (.invokestatic 44, 3) := by decide +kernel
theorem dX6_weightedWaiting_36 : decode cX6_weightedWaiting 36 = .ok (.aload_n 1, 1) := by decide +kernel
theorem dX6_weightedWaiting_37 : decode cX6_weightedWaiting 37 = .ok (.iload 5, 2) := by decide +kernel
theorem dX6_weightedWaiting_39 : decode cX6_weightedWaiting 39 = .ok (.iconst 0, 1) := by decide +kernel
theorem dX6_weightedWaiting_40 : decode cX6_weightedWaiting 40 = .ok (.invokevirtual 40, 3) := by decide +kernel
theorem dX6_weightedWaiting_43 : decode cX6_weightedWaiting 43 = .ok (.iadd, 1) := by decide +kernel
theorem dX6_weightedWaiting_44 : decode cX6_weightedWaiting 44 = .ok (.istore_n 2, 1) := by decide +kernel
theorem dX6_weightedWaiting_45 : decode cX6_weightedWaiting 45 = .ok (.iload_n 3, 1) := by decide +kernel
theorem dX6_weightedWaiting_46 : decode cX6_weightedWaiting 46 = .ok (.aload_n 1, 1) := by decide +kernel
theorem dX6_weightedWaiting_47 : decode cX6_weightedWaiting 47 = .ok (.iload 5, 2) := by decide +kernel
theorem dX6_weightedWaiting_49 : decode cX6_weightedWaiting 49 = .ok (.iconst 1, 1) := by decide +kernel
theorem dX6_weightedWaiting_50 : decode cX6_weightedWaiting 50 = .ok (.invokevirtual 40, 3) := by decide +kernel
theorem dX6_weightedWaiting_53 : decode cX6_weightedWaiting 53 = .ok (.iload_n 2, 1) := by decide +kernel
theorem dX6_weightedWaiting_54 : decode cX6_weightedWaiting 54 = .ok (.imul, 1) := by decide +kernel
theorem dX6_weightedWaiting_55 : decode cX6_weightedWaiting 55 = .ok (.iadd, 1) := by decide +kernel
theorem dX6_weightedWaiting_56 : decode cX6_weightedWaiting 56 = .ok (.istore_n 3, 1) := by decide +kernel
theorem dX6_weightedWaiting_57 : decode cX6_weightedWaiting 57 = .ok (.iinc 4 1, 3) := by decide +kernel
theorem dX6_weightedWaiting_60 : decode cX6_weightedWaiting 60 = .ok (.goto (-53), 3) := by decide +kernel
theorem dX6_weightedWaiting_63 : decode cX6_weightedWaiting 63 = .ok (.iload_n 3, 1) := by decide +kernel
theorem dX6_weightedWaiting_64 : decode cX6_weightedWaiting 64 = .ok (.ireturn, 1) := by decide +kernel
theorem dX7_init_0 : decode cX7_init 0 = .ok (.aload_n 0, 1) := by decide +kernel
theorem dX7_init_1 : decode cX7_init 1 = .ok (.invokespecial 3, 3) := by decide +kernel
theorem dX7_init_4 : decode cX7_init 4 = .ok (.aload_n 0, 1) := by decide +kernel
theorem dX7_init_5 : decode cX7_init 5 = .ok (.bipush 12, 2) := by decide +kernel
theorem dX7_init_7 : decode cX7_init 7 = .ok (.newarray .int, 2) := by decide +kernel
theorem dX7_init_9 : decode cX7_init 9 = .ok (.putfield 9, 3) := by decide +kernel
theorem dX7_init_12 : decode cX7_init 12 = .ok (.aload_n 0, 1) := by decide +kernel
theorem dX7_init_13 : decode cX7_init 13 = .ok (.iconst (-1), 1) := by decide +kernel
theorem dX7_init_14 : decode cX7_init 14 = .ok (.putfield 15, 3) := by decide +kernel
theorem dX7_init_17 : decode cX7_init 17 = .ok (.aload_n 0, 1) := by decide +kernel
theorem dX7_init_18 : decode cX7_init 18 = .ok (.sipush 4096, 3) := by decide +kernel
theorem dX7_init_21 : decode cX7_init 21 = .ok (.newarray .int, 2) := by decide +kernel
theorem dX7_init_23 : decode cX7_init 23 = .ok (.putfield 19, 3) := by decide +kernel
theorem dX7_init_26 : decode cX7_init 26 = .ok (.aload_n 0, 1) := by decide +kernel
theorem dX7_init_27 : decode cX7_init 27 = .ok (.sipush 4096, 3) := by decide +kernel
theorem dX7_init_30 : decode cX7_init 30 = .ok (.newarray .int, 2) := by decide +kernel
theorem dX7_init_32 : decode cX7_init 32 = .ok (.putfield 22, 3) := by decide +kernel
theorem dX7_init_35 : decode cX7_init 35 = .ok (.aload_n 0, 1) := by decide +kernel
theorem dX7_init_36 : decode cX7_init 36 = .ok (.bipush 12, 2) := by decide +kernel
theorem dX7_init_38 : decode cX7_init 38 = .ok (.newarray .int, 2) := by decide +kernel
theorem dX7_init_40 : decode cX7_init 40 = .ok (.putfield 25, 3) := by decide +kernel
theorem dX7_init_43 : decode cX7_init 43 = .ok (.aload_n 0, 1) := by decide +kernel
theorem dX7_init_44 : decode cX7_init 44 = .ok (.iconst (-1), 1) := by decide +kernel
theorem dX7_init_45 : decode cX7_init 45 = .ok (.putfield 28, 3) := by decide +kernel
theorem dX7_init_48 : decode cX7_init 48 = .ok (.aload_n 0, 1) := by decide +kernel
theorem dX7_init_49 : decode cX7_init 49 = .ok (.bipush 12, 2) := by decide +kernel
theorem dX7_init_51 : decode cX7_init 51 = .ok (.newarray .int, 2) := by decide +kernel
theorem dX7_init_53 : decode cX7_init 53 = .ok (.putfield 31, 3) := by decide +kernel
theorem dX7_init_56 : decode cX7_init 56 = .ok (.aload_n 0, 1) := by decide +kernel
theorem dX7_init_57 : decode cX7_init 57 = .ok (.iconst (-1), 1) := by decide +kernel
theorem dX7_init_58 : decode cX7_init 58 = .ok (.putfield 34, 3) := by decide +kernel
theorem dX7_init_61 : decode cX7_init 61 = .ok (.return_, 1) := by decide +kernel
theorem dX7_blocks_0 : decode cX7_blocks 0 = .ok (.aload_n 0, 1) := by decide +kernel
theorem dX7_blocks_1 : decode cX7_blocks 1 = .ok (.getfield 15, 3) := by decide +kernel
theorem dX7_blocks_4 : decode cX7_blocks 4 = .ok (.aload_n 1, 1) := by decide +kernel
theorem dX7_blocks_5 : decode cX7_blocks 5 = .ok (.invokevirtual 37, 3) := by decide +kernel
theorem dX7_blocks_8 : decode cX7_blocks 8 = .ok (.if_icmp .eq 16, 3) := by decide +kernel
theorem dX7_blocks_11 : decode cX7_blocks 11 = .ok (.aload_n 0, 1) := by decide +kernel
theorem dX7_blocks_12 : decode cX7_blocks 12 = .ok (.aload_n 1, 1) := by decide +kernel
theorem dX7_blocks_13 : decode cX7_blocks 13 = .ok (.invokevirtual 43, 3) := by decide +kernel
theorem dX7_blocks_16 : decode cX7_blocks 16 = .ok (.aload_n 0, 1) := by decide +kernel
theorem dX7_blocks_17 : decode cX7_blocks 17 = .ok (.aload_n 1, 1) := by decide +kernel
theorem dX7_blocks_18 : decode cX7_blocks 18 = .ok (.invokevirtual 37, 3) := by decide +kernel
theorem dX7_blocks_21 : decode cX7_blocks 21 = .ok (.putfield 15, 3) := by decide +kernel
theorem dX7_blocks_24 : decode cX7_blocks 24 = .ok (.aload_n 0, 1) := by decide +kernel
theorem dX7_blocks_25 : decode cX7_blocks 25 = .ok (.getfield 47, 3) := by decide +kernel
theorem dX7_blocks_28 : decode cX7_blocks 28 = .ok (.ireturn, 1) := by decide +kernel
theorem dX7_blockBits_0 : decode cX7_blockBits 0 = .ok (.aload_n 0, 1) := by decide +kernel
theorem dX7_blockBits_1 : decode cX7_blockBits 1 = .ok (.getfield 9, 3) := by decide +kernel
theorem dX7_blockBits_4 : decode cX7_blockBits 4 = .ok (.iload_n 1, 1) := by decide +kernel
theorem dX7_blockBits_5 : decode cX7_blockBits 5 = .ok (.iaload, 1) := by decide +kernel
theorem dX7_blockBits_6 : decode cX7_blockBits 6 = .ok (.ireturn, 1) := by decide +kernel
theorem dX7_blockOf_0 : decode cX7_blockOf 0 = .ok (.aload_n 0, 1) := by decide +kernel
theorem dX7_blockOf_1 : decode cX7_blockOf 1 = .ok (.aload_n 1, 1) := by decide +kernel
theorem dX7_blockOf_2 : decode cX7_blockOf 2 = .ok (.invokevirtual 50, 3) := by decide +kernel
theorem dX7_blockOf_5 : decode cX7_blockOf 5 = .ok (.istore_n 3, 1) := by decide +kernel
theorem dX7_blockOf_6 : decode cX7_blockOf 6 = .ok (.iconst 0, 1) := by decide +kernel
theorem dX7_blockOf_7 : decode cX7_blockOf 7 = .ok (.istore 4, 2) := by decide +kernel
theorem dX7_blockOf_9 : decode cX7_blockOf 9 = .ok (.iload 4, 2) := by decide +kernel
theorem dX7_blockOf_11 : decode cX7_blockOf 11 = .ok (.iload_n 3, 1) := by decide +kernel
theorem dX7_blockOf_12 : decode cX7_blockOf 12 = .ok (.if_icmp .ge 26, 3) := by decide +kernel
theorem dX7_blockOf_15 : decode cX7_blockOf 15 = .ok (.aload_n 0, 1) := by decide +kernel
theorem dX7_blockOf_16 : decode cX7_blockOf 16 = .ok (.getfield 9, 3) := by decide +kernel
theorem dX7_blockOf_19 : decode cX7_blockOf 19 = .ok (.iload 4, 2) := by decide +kernel
theorem dX7_blockOf_21 : decode cX7_blockOf 21 = .ok (.iaload, 1) := by decide +kernel
theorem dX7_blockOf_22 : decode cX7_blockOf 22 = .ok (.iload_n 2, 1) := by decide +kernel
theorem dX7_blockOf_23 : decode cX7_blockOf 23 = .ok (.invokestatic 53, 3) := by decide +kernel
theorem dX7_blockOf_26 : decode cX7_blockOf 26 = .ok (.ifCond .eq 6, 3) := by decide +kernel
theorem dX7_blockOf_29 : decode cX7_blockOf 29 = .ok (.iload 4, 2) := by decide +kernel
theorem dX7_blockOf_31 : decode cX7_blockOf 31 = .ok (.ireturn, 1) := by decide +kernel
theorem dX7_blockOf_32 : decode cX7_blockOf 32 = .ok (.iinc 4 1, 3) := by decide +kernel
theorem dX7_blockOf_35 : decode cX7_blockOf 35 = .ok (.goto (-26), 3) := by decide +kernel
theorem dX7_blockOf_38 : decode cX7_blockOf 38 = .ok (.iconst (-1), 1) := by decide +kernel
theorem dX7_blockOf_39 : decode cX7_blockOf 39 = .ok (.ireturn, 1) := by decide +kernel
theorem dX7_leastCost_0 : decode cX7_leastCost 0 = .ok (.aload_n 0, 1) := by decide +kernel
theorem dX7_leastCost_1 : decode cX7_leastCost 1 = .ok (.aload_n 1, 1) := by decide +kernel
theorem dX7_leastCost_2 : decode cX7_leastCost 2 = .ok (.invokevirtual 57, 3) := by decide +kernel
theorem dX7_leastCost_5 : decode cX7_leastCost 5 = .ok (.aload_n 0, 1) := by decide +kernel
theorem dX7_leastCost_6 : decode cX7_leastCost 6 = .ok (.getfield 19, 3) := by decide +kernel
theorem dX7_leastCost_9 : decode cX7_leastCost 9 = .ok (.iconst 0, 1) := by decide +kernel
theorem dX7_leastCost_10 : decode cX7_leastCost 10 = .ok (.iaload, 1) := by decide +kernel
theorem dX7_leastCost_11 : decode cX7_leastCost 11 = .ok (.ireturn, 1) := by decide +kernel
theorem dX7_bestOrders_0 : decode cX7_bestOrders 0 = .ok (.aload_n 0, 1) := by decide +kernel
theorem dX7_bestOrders_1 : decode cX7_bestOrders 1 = .ok (.aload_n 1, 1) := by decide +kernel
theorem dX7_bestOrders_2 : decode cX7_bestOrders 2 = .ok (.invokevirtual 57, 3) := by decide +kernel
theorem dX7_bestOrders_5 : decode cX7_bestOrders 5 = .ok (.aload_n 0, 1) := by decide +kernel
theorem dX7_bestOrders_6 : decode cX7_bestOrders 6 = .ok (.getfield 22, 3) := by decide +kernel
theorem dX7_bestOrders_9 : decode cX7_bestOrders 9 = .ok (.iconst 0, 1) := by decide +kernel
theorem dX7_bestOrders_10 : decode cX7_bestOrders 10 = .ok (.iaload, 1) := by decide +kernel
theorem dX7_bestOrders_11 : decode cX7_bestOrders 11 = .ok (.ireturn, 1) := by decide +kernel
theorem dX7_bestAt_0 : decode cX7_bestAt 0 = .ok (.aload_n 0, 1) := by decide +kernel
theorem dX7_bestAt_1 : decode cX7_bestAt 1 = .ok (.aload_n 1, 1) := by decide +kernel
theorem dX7_bestAt_2 : decode cX7_bestAt 2 = .ok (.invokevirtual 57, 3) := by decide +kernel
theorem dX7_bestAt_5 : decode cX7_bestAt 5 = .ok (.aload_n 0, 1) := by decide +kernel
theorem dX7_bestAt_6 : decode cX7_bestAt 6 = .ok (.getfield 25, 3) := by decide +kernel
theorem dX7_bestAt_9 : decode cX7_bestAt 9 = .ok (.iload_n 2, 1) := by decide +kernel
theorem dX7_bestAt_10 : decode cX7_bestAt 10 = .ok (.iaload, 1) := by decide +kernel
theorem dX7_bestAt_11 : decode cX7_bestAt 11 = .ok (.ireturn, 1) := by decide +kernel
theorem dX7_mayStandAhead_0 : decode cX7_mayStandAhead 0 = .ok (.aload_n 0, 1) := by decide +kernel
theorem dX7_mayStandAhead_1 : decode cX7_mayStandAhead 1 = .ok (.aload_n 1, 1) := by decide +kernel
theorem dX7_mayStandAhead_2 : decode cX7_mayStandAhead 2 = .ok (.invokevirtual 57, 3) := by decide +kernel
theorem dX7_mayStandAhead_5 : decode cX7_mayStandAhead 5 = .ok (.aload_n 0, 1) := by decide +kernel
theorem dX7_mayStandAhead_6 : decode cX7_mayStandAhead 6 = .ok (.getfield 34, 3) := by decide +kernel
theorem dX7_mayStandAhead_9 : decode cX7_mayStandAhead 9 = .ok (.aload_n 1, 1) := by decide +kernel
theorem dX7_mayStandAhead_10 : decode cX7_mayStandAhead 10 = .ok (.invokevirtual 37, 3) := by decide +kernel
theorem dX7_mayStandAhead_13 : decode cX7_mayStandAhead 13 = .ok (.if_icmp .eq 16, 3) := by decide +kernel
theorem dX7_mayStandAhead_16 : decode cX7_mayStandAhead 16 = .ok (.aload_n 0, 1) := by decide +kernel
theorem dX7_mayStandAhead_17 : decode cX7_mayStandAhead 17 = .ok (.aload_n 1, 1) := by decide +kernel
theorem dX7_mayStandAhead_18 : decode cX7_mayStandAhead 18 = .ok (.invokevirtual 60, 3) := by decide +kernel
theorem dX7_mayStandAhead_21 : decode cX7_mayStandAhead 21 = .ok (.aload_n 0, 1) := by decide +kernel
theorem dX7_mayStandAhead_22 : decode cX7_mayStandAhead 22 = .ok (.aload_n 1, 1) := by decide +kernel
theorem dX7_mayStandAhead_23 : decode cX7_mayStandAhead 23 = .ok (.invokevirtual 37, 3) := by decide +kernel
theorem dX7_mayStandAhead_26 : decode cX7_mayStandAhead 26 = .ok (.putfield 34, 3) := by decide +kernel
theorem dX7_mayStandAhead_29 : decode cX7_mayStandAhead 29 = .ok (.aload_n 0, 1) := by decide +kernel
theorem dX7_mayStandAhead_30 : decode cX7_mayStandAhead 30 = .ok (.getfield 31, 3) := by decide +kernel
theorem dX7_mayStandAhead_33 : decode cX7_mayStandAhead 33 = .ok (.iload_n 2, 1) := by decide +kernel
theorem dX7_mayStandAhead_34 : decode cX7_mayStandAhead 34 = .ok (.iaload, 1) := by decide +kernel
theorem dX7_mayStandAhead_35 : decode cX7_mayStandAhead 35 = .ok (.iload_n 3, 1) := by decide +kernel
theorem dX7_mayStandAhead_36 : decode cX7_mayStandAhead 36 = .ok (.invokestatic 53, 3) := by decide +kernel
theorem dX7_mayStandAhead_39 : decode cX7_mayStandAhead 39 = .ok (.ireturn, 1) := by decide +kernel
theorem dX7_findBlocks_0 : decode cX7_findBlocks 0 = .ok (.iconst 0, 1) := by decide +kernel
theorem dX7_findBlocks_1 : decode cX7_findBlocks 1 = .ok (.istore_n 2, 1) := by decide +kernel
theorem dX7_findBlocks_2 : decode cX7_findBlocks 2 = .ok (.aload_n 0, 1) := by decide +kernel
theorem dX7_findBlocks_3 : decode cX7_findBlocks 3 = .ok (.iconst 0, 1) := by decide +kernel
theorem dX7_findBlocks_4 : decode cX7_findBlocks 4 = .ok (.putfield 47, 3) := by decide +kernel
theorem dX7_findBlocks_7 : decode cX7_findBlocks 7 = .ok (.iconst 0, 1) := by decide +kernel
theorem dX7_findBlocks_8 : decode cX7_findBlocks 8 = .ok (.istore_n 3, 1) := by decide +kernel
theorem dX7_findBlocks_9 : decode cX7_findBlocks 9 = .ok (.iload_n 3, 1) := by decide +kernel
theorem dX7_findBlocks_10 : decode cX7_findBlocks 10 = .ok (.bipush 12, 2) := by decide +kernel
theorem dX7_findBlocks_12 : decode cX7_findBlocks 12 = .ok (.if_icmp .ge 47, 3) := by decide +kernel
theorem dX7_findBlocks_15 : decode cX7_findBlocks 15 = .ok (.iload_n 2, 1) := by decide +kernel
theorem dX7_findBlocks_16 : decode cX7_findBlocks 16 = .ok (.aload_n 1, 1) := by decide +kernel
theorem dX7_findBlocks_17 : decode cX7_findBlocks 17 = .ok (.invokevirtual 63, 3) := by decide +kernel
theorem dX7_findBlocks_20 : decode cX7_findBlocks 20 = .ok (.if_icmp .eq 39, 3) := by decide +kernel
theorem dX7_findBlocks_23 : decode cX7_findBlocks 23 = .ok (.aload_n 0, 1) := by decide +kernel
theorem dX7_findBlocks_24 : decode cX7_findBlocks 24 = .ok (.getfield 9, 3) := by decide +kernel
theorem dX7_findBlocks_27 : decode cX7_findBlocks 27 = .ok (.iload_n 3, 1) := by decide +kernel
theorem dX7_findBlocks_28 : decode cX7_findBlocks 28 = .ok (.aload_n 1, 1) := by decide +kernel
theorem dX7_findBlocks_29 : decode cX7_findBlocks 29 = .ok (.iload_n 2, 1) := by decide +kernel
theorem dX7_findBlocks_30 : decode cX7_findBlocks 30 = .ok (.invokestatic 66, 3) := by decide +kernel
theorem dX7_findBlocks_33 : decode cX7_findBlocks 33 = .ok (.iastore, 1) := by decide +kernel
theorem dX7_findBlocks_34 : decode cX7_findBlocks 34 = .ok (.iload_n 2, 1) := by decide +kernel
theorem dX7_findBlocks_35 : decode cX7_findBlocks 35 = .ok (.aload_n 0, 1) := by decide +kernel
theorem dX7_findBlocks_36 : decode cX7_findBlocks 36 = .ok (.getfield 9, 3) := by decide +kernel
theorem dX7_findBlocks_39 : decode cX7_findBlocks 39 = .ok (.iload_n 3, 1) := by decide +kernel
theorem dX7_findBlocks_40 : decode cX7_findBlocks 40 = .ok (.iaload, 1) := by decide +kernel
theorem dX7_findBlocks_41 : decode cX7_findBlocks 41 = .ok (.ior, 1) := by decide +kernel
theorem dX7_findBlocks_42 : decode cX7_findBlocks 42 = .ok (.istore_n 2, 1) := by decide +kernel
theorem dX7_findBlocks_43 : decode cX7_findBlocks 43 = .ok (.aload_n 0, 1) := by decide +kernel
theorem dX7_findBlocks_44 : decode cX7_findBlocks 44 = .ok (.dup, 1) := by decide +kernel
theorem dX7_findBlocks_45 : decode cX7_findBlocks 45 = .ok (.getfield 47, 3) := by decide +kernel
theorem dX7_findBlocks_48 : decode cX7_findBlocks 48 = .ok (.iconst 1, 1) := by decide +kernel
theorem dX7_findBlocks_49 : decode cX7_findBlocks 49 = .ok (.iadd, 1) := by decide +kernel
theorem dX7_findBlocks_50 : decode cX7_findBlocks 50 = .ok (.putfield 47, 3) := by decide +kernel
theorem dX7_findBlocks_53 : decode cX7_findBlocks 53 = .ok (.iinc 3 1, 3) := by decide +kernel
theorem dX7_findBlocks_56 : decode cX7_findBlocks 56 = .ok (.goto (-47), 3) := by decide +kernel
theorem dX7_findBlocks_59 : decode cX7_findBlocks 59 = .ok (.return_, 1) := by decide +kernel
theorem dX7_findBlock_0 : decode cX7_findBlock 0 = .ok (.aload_n 0, 1) := by decide +kernel
theorem dX7_findBlock_1 : decode cX7_findBlock 1 = .ok (.invokevirtual 63, 3) := by decide +kernel
theorem dX7_findBlock_4 : decode cX7_findBlock 4 = .ok (.iload_n 1, 1) := by decide +kernel
theorem dX7_findBlock_5 : decode cX7_findBlock 5 = .ok (.iconst (-1), 1) := by decide +kernel
theorem dX7_findBlock_6 : decode cX7_findBlock 6 = .ok (.ixor, 1) := by decide +kernel
theorem dX7_findBlock_7 : decode cX7_findBlock 7 = .ok (.iand, 1) := by decide +kernel
theorem dX7_findBlock_8 : decode cX7_findBlock 8 = .ok (.istore_n 2, 1) := by decide +kernel
theorem dX7_findBlock_9 : decode cX7_findBlock 9 = .ok (.iload_n 2, 1) := by decide +kernel
theorem dX7_findBlock_10 : decode cX7_findBlock 10 = .ok (.istore_n 3, 1) := by decide +kernel
theorem dX7_findBlock_11 : decode cX7_findBlock 11 = .ok (.aload_n 0, 1) := by decide +kernel
theorem dX7_findBlock_12 : decode cX7_findBlock 12 = .ok (.iload_n 2, 1) := by decide +kernel
theorem dX7_findBlock_13 : decode cX7_findBlock 13 = .ok (.invokevirtual 70, 3) := by decide +kernel
theorem dX7_findBlock_16 : decode cX7_findBlock 16 = .ok (.istore 4, 2) := by decide +kernel
theorem dX7_findBlock_18 : decode cX7_findBlock 18 = .ok (.aload_n 0, 1) := by decide +kernel
theorem dX7_findBlock_19 : decode cX7_findBlock 19 = .ok (.iload_n 2, 1) := by decide +kernel
theorem dX7_findBlock_20 : decode cX7_findBlock 20 = .ok (.invokevirtual 74, 3) := by decide +kernel
theorem dX7_findBlock_23 : decode cX7_findBlock 23 = .ok (.istore 5, 2) := by decide +kernel
theorem dX7_findBlock_25 : decode cX7_findBlock 25 = .ok (.iload_n 2, 1) := by decide +kernel
theorem dX7_findBlock_26 : decode cX7_findBlock 26 = .ok (.istore 6, 2) := by decide +kernel
theorem dX7_findBlock_28 : decode cX7_findBlock 28 = .ok (.iload 6, 2) := by decide +kernel
theorem dX7_findBlock_30 : decode cX7_findBlock 30 = .ok (.ifCond .le 81, 3) := by decide +kernel
theorem dX7_findBlock_33 : decode cX7_findBlock 33 = .ok (.aload_n 0, 1) := by decide +kernel
theorem dX7_findBlock_34 : decode cX7_findBlock 34 = .ok (.iload 6, 2) := by decide +kernel
theorem dX7_findBlock_36 : decode cX7_findBlock 36 = .ok (.iload_n 1, 1) := by decide +kernel
theorem dX7_findBlock_37 : decode cX7_findBlock 37 = .ok (.invokevirtual 77, 3) := by decide +kernel
theorem dX7_findBlock_40 : decode cX7_findBlock 40 = .ok (.ifCond .eq 60, 3) := by decide +kernel
theorem dX7_findBlock_43 : decode cX7_findBlock 43 = .ok (.aload_n 0, 1) := by decide +kernel
theorem dX7_findBlock_44 : decode cX7_findBlock 44 = .ok (.iload 6, 2) := by decide +kernel
theorem dX7_findBlock_46 : decode cX7_findBlock 46 = .ok (.invokevirtual 70, 3) := by decide +kernel
theorem dX7_findBlock_49 : decode cX7_findBlock 49 = .ok (.istore 7, 2) := by decide +kernel
theorem dX7_findBlock_51 : decode cX7_findBlock 51 = .ok (.aload_n 0, 1) := by decide +kernel
theorem dX7_findBlock_52 : decode cX7_findBlock 52 = .ok (.iload 6, 2) := by decide +kernel
theorem dX7_findBlock_54 : decode cX7_findBlock 54 = .ok (.invokevirtual 74, 3) := by decide +kernel
theorem dX7_findBlock_57 : decode cX7_findBlock 57 = .ok (.istore 8, 2) := by decide +kernel
theorem dX7_findBlock_59 : decode cX7_findBlock 59 = .ok (.iload 8, 2) := by decide +kernel
theorem dX7_findBlock_61 : decode cX7_findBlock 61 = .ok (.iload 4, 2) := by decide +kernel
theorem dX7_findBlock_63 : decode cX7_findBlock 63 = .ok (.imul, 1) := by decide +kernel
theorem dX7_findBlock_64 : decode cX7_findBlock 64 = .ok (.iload 5, 2) := by decide +kernel
theorem dX7_findBlock_66 : decode cX7_findBlock 66 = .ok (.iload 7, 2) := by decide +kernel
theorem dX7_findBlock_68 : decode cX7_findBlock 68 = .ok (.imul, 1) := by decide +kernel
theorem dX7_findBlock_69 : decode cX7_findBlock 69 = .ok (.isub, 1) := by decide +kernel
theorem dX7_findBlock_70 : decode cX7_findBlock 70 = .ok (.istore 9, 2) := by decide +kernel
theorem dX7_findBlock_72 : decode cX7_findBlock 72 = .ok (.iload 9, 2) := by decide +kernel
theorem dX7_findBlock_74 : decode cX7_findBlock 74 = .ok (.ifCond .gt 15, 3) := by decide +kernel
theorem dX7_findBlock_77 : decode cX7_findBlock 77 = .ok (.iload 9, 2) := by decide +kernel
theorem dX7_findBlock_79 : decode cX7_findBlock 79 = .ok (.ifCond .ne 21, 3) := by decide +kernel
theorem dX7_findBlock_82 : decode cX7_findBlock 82 = .ok (.iload 7, 2) := by decide +kernel
theorem dX7_findBlock_84 : decode cX7_findBlock 84 = .ok (.iload 4, 2) := by decide +kernel
theorem dX7_findBlock_86 : decode cX7_findBlock 86 = .ok (.if_icmp .le 14, 3) := by decide +kernel
theorem dX7_findBlock_89 : decode cX7_findBlock 89 = .ok (.iload 6, 2) := by decide +kernel
theorem dX7_findBlock_91 : decode cX7_findBlock 91 = .ok (.istore_n 3, 1) := by decide +kernel
theorem dX7_findBlock_92 : decode cX7_findBlock 92 = .ok (.iload 7, 2) := by decide +kernel
theorem dX7_findBlock_94 : decode cX7_findBlock 94 = .ok (.istore 4, 2) := by decide +kernel
theorem dX7_findBlock_96 : decode cX7_findBlock 96 = .ok (.iload 8, 2) := by decide +kernel
theorem dX7_findBlock_98 : decode cX7_findBlock 98 = .ok (.istore 5, 2) := by decide +kernel
theorem dX7_findBlock_100 : decode cX7_findBlock 100 = .ok (.iload 6, 2) := by decide +kernel
theorem dX7_findBlock_102 : decode cX7_findBlock 102 = .ok (.iconst 1, 1) := by decide +kernel
theorem dX7_findBlock_103 : decode cX7_findBlock 103 = .ok (.isub, 1) := by decide +kernel
theorem dX7_findBlock_104 : decode cX7_findBlock 104 = .ok (.iload_n 2, 1) := by decide +kernel
theorem dX7_findBlock_105 : decode cX7_findBlock 105 = .ok (.iand, 1) := by decide +kernel
theorem dX7_findBlock_106 : decode cX7_findBlock 106 = .ok (.istore 6, 2) := by decide +kernel
theorem dX7_findBlock_108 : decode cX7_findBlock 108 = .ok (.goto (-80), 3) := by decide +kernel
theorem dX7_findBlock_111 : decode cX7_findBlock 111 = .ok (.iload_n 3, 1) := by decide +kernel
theorem dX7_findBlock_112 : decode cX7_findBlock 112 = .ok (.ireturn, 1) := by decide +kernel
theorem dX7_findOrders_0 : decode cX7_findOrders 0 = .ok (.aload_n 0, 1) := by decide +kernel
theorem dX7_findOrders_1 : decode cX7_findOrders 1 = .ok (.getfield 28, 3) := by decide +kernel
