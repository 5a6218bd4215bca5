def RX0 : String := "StratumLedge$Backup"
def TX0 : u_T := fun k => match k with
  | 0 => ("StratumLedge$Backup", "families", "Ljava/util/ArrayList;", true)
  | _ => ("StratumLedge$Backup", "states", "[I", true)
def tyX0 : Nat → FieldType := fun k => match k with
  | 0 => .object "java/util/ArrayList"
  | _ => .array .int
abbrev wsX00 : List Cond := u_ws RX0 TX0 2
theorem nmX0 : ∀ a, a < 2 → ∀ b, b < 2 → a ≠ b → (TX0 a).2.1 ≠ (TX0 b).2.1 := by decide +kernel
theorem tyX0_ok : ∀ k, k < 2 → parseFieldDescriptor (TX0 k).2.2.1 = some (tyX0 k) := by decide +kernel
abbrev cX0_init : ByteArray := prog_2_method_1_code
def yX0_init : MethodName := ⟨RX0, "<init>", "(Ljava/util/ArrayList;Ljava/util/ArrayList;)V"⟩
def RX1 : String := "StratumLedge$Change"
def TX1 : u_T := fun k => match k with
  | 0 => ("StratumLedge$Change", "kind", "I", true)
  | 1 => ("StratumLedge$Change", "number", "I", true)
  | 2 => ("StratumLedge$Change", "from", "I", true)
  | 3 => ("StratumLedge$Change", "to", "I", true)
  | _ => ("StratumLedge$Change", "amount", "I", true)
def tyX1 : Nat → FieldType := fun k => match k with
  | 0 => .int
  | 1 => .int
  | 2 => .int
  | 3 => .int
  | _ => .int
abbrev wsX10 : List Cond := u_ws RX1 TX1 5
theorem nmX1 : ∀ a, a < 5 → ∀ b, b < 5 → a ≠ b → (TX1 a).2.1 ≠ (TX1 b).2.1 := by decide +kernel
theorem tyX1_ok : ∀ k, k < 5 → parseFieldDescriptor (TX1 k).2.2.1 = some (tyX1 k) := by decide +kernel
abbrev cX1_init : ByteArray := prog_3_method_1_code
def yX1_init : MethodName := ⟨RX1, "<init>", "(IIIII)V"⟩
abbrev cX1_overlaps : ByteArray := prog_3_method_2_code
def yX1_overlaps : MethodName := ⟨RX1, "overlaps", "(II)Z"⟩
def RX2 : String := "StratumLedge$Cursor"
def TX2 : u_T := fun k => match k with
  | 0 => ("StratumLedge$Cursor", "id", "I", true)
  | 1 => ("StratumLedge$Cursor", "home", "LStratumLedge$Family;", true)
  | 2 => ("StratumLedge$Cursor", "moment", "I", true)
  | _ => ("StratumLedge$Cursor", "place", "I", false)
def tyX2 : Nat → FieldType := fun k => match k with
  | 0 => .int
  | 1 => .object "StratumLedge$Family"
  | 2 => .int
  | _ => .int
abbrev wsX20 : List Cond := u_ws RX2 TX2 4
theorem nmX2 : ∀ a, a < 4 → ∀ b, b < 4 → a ≠ b → (TX2 a).2.1 ≠ (TX2 b).2.1 := by decide +kernel
theorem tyX2_ok : ∀ k, k < 4 → parseFieldDescriptor (TX2 k).2.2.1 = some (tyX2 k) := by decide +kernel
abbrev cX2_init : ByteArray := prog_4_method_1_code
def yX2_init : MethodName := ⟨RX2, "<init>", "(ILStratumLedge$Family;I)V"⟩
def RX3 : String := "StratumLedge$Family"
def TX3 : u_T := fun k => match k with
  | 0 => ("StratumLedge$Family", "index", "I", true)
  | 1 => ("StratumLedge$Family", "operator", "C", true)
  | _ => ("StratumLedge$Family", "levels", "[LStratumLedge$Level;", true)
def tyX3 : Nat → FieldType := fun k => match k with
  | 0 => .int
  | 1 => .char
  | _ => .array (.object "StratumLedge$Level")
abbrev wsX30 : List Cond := u_ws RX3 TX3 3
theorem nmX3 : ∀ a, a < 3 → ∀ b, b < 3 → a ≠ b → (TX3 a).2.1 ≠ (TX3 b).2.1 := by decide +kernel
theorem tyX3_ok : ∀ k, k < 3 → parseFieldDescriptor (TX3 k).2.2.1 = some (tyX3 k) := by decide +kernel
abbrev cX3_init : ByteArray := prog_5_method_1_code
def yX3_init : MethodName := ⟨RX3, "<init>", "(IC)V"⟩
abbrev cX3_floor : ByteArray := prog_5_method_2_code
def yX3_floor : MethodName := ⟨RX3, "floor", "(I)LStratumLedge$Level;"⟩
abbrev cX3_become : ByteArray := prog_5_method_3_code
def yX3_become : MethodName := ⟨RX3, "become", "(LStratumLedge$Family;)V"⟩
abbrev cX3_countRuns : ByteArray := prog_5_method_4_code
def yX3_countRuns : MethodName := ⟨RX3, "countRuns", "()I"⟩
abbrev cX3_countShared : ByteArray := prog_5_method_5_code
def yX3_countShared : MethodName := ⟨RX3, "countShared", "(LStratumLedge$Family;)I"⟩
abbrev cX3_hasRun : ByteArray := prog_5_method_6_code
def yX3_hasRun : MethodName := ⟨RX3, "hasRun", "(LStratumLedge$Run;)Z"⟩
abbrev cX3_overlapsBelow : ByteArray := prog_5_method_7_code
def yX3_overlapsBelow : MethodName := ⟨RX3, "overlapsBelow", "(III)Z"⟩
abbrev cX3_isInShape : ByteArray := prog_5_method_8_code
def yX3_isInShape : MethodName := ⟨RX3, "isInShape", "()Z"⟩
def RX4 : String := "StratumLedge$Finding"
def TX4 : u_T := fun k => match k with
  | 0 => ("StratumLedge$Finding", "isThere", "Z", false)
  | 1 => ("StratumLedge$Finding", "isEnded", "Z", false)
  | _ => ("StratumLedge$Finding", "amount", "I", false)
def tyX4 : Nat → FieldType := fun k => match k with
  | 0 => .boolean
  | 1 => .boolean
  | _ => .int
abbrev wsX40 : List Cond := u_ws RX4 TX4 3
theorem nmX4 : ∀ a, a < 3 → ∀ b, b < 3 → a ≠ b → (TX4 a).2.1 ≠ (TX4 b).2.1 := by decide +kernel
theorem tyX4_ok : ∀ k, k < 3 → parseFieldDescriptor (TX4 k).2.2.1 = some (tyX4 k) := by decide +kernel
abbrev cX4_init : ByteArray := prog_6_method_1_code
def yX4_init : MethodName := ⟨RX4, "<init>", "()V"⟩
abbrev cX4_begin : ByteArray := prog_6_method_2_code
def yX4_begin : MethodName := ⟨RX4, "begin", "()V"⟩
abbrev cX4_meet : ByteArray := prog_6_method_3_code
def yX4_meet : MethodName := ⟨RX4, "meet", "(LStratumLedge$Change;C)V"⟩
abbrev cX4_take : ByteArray := prog_6_method_4_code
def yX4_take : MethodName := ⟨RX4, "take", "(IC)V"⟩
abbrev cX4_joined : ByteArray := prog_6_method_5_code
def yX4_joined : MethodName := ⟨RX4, "joined", "(IIC)I"⟩
def RX5 : String := "StratumLedge$Level"
def TX5 : u_T := fun k => match k with
  | 0 => ("StratumLedge$Level", "list", "Ljava/util/ArrayList;", true)
  | _ => ("StratumLedge$Level", "mergedUpTo", "I", false)
def tyX5 : Nat → FieldType := fun k => match k with
  | 0 => .object "java/util/ArrayList"
  | _ => .int
abbrev wsX50 : List Cond := u_ws RX5 TX5 2
theorem nmX5 : ∀ a, a < 2 → ∀ b, b < 2 → a ≠ b → (TX5 a).2.1 ≠ (TX5 b).2.1 := by decide +kernel
theorem tyX5_ok : ∀ k, k < 2 → parseFieldDescriptor (TX5 k).2.2.1 = some (tyX5 k) := by decide +kernel
abbrev cX5_init : ByteArray := prog_7_method_1_code
def yX5_init : MethodName := ⟨RX5, "<init>", "()V"⟩
abbrev cX5_count : ByteArray := prog_7_method_2_code
def yX5_count : MethodName := ⟨RX5, "count", "()I"⟩
abbrev cX5_weight : ByteArray := prog_7_method_3_code
def yX5_weight : MethodName := ⟨RX5, "weight", "()I"⟩
abbrev cX5_overlaps : ByteArray := prog_7_method_4_code
def yX5_overlaps : MethodName := ⟨RX5, "overlaps", "(II)Z"⟩
abbrev cX5_has : ByteArray := prog_7_method_5_code
def yX5_has : MethodName := ⟨RX5, "has", "(LStratumLedge$Run;)Z"⟩
abbrev cX5_insert : ByteArray := prog_7_method_6_code
def yX5_insert : MethodName := ⟨RX5, "insert", "(LStratumLedge$Run;Z)V"⟩
abbrev cX5_removeAll : ByteArray := prog_7_method_7_code
def yX5_removeAll : MethodName := ⟨RX5, "removeAll", "(Ljava/util/ArrayList;)V"⟩
abbrev cX5_isAmong : ByteArray := prog_7_method_8_code
def yX5_isAmong : MethodName := ⟨RX5, "isAmong", "(LStratumLedge$Run;Ljava/util/ArrayList;)Z"⟩
abbrev cX5_become : ByteArray := prog_7_method_9_code
def yX5_become : MethodName := ⟨RX5, "become", "(LStratumLedge$Level;)V"⟩
abbrev cX5_isRising : ByteArray := prog_7_method_10_code
def yX5_isRising : MethodName := ⟨RX5, "isRising", "()Z"⟩
abbrev cX5_isOfFairSizes : ByteArray := prog_7_method_11_code
def yX5_isOfFairSizes : MethodName := ⟨RX5, "isOfFairSizes", "()Z"⟩
def RX6 : String := "StratumLedge$Merging"
def TX6 : u_T := fun k => match k with
  | 0 => ("StratumLedge$Merging", "home", "LStratumLedge$Family;", true)
  | 1 => ("StratumLedge$Merging", "level", "I", true)
  | 2 => ("StratumLedge$Merging", "inputs", "Ljava/util/ArrayList;", true)
  | 3 => ("StratumLedge$Merging", "kept", "Ljava/util/ArrayList;", true)
  | 4 => ("StratumLedge$Merging", "sourceGreatest", "I", true)
  | 5 => ("StratumLedge$Merging", "key", "I", false)
  | _ => ("StratumLedge$Merging", "doneSteps", "I", false)
def tyX6 : Nat → FieldType := fun k => match k with
  | 0 => .object "StratumLedge$Family"
  | 1 => .int
  | 2 => .object "java/util/ArrayList"
  | 3 => .object "java/util/ArrayList"
  | 4 => .int
  | 5 => .int
  | _ => .int
abbrev wsX60 : List Cond := u_ws RX6 TX6 7
theorem nmX6 : ∀ a, a < 7 → ∀ b, b < 7 → a ≠ b → (TX6 a).2.1 ≠ (TX6 b).2.1 := by decide +kernel
theorem tyX6_ok : ∀ k, k < 7 → parseFieldDescriptor (TX6 k).2.2.1 = some (tyX6 k) := by decide +kernel
abbrev cX6_init : ByteArray := prog_8_method_1_code
def yX6_init : MethodName := ⟨RX6, "<init>", "(LStratumLedge$Family;I)V"⟩
abbrev cX6_addSources : ByteArray := prog_8_method_2_code
def yX6_addSources : MethodName := ⟨RX6, "addSources", "()V"⟩
abbrev cX6_addOverlapped : ByteArray := prog_8_method_3_code
def yX6_addOverlapped : MethodName := ⟨RX6, "addOverlapped", "()V"⟩
abbrev cX6_least : ByteArray := prog_8_method_4_code
def yX6_least : MethodName := ⟨RX6, "least", "()I"⟩
abbrev cX6_greatest : ByteArray := prog_8_method_5_code
def yX6_greatest : MethodName := ⟨RX6, "greatest", "()I"⟩
abbrev cX6_claims : ByteArray := prog_8_method_6_code
def yX6_claims : MethodName := ⟨RX6, "claims", "(LStratumLedge$Family;III)Z"⟩
abbrev cX6_nextKey : ByteArray := prog_8_method_7_code
def yX6_nextKey : MethodName := ⟨RX6, "nextKey", "()I"⟩
abbrev cX6_keepsUnder : ByteArray := prog_8_method_8_code
def yX6_keepsUnder : MethodName := ⟨RX6, "keepsUnder", "(LStratumLedge$Change;)Z"⟩
def RX7 : String := "StratumLedge$Run"
def TX7 : u_T := fun k => match k with
  | 0 => ("StratumLedge$Run", "id", "I", true)
  | 1 => ("StratumLedge$Run", "isMerged", "Z", true)
  | 2 => ("StratumLedge$Run", "rows", "Ljava/util/ArrayList;", true)
  | 3 => ("StratumLedge$Run", "spans", "Ljava/util/ArrayList;", true)
  | 4 => ("StratumLedge$Run", "least", "I", true)
  | 5 => ("StratumLedge$Run", "greatest", "I", true)
  | _ => ("StratumLedge$Run", "filter", "[Z", true)
def tyX7 : Nat → FieldType := fun k => match k with
  | 0 => .int
  | 1 => .boolean
  | 2 => .object "java/util/ArrayList"
  | 3 => .object "java/util/ArrayList"
  | 4 => .int
  | 5 => .int
  | _ => .array .boolean
abbrev wsX70 : List Cond := u_ws RX7 TX7 7
theorem nmX7 : ∀ a, a < 7 → ∀ b, b < 7 → a ≠ b → (TX7 a).2.1 ≠ (TX7 b).2.1 := by decide +kernel
theorem tyX7_ok : ∀ k, k < 7 → parseFieldDescriptor (TX7 k).2.2.1 = some (tyX7 k) := by decide +kernel
abbrev cX7_init : ByteArray := prog_9_method_1_code
def yX7_init : MethodName := ⟨RX7, "<init>", "(IZLjava/util/ArrayList;Ljava/util/ArrayList;)V"⟩
abbrev cX7_leastOf : ByteArray := prog_9_method_2_code
def yX7_leastOf : MethodName := ⟨RX7, "leastOf", "(Ljava/util/ArrayList;)I"⟩
abbrev cX7_greatestOf : ByteArray := prog_9_method_3_code
def yX7_greatestOf : MethodName := ⟨RX7, "greatestOf", "(Ljava/util/ArrayList;)I"⟩
abbrev cX7_filterOf : ByteArray := prog_9_method_4_code
def yX7_filterOf : MethodName := ⟨RX7, "filterOf", "(Ljava/util/ArrayList;)[Z"⟩
abbrev cX7_bitFor : ByteArray := prog_9_method_5_code
def yX7_bitFor : MethodName := ⟨RX7, "bitFor", "(III)I"⟩
abbrev cX7_isPassedBy : ByteArray := prog_9_method_6_code
def yX7_isPassedBy : MethodName := ⟨RX7, "isPassedBy", "(I)Z"⟩
abbrev cX7_overlaps : ByteArray := prog_9_method_7_code
def yX7_overlaps : MethodName := ⟨RX7, "overlaps", "(II)Z"⟩
abbrev cX7_weight : ByteArray := prog_9_method_8_code
def yX7_weight : MethodName := ⟨RX7, "weight", "()I"⟩
abbrev cX7_countBlocksWith : ByteArray := prog_9_method_9_code
def yX7_countBlocksWith : MethodName := ⟨RX7, "countBlocksWith", "(I)I"⟩
abbrev cX7_collectOver : ByteArray := prog_9_method_10_code
def yX7_collectOver : MethodName := ⟨RX7, "collectOver", "(ILjava/util/ArrayList;)V"⟩
abbrev cX7_addToWay : ByteArray := prog_9_method_11_code
def yX7_addToWay : MethodName := ⟨RX7, "addToWay", "(LStratumLedge$Change;ILjava/util/ArrayList;)V"⟩
abbrev cX7_keyBehind : ByteArray := prog_9_method_12_code
def yX7_keyBehind : MethodName := ⟨RX7, "keyBehind", "(I)I"⟩
abbrev cX7_isOfFairSize : ByteArray := prog_9_method_13_code
def yX7_isOfFairSize : MethodName := ⟨RX7, "isOfFairSize", "()Z"⟩
def RX8 : String := "StratumLedge$Snapshot"
def TX8 : u_T := fun k => match k with
  | 0 => ("StratumLedge$Snapshot", "id", "I", true)
  | _ => ("StratumLedge$Snapshot", "moment", "I", true)
def tyX8 : Nat → FieldType := fun k => match k with
  | 0 => .int
  | _ => .int
abbrev wsX80 : List Cond := u_ws RX8 TX8 2
theorem nmX8 : ∀ a, a < 2 → ∀ b, b < 2 → a ≠ b → (TX8 a).2.1 ≠ (TX8 b).2.1 := by decide +kernel
theorem tyX8_ok : ∀ k, k < 2 → parseFieldDescriptor (TX8 k).2.2.1 = some (tyX8 k) := by decide +kernel
abbrev cX8_init : ByteArray := prog_10_method_1_code
def yX8_init : MethodName := ⟨RX8, "<init>", "(II)V"⟩
def RX9 : String := "StratumLedge$Write"
def TX9 : u_T := fun k => match k with
  | 0 => ("StratumLedge$Write", "family", "I", true)
  | 1 => ("StratumLedge$Write", "change", "LStratumLedge$Change;", true)
  | 2 => ("StratumLedge$Write", "step", "I", true)
  | _ => ("StratumLedge$Write", "state", "I", false)
def tyX9 : Nat → FieldType := fun k => match k with
  | 0 => .int
  | 1 => .object "StratumLedge$Change"
  | 2 => .int
  | _ => .int
abbrev wsX90 : List Cond := u_ws RX9 TX9 4
theorem nmX9 : ∀ a, a < 4 → ∀ b, b < 4 → a ≠ b → (TX9 a).2.1 ≠ (TX9 b).2.1 := by decide +kernel
theorem tyX9_ok : ∀ k, k < 4 → parseFieldDescriptor (TX9 k).2.2.1 = some (tyX9 k) := by decide +kernel
abbrev cX9_init : ByteArray := prog_11_method_1_code
def yX9_init : MethodName := ⟨RX9, "<init>", "(ILStratumLedge$Change;II)V"⟩
abbrev cX9_isBroughtIn : ByteArray := prog_11_method_2_code
def yX9_isBroughtIn : MethodName := ⟨RX9, "isBroughtIn", "()Z"⟩
abbrev cX9_isInMemory : ByteArray := prog_11_method_3_code
def yX9_isInMemory : MethodName := ⟨RX9, "isInMemory", "()Z"⟩
abbrev cX9_isInMemoryOf : ByteArray := prog_11_method_4_code
def yX9_isInMemoryOf : MethodName := ⟨RX9, "isInMemoryOf", "(LStratumLedge$Family;)Z"⟩
abbrev cX9_isOf : ByteArray := prog_11_method_5_code
def yX9_isOf : MethodName := ⟨RX9, "isOf", "(LStratumLedge$Family;)Z"⟩
abbrev cX9_touches : ByteArray := prog_11_method_6_code
def yX9_touches : MethodName := ⟨RX9, "touches", "(I)Z"⟩
def RX10 : String := "StratumLedge"
def TX10 : u_T := fun k => match k with
  | 0 => ("StratumLedge", "families", "Ljava/util/ArrayList;", true)
  | 1 => ("StratumLedge", "writes", "Ljava/util/ArrayList;", true)
  | 2 => ("StratumLedge", "snapshots", "Ljava/util/ArrayList;", true)
  | 3 => ("StratumLedge", "cursors", "Ljava/util/ArrayList;", true)
  | 4 => ("StratumLedge", "backups", "Ljava/util/ArrayList;", true)
  | 5 => ("StratumLedge", "finding", "LStratumLedge$Finding;", true)
  | 6 => ("StratumLedge", "way", "Ljava/util/ArrayList;", true)
  | 7 => ("StratumLedge", "merging", "LStratumLedge$Merging;", false)
  | 8 => ("StratumLedge", "madeSnapshots", "I", false)
  | 9 => ("StratumLedge", "madeCursors", "I", false)
  | 10 => ("StratumLedge", "madeFiles", "I", false)
  | 11 => ("StratumLedge", "madeWeight", "I", false)
  | 12 => ("StratumLedge", "versions", "I", false)
  | 13 => ("StratumLedge", "readBlocks", "I", false)
  | 14 => ("StratumLedge", "askedFilters", "I", false)
  | 15 => ("StratumLedge", "passedFalsely", "I", false)
  | 16 => ("StratumLedge", "slowedWrites", "I", false)
  | _ => ("StratumLedge", "droppedEntries", "I", false)
def tyX10 : Nat → FieldType := fun k => match k with
  | 0 => .object "java/util/ArrayList"
  | 1 => .object "java/util/ArrayList"
  | 2 => .object "java/util/ArrayList"
  | 3 => .object "java/util/ArrayList"
  | 4 => .object "java/util/ArrayList"
  | 5 => .object "StratumLedge$Finding"
  | 6 => .object "java/util/ArrayList"
  | 7 => .object "StratumLedge$Merging"
  | 8 => .int
  | 9 => .int
  | 10 => .int
  | 11 => .int
  | 12 => .int
  | 13 => .int
  | 14 => .int
  | 15 => .int
  | 16 => .int
  | _ => .int
abbrev wsX100 : List Cond := u_ws RX10 TX10 18
theorem nmX10 : ∀ a, a < 18 → ∀ b, b < 18 → a ≠ b → (TX10 a).2.1 ≠ (TX10 b).2.1 := by decide +kernel
theorem tyX10_ok : ∀ k, k < 18 → parseFieldDescriptor (TX10 k).2.2.1 = some (tyX10 k) := by decide +kernel
abbrev cX10_init : ByteArray := prog_1_method_1_code
def yX10_init : MethodName := ⟨RX10, "<init>", "()V"⟩
abbrev cX10_addFamily : ByteArray := prog_1_method_2_code
def yX10_addFamily : MethodName := ⟨RX10, "addFamily", "(C)I"⟩
abbrev cX10_put : ByteArray := prog_1_method_3_code
def yX10_put : MethodName := ⟨RX10, "put", "(III)I"⟩
abbrev cX10_delete : ByteArray := prog_1_method_4_code
def yX10_delete : MethodName := ⟨RX10, "delete", "(II)I"⟩
abbrev cX10_deleteRange : ByteArray := prog_1_method_5_code
def yX10_deleteRange : MethodName := ⟨RX10, "deleteRange", "(III)I"⟩
abbrev cX10_merge : ByteArray := prog_1_method_6_code
def yX10_merge : MethodName := ⟨RX10, "merge", "(III)I"⟩
abbrev cX10_bringIn : ByteArray := prog_1_method_7_code
def yX10_bringIn : MethodName := ⟨RX10, "bringIn", "(IIIII)I"⟩
abbrev cX10_lastNumber : ByteArray := prog_1_method_8_code
def yX10_lastNumber : MethodName := ⟨RX10, "lastNumber", "()I"⟩
abbrev cX10_write : ByteArray := prog_1_method_9_code
def yX10_write : MethodName := ⟨RX10, "write", "(IIIII)I"⟩
abbrev cX10_admit : ByteArray := prog_1_method_10_code
def yX10_admit : MethodName := yA21
abbrev cX10_isTouchedInMemory : ByteArray := prog_1_method_11_code
def yX10_isTouchedInMemory : MethodName := ⟨RX10, "isTouchedInMemory", "(LStratumLedge$Family;II)Z"⟩
abbrev cX10_levelFor : ByteArray := prog_1_method_12_code
def yX10_levelFor : MethodName := ⟨RX10, "levelFor", "(LStratumLedge$Family;II)I"⟩
abbrev cX10_isFree : ByteArray := prog_1_method_13_code
def yX10_isFree : MethodName := ⟨RX10, "isFree", "(LStratumLedge$Family;III)Z"⟩
abbrev cX10_get : ByteArray := prog_1_method_14_code
def yX10_get : MethodName := ⟨RX10, "get", "(III)I"⟩
abbrev cX10_getAnew : ByteArray := prog_1_method_15_code
def yX10_getAnew : MethodName := ⟨RX10, "getAnew", "(III)I"⟩
abbrev cX10_snapshot : ByteArray := prog_1_method_16_code
def yX10_snapshot : MethodName := ⟨RX10, "snapshot", "()I"⟩
abbrev cX10_release : ByteArray := prog_1_method_17_code
def yX10_release : MethodName := ⟨RX10, "release", "(I)I"⟩
abbrev cX10_open : ByteArray := prog_1_method_18_code
def yX10_open : MethodName := ⟨RX10, "open", "(II)I"⟩
abbrev cX10_next : ByteArray := prog_1_method_19_code
def yX10_next : MethodName := ⟨RX10, "next", "(I)I"⟩
abbrev cX10_previous : ByteArray := prog_1_method_20_code
def yX10_previous : MethodName := ⟨RX10, "previous", "(I)I"⟩
abbrev cX10_value : ByteArray := prog_1_method_21_code
def yX10_value : MethodName := ⟨RX10, "value", "(I)I"⟩
abbrev cX10_close : ByteArray := prog_1_method_22_code
def yX10_close : MethodName := ⟨RX10, "close", "(I)I"⟩
abbrev cX10_foundValue : ByteArray := prog_1_method_23_code
def yX10_foundValue : MethodName := ⟨RX10, "foundValue", "()I"⟩
abbrev cX10_momentOf : ByteArray := prog_1_method_24_code
def yX10_momentOf : MethodName := ⟨RX10, "momentOf", "(I)I"⟩
abbrev cX10_placeOfSnapshot : ByteArray := prog_1_method_25_code
def yX10_placeOfSnapshot : MethodName := ⟨RX10, "placeOfSnapshot", "(I)I"⟩
abbrev cX10_placeOfCursor : ByteArray := prog_1_method_26_code
def yX10_placeOfCursor : MethodName := ⟨RX10, "placeOfCursor", "(I)I"⟩
abbrev cX10_cursorAt : ByteArray := prog_1_method_27_code
def yX10_cursorAt : MethodName := ⟨RX10, "cursorAt", "(I)LStratumLedge$Cursor;"⟩
abbrev cX10_isThere : ByteArray := prog_1_method_28_code
def yX10_isThere : MethodName := ⟨RX10, "isThere", "(LStratumLedge$Cursor;I)Z"⟩
abbrev cX10_findAnew : ByteArray := prog_1_method_29_code
def yX10_findAnew : MethodName := ⟨RX10, "findAnew", "(LStratumLedge$Family;II)V"⟩
abbrev cX10_look : ByteArray := prog_1_method_30_code
def yX10_look : MethodName := ⟨RX10, "look", "(LStratumLedge$Family;IIZ)V"⟩
abbrev cX10_lookInMemory : ByteArray := prog_1_method_31_code
def yX10_lookInMemory : MethodName := ⟨RX10, "lookInMemory", "(LStratumLedge$Family;II)V"⟩
abbrev cX10_lookInRun : ByteArray := prog_1_method_32_code
def yX10_lookInRun : MethodName := ⟨RX10, "lookInRun", "(LStratumLedge$Family;LStratumLedge$Run;IIZ)V"⟩
abbrev cX10_countReading : ByteArray := prog_1_method_33_code
def yX10_countReading : MethodName := ⟨RX10, "countReading", "(LStratumLedge$Run;I)V"⟩
abbrev cX10_flush : ByteArray := prog_1_method_34_code
def yX10_flush : MethodName := ⟨RX10, "flush", "(I)I"⟩
abbrev cX10_inMemory : ByteArray := prog_1_method_35_code
def yX10_inMemory : MethodName := ⟨RX10, "inMemory", "(I)I"⟩
abbrev cX10_runs : ByteArray := prog_1_method_36_code
def yX10_runs : MethodName := ⟨RX10, "runs", "(II)I"⟩
abbrev cX10_file : ByteArray := prog_1_method_37_code
def yX10_file : MethodName := ⟨RX10, "file", "(III)I"⟩
abbrev cX10_entries : ByteArray := prog_1_method_38_code
def yX10_entries : MethodName := ⟨RX10, "entries", "(III)I"⟩
abbrev cX10_ranges : ByteArray := prog_1_method_39_code
def yX10_ranges : MethodName := ⟨RX10, "ranges", "(III)I"⟩
abbrev cX10_bound : ByteArray := prog_1_method_40_code
def yX10_bound : MethodName := ⟨RX10, "bound", "(IIIZ)I"⟩
abbrev cX10_passes : ByteArray := prog_1_method_41_code
def yX10_passes : MethodName := ⟨RX10, "passes", "(IIII)Z"⟩
abbrev cX10_debt : ByteArray := prog_1_method_42_code
def yX10_debt : MethodName := ⟨RX10, "debt", "(II)F"⟩
abbrev cX10_debtBits : ByteArray := prog_1_method_43_code
def yX10_debtBits : MethodName := ⟨RX10, "debtBits", "(II)I"⟩
abbrev cX10_compact : ByteArray := prog_1_method_44_code
def yX10_compact : MethodName := ⟨RX10, "compact", "(I)I"⟩
abbrev cX10_work : ByteArray := prog_1_method_45_code
def yX10_work : MethodName := ⟨RX10, "work", "(I)I"⟩
abbrev cX10_stop : ByteArray := prog_1_method_46_code
def yX10_stop : MethodName := ⟨RX10, "stop", "()I"⟩
abbrev cX10_isMerging : ByteArray := prog_1_method_47_code
def yX10_isMerging : MethodName := ⟨RX10, "isMerging", "()Z"⟩
abbrev cX10_countInMemory : ByteArray := prog_1_method_48_code
def yX10_countInMemory : MethodName := ⟨RX10, "countInMemory", "(LStratumLedge$Family;)I"⟩
abbrev cX10_flushMemory : ByteArray := prog_1_method_49_code
def yX10_flushMemory : MethodName := ⟨RX10, "flushMemory", "(LStratumLedge$Family;)I"⟩
abbrev cX10_addRow : ByteArray := prog_1_method_50_code
def yX10_addRow : MethodName := ⟨RX10, "addRow", "(Ljava/util/ArrayList;LStratumLedge$Change;)V"⟩
abbrev cX10_makeRun : ByteArray := prog_1_method_51_code
def yX10_makeRun : MethodName := ⟨RX10, "makeRun", "(ZLjava/util/ArrayList;Ljava/util/ArrayList;)LStratumLedge$Run;"⟩
abbrev cX10_debtOf : ByteArray := prog_1_method_52_code
def yX10_debtOf : MethodName := ⟨RX10, "debtOf", "(LStratumLedge$Level;I)F"⟩
abbrev cX10_mostIndebtedLevel : ByteArray := prog_1_method_53_code
def yX10_mostIndebtedLevel : MethodName := ⟨RX10, "mostIndebtedLevel", "(LStratumLedge$Family;)I"⟩
abbrev cX10_doStep : ByteArray := prog_1_method_54_code
def yX10_doStep : MethodName := ⟨RX10, "doStep", "(LStratumLedge$Merging;)V"⟩
abbrev cX10_sift : ByteArray := prog_1_method_55_code
def yX10_sift : MethodName := ⟨RX10, "sift", "(LStratumLedge$Merging;)V"⟩
abbrev cX10_keepAt : ByteArray := prog_1_method_56_code
def yX10_keepAt : MethodName := ⟨RX10, "keepAt", "(I[Z)V"⟩
abbrev cX10_dropLastDeletes : ByteArray := prog_1_method_57_code
def yX10_dropLastDeletes : MethodName := ⟨RX10, "dropLastDeletes", "([Z)V"⟩
abbrev cX10_finish : ByteArray := prog_1_method_58_code
def yX10_finish : MethodName := ⟨RX10, "finish", "(LStratumLedge$Merging;)V"⟩
abbrev cX10_keptRangesOf : ByteArray := prog_1_method_59_code
def yX10_keptRangesOf : MethodName := ⟨RX10, "keptRangesOf", "(LStratumLedge$Merging;)Ljava/util/ArrayList;"⟩
abbrev cX10_partsOf : ByteArray := prog_1_method_60_code
def yX10_partsOf : MethodName := ⟨RX10, "partsOf", "(Ljava/util/ArrayList;II)Ljava/util/ArrayList;"⟩
abbrev cX10_endOfRun : ByteArray := prog_1_method_61_code
def yX10_endOfRun : MethodName := ⟨RX10, "endOfRun", "(Ljava/util/ArrayList;I)I"⟩
abbrev cX10_endOfKey : ByteArray := prog_1_method_62_code
def yX10_endOfKey : MethodName := ⟨RX10, "endOfKey", "(Ljava/util/ArrayList;I)I"⟩
abbrev cX10_sync : ByteArray := prog_1_method_63_code
def yX10_sync : MethodName := ⟨RX10, "sync", "()I"⟩
abbrev cX10_log : ByteArray := prog_1_method_64_code
def yX10_log : MethodName := ⟨RX10, "log", "()I"⟩
abbrev cX10_crash : ByteArray := prog_1_method_65_code
def yX10_crash : MethodName := ⟨RX10, "crash", "()I"⟩
abbrev cX10_backup : ByteArray := prog_1_method_66_code
def yX10_backup : MethodName := ⟨RX10, "backup", "()I"⟩
abbrev cX10_restore : ByteArray := prog_1_method_67_code
def yX10_restore : MethodName := ⟨RX10, "restore", "(I)I"⟩
abbrev cX10_shared : ByteArray := prog_1_method_68_code
def yX10_shared : MethodName := ⟨RX10, "shared", "(II)I"⟩
abbrev cX10_version : ByteArray := prog_1_method_69_code
def yX10_version : MethodName := ⟨RX10, "version", "()I"⟩
abbrev cX10_backupAt : ByteArray := prog_1_method_70_code
def yX10_backupAt : MethodName := ⟨RX10, "backupAt", "(I)LStratumLedge$Backup;"⟩
abbrev cX10_forgetWork : ByteArray := prog_1_method_71_code
def yX10_forgetWork : MethodName := ⟨RX10, "forgetWork", "()V"⟩
abbrev cX10_blocks : ByteArray := prog_1_method_72_code
def yX10_blocks : MethodName := ⟨RX10, "blocks", "()I"⟩
abbrev cX10_asked : ByteArray := prog_1_method_73_code
def yX10_asked : MethodName := ⟨RX10, "asked", "()I"⟩
abbrev cX10_falsePasses : ByteArray := prog_1_method_74_code
def yX10_falsePasses : MethodName := ⟨RX10, "falsePasses", "()I"⟩
abbrev cX10_isSound : ByteArray := prog_1_method_80_code
def yX10_isSound : MethodName := ⟨RX10, "isSound", "()Z"⟩
abbrev cX10_hasSameValues : ByteArray := prog_1_method_82_code
def yX10_hasSameValues : MethodName := ⟨RX10, "hasSameValues", "(LStratumLedge$Family;)Z"⟩
abbrev cX10_bitsOf : ByteArray := prog_1_method_83_code
def yX10_bitsOf : MethodName := ⟨RX10, "bitsOf", "(F)I"⟩
abbrev cX10_familyAt : ByteArray := prog_1_method_85_code
def yX10_familyAt : MethodName := ⟨RX10, "familyAt", "(I)LStratumLedge$Family;"⟩
abbrev cX10_levelAt : ByteArray := prog_1_method_86_code
def yX10_levelAt : MethodName := ⟨RX10, "levelAt", "(II)LStratumLedge$Level;"⟩
abbrev cX10_runAt : ByteArray := prog_1_method_87_code
def yX10_runAt : MethodName := ⟨RX10, "runAt", "(III)LStratumLedge$Run;"⟩
abbrev cX10_isKey : ByteArray := prog_1_method_88_code
def yX10_isKey : MethodName := ⟨RX10, "isKey", "(I)Z"⟩
abbrev cX10_checkKeys : ByteArray := prog_1_method_89_code
def yX10_checkKeys : MethodName := ⟨RX10, "checkKeys", "(II)V"⟩
def RX11 : String := "StratumLedgeModel$Backup"
def TX11 : u_T := fun k => match k with
  | _ => ("", "", "", false)
def tyX11 : Nat → FieldType := fun k => match k with
  | _ => .int
abbrev wsX110 : List Cond := u_ws RX11 TX11 0
theorem nmX11 : ∀ a, a < 0 → ∀ b, b < 0 → a ≠ b → (TX11 a).2.1 ≠ (TX11 b).2.1 := by decide +kernel
theorem tyX11_ok : ∀ k, k < 0 → parseFieldDescriptor (TX11 k).2.2.1 = some (tyX11 k) := by decide +kernel
def RX12 : String := "StratumLedgeModel$Families"
def TX12 : u_T := fun k => match k with
  | _ => ("", "", "", false)
def tyX12 : Nat → FieldType := fun k => match k with
  | _ => .int
abbrev wsX120 : List Cond := u_ws RX12 TX12 0
theorem nmX12 : ∀ a, a < 0 → ∀ b, b < 0 → a ≠ b → (TX12 a).2.1 ≠ (TX12 b).2.1 := by decide +kernel
theorem tyX12_ok : ∀ k, k < 0 → parseFieldDescriptor (TX12 k).2.2.1 = some (tyX12 k) := by decide +kernel
def RX13 : String := "StratumLedgeModel$Held"
def TX13 : u_T := fun k => match k with
  | _ => ("", "", "", false)
def tyX13 : Nat → FieldType := fun k => match k with
  | _ => .int
abbrev wsX130 : List Cond := u_ws RX13 TX13 0
theorem nmX13 : ∀ a, a < 0 → ∀ b, b < 0 → a ≠ b → (TX13 a).2.1 ≠ (TX13 b).2.1 := by decide +kernel
theorem tyX13_ok : ∀ k, k < 0 → parseFieldDescriptor (TX13 k).2.2.1 = some (tyX13 k) := by decide +kernel
def RX14 : String := "StratumLedgeModel$Item"
def TX14 : u_T := fun k => match k with
  | _ => ("", "", "", false)
def tyX14 : Nat → FieldType := fun k => match k with
  | _ => .int
abbrev wsX140 : List Cond := u_ws RX14 TX14 0
theorem nmX14 : ∀ a, a < 0 → ∀ b, b < 0 → a ≠ b → (TX14 a).2.1 ≠ (TX14 b).2.1 := by decide +kernel
theorem tyX14_ok : ∀ k, k < 0 → parseFieldDescriptor (TX14 k).2.2.1 = some (tyX14 k) := by decide +kernel
def RX15 : String := "StratumLedgeModel$Merging"
def TX15 : u_T := fun k => match k with
  | _ => ("", "", "", false)
def tyX15 : Nat → FieldType := fun k => match k with
  | _ => .int
abbrev wsX150 : List Cond := u_ws RX15 TX15 0
theorem nmX15 : ∀ a, a < 0 → ∀ b, b < 0 → a ≠ b → (TX15 a).2.1 ≠ (TX15 b).2.1 := by decide +kernel
theorem tyX15_ok : ∀ k, k < 0 → parseFieldDescriptor (TX15 k).2.2.1 = some (tyX15 k) := by decide +kernel
def RX16 : String := "StratumLedgeModel$Run"
def TX16 : u_T := fun k => match k with
  | _ => ("", "", "", false)
def tyX16 : Nat → FieldType := fun k => match k with
  | _ => .int
abbrev wsX160 : List Cond := u_ws RX16 TX16 0
theorem nmX16 : ∀ a, a < 0 → ∀ b, b < 0 → a ≠ b → (TX16 a).2.1 ≠ (TX16 b).2.1 := by decide +kernel
theorem tyX16_ok : ∀ k, k < 0 → parseFieldDescriptor (TX16 k).2.2.1 = some (tyX16 k) := by decide +kernel
def RX17 : String := "StratumLedgeModel$Write"
def TX17 : u_T := fun k => match k with
  | _ => ("", "", "", false)
def tyX17 : Nat → FieldType := fun k => match k with
  | _ => .int
abbrev wsX170 : List Cond := u_ws RX17 TX17 0
theorem nmX17 : ∀ a, a < 0 → ∀ b, b < 0 → a ≠ b → (TX17 a).2.1 ≠ (TX17 b).2.1 := by decide +kernel
theorem tyX17_ok : ∀ k, k < 0 → parseFieldDescriptor (TX17 k).2.2.1 = some (tyX17 k) := by decide +kernel
def RX18 : String := "StratumLedgeModel"
def TX18 : u_T := fun k => match k with
  | _ => ("", "", "", false)
def tyX18 : Nat → FieldType := fun k => match k with
  | _ => .int
abbrev wsX180 : List Cond := u_ws RX18 TX18 0
theorem nmX18 : ∀ a, a < 0 → ∀ b, b < 0 → a ≠ b → (TX18 a).2.1 ≠ (TX18 b).2.1 := by decide +kernel
theorem tyX18_ok : ∀ k, k < 0 → parseFieldDescriptor (TX18 k).2.2.1 = some (tyX18 k) := by decide +kernel
def RJx145de : String := "java/io/Serializable"
def TJx145de : u_T := fun k => match k with
  | _ => ("", "", "", false)
def tyJx145de : Nat → FieldType := fun k => match k with
  | _ => .int
abbrev wsJx145de0 : List Cond := u_ws RJx145de TJx145de 0
theorem nmJx145de : ∀ a, a < 0 → ∀ b, b < 0 → a ≠ b → (TJx145de a).2.1 ≠ (TJx145de b).2.1 := by decide +kernel
theorem tyJx145de_ok : ∀ k, k < 0 → parseFieldDescriptor (TJx145de k).2.2.1 = some (tyJx145de k) := by decide +kernel
def RJ5 : String := "java/lang/AbstractStringBuilder"
def TJ5 : u_T := fun k => match k with
  | _ => ("", "", "", false)
def tyJ5 : Nat → FieldType := fun k => match k with
  | _ => .int
abbrev wsJ50 : List Cond := u_ws RJ5 TJ5 0
theorem nmJ5 : ∀ a, a < 0 → ∀ b, b < 0 → a ≠ b → (TJ5 a).2.1 ≠ (TJ5 b).2.1 := by decide +kernel
theorem tyJ5_ok : ∀ k, k < 0 → parseFieldDescriptor (TJ5 k).2.2.1 = some (tyJ5 k) := by decide +kernel
abbrev cJ5_init_d00df : ByteArray := prog_22_method_2_code
def yJ5_init_d00df : MethodName := ⟨RJ5, "<init>", "(I)V"⟩
abbrev cJ5_length_8abf5 : ByteArray := prog_22_method_6_code
def yJ5_length_8abf5 : MethodName := ⟨RJ5, "length", "()I"⟩
abbrev cJ5_ensureCapacityInternal_d00df : ByteArray := prog_22_method_9_code
def yJ5_ensureCapacityInternal_d00df : MethodName := ⟨RJ5, "ensureCapacityInternal", "(I)V"⟩
abbrev cJ5_newCapacity_0f7a4 : ByteArray := prog_22_method_10_code
def yJ5_newCapacity_0f7a4 : MethodName := ⟨RJ5, "newCapacity", "(I)I"⟩
abbrev cJ5_inflate_da8c8 : ByteArray := prog_22_method_11_code
def yJ5_inflate_da8c8 : MethodName := ⟨RJ5, "inflate", "()V"⟩
abbrev cJ5_append_cf1ce : ByteArray := prog_22_method_22_code
def yJ5_append_cf1ce : MethodName := ⟨RJ5, "append", "(Ljava/lang/String;)Ljava/lang/AbstractStringBuilder;"⟩
abbrev cJ5_appendNull_278bc : ByteArray := prog_22_method_26_code
def yJ5_appendNull_278bc : MethodName := ⟨RJ5, "appendNull", "()Ljava/lang/AbstractStringBuilder;"⟩
abbrev cJ5_append_c97b9 : ByteArray := prog_22_method_32_code
def yJ5_append_c97b9 : MethodName := ⟨RJ5, "append", "(I)Ljava/lang/AbstractStringBuilder;"⟩
abbrev cJ5_getValue_6d5f1 : ByteArray := prog_22_method_64_code
def yJ5_getValue_6d5f1 : MethodName := ⟨RJ5, "getValue", "()[B"⟩
abbrev cJ5_isLatin1_aae02 : ByteArray := prog_22_method_68_code
def yJ5_isLatin1_aae02 : MethodName := ⟨RJ5, "isLatin1", "()Z"⟩
abbrev cJ5_inflateIfNeededFor_a7421 : ByteArray := prog_22_method_71_code
def yJ5_inflateIfNeededFor_a7421 : MethodName := ⟨RJ5, "inflateIfNeededFor", "(Ljava/lang/String;)V"⟩
abbrev cJ5_putStringAt_47b60 : ByteArray := prog_22_method_73_code
def yJ5_putStringAt_47b60 : MethodName := ⟨RJ5, "putStringAt", "(ILjava/lang/String;)V"⟩
def RJx2cfe8 : String := "java/lang/Appendable"
def TJx2cfe8 : u_T := fun k => match k with
  | _ => ("", "", "", false)
def tyJx2cfe8 : Nat → FieldType := fun k => match k with
  | _ => .int
abbrev wsJx2cfe80 : List Cond := u_ws RJx2cfe8 TJx2cfe8 0
theorem nmJx2cfe8 : ∀ a, a < 0 → ∀ b, b < 0 → a ≠ b → (TJx2cfe8 a).2.1 ≠ (TJx2cfe8 b).2.1 := by decide +kernel
theorem tyJx2cfe8_ok : ∀ k, k < 0 → parseFieldDescriptor (TJx2cfe8 k).2.2.1 = some (tyJx2cfe8 k) := by decide +kernel
def RJx00060 : String := "java/lang/ArrayIndexOutOfBoundsException"
def TJx00060 : u_T := fun k => match k with
  | 0 => ("java/lang/Throwable", "backtrace", "Ljava/lang/Object;", false)
  | 1 => ("java/lang/Throwable", "detailMessage", "Ljava/lang/String;", false)
  | 2 => ("java/lang/Throwable", "cause", "Ljava/lang/Throwable;", false)
  | 3 => ("java/lang/Throwable", "stackTrace", "[Ljava/lang/StackTraceElement;", false)
  | 4 => ("java/lang/Throwable", "depth", "I", false)
  | _ => ("java/lang/Throwable", "suppressedExceptions", "Ljava/util/List;", false)
def tyJx00060 : Nat → FieldType := fun k => match k with
  | 0 => .object "java/lang/Object"
  | 1 => .object "java/lang/String"
  | 2 => .object "java/lang/Throwable"
  | 3 => .array (.object "java/lang/StackTraceElement")
  | 4 => .int
  | _ => .object "java/util/List"
abbrev wsJx000600 : List Cond := u_ws RJx00060 TJx00060 6
theorem nmJx00060 : ∀ a, a < 6 → ∀ b, b < 6 → a ≠ b → (TJx00060 a).2.1 ≠ (TJx00060 b).2.1 := by decide +kernel
theorem tyJx00060_ok : ∀ k, k < 6 → parseFieldDescriptor (TJx00060 k).2.2.1 = some (tyJx00060 k) := by decide +kernel
abbrev cJx00060_init_a7421 : ByteArray := prog_24_method_2_code
def yJx00060_init_a7421 : MethodName := ⟨RJx00060, "<init>", "(Ljava/lang/String;)V"⟩
def RJx9f9b0 : String := "java/lang/CharSequence"
def TJx9f9b0 : u_T := fun k => match k with
  | _ => ("", "", "", false)
def tyJx9f9b0 : Nat → FieldType := fun k => match k with
  | _ => .int
abbrev wsJx9f9b00 : List Cond := u_ws RJx9f9b0 TJx9f9b0 0
theorem nmJx9f9b0 : ∀ a, a < 0 → ∀ b, b < 0 → a ≠ b → (TJx9f9b0 a).2.1 ≠ (TJx9f9b0 b).2.1 := by decide +kernel
theorem tyJx9f9b0_ok : ∀ k, k < 0 → parseFieldDescriptor (TJx9f9b0 k).2.2.1 = some (tyJx9f9b0 k) := by decide +kernel
def RJx8e188 : String := "java/lang/Cloneable"
def TJx8e188 : u_T := fun k => match k with
  | _ => ("", "", "", false)
def tyJx8e188 : Nat → FieldType := fun k => match k with
  | _ => .int
abbrev wsJx8e1880 : List Cond := u_ws RJx8e188 TJx8e188 0
theorem nmJx8e188 : ∀ a, a < 0 → ∀ b, b < 0 → a ≠ b → (TJx8e188 a).2.1 ≠ (TJx8e188 b).2.1 := by decide +kernel
theorem tyJx8e188_ok : ∀ k, k < 0 → parseFieldDescriptor (TJx8e188 k).2.2.1 = some (tyJx8e188 k) := by decide +kernel
def RJxb160c : String := "java/lang/Comparable"
def TJxb160c : u_T := fun k => match k with
  | _ => ("", "", "", false)
def tyJxb160c : Nat → FieldType := fun k => match k with
  | _ => .int
abbrev wsJxb160c0 : List Cond := u_ws RJxb160c TJxb160c 0
theorem nmJxb160c : ∀ a, a < 0 → ∀ b, b < 0 → a ≠ b → (TJxb160c a).2.1 ≠ (TJxb160c b).2.1 := by decide +kernel
theorem tyJxb160c_ok : ∀ k, k < 0 → parseFieldDescriptor (TJxb160c k).2.2.1 = some (tyJxb160c k) := by decide +kernel
def RJxf58ca : String := "java/lang/Float"
def TJxf58ca : u_T := fun k => match k with
  | _ => ("", "", "", false)
def tyJxf58ca : Nat → FieldType := fun k => match k with
  | _ => .int
abbrev wsJxf58ca0 : List Cond := u_ws RJxf58ca TJxf58ca 0
theorem nmJxf58ca : ∀ a, a < 0 → ∀ b, b < 0 → a ≠ b → (TJxf58ca a).2.1 ≠ (TJxf58ca b).2.1 := by decide +kernel
theorem tyJxf58ca_ok : ∀ k, k < 0 → parseFieldDescriptor (TJxf58ca k).2.2.1 = some (tyJxf58ca k) := by decide +kernel
abbrev cJxf58ca_isNaN_12338 : ByteArray := prog_29_method_6_code
def yJxf58ca_isNaN_12338 : MethodName := ⟨RJxf58ca, "isNaN", "(F)Z"⟩
abbrev cJxf58ca_floatToIntBits_5c35a : ByteArray := prog_29_method_24_code
def yJxf58ca_floatToIntBits_5c35a : MethodName := ⟨RJxf58ca, "floatToIntBits", "(F)I"⟩
def RJ6 : String := "java/lang/Integer"
def TJ6 : u_T := fun k => match k with
  | _ => ("", "", "", false)
def tyJ6 : Nat → FieldType := fun k => match k with
  | _ => .int
abbrev wsJ60 : List Cond := u_ws RJ6 TJ6 0
theorem nmJ6 : ∀ a, a < 0 → ∀ b, b < 0 → a ≠ b → (TJ6 a).2.1 ≠ (TJ6 b).2.1 := by decide +kernel
theorem tyJ6_ok : ∀ k, k < 0 → parseFieldDescriptor (TJ6 k).2.2.1 = some (tyJ6 k) := by decide +kernel
abbrev cJ6_getChars_ba4f3 : ByteArray := prog_33_method_12_code
def yJ6_getChars_ba4f3 : MethodName := ⟨RJ6, "getChars", "(II[B)I"⟩
abbrev cJ6_stringSize_0f7a4 : ByteArray := prog_33_method_13_code
def yJ6_stringSize_0f7a4 : MethodName := ⟨RJ6, "stringSize", "(I)I"⟩
def RJxab1ab : String := "java/lang/Iterable"
def TJxab1ab : u_T := fun k => match k with
  | _ => ("", "", "", false)
def tyJxab1ab : Nat → FieldType := fun k => match k with
  | _ => .int
abbrev wsJxab1ab0 : List Cond := u_ws RJxab1ab TJxab1ab 0
theorem nmJxab1ab : ∀ a, a < 0 → ∀ b, b < 0 → a ≠ b → (TJxab1ab a).2.1 ≠ (TJxab1ab b).2.1 := by decide +kernel
theorem tyJxab1ab_ok : ∀ k, k < 0 → parseFieldDescriptor (TJxab1ab k).2.2.1 = some (tyJxab1ab k) := by decide +kernel
def RJ9 : String := "java/lang/Math"
def TJ9 : u_T := fun k => match k with
  | _ => ("", "", "", false)
def tyJ9 : Nat → FieldType := fun k => match k with
  | _ => .int
abbrev wsJ90 : List Cond := u_ws RJ9 TJ9 0
theorem nmJ9 : ∀ a, a < 0 → ∀ b, b < 0 → a ≠ b → (TJ9 a).2.1 ≠ (TJ9 b).2.1 := by decide +kernel
theorem tyJ9_ok : ∀ k, k < 0 → parseFieldDescriptor (TJ9 k).2.2.1 = some (tyJ9 k) := by decide +kernel
abbrev cJ9_max_7cf53 : ByteArray := prog_35_method_65_code
def yJ9_max_7cf53 : MethodName := ⟨RJ9, "max", "(II)I"⟩
abbrev cJ9_min_7cf53 : ByteArray := prog_35_method_69_code
def yJ9_min_7cf53 : MethodName := ⟨RJ9, "min", "(II)I"⟩
def RJxd2413 : String := "java/lang/Number"
def TJxd2413 : u_T := fun k => match k with
  | _ => ("", "", "", false)
def tyJxd2413 : Nat → FieldType := fun k => match k with
  | _ => .int
abbrev wsJxd24130 : List Cond := u_ws RJxd2413 TJxd2413 0
theorem nmJxd2413 : ∀ a, a < 0 → ∀ b, b < 0 → a ≠ b → (TJxd2413 a).2.1 ≠ (TJxd2413 b).2.1 := by decide +kernel
theorem tyJxd2413_ok : ∀ k, k < 0 → parseFieldDescriptor (TJxd2413 k).2.2.1 = some (tyJxd2413 k) := by decide +kernel
def RJ0 : String := "java/lang/String"
def TJ0 : u_T := fun k => match k with
  | 0 => ("java/lang/String", "value", "[B", true)
  | 1 => ("java/lang/String", "coder", "B", true)
  | 2 => ("java/lang/String", "hash", "I", false)
  | _ => ("java/lang/String", "hashIsZero", "Z", false)
def tyJ0 : Nat → FieldType := fun k => match k with
  | 0 => .array .byte
  | 1 => .byte
  | 2 => .int
  | _ => .boolean
abbrev wsJ00 : List Cond := u_ws RJ0 TJ0 4
theorem nmJ0 : ∀ a, a < 4 → ∀ b, b < 4 → a ≠ b → (TJ0 a).2.1 ≠ (TJ0 b).2.1 := by decide +kernel
theorem tyJ0_ok : ∀ k, k < 4 → parseFieldDescriptor (TJ0 k).2.2.1 = some (tyJ0 k) := by decide +kernel
abbrev cJ0_init_81219 : ByteArray := prog_38_method_53_code
def yJ0_init_81219 : MethodName := ⟨RJ0, "<init>", "(Ljava/lang/StringBuilder;)V"⟩
abbrev cJ0_length_8abf5 : ByteArray := prog_38_method_54_code
def yJ0_length_8abf5 : MethodName := ⟨RJ0, "length", "()I"⟩
abbrev cJ0_charAt_5068e : ByteArray := prog_38_method_56_code
def yJ0_charAt_5068e : MethodName := ⟨RJ0, "charAt", "(I)C"⟩
abbrev cJ0_getBytes_840e7 : ByteArray := prog_38_method_147_code
def yJ0_getBytes_840e7 : MethodName := ⟨RJ0, "getBytes", "([BIB)V"⟩
abbrev cJ0_init_db425 : ByteArray := prog_38_method_150_code
def yJ0_init_db425 : MethodName := ⟨RJ0, "<init>", "(Ljava/lang/AbstractStringBuilder;Ljava/lang/Void;)V"⟩
abbrev cJ0_coder_7d493 : ByteArray := prog_38_method_152_code
def yJ0_coder_7d493 : MethodName := ⟨RJ0, "coder", "()B"⟩
abbrev cJ0_isLatin1_aae02 : ByteArray := prog_38_method_154_code
def yJ0_isLatin1_aae02 : MethodName := ⟨RJ0, "isLatin1", "()Z"⟩
abbrev cJ0_checkIndex_df160 : ByteArray := prog_38_method_155_code
def yJ0_checkIndex_df160 : MethodName := ⟨RJ0, "checkIndex", "(II)V"⟩
abbrev cJ0_checkBoundsOffCount_cabcc : ByteArray := prog_38_method_157_code
def yJ0_checkBoundsOffCount_cabcc : MethodName := ⟨RJ0, "checkBoundsOffCount", "(III)I"⟩
abbrev cJ0_checkBoundsBeginEnd_23922 : ByteArray := prog_38_method_158_code
def yJ0_checkBoundsBeginEnd_23922 : MethodName := ⟨RJ0, "checkBoundsBeginEnd", "(III)V"⟩
def RJ4 : String := "java/lang/StringBuilder"
def TJ4 : u_T := fun k => match k with
  | 0 => ("java/lang/AbstractStringBuilder", "value", "[B", false)
  | 1 => ("java/lang/AbstractStringBuilder", "coder", "B", false)
  | 2 => ("java/lang/AbstractStringBuilder", "maybeLatin1", "Z", false)
  | _ => ("java/lang/AbstractStringBuilder", "count", "I", false)
def tyJ4 : Nat → FieldType := fun k => match k with
  | 0 => .array .byte
  | 1 => .byte
  | 2 => .boolean
  | _ => .int
abbrev wsJ40 : List Cond := u_ws RJ4 TJ4 4
theorem nmJ4 : ∀ a, a < 4 → ∀ b, b < 4 → a ≠ b → (TJ4 a).2.1 ≠ (TJ4 b).2.1 := by decide +kernel
theorem tyJ4_ok : ∀ k, k < 4 → parseFieldDescriptor (TJ4 k).2.2.1 = some (tyJ4 k) := by decide +kernel
abbrev cJ4_init_da8c8 : ByteArray := prog_39_method_1_code
def yJ4_init_da8c8 : MethodName := ⟨RJ4, "<init>", "()V"⟩
abbrev cJ4_append_15ec4 : ByteArray := prog_39_method_7_code
def yJ4_append_15ec4 : MethodName := ⟨RJ4, "append", "(Ljava/lang/String;)Ljava/lang/StringBuilder;"⟩
abbrev cJ4_append_bf812 : ByteArray := prog_39_method_15_code
def yJ4_append_bf812 : MethodName := ⟨RJ4, "append", "(I)Ljava/lang/StringBuilder;"⟩
abbrev cJ4_toString_0e30d : ByteArray := prog_39_method_42_code
def yJ4_toString_0e30d : MethodName := ⟨RJ4, "toString", "()Ljava/lang/String;"⟩
abbrev cJ4_length_8abf5 : ByteArray := prog_39_method_93_code
def yJ4_length_8abf5 : MethodName := ⟨RJ4, "length", "()I"⟩
def RJ1 : String := "java/lang/StringLatin1"
def TJ1 : u_T := fun k => match k with
  | _ => ("", "", "", false)
def tyJ1 : Nat → FieldType := fun k => match k with
  | _ => .int
abbrev wsJ10 : List Cond := u_ws RJ1 TJ1 0
theorem nmJ1 : ∀ a, a < 0 → ∀ b, b < 0 → a ≠ b → (TJ1 a).2.1 ≠ (TJ1 b).2.1 := by decide +kernel
theorem tyJ1_ok : ∀ k, k < 0 → parseFieldDescriptor (TJ1 k).2.2.1 = some (tyJ1 k) := by decide +kernel
abbrev cJ1_charAt_3b067 : ByteArray := prog_40_method_2_code
def yJ1_charAt_3b067 : MethodName := ⟨RJ1, "charAt", "([BI)C"⟩
abbrev cJ1_inflate_0e8fd : ByteArray := prog_40_method_50_code
def yJ1_inflate_0e8fd : MethodName := ⟨RJ1, "inflate", "([BI[BII)V"⟩
def RJ2 : String := "java/lang/StringUTF16"
def TJ2 : u_T := fun k => match k with
  | _ => ("", "", "", false)
def tyJ2 : Nat → FieldType := fun k => match k with
  | _ => .int
abbrev wsJ20 : List Cond := u_ws RJ2 TJ2 0
theorem nmJ2 : ∀ a, a < 0 → ∀ b, b < 0 → a ≠ b → (TJ2 a).2.1 ≠ (TJ2 b).2.1 := by decide +kernel
theorem tyJ2_ok : ∀ k, k < 0 → parseFieldDescriptor (TJ2 k).2.2.1 = some (tyJ2 k) := by decide +kernel
abbrev cJ2_newBytesFor_77867 : ByteArray := prog_41_method_2_code
def yJ2_newBytesFor_77867 : MethodName := ⟨RJ2, "newBytesFor", "(I)[B"⟩
abbrev cJ2_newBytesLength_0f7a4 : ByteArray := prog_41_method_3_code
def yJ2_newBytesLength_0f7a4 : MethodName := ⟨RJ2, "newBytesLength", "(I)I"⟩
abbrev cJ2_putChar_b72d1 : ByteArray := prog_41_method_4_code
def yJ2_putChar_b72d1 : MethodName := ⟨RJ2, "putChar", "([BII)V"⟩
abbrev cJ2_getChar_3b067 : ByteArray := prog_41_method_5_code
def yJ2_getChar_3b067 : MethodName := ⟨RJ2, "getChar", "([BI)C"⟩
abbrev cJ2_length_9d52b : ByteArray := prog_41_method_6_code
def yJ2_length_9d52b : MethodName := ⟨RJ2, "length", "([B)I"⟩
abbrev cJ2_coderFromArrayLen_85cad : ByteArray := prog_41_method_15_code
def yJ2_coderFromArrayLen_85cad : MethodName := ⟨RJ2, "coderFromArrayLen", "([BI)B"⟩
abbrev cJ2_compress_39247 : ByteArray := prog_41_method_17_code
def yJ2_compress_39247 : MethodName := ⟨RJ2, "compress", "([BII)[B"⟩
abbrev cJ2_compress_5af95 : ByteArray := prog_41_method_22_code
def yJ2_compress_5af95 : MethodName := ⟨RJ2, "compress", "([BI[BII)I"⟩
abbrev cJ2_getChars_46870 : ByteArray := prog_41_method_77_code
def yJ2_getChars_46870 : MethodName := ⟨RJ2, "getChars", "(III[B)I"⟩
abbrev cJ2_putCharsAt_cd4e5 : ByteArray := prog_41_method_81_code
def yJ2_putCharsAt_cd4e5 : MethodName := ⟨RJ2, "putCharsAt", "([BICCCC)I"⟩
abbrev cJ2_charAt_3b067 : ByteArray := prog_41_method_83_code
def yJ2_charAt_3b067 : MethodName := ⟨RJ2, "charAt", "([BI)C"⟩
abbrev cJ2_inflate_0e8fd : ByteArray := prog_41_method_86_code
def yJ2_inflate_0e8fd : MethodName := ⟨RJ2, "inflate", "([BI[BII)V"⟩
abbrev cJ2_getChars_ba4f3 : ByteArray := prog_41_method_89_code
def yJ2_getChars_ba4f3 : MethodName := ⟨RJ2, "getChars", "(II[B)I"⟩
abbrev cJ2_checkIndex_2214a : ByteArray := prog_41_method_91_code
def yJ2_checkIndex_2214a : MethodName := ⟨RJ2, "checkIndex", "(I[B)V"⟩
abbrev cJ2_checkBoundsBeginEnd_d044e : ByteArray := prog_41_method_93_code
def yJ2_checkBoundsBeginEnd_d044e : MethodName := ⟨RJ2, "checkBoundsBeginEnd", "(II[B)V"⟩
abbrev cJ2_checkBoundsOffCount_d044e : ByteArray := prog_41_method_94_code
def yJ2_checkBoundsOffCount_d044e : MethodName := ⟨RJ2, "checkBoundsOffCount", "(II[B)V"⟩
def RJ10 : String := "java/lang/System"
def TJ10 : u_T := fun k => match k with
  | _ => ("", "", "", false)
def tyJ10 : Nat → FieldType := fun k => match k with
  | _ => .int
abbrev wsJ100 : List Cond := u_ws RJ10 TJ10 0
theorem nmJ10 : ∀ a, a < 0 → ∀ b, b < 0 → a ≠ b → (TJ10 a).2.1 ≠ (TJ10 b).2.1 := by decide +kernel
theorem tyJ10_ok : ∀ k, k < 0 → parseFieldDescriptor (TJ10 k).2.2.1 = some (tyJ10 k) := by decide +kernel
def RJxfd54e : String := "java/lang/constant/Constable"
def TJxfd54e : u_T := fun k => match k with
  | _ => ("", "", "", false)
def tyJxfd54e : Nat → FieldType := fun k => match k with
  | _ => .int
abbrev wsJxfd54e0 : List Cond := u_ws RJxfd54e TJxfd54e 0
theorem nmJxfd54e : ∀ a, a < 0 → ∀ b, b < 0 → a ≠ b → (TJxfd54e a).2.1 ≠ (TJxfd54e b).2.1 := by decide +kernel
theorem tyJxfd54e_ok : ∀ k, k < 0 → parseFieldDescriptor (TJxfd54e k).2.2.1 = some (tyJxfd54e k) := by decide +kernel
def RJx3cf43 : String := "java/lang/constant/ConstantDesc"
def TJx3cf43 : u_T := fun k => match k with
  | _ => ("", "", "", false)
def tyJx3cf43 : Nat → FieldType := fun k => match k with
  | _ => .int
abbrev wsJx3cf430 : List Cond := u_ws RJx3cf43 TJx3cf43 0
theorem nmJx3cf43 : ∀ a, a < 0 → ∀ b, b < 0 → a ≠ b → (TJx3cf43 a).2.1 ≠ (TJx3cf43 b).2.1 := by decide +kernel
theorem tyJx3cf43_ok : ∀ k, k < 0 → parseFieldDescriptor (TJx3cf43 k).2.2.1 = some (tyJx3cf43 k) := by decide +kernel
def RJxa1e45 : String := "java/util/AbstractCollection"
def TJxa1e45 : u_T := fun k => match k with
  | _ => ("", "", "", false)
def tyJxa1e45 : Nat → FieldType := fun k => match k with
  | _ => .int
abbrev wsJxa1e450 : List Cond := u_ws RJxa1e45 TJxa1e45 0
theorem nmJxa1e45 : ∀ a, a < 0 → ∀ b, b < 0 → a ≠ b → (TJxa1e45 a).2.1 ≠ (TJxa1e45 b).2.1 := by decide +kernel
theorem tyJxa1e45_ok : ∀ k, k < 0 → parseFieldDescriptor (TJxa1e45 k).2.2.1 = some (tyJxa1e45 k) := by decide +kernel
abbrev cJxa1e45_init_da8c8 : ByteArray := prog_46_method_1_code
def yJxa1e45_init_da8c8 : MethodName := ⟨RJxa1e45, "<init>", "()V"⟩
def RJxc12de : String := "java/util/AbstractList"
def TJxc12de : u_T := fun k => match k with
  | _ => ("", "", "", false)
def tyJxc12de : Nat → FieldType := fun k => match k with
  | _ => .int
abbrev wsJxc12de0 : List Cond := u_ws RJxc12de TJxc12de 0
theorem nmJxc12de : ∀ a, a < 0 → ∀ b, b < 0 → a ≠ b → (TJxc12de a).2.1 ≠ (TJxc12de b).2.1 := by decide +kernel
theorem tyJxc12de_ok : ∀ k, k < 0 → parseFieldDescriptor (TJxc12de k).2.2.1 = some (tyJxc12de k) := by decide +kernel
abbrev cJxc12de_init_da8c8 : ByteArray := prog_47_method_1_code
def yJxc12de_init_da8c8 : MethodName := ⟨RJxc12de, "<init>", "()V"⟩
def RJx4a65c : String := "java/util/ArrayList"
def TJx4a65c : u_T := fun k => match k with
  | 0 => ("java/util/AbstractList", "modCount", "I", false)
  | 1 => ("java/util/ArrayList", "elementData", "[Ljava/lang/Object;", false)
  | _ => ("java/util/ArrayList", "size", "I", false)
def tyJx4a65c : Nat → FieldType := fun k => match k with
  | 0 => .int
  | 1 => .array (.object "java/lang/Object")
  | _ => .int
abbrev wsJx4a65c0 : List Cond := u_ws RJx4a65c TJx4a65c 3
theorem nmJx4a65c : ∀ a, a < 3 → ∀ b, b < 3 → a ≠ b → (TJx4a65c a).2.1 ≠ (TJx4a65c b).2.1 := by decide +kernel
theorem tyJx4a65c_ok : ∀ k, k < 3 → parseFieldDescriptor (TJx4a65c k).2.2.1 = some (tyJx4a65c k) := by decide +kernel
abbrev cJx4a65c_init_da8c8 : ByteArray := prog_48_method_2_code
def yJx4a65c_init_da8c8 : MethodName := ⟨RJx4a65c, "<init>", "()V"⟩
abbrev cJx4a65c_grow_92f84 : ByteArray := prog_48_method_6_code
def yJx4a65c_grow_92f84 : MethodName := ⟨RJx4a65c, "grow", "(I)[Ljava/lang/Object;"⟩
abbrev cJx4a65c_grow_d5877 : ByteArray := prog_48_method_7_code
def yJx4a65c_grow_d5877 : MethodName := ⟨RJx4a65c, "grow", "()[Ljava/lang/Object;"⟩
abbrev cJx4a65c_size_8abf5 : ByteArray := prog_48_method_8_code
def yJx4a65c_size_8abf5 : MethodName := ⟨RJx4a65c, "size", "()I"⟩
abbrev cJx4a65c_isEmpty_aae02 : ByteArray := prog_48_method_9_code
def yJx4a65c_isEmpty_aae02 : MethodName := ⟨RJx4a65c, "isEmpty", "()Z"⟩
abbrev cJx4a65c_elementData_915e3 : ByteArray := prog_48_method_18_code
def yJx4a65c_elementData_915e3 : MethodName := ⟨RJx4a65c, "elementData", "(I)Ljava/lang/Object;"⟩
abbrev cJx4a65c_get_915e3 : ByteArray := prog_48_method_20_code
def yJx4a65c_get_915e3 : MethodName := ⟨RJx4a65c, "get", "(I)Ljava/lang/Object;"⟩
abbrev cJx4a65c_add_72be8 : ByteArray := prog_48_method_24_code
def yJx4a65c_add_72be8 : MethodName := ⟨RJx4a65c, "add", "(Ljava/lang/Object;[Ljava/lang/Object;I)V"⟩
abbrev cJx4a65c_add_9ea2d : ByteArray := prog_48_method_25_code
def yJx4a65c_add_9ea2d : MethodName := ⟨RJx4a65c, "add", "(Ljava/lang/Object;)Z"⟩
abbrev cJx4a65c_add_7a177 : ByteArray := prog_48_method_26_code
def yJx4a65c_add_7a177 : MethodName := ⟨RJx4a65c, "add", "(ILjava/lang/Object;)V"⟩
abbrev cJx4a65c_remove_915e3 : ByteArray := prog_48_method_29_code
def yJx4a65c_remove_915e3 : MethodName := ⟨RJx4a65c, "remove", "(I)Ljava/lang/Object;"⟩
abbrev cJx4a65c_fastRemove_b59b0 : ByteArray := prog_48_method_39_code
def yJx4a65c_fastRemove_b59b0 : MethodName := ⟨RJx4a65c, "fastRemove", "([Ljava/lang/Object;I)V"⟩
abbrev cJx4a65c_clear_da8c8 : ByteArray := prog_48_method_40_code
def yJx4a65c_clear_da8c8 : MethodName := ⟨RJx4a65c, "clear", "()V"⟩
abbrev cJx4a65c_rangeCheckForAdd_d00df : ByteArray := prog_48_method_45_code
def yJx4a65c_rangeCheckForAdd_d00df : MethodName := ⟨RJx4a65c, "rangeCheckForAdd", "(I)V"⟩
abbrev cJx4a65c_outOfBoundsMsg_b52d3 : ByteArray := prog_48_method_46_code
def yJx4a65c_outOfBoundsMsg_b52d3 : MethodName := ⟨RJx4a65c, "outOfBoundsMsg", "(I)Ljava/lang/String;"⟩
def RJ7 : String := "java/util/Arrays"
def TJ7 : u_T := fun k => match k with
  | _ => ("", "", "", false)
def tyJ7 : Nat → FieldType := fun k => match k with
  | _ => .int
abbrev wsJ70 : List Cond := u_ws RJ7 TJ7 0
theorem nmJ7 : ∀ a, a < 0 → ∀ b, b < 0 → a ≠ b → (TJ7 a).2.1 ≠ (TJ7 b).2.1 := by decide +kernel
theorem tyJ7_ok : ∀ k, k < 0 → parseFieldDescriptor (TJ7 k).2.2.1 = some (tyJ7 k) := by decide +kernel
abbrev cJ7_copyOf_1904c : ByteArray := prog_49_method_119_code
def yJ7_copyOf_1904c : MethodName := ⟨RJ7, "copyOf", "([Ljava/lang/Object;I)[Ljava/lang/Object;"⟩
abbrev cJ7_copyOf_6403c : ByteArray := prog_49_method_120_code
def yJ7_copyOf_6403c : MethodName := ⟨RJ7, "copyOf", "([Ljava/lang/Object;ILjava/lang/Class;)[Ljava/lang/Object;"⟩
abbrev cJ7_copyOf_9075b : ByteArray := prog_49_method_121_code
def yJ7_copyOf_9075b : MethodName := ⟨RJ7, "copyOf", "([BI)[B"⟩
abbrev cJ7_checkLength_df160 : ByteArray := prog_49_method_131_code
def yJ7_checkLength_df160 : MethodName := ⟨RJ7, "checkLength", "(II)V"⟩
abbrev cJ7_copyOfRange_39247 : ByteArray := prog_49_method_132_code
def yJ7_copyOfRange_39247 : MethodName := ⟨RJ7, "copyOfRange", "([BII)[B"⟩
abbrev cJ7_copyOfRangeByte_39247 : ByteArray := prog_49_method_133_code
def yJ7_copyOfRangeByte_39247 : MethodName := ⟨RJ7, "copyOfRangeByte", "([BII)[B"⟩
def RJx5ef63 : String := "java/util/Collection"
def TJx5ef63 : u_T := fun k => match k with
  | _ => ("", "", "", false)
def tyJx5ef63 : Nat → FieldType := fun k => match k with
  | _ => .int
abbrev wsJx5ef630 : List Cond := u_ws RJx5ef63 TJx5ef63 0
theorem nmJx5ef63 : ∀ a, a < 0 → ∀ b, b < 0 → a ≠ b → (TJx5ef63 a).2.1 ≠ (TJx5ef63 b).2.1 := by decide +kernel
theorem tyJx5ef63_ok : ∀ k, k < 0 → parseFieldDescriptor (TJx5ef63 k).2.2.1 = some (tyJx5ef63 k) := by decide +kernel
def RJxbd725 : String := "java/util/List"
def TJxbd725 : u_T := fun k => match k with
  | _ => ("", "", "", false)
def tyJxbd725 : Nat → FieldType := fun k => match k with
  | _ => .int
abbrev wsJxbd7250 : List Cond := u_ws RJxbd725 TJxbd725 0
theorem nmJxbd725 : ∀ a, a < 0 → ∀ b, b < 0 → a ≠ b → (TJxbd725 a).2.1 ≠ (TJxbd725 b).2.1 := by decide +kernel
theorem tyJxbd725_ok : ∀ k, k < 0 → parseFieldDescriptor (TJxbd725 k).2.2.1 = some (tyJxbd725 k) := by decide +kernel
def RJ15 : String := "java/util/Objects"
def TJ15 : u_T := fun k => match k with
  | _ => ("", "", "", false)
def tyJ15 : Nat → FieldType := fun k => match k with
  | _ => .int
abbrev wsJ150 : List Cond := u_ws RJ15 TJ15 0
theorem nmJ15 : ∀ a, a < 0 → ∀ b, b < 0 → a ≠ b → (TJ15 a).2.1 ≠ (TJ15 b).2.1 := by decide +kernel
theorem tyJ15_ok : ∀ k, k < 0 → parseFieldDescriptor (TJ15 k).2.2.1 = some (tyJ15 k) := by decide +kernel
abbrev cJ15_checkIndex_7cf53 : ByteArray := prog_53_method_17_code
def yJ15_checkIndex_7cf53 : MethodName := ⟨RJ15, "checkIndex", "(II)I"⟩
def RJxf0a74 : String := "java/util/RandomAccess"
def TJxf0a74 : u_T := fun k => match k with
  | _ => ("", "", "", false)
def tyJxf0a74 : Nat → FieldType := fun k => match k with
  | _ => .int
abbrev wsJxf0a740 : List Cond := u_ws RJxf0a74 TJxf0a74 0
theorem nmJxf0a74 : ∀ a, a < 0 → ∀ b, b < 0 → a ≠ b → (TJxf0a74 a).2.1 ≠ (TJxf0a74 b).2.1 := by decide +kernel
theorem tyJxf0a74_ok : ∀ k, k < 0 → parseFieldDescriptor (TJxf0a74 k).2.2.1 = some (tyJxf0a74 k) := by decide +kernel
def RJxa66e6 : String := "java/util/SequencedCollection"
def TJxa66e6 : u_T := fun k => match k with
  | _ => ("", "", "", false)
def tyJxa66e6 : Nat → FieldType := fun k => match k with
  | _ => .int
abbrev wsJxa66e60 : List Cond := u_ws RJxa66e6 TJxa66e6 0
theorem nmJxa66e6 : ∀ a, a < 0 → ∀ b, b < 0 → a ≠ b → (TJxa66e6 a).2.1 ≠ (TJxa66e6 b).2.1 := by decide +kernel
theorem tyJxa66e6_ok : ∀ k, k < 0 → parseFieldDescriptor (TJxa66e6 k).2.2.1 = some (tyJxa66e6 k) := by decide +kernel
def RJ8 : String := "jdk/internal/util/ArraysSupport"
def TJ8 : u_T := fun k => match k with
  | _ => ("", "", "", false)
def tyJ8 : Nat → FieldType := fun k => match k with
  | _ => .int
abbrev wsJ80 : List Cond := u_ws RJ8 TJ8 0
theorem nmJ8 : ∀ a, a < 0 → ∀ b, b < 0 → a ≠ b → (TJ8 a).2.1 ≠ (TJ8 b).2.1 := by decide +kernel
theorem tyJ8_ok : ∀ k, k < 0 → parseFieldDescriptor (TJ8 k).2.2.1 = some (tyJ8 k) := by decide +kernel
abbrev cJ8_newLength_cabcc : ByteArray := prog_56_method_27_code
def yJ8_newLength_cabcc : MethodName := ⟨RJ8, "newLength", "(III)I"⟩
abbrev cJ8_hugeLength_7cf53 : ByteArray := prog_56_method_28_code
def yJ8_hugeLength_7cf53 : MethodName := ⟨RJ8, "hugeLength", "(II)I"⟩
def RJ3 : String := "jdk/internal/util/Preconditions"
def TJ3 : u_T := fun k => match k with
  | _ => ("", "", "", false)
def tyJ3 : Nat → FieldType := fun k => match k with
  | _ => .int
abbrev wsJ30 : List Cond := u_ws RJ3 TJ3 0
theorem nmJ3 : ∀ a, a < 0 → ∀ b, b < 0 → a ≠ b → (TJ3 a).2.1 ≠ (TJ3 b).2.1 := by decide +kernel
theorem tyJ3_ok : ∀ k, k < 0 → parseFieldDescriptor (TJ3 k).2.2.1 = some (tyJ3 k) := by decide +kernel
abbrev cJ3_checkIndex_8e157 : ByteArray := prog_57_method_11_code
def yJ3_checkIndex_8e157 : MethodName := ⟨RJ3, "checkIndex", "(IILjava/util/function/BiFunction;)I"⟩
abbrev cJ3_checkFromToIndex_8c36e : ByteArray := prog_57_method_12_code
def yJ3_checkFromToIndex_8c36e : MethodName := ⟨RJ3, "checkFromToIndex", "(IIILjava/util/function/BiFunction;)I"⟩
abbrev cJ3_checkFromIndexSize_8c36e : ByteArray := prog_57_method_13_code
def yJ3_checkFromIndexSize_8c36e : MethodName := ⟨RJ3, "checkFromIndexSize", "(IIILjava/util/function/BiFunction;)I"⟩
def RL : String := "StratumLedgeLaw"
abbrev cL_cell : ByteArray := method_2_code
def yL_cell : MethodName := ⟨RL, "cell", "([II)I"⟩
abbrev cL_pick : ByteArray := method_3_code
def yL_pick : MethodName := ⟨RL, "pick", "([III)I"⟩
abbrev cL_told : ByteArray := method_4_code
def yL_told : MethodName := ⟨RL, "told", "(Z)I"⟩
abbrev cL_plain : ByteArray := method_5_code
def yL_plain : MethodName := ⟨RL, "plain", "(LStratumLedge;IIIIII)I"⟩
abbrev cL_deed : ByteArray := method_6_code
def yL_deed : MethodName := ⟨RL, "deed", "(LStratumLedge;IIIIII)I"⟩
abbrev cL_asked : ByteArray := method_7_code
def yL_asked : MethodName := ⟨RL, "asked", "(LStratumLedge;IIIII)I"⟩
abbrev cL_ask : ByteArray := method_8_code
def yL_ask : MethodName := ⟨RL, "ask", "(LStratumLedge;IIIII)I"⟩
abbrev cL_write : ByteArray := method_9_code
def yL_write : MethodName := ⟨RL, "write", "([[I[IICIII)[I"⟩
abbrev cL_isOver : ByteArray := method_10_code
def yL_isOver : MethodName := ⟨RL, "isOver", "([II)Z"⟩
abbrev cL_applied : ByteArray := method_11_code
def yL_applied : MethodName := ⟨RL, "applied", "(CII)I"⟩
abbrev cL_value : ByteArray := method_12_code
def yL_value : MethodName := ⟨RL, "value", "([[I[CIII)I"⟩
abbrev cL_inMemory : ByteArray := method_13_code
def yL_inMemory : MethodName := ⟨RL, "inMemory", "([[III)I"⟩
abbrev cL_flushed : ByteArray := method_14_code
def yL_flushed : MethodName := ⟨RL, "flushed", "([[III)V"⟩
abbrev cL_logged : ByteArray := method_15_code
def yL_logged : MethodName := ⟨RL, "logged", "([[IIZ)I"⟩
abbrev cL_isWrite : ByteArray := method_16_code
def yL_isWrite : MethodName := ⟨RL, "isWrite", "(LStratumLedge;[II[[I[II)Z"⟩
abbrev cL_areRuns : ByteArray := method_17_code
def yL_areRuns : MethodName := ⟨RL, "areRuns", "(LStratumLedge;I)Z"⟩
abbrev cL_isWhole : ByteArray := method_18_code
def yL_isWhole : MethodName := ⟨RL, "isWhole", "(LStratumLedge;[[I[CIII)Z"⟩
abbrev cL_law : ByteArray := code
def yL_law : MethodName := ⟨RL, "law", "([I)Z"⟩
abbrev vwCl : List vw_C := [(RJ0, TJ0, 4), (RJ4, TJ4, 4), (RJx00060, TJx00060, 6), (RJx4a65c, TJx4a65c, 3), (RX0, TX0, 2), (RX1, TX1, 5), (RX2, TX2, 4), (RX3, TX3, 3), (RX4, TX4, 3), (RX5, TX5, 2), (RX6, TX6, 7), (RX7, TX7, 7), (RX8, TX8, 2), (RX9, TX9, 4), (RX10, TX10, 18)]
