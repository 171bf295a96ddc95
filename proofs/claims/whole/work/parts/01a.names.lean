/-! ===== BEGIN words of one list among another's, by their places ===== -/
theorem goodIn_r {big : List Cond} (ws : List Cond) (ps : List Nat) (hp : ws = ps.filterMap (fun i => big[i]?)) (h : ws.all goodWord = true) : GoodIn big ws := by
  intro w hw
  have h1 := List.all_eq_true.mp h w hw
  rw [hp] at hw
  obtain ⟨i, -, hi⟩ := List.mem_filterMap.mp hw
  have hm : w ∈ big := by first | exact List.mem_of_getElem? hi | exact List.getElem?_mem hi
  exact ⟨hm, good_of_word h1⟩
theorem goodIn_app {big a b : List Cond} (ha : GoodIn big a) (hb : GoodIn big b) : GoodIn big (a ++ b) := fun w h => (List.mem_append.mp h).elim (ha w) (hb w)
theorem goodIn_ca {big a b : List Cond} {c : Cond} (ha : GoodIn big (c :: a)) (hb : GoodIn big b) : GoodIn big (c :: (a ++ b)) := fun w h => (List.mem_cons.mp h).elim (fun e => ha w (List.mem_cons.mpr (Or.inl e))) (fun h => (List.mem_append.mp h).elim (fun h => ha w (List.mem_cons.mpr (Or.inr h))) (hb w))
theorem goodIn_sub {big ws : List Cond} (hm : ∀ w ∈ ws, w ∈ big) (h : ws.all goodWord = true) : GoodIn big ws := fun w hw => ⟨hm w hw, good_of_word (List.all_eq_true.mp h w hw)⟩
/-! ===== END ===== -/

/-! ===== BEGIN printed: names, fields, word lists, decode rows ===== -/
def RX0 : String := "SmallSpaces$Frame"
def TX0 : u_T := fun k => match k with
  | 0 => ("SmallSpaces$Frame", "q", "I", false)
  | 1 => ("SmallSpaces$Frame", "n", "I", false)
  | _ => ("SmallSpaces$Frame", "vectors", "I", false)
def tyX0 : Nat → FieldType := fun k => match k with
  | 0 => .int
  | 1 => .int
  | _ => .int
abbrev wsX00 : List Cond := u_ws RX0 TX0 3
theorem nmX0 : ∀ a, a < 3 → ∀ b, b < 3 → a ≠ b → (TX0 a).2.1 ≠ (TX0 b).2.1 := by decide +kernel
theorem tyX0_ok : ∀ k, k < 3 → parseFieldDescriptor (TX0 k).2.2.1 = some (tyX0 k) := by decide +kernel
abbrev cX0_init : ByteArray := prog_2_method_1_code
def yX0_init : MethodName := ⟨RX0, "<init>", "()V"⟩
abbrev cX0_become : ByteArray := prog_2_method_2_code
def yX0_become : MethodName := ⟨RX0, "become", "(II)V"⟩
abbrev cX0_isVector : ByteArray := prog_2_method_3_code
def yX0_isVector : MethodName := ⟨RX0, "isVector", "(I)Z"⟩
abbrev cX0_power : ByteArray := prog_2_method_4_code
def yX0_power : MethodName := ⟨RX0, "power", "(I)I"⟩
abbrev cX0_sum : ByteArray := prog_2_method_5_code
def yX0_sum : MethodName := ⟨RX0, "sum", "(III)I"⟩
abbrev cX0_product : ByteArray := prog_2_method_6_code
def yX0_product : MethodName := ⟨RX0, "product", "(II)I"⟩
abbrev cX0_spell : ByteArray := prog_2_method_7_code
def yX0_spell : MethodName := ⟨RX0, "spell", "(I[II)V"⟩
abbrev cX0_vectorNumber : ByteArray := prog_2_method_8_code
def yX0_vectorNumber : MethodName := ⟨RX0, "vectorNumber", "([II)I"⟩
abbrev cX0_inverse : ByteArray := prog_2_method_9_code
def yX0_inverse : MethodName := ⟨RX0, "inverse", "(I)I"⟩
abbrev cX0_addMultiple : ByteArray := prog_2_method_10_code
def yX0_addMultiple : MethodName := ⟨RX0, "addMultiple", "([II[III)V"⟩
abbrev cX0_spaces : ByteArray := prog_2_method_11_code
def yX0_spaces : MethodName := ⟨RX0, "spaces", "(II)I"⟩
def RX1 : String := "SmallSpaces$Heap"
def TX1 : u_T := fun k => match k with
  | 0 => ("SmallSpaces$Heap", "spaces", "[LSmallSpaces$Space;", true)
  | 1 => ("SmallSpaces$Heap", "joined", "LSmallSpaces$Space;", true)
  | _ => ("SmallSpaces$Heap", "size", "I", false)
def tyX1 : Nat → FieldType := fun k => match k with
  | 0 => .array (.object "SmallSpaces$Space")
  | 1 => .object "SmallSpaces$Space"
  | _ => .int
abbrev wsX10 : List Cond := u_ws RX1 TX1 3
theorem nmX1 : ∀ a, a < 3 → ∀ b, b < 3 → a ≠ b → (TX1 a).2.1 ≠ (TX1 b).2.1 := by decide +kernel
theorem tyX1_ok : ∀ k, k < 3 → parseFieldDescriptor (TX1 k).2.2.1 = some (tyX1 k) := by decide +kernel
abbrev cX1_init : ByteArray := prog_3_method_1_code
def yX1_init : MethodName := ⟨RX1, "<init>", "(LSmallSpaces$Frame;)V"⟩
abbrev cX1_accept : ByteArray := prog_3_method_2_code
def yX1_accept : MethodName := ⟨RX1, "accept", "(LSmallSpaces$Space;)V"⟩
abbrev cX1_allApart : ByteArray := prog_3_method_3_code
def yX1_allApart : MethodName := ⟨RX1, "allApart", "(LSmallSpaces$Space;I)Z"⟩
abbrev cX1_leastDistance : ByteArray := prog_3_method_4_code
def yX1_leastDistance : MethodName := ⟨RX1, "leastDistance", "()I"⟩
abbrev cX1_covers : ByteArray := prog_3_method_5_code
def yX1_covers : MethodName := ⟨RX1, "covers", "([I)Z"⟩
def RX2 : String := "SmallSpaces$Linear"
def TX2 : u_T := fun k => match k with
  | 0 => ("SmallSpaces$Linear", "frame", "LSmallSpaces$Frame;", true)
  | 1 => ("SmallSpaces$Linear", "cells", "[I", true)
  | _ => ("SmallSpaces$Linear", "result", "[I", true)
def tyX2 : Nat → FieldType := fun k => match k with
  | 0 => .object "SmallSpaces$Frame"
  | 1 => .array .int
  | _ => .array .int
abbrev wsX20 : List Cond := u_ws RX2 TX2 3
theorem nmX2 : ∀ a, a < 3 → ∀ b, b < 3 → a ≠ b → (TX2 a).2.1 ≠ (TX2 b).2.1 := by decide +kernel
theorem tyX2_ok : ∀ k, k < 3 → parseFieldDescriptor (TX2 k).2.2.1 = some (tyX2 k) := by decide +kernel
abbrev cX2_init : ByteArray := prog_4_method_1_code
def yX2_init : MethodName := ⟨RX2, "<init>", "(LSmallSpaces$Frame;)V"⟩
abbrev cX2_becomeIdentity : ByteArray := prog_4_method_2_code
def yX2_becomeIdentity : MethodName := ⟨RX2, "becomeIdentity", "()V"⟩
abbrev cX2_imageNumber : ByteArray := prog_4_method_3_code
def yX2_imageNumber : MethodName := ⟨RX2, "imageNumber", "(I)I"⟩
abbrev cX2_setImage : ByteArray := prog_4_method_4_code
def yX2_setImage : MethodName := ⟨RX2, "setImage", "(II)V"⟩
abbrev cX2_apply : ByteArray := prog_4_method_5_code
def yX2_apply : MethodName := ⟨RX2, "apply", "([I)I"⟩
abbrev cX2_applyInto : ByteArray := prog_4_method_6_code
def yX2_applyInto : MethodName := ⟨RX2, "applyInto", "([II)V"⟩
abbrev cX2_applyToSpace : ByteArray := prog_4_method_7_code
def yX2_applyToSpace : MethodName := ⟨RX2, "applyToSpace", "(LSmallSpaces$Space;LSmallSpaces$Space;)V"⟩
abbrev cX2_columnSpace : ByteArray := prog_4_method_8_code
def yX2_columnSpace : MethodName := ⟨RX2, "columnSpace", "(LSmallSpaces$Space;)V"⟩
def RX3 : String := "SmallSpaces$Space"
def TX3 : u_T := fun k => match k with
  | 0 => ("SmallSpaces$Space", "frame", "LSmallSpaces$Frame;", true)
  | 1 => ("SmallSpaces$Space", "cells", "[I", true)
  | 2 => ("SmallSpaces$Space", "fresh", "[I", true)
  | _ => ("SmallSpaces$Space", "pivots", "I", false)
def tyX3 : Nat → FieldType := fun k => match k with
  | 0 => .object "SmallSpaces$Frame"
  | 1 => .array .int
  | 2 => .array .int
  | _ => .int
abbrev wsX30 : List Cond := u_ws RX3 TX3 4
theorem nmX3 : ∀ a, a < 4 → ∀ b, b < 4 → a ≠ b → (TX3 a).2.1 ≠ (TX3 b).2.1 := by decide +kernel
theorem tyX3_ok : ∀ k, k < 4 → parseFieldDescriptor (TX3 k).2.2.1 = some (tyX3 k) := by decide +kernel
abbrev cX3_init : ByteArray := prog_5_method_1_code
def yX3_init : MethodName := ⟨RX3, "<init>", "(LSmallSpaces$Frame;)V"⟩
abbrev cX3_becomeZero : ByteArray := prog_5_method_2_code
def yX3_becomeZero : MethodName := ⟨RX3, "becomeZero", "()V"⟩
abbrev cX3_copyFrom : ByteArray := prog_5_method_3_code
def yX3_copyFrom : MethodName := ⟨RX3, "copyFrom", "(LSmallSpaces$Space;)V"⟩
abbrev cX3_rank : ByteArray := prog_5_method_4_code
def yX3_rank : MethodName := ⟨RX3, "rank", "()I"⟩
abbrev cX3_isPivot : ByteArray := prog_5_method_5_code
def yX3_isPivot : MethodName := ⟨RX3, "isPivot", "(I)Z"⟩
abbrev cX3_rowNumber : ByteArray := prog_5_method_6_code
def yX3_rowNumber : MethodName := ⟨RX3, "rowNumber", "(I)I"⟩
abbrev cX3_holds : ByteArray := prog_5_method_7_code
def yX3_holds : MethodName := ⟨RX3, "holds", "([II)Z"⟩
abbrev cX3_settledFigure : ByteArray := prog_5_method_8_code
def yX3_settledFigure : MethodName := ⟨RX3, "settledFigure", "([III)I"⟩
abbrev cX3_liesIn : ByteArray := prog_5_method_9_code
def yX3_liesIn : MethodName := ⟨RX3, "liesIn", "(LSmallSpaces$Space;)Z"⟩
abbrev cX3_sameAs : ByteArray := prog_5_method_10_code
def yX3_sameAs : MethodName := ⟨RX3, "sameAs", "(LSmallSpaces$Space;)Z"⟩
abbrev cX3_joinVector : ByteArray := prog_5_method_11_code
def yX3_joinVector : MethodName := ⟨RX3, "joinVector", "([II)V"⟩
abbrev cX3_joinSpace : ByteArray := prog_5_method_12_code
def yX3_joinSpace : MethodName := ⟨RX3, "joinSpace", "(LSmallSpaces$Space;)V"⟩
abbrev cX3_joinFresh : ByteArray := prog_5_method_13_code
def yX3_joinFresh : MethodName := ⟨RX3, "joinFresh", "()V"⟩
abbrev cX3_takeRow : ByteArray := prog_5_method_14_code
def yX3_takeRow : MethodName := ⟨RX3, "takeRow", "(II)V"⟩
abbrev cX3_reduceFresh : ByteArray := prog_5_method_15_code
def yX3_reduceFresh : MethodName := ⟨RX3, "reduceFresh", "()V"⟩
abbrev cX3_becomeDual : ByteArray := prog_5_method_16_code
def yX3_becomeDual : MethodName := ⟨RX3, "becomeDual", "(LSmallSpaces$Space;)V"⟩
abbrev cX3_distance : ByteArray := prog_5_method_17_code
def yX3_distance : MethodName := ⟨RX3, "distance", "(LSmallSpaces$Space;LSmallSpaces$Space;)I"⟩
abbrev cX3_freeCells : ByteArray := prog_5_method_18_code
def yX3_freeCells : MethodName := ⟨RX3, "freeCells", "(I)I"⟩
abbrev cX3_ordinal : ByteArray := prog_5_method_19_code
def yX3_ordinal : MethodName := ⟨RX3, "ordinal", "()I"⟩
abbrev cX3_cellsValue : ByteArray := prog_5_method_20_code
def yX3_cellsValue : MethodName := ⟨RX3, "cellsValue", "()I"⟩
abbrev cX3_becomeOrdinal : ByteArray := prog_5_method_21_code
def yX3_becomeOrdinal : MethodName := ⟨RX3, "becomeOrdinal", "(II)V"⟩
abbrev cX3_fillCells : ByteArray := prog_5_method_22_code
def yX3_fillCells : MethodName := ⟨RX3, "fillCells", "(I)V"⟩
def RX4 : String := "SmallSpaces"
def TX4 : u_T := fun k => match k with
  | 0 => ("SmallSpaces", "frame", "LSmallSpaces$Frame;", true)
  | 1 => ("SmallSpaces", "slots", "[LSmallSpaces$Space;", true)
  | 2 => ("SmallSpaces", "heap", "LSmallSpaces$Heap;", true)
  | 3 => ("SmallSpaces", "linear", "LSmallSpaces$Linear;", true)
  | 4 => ("SmallSpaces", "made", "LSmallSpaces$Space;", true)
  | 5 => ("SmallSpaces", "other", "LSmallSpaces$Space;", true)
  | 6 => ("SmallSpaces", "figures", "[I", true)
  | 7 => ("SmallSpaces", "greedyDone", "I", false)
  | _ => ("SmallSpaces", "roundsDone", "I", false)
def tyX4 : Nat → FieldType := fun k => match k with
  | 0 => .object "SmallSpaces$Frame"
  | 1 => .array (.object "SmallSpaces$Space")
  | 2 => .object "SmallSpaces$Heap"
  | 3 => .object "SmallSpaces$Linear"
  | 4 => .object "SmallSpaces$Space"
  | 5 => .object "SmallSpaces$Space"
  | 6 => .array .int
  | 7 => .int
  | _ => .int
abbrev wsX40 : List Cond := u_ws RX4 TX4 9
theorem nmX4 : ∀ a, a < 9 → ∀ b, b < 9 → a ≠ b → (TX4 a).2.1 ≠ (TX4 b).2.1 := by decide +kernel
theorem tyX4_ok : ∀ k, k < 9 → parseFieldDescriptor (TX4 k).2.2.1 = some (tyX4 k) := by decide +kernel
abbrev cX4_init : ByteArray := prog_1_method_1_code
def yX4_init : MethodName := ⟨RX4, "<init>", "()V"⟩
abbrev cX4_field : ByteArray := prog_1_method_2_code
def yX4_field : MethodName := ⟨RX4, "field", "(II)I"⟩
abbrev cX4_plus : ByteArray := prog_1_method_3_code
def yX4_plus : MethodName := ⟨RX4, "plus", "(III)I"⟩
abbrev cX4_times : ByteArray := prog_1_method_4_code
def yX4_times : MethodName := ⟨RX4, "times", "(II)I"⟩
abbrev cX4_add : ByteArray := prog_1_method_5_code
def yX4_add : MethodName := ⟨RX4, "add", "(II)I"⟩
abbrev cX4_clear : ByteArray := prog_1_method_6_code
def yX4_clear : MethodName := ⟨RX4, "clear", "(I)I"⟩
abbrev cX4_dim : ByteArray := prog_1_method_7_code
def yX4_dim : MethodName := ⟨RX4, "dim", "(I)I"⟩
abbrev cX4_row : ByteArray := prog_1_method_8_code
def yX4_row : MethodName := ⟨RX4, "row", "(II)I"⟩
abbrev cX4_join : ByteArray := prog_1_method_9_code
def yX4_join : MethodName := ⟨RX4, "join", "(III)I"⟩
abbrev cX4_meet : ByteArray := prog_1_method_10_code
def yX4_meet : MethodName := ⟨RX4, "meet", "(III)I"⟩
abbrev cX4_dual : ByteArray := prog_1_method_11_code
def yX4_dual : MethodName := ⟨RX4, "dual", "(II)I"⟩
abbrev cX4_has : ByteArray := prog_1_method_12_code
def yX4_has : MethodName := ⟨RX4, "has", "(II)I"⟩
abbrev cX4_within : ByteArray := prog_1_method_13_code
def yX4_within : MethodName := ⟨RX4, "within", "(II)I"⟩
abbrev cX4_apart : ByteArray := prog_1_method_14_code
def yX4_apart : MethodName := ⟨RX4, "apart", "(II)I"⟩
abbrev cX4_number : ByteArray := prog_1_method_15_code
def yX4_number : MethodName := ⟨RX4, "number", "(I)I"⟩
abbrev cX4_numbered : ByteArray := prog_1_method_16_code
def yX4_numbered : MethodName := ⟨RX4, "numbered", "(III)I"⟩
abbrev cX4_many : ByteArray := prog_1_method_17_code
def yX4_many : MethodName := ⟨RX4, "many", "(I)I"⟩
abbrev cX4_over : ByteArray := prog_1_method_18_code
def yX4_over : MethodName := ⟨RX4, "over", "(II)I"⟩
abbrev cX4_meeting : ByteArray := prog_1_method_19_code
def yX4_meeting : MethodName := ⟨RX4, "meeting", "(III)I"⟩
abbrev cX4_put : ByteArray := prog_1_method_20_code
def yX4_put : MethodName := ⟨RX4, "put", "(I)I"⟩
abbrev cX4_empty : ByteArray := prog_1_method_21_code
def yX4_empty : MethodName := ⟨RX4, "empty", "()I"⟩
abbrev cX4_take : ByteArray := prog_1_method_22_code
def yX4_take : MethodName := ⟨RX4, "take", "(II)I"⟩
abbrev cX4_least : ByteArray := prog_1_method_23_code
def yX4_least : MethodName := ⟨RX4, "least", "()I"⟩
abbrev cX4_bare : ByteArray := prog_1_method_24_code
def yX4_bare : MethodName := ⟨RX4, "bare", "()I"⟩
abbrev cX4_greedy : ByteArray := prog_1_method_25_code
def yX4_greedy : MethodName := ⟨RX4, "greedy", "(II)I"⟩
abbrev cX4_image : ByteArray := prog_1_method_26_code
def yX4_image : MethodName := ⟨RX4, "image", "(II)I"⟩
abbrev cX4_mapped : ByteArray := prog_1_method_27_code
def yX4_mapped : MethodName := ⟨RX4, "mapped", "(I)I"⟩
abbrev cX4_map : ByteArray := prog_1_method_28_code
def yX4_map : MethodName := ⟨RX4, "map", "(II)I"⟩
abbrev cX4_kernel : ByteArray := prog_1_method_29_code
def yX4_kernel : MethodName := ⟨RX4, "kernel", "(I)I"⟩
abbrev cX4_round : ByteArray := prog_1_method_30_code
def yX4_round : MethodName := ⟨RX4, "round", "(I)I"⟩
abbrev cX4_told : ByteArray := prog_1_method_31_code
def yX4_told : MethodName := ⟨RX4, "told", "(I)I"⟩
abbrev cX4_digest : ByteArray := prog_1_method_32_code
def yX4_digest : MethodName := ⟨RX4, "digest", "()J"⟩
abbrev cX4_mostPlaces : ByteArray := prog_1_method_33_code
def yX4_mostPlaces : MethodName := ⟨RX4, "mostPlaces", "(I)I"⟩
abbrev cX4_isSlot : ByteArray := prog_1_method_34_code
def yX4_isSlot : MethodName := ⟨RX4, "isSlot", "(I)Z"⟩
abbrev cX4_isDim : ByteArray := prog_1_method_35_code
def yX4_isDim : MethodName := ⟨RX4, "isDim", "(I)Z"⟩
abbrev cX4_settle : ByteArray := prog_1_method_36_code
def yX4_settle : MethodName := ⟨RX4, "settle", "(LSmallSpaces$Space;I)I"⟩
abbrev cX4_timesTillAgain : ByteArray := prog_1_method_37_code
def yX4_timesTillAgain : MethodName := ⟨RX4, "timesTillAgain", "(LSmallSpaces$Space;)I"⟩
abbrev cX4_fold : ByteArray := prog_1_method_38_code
def yX4_fold : MethodName := ⟨RX4, "fold", "(JI)J"⟩
abbrev cX4_foldSpace : ByteArray := prog_1_method_39_code
def yX4_foldSpace : MethodName := ⟨RX4, "foldSpace", "(JLSmallSpaces$Space;)J"⟩
def RX5 : String := "SmallSpacesModel"
def TX5 : u_T := fun k => match k with
  | 0 => ("SmallSpacesModel", "q", "I", false)
  | 1 => ("SmallSpacesModel", "n", "I", false)
  | 2 => ("SmallSpacesModel", "vectors", "I", false)
  | 3 => ("SmallSpacesModel", "images", "[I", true)
  | 4 => ("SmallSpacesModel", "greedies", "I", false)
  | 5 => ("SmallSpacesModel", "rounds", "I", false)
  | 6 => ("SmallSpacesModel", "work", "[I", true)
  | 7 => ("SmallSpacesModel", "worked", "I", false)
  | 8 => ("SmallSpacesModel", "isPivot", "[Z", true)
  | 9 => ("SmallSpacesModel", "dims", "[I", true)
  | 10 => ("SmallSpacesModel", "rows", "[I", true)
  | 11 => ("SmallSpacesModel", "aside", "[I", true)
  | 12 => ("SmallSpacesModel", "pivots", "[I", true)
  | 13 => ("SmallSpacesModel", "heapMany", "I", false)
  | 14 => ("SmallSpacesModel", "heapDims", "[I", true)
  | _ => ("SmallSpacesModel", "heapRows", "[I", true)
def tyX5 : Nat → FieldType := fun k => match k with
  | 0 => .int
  | 1 => .int
  | 2 => .int
  | 3 => .array .int
  | 4 => .int
  | 5 => .int
  | 6 => .array .int
  | 7 => .int
  | 8 => .array .boolean
  | 9 => .array .int
  | 10 => .array .int
  | 11 => .array .int
  | 12 => .array .int
  | 13 => .int
  | 14 => .array .int
  | _ => .array .int
abbrev wsX50 : List Cond := u_ws RX5 TX5 16
theorem nmX5 : ∀ a, a < 16 → ∀ b, b < 16 → a ≠ b → (TX5 a).2.1 ≠ (TX5 b).2.1 := by decide +kernel
theorem tyX5_ok : ∀ k, k < 16 → parseFieldDescriptor (TX5 k).2.2.1 = some (tyX5 k) := by decide +kernel
abbrev cX5_init : ByteArray := prog_7_method_1_code
def yX5_init : MethodName := ⟨RX5, "<init>", "()V"⟩
abbrev cX5_in : ByteArray := prog_7_method_2_code
def yX5_in : MethodName := ⟨RX5, "in", "(JJJ)Z"⟩
abbrev cX5_power : ByteArray := prog_7_method_3_code
def yX5_power : MethodName := ⟨RX5, "power", "(II)I"⟩
abbrev cX5_begin : ByteArray := prog_7_method_4_code
def yX5_begin : MethodName := ⟨RX5, "begin", "()V"⟩
abbrev cX5_field : ByteArray := prog_7_method_5_code
def yX5_field : MethodName := ⟨RX5, "field", "(II)I"⟩
abbrev cX5_figure : ByteArray := prog_7_method_6_code
def yX5_figure : MethodName := ⟨RX5, "figure", "(II)I"⟩
abbrev cX5_isVector : ByteArray := prog_7_method_7_code
def yX5_isVector : MethodName := ⟨RX5, "isVector", "(I)Z"⟩
abbrev cX5_sum : ByteArray := prog_7_method_8_code
def yX5_sum : MethodName := ⟨RX5, "sum", "(III)I"⟩
abbrev cX5_plus : ByteArray := prog_7_method_9_code
def yX5_plus : MethodName := ⟨RX5, "plus", "(III)I"⟩
abbrev cX5_product : ByteArray := prog_7_method_10_code
def yX5_product : MethodName := ⟨RX5, "product", "(II)I"⟩
abbrev cX5_times : ByteArray := prog_7_method_11_code
def yX5_times : MethodName := ⟨RX5, "times", "(II)I"⟩
abbrev cX5_settle : ByteArray := prog_7_method_12_code
def yX5_settle : MethodName := ⟨RX5, "settle", "()V"⟩
abbrev cX5_pivot : ByteArray := prog_7_method_13_code
def yX5_pivot : MethodName := ⟨RX5, "pivot", "(I)I"⟩
abbrev cX5_turn : ByteArray := prog_7_method_14_code
def yX5_turn : MethodName := ⟨RX5, "turn", "()V"⟩
abbrev cX5_isSlot : ByteArray := prog_7_method_15_code
def yX5_isSlot : MethodName := ⟨RX5, "isSlot", "(I)Z"⟩
abbrev cX5_load : ByteArray := prog_7_method_16_code
def yX5_load : MethodName := ⟨RX5, "load", "(I)V"⟩
abbrev cX5_save : ByteArray := prog_7_method_17_code
def yX5_save : MethodName := ⟨RX5, "save", "(I)I"⟩
abbrev cX5_add : ByteArray := prog_7_method_18_code
def yX5_add : MethodName := ⟨RX5, "add", "(II)I"⟩
abbrev cX5_clear : ByteArray := prog_7_method_19_code
def yX5_clear : MethodName := ⟨RX5, "clear", "(I)I"⟩
abbrev cX5_dim : ByteArray := prog_7_method_20_code
def yX5_dim : MethodName := ⟨RX5, "dim", "(I)I"⟩
abbrev cX5_row : ByteArray := prog_7_method_21_code
def yX5_row : MethodName := ⟨RX5, "row", "(II)I"⟩
abbrev cX5_areSlots : ByteArray := prog_7_method_22_code
def yX5_areSlots : MethodName := ⟨RX5, "areSlots", "(III)Z"⟩
abbrev cX5_joined : ByteArray := prog_7_method_23_code
def yX5_joined : MethodName := ⟨RX5, "joined", "(II)I"⟩
abbrev cX5_join : ByteArray := prog_7_method_24_code
def yX5_join : MethodName := ⟨RX5, "join", "(III)I"⟩
abbrev cX5_meet : ByteArray := prog_7_method_25_code
def yX5_meet : MethodName := ⟨RX5, "meet", "(III)I"⟩
abbrev cX5_dual : ByteArray := prog_7_method_26_code
def yX5_dual : MethodName := ⟨RX5, "dual", "(II)I"⟩
abbrev cX5_holds : ByteArray := prog_7_method_27_code
def yX5_holds : MethodName := ⟨RX5, "holds", "(II)Z"⟩
abbrev cX5_has : ByteArray := prog_7_method_28_code
def yX5_has : MethodName := ⟨RX5, "has", "(II)I"⟩
abbrev cX5_within : ByteArray := prog_7_method_29_code
def yX5_within : MethodName := ⟨RX5, "within", "(II)I"⟩
abbrev cX5_apart : ByteArray := prog_7_method_30_code
def yX5_apart : MethodName := ⟨RX5, "apart", "(II)I"⟩
abbrev cX5_gauss : ByteArray := prog_7_method_31_code
def yX5_gauss : MethodName := ⟨RX5, "gauss", "(II)I"⟩
abbrev cX5_many : ByteArray := prog_7_method_32_code
def yX5_many : MethodName := ⟨RX5, "many", "(I)I"⟩
abbrev cX5_free : ByteArray := prog_7_method_33_code
def yX5_free : MethodName := ⟨RX5, "free", "(I)I"⟩
abbrev cX5_goOn : ByteArray := prog_7_method_34_code
def yX5_goOn : MethodName := ⟨RX5, "goOn", "(I)Z"⟩
abbrev cX5_firstPivots : ByteArray := prog_7_method_35_code
def yX5_firstPivots : MethodName := ⟨RX5, "firstPivots", "(I)V"⟩
abbrev cX5_isFree : ByteArray := prog_7_method_36_code
def yX5_isFree : MethodName := ⟨RX5, "isFree", "(III)Z"⟩
abbrev cX5_number : ByteArray := prog_7_method_37_code
def yX5_number : MethodName := ⟨RX5, "number", "(I)I"⟩
abbrev cX5_lay : ByteArray := prog_7_method_38_code
def yX5_lay : MethodName := ⟨RX5, "lay", "(II)V"⟩
abbrev cX5_numbered : ByteArray := prog_7_method_39_code
def yX5_numbered : MethodName := ⟨RX5, "numbered", "(III)I"⟩
abbrev cX5_over : ByteArray := prog_7_method_40_code
def yX5_over : MethodName := ⟨RX5, "over", "(II)I"⟩
abbrev cX5_meeting : ByteArray := prog_7_method_41_code
def yX5_meeting : MethodName := ⟨RX5, "meeting", "(III)I"⟩
abbrev cX5_toHeap : ByteArray := prog_7_method_42_code
def yX5_toHeap : MethodName := ⟨RX5, "toHeap", "()V"⟩
abbrev cX5_loadHeap : ByteArray := prog_7_method_43_code
def yX5_loadHeap : MethodName := ⟨RX5, "loadHeap", "(I)V"⟩
abbrev cX5_put : ByteArray := prog_7_method_44_code
def yX5_put : MethodName := ⟨RX5, "put", "(I)I"⟩
abbrev cX5_empty : ByteArray := prog_7_method_45_code
def yX5_empty : MethodName := ⟨RX5, "empty", "()I"⟩
abbrev cX5_take : ByteArray := prog_7_method_46_code
def yX5_take : MethodName := ⟨RX5, "take", "(II)I"⟩
abbrev cX5_least : ByteArray := prog_7_method_47_code
def yX5_least : MethodName := ⟨RX5, "least", "()I"⟩
abbrev cX5_bare : ByteArray := prog_7_method_48_code
def yX5_bare : MethodName := ⟨RX5, "bare", "()I"⟩
abbrev cX5_greedy : ByteArray := prog_7_method_49_code
def yX5_greedy : MethodName := ⟨RX5, "greedy", "(II)I"⟩
abbrev cX5_image : ByteArray := prog_7_method_50_code
def yX5_image : MethodName := ⟨RX5, "image", "(II)I"⟩
abbrev cX5_mappedOf : ByteArray := prog_7_method_51_code
def yX5_mappedOf : MethodName := ⟨RX5, "mappedOf", "(I)I"⟩
abbrev cX5_mapped : ByteArray := prog_7_method_52_code
def yX5_mapped : MethodName := ⟨RX5, "mapped", "(I)I"⟩
abbrev cX5_map : ByteArray := prog_7_method_53_code
def yX5_map : MethodName := ⟨RX5, "map", "(II)I"⟩
abbrev cX5_step : ByteArray := prog_7_method_54_code
def yX5_step : MethodName := ⟨RX5, "step", "()V"⟩
abbrev cX5_kernel : ByteArray := prog_7_method_55_code
def yX5_kernel : MethodName := ⟨RX5, "kernel", "(I)I"⟩
abbrev cX5_round : ByteArray := prog_7_method_56_code
def yX5_round : MethodName := ⟨RX5, "round", "(I)I"⟩
abbrev cX5_told : ByteArray := prog_7_method_57_code
def yX5_told : MethodName := ⟨RX5, "told", "(I)I"⟩
abbrev cX5_digest : ByteArray := prog_7_method_58_code
def yX5_digest : MethodName := ⟨RX5, "digest", "()J"⟩
def RJ6 : String := "java/lang/Integer"
def TJ6 : u_T := fun k => match k with
  | _ => ("", "", "", false)
def tyJ6 : Nat → FieldType := fun k => match k with
  | _ => .int
abbrev wsJ60 : List Cond := u_ws RJ6 TJ6 0
theorem nmJ6 : ∀ a, a < 0 → ∀ b, b < 0 → a ≠ b → (TJ6 a).2.1 ≠ (TJ6 b).2.1 := by decide +kernel
theorem tyJ6_ok : ∀ k, k < 0 → parseFieldDescriptor (TJ6 k).2.2.1 = some (tyJ6 k) := by decide +kernel
abbrev cJ6_bitCount_0f7a4 : ByteArray := prog_8_method_49_code
def yJ6_bitCount_0f7a4 : MethodName := ⟨RJ6, "bitCount", "(I)I"⟩
def RJ9 : String := "java/lang/Math"
def TJ9 : u_T := fun k => match k with
  | _ => ("", "", "", false)
def tyJ9 : Nat → FieldType := fun k => match k with
  | _ => .int
abbrev wsJ90 : List Cond := u_ws RJ9 TJ9 0
theorem nmJ9 : ∀ a, a < 0 → ∀ b, b < 0 → a ≠ b → (TJ9 a).2.1 ≠ (TJ9 b).2.1 := by decide +kernel
theorem tyJ9_ok : ∀ k, k < 0 → parseFieldDescriptor (TJ9 k).2.2.1 = some (tyJ9 k) := by decide +kernel
abbrev cJ9_min_7cf53 : ByteArray := prog_9_method_69_code
def yJ9_min_7cf53 : MethodName := ⟨RJ9, "min", "(II)I"⟩
def RJ10 : String := "java/lang/System"
def TJ10 : u_T := fun k => match k with
  | _ => ("", "", "", false)
def tyJ10 : Nat → FieldType := fun k => match k with
  | _ => .int
abbrev wsJ100 : List Cond := u_ws RJ10 TJ10 0
theorem nmJ10 : ∀ a, a < 0 → ∀ b, b < 0 → a ≠ b → (TJ10 a).2.1 ≠ (TJ10 b).2.1 := by decide +kernel
theorem tyJ10_ok : ∀ k, k < 0 → parseFieldDescriptor (TJ10 k).2.2.1 = some (tyJ10 k) := by decide +kernel
def RJ7 : String := "java/util/Arrays"
def TJ7 : u_T := fun k => match k with
  | _ => ("", "", "", false)
def tyJ7 : Nat → FieldType := fun k => match k with
  | _ => .int
abbrev wsJ70 : List Cond := u_ws RJ7 TJ7 0
theorem nmJ7 : ∀ a, a < 0 → ∀ b, b < 0 → a ≠ b → (TJ7 a).2.1 ≠ (TJ7 b).2.1 := by decide +kernel
theorem tyJ7_ok : ∀ k, k < 0 → parseFieldDescriptor (TJ7 k).2.2.1 = some (tyJ7 k) := by decide +kernel
abbrev cJ7_fill_53178 : ByteArray := prog_11_method_103_code
def yJ7_fill_53178 : MethodName := ⟨RJ7, "fill", "([II)V"⟩
def RL : String := "SmallSpacesLaw"
abbrev cL_law : ByteArray := code
def yL_law : MethodName := ⟨RL, "law", "([I)Z"⟩
def wsX0_power : List Cond := .code yX0_power cX0_power 4 (some .int) :: ([.fieldLink RX0 13 "SmallSpaces$Frame" "q" "I"] ++ wsX00)
def wsX0_become : List Cond := .code yX0_become cX0_become 3 none :: ([.fieldLink RX0 13 "SmallSpaces$Frame" "q" "I", .fieldLink RX0 17 "SmallSpaces$Frame" "n" "I", .fieldLink RX0 24 "SmallSpaces$Frame" "vectors" "I", .methodLink RX0 20 yX0_power, .instanceMethod yX0_power, .selects RX0 yX0_power yX0_power, .initialized RX0, .code yX0_power cX0_power 4 (some .int)] ++ wsX00)
def wsX0_init : List Cond := .code yX0_init cX0_init 1 none :: ([.methodLink RX0 1 objectInit, .instanceMethod objectInit, .code objectInit ⟨#[0xb1]⟩ 1 none, .methodLink RX0 7 yX0_become, .instanceMethod yX0_become, .selects RX0 yX0_become yX0_become, .initialized RX0, .code yX0_become cX0_become 3 none, .fieldLink RX0 13 "SmallSpaces$Frame" "q" "I", .fieldLink RX0 17 "SmallSpaces$Frame" "n" "I", .fieldLink RX0 24 "SmallSpaces$Frame" "vectors" "I", .methodLink RX0 20 yX0_power, .instanceMethod yX0_power, .selects RX0 yX0_power yX0_power, .code yX0_power cX0_power 4 (some .int)] ++ wsX00)
def wsX0_isVector : List Cond := .code yX0_isVector cX0_isVector 2 (some .boolean) :: ([.fieldLink RX0 24 "SmallSpaces$Frame" "vectors" "I"] ++ wsX00)
def wsX0_sum : List Cond := .code yX0_sum cX0_sum 9 (some .int) :: ([.fieldLink RX0 17 "SmallSpaces$Frame" "n" "I", .fieldLink RX0 13 "SmallSpaces$Frame" "q" "I"] ++ wsX00)
def wsX0_product : List Cond := .code yX0_product cX0_product 7 (some .int) :: ([.fieldLink RX0 17 "SmallSpaces$Frame" "n" "I", .fieldLink RX0 13 "SmallSpaces$Frame" "q" "I"] ++ wsX00)
def wsX0_spell : List Cond := .code yX0_spell cX0_spell 6 none :: ([.fieldLink RX0 17 "SmallSpaces$Frame" "n" "I", .fieldLink RX0 13 "SmallSpaces$Frame" "q" "I"] ++ wsX00)
def wsX0_vectorNumber : List Cond := .code yX0_vectorNumber cX0_vectorNumber 5 (some .int) :: ([.fieldLink RX0 17 "SmallSpaces$Frame" "n" "I", .fieldLink RX0 13 "SmallSpaces$Frame" "q" "I"] ++ wsX00)
def wsX0_inverse : List Cond := .code yX0_inverse cX0_inverse 2 (some .int) :: ([.fieldLink RX0 13 "SmallSpaces$Frame" "q" "I"] ++ wsX00)
def wsX0_addMultiple : List Cond := .code yX0_addMultiple cX0_addMultiple 7 none :: ([.fieldLink RX0 17 "SmallSpaces$Frame" "n" "I", .fieldLink RX0 13 "SmallSpaces$Frame" "q" "I"] ++ wsX00)
def wsX0_spaces : List Cond := .code yX0_spaces cX0_spaces 5 (some .int) :: ([.methodLink RX0 20 yX0_power, .instanceMethod yX0_power, .selects RX0 yX0_power yX0_power, .initialized RX0, .code yX0_power cX0_power 4 (some .int), .fieldLink RX0 13 "SmallSpaces$Frame" "q" "I"] ++ wsX00)
def wsX3_init : List Cond := .code yX3_init cX3_init 2 none :: ([.methodLink RX3 3 objectInit, .instanceMethod objectInit, .code objectInit ⟨#[0xb1]⟩ 1 none, .arrayClass .int, .fieldLink RX3 9 "SmallSpaces$Space" "cells" "[I", .fieldLink RX3 15 "SmallSpaces$Space" "fresh" "[I", .fieldLink RX3 18 "SmallSpaces$Space" "frame" "LSmallSpaces$Frame;"] ++ wsX30)
def wsX1_init : List Cond := .code yX1_init cX1_init 3 none :: ([.methodLink RX1 3 objectInit, .instanceMethod objectInit, .code objectInit ⟨#[0xb1]⟩ 1 none, .classLink RX1 9 RX3, .fieldLink RX1 11 "SmallSpaces$Heap" "spaces" "[LSmallSpaces$Space;", .instantiable RX3 4, .initialized RX3, .fieldLink RX1 20 "SmallSpaces$Heap" "joined" "LSmallSpaces$Space;", .instanceMethod yX3_init, .code yX3_init cX3_init 2 none, .methodLink RX3 3 objectInit, .arrayClass .int, .fieldLink RX3 9 "SmallSpaces$Space" "cells" "[I", .fieldLink RX3 15 "SmallSpaces$Space" "fresh" "[I", .fieldLink RX3 18 "SmallSpaces$Space" "frame" "LSmallSpaces$Frame;"] ++ wsX10 ++ wsX30)
def wsX3_copyFrom : List Cond := .code yX3_copyFrom cX3_copyFrom 2 none :: ([.fieldLink RX3 22 "SmallSpaces$Space" "pivots" "I", .fieldLink RX3 9 "SmallSpaces$Space" "cells" "[I", .methodLink RX3 26 arraycopyName, .native arraycopyName, .static arraycopyName, .initialized "java/lang/System"] ++ wsX30)
def wsX1_accept : List Cond := .code yX1_accept cX1_accept 2 none :: ([.fieldLink RX1 24 "SmallSpaces$Heap" "size" "I", .fieldLink RX1 11 "SmallSpaces$Heap" "spaces" "[LSmallSpaces$Space;", .instanceMethod yX3_copyFrom, .initialized RX3, .selects RX3 yX3_copyFrom yX3_copyFrom, .code yX3_copyFrom cX3_copyFrom 2 none, .fieldLink RX3 22 "SmallSpaces$Space" "pivots" "I", .fieldLink RX3 9 "SmallSpaces$Space" "cells" "[I", .methodLink RX3 26 arraycopyName, .native arraycopyName, .static arraycopyName, .initialized "java/lang/System"] ++ wsX10 ++ wsX30)
def wsX3_isPivot : List Cond := .code yX3_isPivot cX3_isPivot 2 (some .boolean) :: ([.fieldLink RX3 22 "SmallSpaces$Space" "pivots" "I", .fieldLink RX3 18 "SmallSpaces$Space" "frame" "LSmallSpaces$Frame;"] ++ wsX30 ++ wsX00)
def wsX3_reduceFresh : List Cond := .code yX3_reduceFresh cX3_reduceFresh 2 none :: ([.fieldLink RX3 18 "SmallSpaces$Space" "frame" "LSmallSpaces$Frame;", .fieldLink RX3 15 "SmallSpaces$Space" "fresh" "[I", .fieldLink RX3 9 "SmallSpaces$Space" "cells" "[I", .methodLink RX3 43 yX3_isPivot, .instanceMethod yX3_isPivot, .selects RX3 yX3_isPivot yX3_isPivot, .initialized RX3, .code yX3_isPivot cX3_isPivot 2 (some .boolean), .fieldLink RX3 22 "SmallSpaces$Space" "pivots" "I", .instanceMethod yX0_addMultiple, .initialized RX0, .selects RX0 yX0_addMultiple yX0_addMultiple, .code yX0_addMultiple cX0_addMultiple 7 none, .fieldLink RX0 17 "SmallSpaces$Frame" "n" "I", .fieldLink RX0 13 "SmallSpaces$Frame" "q" "I"] ++ wsX30 ++ wsX00)
def wsX3_takeRow : List Cond := .code yX3_takeRow cX3_takeRow 4 none :: ([.fieldLink RX3 18 "SmallSpaces$Space" "frame" "LSmallSpaces$Frame;", .fieldLink RX3 9 "SmallSpaces$Space" "cells" "[I", .fieldLink RX3 15 "SmallSpaces$Space" "fresh" "[I", .fieldLink RX3 22 "SmallSpaces$Space" "pivots" "I"] ++ wsX30 ++ wsX00)
def wsX3_joinFresh_r1 : List Cond := [Cond.fieldLink RX3 18 "SmallSpaces$Space" "frame" "LSmallSpaces$Frame;", Cond.fieldLink RX3 15 "SmallSpaces$Space" "fresh" "[I", Cond.fieldLink RX3 9 "SmallSpaces$Space" "cells" "[I", Cond.methodLink RX3 69 yX3_reduceFresh, Cond.instanceMethod yX3_reduceFresh, Cond.selects RX3 yX3_reduceFresh yX3_reduceFresh, Cond.initialized RX3, Cond.code yX3_reduceFresh cX3_reduceFresh 2 none, Cond.methodLink RX3 43 yX3_isPivot, Cond.instanceMethod yX3_isPivot, Cond.selects RX3 yX3_isPivot yX3_isPivot, Cond.code yX3_isPivot cX3_isPivot 2 (some .boolean), Cond.fieldLink RX3 22 "SmallSpaces$Space" "pivots" "I", Cond.instanceMethod yX0_addMultiple, Cond.initialized RX0, Cond.selects RX0 yX0_addMultiple yX0_addMultiple, Cond.code yX0_addMultiple cX0_addMultiple 7 none, Cond.fieldLink RX0 17 "SmallSpaces$Frame" "n" "I", Cond.fieldLink RX0 13 "SmallSpaces$Frame" "q" "I", Cond.instanceMethod yX0_inverse, Cond.selects RX0 yX0_inverse yX0_inverse, Cond.code yX0_inverse cX0_inverse 2 (some .int), Cond.methodLink RX3 75 yX3_takeRow, Cond.instanceMethod yX3_takeRow]
def wsX3_joinFresh_r2 : List Cond := [Cond.selects RX3 yX3_takeRow yX3_takeRow, Cond.code yX3_takeRow cX3_takeRow 4 none]
def wsX3_joinFresh : List Cond := .code yX3_joinFresh cX3_joinFresh 4 none :: ((wsX3_joinFresh_r1 ++ wsX3_joinFresh_r2) ++ wsX30 ++ wsX00)
def wsX3_joinSpace_r1 : List Cond := [Cond.fieldLink RX3 18 "SmallSpaces$Space" "frame" "LSmallSpaces$Frame;", Cond.fieldLink RX3 9 "SmallSpaces$Space" "cells" "[I", Cond.fieldLink RX3 15 "SmallSpaces$Space" "fresh" "[I", Cond.methodLink RX3 26 arraycopyName, Cond.native arraycopyName, Cond.static arraycopyName, Cond.initialized "java/lang/System", Cond.methodLink RX3 43 yX3_isPivot, Cond.instanceMethod yX3_isPivot, Cond.selects RX3 yX3_isPivot yX3_isPivot, Cond.initialized RX3, Cond.code yX3_isPivot cX3_isPivot 2 (some .boolean), Cond.fieldLink RX3 22 "SmallSpaces$Space" "pivots" "I", Cond.methodLink RX3 66 yX3_joinFresh, Cond.instanceMethod yX3_joinFresh, Cond.selects RX3 yX3_joinFresh yX3_joinFresh, Cond.code yX3_joinFresh cX3_joinFresh 4 none, Cond.methodLink RX3 69 yX3_reduceFresh, Cond.instanceMethod yX3_reduceFresh, Cond.selects RX3 yX3_reduceFresh yX3_reduceFresh, Cond.code yX3_reduceFresh cX3_reduceFresh 2 none, Cond.instanceMethod yX0_addMultiple, Cond.initialized RX0, Cond.selects RX0 yX0_addMultiple yX0_addMultiple]
def wsX3_joinSpace_r2 : List Cond := [Cond.code yX0_addMultiple cX0_addMultiple 7 none, Cond.fieldLink RX0 17 "SmallSpaces$Frame" "n" "I", Cond.fieldLink RX0 13 "SmallSpaces$Frame" "q" "I", Cond.instanceMethod yX0_inverse, Cond.selects RX0 yX0_inverse yX0_inverse, Cond.code yX0_inverse cX0_inverse 2 (some .int), Cond.methodLink RX3 75 yX3_takeRow, Cond.instanceMethod yX3_takeRow, Cond.selects RX3 yX3_takeRow yX3_takeRow, Cond.code yX3_takeRow cX3_takeRow 4 none]
def wsX3_joinSpace : List Cond := .code yX3_joinSpace cX3_joinSpace 3 none :: ((wsX3_joinSpace_r1 ++ wsX3_joinSpace_r2) ++ wsX30 ++ wsX00)
def wsJ6_bitCount_0f7a4 : List Cond := .code yJ6_bitCount_0f7a4 cJ6_bitCount_0f7a4 1 (some .int) :: ([.constant RJ6 265 (1431655765), .constant RJ6 266 (858993459), .constant RJ6 267 (252645135)])
def wsX3_rank : List Cond := .code yX3_rank cX3_rank 1 (some .int) :: ([.fieldLink RX3 22 "SmallSpaces$Space" "pivots" "I", .methodLink RX3 32 yJ6_bitCount_0f7a4, .static yJ6_bitCount_0f7a4, .initialized RJ6, .code yJ6_bitCount_0f7a4 cJ6_bitCount_0f7a4 1 (some .int), .constant RJ6 265 (1431655765), .constant RJ6 266 (858993459), .constant RJ6 267 (252645135)] ++ wsX30)
def wsX3_distance_r1 : List Cond := [Cond.methodLink RX3 92 yX3_copyFrom, Cond.instanceMethod yX3_copyFrom, Cond.selects RX3 yX3_copyFrom yX3_copyFrom, Cond.initialized RX3, Cond.code yX3_copyFrom cX3_copyFrom 2 none, Cond.fieldLink RX3 22 "SmallSpaces$Space" "pivots" "I", Cond.fieldLink RX3 9 "SmallSpaces$Space" "cells" "[I", Cond.methodLink RX3 26 arraycopyName, Cond.native arraycopyName, Cond.static arraycopyName, Cond.initialized "java/lang/System", Cond.methodLink RX3 96 yX3_joinSpace, Cond.instanceMethod yX3_joinSpace, Cond.selects RX3 yX3_joinSpace yX3_joinSpace, Cond.code yX3_joinSpace cX3_joinSpace 3 none, Cond.fieldLink RX3 18 "SmallSpaces$Space" "frame" "LSmallSpaces$Frame;", Cond.fieldLink RX3 15 "SmallSpaces$Space" "fresh" "[I", Cond.methodLink RX3 43 yX3_isPivot, Cond.instanceMethod yX3_isPivot, Cond.selects RX3 yX3_isPivot yX3_isPivot, Cond.code yX3_isPivot cX3_isPivot 2 (some .boolean), Cond.methodLink RX3 66 yX3_joinFresh, Cond.instanceMethod yX3_joinFresh, Cond.selects RX3 yX3_joinFresh yX3_joinFresh]
def wsX3_distance_r2 : List Cond := [Cond.code yX3_joinFresh cX3_joinFresh 4 none, Cond.methodLink RX3 69 yX3_reduceFresh, Cond.instanceMethod yX3_reduceFresh, Cond.selects RX3 yX3_reduceFresh yX3_reduceFresh, Cond.code yX3_reduceFresh cX3_reduceFresh 2 none, Cond.instanceMethod yX0_addMultiple, Cond.initialized RX0, Cond.selects RX0 yX0_addMultiple yX0_addMultiple, Cond.code yX0_addMultiple cX0_addMultiple 7 none, Cond.fieldLink RX0 17 "SmallSpaces$Frame" "n" "I", Cond.fieldLink RX0 13 "SmallSpaces$Frame" "q" "I", Cond.instanceMethod yX0_inverse, Cond.selects RX0 yX0_inverse yX0_inverse, Cond.code yX0_inverse cX0_inverse 2 (some .int), Cond.methodLink RX3 75 yX3_takeRow, Cond.instanceMethod yX3_takeRow, Cond.selects RX3 yX3_takeRow yX3_takeRow, Cond.code yX3_takeRow cX3_takeRow 4 none, Cond.methodLink RX3 99 yX3_rank, Cond.instanceMethod yX3_rank, Cond.selects RX3 yX3_rank yX3_rank, Cond.code yX3_rank cX3_rank 1 (some .int), Cond.methodLink RX3 32 yJ6_bitCount_0f7a4, Cond.static yJ6_bitCount_0f7a4]
def wsX3_distance_r3 : List Cond := [Cond.initialized RJ6, Cond.code yJ6_bitCount_0f7a4 cJ6_bitCount_0f7a4 1 (some .int), Cond.constant RJ6 265 (1431655765), Cond.constant RJ6 266 (858993459), Cond.constant RJ6 267 (252645135)]
def wsX3_distance : List Cond := .code yX3_distance cX3_distance 3 (some .int) :: ((wsX3_distance_r1 ++ (wsX3_distance_r2 ++ wsX3_distance_r3)) ++ wsX30 ++ wsX00)
def wsX1_allApart_r1 : List Cond := [Cond.fieldLink RX1 24 "SmallSpaces$Heap" "size" "I", Cond.fieldLink RX1 20 "SmallSpaces$Heap" "joined" "LSmallSpaces$Space;", Cond.fieldLink RX1 11 "SmallSpaces$Heap" "spaces" "[LSmallSpaces$Space;", Cond.instanceMethod yX3_distance, Cond.initialized RX3, Cond.selects RX3 yX3_distance yX3_distance, Cond.code yX3_distance cX3_distance 3 (some .int), Cond.methodLink RX3 92 yX3_copyFrom, Cond.instanceMethod yX3_copyFrom, Cond.selects RX3 yX3_copyFrom yX3_copyFrom, Cond.code yX3_copyFrom cX3_copyFrom 2 none, Cond.fieldLink RX3 22 "SmallSpaces$Space" "pivots" "I", Cond.fieldLink RX3 9 "SmallSpaces$Space" "cells" "[I", Cond.methodLink RX3 26 arraycopyName, Cond.native arraycopyName, Cond.static arraycopyName, Cond.initialized "java/lang/System", Cond.methodLink RX3 96 yX3_joinSpace, Cond.instanceMethod yX3_joinSpace, Cond.selects RX3 yX3_joinSpace yX3_joinSpace, Cond.code yX3_joinSpace cX3_joinSpace 3 none, Cond.fieldLink RX3 18 "SmallSpaces$Space" "frame" "LSmallSpaces$Frame;", Cond.fieldLink RX3 15 "SmallSpaces$Space" "fresh" "[I", Cond.methodLink RX3 43 yX3_isPivot]
def wsX1_allApart_r2 : List Cond := [Cond.instanceMethod yX3_isPivot, Cond.selects RX3 yX3_isPivot yX3_isPivot, Cond.code yX3_isPivot cX3_isPivot 2 (some .boolean), Cond.methodLink RX3 66 yX3_joinFresh, Cond.instanceMethod yX3_joinFresh, Cond.selects RX3 yX3_joinFresh yX3_joinFresh, Cond.code yX3_joinFresh cX3_joinFresh 4 none, Cond.methodLink RX3 69 yX3_reduceFresh, Cond.instanceMethod yX3_reduceFresh, Cond.selects RX3 yX3_reduceFresh yX3_reduceFresh, Cond.code yX3_reduceFresh cX3_reduceFresh 2 none, Cond.instanceMethod yX0_addMultiple, Cond.initialized RX0, Cond.selects RX0 yX0_addMultiple yX0_addMultiple, Cond.code yX0_addMultiple cX0_addMultiple 7 none, Cond.fieldLink RX0 17 "SmallSpaces$Frame" "n" "I", Cond.fieldLink RX0 13 "SmallSpaces$Frame" "q" "I", Cond.instanceMethod yX0_inverse, Cond.selects RX0 yX0_inverse yX0_inverse, Cond.code yX0_inverse cX0_inverse 2 (some .int), Cond.methodLink RX3 75 yX3_takeRow, Cond.instanceMethod yX3_takeRow, Cond.selects RX3 yX3_takeRow yX3_takeRow, Cond.code yX3_takeRow cX3_takeRow 4 none]
def wsX1_allApart_r3 : List Cond := [Cond.methodLink RX3 99 yX3_rank, Cond.instanceMethod yX3_rank, Cond.selects RX3 yX3_rank yX3_rank, Cond.code yX3_rank cX3_rank 1 (some .int), Cond.methodLink RX3 32 yJ6_bitCount_0f7a4, Cond.static yJ6_bitCount_0f7a4, Cond.initialized RJ6, Cond.code yJ6_bitCount_0f7a4 cJ6_bitCount_0f7a4 1 (some .int), Cond.constant RJ6 265 (1431655765), Cond.constant RJ6 266 (858993459), Cond.constant RJ6 267 (252645135)]
def wsX1_allApart : List Cond := .code yX1_allApart cX1_allApart 4 (some .boolean) :: ((wsX1_allApart_r1 ++ (wsX1_allApart_r2 ++ wsX1_allApart_r3)) ++ wsX10 ++ wsX30 ++ wsX00)
def wsX1_leastDistance_r1 : List Cond := [Cond.fieldLink RX1 24 "SmallSpaces$Heap" "size" "I", Cond.fieldLink RX1 20 "SmallSpaces$Heap" "joined" "LSmallSpaces$Space;", Cond.fieldLink RX1 11 "SmallSpaces$Heap" "spaces" "[LSmallSpaces$Space;", Cond.instanceMethod yX3_distance, Cond.initialized RX3, Cond.selects RX3 yX3_distance yX3_distance, Cond.code yX3_distance cX3_distance 3 (some .int), Cond.methodLink RX3 92 yX3_copyFrom, Cond.instanceMethod yX3_copyFrom, Cond.selects RX3 yX3_copyFrom yX3_copyFrom, Cond.code yX3_copyFrom cX3_copyFrom 2 none, Cond.fieldLink RX3 22 "SmallSpaces$Space" "pivots" "I", Cond.fieldLink RX3 9 "SmallSpaces$Space" "cells" "[I", Cond.methodLink RX3 26 arraycopyName, Cond.native arraycopyName, Cond.static arraycopyName, Cond.initialized "java/lang/System", Cond.methodLink RX3 96 yX3_joinSpace, Cond.instanceMethod yX3_joinSpace, Cond.selects RX3 yX3_joinSpace yX3_joinSpace, Cond.code yX3_joinSpace cX3_joinSpace 3 none, Cond.fieldLink RX3 18 "SmallSpaces$Space" "frame" "LSmallSpaces$Frame;", Cond.fieldLink RX3 15 "SmallSpaces$Space" "fresh" "[I", Cond.methodLink RX3 43 yX3_isPivot]
def wsX1_leastDistance_r2 : List Cond := [Cond.instanceMethod yX3_isPivot, Cond.selects RX3 yX3_isPivot yX3_isPivot, Cond.code yX3_isPivot cX3_isPivot 2 (some .boolean), Cond.methodLink RX3 66 yX3_joinFresh, Cond.instanceMethod yX3_joinFresh, Cond.selects RX3 yX3_joinFresh yX3_joinFresh, Cond.code yX3_joinFresh cX3_joinFresh 4 none, Cond.methodLink RX3 69 yX3_reduceFresh, Cond.instanceMethod yX3_reduceFresh, Cond.selects RX3 yX3_reduceFresh yX3_reduceFresh, Cond.code yX3_reduceFresh cX3_reduceFresh 2 none, Cond.instanceMethod yX0_addMultiple, Cond.initialized RX0, Cond.selects RX0 yX0_addMultiple yX0_addMultiple, Cond.code yX0_addMultiple cX0_addMultiple 7 none, Cond.fieldLink RX0 17 "SmallSpaces$Frame" "n" "I", Cond.fieldLink RX0 13 "SmallSpaces$Frame" "q" "I", Cond.instanceMethod yX0_inverse, Cond.selects RX0 yX0_inverse yX0_inverse, Cond.code yX0_inverse cX0_inverse 2 (some .int), Cond.methodLink RX3 75 yX3_takeRow, Cond.instanceMethod yX3_takeRow, Cond.selects RX3 yX3_takeRow yX3_takeRow, Cond.code yX3_takeRow cX3_takeRow 4 none]
def wsX1_leastDistance_r3 : List Cond := [Cond.methodLink RX3 99 yX3_rank, Cond.instanceMethod yX3_rank, Cond.selects RX3 yX3_rank yX3_rank, Cond.code yX3_rank cX3_rank 1 (some .int), Cond.methodLink RX3 32 yJ6_bitCount_0f7a4, Cond.static yJ6_bitCount_0f7a4, Cond.initialized RJ6, Cond.code yJ6_bitCount_0f7a4 cJ6_bitCount_0f7a4 1 (some .int), Cond.constant RJ6 265 (1431655765), Cond.constant RJ6 266 (858993459), Cond.constant RJ6 267 (252645135)]
def wsX1_leastDistance : List Cond := .code yX1_leastDistance cX1_leastDistance 5 (some .int) :: ((wsX1_leastDistance_r1 ++ (wsX1_leastDistance_r2 ++ wsX1_leastDistance_r3)) ++ wsX10 ++ wsX30 ++ wsX00)
def wsX3_settledFigure : List Cond := .code yX3_settledFigure cX3_settledFigure 6 (some .int) :: ([.fieldLink RX3 9 "SmallSpaces$Space" "cells" "[I", .fieldLink RX3 18 "SmallSpaces$Space" "frame" "LSmallSpaces$Frame;", .methodLink RX3 43 yX3_isPivot, .instanceMethod yX3_isPivot, .selects RX3 yX3_isPivot yX3_isPivot, .initialized RX3, .code yX3_isPivot cX3_isPivot 2 (some .boolean), .fieldLink RX3 22 "SmallSpaces$Space" "pivots" "I"] ++ wsX30 ++ wsX00)
def wsX3_holds : List Cond := .code yX3_holds cX3_holds 4 (some .boolean) :: ([.fieldLink RX3 18 "SmallSpaces$Space" "frame" "LSmallSpaces$Frame;", .methodLink RX3 43 yX3_isPivot, .instanceMethod yX3_isPivot, .selects RX3 yX3_isPivot yX3_isPivot, .initialized RX3, .code yX3_isPivot cX3_isPivot 2 (some .boolean), .fieldLink RX3 22 "SmallSpaces$Space" "pivots" "I", .methodLink RX3 51 yX3_settledFigure, .instanceMethod yX3_settledFigure, .selects RX3 yX3_settledFigure yX3_settledFigure, .code yX3_settledFigure cX3_settledFigure 6 (some .int), .fieldLink RX3 9 "SmallSpaces$Space" "cells" "[I"] ++ wsX30 ++ wsX00)
def wsX1_covers : List Cond := .code yX1_covers cX1_covers 3 (some .boolean) :: ([.fieldLink RX1 24 "SmallSpaces$Heap" "size" "I", .fieldLink RX1 11 "SmallSpaces$Heap" "spaces" "[LSmallSpaces$Space;", .instanceMethod yX3_holds, .initialized RX3, .selects RX3 yX3_holds yX3_holds, .code yX3_holds cX3_holds 4 (some .boolean), .fieldLink RX3 18 "SmallSpaces$Space" "frame" "LSmallSpaces$Frame;", .methodLink RX3 43 yX3_isPivot, .instanceMethod yX3_isPivot, .selects RX3 yX3_isPivot yX3_isPivot, .code yX3_isPivot cX3_isPivot 2 (some .boolean), .fieldLink RX3 22 "SmallSpaces$Space" "pivots" "I", .methodLink RX3 51 yX3_settledFigure, .instanceMethod yX3_settledFigure, .selects RX3 yX3_settledFigure yX3_settledFigure, .code yX3_settledFigure cX3_settledFigure 6 (some .int), .fieldLink RX3 9 "SmallSpaces$Space" "cells" "[I"] ++ wsX10 ++ wsX30 ++ wsX00)
def wsJ7_fill_53178 : List Cond := .code yJ7_fill_53178 cJ7_fill_53178 4 none :: ([])
def wsX2_becomeIdentity : List Cond := .code yX2_becomeIdentity cX2_becomeIdentity 2 none :: ([.fieldLink RX2 9 "SmallSpaces$Linear" "cells" "[I", .fieldLink RX2 18 "SmallSpaces$Linear" "frame" "LSmallSpaces$Frame;", .methodLink RX2 25 yJ7_fill_53178, .static yJ7_fill_53178, .initialized RJ7, .code yJ7_fill_53178 cJ7_fill_53178 4 none] ++ wsX20 ++ wsX00)
def wsX2_init : List Cond := .code yX2_init cX2_init 2 none :: ([.methodLink RX2 3 objectInit, .instanceMethod objectInit, .code objectInit ⟨#[0xb1]⟩ 1 none, .arrayClass .int, .fieldLink RX2 9 "SmallSpaces$Linear" "cells" "[I", .fieldLink RX2 15 "SmallSpaces$Linear" "result" "[I", .fieldLink RX2 18 "SmallSpaces$Linear" "frame" "LSmallSpaces$Frame;", .methodLink RX2 22 yX2_becomeIdentity, .instanceMethod yX2_becomeIdentity, .selects RX2 yX2_becomeIdentity yX2_becomeIdentity, .initialized RX2, .code yX2_becomeIdentity cX2_becomeIdentity 2 none, .methodLink RX2 25 yJ7_fill_53178, .static yJ7_fill_53178, .initialized RJ7, .code yJ7_fill_53178 cJ7_fill_53178 4 none] ++ wsX20 ++ wsX00)
def wsX2_imageNumber : List Cond := .code yX2_imageNumber cX2_imageNumber 2 (some .int) :: ([.fieldLink RX2 18 "SmallSpaces$Linear" "frame" "LSmallSpaces$Frame;", .fieldLink RX2 9 "SmallSpaces$Linear" "cells" "[I", .instanceMethod yX0_vectorNumber, .initialized RX0, .selects RX0 yX0_vectorNumber yX0_vectorNumber, .code yX0_vectorNumber cX0_vectorNumber 5 (some .int), .fieldLink RX0 17 "SmallSpaces$Frame" "n" "I", .fieldLink RX0 13 "SmallSpaces$Frame" "q" "I"] ++ wsX20 ++ wsX00)
def wsX2_setImage : List Cond := .code yX2_setImage cX2_setImage 3 none :: ([.fieldLink RX2 18 "SmallSpaces$Linear" "frame" "LSmallSpaces$Frame;", .fieldLink RX2 9 "SmallSpaces$Linear" "cells" "[I", .instanceMethod yX0_spell, .initialized RX0, .selects RX0 yX0_spell yX0_spell, .code yX0_spell cX0_spell 6 none, .fieldLink RX0 17 "SmallSpaces$Frame" "n" "I", .fieldLink RX0 13 "SmallSpaces$Frame" "q" "I"] ++ wsX20 ++ wsX00)
def wsX2_applyInto : List Cond := .code yX2_applyInto cX2_applyInto 4 none :: ([.fieldLink RX2 15 "SmallSpaces$Linear" "result" "[I", .fieldLink RX2 18 "SmallSpaces$Linear" "frame" "LSmallSpaces$Frame;", .fieldLink RX2 9 "SmallSpaces$Linear" "cells" "[I", .methodLink RX2 25 yJ7_fill_53178, .static yJ7_fill_53178, .initialized RJ7, .code yJ7_fill_53178 cJ7_fill_53178 4 none, .instanceMethod yX0_addMultiple, .initialized RX0, .selects RX0 yX0_addMultiple yX0_addMultiple, .code yX0_addMultiple cX0_addMultiple 7 none, .fieldLink RX0 17 "SmallSpaces$Frame" "n" "I", .fieldLink RX0 13 "SmallSpaces$Frame" "q" "I"] ++ wsX20 ++ wsX00)
def wsX2_apply : List Cond := .code yX2_apply cX2_apply 2 (some .int) :: ([.fieldLink RX2 18 "SmallSpaces$Linear" "frame" "LSmallSpaces$Frame;", .fieldLink RX2 15 "SmallSpaces$Linear" "result" "[I", .methodLink RX2 45 yX2_applyInto, .instanceMethod yX2_applyInto, .selects RX2 yX2_applyInto yX2_applyInto, .initialized RX2, .code yX2_applyInto cX2_applyInto 4 none, .fieldLink RX2 9 "SmallSpaces$Linear" "cells" "[I", .methodLink RX2 25 yJ7_fill_53178, .static yJ7_fill_53178, .initialized RJ7, .code yJ7_fill_53178 cJ7_fill_53178 4 none, .instanceMethod yX0_addMultiple, .initialized RX0, .selects RX0 yX0_addMultiple yX0_addMultiple, .code yX0_addMultiple cX0_addMultiple 7 none, .fieldLink RX0 17 "SmallSpaces$Frame" "n" "I", .fieldLink RX0 13 "SmallSpaces$Frame" "q" "I", .instanceMethod yX0_vectorNumber, .selects RX0 yX0_vectorNumber yX0_vectorNumber, .code yX0_vectorNumber cX0_vectorNumber 5 (some .int)] ++ wsX20 ++ wsX00)
def wsX3_becomeZero : List Cond := .code yX3_becomeZero cX3_becomeZero 1 none :: ([.fieldLink RX3 22 "SmallSpaces$Space" "pivots" "I"] ++ wsX30)
def wsX3_joinVector_r1 : List Cond := [Cond.fieldLink RX3 15 "SmallSpaces$Space" "fresh" "[I", Cond.fieldLink RX3 18 "SmallSpaces$Space" "frame" "LSmallSpaces$Frame;", Cond.methodLink RX3 26 arraycopyName, Cond.native arraycopyName, Cond.static arraycopyName, Cond.initialized "java/lang/System", Cond.methodLink RX3 66 yX3_joinFresh, Cond.instanceMethod yX3_joinFresh, Cond.selects RX3 yX3_joinFresh yX3_joinFresh, Cond.initialized RX3, Cond.code yX3_joinFresh cX3_joinFresh 4 none, Cond.fieldLink RX3 9 "SmallSpaces$Space" "cells" "[I", Cond.methodLink RX3 69 yX3_reduceFresh, Cond.instanceMethod yX3_reduceFresh, Cond.selects RX3 yX3_reduceFresh yX3_reduceFresh, Cond.code yX3_reduceFresh cX3_reduceFresh 2 none, Cond.methodLink RX3 43 yX3_isPivot, Cond.instanceMethod yX3_isPivot, Cond.selects RX3 yX3_isPivot yX3_isPivot, Cond.code yX3_isPivot cX3_isPivot 2 (some .boolean), Cond.fieldLink RX3 22 "SmallSpaces$Space" "pivots" "I", Cond.instanceMethod yX0_addMultiple, Cond.initialized RX0, Cond.selects RX0 yX0_addMultiple yX0_addMultiple]
def wsX3_joinVector_r2 : List Cond := [Cond.code yX0_addMultiple cX0_addMultiple 7 none, Cond.fieldLink RX0 17 "SmallSpaces$Frame" "n" "I", Cond.fieldLink RX0 13 "SmallSpaces$Frame" "q" "I", Cond.instanceMethod yX0_inverse, Cond.selects RX0 yX0_inverse yX0_inverse, Cond.code yX0_inverse cX0_inverse 2 (some .int), Cond.methodLink RX3 75 yX3_takeRow, Cond.instanceMethod yX3_takeRow, Cond.selects RX3 yX3_takeRow yX3_takeRow, Cond.code yX3_takeRow cX3_takeRow 4 none]
def wsX3_joinVector : List Cond := .code yX3_joinVector cX3_joinVector 3 none :: ((wsX3_joinVector_r1 ++ wsX3_joinVector_r2) ++ wsX30 ++ wsX00)
def wsX2_applyToSpace_r1 : List Cond := [Cond.fieldLink RX2 18 "SmallSpaces$Linear" "frame" "LSmallSpaces$Frame;", Cond.fieldLink RX2 15 "SmallSpaces$Linear" "result" "[I", Cond.instanceMethod yX3_becomeZero, Cond.initialized RX3, Cond.selects RX3 yX3_becomeZero yX3_becomeZero, Cond.code yX3_becomeZero cX3_becomeZero 1 none, Cond.fieldLink RX3 22 "SmallSpaces$Space" "pivots" "I", Cond.instanceMethod yX3_isPivot, Cond.selects RX3 yX3_isPivot yX3_isPivot, Cond.code yX3_isPivot cX3_isPivot 2 (some .boolean), Cond.fieldLink RX3 18 "SmallSpaces$Space" "frame" "LSmallSpaces$Frame;", Cond.methodLink RX2 45 yX2_applyInto, Cond.instanceMethod yX2_applyInto, Cond.selects RX2 yX2_applyInto yX2_applyInto, Cond.initialized RX2, Cond.code yX2_applyInto cX2_applyInto 4 none, Cond.fieldLink RX2 9 "SmallSpaces$Linear" "cells" "[I", Cond.methodLink RX2 25 yJ7_fill_53178, Cond.static yJ7_fill_53178, Cond.initialized RJ7, Cond.code yJ7_fill_53178 cJ7_fill_53178 4 none, Cond.instanceMethod yX0_addMultiple, Cond.initialized RX0, Cond.selects RX0 yX0_addMultiple yX0_addMultiple]
def wsX2_applyToSpace_r2 : List Cond := [Cond.code yX0_addMultiple cX0_addMultiple 7 none, Cond.fieldLink RX0 17 "SmallSpaces$Frame" "n" "I", Cond.fieldLink RX0 13 "SmallSpaces$Frame" "q" "I", Cond.instanceMethod yX3_joinVector, Cond.selects RX3 yX3_joinVector yX3_joinVector, Cond.code yX3_joinVector cX3_joinVector 3 none, Cond.fieldLink RX3 15 "SmallSpaces$Space" "fresh" "[I", Cond.methodLink RX3 26 arraycopyName, Cond.native arraycopyName, Cond.static arraycopyName, Cond.initialized "java/lang/System", Cond.methodLink RX3 66 yX3_joinFresh, Cond.instanceMethod yX3_joinFresh, Cond.selects RX3 yX3_joinFresh yX3_joinFresh, Cond.code yX3_joinFresh cX3_joinFresh 4 none, Cond.fieldLink RX3 9 "SmallSpaces$Space" "cells" "[I", Cond.methodLink RX3 69 yX3_reduceFresh, Cond.instanceMethod yX3_reduceFresh, Cond.selects RX3 yX3_reduceFresh yX3_reduceFresh, Cond.code yX3_reduceFresh cX3_reduceFresh 2 none, Cond.methodLink RX3 43 yX3_isPivot, Cond.instanceMethod yX0_inverse, Cond.selects RX0 yX0_inverse yX0_inverse, Cond.code yX0_inverse cX0_inverse 2 (some .int)]
def wsX2_applyToSpace_r3 : List Cond := [Cond.methodLink RX3 75 yX3_takeRow, Cond.instanceMethod yX3_takeRow, Cond.selects RX3 yX3_takeRow yX3_takeRow, Cond.code yX3_takeRow cX3_takeRow 4 none]
def wsX2_applyToSpace : List Cond := .code yX2_applyToSpace cX2_applyToSpace 4 none :: ((wsX2_applyToSpace_r1 ++ (wsX2_applyToSpace_r2 ++ wsX2_applyToSpace_r3)) ++ wsX20 ++ wsX00 ++ wsX30)
def wsX2_columnSpace_r1 : List Cond := [Cond.fieldLink RX2 18 "SmallSpaces$Linear" "frame" "LSmallSpaces$Frame;", Cond.fieldLink RX2 15 "SmallSpaces$Linear" "result" "[I", Cond.fieldLink RX2 9 "SmallSpaces$Linear" "cells" "[I", Cond.instanceMethod yX3_becomeZero, Cond.initialized RX3, Cond.selects RX3 yX3_becomeZero yX3_becomeZero, Cond.code yX3_becomeZero cX3_becomeZero 1 none, Cond.fieldLink RX3 22 "SmallSpaces$Space" "pivots" "I", Cond.instanceMethod yX3_joinVector, Cond.selects RX3 yX3_joinVector yX3_joinVector, Cond.code yX3_joinVector cX3_joinVector 3 none, Cond.fieldLink RX3 15 "SmallSpaces$Space" "fresh" "[I", Cond.fieldLink RX3 18 "SmallSpaces$Space" "frame" "LSmallSpaces$Frame;", Cond.methodLink RX3 26 arraycopyName, Cond.native arraycopyName, Cond.static arraycopyName, Cond.initialized "java/lang/System", Cond.methodLink RX3 66 yX3_joinFresh, Cond.instanceMethod yX3_joinFresh, Cond.selects RX3 yX3_joinFresh yX3_joinFresh, Cond.code yX3_joinFresh cX3_joinFresh 4 none, Cond.fieldLink RX3 9 "SmallSpaces$Space" "cells" "[I", Cond.methodLink RX3 69 yX3_reduceFresh, Cond.instanceMethod yX3_reduceFresh]
def wsX2_columnSpace_r2 : List Cond := [Cond.selects RX3 yX3_reduceFresh yX3_reduceFresh, Cond.code yX3_reduceFresh cX3_reduceFresh 2 none, Cond.methodLink RX3 43 yX3_isPivot, Cond.instanceMethod yX3_isPivot, Cond.selects RX3 yX3_isPivot yX3_isPivot, Cond.code yX3_isPivot cX3_isPivot 2 (some .boolean), Cond.instanceMethod yX0_addMultiple, Cond.initialized RX0, Cond.selects RX0 yX0_addMultiple yX0_addMultiple, Cond.code yX0_addMultiple cX0_addMultiple 7 none, Cond.fieldLink RX0 17 "SmallSpaces$Frame" "n" "I", Cond.fieldLink RX0 13 "SmallSpaces$Frame" "q" "I", Cond.instanceMethod yX0_inverse, Cond.selects RX0 yX0_inverse yX0_inverse, Cond.code yX0_inverse cX0_inverse 2 (some .int), Cond.methodLink RX3 75 yX3_takeRow, Cond.instanceMethod yX3_takeRow, Cond.selects RX3 yX3_takeRow yX3_takeRow, Cond.code yX3_takeRow cX3_takeRow 4 none]
def wsX2_columnSpace : List Cond := .code yX2_columnSpace cX2_columnSpace 4 none :: ((wsX2_columnSpace_r1 ++ wsX2_columnSpace_r2) ++ wsX20 ++ wsX00 ++ wsX30)
def wsX3_rowNumber : List Cond := .code yX3_rowNumber cX3_rowNumber 4 (some .int) :: ([.fieldLink RX3 18 "SmallSpaces$Space" "frame" "LSmallSpaces$Frame;", .fieldLink RX3 9 "SmallSpaces$Space" "cells" "[I", .methodLink RX3 43 yX3_isPivot, .instanceMethod yX3_isPivot, .selects RX3 yX3_isPivot yX3_isPivot, .initialized RX3, .code yX3_isPivot cX3_isPivot 2 (some .boolean), .fieldLink RX3 22 "SmallSpaces$Space" "pivots" "I", .instanceMethod yX0_vectorNumber, .initialized RX0, .selects RX0 yX0_vectorNumber yX0_vectorNumber, .code yX0_vectorNumber cX0_vectorNumber 5 (some .int), .fieldLink RX0 17 "SmallSpaces$Frame" "n" "I", .fieldLink RX0 13 "SmallSpaces$Frame" "q" "I"] ++ wsX30 ++ wsX00)
def wsX3_liesIn : List Cond := .code yX3_liesIn cX3_liesIn 3 (some .boolean) :: ([.fieldLink RX3 18 "SmallSpaces$Space" "frame" "LSmallSpaces$Frame;", .fieldLink RX3 9 "SmallSpaces$Space" "cells" "[I", .methodLink RX3 43 yX3_isPivot, .instanceMethod yX3_isPivot, .selects RX3 yX3_isPivot yX3_isPivot, .initialized RX3, .code yX3_isPivot cX3_isPivot 2 (some .boolean), .fieldLink RX3 22 "SmallSpaces$Space" "pivots" "I", .methodLink RX3 58 yX3_holds, .instanceMethod yX3_holds, .selects RX3 yX3_holds yX3_holds, .code yX3_holds cX3_holds 4 (some .boolean), .methodLink RX3 51 yX3_settledFigure, .instanceMethod yX3_settledFigure, .selects RX3 yX3_settledFigure yX3_settledFigure, .code yX3_settledFigure cX3_settledFigure 6 (some .int)] ++ wsX30 ++ wsX00)
def wsX3_sameAs : List Cond := .code yX3_sameAs cX3_sameAs 2 (some .boolean) :: ([.fieldLink RX3 22 "SmallSpaces$Space" "pivots" "I", .methodLink RX3 62 yX3_liesIn, .instanceMethod yX3_liesIn, .selects RX3 yX3_liesIn yX3_liesIn, .initialized RX3, .code yX3_liesIn cX3_liesIn 3 (some .boolean), .fieldLink RX3 18 "SmallSpaces$Space" "frame" "LSmallSpaces$Frame;", .fieldLink RX3 9 "SmallSpaces$Space" "cells" "[I", .methodLink RX3 43 yX3_isPivot, .instanceMethod yX3_isPivot, .selects RX3 yX3_isPivot yX3_isPivot, .code yX3_isPivot cX3_isPivot 2 (some .boolean), .methodLink RX3 58 yX3_holds, .instanceMethod yX3_holds, .selects RX3 yX3_holds yX3_holds, .code yX3_holds cX3_holds 4 (some .boolean), .methodLink RX3 51 yX3_settledFigure, .instanceMethod yX3_settledFigure, .selects RX3 yX3_settledFigure yX3_settledFigure, .code yX3_settledFigure cX3_settledFigure 6 (some .int)] ++ wsX30 ++ wsX00)
def wsX3_becomeDual_r1 : List Cond := [Cond.fieldLink RX3 18 "SmallSpaces$Space" "frame" "LSmallSpaces$Frame;", Cond.fieldLink RX3 15 "SmallSpaces$Space" "fresh" "[I", Cond.fieldLink RX3 9 "SmallSpaces$Space" "cells" "[I", Cond.methodLink RX3 83 yX3_becomeZero, Cond.instanceMethod yX3_becomeZero, Cond.selects RX3 yX3_becomeZero yX3_becomeZero, Cond.initialized RX3, Cond.code yX3_becomeZero cX3_becomeZero 1 none, Cond.fieldLink RX3 22 "SmallSpaces$Space" "pivots" "I", Cond.methodLink RX3 43 yX3_isPivot, Cond.instanceMethod yX3_isPivot, Cond.selects RX3 yX3_isPivot yX3_isPivot, Cond.code yX3_isPivot cX3_isPivot 2 (some .boolean), Cond.methodLink RX3 86 yJ7_fill_53178, Cond.static yJ7_fill_53178, Cond.initialized RJ7, Cond.code yJ7_fill_53178 cJ7_fill_53178 4 none, Cond.methodLink RX3 66 yX3_joinFresh, Cond.instanceMethod yX3_joinFresh, Cond.selects RX3 yX3_joinFresh yX3_joinFresh, Cond.code yX3_joinFresh cX3_joinFresh 4 none, Cond.methodLink RX3 69 yX3_reduceFresh, Cond.instanceMethod yX3_reduceFresh, Cond.selects RX3 yX3_reduceFresh yX3_reduceFresh]
def wsX3_becomeDual_r2 : List Cond := [Cond.code yX3_reduceFresh cX3_reduceFresh 2 none, Cond.instanceMethod yX0_addMultiple, Cond.initialized RX0, Cond.selects RX0 yX0_addMultiple yX0_addMultiple, Cond.code yX0_addMultiple cX0_addMultiple 7 none, Cond.fieldLink RX0 17 "SmallSpaces$Frame" "n" "I", Cond.fieldLink RX0 13 "SmallSpaces$Frame" "q" "I", Cond.instanceMethod yX0_inverse, Cond.selects RX0 yX0_inverse yX0_inverse, Cond.code yX0_inverse cX0_inverse 2 (some .int), Cond.methodLink RX3 75 yX3_takeRow, Cond.instanceMethod yX3_takeRow, Cond.selects RX3 yX3_takeRow yX3_takeRow, Cond.code yX3_takeRow cX3_takeRow 4 none]
def wsX3_becomeDual : List Cond := .code yX3_becomeDual cX3_becomeDual 4 none :: ((wsX3_becomeDual_r1 ++ wsX3_becomeDual_r2) ++ wsX30 ++ wsX00)
def wsX3_freeCells : List Cond := .code yX3_freeCells cX3_freeCells 5 (some .int) :: ([.fieldLink RX3 18 "SmallSpaces$Space" "frame" "LSmallSpaces$Frame;"] ++ wsX30 ++ wsX00)
def wsX3_cellsValue : List Cond := .code yX3_cellsValue cX3_cellsValue 4 (some .int) :: ([.fieldLink RX3 18 "SmallSpaces$Space" "frame" "LSmallSpaces$Frame;", .fieldLink RX3 9 "SmallSpaces$Space" "cells" "[I", .methodLink RX3 43 yX3_isPivot, .instanceMethod yX3_isPivot, .selects RX3 yX3_isPivot yX3_isPivot, .initialized RX3, .code yX3_isPivot cX3_isPivot 2 (some .boolean), .fieldLink RX3 22 "SmallSpaces$Space" "pivots" "I"] ++ wsX30 ++ wsX00)
def wsX3_ordinal_r1 : List Cond := [Cond.fieldLink RX3 18 "SmallSpaces$Space" "frame" "LSmallSpaces$Frame;", Cond.fieldLink RX3 22 "SmallSpaces$Space" "pivots" "I", Cond.methodLink RX3 99 yX3_rank, Cond.instanceMethod yX3_rank, Cond.selects RX3 yX3_rank yX3_rank, Cond.initialized RX3, Cond.code yX3_rank cX3_rank 1 (some .int), Cond.methodLink RX3 32 yJ6_bitCount_0f7a4, Cond.static yJ6_bitCount_0f7a4, Cond.initialized RJ6, Cond.code yJ6_bitCount_0f7a4 cJ6_bitCount_0f7a4 1 (some .int), Cond.constant RJ6 265 (1431655765), Cond.constant RJ6 266 (858993459), Cond.constant RJ6 267 (252645135), Cond.methodLink RX3 103 yX3_freeCells, Cond.instanceMethod yX3_freeCells, Cond.selects RX3 yX3_freeCells yX3_freeCells, Cond.code yX3_freeCells cX3_freeCells 5 (some .int), Cond.instanceMethod yX0_power, Cond.initialized RX0, Cond.selects RX0 yX0_power yX0_power, Cond.code yX0_power cX0_power 4 (some .int), Cond.fieldLink RX0 13 "SmallSpaces$Frame" "q" "I", Cond.methodLink RX3 109 yX3_cellsValue]
def wsX3_ordinal_r2 : List Cond := [Cond.instanceMethod yX3_cellsValue, Cond.selects RX3 yX3_cellsValue yX3_cellsValue, Cond.code yX3_cellsValue cX3_cellsValue 4 (some .int), Cond.fieldLink RX3 9 "SmallSpaces$Space" "cells" "[I", Cond.methodLink RX3 43 yX3_isPivot, Cond.instanceMethod yX3_isPivot, Cond.selects RX3 yX3_isPivot yX3_isPivot, Cond.code yX3_isPivot cX3_isPivot 2 (some .boolean)]
def wsX3_ordinal : List Cond := .code yX3_ordinal cX3_ordinal 4 (some .int) :: ((wsX3_ordinal_r1 ++ wsX3_ordinal_r2) ++ wsX30 ++ wsX00)
def wsX3_fillCells : List Cond := .code yX3_fillCells cX3_fillCells 5 none :: ([.fieldLink RX3 9 "SmallSpaces$Space" "cells" "[I", .fieldLink RX3 18 "SmallSpaces$Space" "frame" "LSmallSpaces$Frame;", .methodLink RX3 86 yJ7_fill_53178, .static yJ7_fill_53178, .initialized RJ7, .code yJ7_fill_53178 cJ7_fill_53178 4 none, .methodLink RX3 43 yX3_isPivot, .instanceMethod yX3_isPivot, .selects RX3 yX3_isPivot yX3_isPivot, .initialized RX3, .code yX3_isPivot cX3_isPivot 2 (some .boolean), .fieldLink RX3 22 "SmallSpaces$Space" "pivots" "I"] ++ wsX30 ++ wsX00)
def wsX3_becomeOrdinal_r1 : List Cond := [Cond.fieldLink RX3 18 "SmallSpaces$Space" "frame" "LSmallSpaces$Frame;", Cond.fieldLink RX3 22 "SmallSpaces$Space" "pivots" "I", Cond.methodLink RX3 32 yJ6_bitCount_0f7a4, Cond.static yJ6_bitCount_0f7a4, Cond.initialized RJ6, Cond.code yJ6_bitCount_0f7a4 cJ6_bitCount_0f7a4 1 (some .int), Cond.constant RJ6 265 (1431655765), Cond.constant RJ6 266 (858993459), Cond.constant RJ6 267 (252645135), Cond.methodLink RX3 103 yX3_freeCells, Cond.instanceMethod yX3_freeCells, Cond.selects RX3 yX3_freeCells yX3_freeCells, Cond.initialized RX3, Cond.code yX3_freeCells cX3_freeCells 5 (some .int), Cond.instanceMethod yX0_power, Cond.initialized RX0, Cond.selects RX0 yX0_power yX0_power, Cond.code yX0_power cX0_power 4 (some .int), Cond.fieldLink RX0 13 "SmallSpaces$Frame" "q" "I", Cond.methodLink RX3 112 yX3_fillCells, Cond.instanceMethod yX3_fillCells, Cond.selects RX3 yX3_fillCells yX3_fillCells, Cond.code yX3_fillCells cX3_fillCells 5 none, Cond.fieldLink RX3 9 "SmallSpaces$Space" "cells" "[I"]
def wsX3_becomeOrdinal_r2 : List Cond := [Cond.methodLink RX3 86 yJ7_fill_53178, Cond.static yJ7_fill_53178, Cond.initialized RJ7, Cond.code yJ7_fill_53178 cJ7_fill_53178 4 none, Cond.methodLink RX3 43 yX3_isPivot, Cond.instanceMethod yX3_isPivot, Cond.selects RX3 yX3_isPivot yX3_isPivot, Cond.code yX3_isPivot cX3_isPivot 2 (some .boolean)]
def wsX3_becomeOrdinal : List Cond := .code yX3_becomeOrdinal cX3_becomeOrdinal 6 none :: ((wsX3_becomeOrdinal_r1 ++ wsX3_becomeOrdinal_r2) ++ wsX30 ++ wsX00)
def wsX4_init_r1 : List Cond := [Cond.methodLink RX4 1 objectInit, Cond.instanceMethod objectInit, Cond.code objectInit ⟨#[0xb1]⟩ 1 none, Cond.classLink RX4 7 RX0, Cond.instantiable RX0 3, Cond.initialized RX0, Cond.fieldLink RX4 10 "SmallSpaces" "frame" "LSmallSpaces$Frame;", Cond.classLink RX4 16 RX3, Cond.fieldLink RX4 18 "SmallSpaces" "slots" "[LSmallSpaces$Space;", Cond.instantiable RX3 4, Cond.initialized RX3, Cond.classLink RX4 25 RX1, Cond.instantiable RX1 3, Cond.initialized RX1, Cond.fieldLink RX4 28 "SmallSpaces" "heap" "LSmallSpaces$Heap;", Cond.classLink RX4 32 RX2, Cond.instantiable RX2 3, Cond.initialized RX2, Cond.fieldLink RX4 35 "SmallSpaces" "linear" "LSmallSpaces$Linear;", Cond.fieldLink RX4 39 "SmallSpaces" "made" "LSmallSpaces$Space;", Cond.fieldLink RX4 43 "SmallSpaces" "other" "LSmallSpaces$Space;", Cond.arrayClass .int, Cond.fieldLink RX4 46 "SmallSpaces" "figures" "[I", Cond.instanceMethod yX0_init]
def wsX4_init_r2 : List Cond := [Cond.code yX0_init cX0_init 1 none, Cond.methodLink RX0 1 objectInit, Cond.methodLink RX0 7 yX0_become, Cond.instanceMethod yX0_become, Cond.selects RX0 yX0_become yX0_become, Cond.code yX0_become cX0_become 3 none, Cond.fieldLink RX0 13 "SmallSpaces$Frame" "q" "I", Cond.fieldLink RX0 17 "SmallSpaces$Frame" "n" "I", Cond.fieldLink RX0 24 "SmallSpaces$Frame" "vectors" "I", Cond.methodLink RX0 20 yX0_power, Cond.instanceMethod yX0_power, Cond.selects RX0 yX0_power yX0_power, Cond.code yX0_power cX0_power 4 (some .int), Cond.instanceMethod yX3_init, Cond.code yX3_init cX3_init 2 none, Cond.methodLink RX3 3 objectInit, Cond.fieldLink RX3 9 "SmallSpaces$Space" "cells" "[I", Cond.fieldLink RX3 15 "SmallSpaces$Space" "fresh" "[I", Cond.fieldLink RX3 18 "SmallSpaces$Space" "frame" "LSmallSpaces$Frame;", Cond.instanceMethod yX1_init, Cond.code yX1_init cX1_init 3 none, Cond.methodLink RX1 3 objectInit, Cond.classLink RX1 9 RX3, Cond.fieldLink RX1 11 "SmallSpaces$Heap" "spaces" "[LSmallSpaces$Space;"]
def wsX4_init_r3 : List Cond := [Cond.fieldLink RX1 20 "SmallSpaces$Heap" "joined" "LSmallSpaces$Space;", Cond.instanceMethod yX2_init, Cond.code yX2_init cX2_init 2 none, Cond.methodLink RX2 3 objectInit, Cond.fieldLink RX2 9 "SmallSpaces$Linear" "cells" "[I", Cond.fieldLink RX2 15 "SmallSpaces$Linear" "result" "[I", Cond.fieldLink RX2 18 "SmallSpaces$Linear" "frame" "LSmallSpaces$Frame;", Cond.methodLink RX2 22 yX2_becomeIdentity, Cond.instanceMethod yX2_becomeIdentity, Cond.selects RX2 yX2_becomeIdentity yX2_becomeIdentity, Cond.code yX2_becomeIdentity cX2_becomeIdentity 2 none, Cond.methodLink RX2 25 yJ7_fill_53178, Cond.static yJ7_fill_53178, Cond.initialized RJ7, Cond.code yJ7_fill_53178 cJ7_fill_53178 4 none]
def wsX4_init : List Cond := .code yX4_init cX4_init 2 none :: ((wsX4_init_r1 ++ (wsX4_init_r2 ++ wsX4_init_r3)) ++ wsX00 ++ wsX40 ++ wsX30 ++ wsX10 ++ wsX20)
def wsX4_mostPlaces : List Cond := .code yX4_mostPlaces cX4_mostPlaces 1 (some .int) :: ([])
def wsX4_field_r1 : List Cond := [Cond.fieldLink RX4 10 "SmallSpaces" "frame" "LSmallSpaces$Frame;", Cond.fieldLink RX4 18 "SmallSpaces" "slots" "[LSmallSpaces$Space;", Cond.fieldLink RX4 28 "SmallSpaces" "heap" "LSmallSpaces$Heap;", Cond.fieldLink RX4 35 "SmallSpaces" "linear" "LSmallSpaces$Linear;", Cond.methodLink RX4 50 yX4_mostPlaces, Cond.static yX4_mostPlaces, Cond.initialized RX4, Cond.code yX4_mostPlaces cX4_mostPlaces 1 (some .int), Cond.instanceMethod yX0_become, Cond.initialized RX0, Cond.selects RX0 yX0_become yX0_become, Cond.code yX0_become cX0_become 3 none, Cond.fieldLink RX0 13 "SmallSpaces$Frame" "q" "I", Cond.fieldLink RX0 17 "SmallSpaces$Frame" "n" "I", Cond.fieldLink RX0 24 "SmallSpaces$Frame" "vectors" "I", Cond.methodLink RX0 20 yX0_power, Cond.instanceMethod yX0_power, Cond.selects RX0 yX0_power yX0_power, Cond.code yX0_power cX0_power 4 (some .int), Cond.instanceMethod yX3_becomeZero, Cond.initialized RX3, Cond.selects RX3 yX3_becomeZero yX3_becomeZero, Cond.code yX3_becomeZero cX3_becomeZero 1 none, Cond.fieldLink RX3 22 "SmallSpaces$Space" "pivots" "I"]
def wsX4_field_r2 : List Cond := [Cond.instanceMethod yX2_becomeIdentity, Cond.initialized RX2, Cond.selects RX2 yX2_becomeIdentity yX2_becomeIdentity, Cond.code yX2_becomeIdentity cX2_becomeIdentity 2 none, Cond.fieldLink RX2 9 "SmallSpaces$Linear" "cells" "[I", Cond.fieldLink RX2 18 "SmallSpaces$Linear" "frame" "LSmallSpaces$Frame;", Cond.methodLink RX2 25 yJ7_fill_53178, Cond.static yJ7_fill_53178, Cond.initialized RJ7, Cond.code yJ7_fill_53178 cJ7_fill_53178 4 none]
def wsX4_field : List Cond := .code yX4_field cX4_field 4 (some .int) :: ((wsX4_field_r1 ++ wsX4_field_r2) ++ wsX40 ++ wsX10 ++ wsX00 ++ wsX30 ++ wsX20)
def wsX4_plus : List Cond := .code yX4_plus cX4_plus 4 (some .int) :: ([.fieldLink RX4 10 "SmallSpaces" "frame" "LSmallSpaces$Frame;", .instanceMethod yX0_isVector, .initialized RX0, .selects RX0 yX0_isVector yX0_isVector, .code yX0_isVector cX0_isVector 2 (some .boolean), .fieldLink RX0 24 "SmallSpaces$Frame" "vectors" "I", .instanceMethod yX0_sum, .selects RX0 yX0_sum yX0_sum, .code yX0_sum cX0_sum 9 (some .int), .fieldLink RX0 17 "SmallSpaces$Frame" "n" "I", .fieldLink RX0 13 "SmallSpaces$Frame" "q" "I"] ++ wsX40 ++ wsX00)
def wsX4_times : List Cond := .code yX4_times cX4_times 3 (some .int) :: ([.fieldLink RX4 10 "SmallSpaces" "frame" "LSmallSpaces$Frame;", .instanceMethod yX0_isVector, .initialized RX0, .selects RX0 yX0_isVector yX0_isVector, .code yX0_isVector cX0_isVector 2 (some .boolean), .fieldLink RX0 24 "SmallSpaces$Frame" "vectors" "I", .instanceMethod yX0_product, .selects RX0 yX0_product yX0_product, .code yX0_product cX0_product 7 (some .int), .fieldLink RX0 17 "SmallSpaces$Frame" "n" "I", .fieldLink RX0 13 "SmallSpaces$Frame" "q" "I"] ++ wsX40 ++ wsX00)
def wsX4_isSlot : List Cond := .code yX4_isSlot cX4_isSlot 1 (some .boolean) :: ([])
def wsX4_add_r1 : List Cond := [Cond.fieldLink RX4 10 "SmallSpaces" "frame" "LSmallSpaces$Frame;", Cond.fieldLink RX4 46 "SmallSpaces" "figures" "[I", Cond.fieldLink RX4 18 "SmallSpaces" "slots" "[LSmallSpaces$Space;", Cond.methodLink RX4 86 yX4_isSlot, Cond.static yX4_isSlot, Cond.initialized RX4, Cond.code yX4_isSlot cX4_isSlot 1 (some .boolean), Cond.instanceMethod yX0_isVector, Cond.initialized RX0, Cond.selects RX0 yX0_isVector yX0_isVector, Cond.code yX0_isVector cX0_isVector 2 (some .boolean), Cond.fieldLink RX0 24 "SmallSpaces$Frame" "vectors" "I", Cond.instanceMethod yX0_spell, Cond.selects RX0 yX0_spell yX0_spell, Cond.code yX0_spell cX0_spell 6 none, Cond.fieldLink RX0 17 "SmallSpaces$Frame" "n" "I", Cond.fieldLink RX0 13 "SmallSpaces$Frame" "q" "I", Cond.instanceMethod yX3_joinVector, Cond.initialized RX3, Cond.selects RX3 yX3_joinVector yX3_joinVector, Cond.code yX3_joinVector cX3_joinVector 3 none, Cond.fieldLink RX3 15 "SmallSpaces$Space" "fresh" "[I", Cond.fieldLink RX3 18 "SmallSpaces$Space" "frame" "LSmallSpaces$Frame;", Cond.methodLink RX3 26 arraycopyName]
def wsX4_add_r2 : List Cond := [Cond.native arraycopyName, Cond.static arraycopyName, Cond.initialized "java/lang/System", Cond.methodLink RX3 66 yX3_joinFresh, Cond.instanceMethod yX3_joinFresh, Cond.selects RX3 yX3_joinFresh yX3_joinFresh, Cond.code yX3_joinFresh cX3_joinFresh 4 none, Cond.fieldLink RX3 9 "SmallSpaces$Space" "cells" "[I", Cond.methodLink RX3 69 yX3_reduceFresh, Cond.instanceMethod yX3_reduceFresh, Cond.selects RX3 yX3_reduceFresh yX3_reduceFresh, Cond.code yX3_reduceFresh cX3_reduceFresh 2 none, Cond.methodLink RX3 43 yX3_isPivot, Cond.instanceMethod yX3_isPivot, Cond.selects RX3 yX3_isPivot yX3_isPivot, Cond.code yX3_isPivot cX3_isPivot 2 (some .boolean), Cond.fieldLink RX3 22 "SmallSpaces$Space" "pivots" "I", Cond.instanceMethod yX0_addMultiple, Cond.selects RX0 yX0_addMultiple yX0_addMultiple, Cond.code yX0_addMultiple cX0_addMultiple 7 none, Cond.instanceMethod yX0_inverse, Cond.selects RX0 yX0_inverse yX0_inverse, Cond.code yX0_inverse cX0_inverse 2 (some .int), Cond.methodLink RX3 75 yX3_takeRow]
def wsX4_add_r3 : List Cond := [Cond.instanceMethod yX3_takeRow, Cond.selects RX3 yX3_takeRow yX3_takeRow, Cond.code yX3_takeRow cX3_takeRow 4 none, Cond.instanceMethod yX3_rank, Cond.selects RX3 yX3_rank yX3_rank, Cond.code yX3_rank cX3_rank 1 (some .int), Cond.methodLink RX3 32 yJ6_bitCount_0f7a4, Cond.static yJ6_bitCount_0f7a4, Cond.initialized RJ6, Cond.code yJ6_bitCount_0f7a4 cJ6_bitCount_0f7a4 1 (some .int), Cond.constant RJ6 265 (1431655765), Cond.constant RJ6 266 (858993459), Cond.constant RJ6 267 (252645135)]
def wsX4_add : List Cond := .code yX4_add cX4_add 3 (some .int) :: ((wsX4_add_r1 ++ (wsX4_add_r2 ++ wsX4_add_r3)) ++ wsX40 ++ wsX00 ++ wsX30)
def wsX4_clear : List Cond := .code yX4_clear cX4_clear 3 (some .int) :: ([.fieldLink RX4 18 "SmallSpaces" "slots" "[LSmallSpaces$Space;", .methodLink RX4 86 yX4_isSlot, .static yX4_isSlot, .initialized RX4, .code yX4_isSlot cX4_isSlot 1 (some .boolean), .instanceMethod yX3_rank, .initialized RX3, .selects RX3 yX3_rank yX3_rank, .code yX3_rank cX3_rank 1 (some .int), .fieldLink RX3 22 "SmallSpaces$Space" "pivots" "I", .methodLink RX3 32 yJ6_bitCount_0f7a4, .static yJ6_bitCount_0f7a4, .initialized RJ6, .code yJ6_bitCount_0f7a4 cJ6_bitCount_0f7a4 1 (some .int), .constant RJ6 265 (1431655765), .constant RJ6 266 (858993459), .constant RJ6 267 (252645135), .instanceMethod yX3_becomeZero, .selects RX3 yX3_becomeZero yX3_becomeZero, .code yX3_becomeZero cX3_becomeZero 1 none] ++ wsX40 ++ wsX30)
def wsX4_dim : List Cond := .code yX4_dim cX4_dim 2 (some .int) :: ([.fieldLink RX4 18 "SmallSpaces" "slots" "[LSmallSpaces$Space;", .methodLink RX4 86 yX4_isSlot, .static yX4_isSlot, .initialized RX4, .code yX4_isSlot cX4_isSlot 1 (some .boolean), .instanceMethod yX3_rank, .initialized RX3, .selects RX3 yX3_rank yX3_rank, .code yX3_rank cX3_rank 1 (some .int), .fieldLink RX3 22 "SmallSpaces$Space" "pivots" "I", .methodLink RX3 32 yJ6_bitCount_0f7a4, .static yJ6_bitCount_0f7a4, .initialized RJ6, .code yJ6_bitCount_0f7a4 cJ6_bitCount_0f7a4 1 (some .int), .constant RJ6 265 (1431655765), .constant RJ6 266 (858993459), .constant RJ6 267 (252645135)] ++ wsX40 ++ wsX30)
def wsX4_row : List Cond := .code yX4_row cX4_row 3 (some .int) :: ([.fieldLink RX4 18 "SmallSpaces" "slots" "[LSmallSpaces$Space;", .methodLink RX4 86 yX4_isSlot, .static yX4_isSlot, .initialized RX4, .code yX4_isSlot cX4_isSlot 1 (some .boolean), .instanceMethod yX3_rowNumber, .initialized RX3, .selects RX3 yX3_rowNumber yX3_rowNumber, .code yX3_rowNumber cX3_rowNumber 4 (some .int), .fieldLink RX3 18 "SmallSpaces$Space" "frame" "LSmallSpaces$Frame;", .fieldLink RX3 9 "SmallSpaces$Space" "cells" "[I", .methodLink RX3 43 yX3_isPivot, .instanceMethod yX3_isPivot, .selects RX3 yX3_isPivot yX3_isPivot, .code yX3_isPivot cX3_isPivot 2 (some .boolean), .fieldLink RX3 22 "SmallSpaces$Space" "pivots" "I", .instanceMethod yX0_vectorNumber, .initialized RX0, .selects RX0 yX0_vectorNumber yX0_vectorNumber, .code yX0_vectorNumber cX0_vectorNumber 5 (some .int), .fieldLink RX0 17 "SmallSpaces$Frame" "n" "I", .fieldLink RX0 13 "SmallSpaces$Frame" "q" "I"] ++ wsX40 ++ wsX30 ++ wsX00)
def wsX4_settle : List Cond := .code yX4_settle cX4_settle 3 (some .int) :: ([.fieldLink RX4 18 "SmallSpaces" "slots" "[LSmallSpaces$Space;", .instanceMethod yX3_copyFrom, .initialized RX3, .selects RX3 yX3_copyFrom yX3_copyFrom, .code yX3_copyFrom cX3_copyFrom 2 none, .fieldLink RX3 22 "SmallSpaces$Space" "pivots" "I", .fieldLink RX3 9 "SmallSpaces$Space" "cells" "[I", .methodLink RX3 26 arraycopyName, .native arraycopyName, .static arraycopyName, .initialized "java/lang/System", .instanceMethod yX3_rank, .selects RX3 yX3_rank yX3_rank, .code yX3_rank cX3_rank 1 (some .int), .methodLink RX3 32 yJ6_bitCount_0f7a4, .static yJ6_bitCount_0f7a4, .initialized RJ6, .code yJ6_bitCount_0f7a4 cJ6_bitCount_0f7a4 1 (some .int), .constant RJ6 265 (1431655765), .constant RJ6 266 (858993459), .constant RJ6 267 (252645135)] ++ wsX40 ++ wsX30)
def wsX4_join_r1 : List Cond := [Cond.fieldLink RX4 39 "SmallSpaces" "made" "LSmallSpaces$Space;", Cond.fieldLink RX4 18 "SmallSpaces" "slots" "[LSmallSpaces$Space;", Cond.methodLink RX4 86 yX4_isSlot, Cond.static yX4_isSlot, Cond.initialized RX4, Cond.code yX4_isSlot cX4_isSlot 1 (some .boolean), Cond.instanceMethod yX3_copyFrom, Cond.initialized RX3, Cond.selects RX3 yX3_copyFrom yX3_copyFrom, Cond.code yX3_copyFrom cX3_copyFrom 2 none, Cond.fieldLink RX3 22 "SmallSpaces$Space" "pivots" "I", Cond.fieldLink RX3 9 "SmallSpaces$Space" "cells" "[I", Cond.methodLink RX3 26 arraycopyName, Cond.native arraycopyName, Cond.static arraycopyName, Cond.initialized "java/lang/System", Cond.instanceMethod yX3_joinSpace, Cond.selects RX3 yX3_joinSpace yX3_joinSpace, Cond.code yX3_joinSpace cX3_joinSpace 3 none, Cond.fieldLink RX3 18 "SmallSpaces$Space" "frame" "LSmallSpaces$Frame;", Cond.fieldLink RX3 15 "SmallSpaces$Space" "fresh" "[I", Cond.methodLink RX3 43 yX3_isPivot, Cond.instanceMethod yX3_isPivot, Cond.selects RX3 yX3_isPivot yX3_isPivot]
def wsX4_join_r2 : List Cond := [Cond.code yX3_isPivot cX3_isPivot 2 (some .boolean), Cond.methodLink RX3 66 yX3_joinFresh, Cond.instanceMethod yX3_joinFresh, Cond.selects RX3 yX3_joinFresh yX3_joinFresh, Cond.code yX3_joinFresh cX3_joinFresh 4 none, Cond.methodLink RX3 69 yX3_reduceFresh, Cond.instanceMethod yX3_reduceFresh, Cond.selects RX3 yX3_reduceFresh yX3_reduceFresh, Cond.code yX3_reduceFresh cX3_reduceFresh 2 none, Cond.instanceMethod yX0_addMultiple, Cond.initialized RX0, Cond.selects RX0 yX0_addMultiple yX0_addMultiple, Cond.code yX0_addMultiple cX0_addMultiple 7 none, Cond.fieldLink RX0 17 "SmallSpaces$Frame" "n" "I", Cond.fieldLink RX0 13 "SmallSpaces$Frame" "q" "I", Cond.instanceMethod yX0_inverse, Cond.selects RX0 yX0_inverse yX0_inverse, Cond.code yX0_inverse cX0_inverse 2 (some .int), Cond.methodLink RX3 75 yX3_takeRow, Cond.instanceMethod yX3_takeRow, Cond.selects RX3 yX3_takeRow yX3_takeRow, Cond.code yX3_takeRow cX3_takeRow 4 none, Cond.methodLink RX4 111 yX4_settle, Cond.instanceMethod yX4_settle]
def wsX4_join_r3 : List Cond := [Cond.selects RX4 yX4_settle yX4_settle, Cond.code yX4_settle cX4_settle 3 (some .int), Cond.instanceMethod yX3_rank, Cond.selects RX3 yX3_rank yX3_rank, Cond.code yX3_rank cX3_rank 1 (some .int), Cond.methodLink RX3 32 yJ6_bitCount_0f7a4, Cond.static yJ6_bitCount_0f7a4, Cond.initialized RJ6, Cond.code yJ6_bitCount_0f7a4 cJ6_bitCount_0f7a4 1 (some .int), Cond.constant RJ6 265 (1431655765), Cond.constant RJ6 266 (858993459), Cond.constant RJ6 267 (252645135)]
def wsX4_join : List Cond := .code yX4_join cX4_join 4 (some .int) :: ((wsX4_join_r1 ++ (wsX4_join_r2 ++ wsX4_join_r3)) ++ wsX40 ++ wsX30 ++ wsX00)
def wsX4_meet_r1 : List Cond := [Cond.fieldLink RX4 39 "SmallSpaces" "made" "LSmallSpaces$Space;", Cond.fieldLink RX4 18 "SmallSpaces" "slots" "[LSmallSpaces$Space;", Cond.fieldLink RX4 43 "SmallSpaces" "other" "LSmallSpaces$Space;", Cond.methodLink RX4 86 yX4_isSlot, Cond.static yX4_isSlot, Cond.initialized RX4, Cond.code yX4_isSlot cX4_isSlot 1 (some .boolean), Cond.instanceMethod yX3_becomeDual, Cond.initialized RX3, Cond.selects RX3 yX3_becomeDual yX3_becomeDual, Cond.code yX3_becomeDual cX3_becomeDual 4 none, Cond.fieldLink RX3 18 "SmallSpaces$Space" "frame" "LSmallSpaces$Frame;", Cond.fieldLink RX3 15 "SmallSpaces$Space" "fresh" "[I", Cond.fieldLink RX3 9 "SmallSpaces$Space" "cells" "[I", Cond.methodLink RX3 83 yX3_becomeZero, Cond.instanceMethod yX3_becomeZero, Cond.selects RX3 yX3_becomeZero yX3_becomeZero, Cond.code yX3_becomeZero cX3_becomeZero 1 none, Cond.fieldLink RX3 22 "SmallSpaces$Space" "pivots" "I", Cond.methodLink RX3 43 yX3_isPivot, Cond.instanceMethod yX3_isPivot, Cond.selects RX3 yX3_isPivot yX3_isPivot, Cond.code yX3_isPivot cX3_isPivot 2 (some .boolean), Cond.methodLink RX3 86 yJ7_fill_53178]
def wsX4_meet_r2 : List Cond := [Cond.static yJ7_fill_53178, Cond.initialized RJ7, Cond.code yJ7_fill_53178 cJ7_fill_53178 4 none, Cond.methodLink RX3 66 yX3_joinFresh, Cond.instanceMethod yX3_joinFresh, Cond.selects RX3 yX3_joinFresh yX3_joinFresh, Cond.code yX3_joinFresh cX3_joinFresh 4 none, Cond.methodLink RX3 69 yX3_reduceFresh, Cond.instanceMethod yX3_reduceFresh, Cond.selects RX3 yX3_reduceFresh yX3_reduceFresh, Cond.code yX3_reduceFresh cX3_reduceFresh 2 none, Cond.instanceMethod yX0_addMultiple, Cond.initialized RX0, Cond.selects RX0 yX0_addMultiple yX0_addMultiple, Cond.code yX0_addMultiple cX0_addMultiple 7 none, Cond.fieldLink RX0 17 "SmallSpaces$Frame" "n" "I", Cond.fieldLink RX0 13 "SmallSpaces$Frame" "q" "I", Cond.instanceMethod yX0_inverse, Cond.selects RX0 yX0_inverse yX0_inverse, Cond.code yX0_inverse cX0_inverse 2 (some .int), Cond.methodLink RX3 75 yX3_takeRow, Cond.instanceMethod yX3_takeRow, Cond.selects RX3 yX3_takeRow yX3_takeRow, Cond.code yX3_takeRow cX3_takeRow 4 none]
def wsX4_meet_r3 : List Cond := [Cond.instanceMethod yX3_joinSpace, Cond.selects RX3 yX3_joinSpace yX3_joinSpace, Cond.code yX3_joinSpace cX3_joinSpace 3 none, Cond.methodLink RX3 26 arraycopyName, Cond.native arraycopyName, Cond.static arraycopyName, Cond.initialized "java/lang/System", Cond.methodLink RX4 111 yX4_settle, Cond.instanceMethod yX4_settle, Cond.selects RX4 yX4_settle yX4_settle, Cond.code yX4_settle cX4_settle 3 (some .int), Cond.instanceMethod yX3_copyFrom, Cond.selects RX3 yX3_copyFrom yX3_copyFrom, Cond.code yX3_copyFrom cX3_copyFrom 2 none, Cond.instanceMethod yX3_rank, Cond.selects RX3 yX3_rank yX3_rank, Cond.code yX3_rank cX3_rank 1 (some .int), Cond.methodLink RX3 32 yJ6_bitCount_0f7a4, Cond.static yJ6_bitCount_0f7a4, Cond.initialized RJ6, Cond.code yJ6_bitCount_0f7a4 cJ6_bitCount_0f7a4 1 (some .int), Cond.constant RJ6 265 (1431655765), Cond.constant RJ6 266 (858993459), Cond.constant RJ6 267 (252645135)]
def wsX4_meet : List Cond := .code yX4_meet cX4_meet 4 (some .int) :: ((wsX4_meet_r1 ++ (wsX4_meet_r2 ++ wsX4_meet_r3)) ++ wsX40 ++ wsX30 ++ wsX00)
def wsX4_dual_r1 : List Cond := [Cond.fieldLink RX4 39 "SmallSpaces" "made" "LSmallSpaces$Space;", Cond.fieldLink RX4 18 "SmallSpaces" "slots" "[LSmallSpaces$Space;", Cond.methodLink RX4 86 yX4_isSlot, Cond.static yX4_isSlot, Cond.initialized RX4, Cond.code yX4_isSlot cX4_isSlot 1 (some .boolean), Cond.instanceMethod yX3_becomeDual, Cond.initialized RX3, Cond.selects RX3 yX3_becomeDual yX3_becomeDual, Cond.code yX3_becomeDual cX3_becomeDual 4 none, Cond.fieldLink RX3 18 "SmallSpaces$Space" "frame" "LSmallSpaces$Frame;", Cond.fieldLink RX3 15 "SmallSpaces$Space" "fresh" "[I", Cond.fieldLink RX3 9 "SmallSpaces$Space" "cells" "[I", Cond.methodLink RX3 83 yX3_becomeZero, Cond.instanceMethod yX3_becomeZero, Cond.selects RX3 yX3_becomeZero yX3_becomeZero, Cond.code yX3_becomeZero cX3_becomeZero 1 none, Cond.fieldLink RX3 22 "SmallSpaces$Space" "pivots" "I", Cond.methodLink RX3 43 yX3_isPivot, Cond.instanceMethod yX3_isPivot, Cond.selects RX3 yX3_isPivot yX3_isPivot, Cond.code yX3_isPivot cX3_isPivot 2 (some .boolean), Cond.methodLink RX3 86 yJ7_fill_53178, Cond.static yJ7_fill_53178]
def wsX4_dual_r2 : List Cond := [Cond.initialized RJ7, Cond.code yJ7_fill_53178 cJ7_fill_53178 4 none, Cond.methodLink RX3 66 yX3_joinFresh, Cond.instanceMethod yX3_joinFresh, Cond.selects RX3 yX3_joinFresh yX3_joinFresh, Cond.code yX3_joinFresh cX3_joinFresh 4 none, Cond.methodLink RX3 69 yX3_reduceFresh, Cond.instanceMethod yX3_reduceFresh, Cond.selects RX3 yX3_reduceFresh yX3_reduceFresh, Cond.code yX3_reduceFresh cX3_reduceFresh 2 none, Cond.instanceMethod yX0_addMultiple, Cond.initialized RX0, Cond.selects RX0 yX0_addMultiple yX0_addMultiple, Cond.code yX0_addMultiple cX0_addMultiple 7 none, Cond.fieldLink RX0 17 "SmallSpaces$Frame" "n" "I", Cond.fieldLink RX0 13 "SmallSpaces$Frame" "q" "I", Cond.instanceMethod yX0_inverse, Cond.selects RX0 yX0_inverse yX0_inverse, Cond.code yX0_inverse cX0_inverse 2 (some .int), Cond.methodLink RX3 75 yX3_takeRow, Cond.instanceMethod yX3_takeRow, Cond.selects RX3 yX3_takeRow yX3_takeRow, Cond.code yX3_takeRow cX3_takeRow 4 none, Cond.methodLink RX4 111 yX4_settle]
def wsX4_dual_r3 : List Cond := [Cond.instanceMethod yX4_settle, Cond.selects RX4 yX4_settle yX4_settle, Cond.code yX4_settle cX4_settle 3 (some .int), Cond.instanceMethod yX3_copyFrom, Cond.selects RX3 yX3_copyFrom yX3_copyFrom, Cond.code yX3_copyFrom cX3_copyFrom 2 none, Cond.methodLink RX3 26 arraycopyName, Cond.native arraycopyName, Cond.static arraycopyName, Cond.initialized "java/lang/System", Cond.instanceMethod yX3_rank, Cond.selects RX3 yX3_rank yX3_rank, Cond.code yX3_rank cX3_rank 1 (some .int), Cond.methodLink RX3 32 yJ6_bitCount_0f7a4, Cond.static yJ6_bitCount_0f7a4, Cond.initialized RJ6, Cond.code yJ6_bitCount_0f7a4 cJ6_bitCount_0f7a4 1 (some .int), Cond.constant RJ6 265 (1431655765), Cond.constant RJ6 266 (858993459), Cond.constant RJ6 267 (252645135)]
def wsX4_dual : List Cond := .code yX4_dual cX4_dual 3 (some .int) :: ((wsX4_dual_r1 ++ (wsX4_dual_r2 ++ wsX4_dual_r3)) ++ wsX40 ++ wsX30 ++ wsX00)
def wsX4_has_r1 : List Cond := [Cond.fieldLink RX4 10 "SmallSpaces" "frame" "LSmallSpaces$Frame;", Cond.fieldLink RX4 46 "SmallSpaces" "figures" "[I", Cond.fieldLink RX4 18 "SmallSpaces" "slots" "[LSmallSpaces$Space;", Cond.methodLink RX4 86 yX4_isSlot, Cond.static yX4_isSlot, Cond.initialized RX4, Cond.code yX4_isSlot cX4_isSlot 1 (some .boolean), Cond.instanceMethod yX0_isVector, Cond.initialized RX0, Cond.selects RX0 yX0_isVector yX0_isVector, Cond.code yX0_isVector cX0_isVector 2 (some .boolean), Cond.fieldLink RX0 24 "SmallSpaces$Frame" "vectors" "I", Cond.instanceMethod yX0_spell, Cond.selects RX0 yX0_spell yX0_spell, Cond.code yX0_spell cX0_spell 6 none, Cond.fieldLink RX0 17 "SmallSpaces$Frame" "n" "I", Cond.fieldLink RX0 13 "SmallSpaces$Frame" "q" "I", Cond.instanceMethod yX3_holds, Cond.initialized RX3, Cond.selects RX3 yX3_holds yX3_holds, Cond.code yX3_holds cX3_holds 4 (some .boolean), Cond.fieldLink RX3 18 "SmallSpaces$Space" "frame" "LSmallSpaces$Frame;", Cond.methodLink RX3 43 yX3_isPivot, Cond.instanceMethod yX3_isPivot]
def wsX4_has_r2 : List Cond := [Cond.selects RX3 yX3_isPivot yX3_isPivot, Cond.code yX3_isPivot cX3_isPivot 2 (some .boolean), Cond.fieldLink RX3 22 "SmallSpaces$Space" "pivots" "I", Cond.methodLink RX3 51 yX3_settledFigure, Cond.instanceMethod yX3_settledFigure, Cond.selects RX3 yX3_settledFigure yX3_settledFigure, Cond.code yX3_settledFigure cX3_settledFigure 6 (some .int), Cond.fieldLink RX3 9 "SmallSpaces$Space" "cells" "[I"]
def wsX4_has : List Cond := .code yX4_has cX4_has 3 (some .int) :: ((wsX4_has_r1 ++ wsX4_has_r2) ++ wsX40 ++ wsX00 ++ wsX30)
def wsX4_within : List Cond := .code yX4_within cX4_within 3 (some .int) :: ([.fieldLink RX4 18 "SmallSpaces" "slots" "[LSmallSpaces$Space;", .methodLink RX4 86 yX4_isSlot, .static yX4_isSlot, .initialized RX4, .code yX4_isSlot cX4_isSlot 1 (some .boolean), .instanceMethod yX3_liesIn, .initialized RX3, .selects RX3 yX3_liesIn yX3_liesIn, .code yX3_liesIn cX3_liesIn 3 (some .boolean), .fieldLink RX3 18 "SmallSpaces$Space" "frame" "LSmallSpaces$Frame;", .fieldLink RX3 9 "SmallSpaces$Space" "cells" "[I", .methodLink RX3 43 yX3_isPivot, .instanceMethod yX3_isPivot, .selects RX3 yX3_isPivot yX3_isPivot, .code yX3_isPivot cX3_isPivot 2 (some .boolean), .fieldLink RX3 22 "SmallSpaces$Space" "pivots" "I", .methodLink RX3 58 yX3_holds, .instanceMethod yX3_holds, .selects RX3 yX3_holds yX3_holds, .code yX3_holds cX3_holds 4 (some .boolean), .methodLink RX3 51 yX3_settledFigure, .instanceMethod yX3_settledFigure, .selects RX3 yX3_settledFigure yX3_settledFigure, .code yX3_settledFigure cX3_settledFigure 6 (some .int)] ++ wsX40 ++ wsX30 ++ wsX00)
def wsX4_apart_r1 : List Cond := [Cond.fieldLink RX4 39 "SmallSpaces" "made" "LSmallSpaces$Space;", Cond.fieldLink RX4 18 "SmallSpaces" "slots" "[LSmallSpaces$Space;", Cond.methodLink RX4 86 yX4_isSlot, Cond.static yX4_isSlot, Cond.initialized RX4, Cond.code yX4_isSlot cX4_isSlot 1 (some .boolean), Cond.instanceMethod yX3_distance, Cond.initialized RX3, Cond.selects RX3 yX3_distance yX3_distance, Cond.code yX3_distance cX3_distance 3 (some .int), Cond.methodLink RX3 92 yX3_copyFrom, Cond.instanceMethod yX3_copyFrom, Cond.selects RX3 yX3_copyFrom yX3_copyFrom, Cond.code yX3_copyFrom cX3_copyFrom 2 none, Cond.fieldLink RX3 22 "SmallSpaces$Space" "pivots" "I", Cond.fieldLink RX3 9 "SmallSpaces$Space" "cells" "[I", Cond.methodLink RX3 26 arraycopyName, Cond.native arraycopyName, Cond.static arraycopyName, Cond.initialized "java/lang/System", Cond.methodLink RX3 96 yX3_joinSpace, Cond.instanceMethod yX3_joinSpace, Cond.selects RX3 yX3_joinSpace yX3_joinSpace, Cond.code yX3_joinSpace cX3_joinSpace 3 none]
def wsX4_apart_r2 : List Cond := [Cond.fieldLink RX3 18 "SmallSpaces$Space" "frame" "LSmallSpaces$Frame;", Cond.fieldLink RX3 15 "SmallSpaces$Space" "fresh" "[I", Cond.methodLink RX3 43 yX3_isPivot, Cond.instanceMethod yX3_isPivot, Cond.selects RX3 yX3_isPivot yX3_isPivot, Cond.code yX3_isPivot cX3_isPivot 2 (some .boolean), Cond.methodLink RX3 66 yX3_joinFresh, Cond.instanceMethod yX3_joinFresh, Cond.selects RX3 yX3_joinFresh yX3_joinFresh, Cond.code yX3_joinFresh cX3_joinFresh 4 none, Cond.methodLink RX3 69 yX3_reduceFresh, Cond.instanceMethod yX3_reduceFresh, Cond.selects RX3 yX3_reduceFresh yX3_reduceFresh, Cond.code yX3_reduceFresh cX3_reduceFresh 2 none, Cond.instanceMethod yX0_addMultiple, Cond.initialized RX0, Cond.selects RX0 yX0_addMultiple yX0_addMultiple, Cond.code yX0_addMultiple cX0_addMultiple 7 none, Cond.fieldLink RX0 17 "SmallSpaces$Frame" "n" "I", Cond.fieldLink RX0 13 "SmallSpaces$Frame" "q" "I", Cond.instanceMethod yX0_inverse, Cond.selects RX0 yX0_inverse yX0_inverse, Cond.code yX0_inverse cX0_inverse 2 (some .int), Cond.methodLink RX3 75 yX3_takeRow]
def wsX4_apart_r3 : List Cond := [Cond.instanceMethod yX3_takeRow, Cond.selects RX3 yX3_takeRow yX3_takeRow, Cond.code yX3_takeRow cX3_takeRow 4 none, Cond.methodLink RX3 99 yX3_rank, Cond.instanceMethod yX3_rank, Cond.selects RX3 yX3_rank yX3_rank, Cond.code yX3_rank cX3_rank 1 (some .int), Cond.methodLink RX3 32 yJ6_bitCount_0f7a4, Cond.static yJ6_bitCount_0f7a4, Cond.initialized RJ6, Cond.code yJ6_bitCount_0f7a4 cJ6_bitCount_0f7a4 1 (some .int), Cond.constant RJ6 265 (1431655765), Cond.constant RJ6 266 (858993459), Cond.constant RJ6 267 (252645135)]
def wsX4_apart : List Cond := .code yX4_apart cX4_apart 3 (some .int) :: ((wsX4_apart_r1 ++ (wsX4_apart_r2 ++ wsX4_apart_r3)) ++ wsX40 ++ wsX30 ++ wsX00)
def wsX4_number_r1 : List Cond := [Cond.fieldLink RX4 18 "SmallSpaces" "slots" "[LSmallSpaces$Space;", Cond.methodLink RX4 86 yX4_isSlot, Cond.static yX4_isSlot, Cond.initialized RX4, Cond.code yX4_isSlot cX4_isSlot 1 (some .boolean), Cond.instanceMethod yX3_ordinal, Cond.initialized RX3, Cond.selects RX3 yX3_ordinal yX3_ordinal, Cond.code yX3_ordinal cX3_ordinal 4 (some .int), Cond.fieldLink RX3 18 "SmallSpaces$Space" "frame" "LSmallSpaces$Frame;", Cond.fieldLink RX3 22 "SmallSpaces$Space" "pivots" "I", Cond.methodLink RX3 99 yX3_rank, Cond.instanceMethod yX3_rank, Cond.selects RX3 yX3_rank yX3_rank, Cond.code yX3_rank cX3_rank 1 (some .int), Cond.methodLink RX3 32 yJ6_bitCount_0f7a4, Cond.static yJ6_bitCount_0f7a4, Cond.initialized RJ6, Cond.code yJ6_bitCount_0f7a4 cJ6_bitCount_0f7a4 1 (some .int), Cond.constant RJ6 265 (1431655765), Cond.constant RJ6 266 (858993459), Cond.constant RJ6 267 (252645135), Cond.methodLink RX3 103 yX3_freeCells, Cond.instanceMethod yX3_freeCells]
def wsX4_number_r2 : List Cond := [Cond.selects RX3 yX3_freeCells yX3_freeCells, Cond.code yX3_freeCells cX3_freeCells 5 (some .int), Cond.instanceMethod yX0_power, Cond.initialized RX0, Cond.selects RX0 yX0_power yX0_power, Cond.code yX0_power cX0_power 4 (some .int), Cond.fieldLink RX0 13 "SmallSpaces$Frame" "q" "I", Cond.methodLink RX3 109 yX3_cellsValue, Cond.instanceMethod yX3_cellsValue, Cond.selects RX3 yX3_cellsValue yX3_cellsValue, Cond.code yX3_cellsValue cX3_cellsValue 4 (some .int), Cond.fieldLink RX3 9 "SmallSpaces$Space" "cells" "[I", Cond.methodLink RX3 43 yX3_isPivot, Cond.instanceMethod yX3_isPivot, Cond.selects RX3 yX3_isPivot yX3_isPivot, Cond.code yX3_isPivot cX3_isPivot 2 (some .boolean)]
def wsX4_number : List Cond := .code yX4_number cX4_number 2 (some .int) :: ((wsX4_number_r1 ++ wsX4_number_r2) ++ wsX40 ++ wsX30 ++ wsX00)
def wsX4_isDim : List Cond := .code yX4_isDim cX4_isDim 2 (some .boolean) :: ([.fieldLink RX4 10 "SmallSpaces" "frame" "LSmallSpaces$Frame;"] ++ wsX40 ++ wsX00)
def wsX4_numbered_r1 : List Cond := [Cond.fieldLink RX4 10 "SmallSpaces" "frame" "LSmallSpaces$Frame;", Cond.fieldLink RX4 18 "SmallSpaces" "slots" "[LSmallSpaces$Space;", Cond.methodLink RX4 86 yX4_isSlot, Cond.static yX4_isSlot, Cond.initialized RX4, Cond.code yX4_isSlot cX4_isSlot 1 (some .boolean), Cond.methodLink RX4 133 yX4_isDim, Cond.instanceMethod yX4_isDim, Cond.selects RX4 yX4_isDim yX4_isDim, Cond.code yX4_isDim cX4_isDim 2 (some .boolean), Cond.instanceMethod yX0_spaces, Cond.initialized RX0, Cond.selects RX0 yX0_spaces yX0_spaces, Cond.code yX0_spaces cX0_spaces 5 (some .int), Cond.methodLink RX0 20 yX0_power, Cond.instanceMethod yX0_power, Cond.selects RX0 yX0_power yX0_power, Cond.code yX0_power cX0_power 4 (some .int), Cond.fieldLink RX0 13 "SmallSpaces$Frame" "q" "I", Cond.instanceMethod yX3_becomeOrdinal, Cond.initialized RX3, Cond.selects RX3 yX3_becomeOrdinal yX3_becomeOrdinal, Cond.code yX3_becomeOrdinal cX3_becomeOrdinal 6 none, Cond.fieldLink RX3 18 "SmallSpaces$Space" "frame" "LSmallSpaces$Frame;"]
def wsX4_numbered_r2 : List Cond := [Cond.fieldLink RX3 22 "SmallSpaces$Space" "pivots" "I", Cond.methodLink RX3 32 yJ6_bitCount_0f7a4, Cond.static yJ6_bitCount_0f7a4, Cond.initialized RJ6, Cond.code yJ6_bitCount_0f7a4 cJ6_bitCount_0f7a4 1 (some .int), Cond.constant RJ6 265 (1431655765), Cond.constant RJ6 266 (858993459), Cond.constant RJ6 267 (252645135), Cond.methodLink RX3 103 yX3_freeCells, Cond.instanceMethod yX3_freeCells, Cond.selects RX3 yX3_freeCells yX3_freeCells, Cond.code yX3_freeCells cX3_freeCells 5 (some .int), Cond.methodLink RX3 112 yX3_fillCells, Cond.instanceMethod yX3_fillCells, Cond.selects RX3 yX3_fillCells yX3_fillCells, Cond.code yX3_fillCells cX3_fillCells 5 none, Cond.fieldLink RX3 9 "SmallSpaces$Space" "cells" "[I", Cond.methodLink RX3 86 yJ7_fill_53178, Cond.static yJ7_fill_53178, Cond.initialized RJ7, Cond.code yJ7_fill_53178 cJ7_fill_53178 4 none, Cond.methodLink RX3 43 yX3_isPivot, Cond.instanceMethod yX3_isPivot, Cond.selects RX3 yX3_isPivot yX3_isPivot]
def wsX4_numbered_r3 : List Cond := [Cond.code yX3_isPivot cX3_isPivot 2 (some .boolean)]
def wsX4_numbered : List Cond := .code yX4_numbered cX4_numbered 4 (some .int) :: ((wsX4_numbered_r1 ++ (wsX4_numbered_r2 ++ wsX4_numbered_r3)) ++ wsX40 ++ wsX00 ++ wsX30)
def wsX4_many : List Cond := .code yX4_many cX4_many 2 (some .int) :: ([.fieldLink RX4 10 "SmallSpaces" "frame" "LSmallSpaces$Frame;", .instanceMethod yX0_spaces, .initialized RX0, .selects RX0 yX0_spaces yX0_spaces, .code yX0_spaces cX0_spaces 5 (some .int), .methodLink RX0 20 yX0_power, .instanceMethod yX0_power, .selects RX0 yX0_power yX0_power, .code yX0_power cX0_power 4 (some .int), .fieldLink RX0 13 "SmallSpaces$Frame" "q" "I"] ++ wsX40 ++ wsX00)
def wsX4_over_r1 : List Cond := [Cond.fieldLink RX4 18 "SmallSpaces" "slots" "[LSmallSpaces$Space;", Cond.fieldLink RX4 10 "SmallSpaces" "frame" "LSmallSpaces$Frame;", Cond.methodLink RX4 86 yX4_isSlot, Cond.static yX4_isSlot, Cond.initialized RX4, Cond.code yX4_isSlot cX4_isSlot 1 (some .boolean), Cond.methodLink RX4 133 yX4_isDim, Cond.instanceMethod yX4_isDim, Cond.selects RX4 yX4_isDim yX4_isDim, Cond.code yX4_isDim cX4_isDim 2 (some .boolean), Cond.instanceMethod yX3_rank, Cond.initialized RX3, Cond.selects RX3 yX3_rank yX3_rank, Cond.code yX3_rank cX3_rank 1 (some .int), Cond.fieldLink RX3 22 "SmallSpaces$Space" "pivots" "I", Cond.methodLink RX3 32 yJ6_bitCount_0f7a4, Cond.static yJ6_bitCount_0f7a4, Cond.initialized RJ6, Cond.code yJ6_bitCount_0f7a4 cJ6_bitCount_0f7a4 1 (some .int), Cond.constant RJ6 265 (1431655765), Cond.constant RJ6 266 (858993459), Cond.constant RJ6 267 (252645135), Cond.instanceMethod yX0_spaces, Cond.initialized RX0]
def wsX4_over_r2 : List Cond := [Cond.selects RX0 yX0_spaces yX0_spaces, Cond.code yX0_spaces cX0_spaces 5 (some .int), Cond.methodLink RX0 20 yX0_power, Cond.instanceMethod yX0_power, Cond.selects RX0 yX0_power yX0_power, Cond.code yX0_power cX0_power 4 (some .int), Cond.fieldLink RX0 13 "SmallSpaces$Frame" "q" "I"]
def wsX4_over : List Cond := .code yX4_over cX4_over 4 (some .int) :: ((wsX4_over_r1 ++ wsX4_over_r2) ++ wsX40 ++ wsX00 ++ wsX30)
def wsX4_meeting_r1 : List Cond := [Cond.fieldLink RX4 18 "SmallSpaces" "slots" "[LSmallSpaces$Space;", Cond.fieldLink RX4 10 "SmallSpaces" "frame" "LSmallSpaces$Frame;", Cond.methodLink RX4 86 yX4_isSlot, Cond.static yX4_isSlot, Cond.initialized RX4, Cond.code yX4_isSlot cX4_isSlot 1 (some .boolean), Cond.methodLink RX4 133 yX4_isDim, Cond.instanceMethod yX4_isDim, Cond.selects RX4 yX4_isDim yX4_isDim, Cond.code yX4_isDim cX4_isDim 2 (some .boolean), Cond.instanceMethod yX3_rank, Cond.initialized RX3, Cond.selects RX3 yX3_rank yX3_rank, Cond.code yX3_rank cX3_rank 1 (some .int), Cond.fieldLink RX3 22 "SmallSpaces$Space" "pivots" "I", Cond.methodLink RX3 32 yJ6_bitCount_0f7a4, Cond.static yJ6_bitCount_0f7a4, Cond.initialized RJ6, Cond.code yJ6_bitCount_0f7a4 cJ6_bitCount_0f7a4 1 (some .int), Cond.constant RJ6 265 (1431655765), Cond.constant RJ6 266 (858993459), Cond.constant RJ6 267 (252645135), Cond.instanceMethod yX0_spaces, Cond.initialized RX0]
def wsX4_meeting_r2 : List Cond := [Cond.selects RX0 yX0_spaces yX0_spaces, Cond.code yX0_spaces cX0_spaces 5 (some .int), Cond.methodLink RX0 20 yX0_power, Cond.instanceMethod yX0_power, Cond.selects RX0 yX0_power yX0_power, Cond.code yX0_power cX0_power 4 (some .int), Cond.fieldLink RX0 13 "SmallSpaces$Frame" "q" "I"]
def wsX4_meeting : List Cond := .code yX4_meeting cX4_meeting 6 (some .int) :: ((wsX4_meeting_r1 ++ wsX4_meeting_r2) ++ wsX40 ++ wsX00 ++ wsX30)
def wsX4_put : List Cond := .code yX4_put cX4_put 2 (some .int) :: ([.fieldLink RX4 28 "SmallSpaces" "heap" "LSmallSpaces$Heap;", .fieldLink RX4 18 "SmallSpaces" "slots" "[LSmallSpaces$Space;", .methodLink RX4 86 yX4_isSlot, .static yX4_isSlot, .initialized RX4, .code yX4_isSlot cX4_isSlot 1 (some .boolean), .instanceMethod yX1_accept, .initialized RX1, .selects RX1 yX1_accept yX1_accept, .code yX1_accept cX1_accept 2 none, .fieldLink RX1 24 "SmallSpaces$Heap" "size" "I", .fieldLink RX1 11 "SmallSpaces$Heap" "spaces" "[LSmallSpaces$Space;", .instanceMethod yX3_copyFrom, .initialized RX3, .selects RX3 yX3_copyFrom yX3_copyFrom, .code yX3_copyFrom cX3_copyFrom 2 none, .fieldLink RX3 22 "SmallSpaces$Space" "pivots" "I", .fieldLink RX3 9 "SmallSpaces$Space" "cells" "[I", .methodLink RX3 26 arraycopyName, .native arraycopyName, .static arraycopyName, .initialized "java/lang/System"] ++ wsX40 ++ wsX10 ++ wsX30)
def wsX4_empty : List Cond := .code yX4_empty cX4_empty 2 (some .int) :: ([.fieldLink RX4 28 "SmallSpaces" "heap" "LSmallSpaces$Heap;"] ++ wsX40 ++ wsX10)
def wsX4_take_r1 : List Cond := [Cond.fieldLink RX4 28 "SmallSpaces" "heap" "LSmallSpaces$Heap;", Cond.methodLink RX4 86 yX4_isSlot, Cond.static yX4_isSlot, Cond.initialized RX4, Cond.code yX4_isSlot cX4_isSlot 1 (some .boolean), Cond.methodLink RX4 111 yX4_settle, Cond.instanceMethod yX4_settle, Cond.selects RX4 yX4_settle yX4_settle, Cond.code yX4_settle cX4_settle 3 (some .int), Cond.fieldLink RX4 18 "SmallSpaces" "slots" "[LSmallSpaces$Space;", Cond.instanceMethod yX3_copyFrom, Cond.initialized RX3, Cond.selects RX3 yX3_copyFrom yX3_copyFrom, Cond.code yX3_copyFrom cX3_copyFrom 2 none, Cond.fieldLink RX3 22 "SmallSpaces$Space" "pivots" "I", Cond.fieldLink RX3 9 "SmallSpaces$Space" "cells" "[I", Cond.methodLink RX3 26 arraycopyName, Cond.native arraycopyName, Cond.static arraycopyName, Cond.initialized "java/lang/System", Cond.instanceMethod yX3_rank, Cond.selects RX3 yX3_rank yX3_rank, Cond.code yX3_rank cX3_rank 1 (some .int), Cond.methodLink RX3 32 yJ6_bitCount_0f7a4]
def wsX4_take_r2 : List Cond := [Cond.static yJ6_bitCount_0f7a4, Cond.initialized RJ6, Cond.code yJ6_bitCount_0f7a4 cJ6_bitCount_0f7a4 1 (some .int), Cond.constant RJ6 265 (1431655765), Cond.constant RJ6 266 (858993459), Cond.constant RJ6 267 (252645135)]
def wsX4_take : List Cond := .code yX4_take cX4_take 3 (some .int) :: ((wsX4_take_r1 ++ wsX4_take_r2) ++ wsX40 ++ wsX10 ++ wsX30)
def wsX4_least_r1 : List Cond := [Cond.fieldLink RX4 28 "SmallSpaces" "heap" "LSmallSpaces$Heap;", Cond.instanceMethod yX1_leastDistance, Cond.initialized RX1, Cond.selects RX1 yX1_leastDistance yX1_leastDistance, Cond.code yX1_leastDistance cX1_leastDistance 5 (some .int), Cond.fieldLink RX1 24 "SmallSpaces$Heap" "size" "I", Cond.fieldLink RX1 20 "SmallSpaces$Heap" "joined" "LSmallSpaces$Space;", Cond.fieldLink RX1 11 "SmallSpaces$Heap" "spaces" "[LSmallSpaces$Space;", Cond.instanceMethod yX3_distance, Cond.initialized RX3, Cond.selects RX3 yX3_distance yX3_distance, Cond.code yX3_distance cX3_distance 3 (some .int), Cond.methodLink RX3 92 yX3_copyFrom, Cond.instanceMethod yX3_copyFrom, Cond.selects RX3 yX3_copyFrom yX3_copyFrom, Cond.code yX3_copyFrom cX3_copyFrom 2 none, Cond.fieldLink RX3 22 "SmallSpaces$Space" "pivots" "I", Cond.fieldLink RX3 9 "SmallSpaces$Space" "cells" "[I", Cond.methodLink RX3 26 arraycopyName, Cond.native arraycopyName, Cond.static arraycopyName, Cond.initialized "java/lang/System", Cond.methodLink RX3 96 yX3_joinSpace, Cond.instanceMethod yX3_joinSpace]
def wsX4_least_r2 : List Cond := [Cond.selects RX3 yX3_joinSpace yX3_joinSpace, Cond.code yX3_joinSpace cX3_joinSpace 3 none, Cond.fieldLink RX3 18 "SmallSpaces$Space" "frame" "LSmallSpaces$Frame;", Cond.fieldLink RX3 15 "SmallSpaces$Space" "fresh" "[I", Cond.methodLink RX3 43 yX3_isPivot, Cond.instanceMethod yX3_isPivot, Cond.selects RX3 yX3_isPivot yX3_isPivot, Cond.code yX3_isPivot cX3_isPivot 2 (some .boolean), Cond.methodLink RX3 66 yX3_joinFresh, Cond.instanceMethod yX3_joinFresh, Cond.selects RX3 yX3_joinFresh yX3_joinFresh, Cond.code yX3_joinFresh cX3_joinFresh 4 none, Cond.methodLink RX3 69 yX3_reduceFresh, Cond.instanceMethod yX3_reduceFresh, Cond.selects RX3 yX3_reduceFresh yX3_reduceFresh, Cond.code yX3_reduceFresh cX3_reduceFresh 2 none, Cond.instanceMethod yX0_addMultiple, Cond.initialized RX0, Cond.selects RX0 yX0_addMultiple yX0_addMultiple, Cond.code yX0_addMultiple cX0_addMultiple 7 none, Cond.fieldLink RX0 17 "SmallSpaces$Frame" "n" "I", Cond.fieldLink RX0 13 "SmallSpaces$Frame" "q" "I", Cond.instanceMethod yX0_inverse, Cond.selects RX0 yX0_inverse yX0_inverse]
def wsX4_least_r3 : List Cond := [Cond.code yX0_inverse cX0_inverse 2 (some .int), Cond.methodLink RX3 75 yX3_takeRow, Cond.instanceMethod yX3_takeRow, Cond.selects RX3 yX3_takeRow yX3_takeRow, Cond.code yX3_takeRow cX3_takeRow 4 none, Cond.methodLink RX3 99 yX3_rank, Cond.instanceMethod yX3_rank, Cond.selects RX3 yX3_rank yX3_rank, Cond.code yX3_rank cX3_rank 1 (some .int), Cond.methodLink RX3 32 yJ6_bitCount_0f7a4, Cond.static yJ6_bitCount_0f7a4, Cond.initialized RJ6, Cond.code yJ6_bitCount_0f7a4 cJ6_bitCount_0f7a4 1 (some .int), Cond.constant RJ6 265 (1431655765), Cond.constant RJ6 266 (858993459), Cond.constant RJ6 267 (252645135)]
def wsX4_least : List Cond := .code yX4_least cX4_least 1 (some .int) :: ((wsX4_least_r1 ++ (wsX4_least_r2 ++ wsX4_least_r3)) ++ wsX40 ++ wsX10 ++ wsX30 ++ wsX00)
def wsX4_bare_r1 : List Cond := [Cond.fieldLink RX4 10 "SmallSpaces" "frame" "LSmallSpaces$Frame;", Cond.fieldLink RX4 46 "SmallSpaces" "figures" "[I", Cond.fieldLink RX4 28 "SmallSpaces" "heap" "LSmallSpaces$Heap;", Cond.instanceMethod yX0_spell, Cond.initialized RX0, Cond.selects RX0 yX0_spell yX0_spell, Cond.code yX0_spell cX0_spell 6 none, Cond.fieldLink RX0 17 "SmallSpaces$Frame" "n" "I", Cond.fieldLink RX0 13 "SmallSpaces$Frame" "q" "I", Cond.instanceMethod yX1_covers, Cond.initialized RX1, Cond.selects RX1 yX1_covers yX1_covers, Cond.code yX1_covers cX1_covers 3 (some .boolean), Cond.fieldLink RX1 24 "SmallSpaces$Heap" "size" "I", Cond.fieldLink RX1 11 "SmallSpaces$Heap" "spaces" "[LSmallSpaces$Space;", Cond.instanceMethod yX3_holds, Cond.initialized RX3, Cond.selects RX3 yX3_holds yX3_holds, Cond.code yX3_holds cX3_holds 4 (some .boolean), Cond.fieldLink RX3 18 "SmallSpaces$Space" "frame" "LSmallSpaces$Frame;", Cond.methodLink RX3 43 yX3_isPivot, Cond.instanceMethod yX3_isPivot, Cond.selects RX3 yX3_isPivot yX3_isPivot, Cond.code yX3_isPivot cX3_isPivot 2 (some .boolean)]
def wsX4_bare_r2 : List Cond := [Cond.fieldLink RX3 22 "SmallSpaces$Space" "pivots" "I", Cond.methodLink RX3 51 yX3_settledFigure, Cond.instanceMethod yX3_settledFigure, Cond.selects RX3 yX3_settledFigure yX3_settledFigure, Cond.code yX3_settledFigure cX3_settledFigure 6 (some .int), Cond.fieldLink RX3 9 "SmallSpaces$Space" "cells" "[I"]
def wsX4_bare : List Cond := .code yX4_bare cX4_bare 3 (some .int) :: ((wsX4_bare_r1 ++ wsX4_bare_r2) ++ wsX40 ++ wsX00 ++ wsX10 ++ wsX30)
def wsX4_greedy_r1 : List Cond := [Cond.fieldLink RX4 160 "SmallSpaces" "greedyDone" "I", Cond.fieldLink RX4 28 "SmallSpaces" "heap" "LSmallSpaces$Heap;", Cond.fieldLink RX4 10 "SmallSpaces" "frame" "LSmallSpaces$Frame;", Cond.fieldLink RX4 39 "SmallSpaces" "made" "LSmallSpaces$Space;", Cond.methodLink RX4 133 yX4_isDim, Cond.instanceMethod yX4_isDim, Cond.selects RX4 yX4_isDim yX4_isDim, Cond.initialized RX4, Cond.code yX4_isDim cX4_isDim 2 (some .boolean), Cond.instanceMethod yX0_spaces, Cond.initialized RX0, Cond.selects RX0 yX0_spaces yX0_spaces, Cond.code yX0_spaces cX0_spaces 5 (some .int), Cond.methodLink RX0 20 yX0_power, Cond.instanceMethod yX0_power, Cond.selects RX0 yX0_power yX0_power, Cond.code yX0_power cX0_power 4 (some .int), Cond.fieldLink RX0 13 "SmallSpaces$Frame" "q" "I", Cond.instanceMethod yX3_becomeOrdinal, Cond.initialized RX3, Cond.selects RX3 yX3_becomeOrdinal yX3_becomeOrdinal, Cond.code yX3_becomeOrdinal cX3_becomeOrdinal 6 none, Cond.fieldLink RX3 18 "SmallSpaces$Space" "frame" "LSmallSpaces$Frame;", Cond.fieldLink RX3 22 "SmallSpaces$Space" "pivots" "I"]
def wsX4_greedy_r2 : List Cond := [Cond.methodLink RX3 32 yJ6_bitCount_0f7a4, Cond.static yJ6_bitCount_0f7a4, Cond.initialized RJ6, Cond.code yJ6_bitCount_0f7a4 cJ6_bitCount_0f7a4 1 (some .int), Cond.constant RJ6 265 (1431655765), Cond.constant RJ6 266 (858993459), Cond.constant RJ6 267 (252645135), Cond.methodLink RX3 103 yX3_freeCells, Cond.instanceMethod yX3_freeCells, Cond.selects RX3 yX3_freeCells yX3_freeCells, Cond.code yX3_freeCells cX3_freeCells 5 (some .int), Cond.methodLink RX3 112 yX3_fillCells, Cond.instanceMethod yX3_fillCells, Cond.selects RX3 yX3_fillCells yX3_fillCells, Cond.code yX3_fillCells cX3_fillCells 5 none, Cond.fieldLink RX3 9 "SmallSpaces$Space" "cells" "[I", Cond.methodLink RX3 86 yJ7_fill_53178, Cond.static yJ7_fill_53178, Cond.initialized RJ7, Cond.code yJ7_fill_53178 cJ7_fill_53178 4 none, Cond.methodLink RX3 43 yX3_isPivot, Cond.instanceMethod yX3_isPivot, Cond.selects RX3 yX3_isPivot yX3_isPivot, Cond.code yX3_isPivot cX3_isPivot 2 (some .boolean)]
def wsX4_greedy_r3 : List Cond := [Cond.instanceMethod yX1_allApart, Cond.initialized RX1, Cond.selects RX1 yX1_allApart yX1_allApart, Cond.code yX1_allApart cX1_allApart 4 (some .boolean), Cond.fieldLink RX1 24 "SmallSpaces$Heap" "size" "I", Cond.fieldLink RX1 20 "SmallSpaces$Heap" "joined" "LSmallSpaces$Space;", Cond.fieldLink RX1 11 "SmallSpaces$Heap" "spaces" "[LSmallSpaces$Space;", Cond.instanceMethod yX3_distance, Cond.selects RX3 yX3_distance yX3_distance, Cond.code yX3_distance cX3_distance 3 (some .int), Cond.methodLink RX3 92 yX3_copyFrom, Cond.instanceMethod yX3_copyFrom, Cond.selects RX3 yX3_copyFrom yX3_copyFrom, Cond.code yX3_copyFrom cX3_copyFrom 2 none, Cond.methodLink RX3 26 arraycopyName, Cond.native arraycopyName, Cond.static arraycopyName, Cond.initialized "java/lang/System", Cond.methodLink RX3 96 yX3_joinSpace, Cond.instanceMethod yX3_joinSpace, Cond.selects RX3 yX3_joinSpace yX3_joinSpace, Cond.code yX3_joinSpace cX3_joinSpace 3 none, Cond.fieldLink RX3 15 "SmallSpaces$Space" "fresh" "[I", Cond.methodLink RX3 66 yX3_joinFresh]
def wsX4_greedy_r4 : List Cond := [Cond.instanceMethod yX3_joinFresh, Cond.selects RX3 yX3_joinFresh yX3_joinFresh, Cond.code yX3_joinFresh cX3_joinFresh 4 none, Cond.methodLink RX3 69 yX3_reduceFresh, Cond.instanceMethod yX3_reduceFresh, Cond.selects RX3 yX3_reduceFresh yX3_reduceFresh, Cond.code yX3_reduceFresh cX3_reduceFresh 2 none, Cond.instanceMethod yX0_addMultiple, Cond.selects RX0 yX0_addMultiple yX0_addMultiple, Cond.code yX0_addMultiple cX0_addMultiple 7 none, Cond.fieldLink RX0 17 "SmallSpaces$Frame" "n" "I", Cond.instanceMethod yX0_inverse, Cond.selects RX0 yX0_inverse yX0_inverse, Cond.code yX0_inverse cX0_inverse 2 (some .int), Cond.methodLink RX3 75 yX3_takeRow, Cond.instanceMethod yX3_takeRow, Cond.selects RX3 yX3_takeRow yX3_takeRow, Cond.code yX3_takeRow cX3_takeRow 4 none, Cond.methodLink RX3 99 yX3_rank, Cond.instanceMethod yX3_rank, Cond.selects RX3 yX3_rank yX3_rank, Cond.code yX3_rank cX3_rank 1 (some .int), Cond.instanceMethod yX1_accept, Cond.selects RX1 yX1_accept yX1_accept]
def wsX4_greedy_r5 : List Cond := [Cond.code yX1_accept cX1_accept 2 none]
def wsX4_greedy : List Cond := .code yX4_greedy cX4_greedy 5 (some .int) :: ((wsX4_greedy_r1 ++ (wsX4_greedy_r2 ++ (wsX4_greedy_r3 ++ (wsX4_greedy_r4 ++ wsX4_greedy_r5)))) ++ wsX40 ++ wsX10 ++ wsX00 ++ wsX30)
def wsX4_image : List Cond := .code yX4_image cX4_image 4 (some .int) :: ([.fieldLink RX4 10 "SmallSpaces" "frame" "LSmallSpaces$Frame;", .fieldLink RX4 35 "SmallSpaces" "linear" "LSmallSpaces$Linear;", .instanceMethod yX0_isVector, .initialized RX0, .selects RX0 yX0_isVector yX0_isVector, .code yX0_isVector cX0_isVector 2 (some .boolean), .fieldLink RX0 24 "SmallSpaces$Frame" "vectors" "I", .instanceMethod yX2_imageNumber, .initialized RX2, .selects RX2 yX2_imageNumber yX2_imageNumber, .code yX2_imageNumber cX2_imageNumber 2 (some .int), .fieldLink RX2 18 "SmallSpaces$Linear" "frame" "LSmallSpaces$Frame;", .fieldLink RX2 9 "SmallSpaces$Linear" "cells" "[I", .instanceMethod yX0_vectorNumber, .selects RX0 yX0_vectorNumber yX0_vectorNumber, .code yX0_vectorNumber cX0_vectorNumber 5 (some .int), .fieldLink RX0 17 "SmallSpaces$Frame" "n" "I", .fieldLink RX0 13 "SmallSpaces$Frame" "q" "I", .instanceMethod yX2_setImage, .selects RX2 yX2_setImage yX2_setImage, .code yX2_setImage cX2_setImage 3 none, .instanceMethod yX0_spell, .selects RX0 yX0_spell yX0_spell, .code yX0_spell cX0_spell 6 none] ++ wsX40 ++ wsX00 ++ wsX20)
def wsX4_mapped_r1 : List Cond := [Cond.fieldLink RX4 10 "SmallSpaces" "frame" "LSmallSpaces$Frame;", Cond.fieldLink RX4 46 "SmallSpaces" "figures" "[I", Cond.fieldLink RX4 35 "SmallSpaces" "linear" "LSmallSpaces$Linear;", Cond.instanceMethod yX0_isVector, Cond.initialized RX0, Cond.selects RX0 yX0_isVector yX0_isVector, Cond.code yX0_isVector cX0_isVector 2 (some .boolean), Cond.fieldLink RX0 24 "SmallSpaces$Frame" "vectors" "I", Cond.instanceMethod yX0_spell, Cond.selects RX0 yX0_spell yX0_spell, Cond.code yX0_spell cX0_spell 6 none, Cond.fieldLink RX0 17 "SmallSpaces$Frame" "n" "I", Cond.fieldLink RX0 13 "SmallSpaces$Frame" "q" "I", Cond.instanceMethod yX2_apply, Cond.initialized RX2, Cond.selects RX2 yX2_apply yX2_apply, Cond.code yX2_apply cX2_apply 2 (some .int), Cond.fieldLink RX2 18 "SmallSpaces$Linear" "frame" "LSmallSpaces$Frame;", Cond.fieldLink RX2 15 "SmallSpaces$Linear" "result" "[I", Cond.methodLink RX2 45 yX2_applyInto, Cond.instanceMethod yX2_applyInto, Cond.selects RX2 yX2_applyInto yX2_applyInto, Cond.code yX2_applyInto cX2_applyInto 4 none, Cond.fieldLink RX2 9 "SmallSpaces$Linear" "cells" "[I"]
def wsX4_mapped_r2 : List Cond := [Cond.methodLink RX2 25 yJ7_fill_53178, Cond.static yJ7_fill_53178, Cond.initialized RJ7, Cond.code yJ7_fill_53178 cJ7_fill_53178 4 none, Cond.instanceMethod yX0_addMultiple, Cond.selects RX0 yX0_addMultiple yX0_addMultiple, Cond.code yX0_addMultiple cX0_addMultiple 7 none, Cond.instanceMethod yX0_vectorNumber, Cond.selects RX0 yX0_vectorNumber yX0_vectorNumber, Cond.code yX0_vectorNumber cX0_vectorNumber 5 (some .int)]
def wsX4_mapped : List Cond := .code yX4_mapped cX4_mapped 2 (some .int) :: ((wsX4_mapped_r1 ++ wsX4_mapped_r2) ++ wsX40 ++ wsX00 ++ wsX20)
def wsX4_map_r1 : List Cond := [Cond.fieldLink RX4 35 "SmallSpaces" "linear" "LSmallSpaces$Linear;", Cond.fieldLink RX4 18 "SmallSpaces" "slots" "[LSmallSpaces$Space;", Cond.fieldLink RX4 39 "SmallSpaces" "made" "LSmallSpaces$Space;", Cond.methodLink RX4 86 yX4_isSlot, Cond.static yX4_isSlot, Cond.initialized RX4, Cond.code yX4_isSlot cX4_isSlot 1 (some .boolean), Cond.instanceMethod yX2_applyToSpace, Cond.initialized RX2, Cond.selects RX2 yX2_applyToSpace yX2_applyToSpace, Cond.code yX2_applyToSpace cX2_applyToSpace 4 none, Cond.fieldLink RX2 18 "SmallSpaces$Linear" "frame" "LSmallSpaces$Frame;", Cond.fieldLink RX2 15 "SmallSpaces$Linear" "result" "[I", Cond.instanceMethod yX3_becomeZero, Cond.initialized RX3, Cond.selects RX3 yX3_becomeZero yX3_becomeZero, Cond.code yX3_becomeZero cX3_becomeZero 1 none, Cond.fieldLink RX3 22 "SmallSpaces$Space" "pivots" "I", Cond.instanceMethod yX3_isPivot, Cond.selects RX3 yX3_isPivot yX3_isPivot, Cond.code yX3_isPivot cX3_isPivot 2 (some .boolean), Cond.fieldLink RX3 18 "SmallSpaces$Space" "frame" "LSmallSpaces$Frame;", Cond.methodLink RX2 45 yX2_applyInto, Cond.instanceMethod yX2_applyInto]
def wsX4_map_r2 : List Cond := [Cond.selects RX2 yX2_applyInto yX2_applyInto, Cond.code yX2_applyInto cX2_applyInto 4 none, Cond.fieldLink RX2 9 "SmallSpaces$Linear" "cells" "[I", Cond.methodLink RX2 25 yJ7_fill_53178, Cond.static yJ7_fill_53178, Cond.initialized RJ7, Cond.code yJ7_fill_53178 cJ7_fill_53178 4 none, Cond.instanceMethod yX0_addMultiple, Cond.initialized RX0, Cond.selects RX0 yX0_addMultiple yX0_addMultiple, Cond.code yX0_addMultiple cX0_addMultiple 7 none, Cond.fieldLink RX0 17 "SmallSpaces$Frame" "n" "I", Cond.fieldLink RX0 13 "SmallSpaces$Frame" "q" "I", Cond.instanceMethod yX3_joinVector, Cond.selects RX3 yX3_joinVector yX3_joinVector, Cond.code yX3_joinVector cX3_joinVector 3 none, Cond.fieldLink RX3 15 "SmallSpaces$Space" "fresh" "[I", Cond.methodLink RX3 26 arraycopyName, Cond.native arraycopyName, Cond.static arraycopyName, Cond.initialized "java/lang/System", Cond.methodLink RX3 66 yX3_joinFresh, Cond.instanceMethod yX3_joinFresh, Cond.selects RX3 yX3_joinFresh yX3_joinFresh]
def wsX4_map_r3 : List Cond := [Cond.code yX3_joinFresh cX3_joinFresh 4 none, Cond.fieldLink RX3 9 "SmallSpaces$Space" "cells" "[I", Cond.methodLink RX3 69 yX3_reduceFresh, Cond.instanceMethod yX3_reduceFresh, Cond.selects RX3 yX3_reduceFresh yX3_reduceFresh, Cond.code yX3_reduceFresh cX3_reduceFresh 2 none, Cond.methodLink RX3 43 yX3_isPivot, Cond.instanceMethod yX0_inverse, Cond.selects RX0 yX0_inverse yX0_inverse, Cond.code yX0_inverse cX0_inverse 2 (some .int), Cond.methodLink RX3 75 yX3_takeRow, Cond.instanceMethod yX3_takeRow, Cond.selects RX3 yX3_takeRow yX3_takeRow, Cond.code yX3_takeRow cX3_takeRow 4 none, Cond.methodLink RX4 111 yX4_settle, Cond.instanceMethod yX4_settle, Cond.selects RX4 yX4_settle yX4_settle, Cond.code yX4_settle cX4_settle 3 (some .int), Cond.instanceMethod yX3_copyFrom, Cond.selects RX3 yX3_copyFrom yX3_copyFrom, Cond.code yX3_copyFrom cX3_copyFrom 2 none, Cond.instanceMethod yX3_rank, Cond.selects RX3 yX3_rank yX3_rank, Cond.code yX3_rank cX3_rank 1 (some .int)]
def wsX4_map_r4 : List Cond := [Cond.methodLink RX3 32 yJ6_bitCount_0f7a4, Cond.static yJ6_bitCount_0f7a4, Cond.initialized RJ6, Cond.code yJ6_bitCount_0f7a4 cJ6_bitCount_0f7a4 1 (some .int), Cond.constant RJ6 265 (1431655765), Cond.constant RJ6 266 (858993459), Cond.constant RJ6 267 (252645135)]
def wsX4_map : List Cond := .code yX4_map cX4_map 3 (some .int) :: ((wsX4_map_r1 ++ (wsX4_map_r2 ++ (wsX4_map_r3 ++ wsX4_map_r4))) ++ wsX40 ++ wsX20 ++ wsX00 ++ wsX30)
def wsX4_kernel_r1 : List Cond := [Cond.fieldLink RX4 35 "SmallSpaces" "linear" "LSmallSpaces$Linear;", Cond.fieldLink RX4 43 "SmallSpaces" "other" "LSmallSpaces$Space;", Cond.fieldLink RX4 39 "SmallSpaces" "made" "LSmallSpaces$Space;", Cond.methodLink RX4 86 yX4_isSlot, Cond.static yX4_isSlot, Cond.initialized RX4, Cond.code yX4_isSlot cX4_isSlot 1 (some .boolean), Cond.instanceMethod yX2_columnSpace, Cond.initialized RX2, Cond.selects RX2 yX2_columnSpace yX2_columnSpace, Cond.code yX2_columnSpace cX2_columnSpace 4 none, Cond.fieldLink RX2 18 "SmallSpaces$Linear" "frame" "LSmallSpaces$Frame;", Cond.fieldLink RX2 15 "SmallSpaces$Linear" "result" "[I", Cond.fieldLink RX2 9 "SmallSpaces$Linear" "cells" "[I", Cond.instanceMethod yX3_becomeZero, Cond.initialized RX3, Cond.selects RX3 yX3_becomeZero yX3_becomeZero, Cond.code yX3_becomeZero cX3_becomeZero 1 none, Cond.fieldLink RX3 22 "SmallSpaces$Space" "pivots" "I", Cond.instanceMethod yX3_joinVector, Cond.selects RX3 yX3_joinVector yX3_joinVector, Cond.code yX3_joinVector cX3_joinVector 3 none, Cond.fieldLink RX3 15 "SmallSpaces$Space" "fresh" "[I", Cond.fieldLink RX3 18 "SmallSpaces$Space" "frame" "LSmallSpaces$Frame;"]
def wsX4_kernel_r2 : List Cond := [Cond.methodLink RX3 26 arraycopyName, Cond.native arraycopyName, Cond.static arraycopyName, Cond.initialized "java/lang/System", Cond.methodLink RX3 66 yX3_joinFresh, Cond.instanceMethod yX3_joinFresh, Cond.selects RX3 yX3_joinFresh yX3_joinFresh, Cond.code yX3_joinFresh cX3_joinFresh 4 none, Cond.fieldLink RX3 9 "SmallSpaces$Space" "cells" "[I", Cond.methodLink RX3 69 yX3_reduceFresh, Cond.instanceMethod yX3_reduceFresh, Cond.selects RX3 yX3_reduceFresh yX3_reduceFresh, Cond.code yX3_reduceFresh cX3_reduceFresh 2 none, Cond.methodLink RX3 43 yX3_isPivot, Cond.instanceMethod yX3_isPivot, Cond.selects RX3 yX3_isPivot yX3_isPivot, Cond.code yX3_isPivot cX3_isPivot 2 (some .boolean), Cond.instanceMethod yX0_addMultiple, Cond.initialized RX0, Cond.selects RX0 yX0_addMultiple yX0_addMultiple, Cond.code yX0_addMultiple cX0_addMultiple 7 none, Cond.fieldLink RX0 17 "SmallSpaces$Frame" "n" "I", Cond.fieldLink RX0 13 "SmallSpaces$Frame" "q" "I", Cond.instanceMethod yX0_inverse]
def wsX4_kernel_r3 : List Cond := [Cond.selects RX0 yX0_inverse yX0_inverse, Cond.code yX0_inverse cX0_inverse 2 (some .int), Cond.methodLink RX3 75 yX3_takeRow, Cond.instanceMethod yX3_takeRow, Cond.selects RX3 yX3_takeRow yX3_takeRow, Cond.code yX3_takeRow cX3_takeRow 4 none, Cond.instanceMethod yX3_becomeDual, Cond.selects RX3 yX3_becomeDual yX3_becomeDual, Cond.code yX3_becomeDual cX3_becomeDual 4 none, Cond.methodLink RX3 83 yX3_becomeZero, Cond.methodLink RX3 86 yJ7_fill_53178, Cond.static yJ7_fill_53178, Cond.initialized RJ7, Cond.code yJ7_fill_53178 cJ7_fill_53178 4 none, Cond.methodLink RX4 111 yX4_settle, Cond.instanceMethod yX4_settle, Cond.selects RX4 yX4_settle yX4_settle, Cond.code yX4_settle cX4_settle 3 (some .int), Cond.fieldLink RX4 18 "SmallSpaces" "slots" "[LSmallSpaces$Space;", Cond.instanceMethod yX3_copyFrom, Cond.selects RX3 yX3_copyFrom yX3_copyFrom, Cond.code yX3_copyFrom cX3_copyFrom 2 none, Cond.instanceMethod yX3_rank, Cond.selects RX3 yX3_rank yX3_rank]
def wsX4_kernel_r4 : List Cond := [Cond.code yX3_rank cX3_rank 1 (some .int), Cond.methodLink RX3 32 yJ6_bitCount_0f7a4, Cond.static yJ6_bitCount_0f7a4, Cond.initialized RJ6, Cond.code yJ6_bitCount_0f7a4 cJ6_bitCount_0f7a4 1 (some .int), Cond.constant RJ6 265 (1431655765), Cond.constant RJ6 266 (858993459), Cond.constant RJ6 267 (252645135)]
def wsX4_kernel : List Cond := .code yX4_kernel cX4_kernel 2 (some .int) :: ((wsX4_kernel_r1 ++ (wsX4_kernel_r2 ++ (wsX4_kernel_r3 ++ wsX4_kernel_r4))) ++ wsX40 ++ wsX20 ++ wsX00 ++ wsX30)
def wsX4_timesTillAgain_r1 : List Cond := [Cond.fieldLink RX4 10 "SmallSpaces" "frame" "LSmallSpaces$Frame;", Cond.methodLink RX4 201 Lib.Math.min.name, Cond.static Lib.Math.min.name, Cond.initialized "java/lang/Math", Cond.code Lib.Math.min.name Lib.Math.min.code 2 (some .int), Cond.fieldLink RX4 43 "SmallSpaces" "other" "LSmallSpaces$Space;", Cond.fieldLink RX4 35 "SmallSpaces" "linear" "LSmallSpaces$Linear;", Cond.fieldLink RX4 39 "SmallSpaces" "made" "LSmallSpaces$Space;", Cond.instanceMethod yX3_copyFrom, Cond.initialized RX3, Cond.selects RX3 yX3_copyFrom yX3_copyFrom, Cond.code yX3_copyFrom cX3_copyFrom 2 none, Cond.fieldLink RX3 22 "SmallSpaces$Space" "pivots" "I", Cond.fieldLink RX3 9 "SmallSpaces$Space" "cells" "[I", Cond.methodLink RX3 26 arraycopyName, Cond.native arraycopyName, Cond.static arraycopyName, Cond.initialized "java/lang/System", Cond.instanceMethod yX2_applyToSpace, Cond.initialized RX2, Cond.selects RX2 yX2_applyToSpace yX2_applyToSpace, Cond.code yX2_applyToSpace cX2_applyToSpace 4 none, Cond.fieldLink RX2 18 "SmallSpaces$Linear" "frame" "LSmallSpaces$Frame;", Cond.fieldLink RX2 15 "SmallSpaces$Linear" "result" "[I"]
def wsX4_timesTillAgain_r2 : List Cond := [Cond.instanceMethod yX3_becomeZero, Cond.selects RX3 yX3_becomeZero yX3_becomeZero, Cond.code yX3_becomeZero cX3_becomeZero 1 none, Cond.instanceMethod yX3_isPivot, Cond.selects RX3 yX3_isPivot yX3_isPivot, Cond.code yX3_isPivot cX3_isPivot 2 (some .boolean), Cond.fieldLink RX3 18 "SmallSpaces$Space" "frame" "LSmallSpaces$Frame;", Cond.methodLink RX2 45 yX2_applyInto, Cond.instanceMethod yX2_applyInto, Cond.selects RX2 yX2_applyInto yX2_applyInto, Cond.code yX2_applyInto cX2_applyInto 4 none, Cond.fieldLink RX2 9 "SmallSpaces$Linear" "cells" "[I", Cond.methodLink RX2 25 yJ7_fill_53178, Cond.static yJ7_fill_53178, Cond.initialized RJ7, Cond.code yJ7_fill_53178 cJ7_fill_53178 4 none, Cond.instanceMethod yX0_addMultiple, Cond.initialized RX0, Cond.selects RX0 yX0_addMultiple yX0_addMultiple, Cond.code yX0_addMultiple cX0_addMultiple 7 none, Cond.fieldLink RX0 17 "SmallSpaces$Frame" "n" "I", Cond.fieldLink RX0 13 "SmallSpaces$Frame" "q" "I", Cond.instanceMethod yX3_joinVector, Cond.selects RX3 yX3_joinVector yX3_joinVector]
def wsX4_timesTillAgain_r3 : List Cond := [Cond.code yX3_joinVector cX3_joinVector 3 none, Cond.fieldLink RX3 15 "SmallSpaces$Space" "fresh" "[I", Cond.methodLink RX3 66 yX3_joinFresh, Cond.instanceMethod yX3_joinFresh, Cond.selects RX3 yX3_joinFresh yX3_joinFresh, Cond.code yX3_joinFresh cX3_joinFresh 4 none, Cond.methodLink RX3 69 yX3_reduceFresh, Cond.instanceMethod yX3_reduceFresh, Cond.selects RX3 yX3_reduceFresh yX3_reduceFresh, Cond.code yX3_reduceFresh cX3_reduceFresh 2 none, Cond.methodLink RX3 43 yX3_isPivot, Cond.instanceMethod yX0_inverse, Cond.selects RX0 yX0_inverse yX0_inverse, Cond.code yX0_inverse cX0_inverse 2 (some .int), Cond.methodLink RX3 75 yX3_takeRow, Cond.instanceMethod yX3_takeRow, Cond.selects RX3 yX3_takeRow yX3_takeRow, Cond.code yX3_takeRow cX3_takeRow 4 none, Cond.instanceMethod yX3_rank, Cond.selects RX3 yX3_rank yX3_rank, Cond.code yX3_rank cX3_rank 1 (some .int), Cond.methodLink RX3 32 yJ6_bitCount_0f7a4, Cond.static yJ6_bitCount_0f7a4, Cond.initialized RJ6]
def wsX4_timesTillAgain_r4 : List Cond := [Cond.code yJ6_bitCount_0f7a4 cJ6_bitCount_0f7a4 1 (some .int), Cond.constant RJ6 265 (1431655765), Cond.constant RJ6 266 (858993459), Cond.constant RJ6 267 (252645135), Cond.instanceMethod yX3_sameAs, Cond.selects RX3 yX3_sameAs yX3_sameAs, Cond.code yX3_sameAs cX3_sameAs 2 (some .boolean), Cond.methodLink RX3 62 yX3_liesIn, Cond.instanceMethod yX3_liesIn, Cond.selects RX3 yX3_liesIn yX3_liesIn, Cond.code yX3_liesIn cX3_liesIn 3 (some .boolean), Cond.methodLink RX3 58 yX3_holds, Cond.instanceMethod yX3_holds, Cond.selects RX3 yX3_holds yX3_holds, Cond.code yX3_holds cX3_holds 4 (some .boolean), Cond.methodLink RX3 51 yX3_settledFigure, Cond.instanceMethod yX3_settledFigure, Cond.selects RX3 yX3_settledFigure yX3_settledFigure, Cond.code yX3_settledFigure cX3_settledFigure 6 (some .int)]
def wsX4_timesTillAgain : List Cond := .code yX4_timesTillAgain cX4_timesTillAgain 4 (some .int) :: ((wsX4_timesTillAgain_r1 ++ (wsX4_timesTillAgain_r2 ++ (wsX4_timesTillAgain_r3 ++ wsX4_timesTillAgain_r4))) ++ wsX40 ++ wsX00 ++ wsX30 ++ wsX20)
def wsX4_round_r1 : List Cond := [Cond.fieldLink RX4 184 "SmallSpaces" "roundsDone" "I", Cond.fieldLink RX4 18 "SmallSpaces" "slots" "[LSmallSpaces$Space;", Cond.methodLink RX4 86 yX4_isSlot, Cond.static yX4_isSlot, Cond.initialized RX4, Cond.code yX4_isSlot cX4_isSlot 1 (some .boolean), Cond.methodLink RX4 187 yX4_timesTillAgain, Cond.instanceMethod yX4_timesTillAgain, Cond.selects RX4 yX4_timesTillAgain yX4_timesTillAgain, Cond.code yX4_timesTillAgain cX4_timesTillAgain 4 (some .int), Cond.fieldLink RX4 10 "SmallSpaces" "frame" "LSmallSpaces$Frame;", Cond.methodLink RX4 201 Lib.Math.min.name, Cond.static Lib.Math.min.name, Cond.initialized "java/lang/Math", Cond.code Lib.Math.min.name Lib.Math.min.code 2 (some .int), Cond.fieldLink RX4 43 "SmallSpaces" "other" "LSmallSpaces$Space;", Cond.fieldLink RX4 35 "SmallSpaces" "linear" "LSmallSpaces$Linear;", Cond.fieldLink RX4 39 "SmallSpaces" "made" "LSmallSpaces$Space;", Cond.instanceMethod yX3_copyFrom, Cond.initialized RX3, Cond.selects RX3 yX3_copyFrom yX3_copyFrom, Cond.code yX3_copyFrom cX3_copyFrom 2 none, Cond.fieldLink RX3 22 "SmallSpaces$Space" "pivots" "I", Cond.fieldLink RX3 9 "SmallSpaces$Space" "cells" "[I"]
def wsX4_round_r2 : List Cond := [Cond.methodLink RX3 26 arraycopyName, Cond.native arraycopyName, Cond.static arraycopyName, Cond.initialized "java/lang/System", Cond.instanceMethod yX2_applyToSpace, Cond.initialized RX2, Cond.selects RX2 yX2_applyToSpace yX2_applyToSpace, Cond.code yX2_applyToSpace cX2_applyToSpace 4 none, Cond.fieldLink RX2 18 "SmallSpaces$Linear" "frame" "LSmallSpaces$Frame;", Cond.fieldLink RX2 15 "SmallSpaces$Linear" "result" "[I", Cond.instanceMethod yX3_becomeZero, Cond.selects RX3 yX3_becomeZero yX3_becomeZero, Cond.code yX3_becomeZero cX3_becomeZero 1 none, Cond.instanceMethod yX3_isPivot, Cond.selects RX3 yX3_isPivot yX3_isPivot, Cond.code yX3_isPivot cX3_isPivot 2 (some .boolean), Cond.fieldLink RX3 18 "SmallSpaces$Space" "frame" "LSmallSpaces$Frame;", Cond.methodLink RX2 45 yX2_applyInto, Cond.instanceMethod yX2_applyInto, Cond.selects RX2 yX2_applyInto yX2_applyInto, Cond.code yX2_applyInto cX2_applyInto 4 none, Cond.fieldLink RX2 9 "SmallSpaces$Linear" "cells" "[I", Cond.methodLink RX2 25 yJ7_fill_53178, Cond.static yJ7_fill_53178]
def wsX4_round_r3 : List Cond := [Cond.initialized RJ7, Cond.code yJ7_fill_53178 cJ7_fill_53178 4 none, Cond.instanceMethod yX0_addMultiple, Cond.initialized RX0, Cond.selects RX0 yX0_addMultiple yX0_addMultiple, Cond.code yX0_addMultiple cX0_addMultiple 7 none, Cond.fieldLink RX0 17 "SmallSpaces$Frame" "n" "I", Cond.fieldLink RX0 13 "SmallSpaces$Frame" "q" "I", Cond.instanceMethod yX3_joinVector, Cond.selects RX3 yX3_joinVector yX3_joinVector, Cond.code yX3_joinVector cX3_joinVector 3 none, Cond.fieldLink RX3 15 "SmallSpaces$Space" "fresh" "[I", Cond.methodLink RX3 66 yX3_joinFresh, Cond.instanceMethod yX3_joinFresh, Cond.selects RX3 yX3_joinFresh yX3_joinFresh, Cond.code yX3_joinFresh cX3_joinFresh 4 none, Cond.methodLink RX3 69 yX3_reduceFresh, Cond.instanceMethod yX3_reduceFresh, Cond.selects RX3 yX3_reduceFresh yX3_reduceFresh, Cond.code yX3_reduceFresh cX3_reduceFresh 2 none, Cond.methodLink RX3 43 yX3_isPivot, Cond.instanceMethod yX0_inverse, Cond.selects RX0 yX0_inverse yX0_inverse, Cond.code yX0_inverse cX0_inverse 2 (some .int)]
def wsX4_round_r4 : List Cond := [Cond.methodLink RX3 75 yX3_takeRow, Cond.instanceMethod yX3_takeRow, Cond.selects RX3 yX3_takeRow yX3_takeRow, Cond.code yX3_takeRow cX3_takeRow 4 none, Cond.instanceMethod yX3_rank, Cond.selects RX3 yX3_rank yX3_rank, Cond.code yX3_rank cX3_rank 1 (some .int), Cond.methodLink RX3 32 yJ6_bitCount_0f7a4, Cond.static yJ6_bitCount_0f7a4, Cond.initialized RJ6, Cond.code yJ6_bitCount_0f7a4 cJ6_bitCount_0f7a4 1 (some .int), Cond.constant RJ6 265 (1431655765), Cond.constant RJ6 266 (858993459), Cond.constant RJ6 267 (252645135), Cond.instanceMethod yX3_sameAs, Cond.selects RX3 yX3_sameAs yX3_sameAs, Cond.code yX3_sameAs cX3_sameAs 2 (some .boolean), Cond.methodLink RX3 62 yX3_liesIn, Cond.instanceMethod yX3_liesIn, Cond.selects RX3 yX3_liesIn yX3_liesIn, Cond.code yX3_liesIn cX3_liesIn 3 (some .boolean), Cond.methodLink RX3 58 yX3_holds, Cond.instanceMethod yX3_holds, Cond.selects RX3 yX3_holds yX3_holds]
def wsX4_round_r5 : List Cond := [Cond.code yX3_holds cX3_holds 4 (some .boolean), Cond.methodLink RX3 51 yX3_settledFigure, Cond.instanceMethod yX3_settledFigure, Cond.selects RX3 yX3_settledFigure yX3_settledFigure, Cond.code yX3_settledFigure cX3_settledFigure 6 (some .int)]
def wsX4_round : List Cond := .code yX4_round cX4_round 2 (some .int) :: ((wsX4_round_r1 ++ (wsX4_round_r2 ++ (wsX4_round_r3 ++ (wsX4_round_r4 ++ wsX4_round_r5)))) ++ wsX40 ++ wsX00 ++ wsX30 ++ wsX20)
def wsX4_told : List Cond := .code yX4_told cX4_told 2 (some .int) :: ([.fieldLink RX4 10 "SmallSpaces" "frame" "LSmallSpaces$Frame;", .fieldLink RX4 28 "SmallSpaces" "heap" "LSmallSpaces$Heap;", .fieldLink RX4 160 "SmallSpaces" "greedyDone" "I", .fieldLink RX4 184 "SmallSpaces" "roundsDone" "I"] ++ wsX40 ++ wsX00 ++ wsX10)
def wsX4_fold : List Cond := .code yX4_fold cX4_fold 3 (some .long) :: ([.constantLong RX4 209 (31)])
def wsX4_foldSpace_r1 : List Cond := [Cond.instanceMethod yX3_rank, Cond.initialized RX3, Cond.selects RX3 yX3_rank yX3_rank, Cond.code yX3_rank cX3_rank 1 (some .int), Cond.fieldLink RX3 22 "SmallSpaces$Space" "pivots" "I", Cond.methodLink RX3 32 yJ6_bitCount_0f7a4, Cond.static yJ6_bitCount_0f7a4, Cond.initialized RJ6, Cond.code yJ6_bitCount_0f7a4 cJ6_bitCount_0f7a4 1 (some .int), Cond.constant RJ6 265 (1431655765), Cond.constant RJ6 266 (858993459), Cond.constant RJ6 267 (252645135), Cond.methodLink RX4 193 yX4_fold, Cond.static yX4_fold, Cond.initialized RX4, Cond.code yX4_fold cX4_fold 3 (some .long), Cond.constantLong RX4 209 (31), Cond.instanceMethod yX3_rowNumber, Cond.selects RX3 yX3_rowNumber yX3_rowNumber, Cond.code yX3_rowNumber cX3_rowNumber 4 (some .int), Cond.fieldLink RX3 18 "SmallSpaces$Space" "frame" "LSmallSpaces$Frame;", Cond.fieldLink RX3 9 "SmallSpaces$Space" "cells" "[I", Cond.methodLink RX3 43 yX3_isPivot, Cond.instanceMethod yX3_isPivot]
def wsX4_foldSpace_r2 : List Cond := [Cond.selects RX3 yX3_isPivot yX3_isPivot, Cond.code yX3_isPivot cX3_isPivot 2 (some .boolean), Cond.instanceMethod yX0_vectorNumber, Cond.initialized RX0, Cond.selects RX0 yX0_vectorNumber yX0_vectorNumber, Cond.code yX0_vectorNumber cX0_vectorNumber 5 (some .int), Cond.fieldLink RX0 17 "SmallSpaces$Frame" "n" "I", Cond.fieldLink RX0 13 "SmallSpaces$Frame" "q" "I"]
def wsX4_foldSpace : List Cond := .code yX4_foldSpace cX4_foldSpace 7 (some .long) :: ((wsX4_foldSpace_r1 ++ wsX4_foldSpace_r2) ++ wsX30 ++ wsX00)
def wsX4_digest_r1 : List Cond := [Cond.constantLong RX4 191 (167), Cond.fieldLink RX4 10 "SmallSpaces" "frame" "LSmallSpaces$Frame;", Cond.fieldLink RX4 18 "SmallSpaces" "slots" "[LSmallSpaces$Space;", Cond.fieldLink RX4 28 "SmallSpaces" "heap" "LSmallSpaces$Heap;", Cond.fieldLink RX4 35 "SmallSpaces" "linear" "LSmallSpaces$Linear;", Cond.fieldLink RX4 160 "SmallSpaces" "greedyDone" "I", Cond.fieldLink RX4 184 "SmallSpaces" "roundsDone" "I", Cond.methodLink RX4 193 yX4_fold, Cond.static yX4_fold, Cond.initialized RX4, Cond.code yX4_fold cX4_fold 3 (some .long), Cond.constantLong RX4 209 (31), Cond.methodLink RX4 197 yX4_foldSpace, Cond.static yX4_foldSpace, Cond.code yX4_foldSpace cX4_foldSpace 7 (some .long), Cond.instanceMethod yX3_rank, Cond.initialized RX3, Cond.selects RX3 yX3_rank yX3_rank, Cond.code yX3_rank cX3_rank 1 (some .int), Cond.fieldLink RX3 22 "SmallSpaces$Space" "pivots" "I", Cond.methodLink RX3 32 yJ6_bitCount_0f7a4, Cond.static yJ6_bitCount_0f7a4, Cond.initialized RJ6, Cond.code yJ6_bitCount_0f7a4 cJ6_bitCount_0f7a4 1 (some .int)]
def wsX4_digest_r2 : List Cond := [Cond.constant RJ6 265 (1431655765), Cond.constant RJ6 266 (858993459), Cond.constant RJ6 267 (252645135), Cond.instanceMethod yX3_rowNumber, Cond.selects RX3 yX3_rowNumber yX3_rowNumber, Cond.code yX3_rowNumber cX3_rowNumber 4 (some .int), Cond.fieldLink RX3 18 "SmallSpaces$Space" "frame" "LSmallSpaces$Frame;", Cond.fieldLink RX3 9 "SmallSpaces$Space" "cells" "[I", Cond.methodLink RX3 43 yX3_isPivot, Cond.instanceMethod yX3_isPivot, Cond.selects RX3 yX3_isPivot yX3_isPivot, Cond.code yX3_isPivot cX3_isPivot 2 (some .boolean), Cond.instanceMethod yX0_vectorNumber, Cond.initialized RX0, Cond.selects RX0 yX0_vectorNumber yX0_vectorNumber, Cond.code yX0_vectorNumber cX0_vectorNumber 5 (some .int), Cond.fieldLink RX0 17 "SmallSpaces$Frame" "n" "I", Cond.fieldLink RX0 13 "SmallSpaces$Frame" "q" "I", Cond.instanceMethod yX2_imageNumber, Cond.initialized RX2, Cond.selects RX2 yX2_imageNumber yX2_imageNumber, Cond.code yX2_imageNumber cX2_imageNumber 2 (some .int), Cond.fieldLink RX2 18 "SmallSpaces$Linear" "frame" "LSmallSpaces$Frame;", Cond.fieldLink RX2 9 "SmallSpaces$Linear" "cells" "[I"]
def wsX4_digest : List Cond := .code yX4_digest cX4_digest 4 (some .long) :: ((wsX4_digest_r1 ++ wsX4_digest_r2) ++ wsX40 ++ wsX00 ++ wsX10 ++ wsX30 ++ wsX20)
def wsX5_power : List Cond := .code yX5_power cX5_power 4 (some .int) :: ([])
def wsX5_begin : List Cond := .code yX5_begin cX5_begin 2 none :: ([.fieldLink RX5 38 "SmallSpacesModel" "q" "I", .fieldLink RX5 42 "SmallSpacesModel" "n" "I", .fieldLink RX5 52 "SmallSpacesModel" "vectors" "I", .fieldLink RX5 20 "SmallSpacesModel" "dims" "[I", .fieldLink RX5 55 "SmallSpacesModel" "heapMany" "I", .fieldLink RX5 7 "SmallSpacesModel" "images" "[I", .methodLink RX5 48 yX5_power, .static yX5_power, .initialized RX5, .code yX5_power cX5_power 4 (some .int)] ++ wsX50)
def wsX5_init_r1 : List Cond := [Cond.methodLink RX5 1 objectInit, Cond.instanceMethod objectInit, Cond.code objectInit ⟨#[0xb1]⟩ 1 none, Cond.arrayClass .int, Cond.fieldLink RX5 7 "SmallSpacesModel" "images" "[I", Cond.fieldLink RX5 13 "SmallSpacesModel" "work" "[I", Cond.arrayClass .boolean, Cond.fieldLink RX5 16 "SmallSpacesModel" "isPivot" "[Z", Cond.fieldLink RX5 20 "SmallSpacesModel" "dims" "[I", Cond.fieldLink RX5 23 "SmallSpacesModel" "rows" "[I", Cond.fieldLink RX5 26 "SmallSpacesModel" "aside" "[I", Cond.fieldLink RX5 29 "SmallSpacesModel" "pivots" "[I", Cond.fieldLink RX5 32 "SmallSpacesModel" "heapDims" "[I", Cond.fieldLink RX5 35 "SmallSpacesModel" "heapRows" "[I", Cond.fieldLink RX5 38 "SmallSpacesModel" "q" "I", Cond.fieldLink RX5 42 "SmallSpacesModel" "n" "I", Cond.methodLink RX5 45 yX5_begin, Cond.instanceMethod yX5_begin, Cond.selects RX5 yX5_begin yX5_begin, Cond.initialized RX5, Cond.code yX5_begin cX5_begin 2 none, Cond.fieldLink RX5 52 "SmallSpacesModel" "vectors" "I", Cond.fieldLink RX5 55 "SmallSpacesModel" "heapMany" "I", Cond.methodLink RX5 48 yX5_power]
def wsX5_init_r2 : List Cond := [Cond.static yX5_power, Cond.code yX5_power cX5_power 4 (some .int)]
def wsX5_init : List Cond := .code yX5_init cX5_init 1 none :: ((wsX5_init_r1 ++ wsX5_init_r2) ++ wsX50)
def wsX5_in : List Cond := .code yX5_in cX5_in 6 (some .boolean) :: ([])
def wsX5_field : List Cond := .code yX5_field cX5_field 4 (some .int) :: ([.fieldLink RX5 38 "SmallSpacesModel" "q" "I", .fieldLink RX5 42 "SmallSpacesModel" "n" "I", .fieldLink RX5 52 "SmallSpacesModel" "vectors" "I", .methodLink RX5 58 yX5_in, .static yX5_in, .initialized RX5, .code yX5_in cX5_in 6 (some .boolean), .methodLink RX5 45 yX5_begin, .instanceMethod yX5_begin, .selects RX5 yX5_begin yX5_begin, .code yX5_begin cX5_begin 2 none, .fieldLink RX5 20 "SmallSpacesModel" "dims" "[I", .fieldLink RX5 55 "SmallSpacesModel" "heapMany" "I", .fieldLink RX5 7 "SmallSpacesModel" "images" "[I", .methodLink RX5 48 yX5_power, .static yX5_power, .code yX5_power cX5_power 4 (some .int)] ++ wsX50)
def wsX5_figure : List Cond := .code yX5_figure cX5_figure 3 (some .int) :: ([.fieldLink RX5 38 "SmallSpacesModel" "q" "I", .fieldLink RX5 42 "SmallSpacesModel" "n" "I", .methodLink RX5 48 yX5_power, .static yX5_power, .initialized RX5, .code yX5_power cX5_power 4 (some .int)] ++ wsX50)
def wsX5_isVector : List Cond := .code yX5_isVector cX5_isVector 2 (some .boolean) :: ([.fieldLink RX5 52 "SmallSpacesModel" "vectors" "I", .methodLink RX5 58 yX5_in, .static yX5_in, .initialized RX5, .code yX5_in cX5_in 6 (some .boolean)] ++ wsX50)
def wsX5_sum : List Cond := .code yX5_sum cX5_sum 6 (some .int) :: ([.fieldLink RX5 42 "SmallSpacesModel" "n" "I", .fieldLink RX5 38 "SmallSpacesModel" "q" "I", .methodLink RX5 62 yX5_figure, .instanceMethod yX5_figure, .selects RX5 yX5_figure yX5_figure, .initialized RX5, .code yX5_figure cX5_figure 3 (some .int), .methodLink RX5 48 yX5_power, .static yX5_power, .code yX5_power cX5_power 4 (some .int)] ++ wsX50)
def wsX5_plus : List Cond := .code yX5_plus cX5_plus 4 (some .int) :: ([.fieldLink RX5 38 "SmallSpacesModel" "q" "I", .methodLink RX5 65 yX5_isVector, .instanceMethod yX5_isVector, .selects RX5 yX5_isVector yX5_isVector, .initialized RX5, .code yX5_isVector cX5_isVector 2 (some .boolean), .fieldLink RX5 52 "SmallSpacesModel" "vectors" "I", .methodLink RX5 58 yX5_in, .static yX5_in, .code yX5_in cX5_in 6 (some .boolean), .methodLink RX5 69 yX5_sum, .instanceMethod yX5_sum, .selects RX5 yX5_sum yX5_sum, .code yX5_sum cX5_sum 6 (some .int), .fieldLink RX5 42 "SmallSpacesModel" "n" "I", .methodLink RX5 62 yX5_figure, .instanceMethod yX5_figure, .selects RX5 yX5_figure yX5_figure, .code yX5_figure cX5_figure 3 (some .int), .methodLink RX5 48 yX5_power, .static yX5_power, .code yX5_power cX5_power 4 (some .int)] ++ wsX50)
def wsX5_product : List Cond := .code yX5_product cX5_product 5 (some .int) :: ([.fieldLink RX5 42 "SmallSpacesModel" "n" "I", .fieldLink RX5 38 "SmallSpacesModel" "q" "I", .methodLink RX5 62 yX5_figure, .instanceMethod yX5_figure, .selects RX5 yX5_figure yX5_figure, .initialized RX5, .code yX5_figure cX5_figure 3 (some .int), .methodLink RX5 48 yX5_power, .static yX5_power, .code yX5_power cX5_power 4 (some .int)] ++ wsX50)
def wsX5_times : List Cond := .code yX5_times cX5_times 3 (some .int) :: ([.methodLink RX5 65 yX5_isVector, .instanceMethod yX5_isVector, .selects RX5 yX5_isVector yX5_isVector, .initialized RX5, .code yX5_isVector cX5_isVector 2 (some .boolean), .fieldLink RX5 52 "SmallSpacesModel" "vectors" "I", .methodLink RX5 58 yX5_in, .static yX5_in, .code yX5_in cX5_in 6 (some .boolean), .methodLink RX5 73 yX5_product, .instanceMethod yX5_product, .selects RX5 yX5_product yX5_product, .code yX5_product cX5_product 5 (some .int), .fieldLink RX5 42 "SmallSpacesModel" "n" "I", .fieldLink RX5 38 "SmallSpacesModel" "q" "I", .methodLink RX5 62 yX5_figure, .instanceMethod yX5_figure, .selects RX5 yX5_figure yX5_figure, .code yX5_figure cX5_figure 3 (some .int), .methodLink RX5 48 yX5_power, .static yX5_power, .code yX5_power cX5_power 4 (some .int)] ++ wsX50)
def wsX5_settle : List Cond := .code yX5_settle cX5_settle 8 none :: ([.fieldLink RX5 42 "SmallSpacesModel" "n" "I", .fieldLink RX5 76 "SmallSpacesModel" "worked" "I", .fieldLink RX5 13 "SmallSpacesModel" "work" "[I", .fieldLink RX5 38 "SmallSpacesModel" "q" "I", .methodLink RX5 62 yX5_figure, .instanceMethod yX5_figure, .selects RX5 yX5_figure yX5_figure, .initialized RX5, .code yX5_figure cX5_figure 3 (some .int), .methodLink RX5 48 yX5_power, .static yX5_power, .code yX5_power cX5_power 4 (some .int), .methodLink RX5 69 yX5_sum, .instanceMethod yX5_sum, .selects RX5 yX5_sum yX5_sum, .code yX5_sum cX5_sum 6 (some .int)] ++ wsX50)
def wsX5_pivot : List Cond := .code yX5_pivot cX5_pivot 3 (some .int) :: ([.methodLink RX5 62 yX5_figure, .instanceMethod yX5_figure, .selects RX5 yX5_figure yX5_figure, .initialized RX5, .code yX5_figure cX5_figure 3 (some .int), .fieldLink RX5 38 "SmallSpacesModel" "q" "I", .fieldLink RX5 42 "SmallSpacesModel" "n" "I", .methodLink RX5 48 yX5_power, .static yX5_power, .code yX5_power cX5_power 4 (some .int)] ++ wsX50)
def wsX5_turn_r1 : List Cond := [Cond.fieldLink RX5 76 "SmallSpacesModel" "worked" "I", Cond.fieldLink RX5 16 "SmallSpacesModel" "isPivot" "[Z", Cond.fieldLink RX5 13 "SmallSpacesModel" "work" "[I", Cond.fieldLink RX5 42 "SmallSpacesModel" "n" "I", Cond.fieldLink RX5 38 "SmallSpacesModel" "q" "I", Cond.methodLink RX5 79 yX5_pivot, Cond.instanceMethod yX5_pivot, Cond.selects RX5 yX5_pivot yX5_pivot, Cond.initialized RX5, Cond.code yX5_pivot cX5_pivot 3 (some .int), Cond.methodLink RX5 62 yX5_figure, Cond.instanceMethod yX5_figure, Cond.selects RX5 yX5_figure yX5_figure, Cond.code yX5_figure cX5_figure 3 (some .int), Cond.methodLink RX5 48 yX5_power, Cond.static yX5_power, Cond.code yX5_power cX5_power 4 (some .int), Cond.methodLink RX5 83 yX5_settle, Cond.instanceMethod yX5_settle, Cond.selects RX5 yX5_settle yX5_settle, Cond.code yX5_settle cX5_settle 8 none, Cond.methodLink RX5 69 yX5_sum, Cond.instanceMethod yX5_sum, Cond.selects RX5 yX5_sum yX5_sum]
def wsX5_turn_r2 : List Cond := [Cond.code yX5_sum cX5_sum 6 (some .int)]
def wsX5_turn : List Cond := .code yX5_turn cX5_turn 6 none :: ((wsX5_turn_r1 ++ wsX5_turn_r2) ++ wsX50)
def wsX5_isSlot : List Cond := .code yX5_isSlot cX5_isSlot 1 (some .boolean) :: ([.constantLong RX5 86 (11), .methodLink RX5 58 yX5_in, .static yX5_in, .initialized RX5, .code yX5_in cX5_in 6 (some .boolean)])
def wsX5_load : List Cond := .code yX5_load cX5_load 3 none :: ([.fieldLink RX5 20 "SmallSpacesModel" "dims" "[I", .fieldLink RX5 13 "SmallSpacesModel" "work" "[I", .fieldLink RX5 76 "SmallSpacesModel" "worked" "I", .fieldLink RX5 23 "SmallSpacesModel" "rows" "[I"] ++ wsX50)
def wsX5_save : List Cond := .code yX5_save cX5_save 3 (some .int) :: ([.fieldLink RX5 20 "SmallSpacesModel" "dims" "[I", .fieldLink RX5 76 "SmallSpacesModel" "worked" "I", .fieldLink RX5 23 "SmallSpacesModel" "rows" "[I", .fieldLink RX5 13 "SmallSpacesModel" "work" "[I"] ++ wsX50)
def wsX5_add_r1 : List Cond := [Cond.fieldLink RX5 76 "SmallSpacesModel" "worked" "I", Cond.fieldLink RX5 13 "SmallSpacesModel" "work" "[I", Cond.methodLink RX5 88 yX5_isSlot, Cond.static yX5_isSlot, Cond.initialized RX5, Cond.code yX5_isSlot cX5_isSlot 1 (some .boolean), Cond.constantLong RX5 86 (11), Cond.methodLink RX5 58 yX5_in, Cond.static yX5_in, Cond.code yX5_in cX5_in 6 (some .boolean), Cond.methodLink RX5 65 yX5_isVector, Cond.instanceMethod yX5_isVector, Cond.selects RX5 yX5_isVector yX5_isVector, Cond.code yX5_isVector cX5_isVector 2 (some .boolean), Cond.fieldLink RX5 52 "SmallSpacesModel" "vectors" "I", Cond.methodLink RX5 91 yX5_load, Cond.instanceMethod yX5_load, Cond.selects RX5 yX5_load yX5_load, Cond.code yX5_load cX5_load 3 none, Cond.fieldLink RX5 20 "SmallSpacesModel" "dims" "[I", Cond.fieldLink RX5 23 "SmallSpacesModel" "rows" "[I", Cond.methodLink RX5 83 yX5_settle, Cond.instanceMethod yX5_settle, Cond.selects RX5 yX5_settle yX5_settle]
def wsX5_add_r2 : List Cond := [Cond.code yX5_settle cX5_settle 8 none, Cond.fieldLink RX5 42 "SmallSpacesModel" "n" "I", Cond.fieldLink RX5 38 "SmallSpacesModel" "q" "I", Cond.methodLink RX5 62 yX5_figure, Cond.instanceMethod yX5_figure, Cond.selects RX5 yX5_figure yX5_figure, Cond.code yX5_figure cX5_figure 3 (some .int), Cond.methodLink RX5 48 yX5_power, Cond.static yX5_power, Cond.code yX5_power cX5_power 4 (some .int), Cond.methodLink RX5 69 yX5_sum, Cond.instanceMethod yX5_sum, Cond.selects RX5 yX5_sum yX5_sum, Cond.code yX5_sum cX5_sum 6 (some .int), Cond.methodLink RX5 95 yX5_save, Cond.instanceMethod yX5_save, Cond.selects RX5 yX5_save yX5_save, Cond.code yX5_save cX5_save 3 (some .int)]
def wsX5_add : List Cond := .code yX5_add cX5_add 3 (some .int) :: ((wsX5_add_r1 ++ wsX5_add_r2) ++ wsX50)
def wsX5_clear : List Cond := .code yX5_clear cX5_clear 3 (some .int) :: ([.fieldLink RX5 20 "SmallSpacesModel" "dims" "[I", .methodLink RX5 88 yX5_isSlot, .static yX5_isSlot, .initialized RX5, .code yX5_isSlot cX5_isSlot 1 (some .boolean), .constantLong RX5 86 (11), .methodLink RX5 58 yX5_in, .static yX5_in, .code yX5_in cX5_in 6 (some .boolean)] ++ wsX50)
def wsX5_dim : List Cond := .code yX5_dim cX5_dim 2 (some .int) :: ([.fieldLink RX5 20 "SmallSpacesModel" "dims" "[I", .methodLink RX5 88 yX5_isSlot, .static yX5_isSlot, .initialized RX5, .code yX5_isSlot cX5_isSlot 1 (some .boolean), .constantLong RX5 86 (11), .methodLink RX5 58 yX5_in, .static yX5_in, .code yX5_in cX5_in 6 (some .boolean)] ++ wsX50)
def wsX5_row : List Cond := .code yX5_row cX5_row 3 (some .int) :: ([.fieldLink RX5 20 "SmallSpacesModel" "dims" "[I", .fieldLink RX5 23 "SmallSpacesModel" "rows" "[I", .methodLink RX5 88 yX5_isSlot, .static yX5_isSlot, .initialized RX5, .code yX5_isSlot cX5_isSlot 1 (some .boolean), .constantLong RX5 86 (11), .methodLink RX5 58 yX5_in, .static yX5_in, .code yX5_in cX5_in 6 (some .boolean)] ++ wsX50)
def wsX5_areSlots : List Cond := .code yX5_areSlots cX5_areSlots 3 (some .boolean) :: ([.methodLink RX5 88 yX5_isSlot, .static yX5_isSlot, .initialized RX5, .code yX5_isSlot cX5_isSlot 1 (some .boolean), .constantLong RX5 86 (11), .methodLink RX5 58 yX5_in, .static yX5_in, .code yX5_in cX5_in 6 (some .boolean)])
def wsX5_joined_r1 : List Cond := [Cond.fieldLink RX5 76 "SmallSpacesModel" "worked" "I", Cond.methodLink RX5 91 yX5_load, Cond.instanceMethod yX5_load, Cond.selects RX5 yX5_load yX5_load, Cond.initialized RX5, Cond.code yX5_load cX5_load 3 none, Cond.fieldLink RX5 20 "SmallSpacesModel" "dims" "[I", Cond.fieldLink RX5 13 "SmallSpacesModel" "work" "[I", Cond.fieldLink RX5 23 "SmallSpacesModel" "rows" "[I", Cond.methodLink RX5 83 yX5_settle, Cond.instanceMethod yX5_settle, Cond.selects RX5 yX5_settle yX5_settle, Cond.code yX5_settle cX5_settle 8 none, Cond.fieldLink RX5 42 "SmallSpacesModel" "n" "I", Cond.fieldLink RX5 38 "SmallSpacesModel" "q" "I", Cond.methodLink RX5 62 yX5_figure, Cond.instanceMethod yX5_figure, Cond.selects RX5 yX5_figure yX5_figure, Cond.code yX5_figure cX5_figure 3 (some .int), Cond.methodLink RX5 48 yX5_power, Cond.static yX5_power, Cond.code yX5_power cX5_power 4 (some .int), Cond.methodLink RX5 69 yX5_sum, Cond.instanceMethod yX5_sum]
def wsX5_joined_r2 : List Cond := [Cond.selects RX5 yX5_sum yX5_sum, Cond.code yX5_sum cX5_sum 6 (some .int)]
def wsX5_joined : List Cond := .code yX5_joined cX5_joined 3 (some .int) :: ((wsX5_joined_r1 ++ wsX5_joined_r2) ++ wsX50)
def wsX5_join_r1 : List Cond := [Cond.methodLink RX5 98 yX5_areSlots, Cond.static yX5_areSlots, Cond.initialized RX5, Cond.code yX5_areSlots cX5_areSlots 3 (some .boolean), Cond.methodLink RX5 88 yX5_isSlot, Cond.static yX5_isSlot, Cond.code yX5_isSlot cX5_isSlot 1 (some .boolean), Cond.constantLong RX5 86 (11), Cond.methodLink RX5 58 yX5_in, Cond.static yX5_in, Cond.code yX5_in cX5_in 6 (some .boolean), Cond.methodLink RX5 102 yX5_joined, Cond.instanceMethod yX5_joined, Cond.selects RX5 yX5_joined yX5_joined, Cond.code yX5_joined cX5_joined 3 (some .int), Cond.fieldLink RX5 76 "SmallSpacesModel" "worked" "I", Cond.methodLink RX5 91 yX5_load, Cond.instanceMethod yX5_load, Cond.selects RX5 yX5_load yX5_load, Cond.code yX5_load cX5_load 3 none, Cond.fieldLink RX5 20 "SmallSpacesModel" "dims" "[I", Cond.fieldLink RX5 13 "SmallSpacesModel" "work" "[I", Cond.fieldLink RX5 23 "SmallSpacesModel" "rows" "[I", Cond.methodLink RX5 83 yX5_settle]
def wsX5_join_r2 : List Cond := [Cond.instanceMethod yX5_settle, Cond.selects RX5 yX5_settle yX5_settle, Cond.code yX5_settle cX5_settle 8 none, Cond.fieldLink RX5 42 "SmallSpacesModel" "n" "I", Cond.fieldLink RX5 38 "SmallSpacesModel" "q" "I", Cond.methodLink RX5 62 yX5_figure, Cond.instanceMethod yX5_figure, Cond.selects RX5 yX5_figure yX5_figure, Cond.code yX5_figure cX5_figure 3 (some .int), Cond.methodLink RX5 48 yX5_power, Cond.static yX5_power, Cond.code yX5_power cX5_power 4 (some .int), Cond.methodLink RX5 69 yX5_sum, Cond.instanceMethod yX5_sum, Cond.selects RX5 yX5_sum yX5_sum, Cond.code yX5_sum cX5_sum 6 (some .int), Cond.methodLink RX5 95 yX5_save, Cond.instanceMethod yX5_save, Cond.selects RX5 yX5_save yX5_save, Cond.code yX5_save cX5_save 3 (some .int)]
def wsX5_join : List Cond := .code yX5_join cX5_join 4 (some .int) :: ((wsX5_join_r1 ++ wsX5_join_r2) ++ wsX50)
def wsX5_meet_r1 : List Cond := [Cond.fieldLink RX5 76 "SmallSpacesModel" "worked" "I", Cond.fieldLink RX5 26 "SmallSpacesModel" "aside" "[I", Cond.fieldLink RX5 13 "SmallSpacesModel" "work" "[I", Cond.methodLink RX5 98 yX5_areSlots, Cond.static yX5_areSlots, Cond.initialized RX5, Cond.code yX5_areSlots cX5_areSlots 3 (some .boolean), Cond.methodLink RX5 88 yX5_isSlot, Cond.static yX5_isSlot, Cond.code yX5_isSlot cX5_isSlot 1 (some .boolean), Cond.constantLong RX5 86 (11), Cond.methodLink RX5 58 yX5_in, Cond.static yX5_in, Cond.code yX5_in cX5_in 6 (some .boolean), Cond.methodLink RX5 91 yX5_load, Cond.instanceMethod yX5_load, Cond.selects RX5 yX5_load yX5_load, Cond.code yX5_load cX5_load 3 none, Cond.fieldLink RX5 20 "SmallSpacesModel" "dims" "[I", Cond.fieldLink RX5 23 "SmallSpacesModel" "rows" "[I", Cond.methodLink RX5 105 yX5_turn, Cond.instanceMethod yX5_turn, Cond.selects RX5 yX5_turn yX5_turn, Cond.code yX5_turn cX5_turn 6 none]
def wsX5_meet_r2 : List Cond := [Cond.fieldLink RX5 16 "SmallSpacesModel" "isPivot" "[Z", Cond.fieldLink RX5 42 "SmallSpacesModel" "n" "I", Cond.fieldLink RX5 38 "SmallSpacesModel" "q" "I", Cond.methodLink RX5 79 yX5_pivot, Cond.instanceMethod yX5_pivot, Cond.selects RX5 yX5_pivot yX5_pivot, Cond.code yX5_pivot cX5_pivot 3 (some .int), Cond.methodLink RX5 62 yX5_figure, Cond.instanceMethod yX5_figure, Cond.selects RX5 yX5_figure yX5_figure, Cond.code yX5_figure cX5_figure 3 (some .int), Cond.methodLink RX5 48 yX5_power, Cond.static yX5_power, Cond.code yX5_power cX5_power 4 (some .int), Cond.methodLink RX5 83 yX5_settle, Cond.instanceMethod yX5_settle, Cond.selects RX5 yX5_settle yX5_settle, Cond.code yX5_settle cX5_settle 8 none, Cond.methodLink RX5 69 yX5_sum, Cond.instanceMethod yX5_sum, Cond.selects RX5 yX5_sum yX5_sum, Cond.code yX5_sum cX5_sum 6 (some .int), Cond.methodLink RX5 95 yX5_save, Cond.instanceMethod yX5_save]
def wsX5_meet_r3 : List Cond := [Cond.selects RX5 yX5_save yX5_save, Cond.code yX5_save cX5_save 3 (some .int)]
def wsX5_meet : List Cond := .code yX5_meet cX5_meet 6 (some .int) :: ((wsX5_meet_r1 ++ (wsX5_meet_r2 ++ wsX5_meet_r3)) ++ wsX50)
def wsX5_dual_r1 : List Cond := [Cond.fieldLink RX5 76 "SmallSpacesModel" "worked" "I", Cond.methodLink RX5 98 yX5_areSlots, Cond.static yX5_areSlots, Cond.initialized RX5, Cond.code yX5_areSlots cX5_areSlots 3 (some .boolean), Cond.methodLink RX5 88 yX5_isSlot, Cond.static yX5_isSlot, Cond.code yX5_isSlot cX5_isSlot 1 (some .boolean), Cond.constantLong RX5 86 (11), Cond.methodLink RX5 58 yX5_in, Cond.static yX5_in, Cond.code yX5_in cX5_in 6 (some .boolean), Cond.methodLink RX5 91 yX5_load, Cond.instanceMethod yX5_load, Cond.selects RX5 yX5_load yX5_load, Cond.code yX5_load cX5_load 3 none, Cond.fieldLink RX5 20 "SmallSpacesModel" "dims" "[I", Cond.fieldLink RX5 13 "SmallSpacesModel" "work" "[I", Cond.fieldLink RX5 23 "SmallSpacesModel" "rows" "[I", Cond.methodLink RX5 105 yX5_turn, Cond.instanceMethod yX5_turn, Cond.selects RX5 yX5_turn yX5_turn, Cond.code yX5_turn cX5_turn 6 none, Cond.fieldLink RX5 16 "SmallSpacesModel" "isPivot" "[Z"]
def wsX5_dual_r2 : List Cond := [Cond.fieldLink RX5 42 "SmallSpacesModel" "n" "I", Cond.fieldLink RX5 38 "SmallSpacesModel" "q" "I", Cond.methodLink RX5 79 yX5_pivot, Cond.instanceMethod yX5_pivot, Cond.selects RX5 yX5_pivot yX5_pivot, Cond.code yX5_pivot cX5_pivot 3 (some .int), Cond.methodLink RX5 62 yX5_figure, Cond.instanceMethod yX5_figure, Cond.selects RX5 yX5_figure yX5_figure, Cond.code yX5_figure cX5_figure 3 (some .int), Cond.methodLink RX5 48 yX5_power, Cond.static yX5_power, Cond.code yX5_power cX5_power 4 (some .int), Cond.methodLink RX5 83 yX5_settle, Cond.instanceMethod yX5_settle, Cond.selects RX5 yX5_settle yX5_settle, Cond.code yX5_settle cX5_settle 8 none, Cond.methodLink RX5 69 yX5_sum, Cond.instanceMethod yX5_sum, Cond.selects RX5 yX5_sum yX5_sum, Cond.code yX5_sum cX5_sum 6 (some .int), Cond.methodLink RX5 95 yX5_save, Cond.instanceMethod yX5_save, Cond.selects RX5 yX5_save yX5_save]
def wsX5_dual_r3 : List Cond := [Cond.code yX5_save cX5_save 3 (some .int)]
def wsX5_dual : List Cond := .code yX5_dual cX5_dual 3 (some .int) :: ((wsX5_dual_r1 ++ (wsX5_dual_r2 ++ wsX5_dual_r3)) ++ wsX50)
def wsX5_holds : List Cond := .code yX5_holds cX5_holds 6 (some .boolean) :: ([.fieldLink RX5 20 "SmallSpacesModel" "dims" "[I", .fieldLink RX5 23 "SmallSpacesModel" "rows" "[I", .fieldLink RX5 38 "SmallSpacesModel" "q" "I", .methodLink RX5 79 yX5_pivot, .instanceMethod yX5_pivot, .selects RX5 yX5_pivot yX5_pivot, .initialized RX5, .code yX5_pivot cX5_pivot 3 (some .int), .methodLink RX5 62 yX5_figure, .instanceMethod yX5_figure, .selects RX5 yX5_figure yX5_figure, .code yX5_figure cX5_figure 3 (some .int), .fieldLink RX5 42 "SmallSpacesModel" "n" "I", .methodLink RX5 48 yX5_power, .static yX5_power, .code yX5_power cX5_power 4 (some .int), .methodLink RX5 69 yX5_sum, .instanceMethod yX5_sum, .selects RX5 yX5_sum yX5_sum, .code yX5_sum cX5_sum 6 (some .int)] ++ wsX50)
def wsX5_has_r1 : List Cond := [Cond.methodLink RX5 88 yX5_isSlot, Cond.static yX5_isSlot, Cond.initialized RX5, Cond.code yX5_isSlot cX5_isSlot 1 (some .boolean), Cond.constantLong RX5 86 (11), Cond.methodLink RX5 58 yX5_in, Cond.static yX5_in, Cond.code yX5_in cX5_in 6 (some .boolean), Cond.methodLink RX5 65 yX5_isVector, Cond.instanceMethod yX5_isVector, Cond.selects RX5 yX5_isVector yX5_isVector, Cond.code yX5_isVector cX5_isVector 2 (some .boolean), Cond.fieldLink RX5 52 "SmallSpacesModel" "vectors" "I", Cond.methodLink RX5 108 yX5_holds, Cond.instanceMethod yX5_holds, Cond.selects RX5 yX5_holds yX5_holds, Cond.code yX5_holds cX5_holds 6 (some .boolean), Cond.fieldLink RX5 20 "SmallSpacesModel" "dims" "[I", Cond.fieldLink RX5 23 "SmallSpacesModel" "rows" "[I", Cond.fieldLink RX5 38 "SmallSpacesModel" "q" "I", Cond.methodLink RX5 79 yX5_pivot, Cond.instanceMethod yX5_pivot, Cond.selects RX5 yX5_pivot yX5_pivot, Cond.code yX5_pivot cX5_pivot 3 (some .int)]
def wsX5_has_r2 : List Cond := [Cond.methodLink RX5 62 yX5_figure, Cond.instanceMethod yX5_figure, Cond.selects RX5 yX5_figure yX5_figure, Cond.code yX5_figure cX5_figure 3 (some .int), Cond.fieldLink RX5 42 "SmallSpacesModel" "n" "I", Cond.methodLink RX5 48 yX5_power, Cond.static yX5_power, Cond.code yX5_power cX5_power 4 (some .int), Cond.methodLink RX5 69 yX5_sum, Cond.instanceMethod yX5_sum, Cond.selects RX5 yX5_sum yX5_sum, Cond.code yX5_sum cX5_sum 6 (some .int)]
def wsX5_has : List Cond := .code yX5_has cX5_has 3 (some .int) :: ((wsX5_has_r1 ++ wsX5_has_r2) ++ wsX50)
def wsX5_within_r1 : List Cond := [Cond.fieldLink RX5 20 "SmallSpacesModel" "dims" "[I", Cond.fieldLink RX5 23 "SmallSpacesModel" "rows" "[I", Cond.methodLink RX5 88 yX5_isSlot, Cond.static yX5_isSlot, Cond.initialized RX5, Cond.code yX5_isSlot cX5_isSlot 1 (some .boolean), Cond.constantLong RX5 86 (11), Cond.methodLink RX5 58 yX5_in, Cond.static yX5_in, Cond.code yX5_in cX5_in 6 (some .boolean), Cond.methodLink RX5 108 yX5_holds, Cond.instanceMethod yX5_holds, Cond.selects RX5 yX5_holds yX5_holds, Cond.code yX5_holds cX5_holds 6 (some .boolean), Cond.fieldLink RX5 38 "SmallSpacesModel" "q" "I", Cond.methodLink RX5 79 yX5_pivot, Cond.instanceMethod yX5_pivot, Cond.selects RX5 yX5_pivot yX5_pivot, Cond.code yX5_pivot cX5_pivot 3 (some .int), Cond.methodLink RX5 62 yX5_figure, Cond.instanceMethod yX5_figure, Cond.selects RX5 yX5_figure yX5_figure, Cond.code yX5_figure cX5_figure 3 (some .int), Cond.fieldLink RX5 42 "SmallSpacesModel" "n" "I"]
def wsX5_within_r2 : List Cond := [Cond.methodLink RX5 48 yX5_power, Cond.static yX5_power, Cond.code yX5_power cX5_power 4 (some .int), Cond.methodLink RX5 69 yX5_sum, Cond.instanceMethod yX5_sum, Cond.selects RX5 yX5_sum yX5_sum, Cond.code yX5_sum cX5_sum 6 (some .int)]
def wsX5_within : List Cond := .code yX5_within cX5_within 5 (some .int) :: ((wsX5_within_r1 ++ wsX5_within_r2) ++ wsX50)
def wsX5_apart_r1 : List Cond := [Cond.fieldLink RX5 20 "SmallSpacesModel" "dims" "[I", Cond.methodLink RX5 88 yX5_isSlot, Cond.static yX5_isSlot, Cond.initialized RX5, Cond.code yX5_isSlot cX5_isSlot 1 (some .boolean), Cond.constantLong RX5 86 (11), Cond.methodLink RX5 58 yX5_in, Cond.static yX5_in, Cond.code yX5_in cX5_in 6 (some .boolean), Cond.methodLink RX5 102 yX5_joined, Cond.instanceMethod yX5_joined, Cond.selects RX5 yX5_joined yX5_joined, Cond.code yX5_joined cX5_joined 3 (some .int), Cond.fieldLink RX5 76 "SmallSpacesModel" "worked" "I", Cond.methodLink RX5 91 yX5_load, Cond.instanceMethod yX5_load, Cond.selects RX5 yX5_load yX5_load, Cond.code yX5_load cX5_load 3 none, Cond.fieldLink RX5 13 "SmallSpacesModel" "work" "[I", Cond.fieldLink RX5 23 "SmallSpacesModel" "rows" "[I", Cond.methodLink RX5 83 yX5_settle, Cond.instanceMethod yX5_settle, Cond.selects RX5 yX5_settle yX5_settle, Cond.code yX5_settle cX5_settle 8 none]
def wsX5_apart_r2 : List Cond := [Cond.fieldLink RX5 42 "SmallSpacesModel" "n" "I", Cond.fieldLink RX5 38 "SmallSpacesModel" "q" "I", Cond.methodLink RX5 62 yX5_figure, Cond.instanceMethod yX5_figure, Cond.selects RX5 yX5_figure yX5_figure, Cond.code yX5_figure cX5_figure 3 (some .int), Cond.methodLink RX5 48 yX5_power, Cond.static yX5_power, Cond.code yX5_power cX5_power 4 (some .int), Cond.methodLink RX5 69 yX5_sum, Cond.instanceMethod yX5_sum, Cond.selects RX5 yX5_sum yX5_sum, Cond.code yX5_sum cX5_sum 6 (some .int)]
def wsX5_apart : List Cond := .code yX5_apart cX5_apart 3 (some .int) :: ((wsX5_apart_r1 ++ wsX5_apart_r2) ++ wsX50)
def wsX5_gauss : List Cond := .code yX5_gauss cX5_gauss 8 (some .int) :: ([.fieldLink RX5 38 "SmallSpacesModel" "q" "I", .methodLink RX5 58 yX5_in, .static yX5_in, .initialized RX5, .code yX5_in cX5_in 6 (some .boolean), .methodLink RX5 48 yX5_power, .static yX5_power, .code yX5_power cX5_power 4 (some .int)] ++ wsX50)
def wsX5_many : List Cond := .code yX5_many cX5_many 2 (some .int) :: ([.fieldLink RX5 42 "SmallSpacesModel" "n" "I", .methodLink RX5 112 yX5_gauss, .instanceMethod yX5_gauss, .selects RX5 yX5_gauss yX5_gauss, .initialized RX5, .code yX5_gauss cX5_gauss 8 (some .int), .fieldLink RX5 38 "SmallSpacesModel" "q" "I", .methodLink RX5 58 yX5_in, .static yX5_in, .code yX5_in cX5_in 6 (some .boolean), .methodLink RX5 48 yX5_power, .static yX5_power, .code yX5_power cX5_power 4 (some .int)] ++ wsX50)
def wsX5_free : List Cond := .code yX5_free cX5_free 4 (some .int) :: ([.fieldLink RX5 42 "SmallSpacesModel" "n" "I", .fieldLink RX5 29 "SmallSpacesModel" "pivots" "[I"] ++ wsX50)
def wsX5_goOn : List Cond := .code yX5_goOn cX5_goOn 4 (some .boolean) :: ([.fieldLink RX5 29 "SmallSpacesModel" "pivots" "[I", .fieldLink RX5 42 "SmallSpacesModel" "n" "I"] ++ wsX50)
def wsX5_firstPivots : List Cond := .code yX5_firstPivots cX5_firstPivots 3 none :: ([.fieldLink RX5 29 "SmallSpacesModel" "pivots" "[I"] ++ wsX50)
def wsX5_isFree : List Cond := .code yX5_isFree cX5_isFree 6 (some .boolean) :: ([.fieldLink RX5 29 "SmallSpacesModel" "pivots" "[I"] ++ wsX50)
def wsX5_number_r1 : List Cond := [Cond.fieldLink RX5 20 "SmallSpacesModel" "dims" "[I", Cond.fieldLink RX5 29 "SmallSpacesModel" "pivots" "[I", Cond.fieldLink RX5 23 "SmallSpacesModel" "rows" "[I", Cond.fieldLink RX5 38 "SmallSpacesModel" "q" "I", Cond.fieldLink RX5 42 "SmallSpacesModel" "n" "I", Cond.methodLink RX5 88 yX5_isSlot, Cond.static yX5_isSlot, Cond.initialized RX5, Cond.code yX5_isSlot cX5_isSlot 1 (some .boolean), Cond.constantLong RX5 86 (11), Cond.methodLink RX5 58 yX5_in, Cond.static yX5_in, Cond.code yX5_in cX5_in 6 (some .boolean), Cond.methodLink RX5 115 yX5_firstPivots, Cond.instanceMethod yX5_firstPivots, Cond.selects RX5 yX5_firstPivots yX5_firstPivots, Cond.code yX5_firstPivots cX5_firstPivots 3 none, Cond.methodLink RX5 79 yX5_pivot, Cond.instanceMethod yX5_pivot, Cond.selects RX5 yX5_pivot yX5_pivot, Cond.code yX5_pivot cX5_pivot 3 (some .int), Cond.methodLink RX5 62 yX5_figure, Cond.instanceMethod yX5_figure, Cond.selects RX5 yX5_figure yX5_figure]
def wsX5_number_r2 : List Cond := [Cond.code yX5_figure cX5_figure 3 (some .int), Cond.methodLink RX5 48 yX5_power, Cond.static yX5_power, Cond.code yX5_power cX5_power 4 (some .int), Cond.methodLink RX5 118 yX5_free, Cond.instanceMethod yX5_free, Cond.selects RX5 yX5_free yX5_free, Cond.code yX5_free cX5_free 4 (some .int), Cond.methodLink RX5 121 yX5_goOn, Cond.instanceMethod yX5_goOn, Cond.selects RX5 yX5_goOn yX5_goOn, Cond.code yX5_goOn cX5_goOn 4 (some .boolean), Cond.methodLink RX5 124 yX5_isFree, Cond.instanceMethod yX5_isFree, Cond.selects RX5 yX5_isFree yX5_isFree, Cond.code yX5_isFree cX5_isFree 6 (some .boolean)]
def wsX5_number : List Cond := .code yX5_number cX5_number 8 (some .int) :: ((wsX5_number_r1 ++ wsX5_number_r2) ++ wsX50)
def wsX5_lay_r1 : List Cond := [Cond.fieldLink RX5 38 "SmallSpacesModel" "q" "I", Cond.fieldLink RX5 76 "SmallSpacesModel" "worked" "I", Cond.fieldLink RX5 42 "SmallSpacesModel" "n" "I", Cond.fieldLink RX5 29 "SmallSpacesModel" "pivots" "[I", Cond.fieldLink RX5 13 "SmallSpacesModel" "work" "[I", Cond.methodLink RX5 115 yX5_firstPivots, Cond.instanceMethod yX5_firstPivots, Cond.selects RX5 yX5_firstPivots yX5_firstPivots, Cond.initialized RX5, Cond.code yX5_firstPivots cX5_firstPivots 3 none, Cond.methodLink RX5 118 yX5_free, Cond.instanceMethod yX5_free, Cond.selects RX5 yX5_free yX5_free, Cond.code yX5_free cX5_free 4 (some .int), Cond.methodLink RX5 48 yX5_power, Cond.static yX5_power, Cond.code yX5_power cX5_power 4 (some .int), Cond.methodLink RX5 121 yX5_goOn, Cond.instanceMethod yX5_goOn, Cond.selects RX5 yX5_goOn yX5_goOn, Cond.code yX5_goOn cX5_goOn 4 (some .boolean), Cond.methodLink RX5 124 yX5_isFree, Cond.instanceMethod yX5_isFree, Cond.selects RX5 yX5_isFree yX5_isFree]
def wsX5_lay_r2 : List Cond := [Cond.code yX5_isFree cX5_isFree 6 (some .boolean)]
def wsX5_lay : List Cond := .code yX5_lay cX5_lay 8 none :: ((wsX5_lay_r1 ++ wsX5_lay_r2) ++ wsX50)
def wsX5_numbered_r1 : List Cond := [Cond.fieldLink RX5 42 "SmallSpacesModel" "n" "I", Cond.methodLink RX5 88 yX5_isSlot, Cond.static yX5_isSlot, Cond.initialized RX5, Cond.code yX5_isSlot cX5_isSlot 1 (some .boolean), Cond.constantLong RX5 86 (11), Cond.methodLink RX5 58 yX5_in, Cond.static yX5_in, Cond.code yX5_in cX5_in 6 (some .boolean), Cond.methodLink RX5 112 yX5_gauss, Cond.instanceMethod yX5_gauss, Cond.selects RX5 yX5_gauss yX5_gauss, Cond.code yX5_gauss cX5_gauss 8 (some .int), Cond.fieldLink RX5 38 "SmallSpacesModel" "q" "I", Cond.methodLink RX5 48 yX5_power, Cond.static yX5_power, Cond.code yX5_power cX5_power 4 (some .int), Cond.methodLink RX5 127 yX5_lay, Cond.instanceMethod yX5_lay, Cond.selects RX5 yX5_lay yX5_lay, Cond.code yX5_lay cX5_lay 8 none, Cond.fieldLink RX5 76 "SmallSpacesModel" "worked" "I", Cond.fieldLink RX5 29 "SmallSpacesModel" "pivots" "[I", Cond.fieldLink RX5 13 "SmallSpacesModel" "work" "[I"]
def wsX5_numbered_r2 : List Cond := [Cond.methodLink RX5 115 yX5_firstPivots, Cond.instanceMethod yX5_firstPivots, Cond.selects RX5 yX5_firstPivots yX5_firstPivots, Cond.code yX5_firstPivots cX5_firstPivots 3 none, Cond.methodLink RX5 118 yX5_free, Cond.instanceMethod yX5_free, Cond.selects RX5 yX5_free yX5_free, Cond.code yX5_free cX5_free 4 (some .int), Cond.methodLink RX5 121 yX5_goOn, Cond.instanceMethod yX5_goOn, Cond.selects RX5 yX5_goOn yX5_goOn, Cond.code yX5_goOn cX5_goOn 4 (some .boolean), Cond.methodLink RX5 124 yX5_isFree, Cond.instanceMethod yX5_isFree, Cond.selects RX5 yX5_isFree yX5_isFree, Cond.code yX5_isFree cX5_isFree 6 (some .boolean), Cond.methodLink RX5 95 yX5_save, Cond.instanceMethod yX5_save, Cond.selects RX5 yX5_save yX5_save, Cond.code yX5_save cX5_save 3 (some .int), Cond.fieldLink RX5 20 "SmallSpacesModel" "dims" "[I", Cond.fieldLink RX5 23 "SmallSpacesModel" "rows" "[I"]
def wsX5_numbered : List Cond := .code yX5_numbered cX5_numbered 4 (some .int) :: ((wsX5_numbered_r1 ++ wsX5_numbered_r2) ++ wsX50)
def wsX5_over : List Cond := .code yX5_over cX5_over 3 (some .int) :: ([.fieldLink RX5 20 "SmallSpacesModel" "dims" "[I", .fieldLink RX5 42 "SmallSpacesModel" "n" "I", .methodLink RX5 88 yX5_isSlot, .static yX5_isSlot, .initialized RX5, .code yX5_isSlot cX5_isSlot 1 (some .boolean), .constantLong RX5 86 (11), .methodLink RX5 58 yX5_in, .static yX5_in, .code yX5_in cX5_in 6 (some .boolean), .methodLink RX5 112 yX5_gauss, .instanceMethod yX5_gauss, .selects RX5 yX5_gauss yX5_gauss, .code yX5_gauss cX5_gauss 8 (some .int), .fieldLink RX5 38 "SmallSpacesModel" "q" "I", .methodLink RX5 48 yX5_power, .static yX5_power, .code yX5_power cX5_power 4 (some .int)] ++ wsX50)
def wsX5_meeting : List Cond := .code yX5_meeting cX5_meeting 6 (some .int) :: ([.fieldLink RX5 20 "SmallSpacesModel" "dims" "[I", .fieldLink RX5 42 "SmallSpacesModel" "n" "I", .fieldLink RX5 38 "SmallSpacesModel" "q" "I", .methodLink RX5 88 yX5_isSlot, .static yX5_isSlot, .initialized RX5, .code yX5_isSlot cX5_isSlot 1 (some .boolean), .constantLong RX5 86 (11), .methodLink RX5 58 yX5_in, .static yX5_in, .code yX5_in cX5_in 6 (some .boolean), .methodLink RX5 112 yX5_gauss, .instanceMethod yX5_gauss, .selects RX5 yX5_gauss yX5_gauss, .code yX5_gauss cX5_gauss 8 (some .int), .methodLink RX5 48 yX5_power, .static yX5_power, .code yX5_power cX5_power 4 (some .int)] ++ wsX50)
def wsX5_toHeap : List Cond := .code yX5_toHeap cX5_toHeap 2 none :: ([.fieldLink RX5 32 "SmallSpacesModel" "heapDims" "[I", .fieldLink RX5 55 "SmallSpacesModel" "heapMany" "I", .fieldLink RX5 76 "SmallSpacesModel" "worked" "I", .fieldLink RX5 35 "SmallSpacesModel" "heapRows" "[I", .fieldLink RX5 13 "SmallSpacesModel" "work" "[I"] ++ wsX50)
def wsX5_loadHeap : List Cond := .code yX5_loadHeap cX5_loadHeap 3 none :: ([.fieldLink RX5 32 "SmallSpacesModel" "heapDims" "[I", .fieldLink RX5 13 "SmallSpacesModel" "work" "[I", .fieldLink RX5 76 "SmallSpacesModel" "worked" "I", .fieldLink RX5 35 "SmallSpacesModel" "heapRows" "[I"] ++ wsX50)
def wsX5_put : List Cond := .code yX5_put cX5_put 2 (some .int) :: ([.fieldLink RX5 55 "SmallSpacesModel" "heapMany" "I", .fieldLink RX5 76 "SmallSpacesModel" "worked" "I", .methodLink RX5 88 yX5_isSlot, .static yX5_isSlot, .initialized RX5, .code yX5_isSlot cX5_isSlot 1 (some .boolean), .constantLong RX5 86 (11), .methodLink RX5 58 yX5_in, .static yX5_in, .code yX5_in cX5_in 6 (some .boolean), .methodLink RX5 91 yX5_load, .instanceMethod yX5_load, .selects RX5 yX5_load yX5_load, .code yX5_load cX5_load 3 none, .fieldLink RX5 20 "SmallSpacesModel" "dims" "[I", .fieldLink RX5 13 "SmallSpacesModel" "work" "[I", .fieldLink RX5 23 "SmallSpacesModel" "rows" "[I", .methodLink RX5 131 yX5_toHeap, .instanceMethod yX5_toHeap, .selects RX5 yX5_toHeap yX5_toHeap, .code yX5_toHeap cX5_toHeap 2 none, .fieldLink RX5 32 "SmallSpacesModel" "heapDims" "[I", .fieldLink RX5 35 "SmallSpacesModel" "heapRows" "[I"] ++ wsX50)
def wsX5_empty : List Cond := .code yX5_empty cX5_empty 2 (some .int) :: ([.fieldLink RX5 55 "SmallSpacesModel" "heapMany" "I"] ++ wsX50)
def wsX5_take : List Cond := .code yX5_take cX5_take 3 (some .int) :: ([.fieldLink RX5 55 "SmallSpacesModel" "heapMany" "I", .fieldLink RX5 76 "SmallSpacesModel" "worked" "I", .methodLink RX5 88 yX5_isSlot, .static yX5_isSlot, .initialized RX5, .code yX5_isSlot cX5_isSlot 1 (some .boolean), .constantLong RX5 86 (11), .methodLink RX5 58 yX5_in, .static yX5_in, .code yX5_in cX5_in 6 (some .boolean), .methodLink RX5 134 yX5_loadHeap, .instanceMethod yX5_loadHeap, .selects RX5 yX5_loadHeap yX5_loadHeap, .code yX5_loadHeap cX5_loadHeap 3 none, .fieldLink RX5 32 "SmallSpacesModel" "heapDims" "[I", .fieldLink RX5 13 "SmallSpacesModel" "work" "[I", .fieldLink RX5 35 "SmallSpacesModel" "heapRows" "[I", .methodLink RX5 95 yX5_save, .instanceMethod yX5_save, .selects RX5 yX5_save yX5_save, .code yX5_save cX5_save 3 (some .int), .fieldLink RX5 20 "SmallSpacesModel" "dims" "[I", .fieldLink RX5 23 "SmallSpacesModel" "rows" "[I"] ++ wsX50)
def wsX5_least_r1 : List Cond := [Cond.fieldLink RX5 55 "SmallSpacesModel" "heapMany" "I", Cond.fieldLink RX5 76 "SmallSpacesModel" "worked" "I", Cond.fieldLink RX5 32 "SmallSpacesModel" "heapDims" "[I", Cond.methodLink RX5 134 yX5_loadHeap, Cond.instanceMethod yX5_loadHeap, Cond.selects RX5 yX5_loadHeap yX5_loadHeap, Cond.initialized RX5, Cond.code yX5_loadHeap cX5_loadHeap 3 none, Cond.fieldLink RX5 13 "SmallSpacesModel" "work" "[I", Cond.fieldLink RX5 35 "SmallSpacesModel" "heapRows" "[I", Cond.methodLink RX5 83 yX5_settle, Cond.instanceMethod yX5_settle, Cond.selects RX5 yX5_settle yX5_settle, Cond.code yX5_settle cX5_settle 8 none, Cond.fieldLink RX5 42 "SmallSpacesModel" "n" "I", Cond.fieldLink RX5 38 "SmallSpacesModel" "q" "I", Cond.methodLink RX5 62 yX5_figure, Cond.instanceMethod yX5_figure, Cond.selects RX5 yX5_figure yX5_figure, Cond.code yX5_figure cX5_figure 3 (some .int), Cond.methodLink RX5 48 yX5_power, Cond.static yX5_power, Cond.code yX5_power cX5_power 4 (some .int), Cond.methodLink RX5 69 yX5_sum]
def wsX5_least_r2 : List Cond := [Cond.instanceMethod yX5_sum, Cond.selects RX5 yX5_sum yX5_sum, Cond.code yX5_sum cX5_sum 6 (some .int)]
def wsX5_least : List Cond := .code yX5_least cX5_least 5 (some .int) :: ((wsX5_least_r1 ++ wsX5_least_r2) ++ wsX50)
def wsX5_bare : List Cond := .code yX5_bare cX5_bare 8 (some .int) :: ([.fieldLink RX5 52 "SmallSpacesModel" "vectors" "I", .fieldLink RX5 55 "SmallSpacesModel" "heapMany" "I", .fieldLink RX5 32 "SmallSpacesModel" "heapDims" "[I", .fieldLink RX5 35 "SmallSpacesModel" "heapRows" "[I", .fieldLink RX5 38 "SmallSpacesModel" "q" "I", .methodLink RX5 79 yX5_pivot, .instanceMethod yX5_pivot, .selects RX5 yX5_pivot yX5_pivot, .initialized RX5, .code yX5_pivot cX5_pivot 3 (some .int), .methodLink RX5 62 yX5_figure, .instanceMethod yX5_figure, .selects RX5 yX5_figure yX5_figure, .code yX5_figure cX5_figure 3 (some .int), .fieldLink RX5 42 "SmallSpacesModel" "n" "I", .methodLink RX5 48 yX5_power, .static yX5_power, .code yX5_power cX5_power 4 (some .int), .methodLink RX5 69 yX5_sum, .instanceMethod yX5_sum, .selects RX5 yX5_sum yX5_sum, .code yX5_sum cX5_sum 6 (some .int)] ++ wsX50)
def wsX5_greedy_r1 : List Cond := [Cond.fieldLink RX5 42 "SmallSpacesModel" "n" "I", Cond.constantLong RX5 137 (12), Cond.fieldLink RX5 139 "SmallSpacesModel" "greedies" "I", Cond.fieldLink RX5 55 "SmallSpacesModel" "heapMany" "I", Cond.fieldLink RX5 76 "SmallSpacesModel" "worked" "I", Cond.methodLink RX5 58 yX5_in, Cond.static yX5_in, Cond.initialized RX5, Cond.code yX5_in cX5_in 6 (some .boolean), Cond.methodLink RX5 112 yX5_gauss, Cond.instanceMethod yX5_gauss, Cond.selects RX5 yX5_gauss yX5_gauss, Cond.code yX5_gauss cX5_gauss 8 (some .int), Cond.fieldLink RX5 38 "SmallSpacesModel" "q" "I", Cond.methodLink RX5 48 yX5_power, Cond.static yX5_power, Cond.code yX5_power cX5_power 4 (some .int), Cond.methodLink RX5 127 yX5_lay, Cond.instanceMethod yX5_lay, Cond.selects RX5 yX5_lay yX5_lay, Cond.code yX5_lay cX5_lay 8 none, Cond.fieldLink RX5 29 "SmallSpacesModel" "pivots" "[I", Cond.fieldLink RX5 13 "SmallSpacesModel" "work" "[I", Cond.methodLink RX5 115 yX5_firstPivots]
def wsX5_greedy_r2 : List Cond := [Cond.instanceMethod yX5_firstPivots, Cond.selects RX5 yX5_firstPivots yX5_firstPivots, Cond.code yX5_firstPivots cX5_firstPivots 3 none, Cond.methodLink RX5 118 yX5_free, Cond.instanceMethod yX5_free, Cond.selects RX5 yX5_free yX5_free, Cond.code yX5_free cX5_free 4 (some .int), Cond.methodLink RX5 121 yX5_goOn, Cond.instanceMethod yX5_goOn, Cond.selects RX5 yX5_goOn yX5_goOn, Cond.code yX5_goOn cX5_goOn 4 (some .boolean), Cond.methodLink RX5 124 yX5_isFree, Cond.instanceMethod yX5_isFree, Cond.selects RX5 yX5_isFree yX5_isFree, Cond.code yX5_isFree cX5_isFree 6 (some .boolean), Cond.methodLink RX5 134 yX5_loadHeap, Cond.instanceMethod yX5_loadHeap, Cond.selects RX5 yX5_loadHeap yX5_loadHeap, Cond.code yX5_loadHeap cX5_loadHeap 3 none, Cond.fieldLink RX5 32 "SmallSpacesModel" "heapDims" "[I", Cond.fieldLink RX5 35 "SmallSpacesModel" "heapRows" "[I", Cond.methodLink RX5 83 yX5_settle, Cond.instanceMethod yX5_settle, Cond.selects RX5 yX5_settle yX5_settle]
def wsX5_greedy_r3 : List Cond := [Cond.code yX5_settle cX5_settle 8 none, Cond.methodLink RX5 62 yX5_figure, Cond.instanceMethod yX5_figure, Cond.selects RX5 yX5_figure yX5_figure, Cond.code yX5_figure cX5_figure 3 (some .int), Cond.methodLink RX5 69 yX5_sum, Cond.instanceMethod yX5_sum, Cond.selects RX5 yX5_sum yX5_sum, Cond.code yX5_sum cX5_sum 6 (some .int), Cond.methodLink RX5 131 yX5_toHeap, Cond.instanceMethod yX5_toHeap, Cond.selects RX5 yX5_toHeap yX5_toHeap, Cond.code yX5_toHeap cX5_toHeap 2 none]
def wsX5_greedy : List Cond := .code yX5_greedy cX5_greedy 7 (some .int) :: ((wsX5_greedy_r1 ++ (wsX5_greedy_r2 ++ wsX5_greedy_r3)) ++ wsX50)
def wsX5_image : List Cond := .code yX5_image cX5_image 4 (some .int) :: ([.fieldLink RX5 42 "SmallSpacesModel" "n" "I", .fieldLink RX5 7 "SmallSpacesModel" "images" "[I", .methodLink RX5 58 yX5_in, .static yX5_in, .initialized RX5, .code yX5_in cX5_in 6 (some .boolean), .methodLink RX5 65 yX5_isVector, .instanceMethod yX5_isVector, .selects RX5 yX5_isVector yX5_isVector, .code yX5_isVector cX5_isVector 2 (some .boolean), .fieldLink RX5 52 "SmallSpacesModel" "vectors" "I"] ++ wsX50)
def wsX5_mappedOf : List Cond := .code yX5_mappedOf cX5_mappedOf 4 (some .int) :: ([.fieldLink RX5 42 "SmallSpacesModel" "n" "I", .fieldLink RX5 7 "SmallSpacesModel" "images" "[I", .methodLink RX5 62 yX5_figure, .instanceMethod yX5_figure, .selects RX5 yX5_figure yX5_figure, .initialized RX5, .code yX5_figure cX5_figure 3 (some .int), .fieldLink RX5 38 "SmallSpacesModel" "q" "I", .methodLink RX5 48 yX5_power, .static yX5_power, .code yX5_power cX5_power 4 (some .int), .methodLink RX5 69 yX5_sum, .instanceMethod yX5_sum, .selects RX5 yX5_sum yX5_sum, .code yX5_sum cX5_sum 6 (some .int)] ++ wsX50)
def wsX5_mapped_r1 : List Cond := [Cond.methodLink RX5 65 yX5_isVector, Cond.instanceMethod yX5_isVector, Cond.selects RX5 yX5_isVector yX5_isVector, Cond.initialized RX5, Cond.code yX5_isVector cX5_isVector 2 (some .boolean), Cond.fieldLink RX5 52 "SmallSpacesModel" "vectors" "I", Cond.methodLink RX5 58 yX5_in, Cond.static yX5_in, Cond.code yX5_in cX5_in 6 (some .boolean), Cond.methodLink RX5 142 yX5_mappedOf, Cond.instanceMethod yX5_mappedOf, Cond.selects RX5 yX5_mappedOf yX5_mappedOf, Cond.code yX5_mappedOf cX5_mappedOf 4 (some .int), Cond.fieldLink RX5 42 "SmallSpacesModel" "n" "I", Cond.fieldLink RX5 7 "SmallSpacesModel" "images" "[I", Cond.methodLink RX5 62 yX5_figure, Cond.instanceMethod yX5_figure, Cond.selects RX5 yX5_figure yX5_figure, Cond.code yX5_figure cX5_figure 3 (some .int), Cond.fieldLink RX5 38 "SmallSpacesModel" "q" "I", Cond.methodLink RX5 48 yX5_power, Cond.static yX5_power, Cond.code yX5_power cX5_power 4 (some .int), Cond.methodLink RX5 69 yX5_sum]
def wsX5_mapped_r2 : List Cond := [Cond.instanceMethod yX5_sum, Cond.selects RX5 yX5_sum yX5_sum, Cond.code yX5_sum cX5_sum 6 (some .int)]
def wsX5_mapped : List Cond := .code yX5_mapped cX5_mapped 2 (some .int) :: ((wsX5_mapped_r1 ++ wsX5_mapped_r2) ++ wsX50)
def wsX5_step_r1 : List Cond := [Cond.fieldLink RX5 76 "SmallSpacesModel" "worked" "I", Cond.fieldLink RX5 13 "SmallSpacesModel" "work" "[I", Cond.methodLink RX5 142 yX5_mappedOf, Cond.instanceMethod yX5_mappedOf, Cond.selects RX5 yX5_mappedOf yX5_mappedOf, Cond.initialized RX5, Cond.code yX5_mappedOf cX5_mappedOf 4 (some .int), Cond.fieldLink RX5 42 "SmallSpacesModel" "n" "I", Cond.fieldLink RX5 7 "SmallSpacesModel" "images" "[I", Cond.methodLink RX5 62 yX5_figure, Cond.instanceMethod yX5_figure, Cond.selects RX5 yX5_figure yX5_figure, Cond.code yX5_figure cX5_figure 3 (some .int), Cond.fieldLink RX5 38 "SmallSpacesModel" "q" "I", Cond.methodLink RX5 48 yX5_power, Cond.static yX5_power, Cond.code yX5_power cX5_power 4 (some .int), Cond.methodLink RX5 69 yX5_sum, Cond.instanceMethod yX5_sum, Cond.selects RX5 yX5_sum yX5_sum, Cond.code yX5_sum cX5_sum 6 (some .int), Cond.methodLink RX5 83 yX5_settle, Cond.instanceMethod yX5_settle, Cond.selects RX5 yX5_settle yX5_settle]
def wsX5_step_r2 : List Cond := [Cond.code yX5_settle cX5_settle 8 none]
def wsX5_step : List Cond := .code yX5_step cX5_step 2 none :: ((wsX5_step_r1 ++ wsX5_step_r2) ++ wsX50)
def wsX5_map_r1 : List Cond := [Cond.fieldLink RX5 76 "SmallSpacesModel" "worked" "I", Cond.methodLink RX5 98 yX5_areSlots, Cond.static yX5_areSlots, Cond.initialized RX5, Cond.code yX5_areSlots cX5_areSlots 3 (some .boolean), Cond.methodLink RX5 88 yX5_isSlot, Cond.static yX5_isSlot, Cond.code yX5_isSlot cX5_isSlot 1 (some .boolean), Cond.constantLong RX5 86 (11), Cond.methodLink RX5 58 yX5_in, Cond.static yX5_in, Cond.code yX5_in cX5_in 6 (some .boolean), Cond.methodLink RX5 91 yX5_load, Cond.instanceMethod yX5_load, Cond.selects RX5 yX5_load yX5_load, Cond.code yX5_load cX5_load 3 none, Cond.fieldLink RX5 20 "SmallSpacesModel" "dims" "[I", Cond.fieldLink RX5 13 "SmallSpacesModel" "work" "[I", Cond.fieldLink RX5 23 "SmallSpacesModel" "rows" "[I", Cond.methodLink RX5 145 yX5_step, Cond.instanceMethod yX5_step, Cond.selects RX5 yX5_step yX5_step, Cond.code yX5_step cX5_step 2 none, Cond.methodLink RX5 142 yX5_mappedOf]
def wsX5_map_r2 : List Cond := [Cond.instanceMethod yX5_mappedOf, Cond.selects RX5 yX5_mappedOf yX5_mappedOf, Cond.code yX5_mappedOf cX5_mappedOf 4 (some .int), Cond.fieldLink RX5 42 "SmallSpacesModel" "n" "I", Cond.fieldLink RX5 7 "SmallSpacesModel" "images" "[I", Cond.methodLink RX5 62 yX5_figure, Cond.instanceMethod yX5_figure, Cond.selects RX5 yX5_figure yX5_figure, Cond.code yX5_figure cX5_figure 3 (some .int), Cond.fieldLink RX5 38 "SmallSpacesModel" "q" "I", Cond.methodLink RX5 48 yX5_power, Cond.static yX5_power, Cond.code yX5_power cX5_power 4 (some .int), Cond.methodLink RX5 69 yX5_sum, Cond.instanceMethod yX5_sum, Cond.selects RX5 yX5_sum yX5_sum, Cond.code yX5_sum cX5_sum 6 (some .int), Cond.methodLink RX5 83 yX5_settle, Cond.instanceMethod yX5_settle, Cond.selects RX5 yX5_settle yX5_settle, Cond.code yX5_settle cX5_settle 8 none, Cond.methodLink RX5 95 yX5_save, Cond.instanceMethod yX5_save, Cond.selects RX5 yX5_save yX5_save]
def wsX5_map_r3 : List Cond := [Cond.code yX5_save cX5_save 3 (some .int)]
def wsX5_map : List Cond := .code yX5_map cX5_map 3 (some .int) :: ((wsX5_map_r1 ++ (wsX5_map_r2 ++ wsX5_map_r3)) ++ wsX50)
def wsX5_kernel_r1 : List Cond := [Cond.fieldLink RX5 42 "SmallSpacesModel" "n" "I", Cond.fieldLink RX5 76 "SmallSpacesModel" "worked" "I", Cond.fieldLink RX5 38 "SmallSpacesModel" "q" "I", Cond.fieldLink RX5 7 "SmallSpacesModel" "images" "[I", Cond.fieldLink RX5 13 "SmallSpacesModel" "work" "[I", Cond.methodLink RX5 88 yX5_isSlot, Cond.static yX5_isSlot, Cond.initialized RX5, Cond.code yX5_isSlot cX5_isSlot 1 (some .boolean), Cond.constantLong RX5 86 (11), Cond.methodLink RX5 58 yX5_in, Cond.static yX5_in, Cond.code yX5_in cX5_in 6 (some .boolean), Cond.methodLink RX5 62 yX5_figure, Cond.instanceMethod yX5_figure, Cond.selects RX5 yX5_figure yX5_figure, Cond.code yX5_figure cX5_figure 3 (some .int), Cond.methodLink RX5 48 yX5_power, Cond.static yX5_power, Cond.code yX5_power cX5_power 4 (some .int), Cond.methodLink RX5 83 yX5_settle, Cond.instanceMethod yX5_settle, Cond.selects RX5 yX5_settle yX5_settle, Cond.code yX5_settle cX5_settle 8 none]
def wsX5_kernel_r2 : List Cond := [Cond.methodLink RX5 69 yX5_sum, Cond.instanceMethod yX5_sum, Cond.selects RX5 yX5_sum yX5_sum, Cond.code yX5_sum cX5_sum 6 (some .int), Cond.methodLink RX5 105 yX5_turn, Cond.instanceMethod yX5_turn, Cond.selects RX5 yX5_turn yX5_turn, Cond.code yX5_turn cX5_turn 6 none, Cond.fieldLink RX5 16 "SmallSpacesModel" "isPivot" "[Z", Cond.methodLink RX5 79 yX5_pivot, Cond.instanceMethod yX5_pivot, Cond.selects RX5 yX5_pivot yX5_pivot, Cond.code yX5_pivot cX5_pivot 3 (some .int), Cond.methodLink RX5 95 yX5_save, Cond.instanceMethod yX5_save, Cond.selects RX5 yX5_save yX5_save, Cond.code yX5_save cX5_save 3 (some .int), Cond.fieldLink RX5 20 "SmallSpacesModel" "dims" "[I", Cond.fieldLink RX5 23 "SmallSpacesModel" "rows" "[I"]
def wsX5_kernel : List Cond := .code yX5_kernel cX5_kernel 5 (some .int) :: ((wsX5_kernel_r1 ++ wsX5_kernel_r2) ++ wsX50)
def wsX5_round_r1 : List Cond := [Cond.fieldLink RX5 148 "SmallSpacesModel" "rounds" "I", Cond.fieldLink RX5 76 "SmallSpacesModel" "worked" "I", Cond.fieldLink RX5 20 "SmallSpacesModel" "dims" "[I", Cond.fieldLink RX5 13 "SmallSpacesModel" "work" "[I", Cond.fieldLink RX5 23 "SmallSpacesModel" "rows" "[I", Cond.methodLink RX5 88 yX5_isSlot, Cond.static yX5_isSlot, Cond.initialized RX5, Cond.code yX5_isSlot cX5_isSlot 1 (some .boolean), Cond.constantLong RX5 86 (11), Cond.methodLink RX5 58 yX5_in, Cond.static yX5_in, Cond.code yX5_in cX5_in 6 (some .boolean), Cond.methodLink RX5 91 yX5_load, Cond.instanceMethod yX5_load, Cond.selects RX5 yX5_load yX5_load, Cond.code yX5_load cX5_load 3 none, Cond.methodLink RX5 145 yX5_step, Cond.instanceMethod yX5_step, Cond.selects RX5 yX5_step yX5_step, Cond.code yX5_step cX5_step 2 none, Cond.methodLink RX5 142 yX5_mappedOf, Cond.instanceMethod yX5_mappedOf, Cond.selects RX5 yX5_mappedOf yX5_mappedOf]
def wsX5_round_r2 : List Cond := [Cond.code yX5_mappedOf cX5_mappedOf 4 (some .int), Cond.fieldLink RX5 42 "SmallSpacesModel" "n" "I", Cond.fieldLink RX5 7 "SmallSpacesModel" "images" "[I", Cond.methodLink RX5 62 yX5_figure, Cond.instanceMethod yX5_figure, Cond.selects RX5 yX5_figure yX5_figure, Cond.code yX5_figure cX5_figure 3 (some .int), Cond.fieldLink RX5 38 "SmallSpacesModel" "q" "I", Cond.methodLink RX5 48 yX5_power, Cond.static yX5_power, Cond.code yX5_power cX5_power 4 (some .int), Cond.methodLink RX5 69 yX5_sum, Cond.instanceMethod yX5_sum, Cond.selects RX5 yX5_sum yX5_sum, Cond.code yX5_sum cX5_sum 6 (some .int), Cond.methodLink RX5 83 yX5_settle, Cond.instanceMethod yX5_settle, Cond.selects RX5 yX5_settle yX5_settle, Cond.code yX5_settle cX5_settle 8 none]
def wsX5_round : List Cond := .code yX5_round cX5_round 5 (some .int) :: ((wsX5_round_r1 ++ wsX5_round_r2) ++ wsX50)
def wsX5_told : List Cond := .code yX5_told cX5_told 2 (some .int) :: ([.fieldLink RX5 38 "SmallSpacesModel" "q" "I", .fieldLink RX5 42 "SmallSpacesModel" "n" "I", .fieldLink RX5 52 "SmallSpacesModel" "vectors" "I", .fieldLink RX5 55 "SmallSpacesModel" "heapMany" "I", .fieldLink RX5 139 "SmallSpacesModel" "greedies" "I", .fieldLink RX5 148 "SmallSpacesModel" "rounds" "I"] ++ wsX50)
def wsX5_digest : List Cond := .code yX5_digest cX5_digest 5 (some .long) :: ([.constantLong RX5 151 (167), .constantLong RX5 153 (31), .fieldLink RX5 38 "SmallSpacesModel" "q" "I", .fieldLink RX5 42 "SmallSpacesModel" "n" "I", .fieldLink RX5 20 "SmallSpacesModel" "dims" "[I", .fieldLink RX5 23 "SmallSpacesModel" "rows" "[I", .fieldLink RX5 55 "SmallSpacesModel" "heapMany" "I", .fieldLink RX5 32 "SmallSpacesModel" "heapDims" "[I", .fieldLink RX5 35 "SmallSpacesModel" "heapRows" "[I", .fieldLink RX5 7 "SmallSpacesModel" "images" "[I", .fieldLink RX5 139 "SmallSpacesModel" "greedies" "I", .fieldLink RX5 148 "SmallSpacesModel" "rounds" "I"] ++ wsX50)
def wsJ9_min_7cf53 : List Cond := .code yJ9_min_7cf53 cJ9_min_7cf53 2 (some .int) :: ([])
def wsL_law_r1 : List Cond := [Cond.classLink RL 7 RX4, Cond.instantiable RX4 9, Cond.initialized RX4, Cond.classLink RL 10 RX5, Cond.instantiable RX5 16, Cond.initialized RX5, Cond.methodLink RL 9 yX4_init, Cond.instanceMethod yX4_init, Cond.code yX4_init cX4_init 2 none, Cond.methodLink RX4 1 objectInit, Cond.instanceMethod objectInit, Cond.code objectInit ⟨#[0xb1]⟩ 1 none, Cond.classLink RX4 7 RX0, Cond.instantiable RX0 3, Cond.initialized RX0, Cond.fieldLink RX4 10 "SmallSpaces" "frame" "LSmallSpaces$Frame;", Cond.classLink RX4 16 RX3, Cond.fieldLink RX4 18 "SmallSpaces" "slots" "[LSmallSpaces$Space;", Cond.instantiable RX3 4, Cond.initialized RX3, Cond.classLink RX4 25 RX1, Cond.instantiable RX1 3, Cond.initialized RX1, Cond.fieldLink RX4 28 "SmallSpaces" "heap" "LSmallSpaces$Heap;"]
def wsL_law_r2 : List Cond := [Cond.classLink RX4 32 RX2, Cond.instantiable RX2 3, Cond.initialized RX2, Cond.fieldLink RX4 35 "SmallSpaces" "linear" "LSmallSpaces$Linear;", Cond.fieldLink RX4 39 "SmallSpaces" "made" "LSmallSpaces$Space;", Cond.fieldLink RX4 43 "SmallSpaces" "other" "LSmallSpaces$Space;", Cond.arrayClass .int, Cond.fieldLink RX4 46 "SmallSpaces" "figures" "[I", Cond.instanceMethod yX0_init, Cond.code yX0_init cX0_init 1 none, Cond.methodLink RX0 1 objectInit, Cond.methodLink RX0 7 yX0_become, Cond.instanceMethod yX0_become, Cond.selects RX0 yX0_become yX0_become, Cond.code yX0_become cX0_become 3 none, Cond.fieldLink RX0 13 "SmallSpaces$Frame" "q" "I", Cond.fieldLink RX0 17 "SmallSpaces$Frame" "n" "I", Cond.fieldLink RX0 24 "SmallSpaces$Frame" "vectors" "I", Cond.methodLink RX0 20 yX0_power, Cond.instanceMethod yX0_power, Cond.selects RX0 yX0_power yX0_power, Cond.code yX0_power cX0_power 4 (some .int), Cond.instanceMethod yX3_init, Cond.code yX3_init cX3_init 2 none]
def wsL_law_r3 : List Cond := [Cond.methodLink RX3 3 objectInit, Cond.fieldLink RX3 9 "SmallSpaces$Space" "cells" "[I", Cond.fieldLink RX3 15 "SmallSpaces$Space" "fresh" "[I", Cond.fieldLink RX3 18 "SmallSpaces$Space" "frame" "LSmallSpaces$Frame;", Cond.instanceMethod yX1_init, Cond.code yX1_init cX1_init 3 none, Cond.methodLink RX1 3 objectInit, Cond.classLink RX1 9 RX3, Cond.fieldLink RX1 11 "SmallSpaces$Heap" "spaces" "[LSmallSpaces$Space;", Cond.fieldLink RX1 20 "SmallSpaces$Heap" "joined" "LSmallSpaces$Space;", Cond.instanceMethod yX2_init, Cond.code yX2_init cX2_init 2 none, Cond.methodLink RX2 3 objectInit, Cond.fieldLink RX2 9 "SmallSpaces$Linear" "cells" "[I", Cond.fieldLink RX2 15 "SmallSpaces$Linear" "result" "[I", Cond.fieldLink RX2 18 "SmallSpaces$Linear" "frame" "LSmallSpaces$Frame;", Cond.methodLink RX2 22 yX2_becomeIdentity, Cond.instanceMethod yX2_becomeIdentity, Cond.selects RX2 yX2_becomeIdentity yX2_becomeIdentity, Cond.code yX2_becomeIdentity cX2_becomeIdentity 2 none, Cond.methodLink RX2 25 yJ7_fill_53178, Cond.static yJ7_fill_53178, Cond.initialized RJ7, Cond.code yJ7_fill_53178 cJ7_fill_53178 4 none]
def wsL_law_r4 : List Cond := [Cond.methodLink RL 12 yX5_init, Cond.instanceMethod yX5_init, Cond.code yX5_init cX5_init 1 none, Cond.methodLink RX5 1 objectInit, Cond.fieldLink RX5 7 "SmallSpacesModel" "images" "[I", Cond.fieldLink RX5 13 "SmallSpacesModel" "work" "[I", Cond.arrayClass .boolean, Cond.fieldLink RX5 16 "SmallSpacesModel" "isPivot" "[Z", Cond.fieldLink RX5 20 "SmallSpacesModel" "dims" "[I", Cond.fieldLink RX5 23 "SmallSpacesModel" "rows" "[I", Cond.fieldLink RX5 26 "SmallSpacesModel" "aside" "[I", Cond.fieldLink RX5 29 "SmallSpacesModel" "pivots" "[I", Cond.fieldLink RX5 32 "SmallSpacesModel" "heapDims" "[I", Cond.fieldLink RX5 35 "SmallSpacesModel" "heapRows" "[I", Cond.fieldLink RX5 38 "SmallSpacesModel" "q" "I", Cond.fieldLink RX5 42 "SmallSpacesModel" "n" "I", Cond.methodLink RX5 45 yX5_begin, Cond.instanceMethod yX5_begin, Cond.selects RX5 yX5_begin yX5_begin, Cond.code yX5_begin cX5_begin 2 none, Cond.fieldLink RX5 52 "SmallSpacesModel" "vectors" "I", Cond.fieldLink RX5 55 "SmallSpacesModel" "heapMany" "I", Cond.methodLink RX5 48 yX5_power, Cond.static yX5_power]
def wsL_law_r5 : List Cond := [Cond.code yX5_power cX5_power 4 (some .int), Cond.methodLink RL 13 yX4_field, Cond.instanceMethod yX4_field, Cond.selects RX4 yX4_field yX4_field, Cond.code yX4_field cX4_field 4 (some .int), Cond.methodLink RX4 50 yX4_mostPlaces, Cond.static yX4_mostPlaces, Cond.code yX4_mostPlaces cX4_mostPlaces 1 (some .int), Cond.instanceMethod yX3_becomeZero, Cond.selects RX3 yX3_becomeZero yX3_becomeZero, Cond.code yX3_becomeZero cX3_becomeZero 1 none, Cond.fieldLink RX3 22 "SmallSpaces$Space" "pivots" "I", Cond.methodLink RL 17 yX5_field, Cond.instanceMethod yX5_field, Cond.selects RX5 yX5_field yX5_field, Cond.code yX5_field cX5_field 4 (some .int), Cond.methodLink RX5 58 yX5_in, Cond.static yX5_in, Cond.code yX5_in cX5_in 6 (some .boolean), Cond.methodLink RL 18 yX4_plus, Cond.instanceMethod yX4_plus, Cond.selects RX4 yX4_plus yX4_plus, Cond.code yX4_plus cX4_plus 4 (some .int), Cond.instanceMethod yX0_isVector]
def wsL_law_r6 : List Cond := [Cond.selects RX0 yX0_isVector yX0_isVector, Cond.code yX0_isVector cX0_isVector 2 (some .boolean), Cond.instanceMethod yX0_sum, Cond.selects RX0 yX0_sum yX0_sum, Cond.code yX0_sum cX0_sum 9 (some .int), Cond.methodLink RL 22 yX5_plus, Cond.instanceMethod yX5_plus, Cond.selects RX5 yX5_plus yX5_plus, Cond.code yX5_plus cX5_plus 4 (some .int), Cond.methodLink RX5 65 yX5_isVector, Cond.instanceMethod yX5_isVector, Cond.selects RX5 yX5_isVector yX5_isVector, Cond.code yX5_isVector cX5_isVector 2 (some .boolean), Cond.methodLink RX5 69 yX5_sum, Cond.instanceMethod yX5_sum, Cond.selects RX5 yX5_sum yX5_sum, Cond.code yX5_sum cX5_sum 6 (some .int), Cond.methodLink RX5 62 yX5_figure, Cond.instanceMethod yX5_figure, Cond.selects RX5 yX5_figure yX5_figure, Cond.code yX5_figure cX5_figure 3 (some .int), Cond.methodLink RL 23 yX4_times, Cond.instanceMethod yX4_times, Cond.selects RX4 yX4_times yX4_times]
def wsL_law_r7 : List Cond := [Cond.code yX4_times cX4_times 3 (some .int), Cond.instanceMethod yX0_product, Cond.selects RX0 yX0_product yX0_product, Cond.code yX0_product cX0_product 7 (some .int), Cond.methodLink RL 26 yX5_times, Cond.instanceMethod yX5_times, Cond.selects RX5 yX5_times yX5_times, Cond.code yX5_times cX5_times 3 (some .int), Cond.methodLink RX5 73 yX5_product, Cond.instanceMethod yX5_product, Cond.selects RX5 yX5_product yX5_product, Cond.code yX5_product cX5_product 5 (some .int), Cond.methodLink RL 27 yX4_add, Cond.instanceMethod yX4_add, Cond.selects RX4 yX4_add yX4_add, Cond.code yX4_add cX4_add 3 (some .int), Cond.methodLink RX4 86 yX4_isSlot, Cond.static yX4_isSlot, Cond.code yX4_isSlot cX4_isSlot 1 (some .boolean), Cond.instanceMethod yX0_spell, Cond.selects RX0 yX0_spell yX0_spell, Cond.code yX0_spell cX0_spell 6 none, Cond.instanceMethod yX3_joinVector, Cond.selects RX3 yX3_joinVector yX3_joinVector]
def wsL_law_r8 : List Cond := [Cond.code yX3_joinVector cX3_joinVector 3 none, Cond.methodLink RX3 26 arraycopyName, Cond.native arraycopyName, Cond.static arraycopyName, Cond.initialized "java/lang/System", Cond.methodLink RX3 66 yX3_joinFresh, Cond.instanceMethod yX3_joinFresh, Cond.selects RX3 yX3_joinFresh yX3_joinFresh, Cond.code yX3_joinFresh cX3_joinFresh 4 none, Cond.methodLink RX3 69 yX3_reduceFresh, Cond.instanceMethod yX3_reduceFresh, Cond.selects RX3 yX3_reduceFresh yX3_reduceFresh, Cond.code yX3_reduceFresh cX3_reduceFresh 2 none, Cond.methodLink RX3 43 yX3_isPivot, Cond.instanceMethod yX3_isPivot, Cond.selects RX3 yX3_isPivot yX3_isPivot, Cond.code yX3_isPivot cX3_isPivot 2 (some .boolean), Cond.instanceMethod yX0_addMultiple, Cond.selects RX0 yX0_addMultiple yX0_addMultiple, Cond.code yX0_addMultiple cX0_addMultiple 7 none, Cond.instanceMethod yX0_inverse, Cond.selects RX0 yX0_inverse yX0_inverse, Cond.code yX0_inverse cX0_inverse 2 (some .int), Cond.methodLink RX3 75 yX3_takeRow]
def wsL_law_r9 : List Cond := [Cond.instanceMethod yX3_takeRow, Cond.selects RX3 yX3_takeRow yX3_takeRow, Cond.code yX3_takeRow cX3_takeRow 4 none, Cond.instanceMethod yX3_rank, Cond.selects RX3 yX3_rank yX3_rank, Cond.code yX3_rank cX3_rank 1 (some .int), Cond.methodLink RX3 32 yJ6_bitCount_0f7a4, Cond.static yJ6_bitCount_0f7a4, Cond.initialized RJ6, Cond.code yJ6_bitCount_0f7a4 cJ6_bitCount_0f7a4 1 (some .int), Cond.constant RJ6 265 (1431655765), Cond.constant RJ6 266 (858993459), Cond.constant RJ6 267 (252645135), Cond.methodLink RL 30 yX5_add, Cond.instanceMethod yX5_add, Cond.selects RX5 yX5_add yX5_add, Cond.code yX5_add cX5_add 3 (some .int), Cond.fieldLink RX5 76 "SmallSpacesModel" "worked" "I", Cond.methodLink RX5 88 yX5_isSlot, Cond.static yX5_isSlot, Cond.code yX5_isSlot cX5_isSlot 1 (some .boolean), Cond.constantLong RX5 86 (11), Cond.methodLink RX5 91 yX5_load, Cond.instanceMethod yX5_load]
def wsL_law_r10 : List Cond := [Cond.selects RX5 yX5_load yX5_load, Cond.code yX5_load cX5_load 3 none, Cond.methodLink RX5 83 yX5_settle, Cond.instanceMethod yX5_settle, Cond.selects RX5 yX5_settle yX5_settle, Cond.code yX5_settle cX5_settle 8 none, Cond.methodLink RX5 95 yX5_save, Cond.instanceMethod yX5_save, Cond.selects RX5 yX5_save yX5_save, Cond.code yX5_save cX5_save 3 (some .int), Cond.methodLink RL 31 yX4_clear, Cond.instanceMethod yX4_clear, Cond.selects RX4 yX4_clear yX4_clear, Cond.code yX4_clear cX4_clear 3 (some .int), Cond.methodLink RL 35 yX5_clear, Cond.instanceMethod yX5_clear, Cond.selects RX5 yX5_clear yX5_clear, Cond.code yX5_clear cX5_clear 3 (some .int), Cond.methodLink RL 36 yX4_dim, Cond.instanceMethod yX4_dim, Cond.selects RX4 yX4_dim yX4_dim, Cond.code yX4_dim cX4_dim 2 (some .int), Cond.methodLink RL 39 yX5_dim, Cond.instanceMethod yX5_dim]
def wsL_law_r11 : List Cond := [Cond.selects RX5 yX5_dim yX5_dim, Cond.code yX5_dim cX5_dim 2 (some .int), Cond.methodLink RL 40 yX4_row, Cond.instanceMethod yX4_row, Cond.selects RX4 yX4_row yX4_row, Cond.code yX4_row cX4_row 3 (some .int), Cond.instanceMethod yX3_rowNumber, Cond.selects RX3 yX3_rowNumber yX3_rowNumber, Cond.code yX3_rowNumber cX3_rowNumber 4 (some .int), Cond.instanceMethod yX0_vectorNumber, Cond.selects RX0 yX0_vectorNumber yX0_vectorNumber, Cond.code yX0_vectorNumber cX0_vectorNumber 5 (some .int), Cond.methodLink RL 43 yX5_row, Cond.instanceMethod yX5_row, Cond.selects RX5 yX5_row yX5_row, Cond.code yX5_row cX5_row 3 (some .int), Cond.methodLink RL 44 yX4_join, Cond.instanceMethod yX4_join, Cond.selects RX4 yX4_join yX4_join, Cond.code yX4_join cX4_join 4 (some .int), Cond.instanceMethod yX3_copyFrom, Cond.selects RX3 yX3_copyFrom yX3_copyFrom, Cond.code yX3_copyFrom cX3_copyFrom 2 none, Cond.instanceMethod yX3_joinSpace]
def wsL_law_r12 : List Cond := [Cond.selects RX3 yX3_joinSpace yX3_joinSpace, Cond.code yX3_joinSpace cX3_joinSpace 3 none, Cond.methodLink RX4 111 yX4_settle, Cond.instanceMethod yX4_settle, Cond.selects RX4 yX4_settle yX4_settle, Cond.code yX4_settle cX4_settle 3 (some .int), Cond.methodLink RL 47 yX5_join, Cond.instanceMethod yX5_join, Cond.selects RX5 yX5_join yX5_join, Cond.code yX5_join cX5_join 4 (some .int), Cond.methodLink RX5 98 yX5_areSlots, Cond.static yX5_areSlots, Cond.code yX5_areSlots cX5_areSlots 3 (some .boolean), Cond.methodLink RX5 102 yX5_joined, Cond.instanceMethod yX5_joined, Cond.selects RX5 yX5_joined yX5_joined, Cond.code yX5_joined cX5_joined 3 (some .int), Cond.methodLink RL 48 yX4_meet, Cond.instanceMethod yX4_meet, Cond.selects RX4 yX4_meet yX4_meet, Cond.code yX4_meet cX4_meet 4 (some .int), Cond.instanceMethod yX3_becomeDual, Cond.selects RX3 yX3_becomeDual yX3_becomeDual, Cond.code yX3_becomeDual cX3_becomeDual 4 none]
def wsL_law_r13 : List Cond := [Cond.methodLink RX3 83 yX3_becomeZero, Cond.methodLink RX3 86 yJ7_fill_53178, Cond.methodLink RL 51 yX5_meet, Cond.instanceMethod yX5_meet, Cond.selects RX5 yX5_meet yX5_meet, Cond.code yX5_meet cX5_meet 6 (some .int), Cond.methodLink RX5 105 yX5_turn, Cond.instanceMethod yX5_turn, Cond.selects RX5 yX5_turn yX5_turn, Cond.code yX5_turn cX5_turn 6 none, Cond.methodLink RX5 79 yX5_pivot, Cond.instanceMethod yX5_pivot, Cond.selects RX5 yX5_pivot yX5_pivot, Cond.code yX5_pivot cX5_pivot 3 (some .int), Cond.methodLink RL 52 yX4_dual, Cond.instanceMethod yX4_dual, Cond.selects RX4 yX4_dual yX4_dual, Cond.code yX4_dual cX4_dual 3 (some .int), Cond.methodLink RL 55 yX5_dual, Cond.instanceMethod yX5_dual, Cond.selects RX5 yX5_dual yX5_dual, Cond.code yX5_dual cX5_dual 3 (some .int), Cond.methodLink RL 56 yX4_has, Cond.instanceMethod yX4_has]
def wsL_law_r14 : List Cond := [Cond.selects RX4 yX4_has yX4_has, Cond.code yX4_has cX4_has 3 (some .int), Cond.instanceMethod yX3_holds, Cond.selects RX3 yX3_holds yX3_holds, Cond.code yX3_holds cX3_holds 4 (some .boolean), Cond.methodLink RX3 51 yX3_settledFigure, Cond.instanceMethod yX3_settledFigure, Cond.selects RX3 yX3_settledFigure yX3_settledFigure, Cond.code yX3_settledFigure cX3_settledFigure 6 (some .int), Cond.methodLink RL 59 yX5_has, Cond.instanceMethod yX5_has, Cond.selects RX5 yX5_has yX5_has, Cond.code yX5_has cX5_has 3 (some .int), Cond.methodLink RX5 108 yX5_holds, Cond.instanceMethod yX5_holds, Cond.selects RX5 yX5_holds yX5_holds, Cond.code yX5_holds cX5_holds 6 (some .boolean), Cond.methodLink RL 60 yX4_within, Cond.instanceMethod yX4_within, Cond.selects RX4 yX4_within yX4_within, Cond.code yX4_within cX4_within 3 (some .int), Cond.instanceMethod yX3_liesIn, Cond.selects RX3 yX3_liesIn yX3_liesIn, Cond.code yX3_liesIn cX3_liesIn 3 (some .boolean)]
def wsL_law_r15 : List Cond := [Cond.methodLink RX3 58 yX3_holds, Cond.methodLink RL 63 yX5_within, Cond.instanceMethod yX5_within, Cond.selects RX5 yX5_within yX5_within, Cond.code yX5_within cX5_within 5 (some .int), Cond.methodLink RL 64 yX4_apart, Cond.instanceMethod yX4_apart, Cond.selects RX4 yX4_apart yX4_apart, Cond.code yX4_apart cX4_apart 3 (some .int), Cond.instanceMethod yX3_distance, Cond.selects RX3 yX3_distance yX3_distance, Cond.code yX3_distance cX3_distance 3 (some .int), Cond.methodLink RX3 92 yX3_copyFrom, Cond.methodLink RX3 96 yX3_joinSpace, Cond.methodLink RX3 99 yX3_rank, Cond.methodLink RL 67 yX5_apart, Cond.instanceMethod yX5_apart, Cond.selects RX5 yX5_apart yX5_apart, Cond.code yX5_apart cX5_apart 3 (some .int), Cond.methodLink RL 68 yX4_number, Cond.instanceMethod yX4_number, Cond.selects RX4 yX4_number yX4_number, Cond.code yX4_number cX4_number 2 (some .int), Cond.instanceMethod yX3_ordinal]
def wsL_law_r16 : List Cond := [Cond.selects RX3 yX3_ordinal yX3_ordinal, Cond.code yX3_ordinal cX3_ordinal 4 (some .int), Cond.methodLink RX3 103 yX3_freeCells, Cond.instanceMethod yX3_freeCells, Cond.selects RX3 yX3_freeCells yX3_freeCells, Cond.code yX3_freeCells cX3_freeCells 5 (some .int), Cond.methodLink RX3 109 yX3_cellsValue, Cond.instanceMethod yX3_cellsValue, Cond.selects RX3 yX3_cellsValue yX3_cellsValue, Cond.code yX3_cellsValue cX3_cellsValue 4 (some .int), Cond.methodLink RL 71 yX5_number, Cond.instanceMethod yX5_number, Cond.selects RX5 yX5_number yX5_number, Cond.code yX5_number cX5_number 8 (some .int), Cond.methodLink RX5 115 yX5_firstPivots, Cond.instanceMethod yX5_firstPivots, Cond.selects RX5 yX5_firstPivots yX5_firstPivots, Cond.code yX5_firstPivots cX5_firstPivots 3 none, Cond.methodLink RX5 118 yX5_free, Cond.instanceMethod yX5_free, Cond.selects RX5 yX5_free yX5_free, Cond.code yX5_free cX5_free 4 (some .int), Cond.methodLink RX5 121 yX5_goOn, Cond.instanceMethod yX5_goOn]
def wsL_law_r17 : List Cond := [Cond.selects RX5 yX5_goOn yX5_goOn, Cond.code yX5_goOn cX5_goOn 4 (some .boolean), Cond.methodLink RX5 124 yX5_isFree, Cond.instanceMethod yX5_isFree, Cond.selects RX5 yX5_isFree yX5_isFree, Cond.code yX5_isFree cX5_isFree 6 (some .boolean), Cond.methodLink RL 72 yX4_numbered, Cond.instanceMethod yX4_numbered, Cond.selects RX4 yX4_numbered yX4_numbered, Cond.code yX4_numbered cX4_numbered 4 (some .int), Cond.methodLink RX4 133 yX4_isDim, Cond.instanceMethod yX4_isDim, Cond.selects RX4 yX4_isDim yX4_isDim, Cond.code yX4_isDim cX4_isDim 2 (some .boolean), Cond.instanceMethod yX0_spaces, Cond.selects RX0 yX0_spaces yX0_spaces, Cond.code yX0_spaces cX0_spaces 5 (some .int), Cond.instanceMethod yX3_becomeOrdinal, Cond.selects RX3 yX3_becomeOrdinal yX3_becomeOrdinal, Cond.code yX3_becomeOrdinal cX3_becomeOrdinal 6 none, Cond.methodLink RX3 112 yX3_fillCells, Cond.instanceMethod yX3_fillCells, Cond.selects RX3 yX3_fillCells yX3_fillCells, Cond.code yX3_fillCells cX3_fillCells 5 none]
def wsL_law_r18 : List Cond := [Cond.methodLink RL 75 yX5_numbered, Cond.instanceMethod yX5_numbered, Cond.selects RX5 yX5_numbered yX5_numbered, Cond.code yX5_numbered cX5_numbered 4 (some .int), Cond.methodLink RX5 112 yX5_gauss, Cond.instanceMethod yX5_gauss, Cond.selects RX5 yX5_gauss yX5_gauss, Cond.code yX5_gauss cX5_gauss 8 (some .int), Cond.methodLink RX5 127 yX5_lay, Cond.instanceMethod yX5_lay, Cond.selects RX5 yX5_lay yX5_lay, Cond.code yX5_lay cX5_lay 8 none, Cond.methodLink RL 76 yX4_many, Cond.instanceMethod yX4_many, Cond.selects RX4 yX4_many yX4_many, Cond.code yX4_many cX4_many 2 (some .int), Cond.methodLink RL 79 yX5_many, Cond.instanceMethod yX5_many, Cond.selects RX5 yX5_many yX5_many, Cond.code yX5_many cX5_many 2 (some .int), Cond.methodLink RL 80 yX4_over, Cond.instanceMethod yX4_over, Cond.selects RX4 yX4_over yX4_over, Cond.code yX4_over cX4_over 4 (some .int)]
def wsL_law_r19 : List Cond := [Cond.methodLink RL 83 yX5_over, Cond.instanceMethod yX5_over, Cond.selects RX5 yX5_over yX5_over, Cond.code yX5_over cX5_over 3 (some .int), Cond.methodLink RL 84 yX4_meeting, Cond.instanceMethod yX4_meeting, Cond.selects RX4 yX4_meeting yX4_meeting, Cond.code yX4_meeting cX4_meeting 6 (some .int), Cond.methodLink RL 87 yX5_meeting, Cond.instanceMethod yX5_meeting, Cond.selects RX5 yX5_meeting yX5_meeting, Cond.code yX5_meeting cX5_meeting 6 (some .int), Cond.methodLink RL 88 yX4_put, Cond.instanceMethod yX4_put, Cond.selects RX4 yX4_put yX4_put, Cond.code yX4_put cX4_put 2 (some .int), Cond.instanceMethod yX1_accept, Cond.selects RX1 yX1_accept yX1_accept, Cond.code yX1_accept cX1_accept 2 none, Cond.fieldLink RX1 24 "SmallSpaces$Heap" "size" "I", Cond.methodLink RL 91 yX5_put, Cond.instanceMethod yX5_put, Cond.selects RX5 yX5_put yX5_put, Cond.code yX5_put cX5_put 2 (some .int)]
def wsL_law_r20 : List Cond := [Cond.methodLink RX5 131 yX5_toHeap, Cond.instanceMethod yX5_toHeap, Cond.selects RX5 yX5_toHeap yX5_toHeap, Cond.code yX5_toHeap cX5_toHeap 2 none, Cond.methodLink RL 92 yX4_empty, Cond.instanceMethod yX4_empty, Cond.selects RX4 yX4_empty yX4_empty, Cond.code yX4_empty cX4_empty 2 (some .int), Cond.methodLink RL 96 yX5_empty, Cond.instanceMethod yX5_empty, Cond.selects RX5 yX5_empty yX5_empty, Cond.code yX5_empty cX5_empty 2 (some .int), Cond.methodLink RL 97 yX4_take, Cond.instanceMethod yX4_take, Cond.selects RX4 yX4_take yX4_take, Cond.code yX4_take cX4_take 3 (some .int), Cond.methodLink RL 100 yX5_take, Cond.instanceMethod yX5_take, Cond.selects RX5 yX5_take yX5_take, Cond.code yX5_take cX5_take 3 (some .int), Cond.methodLink RX5 134 yX5_loadHeap, Cond.instanceMethod yX5_loadHeap, Cond.selects RX5 yX5_loadHeap yX5_loadHeap, Cond.code yX5_loadHeap cX5_loadHeap 3 none]
def wsL_law_r21 : List Cond := [Cond.methodLink RL 101 yX4_least, Cond.instanceMethod yX4_least, Cond.selects RX4 yX4_least yX4_least, Cond.code yX4_least cX4_least 1 (some .int), Cond.instanceMethod yX1_leastDistance, Cond.selects RX1 yX1_leastDistance yX1_leastDistance, Cond.code yX1_leastDistance cX1_leastDistance 5 (some .int), Cond.methodLink RL 104 yX5_least, Cond.instanceMethod yX5_least, Cond.selects RX5 yX5_least yX5_least, Cond.code yX5_least cX5_least 5 (some .int), Cond.methodLink RL 105 yX4_bare, Cond.instanceMethod yX4_bare, Cond.selects RX4 yX4_bare yX4_bare, Cond.code yX4_bare cX4_bare 3 (some .int), Cond.instanceMethod yX1_covers, Cond.selects RX1 yX1_covers yX1_covers, Cond.code yX1_covers cX1_covers 3 (some .boolean), Cond.methodLink RL 108 yX5_bare, Cond.instanceMethod yX5_bare, Cond.selects RX5 yX5_bare yX5_bare, Cond.code yX5_bare cX5_bare 8 (some .int), Cond.methodLink RL 109 yX4_greedy, Cond.instanceMethod yX4_greedy]
def wsL_law_r22 : List Cond := [Cond.selects RX4 yX4_greedy yX4_greedy, Cond.code yX4_greedy cX4_greedy 5 (some .int), Cond.fieldLink RX4 160 "SmallSpaces" "greedyDone" "I", Cond.instanceMethod yX1_allApart, Cond.selects RX1 yX1_allApart yX1_allApart, Cond.code yX1_allApart cX1_allApart 4 (some .boolean), Cond.methodLink RL 112 yX5_greedy, Cond.instanceMethod yX5_greedy, Cond.selects RX5 yX5_greedy yX5_greedy, Cond.code yX5_greedy cX5_greedy 7 (some .int), Cond.constantLong RX5 137 (12), Cond.fieldLink RX5 139 "SmallSpacesModel" "greedies" "I", Cond.methodLink RL 113 yX4_image, Cond.instanceMethod yX4_image, Cond.selects RX4 yX4_image yX4_image, Cond.code yX4_image cX4_image 4 (some .int), Cond.instanceMethod yX2_imageNumber, Cond.selects RX2 yX2_imageNumber yX2_imageNumber, Cond.code yX2_imageNumber cX2_imageNumber 2 (some .int), Cond.instanceMethod yX2_setImage, Cond.selects RX2 yX2_setImage yX2_setImage, Cond.code yX2_setImage cX2_setImage 3 none, Cond.methodLink RL 116 yX5_image, Cond.instanceMethod yX5_image]
def wsL_law_r23 : List Cond := [Cond.selects RX5 yX5_image yX5_image, Cond.code yX5_image cX5_image 4 (some .int), Cond.methodLink RL 117 yX4_mapped, Cond.instanceMethod yX4_mapped, Cond.selects RX4 yX4_mapped yX4_mapped, Cond.code yX4_mapped cX4_mapped 2 (some .int), Cond.instanceMethod yX2_apply, Cond.selects RX2 yX2_apply yX2_apply, Cond.code yX2_apply cX2_apply 2 (some .int), Cond.methodLink RX2 45 yX2_applyInto, Cond.instanceMethod yX2_applyInto, Cond.selects RX2 yX2_applyInto yX2_applyInto, Cond.code yX2_applyInto cX2_applyInto 4 none, Cond.methodLink RL 120 yX5_mapped, Cond.instanceMethod yX5_mapped, Cond.selects RX5 yX5_mapped yX5_mapped, Cond.code yX5_mapped cX5_mapped 2 (some .int), Cond.methodLink RX5 142 yX5_mappedOf, Cond.instanceMethod yX5_mappedOf, Cond.selects RX5 yX5_mappedOf yX5_mappedOf, Cond.code yX5_mappedOf cX5_mappedOf 4 (some .int), Cond.methodLink RL 121 yX4_map, Cond.instanceMethod yX4_map, Cond.selects RX4 yX4_map yX4_map]
def wsL_law_r24 : List Cond := [Cond.code yX4_map cX4_map 3 (some .int), Cond.instanceMethod yX2_applyToSpace, Cond.selects RX2 yX2_applyToSpace yX2_applyToSpace, Cond.code yX2_applyToSpace cX2_applyToSpace 4 none, Cond.methodLink RL 124 yX5_map, Cond.instanceMethod yX5_map, Cond.selects RX5 yX5_map yX5_map, Cond.code yX5_map cX5_map 3 (some .int), Cond.methodLink RX5 145 yX5_step, Cond.instanceMethod yX5_step, Cond.selects RX5 yX5_step yX5_step, Cond.code yX5_step cX5_step 2 none, Cond.methodLink RL 125 yX4_kernel, Cond.instanceMethod yX4_kernel, Cond.selects RX4 yX4_kernel yX4_kernel, Cond.code yX4_kernel cX4_kernel 2 (some .int), Cond.instanceMethod yX2_columnSpace, Cond.selects RX2 yX2_columnSpace yX2_columnSpace, Cond.code yX2_columnSpace cX2_columnSpace 4 none, Cond.methodLink RL 128 yX5_kernel, Cond.instanceMethod yX5_kernel, Cond.selects RX5 yX5_kernel yX5_kernel, Cond.code yX5_kernel cX5_kernel 5 (some .int), Cond.methodLink RL 129 yX4_round]
def wsL_law_r25 : List Cond := [Cond.instanceMethod yX4_round, Cond.selects RX4 yX4_round yX4_round, Cond.code yX4_round cX4_round 2 (some .int), Cond.fieldLink RX4 184 "SmallSpaces" "roundsDone" "I", Cond.methodLink RX4 187 yX4_timesTillAgain, Cond.instanceMethod yX4_timesTillAgain, Cond.selects RX4 yX4_timesTillAgain yX4_timesTillAgain, Cond.code yX4_timesTillAgain cX4_timesTillAgain 4 (some .int), Cond.methodLink RX4 201 Lib.Math.min.name, Cond.static Lib.Math.min.name, Cond.initialized "java/lang/Math", Cond.code Lib.Math.min.name Lib.Math.min.code 2 (some .int), Cond.instanceMethod yX3_sameAs, Cond.selects RX3 yX3_sameAs yX3_sameAs, Cond.code yX3_sameAs cX3_sameAs 2 (some .boolean), Cond.methodLink RX3 62 yX3_liesIn, Cond.methodLink RL 132 yX5_round, Cond.instanceMethod yX5_round, Cond.selects RX5 yX5_round yX5_round, Cond.code yX5_round cX5_round 5 (some .int), Cond.fieldLink RX5 148 "SmallSpacesModel" "rounds" "I", Cond.methodLink RL 133 yX4_told, Cond.instanceMethod yX4_told, Cond.selects RX4 yX4_told yX4_told]
def wsL_law_r26 : List Cond := [Cond.code yX4_told cX4_told 2 (some .int), Cond.methodLink RL 136 yX5_told, Cond.instanceMethod yX5_told, Cond.selects RX5 yX5_told yX5_told, Cond.code yX5_told cX5_told 2 (some .int), Cond.methodLink RL 137 yX4_digest, Cond.instanceMethod yX4_digest, Cond.selects RX4 yX4_digest yX4_digest, Cond.code yX4_digest cX4_digest 4 (some .long), Cond.constantLong RX4 191 (167), Cond.methodLink RX4 193 yX4_fold, Cond.static yX4_fold, Cond.code yX4_fold cX4_fold 3 (some .long), Cond.constantLong RX4 209 (31), Cond.methodLink RX4 197 yX4_foldSpace, Cond.static yX4_foldSpace, Cond.code yX4_foldSpace cX4_foldSpace 7 (some .long), Cond.methodLink RL 141 yX5_digest, Cond.instanceMethod yX5_digest, Cond.selects RX5 yX5_digest yX5_digest, Cond.code yX5_digest cX5_digest 5 (some .long), Cond.constantLong RX5 151 (167), Cond.constantLong RX5 153 (31)]
def wsL_law : List Cond := (wsL_law_r1 ++ (wsL_law_r2 ++ (wsL_law_r3 ++ (wsL_law_r4 ++ (wsL_law_r5 ++ (wsL_law_r6 ++ (wsL_law_r7 ++ (wsL_law_r8 ++ (wsL_law_r9 ++ (wsL_law_r10 ++ (wsL_law_r11 ++ (wsL_law_r12 ++ (wsL_law_r13 ++ (wsL_law_r14 ++ (wsL_law_r15 ++ (wsL_law_r16 ++ (wsL_law_r17 ++ (wsL_law_r18 ++ (wsL_law_r19 ++ (wsL_law_r20 ++ (wsL_law_r21 ++ (wsL_law_r22 ++ (wsL_law_r23 ++ (wsL_law_r24 ++ (wsL_law_r25 ++ wsL_law_r26))))))))))))))))))))))))) ++ wsX40 ++ wsX50 ++ wsX00 ++ wsX30 ++ wsX10 ++ wsX20 ++ ([] : List Cond)
set_option maxRecDepth 20000 in
theorem inlX0 : ∀ w ∈ wsX00, w ∈ wsL_law := fun _ h => List.mem_append_left _ (List.mem_append_left _ (List.mem_append_left _ (List.mem_append_left _ (List.mem_append_right _ h))))
theorem inlX1 : ∀ w ∈ wsX10, w ∈ wsL_law := fun _ h => List.mem_append_left _ (List.mem_append_left _ (List.mem_append_right _ h))
theorem inlX2 : ∀ w ∈ wsX20, w ∈ wsL_law := fun _ h => List.mem_append_left _ (List.mem_append_right _ h)
theorem inlX3 : ∀ w ∈ wsX30, w ∈ wsL_law := fun _ h => List.mem_append_left _ (List.mem_append_left _ (List.mem_append_left _ (List.mem_append_right _ h)))
theorem inlX4 : ∀ w ∈ wsX40, w ∈ wsL_law := fun _ h => List.mem_append_left _ (List.mem_append_left _ (List.mem_append_left _ (List.mem_append_left _ (List.mem_append_left _ (List.mem_append_left _ (List.mem_append_right _ h))))))
theorem inlX5 : ∀ w ∈ wsX50, w ∈ wsL_law := fun _ h => List.mem_append_left _ (List.mem_append_left _ (List.mem_append_left _ (List.mem_append_left _ (List.mem_append_left _ (List.mem_append_right _ h)))))
theorem inJ6 : ∀ w ∈ wsJ60, w ∈ lw_tbl := by decide +kernel
theorem inJ9 : ∀ w ∈ wsJ90, w ∈ lw_tbl := by decide +kernel
theorem inJ10 : ∀ w ∈ wsJ100, w ∈ lw_tbl := by decide +kernel
theorem inJ7 : ∀ w ∈ wsJ70, w ∈ lw_tbl := by decide +kernel
set_option maxRecDepth 20000 in
theorem ggX0_init_X0_become : GoodIn wsX0_init wsX0_become := goodIn_r _ [8, 9, 10, 11, 12, 13, 14, 7, 15, 16, 17, 18] (by decide +kernel) (by decide +kernel)
set_option maxRecDepth 20000 in
theorem gX0_init_X0_become : GoodIn wsX0_init (wsV RX0 7 RX0 yX0_become wsX0_become) := goodIn_app (goodIn_of _ (by decide +kernel)) ggX0_init_X0_become
theorem dX0_init_0 : decode cX0_init 0 = .ok (.aload_n 0, 1) := by decide +kernel
theorem dX0_init_1 : decode cX0_init 1 = .ok (.invokespecial 1, 3) := by decide +kernel
theorem dX0_init_4 : decode cX0_init 4 = .ok (.aload_n 0, 1) := by decide +kernel
theorem dX0_init_5 : decode cX0_init 5 = .ok (.iconst 2, 1) := by decide +kernel
theorem dX0_init_6 : decode cX0_init 6 = .ok (.iconst 1, 1) := by decide +kernel
theorem dX0_init_7 : decode cX0_init 7 = .ok (.invokevirtual 7, 3) := by decide +kernel
theorem dX0_init_10 : decode cX0_init 10 = .ok (.return_, 1) := by decide +kernel
set_option maxRecDepth 20000 in
theorem ggX0_become_X0_power : GoodIn wsX0_become wsX0_power := goodIn_r _ [8, 1, 9, 10, 11] (by decide +kernel) (by decide +kernel)
set_option maxRecDepth 20000 in
theorem gX0_become_X0_power : GoodIn wsX0_become (wsV RX0 20 RX0 yX0_power wsX0_power) := goodIn_app (goodIn_of _ (by decide +kernel)) ggX0_become_X0_power
theorem dX0_become_0 : decode cX0_become 0 = .ok (.aload_n 0, 1) := by decide +kernel
theorem dX0_become_1 : decode cX0_become 1 = .ok (.iload_n 1, 1) := by decide +kernel
theorem dX0_become_2 : decode cX0_become 2 = .ok (.putfield 13, 3) := by decide +kernel
theorem dX0_become_5 : decode cX0_become 5 = .ok (.aload_n 0, 1) := by decide +kernel
theorem dX0_become_6 : decode cX0_become 6 = .ok (.iload_n 2, 1) := by decide +kernel
theorem dX0_become_7 : decode cX0_become 7 = .ok (.putfield 17, 3) := by decide +kernel
theorem dX0_become_10 : decode cX0_become 10 = .ok (.aload_n 0, 1) := by decide +kernel
theorem dX0_become_11 : decode cX0_become 11 = .ok (.aload_n 0, 1) := by decide +kernel
theorem dX0_become_12 : decode cX0_become 12 = .ok (.iload_n 2, 1) := by decide +kernel
theorem dX0_become_13 : decode cX0_become 13 = .ok (.invokevirtual 20, 3) := by decide +kernel
theorem dX0_become_16 : decode cX0_become 16 = .ok (.putfield 24, 3) := by decide +kernel
theorem dX0_become_19 : decode cX0_become 19 = .ok (.return_, 1) := by decide +kernel
theorem dX0_isVector_0 : decode cX0_isVector 0 = .ok (.iload_n 1, 1) := by decide +kernel
theorem dX0_isVector_1 : decode cX0_isVector 1 = .ok (.ifCond .lt 15, 3) := by decide +kernel
theorem dX0_isVector_4 : decode cX0_isVector 4 = .ok (.iload_n 1, 1) := by decide +kernel
theorem dX0_isVector_5 : decode cX0_isVector 5 = .ok (.aload_n 0, 1) := by decide +kernel
theorem dX0_isVector_6 : decode cX0_isVector 6 = .ok (.getfield 24, 3) := by decide +kernel
theorem dX0_isVector_9 : decode cX0_isVector 9 = .ok (.if_icmp .ge 7, 3) := by decide +kernel
theorem dX0_isVector_12 : decode cX0_isVector 12 = .ok (.iconst 1, 1) := by decide +kernel
theorem dX0_isVector_13 : decode cX0_isVector 13 = .ok (.goto 4, 3) := by decide +kernel
theorem dX0_isVector_16 : decode cX0_isVector 16 = .ok (.iconst 0, 1) := by decide +kernel
theorem dX0_isVector_17 : decode cX0_isVector 17 = .ok (.ireturn, 1) := by decide +kernel
theorem dX0_power_0 : decode cX0_power 0 = .ok (.iconst 1, 1) := by decide +kernel
theorem dX0_power_1 : decode cX0_power 1 = .ok (.istore_n 2, 1) := by decide +kernel
theorem dX0_power_2 : decode cX0_power 2 = .ok (.iconst 0, 1) := by decide +kernel
theorem dX0_power_3 : decode cX0_power 3 = .ok (.istore_n 3, 1) := by decide +kernel
theorem dX0_power_4 : decode cX0_power 4 = .ok (.iload_n 3, 1) := by decide +kernel
theorem dX0_power_5 : decode cX0_power 5 = .ok (.iload_n 1, 1) := by decide +kernel
theorem dX0_power_6 : decode cX0_power 6 = .ok (.if_icmp .ge 16, 3) := by decide +kernel
theorem dX0_power_9 : decode cX0_power 9 = .ok (.iload_n 2, 1) := by decide +kernel
theorem dX0_power_10 : decode cX0_power 10 = .ok (.aload_n 0, 1) := by decide +kernel
theorem dX0_power_11 : decode cX0_power 11 = .ok (.getfield 13, 3) := by decide +kernel
theorem dX0_power_14 : decode cX0_power 14 = .ok (.imul, 1) := by decide +kernel
theorem dX0_power_15 : decode cX0_power 15 = .ok (.istore_n 2, 1) := by decide +kernel
theorem dX0_power_16 : decode cX0_power 16 = .ok (.iinc 3 1, 3) := by decide +kernel
theorem dX0_power_19 : decode cX0_power 19 = .ok (.goto (-15), 3) := by decide +kernel
theorem dX0_power_22 : decode cX0_power 22 = .ok (.iload_n 2, 1) := by decide +kernel
theorem dX0_power_23 : decode cX0_power 23 = .ok (.ireturn, 1) := by decide +kernel
theorem dX0_sum_0 : decode cX0_sum 0 = .ok (.iconst 0, 1) := by decide +kernel
theorem dX0_sum_1 : decode cX0_sum 1 = .ok (.istore 4, 2) := by decide +kernel
theorem dX0_sum_3 : decode cX0_sum 3 = .ok (.iconst 1, 1) := by decide +kernel
theorem dX0_sum_4 : decode cX0_sum 4 = .ok (.istore 5, 2) := by decide +kernel
theorem dX0_sum_6 : decode cX0_sum 6 = .ok (.iload_n 1, 1) := by decide +kernel
theorem dX0_sum_7 : decode cX0_sum 7 = .ok (.istore 6, 2) := by decide +kernel
theorem dX0_sum_9 : decode cX0_sum 9 = .ok (.iload_n 2, 1) := by decide +kernel
theorem dX0_sum_10 : decode cX0_sum 10 = .ok (.istore 7, 2) := by decide +kernel
theorem dX0_sum_12 : decode cX0_sum 12 = .ok (.iconst 0, 1) := by decide +kernel
theorem dX0_sum_13 : decode cX0_sum 13 = .ok (.istore 8, 2) := by decide +kernel
theorem dX0_sum_15 : decode cX0_sum 15 = .ok (.iload 8, 2) := by decide +kernel
theorem dX0_sum_17 : decode cX0_sum 17 = .ok (.aload_n 0, 1) := by decide +kernel
theorem dX0_sum_18 : decode cX0_sum 18 = .ok (.getfield 17, 3) := by decide +kernel
theorem dX0_sum_21 : decode cX0_sum 21 = .ok (.if_icmp .ge 66, 3) := by decide +kernel
theorem dX0_sum_24 : decode cX0_sum 24 = .ok (.iload 4, 2) := by decide +kernel
theorem dX0_sum_26 : decode cX0_sum 26 = .ok (.iload 6, 2) := by decide +kernel
theorem dX0_sum_28 : decode cX0_sum 28 = .ok (.aload_n 0, 1) := by decide +kernel
theorem dX0_sum_29 : decode cX0_sum 29 = .ok (.getfield 13, 3) := by decide +kernel
theorem dX0_sum_32 : decode cX0_sum 32 = .ok (.irem, 1) := by decide +kernel
theorem dX0_sum_33 : decode cX0_sum 33 = .ok (.iload_n 3, 1) := by decide +kernel
theorem dX0_sum_34 : decode cX0_sum 34 = .ok (.iload 7, 2) := by decide +kernel
theorem dX0_sum_36 : decode cX0_sum 36 = .ok (.aload_n 0, 1) := by decide +kernel
theorem dX0_sum_37 : decode cX0_sum 37 = .ok (.getfield 13, 3) := by decide +kernel
theorem dX0_sum_40 : decode cX0_sum 40 = .ok (.irem, 1) := by decide +kernel
theorem dX0_sum_41 : decode cX0_sum 41 = .ok (.imul, 1) := by decide +kernel
theorem dX0_sum_42 : decode cX0_sum 42 = .ok (.iadd, 1) := by decide +kernel
theorem dX0_sum_43 : decode cX0_sum 43 = .ok (.aload_n 0, 1) := by decide +kernel
theorem dX0_sum_44 : decode cX0_sum 44 = .ok (.getfield 13, 3) := by decide +kernel
theorem dX0_sum_47 : decode cX0_sum 47 = .ok (.irem, 1) := by decide +kernel
theorem dX0_sum_48 : decode cX0_sum 48 = .ok (.iload 5, 2) := by decide +kernel
theorem dX0_sum_50 : decode cX0_sum 50 = .ok (.imul, 1) := by decide +kernel
theorem dX0_sum_51 : decode cX0_sum 51 = .ok (.iadd, 1) := by decide +kernel
theorem dX0_sum_52 : decode cX0_sum 52 = .ok (.istore 4, 2) := by decide +kernel
theorem dX0_sum_54 : decode cX0_sum 54 = .ok (.iload 5, 2) := by decide +kernel
theorem dX0_sum_56 : decode cX0_sum 56 = .ok (.aload_n 0, 1) := by decide +kernel
theorem dX0_sum_57 : decode cX0_sum 57 = .ok (.getfield 13, 3) := by decide +kernel
theorem dX0_sum_60 : decode cX0_sum 60 = .ok (.imul, 1) := by decide +kernel
theorem dX0_sum_61 : decode cX0_sum 61 = .ok (.istore 5, 2) := by decide +kernel
theorem dX0_sum_63 : decode cX0_sum 63 = .ok (.iload 6, 2) := by decide +kernel
theorem dX0_sum_65 : decode cX0_sum 65 = .ok (.aload_n 0, 1) := by decide +kernel
theorem dX0_sum_66 : decode cX0_sum 66 = .ok (.getfield 13, 3) := by decide +kernel
theorem dX0_sum_69 : decode cX0_sum 69 = .ok (.idiv, 1) := by decide +kernel
theorem dX0_sum_70 : decode cX0_sum 70 = .ok (.istore 6, 2) := by decide +kernel
theorem dX0_sum_72 : decode cX0_sum 72 = .ok (.iload 7, 2) := by decide +kernel
theorem dX0_sum_74 : decode cX0_sum 74 = .ok (.aload_n 0, 1) := by decide +kernel
theorem dX0_sum_75 : decode cX0_sum 75 = .ok (.getfield 13, 3) := by decide +kernel
theorem dX0_sum_78 : decode cX0_sum 78 = .ok (.idiv, 1) := by decide +kernel
theorem dX0_sum_79 : decode cX0_sum 79 = .ok (.istore 7, 2) := by decide +kernel
theorem dX0_sum_81 : decode cX0_sum 81 = .ok (.iinc 8 1, 3) := by decide +kernel
theorem dX0_sum_84 : decode cX0_sum 84 = .ok (.goto (-69), 3) := by decide +kernel
theorem dX0_sum_87 : decode cX0_sum 87 = .ok (.iload 4, 2) := by decide +kernel
theorem dX0_sum_89 : decode cX0_sum 89 = .ok (.ireturn, 1) := by decide +kernel
theorem dX0_product_0 : decode cX0_product 0 = .ok (.iconst 0, 1) := by decide +kernel
theorem dX0_product_1 : decode cX0_product 1 = .ok (.istore_n 3, 1) := by decide +kernel
theorem dX0_product_2 : decode cX0_product 2 = .ok (.iload_n 1, 1) := by decide +kernel
theorem dX0_product_3 : decode cX0_product 3 = .ok (.istore 4, 2) := by decide +kernel
theorem dX0_product_5 : decode cX0_product 5 = .ok (.iload_n 2, 1) := by decide +kernel
theorem dX0_product_6 : decode cX0_product 6 = .ok (.istore 5, 2) := by decide +kernel
theorem dX0_product_8 : decode cX0_product 8 = .ok (.iconst 0, 1) := by decide +kernel
theorem dX0_product_9 : decode cX0_product 9 = .ok (.istore 6, 2) := by decide +kernel
theorem dX0_product_11 : decode cX0_product 11 = .ok (.iload 6, 2) := by decide +kernel
theorem dX0_product_13 : decode cX0_product 13 = .ok (.aload_n 0, 1) := by decide +kernel
theorem dX0_product_14 : decode cX0_product 14 = .ok (.getfield 17, 3) := by decide +kernel
theorem dX0_product_17 : decode cX0_product 17 = .ok (.if_icmp .ge 45, 3) := by decide +kernel
theorem dX0_product_20 : decode cX0_product 20 = .ok (.iload_n 3, 1) := by decide +kernel
theorem dX0_product_21 : decode cX0_product 21 = .ok (.iload 4, 2) := by decide +kernel
theorem dX0_product_23 : decode cX0_product 23 = .ok (.aload_n 0, 1) := by decide +kernel
theorem dX0_product_24 : decode cX0_product 24 = .ok (.getfield 13, 3) := by decide +kernel
theorem dX0_product_27 : decode cX0_product 27 = .ok (.irem, 1) := by decide +kernel
theorem dX0_product_28 : decode cX0_product 28 = .ok (.iload 5, 2) := by decide +kernel
theorem dX0_product_30 : decode cX0_product 30 = .ok (.aload_n 0, 1) := by decide +kernel
theorem dX0_product_31 : decode cX0_product 31 = .ok (.getfield 13, 3) := by decide +kernel
theorem dX0_product_34 : decode cX0_product 34 = .ok (.irem, 1) := by decide +kernel
theorem dX0_product_35 : decode cX0_product 35 = .ok (.imul, 1) := by decide +kernel
theorem dX0_product_36 : decode cX0_product 36 = .ok (.iadd, 1) := by decide +kernel
theorem dX0_product_37 : decode cX0_product 37 = .ok (.istore_n 3, 1) := by decide +kernel
theorem dX0_product_38 : decode cX0_product 38 = .ok (.iload 4, 2) := by decide +kernel
theorem dX0_product_40 : decode cX0_product 40 = .ok (.aload_n 0, 1) := by decide +kernel
theorem dX0_product_41 : decode cX0_product 41 = .ok (.getfield 13, 3) := by decide +kernel
theorem dX0_product_44 : decode cX0_product 44 = .ok (.idiv, 1) := by decide +kernel
theorem dX0_product_45 : decode cX0_product 45 = .ok (.istore 4, 2) := by decide +kernel
theorem dX0_product_47 : decode cX0_product 47 = .ok (.iload 5, 2) := by decide +kernel
theorem dX0_product_49 : decode cX0_product 49 = .ok (.aload_n 0, 1) := by decide +kernel
theorem dX0_product_50 : decode cX0_product 50 = .ok (.getfield 13, 3) := by decide +kernel
theorem dX0_product_53 : decode cX0_product 53 = .ok (.idiv, 1) := by decide +kernel
theorem dX0_product_54 : decode cX0_product 54 = .ok (.istore 5, 2) := by decide +kernel
theorem dX0_product_56 : decode cX0_product 56 = .ok (.iinc 6 1, 3) := by decide +kernel
theorem dX0_product_59 : decode cX0_product 59 = .ok (.goto (-48), 3) := by decide +kernel
theorem dX0_product_62 : decode cX0_product 62 = .ok (.iload_n 3, 1) := by decide +kernel
theorem dX0_product_63 : decode cX0_product 63 = .ok (.aload_n 0, 1) := by decide +kernel
theorem dX0_product_64 : decode cX0_product 64 = .ok (.getfield 13, 3) := by decide +kernel
theorem dX0_product_67 : decode cX0_product 67 = .ok (.irem, 1) := by decide +kernel
theorem dX0_product_68 : decode cX0_product 68 = .ok (.ireturn, 1) := by decide +kernel
theorem dX0_spell_0 : decode cX0_spell 0 = .ok (.iload_n 1, 1) := by decide +kernel
theorem dX0_spell_1 : decode cX0_spell 1 = .ok (.istore 4, 2) := by decide +kernel
theorem dX0_spell_3 : decode cX0_spell 3 = .ok (.aload_n 0, 1) := by decide +kernel
theorem dX0_spell_4 : decode cX0_spell 4 = .ok (.getfield 17, 3) := by decide +kernel
theorem dX0_spell_7 : decode cX0_spell 7 = .ok (.iconst 1, 1) := by decide +kernel
theorem dX0_spell_8 : decode cX0_spell 8 = .ok (.isub, 1) := by decide +kernel
theorem dX0_spell_9 : decode cX0_spell 9 = .ok (.istore 5, 2) := by decide +kernel
theorem dX0_spell_11 : decode cX0_spell 11 = .ok (.iload 5, 2) := by decide +kernel
theorem dX0_spell_13 : decode cX0_spell 13 = .ok (.ifCond .lt 31, 3) := by decide +kernel
theorem dX0_spell_16 : decode cX0_spell 16 = .ok (.aload_n 2, 1) := by decide +kernel
theorem dX0_spell_17 : decode cX0_spell 17 = .ok (.iload_n 3, 1) := by decide +kernel
theorem dX0_spell_18 : decode cX0_spell 18 = .ok (.iload 5, 2) := by decide +kernel
theorem dX0_spell_20 : decode cX0_spell 20 = .ok (.iadd, 1) := by decide +kernel
theorem dX0_spell_21 : decode cX0_spell 21 = .ok (.iload 4, 2) := by decide +kernel
theorem dX0_spell_23 : decode cX0_spell 23 = .ok (.aload_n 0, 1) := by decide +kernel
theorem dX0_spell_24 : decode cX0_spell 24 = .ok (.getfield 13, 3) := by decide +kernel
theorem dX0_spell_27 : decode cX0_spell 27 = .ok (.irem, 1) := by decide +kernel
theorem dX0_spell_28 : decode cX0_spell 28 = .ok (.iastore, 1) := by decide +kernel
theorem dX0_spell_29 : decode cX0_spell 29 = .ok (.iload 4, 2) := by decide +kernel
theorem dX0_spell_31 : decode cX0_spell 31 = .ok (.aload_n 0, 1) := by decide +kernel
theorem dX0_spell_32 : decode cX0_spell 32 = .ok (.getfield 13, 3) := by decide +kernel
theorem dX0_spell_35 : decode cX0_spell 35 = .ok (.idiv, 1) := by decide +kernel
theorem dX0_spell_36 : decode cX0_spell 36 = .ok (.istore 4, 2) := by decide +kernel
theorem dX0_spell_38 : decode cX0_spell 38 = .ok (.iinc 5 (-1), 3) := by decide +kernel
theorem dX0_spell_41 : decode cX0_spell 41 = .ok (.goto (-30), 3) := by decide +kernel
theorem dX0_spell_44 : decode cX0_spell 44 = .ok (.return_, 1) := by decide +kernel
theorem dX0_vectorNumber_0 : decode cX0_vectorNumber 0 = .ok (.iconst 0, 1) := by decide +kernel
theorem dX0_vectorNumber_1 : decode cX0_vectorNumber 1 = .ok (.istore_n 3, 1) := by decide +kernel
theorem dX0_vectorNumber_2 : decode cX0_vectorNumber 2 = .ok (.iconst 0, 1) := by decide +kernel
theorem dX0_vectorNumber_3 : decode cX0_vectorNumber 3 = .ok (.istore 4, 2) := by decide +kernel
theorem dX0_vectorNumber_5 : decode cX0_vectorNumber 5 = .ok (.iload 4, 2) := by decide +kernel
theorem dX0_vectorNumber_7 : decode cX0_vectorNumber 7 = .ok (.aload_n 0, 1) := by decide +kernel
theorem dX0_vectorNumber_8 : decode cX0_vectorNumber 8 = .ok (.getfield 17, 3) := by decide +kernel
theorem dX0_vectorNumber_11 : decode cX0_vectorNumber 11 = .ok (.if_icmp .ge 23, 3) := by decide +kernel
theorem dX0_vectorNumber_14 : decode cX0_vectorNumber 14 = .ok (.iload_n 3, 1) := by decide +kernel
theorem dX0_vectorNumber_15 : decode cX0_vectorNumber 15 = .ok (.aload_n 0, 1) := by decide +kernel
theorem dX0_vectorNumber_16 : decode cX0_vectorNumber 16 = .ok (.getfield 13, 3) := by decide +kernel
theorem dX0_vectorNumber_19 : decode cX0_vectorNumber 19 = .ok (.imul, 1) := by decide +kernel
theorem dX0_vectorNumber_20 : decode cX0_vectorNumber 20 = .ok (.aload_n 1, 1) := by decide +kernel
theorem dX0_vectorNumber_21 : decode cX0_vectorNumber 21 = .ok (.iload_n 2, 1) := by decide +kernel
theorem dX0_vectorNumber_22 : decode cX0_vectorNumber 22 = .ok (.iload 4, 2) := by decide +kernel
theorem dX0_vectorNumber_24 : decode cX0_vectorNumber 24 = .ok (.iadd, 1) := by decide +kernel
theorem dX0_vectorNumber_25 : decode cX0_vectorNumber 25 = .ok (.iaload, 1) := by decide +kernel
theorem dX0_vectorNumber_26 : decode cX0_vectorNumber 26 = .ok (.iadd, 1) := by decide +kernel
theorem dX0_vectorNumber_27 : decode cX0_vectorNumber 27 = .ok (.istore_n 3, 1) := by decide +kernel
theorem dX0_vectorNumber_28 : decode cX0_vectorNumber 28 = .ok (.iinc 4 1, 3) := by decide +kernel
theorem dX0_vectorNumber_31 : decode cX0_vectorNumber 31 = .ok (.goto (-26), 3) := by decide +kernel
theorem dX0_vectorNumber_34 : decode cX0_vectorNumber 34 = .ok (.iload_n 3, 1) := by decide +kernel
theorem dX0_vectorNumber_35 : decode cX0_vectorNumber 35 = .ok (.ireturn, 1) := by decide +kernel
theorem dX0_inverse_0 : decode cX0_inverse 0 = .ok (.iload_n 1, 1) := by decide +kernel
theorem dX0_inverse_1 : decode cX0_inverse 1 = .ok (.iload_n 1, 1) := by decide +kernel
theorem dX0_inverse_2 : decode cX0_inverse 2 = .ok (.imul, 1) := by decide +kernel
theorem dX0_inverse_3 : decode cX0_inverse 3 = .ok (.iload_n 1, 1) := by decide +kernel
theorem dX0_inverse_4 : decode cX0_inverse 4 = .ok (.imul, 1) := by decide +kernel
theorem dX0_inverse_5 : decode cX0_inverse 5 = .ok (.aload_n 0, 1) := by decide +kernel
theorem dX0_inverse_6 : decode cX0_inverse 6 = .ok (.getfield 13, 3) := by decide +kernel
theorem dX0_inverse_9 : decode cX0_inverse 9 = .ok (.irem, 1) := by decide +kernel
theorem dX0_inverse_10 : decode cX0_inverse 10 = .ok (.ireturn, 1) := by decide +kernel
theorem dX0_addMultiple_0 : decode cX0_addMultiple 0 = .ok (.iconst 0, 1) := by decide +kernel
theorem dX0_addMultiple_1 : decode cX0_addMultiple 1 = .ok (.istore 6, 2) := by decide +kernel
theorem dX0_addMultiple_3 : decode cX0_addMultiple 3 = .ok (.iload 6, 2) := by decide +kernel
theorem dX0_addMultiple_5 : decode cX0_addMultiple 5 = .ok (.aload_n 0, 1) := by decide +kernel
theorem dX0_addMultiple_6 : decode cX0_addMultiple 6 = .ok (.getfield 17, 3) := by decide +kernel
theorem dX0_addMultiple_9 : decode cX0_addMultiple 9 = .ok (.if_icmp .ge 37, 3) := by decide +kernel
theorem dX0_addMultiple_12 : decode cX0_addMultiple 12 = .ok (.aload_n 1, 1) := by decide +kernel
theorem dX0_addMultiple_13 : decode cX0_addMultiple 13 = .ok (.iload_n 2, 1) := by decide +kernel
theorem dX0_addMultiple_14 : decode cX0_addMultiple 14 = .ok (.iload 6, 2) := by decide +kernel
theorem dX0_addMultiple_16 : decode cX0_addMultiple 16 = .ok (.iadd, 1) := by decide +kernel
theorem dX0_addMultiple_17 : decode cX0_addMultiple 17 = .ok (.aload_n 1, 1) := by decide +kernel
theorem dX0_addMultiple_18 : decode cX0_addMultiple 18 = .ok (.iload_n 2, 1) := by decide +kernel
theorem dX0_addMultiple_19 : decode cX0_addMultiple 19 = .ok (.iload 6, 2) := by decide +kernel
theorem dX0_addMultiple_21 : decode cX0_addMultiple 21 = .ok (.iadd, 1) := by decide +kernel
theorem dX0_addMultiple_22 : decode cX0_addMultiple 22 = .ok (.iaload, 1) := by decide +kernel
theorem dX0_addMultiple_23 : decode cX0_addMultiple 23 = .ok (.iload 5, 2) := by decide +kernel
theorem dX0_addMultiple_25 : decode cX0_addMultiple 25 = .ok (.aload_n 3, 1) := by decide +kernel
theorem dX0_addMultiple_26 : decode cX0_addMultiple 26 = .ok (.iload 4, 2) := by decide +kernel
theorem dX0_addMultiple_28 : decode cX0_addMultiple 28 = .ok (.iload 6, 2) := by decide +kernel
theorem dX0_addMultiple_30 : decode cX0_addMultiple 30 = .ok (.iadd, 1) := by decide +kernel
theorem dX0_addMultiple_31 : decode cX0_addMultiple 31 = .ok (.iaload, 1) := by decide +kernel
theorem dX0_addMultiple_32 : decode cX0_addMultiple 32 = .ok (.imul, 1) := by decide +kernel
theorem dX0_addMultiple_33 : decode cX0_addMultiple 33 = .ok (.iadd, 1) := by decide +kernel
theorem dX0_addMultiple_34 : decode cX0_addMultiple 34 = .ok (.aload_n 0, 1) := by decide +kernel
theorem dX0_addMultiple_35 : decode cX0_addMultiple 35 = .ok (.getfield 13, 3) := by decide +kernel
theorem dX0_addMultiple_38 : decode cX0_addMultiple 38 = .ok (.irem, 1) := by decide +kernel
theorem dX0_addMultiple_39 : decode cX0_addMultiple 39 = .ok (.iastore, 1) := by decide +kernel
theorem dX0_addMultiple_40 : decode cX0_addMultiple 40 = .ok (.iinc 6 1, 3) := by decide +kernel
theorem dX0_addMultiple_43 : decode cX0_addMultiple 43 = .ok (.goto (-40), 3) := by decide +kernel
theorem dX0_addMultiple_46 : decode cX0_addMultiple 46 = .ok (.return_, 1) := by decide +kernel
set_option maxRecDepth 20000 in
theorem ggX0_spaces_X0_power : GoodIn wsX0_spaces wsX0_power := goodIn_r _ [5, 6, 7, 8, 9] (by decide +kernel) (by decide +kernel)
set_option maxRecDepth 20000 in
theorem gX0_spaces_X0_power : GoodIn wsX0_spaces (wsV RX0 20 RX0 yX0_power wsX0_power) := goodIn_app (goodIn_of _ (by decide +kernel)) ggX0_spaces_X0_power
theorem dX0_spaces_0 : decode cX0_spaces 0 = .ok (.iload_n 2, 1) := by decide +kernel
theorem dX0_spaces_1 : decode cX0_spaces 1 = .ok (.ifCond .lt 8, 3) := by decide +kernel
theorem dX0_spaces_4 : decode cX0_spaces 4 = .ok (.iload_n 2, 1) := by decide +kernel
theorem dX0_spaces_5 : decode cX0_spaces 5 = .ok (.iload_n 1, 1) := by decide +kernel
theorem dX0_spaces_6 : decode cX0_spaces 6 = .ok (.if_icmp .le 5, 3) := by decide +kernel
theorem dX0_spaces_9 : decode cX0_spaces 9 = .ok (.iconst 0, 1) := by decide +kernel
theorem dX0_spaces_10 : decode cX0_spaces 10 = .ok (.ireturn, 1) := by decide +kernel
theorem dX0_spaces_11 : decode cX0_spaces 11 = .ok (.iconst 1, 1) := by decide +kernel
theorem dX0_spaces_12 : decode cX0_spaces 12 = .ok (.istore_n 3, 1) := by decide +kernel
theorem dX0_spaces_13 : decode cX0_spaces 13 = .ok (.iconst 0, 1) := by decide +kernel
theorem dX0_spaces_14 : decode cX0_spaces 14 = .ok (.istore 4, 2) := by decide +kernel
theorem dX0_spaces_16 : decode cX0_spaces 16 = .ok (.iload 4, 2) := by decide +kernel
theorem dX0_spaces_18 : decode cX0_spaces 18 = .ok (.iload_n 2, 1) := by decide +kernel
theorem dX0_spaces_19 : decode cX0_spaces 19 = .ok (.if_icmp .ge 33, 3) := by decide +kernel
theorem dX0_spaces_22 : decode cX0_spaces 22 = .ok (.iload_n 3, 1) := by decide +kernel
theorem dX0_spaces_23 : decode cX0_spaces 23 = .ok (.aload_n 0, 1) := by decide +kernel
theorem dX0_spaces_24 : decode cX0_spaces 24 = .ok (.iload_n 1, 1) := by decide +kernel
theorem dX0_spaces_25 : decode cX0_spaces 25 = .ok (.iload 4, 2) := by decide +kernel
theorem dX0_spaces_27 : decode cX0_spaces 27 = .ok (.isub, 1) := by decide +kernel
theorem dX0_spaces_28 : decode cX0_spaces 28 = .ok (.invokevirtual 20, 3) := by decide +kernel
theorem dX0_spaces_31 : decode cX0_spaces 31 = .ok (.iconst 1, 1) := by decide +kernel
theorem dX0_spaces_32 : decode cX0_spaces 32 = .ok (.isub, 1) := by decide +kernel
theorem dX0_spaces_33 : decode cX0_spaces 33 = .ok (.imul, 1) := by decide +kernel
theorem dX0_spaces_34 : decode cX0_spaces 34 = .ok (.aload_n 0, 1) := by decide +kernel
theorem dX0_spaces_35 : decode cX0_spaces 35 = .ok (.iload 4, 2) := by decide +kernel
theorem dX0_spaces_37 : decode cX0_spaces 37 = .ok (.iconst 1, 1) := by decide +kernel
theorem dX0_spaces_38 : decode cX0_spaces 38 = .ok (.iadd, 1) := by decide +kernel
theorem dX0_spaces_39 : decode cX0_spaces 39 = .ok (.invokevirtual 20, 3) := by decide +kernel
theorem dX0_spaces_42 : decode cX0_spaces 42 = .ok (.iconst 1, 1) := by decide +kernel
theorem dX0_spaces_43 : decode cX0_spaces 43 = .ok (.isub, 1) := by decide +kernel
theorem dX0_spaces_44 : decode cX0_spaces 44 = .ok (.idiv, 1) := by decide +kernel
theorem dX0_spaces_45 : decode cX0_spaces 45 = .ok (.istore_n 3, 1) := by decide +kernel
theorem dX0_spaces_46 : decode cX0_spaces 46 = .ok (.iinc 4 1, 3) := by decide +kernel
theorem dX0_spaces_49 : decode cX0_spaces 49 = .ok (.goto (-33), 3) := by decide +kernel
theorem dX0_spaces_52 : decode cX0_spaces 52 = .ok (.iload_n 3, 1) := by decide +kernel
theorem dX0_spaces_53 : decode cX0_spaces 53 = .ok (.ireturn, 1) := by decide +kernel
set_option maxRecDepth 20000 in
theorem ggX1_init_X3_init : GoodIn wsX1_init wsX3_init := goodIn_r _ [10, 11, 2, 3, 12, 13, 14, 15, 19, 20, 21, 22] (by decide +kernel) (by decide +kernel)
set_option maxRecDepth 20000 in
theorem gX1_init_X3_init_n17 : GoodIn wsX1_init (wsX3_init) := ggX1_init_X3_init
theorem dX1_init_0 : decode cX1_init 0 = .ok (.aload_n 0, 1) := by decide +kernel
theorem dX1_init_1 : decode cX1_init 1 = .ok (.invokespecial 3, 3) := by decide +kernel
theorem dX1_init_4 : decode cX1_init 4 = .ok (.aload_n 0, 1) := by decide +kernel
theorem dX1_init_5 : decode cX1_init 5 = .ok (.bipush 40, 2) := by decide +kernel
theorem dX1_init_7 : decode cX1_init 7 = .ok (.anewarray 9, 3) := by decide +kernel
theorem dX1_init_10 : decode cX1_init 10 = .ok (.putfield 11, 3) := by decide +kernel
theorem dX1_init_13 : decode cX1_init 13 = .ok (.aload_n 0, 1) := by decide +kernel
theorem dX1_init_14 : decode cX1_init 14 = .ok (.new 9, 3) := by decide +kernel
theorem dX1_init_17 : decode cX1_init 17 = .ok (.dup, 1) := by decide +kernel
theorem dX1_init_18 : decode cX1_init 18 = .ok (.aload_n 1, 1) := by decide +kernel
theorem dX1_init_19 : decode cX1_init 19 = .ok (.invokespecial 17, 3) := by decide +kernel
theorem dX1_init_22 : decode cX1_init 22 = .ok (.putfield 20, 3) := by decide +kernel
theorem dX1_init_25 : decode cX1_init 25 = .ok (.iconst 0, 1) := by decide +kernel
theorem dX1_init_26 : decode cX1_init 26 = .ok (.istore_n 2, 1) := by decide +kernel
theorem dX1_init_27 : decode cX1_init 27 = .ok (.iload_n 2, 1) := by decide +kernel
theorem dX1_init_28 : decode cX1_init 28 = .ok (.bipush 40, 2) := by decide +kernel
theorem dX1_init_30 : decode cX1_init 30 = .ok (.if_icmp .ge 23, 3) := by decide +kernel
theorem dX1_init_33 : decode cX1_init 33 = .ok (.aload_n 0, 1) := by decide +kernel
theorem dX1_init_34 : decode cX1_init 34 = .ok (.getfield 11, 3) := by decide +kernel
theorem dX1_init_37 : decode cX1_init 37 = .ok (.iload_n 2, 1) := by decide +kernel
theorem dX1_init_38 : decode cX1_init 38 = .ok (.new 9, 3) := by decide +kernel
theorem dX1_init_41 : decode cX1_init 41 = .ok (.dup, 1) := by decide +kernel
theorem dX1_init_42 : decode cX1_init 42 = .ok (.aload_n 1, 1) := by decide +kernel
theorem dX1_init_43 : decode cX1_init 43 = .ok (.invokespecial 17, 3) := by decide +kernel
theorem dX1_init_46 : decode cX1_init 46 = .ok (.aastore, 1) := by decide +kernel
theorem dX1_init_47 : decode cX1_init 47 = .ok (.iinc 2 1, 3) := by decide +kernel
theorem dX1_init_50 : decode cX1_init 50 = .ok (.goto (-23), 3) := by decide +kernel
theorem dX1_init_53 : decode cX1_init 53 = .ok (.return_, 1) := by decide +kernel
set_option maxRecDepth 20000 in
theorem ggX1_accept_X3_copyFrom : GoodIn wsX1_accept wsX3_copyFrom := goodIn_r _ [6, 7, 8, 9, 10, 11, 12, 16, 17, 18, 19] (by decide +kernel) (by decide +kernel)
set_option maxRecDepth 20000 in
theorem gX1_accept_X3_copyFrom_n28 : GoodIn wsX1_accept (wsX3_copyFrom) := ggX1_accept_X3_copyFrom
theorem dX1_accept_0 : decode cX1_accept 0 = .ok (.aload_n 0, 1) := by decide +kernel
theorem dX1_accept_1 : decode cX1_accept 1 = .ok (.getfield 24, 3) := by decide +kernel
theorem dX1_accept_4 : decode cX1_accept 4 = .ok (.bipush 40, 2) := by decide +kernel
theorem dX1_accept_6 : decode cX1_accept 6 = .ok (.if_icmp .ge 26, 3) := by decide +kernel
theorem dX1_accept_9 : decode cX1_accept 9 = .ok (.aload_n 0, 1) := by decide +kernel
theorem dX1_accept_10 : decode cX1_accept 10 = .ok (.getfield 11, 3) := by decide +kernel
theorem dX1_accept_13 : decode cX1_accept 13 = .ok (.aload_n 0, 1) := by decide +kernel
theorem dX1_accept_14 : decode cX1_accept 14 = .ok (.getfield 24, 3) := by decide +kernel
theorem dX1_accept_17 : decode cX1_accept 17 = .ok (.aaload, 1) := by decide +kernel
theorem dX1_accept_18 : decode cX1_accept 18 = .ok (.aload_n 1, 1) := by decide +kernel
theorem dX1_accept_19 : decode cX1_accept 19 = .ok (.invokevirtual 28, 3) := by decide +kernel
theorem dX1_accept_22 : decode cX1_accept 22 = .ok (.aload_n 0, 1) := by decide +kernel
theorem dX1_accept_23 : decode cX1_accept 23 = .ok (.dup, 1) := by decide +kernel
theorem dX1_accept_24 : decode cX1_accept 24 = .ok (.getfield 24, 3) := by decide +kernel
theorem dX1_accept_27 : decode cX1_accept 27 = .ok (.iconst 1, 1) := by decide +kernel
theorem dX1_accept_28 : decode cX1_accept 28 = .ok (.iadd, 1) := by decide +kernel
theorem dX1_accept_29 : decode cX1_accept 29 = .ok (.putfield 24, 3) := by decide +kernel
theorem dX1_accept_32 : decode cX1_accept 32 = .ok (.return_, 1) := by decide +kernel
set_option maxRecDepth 20000 in
theorem ggX1_allApart_X3_distance : GoodIn wsX1_allApart wsX3_distance := goodIn_r _ [7, 8, 9, 10, 5, 11, 12, 13, 14, 15, 16, 17, 18, 19, 20, 21, 22, 23, 24, 25, 26, 27, 28, 29, 30, 31, 32, 33, 34, 35, 36, 37, 38, 39, 40, 41, 42, 43, 44, 45, 46, 47, 48, 49, 50, 51, 52, 53, 54, 55, 56, 57, 58, 59, 63, 64, 65, 66, 67, 68, 69] (by decide +kernel) (by decide +kernel)
set_option maxRecDepth 20000 in
theorem gX1_allApart_X3_distance_n32 : GoodIn wsX1_allApart (wsX3_distance) := ggX1_allApart_X3_distance
theorem dX1_allApart_0 : decode cX1_allApart 0 = .ok (.iconst 0, 1) := by decide +kernel
theorem dX1_allApart_1 : decode cX1_allApart 1 = .ok (.istore_n 3, 1) := by decide +kernel
theorem dX1_allApart_2 : decode cX1_allApart 2 = .ok (.iload_n 3, 1) := by decide +kernel
theorem dX1_allApart_3 : decode cX1_allApart 3 = .ok (.aload_n 0, 1) := by decide +kernel
theorem dX1_allApart_4 : decode cX1_allApart 4 = .ok (.getfield 24, 3) := by decide +kernel
theorem dX1_allApart_7 : decode cX1_allApart 7 = .ok (.if_icmp .ge 29, 3) := by decide +kernel
theorem dX1_allApart_10 : decode cX1_allApart 10 = .ok (.aload_n 0, 1) := by decide +kernel
theorem dX1_allApart_11 : decode cX1_allApart 11 = .ok (.getfield 20, 3) := by decide +kernel
theorem dX1_allApart_14 : decode cX1_allApart 14 = .ok (.aload_n 1, 1) := by decide +kernel
theorem dX1_allApart_15 : decode cX1_allApart 15 = .ok (.aload_n 0, 1) := by decide +kernel
theorem dX1_allApart_16 : decode cX1_allApart 16 = .ok (.getfield 11, 3) := by decide +kernel
theorem dX1_allApart_19 : decode cX1_allApart 19 = .ok (.iload_n 3, 1) := by decide +kernel
theorem dX1_allApart_20 : decode cX1_allApart 20 = .ok (.aaload, 1) := by decide +kernel
theorem dX1_allApart_21 : decode cX1_allApart 21 = .ok (.invokevirtual 32, 3) := by decide +kernel
theorem dX1_allApart_24 : decode cX1_allApart 24 = .ok (.iload_n 2, 1) := by decide +kernel
theorem dX1_allApart_25 : decode cX1_allApart 25 = .ok (.if_icmp .ge 5, 3) := by decide +kernel
theorem dX1_allApart_28 : decode cX1_allApart 28 = .ok (.iconst 0, 1) := by decide +kernel
theorem dX1_allApart_29 : decode cX1_allApart 29 = .ok (.ireturn, 1) := by decide +kernel
theorem dX1_allApart_30 : decode cX1_allApart 30 = .ok (.iinc 3 1, 3) := by decide +kernel
theorem dX1_allApart_33 : decode cX1_allApart 33 = .ok (.goto (-31), 3) := by decide +kernel
theorem dX1_allApart_36 : decode cX1_allApart 36 = .ok (.iconst 1, 1) := by decide +kernel
theorem dX1_allApart_37 : decode cX1_allApart 37 = .ok (.ireturn, 1) := by decide +kernel
set_option maxRecDepth 20000 in
theorem ggX1_leastDistance_X3_distance : GoodIn wsX1_leastDistance wsX3_distance := goodIn_r _ [7, 8, 9, 10, 5, 11, 12, 13, 14, 15, 16, 17, 18, 19, 20, 21, 22, 23, 24, 25, 26, 27, 28, 29, 30, 31, 32, 33, 34, 35, 36, 37, 38, 39, 40, 41, 42, 43, 44, 45, 46, 47, 48, 49, 50, 51, 52, 53, 54, 55, 56, 57, 58, 59, 63, 64, 65, 66, 67, 68, 69] (by decide +kernel) (by decide +kernel)
set_option maxRecDepth 20000 in
theorem gX1_leastDistance_X3_distance_n32 : GoodIn wsX1_leastDistance (wsX3_distance) := ggX1_leastDistance_X3_distance
theorem dX1_leastDistance_0 : decode cX1_leastDistance 0 = .ok (.iconst (-1), 1) := by decide +kernel
theorem dX1_leastDistance_1 : decode cX1_leastDistance 1 = .ok (.istore_n 1, 1) := by decide +kernel
theorem dX1_leastDistance_2 : decode cX1_leastDistance 2 = .ok (.iconst 1, 1) := by decide +kernel
theorem dX1_leastDistance_3 : decode cX1_leastDistance 3 = .ok (.istore_n 2, 1) := by decide +kernel
theorem dX1_leastDistance_4 : decode cX1_leastDistance 4 = .ok (.iload_n 2, 1) := by decide +kernel
theorem dX1_leastDistance_5 : decode cX1_leastDistance 5 = .ok (.aload_n 0, 1) := by decide +kernel
theorem dX1_leastDistance_6 : decode cX1_leastDistance 6 = .ok (.getfield 24, 3) := by decide +kernel
theorem dX1_leastDistance_9 : decode cX1_leastDistance 9 = .ok (.if_icmp .ge 57, 3) := by decide +kernel
theorem dX1_leastDistance_12 : decode cX1_leastDistance 12 = .ok (.iconst 0, 1) := by decide +kernel
theorem dX1_leastDistance_13 : decode cX1_leastDistance 13 = .ok (.istore_n 3, 1) := by decide +kernel
theorem dX1_leastDistance_14 : decode cX1_leastDistance 14 = .ok (.iload_n 3, 1) := by decide +kernel
theorem dX1_leastDistance_15 : decode cX1_leastDistance 15 = .ok (.iload_n 2, 1) := by decide +kernel
theorem dX1_leastDistance_16 : decode cX1_leastDistance 16 = .ok (.if_icmp .ge 44, 3) := by decide +kernel
theorem dX1_leastDistance_19 : decode cX1_leastDistance 19 = .ok (.aload_n 0, 1) := by decide +kernel
theorem dX1_leastDistance_20 : decode cX1_leastDistance 20 = .ok (.getfield 20, 3) := by decide +kernel
theorem dX1_leastDistance_23 : decode cX1_leastDistance 23 = .ok (.aload_n 0, 1) := by decide +kernel
theorem dX1_leastDistance_24 : decode cX1_leastDistance 24 = .ok (.getfield 11, 3) := by decide +kernel
theorem dX1_leastDistance_27 : decode cX1_leastDistance 27 = .ok (.iload_n 2, 1) := by decide +kernel
theorem dX1_leastDistance_28 : decode cX1_leastDistance 28 = .ok (.aaload, 1) := by decide +kernel
theorem dX1_leastDistance_29 : decode cX1_leastDistance 29 = .ok (.aload_n 0, 1) := by decide +kernel
theorem dX1_leastDistance_30 : decode cX1_leastDistance 30 = .ok (.getfield 11, 3) := by decide +kernel
theorem dX1_leastDistance_33 : decode cX1_leastDistance 33 = .ok (.iload_n 3, 1) := by decide +kernel
theorem dX1_leastDistance_34 : decode cX1_leastDistance 34 = .ok (.aaload, 1) := by decide +kernel
theorem dX1_leastDistance_35 : decode cX1_leastDistance 35 = .ok (.invokevirtual 32, 3) := by decide +kernel
theorem dX1_leastDistance_38 : decode cX1_leastDistance 38 = .ok (.istore 4, 2) := by decide +kernel
theorem dX1_leastDistance_40 : decode cX1_leastDistance 40 = .ok (.iload_n 1, 1) := by decide +kernel
theorem dX1_leastDistance_41 : decode cX1_leastDistance 41 = .ok (.iconst (-1), 1) := by decide +kernel
theorem dX1_leastDistance_42 : decode cX1_leastDistance 42 = .ok (.if_icmp .eq 9, 3) := by decide +kernel
theorem dX1_leastDistance_45 : decode cX1_leastDistance 45 = .ok (.iload 4, 2) := by decide +kernel
theorem dX1_leastDistance_47 : decode cX1_leastDistance 47 = .ok (.iload_n 1, 1) := by decide +kernel
theorem dX1_leastDistance_48 : decode cX1_leastDistance 48 = .ok (.if_icmp .ge 6, 3) := by decide +kernel
theorem dX1_leastDistance_51 : decode cX1_leastDistance 51 = .ok (.iload 4, 2) := by decide +kernel
theorem dX1_leastDistance_53 : decode cX1_leastDistance 53 = .ok (.istore_n 1, 1) := by decide +kernel
theorem dX1_leastDistance_54 : decode cX1_leastDistance 54 = .ok (.iinc 3 1, 3) := by decide +kernel
theorem dX1_leastDistance_57 : decode cX1_leastDistance 57 = .ok (.goto (-43), 3) := by decide +kernel
theorem dX1_leastDistance_60 : decode cX1_leastDistance 60 = .ok (.iinc 2 1, 3) := by decide +kernel
theorem dX1_leastDistance_63 : decode cX1_leastDistance 63 = .ok (.goto (-59), 3) := by decide +kernel
theorem dX1_leastDistance_66 : decode cX1_leastDistance 66 = .ok (.iload_n 1, 1) := by decide +kernel
theorem dX1_leastDistance_67 : decode cX1_leastDistance 67 = .ok (.ireturn, 1) := by decide +kernel
set_option maxRecDepth 20000 in
theorem ggX1_covers_X3_holds : GoodIn wsX1_covers wsX3_holds := goodIn_r _ [6, 7, 8, 9, 10, 4, 11, 12, 13, 14, 15, 16, 17, 21, 22, 23, 24, 25, 26, 27] (by decide +kernel) (by decide +kernel)
set_option maxRecDepth 20000 in
theorem gX1_covers_X3_holds_n36 : GoodIn wsX1_covers (wsX3_holds) := ggX1_covers_X3_holds
theorem dX1_covers_0 : decode cX1_covers 0 = .ok (.iconst 0, 1) := by decide +kernel
theorem dX1_covers_1 : decode cX1_covers 1 = .ok (.istore_n 2, 1) := by decide +kernel
theorem dX1_covers_2 : decode cX1_covers 2 = .ok (.iload_n 2, 1) := by decide +kernel
theorem dX1_covers_3 : decode cX1_covers 3 = .ok (.aload_n 0, 1) := by decide +kernel
theorem dX1_covers_4 : decode cX1_covers 4 = .ok (.getfield 24, 3) := by decide +kernel
theorem dX1_covers_7 : decode cX1_covers 7 = .ok (.if_icmp .ge 25, 3) := by decide +kernel
theorem dX1_covers_10 : decode cX1_covers 10 = .ok (.aload_n 0, 1) := by decide +kernel
theorem dX1_covers_11 : decode cX1_covers 11 = .ok (.getfield 11, 3) := by decide +kernel
theorem dX1_covers_14 : decode cX1_covers 14 = .ok (.iload_n 2, 1) := by decide +kernel
theorem dX1_covers_15 : decode cX1_covers 15 = .ok (.aaload, 1) := by decide +kernel
theorem dX1_covers_16 : decode cX1_covers 16 = .ok (.aload_n 1, 1) := by decide +kernel
theorem dX1_covers_17 : decode cX1_covers 17 = .ok (.iconst 0, 1) := by decide +kernel
theorem dX1_covers_18 : decode cX1_covers 18 = .ok (.invokevirtual 36, 3) := by decide +kernel
theorem dX1_covers_21 : decode cX1_covers 21 = .ok (.ifCond .eq 5, 3) := by decide +kernel
theorem dX1_covers_24 : decode cX1_covers 24 = .ok (.iconst 1, 1) := by decide +kernel
theorem dX1_covers_25 : decode cX1_covers 25 = .ok (.ireturn, 1) := by decide +kernel
theorem dX1_covers_26 : decode cX1_covers 26 = .ok (.iinc 2 1, 3) := by decide +kernel
theorem dX1_covers_29 : decode cX1_covers 29 = .ok (.goto (-27), 3) := by decide +kernel
theorem dX1_covers_32 : decode cX1_covers 32 = .ok (.iconst 0, 1) := by decide +kernel
theorem dX1_covers_33 : decode cX1_covers 33 = .ok (.ireturn, 1) := by decide +kernel
set_option maxRecDepth 20000 in
theorem ggX2_init_X2_becomeIdentity : GoodIn wsX2_init wsX2_becomeIdentity := goodIn_r _ [12, 5, 7, 13, 14, 15, 16, 17, 18, 19, 20, 21, 22] (by decide +kernel) (by decide +kernel)
set_option maxRecDepth 20000 in
theorem gX2_init_X2_becomeIdentity : GoodIn wsX2_init (wsV RX2 22 RX2 yX2_becomeIdentity wsX2_becomeIdentity) := goodIn_app (goodIn_of _ (by decide +kernel)) ggX2_init_X2_becomeIdentity
theorem dX2_init_0 : decode cX2_init 0 = .ok (.aload_n 0, 1) := by decide +kernel
theorem dX2_init_1 : decode cX2_init 1 = .ok (.invokespecial 3, 3) := by decide +kernel
theorem dX2_init_4 : decode cX2_init 4 = .ok (.aload_n 0, 1) := by decide +kernel
theorem dX2_init_5 : decode cX2_init 5 = .ok (.bipush 36, 2) := by decide +kernel
theorem dX2_init_7 : decode cX2_init 7 = .ok (.newarray .int, 2) := by decide +kernel
theorem dX2_init_9 : decode cX2_init 9 = .ok (.putfield 9, 3) := by decide +kernel
theorem dX2_init_12 : decode cX2_init 12 = .ok (.aload_n 0, 1) := by decide +kernel
theorem dX2_init_13 : decode cX2_init 13 = .ok (.bipush 6, 2) := by decide +kernel
theorem dX2_init_15 : decode cX2_init 15 = .ok (.newarray .int, 2) := by decide +kernel
theorem dX2_init_17 : decode cX2_init 17 = .ok (.putfield 15, 3) := by decide +kernel
theorem dX2_init_20 : decode cX2_init 20 = .ok (.aload_n 0, 1) := by decide +kernel
theorem dX2_init_21 : decode cX2_init 21 = .ok (.aload_n 1, 1) := by decide +kernel
theorem dX2_init_22 : decode cX2_init 22 = .ok (.putfield 18, 3) := by decide +kernel
theorem dX2_init_25 : decode cX2_init 25 = .ok (.aload_n 0, 1) := by decide +kernel
theorem dX2_init_26 : decode cX2_init 26 = .ok (.invokevirtual 22, 3) := by decide +kernel
theorem dX2_init_29 : decode cX2_init 29 = .ok (.return_, 1) := by decide +kernel
set_option maxRecDepth 20000 in
theorem ggX2_becomeIdentity_J7_fill_53178 : GoodIn wsX2_becomeIdentity wsJ7_fill_53178 := goodIn_r _ [6] (by decide +kernel) (by decide +kernel)
set_option maxRecDepth 20000 in
theorem gX2_becomeIdentity_J7_fill_53178 : GoodIn wsX2_becomeIdentity (va_wsS RX2 25 yJ7_fill_53178 wsJ7_fill_53178) := goodIn_app (goodIn_of _ (by decide +kernel)) ggX2_becomeIdentity_J7_fill_53178
theorem dX2_becomeIdentity_0 : decode cX2_becomeIdentity 0 = .ok (.aload_n 0, 1) := by decide +kernel
theorem dX2_becomeIdentity_1 : decode cX2_becomeIdentity 1 = .ok (.getfield 9, 3) := by decide +kernel
theorem dX2_becomeIdentity_4 : decode cX2_becomeIdentity 4 = .ok (.iconst 0, 1) := by decide +kernel
theorem dX2_becomeIdentity_5 : decode cX2_becomeIdentity 5 = .ok (.invokestatic 25, 3) := by decide +kernel
theorem dX2_becomeIdentity_8 : decode cX2_becomeIdentity 8 = .ok (.iconst 0, 1) := by decide +kernel
theorem dX2_becomeIdentity_9 : decode cX2_becomeIdentity 9 = .ok (.istore_n 1, 1) := by decide +kernel
theorem dX2_becomeIdentity_10 : decode cX2_becomeIdentity 10 = .ok (.iload_n 1, 1) := by decide +kernel
theorem dX2_becomeIdentity_11 : decode cX2_becomeIdentity 11 = .ok (.aload_n 0, 1) := by decide +kernel
theorem dX2_becomeIdentity_12 : decode cX2_becomeIdentity 12 = .ok (.getfield 18, 3) := by decide +kernel
theorem dX2_becomeIdentity_15 : decode cX2_becomeIdentity 15 = .ok (.getfield 31, 3) := by decide +kernel
theorem dX2_becomeIdentity_18 : decode cX2_becomeIdentity 18 = .ok (.if_icmp .ge 21, 3) := by decide +kernel
theorem dX2_becomeIdentity_21 : decode cX2_becomeIdentity 21 = .ok (.aload_n 0, 1) := by decide +kernel
theorem dX2_becomeIdentity_22 : decode cX2_becomeIdentity 22 = .ok (.getfield 9, 3) := by decide +kernel
theorem dX2_becomeIdentity_25 : decode cX2_becomeIdentity 25 = .ok (.iload_n 1, 1) := by decide +kernel
theorem dX2_becomeIdentity_26 : decode cX2_becomeIdentity 26 = .ok (.bipush 6, 2) := by decide +kernel
theorem dX2_becomeIdentity_28 : decode cX2_becomeIdentity 28 = .ok (.imul, 1) := by decide +kernel
theorem dX2_becomeIdentity_29 : decode cX2_becomeIdentity 29 = .ok (.iload_n 1, 1) := by decide +kernel
theorem dX2_becomeIdentity_30 : decode cX2_becomeIdentity 30 = .ok (.iadd, 1) := by decide +kernel
theorem dX2_becomeIdentity_31 : decode cX2_becomeIdentity 31 = .ok (.iconst 1, 1) := by decide +kernel
theorem dX2_becomeIdentity_32 : decode cX2_becomeIdentity 32 = .ok (.iastore, 1) := by decide +kernel
theorem dX2_becomeIdentity_33 : decode cX2_becomeIdentity 33 = .ok (.iinc 1 1, 3) := by decide +kernel
theorem dX2_becomeIdentity_36 : decode cX2_becomeIdentity 36 = .ok (.goto (-26), 3) := by decide +kernel
theorem dX2_becomeIdentity_39 : decode cX2_becomeIdentity 39 = .ok (.return_, 1) := by decide +kernel
set_option maxRecDepth 20000 in
theorem ggX2_imageNumber_X0_vectorNumber : GoodIn wsX2_imageNumber wsX0_vectorNumber := goodIn_r _ [6, 7, 8, 12, 13, 14] (by decide +kernel) (by decide +kernel)
set_option maxRecDepth 20000 in
theorem gX2_imageNumber_X0_vectorNumber_n37 : GoodIn wsX2_imageNumber (wsX0_vectorNumber) := ggX2_imageNumber_X0_vectorNumber
theorem dX2_imageNumber_0 : decode cX2_imageNumber 0 = .ok (.aload_n 0, 1) := by decide +kernel
theorem dX2_imageNumber_1 : decode cX2_imageNumber 1 = .ok (.getfield 18, 3) := by decide +kernel
theorem dX2_imageNumber_4 : decode cX2_imageNumber 4 = .ok (.aload_n 0, 1) := by decide +kernel
theorem dX2_imageNumber_5 : decode cX2_imageNumber 5 = .ok (.getfield 9, 3) := by decide +kernel
theorem dX2_imageNumber_8 : decode cX2_imageNumber 8 = .ok (.iload_n 1, 1) := by decide +kernel
theorem dX2_imageNumber_9 : decode cX2_imageNumber 9 = .ok (.bipush 6, 2) := by decide +kernel
theorem dX2_imageNumber_11 : decode cX2_imageNumber 11 = .ok (.imul, 1) := by decide +kernel
theorem dX2_imageNumber_12 : decode cX2_imageNumber 12 = .ok (.invokevirtual 37, 3) := by decide +kernel
theorem dX2_imageNumber_15 : decode cX2_imageNumber 15 = .ok (.ireturn, 1) := by decide +kernel
set_option maxRecDepth 20000 in
theorem ggX2_setImage_X0_spell : GoodIn wsX2_setImage wsX0_spell := goodIn_r _ [6, 7, 8, 12, 13, 14] (by decide +kernel) (by decide +kernel)
set_option maxRecDepth 20000 in
theorem gX2_setImage_X0_spell_n41 : GoodIn wsX2_setImage (wsX0_spell) := ggX2_setImage_X0_spell
theorem dX2_setImage_0 : decode cX2_setImage 0 = .ok (.aload_n 0, 1) := by decide +kernel
theorem dX2_setImage_1 : decode cX2_setImage 1 = .ok (.getfield 18, 3) := by decide +kernel
theorem dX2_setImage_4 : decode cX2_setImage 4 = .ok (.iload_n 2, 1) := by decide +kernel
theorem dX2_setImage_5 : decode cX2_setImage 5 = .ok (.aload_n 0, 1) := by decide +kernel
theorem dX2_setImage_6 : decode cX2_setImage 6 = .ok (.getfield 9, 3) := by decide +kernel
theorem dX2_setImage_9 : decode cX2_setImage 9 = .ok (.iload_n 1, 1) := by decide +kernel
theorem dX2_setImage_10 : decode cX2_setImage 10 = .ok (.bipush 6, 2) := by decide +kernel
theorem dX2_setImage_12 : decode cX2_setImage 12 = .ok (.imul, 1) := by decide +kernel
theorem dX2_setImage_13 : decode cX2_setImage 13 = .ok (.invokevirtual 41, 3) := by decide +kernel
theorem dX2_setImage_16 : decode cX2_setImage 16 = .ok (.return_, 1) := by decide +kernel
set_option maxRecDepth 20000 in
theorem ggX2_apply_X2_applyInto : GoodIn wsX2_apply wsX2_applyInto := goodIn_r _ [7, 2, 1, 8, 9, 10, 11, 12, 13, 14, 15, 16, 17, 18, 22, 23, 24, 25, 26, 27] (by decide +kernel) (by decide +kernel)
set_option maxRecDepth 20000 in
theorem gX2_apply_X2_applyInto : GoodIn wsX2_apply (wsV RX2 45 RX2 yX2_applyInto wsX2_applyInto) := goodIn_app (goodIn_of _ (by decide +kernel)) ggX2_apply_X2_applyInto
set_option maxRecDepth 20000 in
theorem ggX2_apply_X0_vectorNumber : GoodIn wsX2_apply wsX0_vectorNumber := goodIn_r _ [21, 17, 18, 25, 26, 27] (by decide +kernel) (by decide +kernel)
set_option maxRecDepth 20000 in
theorem gX2_apply_X0_vectorNumber_n37 : GoodIn wsX2_apply (wsX0_vectorNumber) := ggX2_apply_X0_vectorNumber
theorem dX2_apply_0 : decode cX2_apply 0 = .ok (.aload_n 0, 1) := by decide +kernel
theorem dX2_apply_1 : decode cX2_apply 1 = .ok (.aload_n 1, 1) := by decide +kernel
theorem dX2_apply_2 : decode cX2_apply 2 = .ok (.iconst 0, 1) := by decide +kernel
theorem dX2_apply_3 : decode cX2_apply 3 = .ok (.invokevirtual 45, 3) := by decide +kernel
theorem dX2_apply_6 : decode cX2_apply 6 = .ok (.aload_n 0, 1) := by decide +kernel
theorem dX2_apply_7 : decode cX2_apply 7 = .ok (.getfield 18, 3) := by decide +kernel
theorem dX2_apply_10 : decode cX2_apply 10 = .ok (.aload_n 0, 1) := by decide +kernel
theorem dX2_apply_11 : decode cX2_apply 11 = .ok (.getfield 15, 3) := by decide +kernel
theorem dX2_apply_14 : decode cX2_apply 14 = .ok (.iconst 0, 1) := by decide +kernel
theorem dX2_apply_15 : decode cX2_apply 15 = .ok (.invokevirtual 37, 3) := by decide +kernel
theorem dX2_apply_18 : decode cX2_apply 18 = .ok (.ireturn, 1) := by decide +kernel
set_option maxRecDepth 20000 in
theorem ggX2_applyInto_J7_fill_53178 : GoodIn wsX2_applyInto wsJ7_fill_53178 := goodIn_r _ [7] (by decide +kernel) (by decide +kernel)
set_option maxRecDepth 20000 in
theorem gX2_applyInto_J7_fill_53178 : GoodIn wsX2_applyInto (va_wsS RX2 25 yJ7_fill_53178 wsJ7_fill_53178) := goodIn_app (goodIn_of _ (by decide +kernel)) ggX2_applyInto_J7_fill_53178
set_option maxRecDepth 20000 in
theorem ggX2_applyInto_X0_addMultiple : GoodIn wsX2_applyInto wsX0_addMultiple := goodIn_r _ [11, 12, 13, 17, 18, 19] (by decide +kernel) (by decide +kernel)
set_option maxRecDepth 20000 in
theorem gX2_applyInto_X0_addMultiple_n48 : GoodIn wsX2_applyInto (wsX0_addMultiple) := ggX2_applyInto_X0_addMultiple
theorem dX2_applyInto_0 : decode cX2_applyInto 0 = .ok (.aload_n 0, 1) := by decide +kernel
theorem dX2_applyInto_1 : decode cX2_applyInto 1 = .ok (.getfield 15, 3) := by decide +kernel
theorem dX2_applyInto_4 : decode cX2_applyInto 4 = .ok (.iconst 0, 1) := by decide +kernel
theorem dX2_applyInto_5 : decode cX2_applyInto 5 = .ok (.invokestatic 25, 3) := by decide +kernel
theorem dX2_applyInto_8 : decode cX2_applyInto 8 = .ok (.iconst 0, 1) := by decide +kernel
theorem dX2_applyInto_9 : decode cX2_applyInto 9 = .ok (.istore_n 3, 1) := by decide +kernel
theorem dX2_applyInto_10 : decode cX2_applyInto 10 = .ok (.iload_n 3, 1) := by decide +kernel
theorem dX2_applyInto_11 : decode cX2_applyInto 11 = .ok (.aload_n 0, 1) := by decide +kernel
theorem dX2_applyInto_12 : decode cX2_applyInto 12 = .ok (.getfield 18, 3) := by decide +kernel
theorem dX2_applyInto_15 : decode cX2_applyInto 15 = .ok (.getfield 31, 3) := by decide +kernel
theorem dX2_applyInto_18 : decode cX2_applyInto 18 = .ok (.if_icmp .ge 42, 3) := by decide +kernel
theorem dX2_applyInto_21 : decode cX2_applyInto 21 = .ok (.aload_n 1, 1) := by decide +kernel
theorem dX2_applyInto_22 : decode cX2_applyInto 22 = .ok (.iload_n 2, 1) := by decide +kernel
theorem dX2_applyInto_23 : decode cX2_applyInto 23 = .ok (.iload_n 3, 1) := by decide +kernel
theorem dX2_applyInto_24 : decode cX2_applyInto 24 = .ok (.iadd, 1) := by decide +kernel
theorem dX2_applyInto_25 : decode cX2_applyInto 25 = .ok (.iaload, 1) := by decide +kernel
theorem dX2_applyInto_26 : decode cX2_applyInto 26 = .ok (.ifCond .eq 28, 3) := by decide +kernel
theorem dX2_applyInto_29 : decode cX2_applyInto 29 = .ok (.aload_n 0, 1) := by decide +kernel
theorem dX2_applyInto_30 : decode cX2_applyInto 30 = .ok (.getfield 18, 3) := by decide +kernel
theorem dX2_applyInto_33 : decode cX2_applyInto 33 = .ok (.aload_n 0, 1) := by decide +kernel
theorem dX2_applyInto_34 : decode cX2_applyInto 34 = .ok (.getfield 15, 3) := by decide +kernel
theorem dX2_applyInto_37 : decode cX2_applyInto 37 = .ok (.iconst 0, 1) := by decide +kernel
theorem dX2_applyInto_38 : decode cX2_applyInto 38 = .ok (.aload_n 0, 1) := by decide +kernel
theorem dX2_applyInto_39 : decode cX2_applyInto 39 = .ok (.getfield 9, 3) := by decide +kernel
theorem dX2_applyInto_42 : decode cX2_applyInto 42 = .ok (.iload_n 3, 1) := by decide +kernel
theorem dX2_applyInto_43 : decode cX2_applyInto 43 = .ok (.bipush 6, 2) := by decide +kernel
theorem dX2_applyInto_45 : decode cX2_applyInto 45 = .ok (.imul, 1) := by decide +kernel
theorem dX2_applyInto_46 : decode cX2_applyInto 46 = .ok (.aload_n 1, 1) := by decide +kernel
theorem dX2_applyInto_47 : decode cX2_applyInto 47 = .ok (.iload_n 2, 1) := by decide +kernel
theorem dX2_applyInto_48 : decode cX2_applyInto 48 = .ok (.iload_n 3, 1) := by decide +kernel
theorem dX2_applyInto_49 : decode cX2_applyInto 49 = .ok (.iadd, 1) := by decide +kernel
theorem dX2_applyInto_50 : decode cX2_applyInto 50 = .ok (.iaload, 1) := by decide +kernel
theorem dX2_applyInto_51 : decode cX2_applyInto 51 = .ok (.invokevirtual 48, 3) := by decide +kernel
theorem dX2_applyInto_54 : decode cX2_applyInto 54 = .ok (.iinc 3 1, 3) := by decide +kernel
theorem dX2_applyInto_57 : decode cX2_applyInto 57 = .ok (.goto (-47), 3) := by decide +kernel
theorem dX2_applyInto_60 : decode cX2_applyInto 60 = .ok (.return_, 1) := by decide +kernel
set_option maxRecDepth 20000 in
theorem ggX2_applyToSpace_X3_becomeZero : GoodIn wsX2_applyToSpace wsX3_becomeZero := goodIn_r _ [6, 7, 59, 60, 61, 62] (by decide +kernel) (by decide +kernel)
set_option maxRecDepth 20000 in
theorem gX2_applyToSpace_X3_becomeZero_n52 : GoodIn wsX2_applyToSpace (wsX3_becomeZero) := ggX2_applyToSpace_X3_becomeZero
set_option maxRecDepth 20000 in
theorem ggX2_applyToSpace_X3_isPivot : GoodIn wsX2_applyToSpace wsX3_isPivot := goodIn_r _ [10, 7, 11, 59, 60, 61, 62, 56, 57, 58] (by decide +kernel) (by decide +kernel)
set_option maxRecDepth 20000 in
theorem gX2_applyToSpace_X3_isPivot_n57 : GoodIn wsX2_applyToSpace (wsX3_isPivot) := ggX2_applyToSpace_X3_isPivot
set_option maxRecDepth 20000 in
theorem ggX2_applyToSpace_X2_applyInto : GoodIn wsX2_applyToSpace wsX2_applyInto := goodIn_r _ [16, 2, 1, 17, 18, 19, 20, 21, 22, 23, 24, 25, 26, 27, 53, 54, 55, 56, 57, 58] (by decide +kernel) (by decide +kernel)
set_option maxRecDepth 20000 in
theorem gX2_applyToSpace_X2_applyInto : GoodIn wsX2_applyToSpace (wsV RX2 45 RX2 yX2_applyInto wsX2_applyInto) := goodIn_app (goodIn_of _ (by decide +kernel)) ggX2_applyToSpace_X2_applyInto
set_option maxRecDepth 20000 in
theorem ggX2_applyToSpace_X3_joinVector : GoodIn wsX2_applyToSpace wsX3_joinVector := goodIn_r _ [30, 31, 11, 32, 33, 34, 35, 36, 37, 38, 4, 39, 40, 41, 42, 43, 44, 45, 8, 9, 10, 7, 22, 23, 24, 25, 26, 27, 46, 47, 48, 49, 50, 51, 52, 59, 60, 61, 62, 56, 57, 58] (by decide +kernel) (by decide +kernel)
set_option maxRecDepth 20000 in
theorem gX2_applyToSpace_X3_joinVector_n62 : GoodIn wsX2_applyToSpace (wsX3_joinVector) := ggX2_applyToSpace_X3_joinVector
theorem dX2_applyToSpace_0 : decode cX2_applyToSpace 0 = .ok (.aload_n 2, 1) := by decide +kernel
theorem dX2_applyToSpace_1 : decode cX2_applyToSpace 1 = .ok (.invokevirtual 52, 3) := by decide +kernel
theorem dX2_applyToSpace_4 : decode cX2_applyToSpace 4 = .ok (.iconst 0, 1) := by decide +kernel
theorem dX2_applyToSpace_5 : decode cX2_applyToSpace 5 = .ok (.istore_n 3, 1) := by decide +kernel
theorem dX2_applyToSpace_6 : decode cX2_applyToSpace 6 = .ok (.iload_n 3, 1) := by decide +kernel
theorem dX2_applyToSpace_7 : decode cX2_applyToSpace 7 = .ok (.aload_n 0, 1) := by decide +kernel
theorem dX2_applyToSpace_8 : decode cX2_applyToSpace 8 = .ok (.getfield 18, 3) := by decide +kernel
theorem dX2_applyToSpace_11 : decode cX2_applyToSpace 11 = .ok (.getfield 31, 3) := by decide +kernel
theorem dX2_applyToSpace_14 : decode cX2_applyToSpace 14 = .ok (.if_icmp .ge 38, 3) := by decide +kernel
theorem dX2_applyToSpace_17 : decode cX2_applyToSpace 17 = .ok (.aload_n 1, 1) := by decide +kernel
theorem dX2_applyToSpace_18 : decode cX2_applyToSpace 18 = .ok (.iload_n 3, 1) := by decide +kernel
theorem dX2_applyToSpace_19 : decode cX2_applyToSpace 19 = .ok (.invokevirtual 57, 3) := by decide +kernel
theorem dX2_applyToSpace_22 : decode cX2_applyToSpace 22 = .ok (.ifCond .eq 24, 3) := by decide +kernel
theorem dX2_applyToSpace_25 : decode cX2_applyToSpace 25 = .ok (.aload_n 0, 1) := by decide +kernel
theorem dX2_applyToSpace_26 : decode cX2_applyToSpace 26 = .ok (.aload_n 1, 1) := by decide +kernel
theorem dX2_applyToSpace_27 : decode cX2_applyToSpace 27 = .ok (.getfield 61, 3) := by decide +kernel
theorem dX2_applyToSpace_30 : decode cX2_applyToSpace 30 = .ok (.iload_n 3, 1) := by decide +kernel
theorem dX2_applyToSpace_31 : decode cX2_applyToSpace 31 = .ok (.bipush 6, 2) := by decide +kernel
theorem dX2_applyToSpace_33 : decode cX2_applyToSpace 33 = .ok (.imul, 1) := by decide +kernel
theorem dX2_applyToSpace_34 : decode cX2_applyToSpace 34 = .ok (.invokevirtual 45, 3) := by decide +kernel
theorem dX2_applyToSpace_37 : decode cX2_applyToSpace 37 = .ok (.aload_n 2, 1) := by decide +kernel
theorem dX2_applyToSpace_38 : decode cX2_applyToSpace 38 = .ok (.aload_n 0, 1) := by decide +kernel
theorem dX2_applyToSpace_39 : decode cX2_applyToSpace 39 = .ok (.getfield 15, 3) := by decide +kernel
theorem dX2_applyToSpace_42 : decode cX2_applyToSpace 42 = .ok (.iconst 0, 1) := by decide +kernel
theorem dX2_applyToSpace_43 : decode cX2_applyToSpace 43 = .ok (.invokevirtual 62, 3) := by decide +kernel
theorem dX2_applyToSpace_46 : decode cX2_applyToSpace 46 = .ok (.iinc 3 1, 3) := by decide +kernel
theorem dX2_applyToSpace_49 : decode cX2_applyToSpace 49 = .ok (.goto (-43), 3) := by decide +kernel
theorem dX2_applyToSpace_52 : decode cX2_applyToSpace 52 = .ok (.return_, 1) := by decide +kernel
set_option maxRecDepth 20000 in
theorem ggX2_columnSpace_X3_becomeZero : GoodIn wsX2_columnSpace wsX3_becomeZero := goodIn_r _ [7, 8, 50, 51, 52, 53] (by decide +kernel) (by decide +kernel)
set_option maxRecDepth 20000 in
theorem gX2_columnSpace_X3_becomeZero_n52 : GoodIn wsX2_columnSpace (wsX3_becomeZero) := ggX2_columnSpace_X3_becomeZero
set_option maxRecDepth 20000 in
theorem ggX2_columnSpace_X3_joinVector : GoodIn wsX2_columnSpace wsX3_joinVector := goodIn_r _ [11, 12, 13, 14, 15, 16, 17, 18, 19, 20, 5, 21, 22, 23, 24, 25, 26, 27, 28, 29, 30, 8, 31, 32, 33, 34, 35, 36, 37, 38, 39, 40, 41, 42, 43, 50, 51, 52, 53, 47, 48, 49] (by decide +kernel) (by decide +kernel)
set_option maxRecDepth 20000 in
theorem gX2_columnSpace_X3_joinVector_n62 : GoodIn wsX2_columnSpace (wsX3_joinVector) := ggX2_columnSpace_X3_joinVector
theorem dX2_columnSpace_0 : decode cX2_columnSpace 0 = .ok (.aload_n 1, 1) := by decide +kernel
theorem dX2_columnSpace_1 : decode cX2_columnSpace 1 = .ok (.invokevirtual 52, 3) := by decide +kernel
theorem dX2_columnSpace_4 : decode cX2_columnSpace 4 = .ok (.iconst 0, 1) := by decide +kernel
theorem dX2_columnSpace_5 : decode cX2_columnSpace 5 = .ok (.istore_n 2, 1) := by decide +kernel
theorem dX2_columnSpace_6 : decode cX2_columnSpace 6 = .ok (.iload_n 2, 1) := by decide +kernel
theorem dX2_columnSpace_7 : decode cX2_columnSpace 7 = .ok (.aload_n 0, 1) := by decide +kernel
theorem dX2_columnSpace_8 : decode cX2_columnSpace 8 = .ok (.getfield 18, 3) := by decide +kernel
theorem dX2_columnSpace_11 : decode cX2_columnSpace 11 = .ok (.getfield 31, 3) := by decide +kernel
theorem dX2_columnSpace_14 : decode cX2_columnSpace 14 = .ok (.if_icmp .ge 54, 3) := by decide +kernel
theorem dX2_columnSpace_17 : decode cX2_columnSpace 17 = .ok (.iconst 0, 1) := by decide +kernel
theorem dX2_columnSpace_18 : decode cX2_columnSpace 18 = .ok (.istore_n 3, 1) := by decide +kernel
theorem dX2_columnSpace_19 : decode cX2_columnSpace 19 = .ok (.iload_n 3, 1) := by decide +kernel
theorem dX2_columnSpace_20 : decode cX2_columnSpace 20 = .ok (.aload_n 0, 1) := by decide +kernel
theorem dX2_columnSpace_21 : decode cX2_columnSpace 21 = .ok (.getfield 18, 3) := by decide +kernel
theorem dX2_columnSpace_24 : decode cX2_columnSpace 24 = .ok (.getfield 31, 3) := by decide +kernel
theorem dX2_columnSpace_27 : decode cX2_columnSpace 27 = .ok (.if_icmp .ge 26, 3) := by decide +kernel
theorem dX2_columnSpace_30 : decode cX2_columnSpace 30 = .ok (.aload_n 0, 1) := by decide +kernel
theorem dX2_columnSpace_31 : decode cX2_columnSpace 31 = .ok (.getfield 15, 3) := by decide +kernel
theorem dX2_columnSpace_34 : decode cX2_columnSpace 34 = .ok (.iload_n 3, 1) := by decide +kernel
theorem dX2_columnSpace_35 : decode cX2_columnSpace 35 = .ok (.aload_n 0, 1) := by decide +kernel
theorem dX2_columnSpace_36 : decode cX2_columnSpace 36 = .ok (.getfield 9, 3) := by decide +kernel
theorem dX2_columnSpace_39 : decode cX2_columnSpace 39 = .ok (.iload_n 3, 1) := by decide +kernel
theorem dX2_columnSpace_40 : decode cX2_columnSpace 40 = .ok (.bipush 6, 2) := by decide +kernel
theorem dX2_columnSpace_42 : decode cX2_columnSpace 42 = .ok (.imul, 1) := by decide +kernel
theorem dX2_columnSpace_43 : decode cX2_columnSpace 43 = .ok (.iload_n 2, 1) := by decide +kernel
theorem dX2_columnSpace_44 : decode cX2_columnSpace 44 = .ok (.iadd, 1) := by decide +kernel
theorem dX2_columnSpace_45 : decode cX2_columnSpace 45 = .ok (.iaload, 1) := by decide +kernel
theorem dX2_columnSpace_46 : decode cX2_columnSpace 46 = .ok (.iastore, 1) := by decide +kernel
theorem dX2_columnSpace_47 : decode cX2_columnSpace 47 = .ok (.iinc 3 1, 3) := by decide +kernel
theorem dX2_columnSpace_50 : decode cX2_columnSpace 50 = .ok (.goto (-31), 3) := by decide +kernel
theorem dX2_columnSpace_53 : decode cX2_columnSpace 53 = .ok (.aload_n 1, 1) := by decide +kernel
theorem dX2_columnSpace_54 : decode cX2_columnSpace 54 = .ok (.aload_n 0, 1) := by decide +kernel
theorem dX2_columnSpace_55 : decode cX2_columnSpace 55 = .ok (.getfield 15, 3) := by decide +kernel
theorem dX2_columnSpace_58 : decode cX2_columnSpace 58 = .ok (.iconst 0, 1) := by decide +kernel
theorem dX2_columnSpace_59 : decode cX2_columnSpace 59 = .ok (.invokevirtual 62, 3) := by decide +kernel
theorem dX2_columnSpace_62 : decode cX2_columnSpace 62 = .ok (.iinc 2 1, 3) := by decide +kernel
theorem dX2_columnSpace_65 : decode cX2_columnSpace 65 = .ok (.goto (-59), 3) := by decide +kernel
theorem dX2_columnSpace_68 : decode cX2_columnSpace 68 = .ok (.return_, 1) := by decide +kernel
theorem dX3_init_0 : decode cX3_init 0 = .ok (.aload_n 0, 1) := by decide +kernel
theorem dX3_init_1 : decode cX3_init 1 = .ok (.invokespecial 3, 3) := by decide +kernel
theorem dX3_init_4 : decode cX3_init 4 = .ok (.aload_n 0, 1) := by decide +kernel
theorem dX3_init_5 : decode cX3_init 5 = .ok (.bipush 36, 2) := by decide +kernel
theorem dX3_init_7 : decode cX3_init 7 = .ok (.newarray .int, 2) := by decide +kernel
theorem dX3_init_9 : decode cX3_init 9 = .ok (.putfield 9, 3) := by decide +kernel
theorem dX3_init_12 : decode cX3_init 12 = .ok (.aload_n 0, 1) := by decide +kernel
theorem dX3_init_13 : decode cX3_init 13 = .ok (.bipush 6, 2) := by decide +kernel
theorem dX3_init_15 : decode cX3_init 15 = .ok (.newarray .int, 2) := by decide +kernel
theorem dX3_init_17 : decode cX3_init 17 = .ok (.putfield 15, 3) := by decide +kernel
theorem dX3_init_20 : decode cX3_init 20 = .ok (.aload_n 0, 1) := by decide +kernel
theorem dX3_init_21 : decode cX3_init 21 = .ok (.aload_n 1, 1) := by decide +kernel
theorem dX3_init_22 : decode cX3_init 22 = .ok (.putfield 18, 3) := by decide +kernel
theorem dX3_init_25 : decode cX3_init 25 = .ok (.return_, 1) := by decide +kernel
theorem dX3_becomeZero_0 : decode cX3_becomeZero 0 = .ok (.aload_n 0, 1) := by decide +kernel
theorem dX3_becomeZero_1 : decode cX3_becomeZero 1 = .ok (.iconst 0, 1) := by decide +kernel
theorem dX3_becomeZero_2 : decode cX3_becomeZero 2 = .ok (.putfield 22, 3) := by decide +kernel
theorem dX3_becomeZero_5 : decode cX3_becomeZero 5 = .ok (.return_, 1) := by decide +kernel
theorem dX3_copyFrom_0 : decode cX3_copyFrom 0 = .ok (.aload_n 0, 1) := by decide +kernel
theorem dX3_copyFrom_1 : decode cX3_copyFrom 1 = .ok (.aload_n 1, 1) := by decide +kernel
theorem dX3_copyFrom_2 : decode cX3_copyFrom 2 = .ok (.getfield 22, 3) := by decide +kernel
theorem dX3_copyFrom_5 : decode cX3_copyFrom 5 = .ok (.putfield 22, 3) := by decide +kernel
theorem dX3_copyFrom_8 : decode cX3_copyFrom 8 = .ok (.aload_n 1, 1) := by decide +kernel
theorem dX3_copyFrom_9 : decode cX3_copyFrom 9 = .ok (.getfield 9, 3) := by decide +kernel
theorem dX3_copyFrom_12 : decode cX3_copyFrom 12 = .ok (.iconst 0, 1) := by decide +kernel
theorem dX3_copyFrom_13 : decode cX3_copyFrom 13 = .ok (.aload_n 0, 1) := by decide +kernel
theorem dX3_copyFrom_14 : decode cX3_copyFrom 14 = .ok (.getfield 9, 3) := by decide +kernel
theorem dX3_copyFrom_17 : decode cX3_copyFrom 17 = .ok (.iconst 0, 1) := by decide +kernel
theorem dX3_copyFrom_18 : decode cX3_copyFrom 18 = .ok (.aload_n 0, 1) := by decide +kernel
theorem dX3_copyFrom_19 : decode cX3_copyFrom 19 = .ok (.getfield 9, 3) := by decide +kernel
theorem dX3_copyFrom_22 : decode cX3_copyFrom 22 = .ok (.arraylength, 1) := by decide +kernel
theorem dX3_copyFrom_23 : decode cX3_copyFrom 23 = .ok (.invokestatic 26, 3) := by decide +kernel
theorem dX3_copyFrom_26 : decode cX3_copyFrom 26 = .ok (.return_, 1) := by decide +kernel
set_option maxRecDepth 20000 in
theorem ggX3_rank_J6_bitCount_0f7a4 : GoodIn wsX3_rank wsJ6_bitCount_0f7a4 := goodIn_r _ [5, 6, 7, 8] (by decide +kernel) (by decide +kernel)
set_option maxRecDepth 20000 in
theorem gX3_rank_J6_bitCount_0f7a4 : GoodIn wsX3_rank (va_wsS RX3 32 yJ6_bitCount_0f7a4 wsJ6_bitCount_0f7a4) := goodIn_app (goodIn_of _ (by decide +kernel)) ggX3_rank_J6_bitCount_0f7a4
theorem dX3_rank_0 : decode cX3_rank 0 = .ok (.aload_n 0, 1) := by decide +kernel
theorem dX3_rank_1 : decode cX3_rank 1 = .ok (.getfield 22, 3) := by decide +kernel
theorem dX3_rank_4 : decode cX3_rank 4 = .ok (.invokestatic 32, 3) := by decide +kernel
theorem dX3_rank_7 : decode cX3_rank 7 = .ok (.ireturn, 1) := by decide +kernel
theorem dX3_isPivot_0 : decode cX3_isPivot 0 = .ok (.aload_n 0, 1) := by decide +kernel
theorem dX3_isPivot_1 : decode cX3_isPivot 1 = .ok (.getfield 22, 3) := by decide +kernel
theorem dX3_isPivot_4 : decode cX3_isPivot 4 = .ok (.aload_n 0, 1) := by decide +kernel
theorem dX3_isPivot_5 : decode cX3_isPivot 5 = .ok (.getfield 18, 3) := by decide +kernel
theorem dX3_isPivot_8 : decode cX3_isPivot 8 = .ok (.getfield 38, 3) := by decide +kernel
theorem dX3_isPivot_11 : decode cX3_isPivot 11 = .ok (.iconst 1, 1) := by decide +kernel
theorem dX3_isPivot_12 : decode cX3_isPivot 12 = .ok (.isub, 1) := by decide +kernel
theorem dX3_isPivot_13 : decode cX3_isPivot 13 = .ok (.iload_n 1, 1) := by decide +kernel
theorem dX3_isPivot_14 : decode cX3_isPivot 14 = .ok (.isub, 1) := by decide +kernel
theorem dX3_isPivot_15 : decode cX3_isPivot 15 = .ok (.ishr, 1) := by decide +kernel
theorem dX3_isPivot_16 : decode cX3_isPivot 16 = .ok (.iconst 1, 1) := by decide +kernel
theorem dX3_isPivot_17 : decode cX3_isPivot 17 = .ok (.iand, 1) := by decide +kernel
theorem dX3_isPivot_18 : decode cX3_isPivot 18 = .ok (.iconst 1, 1) := by decide +kernel
theorem dX3_isPivot_19 : decode cX3_isPivot 19 = .ok (.if_icmp .ne 7, 3) := by decide +kernel
theorem dX3_isPivot_22 : decode cX3_isPivot 22 = .ok (.iconst 1, 1) := by decide +kernel
theorem dX3_isPivot_23 : decode cX3_isPivot 23 = .ok (.goto 4, 3) := by decide +kernel
theorem dX3_isPivot_26 : decode cX3_isPivot 26 = .ok (.iconst 0, 1) := by decide +kernel
theorem dX3_isPivot_27 : decode cX3_isPivot 27 = .ok (.ireturn, 1) := by decide +kernel
set_option maxRecDepth 20000 in
theorem ggX3_rowNumber_X3_isPivot : GoodIn wsX3_rowNumber wsX3_isPivot := goodIn_r _ [7, 8, 1, 15, 16, 17, 18, 19, 20, 21] (by decide +kernel) (by decide +kernel)
set_option maxRecDepth 20000 in
theorem gX3_rowNumber_X3_isPivot : GoodIn wsX3_rowNumber (wsV RX3 43 RX3 yX3_isPivot wsX3_isPivot) := goodIn_app (goodIn_of _ (by decide +kernel)) ggX3_rowNumber_X3_isPivot
set_option maxRecDepth 20000 in
theorem ggX3_rowNumber_X0_vectorNumber : GoodIn wsX3_rowNumber wsX0_vectorNumber := goodIn_r _ [12, 13, 14, 19, 20, 21] (by decide +kernel) (by decide +kernel)
set_option maxRecDepth 20000 in
theorem gX3_rowNumber_X0_vectorNumber_n47 : GoodIn wsX3_rowNumber (wsX0_vectorNumber) := ggX3_rowNumber_X0_vectorNumber
theorem dX3_rowNumber_0 : decode cX3_rowNumber 0 = .ok (.iconst 0, 1) := by decide +kernel
theorem dX3_rowNumber_1 : decode cX3_rowNumber 1 = .ok (.istore_n 2, 1) := by decide +kernel
theorem dX3_rowNumber_2 : decode cX3_rowNumber 2 = .ok (.iconst 0, 1) := by decide +kernel
theorem dX3_rowNumber_3 : decode cX3_rowNumber 3 = .ok (.istore_n 3, 1) := by decide +kernel
theorem dX3_rowNumber_4 : decode cX3_rowNumber 4 = .ok (.iload_n 3, 1) := by decide +kernel
theorem dX3_rowNumber_5 : decode cX3_rowNumber 5 = .ok (.aload_n 0, 1) := by decide +kernel
theorem dX3_rowNumber_6 : decode cX3_rowNumber 6 = .ok (.getfield 18, 3) := by decide +kernel
theorem dX3_rowNumber_9 : decode cX3_rowNumber 9 = .ok (.getfield 38, 3) := by decide +kernel
theorem dX3_rowNumber_12 : decode cX3_rowNumber 12 = .ok (.if_icmp .ge 41, 3) := by decide +kernel
theorem dX3_rowNumber_15 : decode cX3_rowNumber 15 = .ok (.aload_n 0, 1) := by decide +kernel
theorem dX3_rowNumber_16 : decode cX3_rowNumber 16 = .ok (.iload_n 3, 1) := by decide +kernel
theorem dX3_rowNumber_17 : decode cX3_rowNumber 17 = .ok (.invokevirtual 43, 3) := by decide +kernel
theorem dX3_rowNumber_20 : decode cX3_rowNumber 20 = .ok (.ifCond .eq 27, 3) := by decide +kernel
theorem dX3_rowNumber_23 : decode cX3_rowNumber 23 = .ok (.iload_n 2, 1) := by decide +kernel
theorem dX3_rowNumber_24 : decode cX3_rowNumber 24 = .ok (.iload_n 1, 1) := by decide +kernel
theorem dX3_rowNumber_25 : decode cX3_rowNumber 25 = .ok (.if_icmp .ne 19, 3) := by decide +kernel
theorem dX3_rowNumber_28 : decode cX3_rowNumber 28 = .ok (.aload_n 0, 1) := by decide +kernel
theorem dX3_rowNumber_29 : decode cX3_rowNumber 29 = .ok (.getfield 18, 3) := by decide +kernel
theorem dX3_rowNumber_32 : decode cX3_rowNumber 32 = .ok (.aload_n 0, 1) := by decide +kernel
theorem dX3_rowNumber_33 : decode cX3_rowNumber 33 = .ok (.getfield 9, 3) := by decide +kernel
theorem dX3_rowNumber_36 : decode cX3_rowNumber 36 = .ok (.iload_n 3, 1) := by decide +kernel
theorem dX3_rowNumber_37 : decode cX3_rowNumber 37 = .ok (.bipush 6, 2) := by decide +kernel
theorem dX3_rowNumber_39 : decode cX3_rowNumber 39 = .ok (.imul, 1) := by decide +kernel
theorem dX3_rowNumber_40 : decode cX3_rowNumber 40 = .ok (.invokevirtual 47, 3) := by decide +kernel
theorem dX3_rowNumber_43 : decode cX3_rowNumber 43 = .ok (.ireturn, 1) := by decide +kernel
theorem dX3_rowNumber_44 : decode cX3_rowNumber 44 = .ok (.iinc 2 1, 3) := by decide +kernel
theorem dX3_rowNumber_47 : decode cX3_rowNumber 47 = .ok (.iinc 3 1, 3) := by decide +kernel
theorem dX3_rowNumber_50 : decode cX3_rowNumber 50 = .ok (.goto (-46), 3) := by decide +kernel
theorem dX3_rowNumber_53 : decode cX3_rowNumber 53 = .ok (.iconst (-1), 1) := by decide +kernel
theorem dX3_rowNumber_54 : decode cX3_rowNumber 54 = .ok (.ireturn, 1) := by decide +kernel
set_option maxRecDepth 20000 in
theorem ggX3_holds_X3_isPivot : GoodIn wsX3_holds wsX3_isPivot := goodIn_r _ [6, 7, 1, 13, 14, 15, 16, 17, 18, 19] (by decide +kernel) (by decide +kernel)
set_option maxRecDepth 20000 in
theorem gX3_holds_X3_isPivot : GoodIn wsX3_holds (wsV RX3 43 RX3 yX3_isPivot wsX3_isPivot) := goodIn_app (goodIn_of _ (by decide +kernel)) ggX3_holds_X3_isPivot
set_option maxRecDepth 20000 in
theorem ggX3_holds_X3_settledFigure : GoodIn wsX3_holds wsX3_settledFigure := goodIn_r _ [11, 12, 1, 2, 3, 4, 5, 6, 7, 13, 14, 15, 16, 17, 18, 19] (by decide +kernel) (by decide +kernel)
set_option maxRecDepth 20000 in
theorem gX3_holds_X3_settledFigure : GoodIn wsX3_holds (wsV RX3 51 RX3 yX3_settledFigure wsX3_settledFigure) := goodIn_app (goodIn_of _ (by decide +kernel)) ggX3_holds_X3_settledFigure
theorem dX3_holds_0 : decode cX3_holds 0 = .ok (.iconst 0, 1) := by decide +kernel
theorem dX3_holds_1 : decode cX3_holds 1 = .ok (.istore_n 3, 1) := by decide +kernel
theorem dX3_holds_2 : decode cX3_holds 2 = .ok (.iload_n 3, 1) := by decide +kernel
theorem dX3_holds_3 : decode cX3_holds 3 = .ok (.aload_n 0, 1) := by decide +kernel
theorem dX3_holds_4 : decode cX3_holds 4 = .ok (.getfield 18, 3) := by decide +kernel
theorem dX3_holds_7 : decode cX3_holds 7 = .ok (.getfield 38, 3) := by decide +kernel
theorem dX3_holds_10 : decode cX3_holds 10 = .ok (.if_icmp .ge 34, 3) := by decide +kernel
theorem dX3_holds_13 : decode cX3_holds 13 = .ok (.aload_n 0, 1) := by decide +kernel
theorem dX3_holds_14 : decode cX3_holds 14 = .ok (.iload_n 3, 1) := by decide +kernel
theorem dX3_holds_15 : decode cX3_holds 15 = .ok (.invokevirtual 43, 3) := by decide +kernel
theorem dX3_holds_18 : decode cX3_holds 18 = .ok (.ifCond .ne 20, 3) := by decide +kernel
theorem dX3_holds_21 : decode cX3_holds 21 = .ok (.aload_n 0, 1) := by decide +kernel
theorem dX3_holds_22 : decode cX3_holds 22 = .ok (.aload_n 1, 1) := by decide +kernel
theorem dX3_holds_23 : decode cX3_holds 23 = .ok (.iload_n 2, 1) := by decide +kernel
theorem dX3_holds_24 : decode cX3_holds 24 = .ok (.iload_n 3, 1) := by decide +kernel
theorem dX3_holds_25 : decode cX3_holds 25 = .ok (.invokevirtual 51, 3) := by decide +kernel
theorem dX3_holds_28 : decode cX3_holds 28 = .ok (.aload_n 1, 1) := by decide +kernel
theorem dX3_holds_29 : decode cX3_holds 29 = .ok (.iload_n 2, 1) := by decide +kernel
theorem dX3_holds_30 : decode cX3_holds 30 = .ok (.iload_n 3, 1) := by decide +kernel
theorem dX3_holds_31 : decode cX3_holds 31 = .ok (.iadd, 1) := by decide +kernel
theorem dX3_holds_32 : decode cX3_holds 32 = .ok (.iaload, 1) := by decide +kernel
theorem dX3_holds_33 : decode cX3_holds 33 = .ok (.if_icmp .eq 5, 3) := by decide +kernel
theorem dX3_holds_36 : decode cX3_holds 36 = .ok (.iconst 0, 1) := by decide +kernel
theorem dX3_holds_37 : decode cX3_holds 37 = .ok (.ireturn, 1) := by decide +kernel
theorem dX3_holds_38 : decode cX3_holds 38 = .ok (.iinc 3 1, 3) := by decide +kernel
theorem dX3_holds_41 : decode cX3_holds 41 = .ok (.goto (-39), 3) := by decide +kernel
theorem dX3_holds_44 : decode cX3_holds 44 = .ok (.iconst 1, 1) := by decide +kernel
theorem dX3_holds_45 : decode cX3_holds 45 = .ok (.ireturn, 1) := by decide +kernel
set_option maxRecDepth 20000 in
theorem ggX3_settledFigure_X3_isPivot : GoodIn wsX3_settledFigure wsX3_isPivot := goodIn_r _ [7, 8, 2, 9, 10, 11, 12, 13, 14, 15] (by decide +kernel) (by decide +kernel)
set_option maxRecDepth 20000 in
theorem gX3_settledFigure_X3_isPivot : GoodIn wsX3_settledFigure (wsV RX3 43 RX3 yX3_isPivot wsX3_isPivot) := goodIn_app (goodIn_of _ (by decide +kernel)) ggX3_settledFigure_X3_isPivot
theorem dX3_settledFigure_0 : decode cX3_settledFigure 0 = .ok (.iconst 0, 1) := by decide +kernel
theorem dX3_settledFigure_1 : decode cX3_settledFigure 1 = .ok (.istore 4, 2) := by decide +kernel
theorem dX3_settledFigure_3 : decode cX3_settledFigure 3 = .ok (.iconst 0, 1) := by decide +kernel
theorem dX3_settledFigure_4 : decode cX3_settledFigure 4 = .ok (.istore 5, 2) := by decide +kernel
theorem dX3_settledFigure_6 : decode cX3_settledFigure 6 = .ok (.iload 5, 2) := by decide +kernel
theorem dX3_settledFigure_8 : decode cX3_settledFigure 8 = .ok (.iload_n 3, 1) := by decide +kernel
theorem dX3_settledFigure_9 : decode cX3_settledFigure 9 = .ok (.if_icmp .ge 42, 3) := by decide +kernel
theorem dX3_settledFigure_12 : decode cX3_settledFigure 12 = .ok (.aload_n 0, 1) := by decide +kernel
theorem dX3_settledFigure_13 : decode cX3_settledFigure 13 = .ok (.iload 5, 2) := by decide +kernel
theorem dX3_settledFigure_15 : decode cX3_settledFigure 15 = .ok (.invokevirtual 43, 3) := by decide +kernel
theorem dX3_settledFigure_18 : decode cX3_settledFigure 18 = .ok (.ifCond .eq 27, 3) := by decide +kernel
theorem dX3_settledFigure_21 : decode cX3_settledFigure 21 = .ok (.iload 4, 2) := by decide +kernel
theorem dX3_settledFigure_23 : decode cX3_settledFigure 23 = .ok (.aload_n 1, 1) := by decide +kernel
theorem dX3_settledFigure_24 : decode cX3_settledFigure 24 = .ok (.iload_n 2, 1) := by decide +kernel
theorem dX3_settledFigure_25 : decode cX3_settledFigure 25 = .ok (.iload 5, 2) := by decide +kernel
theorem dX3_settledFigure_27 : decode cX3_settledFigure 27 = .ok (.iadd, 1) := by decide +kernel
theorem dX3_settledFigure_28 : decode cX3_settledFigure 28 = .ok (.iaload, 1) := by decide +kernel
theorem dX3_settledFigure_29 : decode cX3_settledFigure 29 = .ok (.aload_n 0, 1) := by decide +kernel
theorem dX3_settledFigure_30 : decode cX3_settledFigure 30 = .ok (.getfield 9, 3) := by decide +kernel
theorem dX3_settledFigure_33 : decode cX3_settledFigure 33 = .ok (.iload 5, 2) := by decide +kernel
theorem dX3_settledFigure_35 : decode cX3_settledFigure 35 = .ok (.bipush 6, 2) := by decide +kernel
theorem dX3_settledFigure_37 : decode cX3_settledFigure 37 = .ok (.imul, 1) := by decide +kernel
theorem dX3_settledFigure_38 : decode cX3_settledFigure 38 = .ok (.iload_n 3, 1) := by decide +kernel
theorem dX3_settledFigure_39 : decode cX3_settledFigure 39 = .ok (.iadd, 1) := by decide +kernel
theorem dX3_settledFigure_40 : decode cX3_settledFigure 40 = .ok (.iaload, 1) := by decide +kernel
theorem dX3_settledFigure_41 : decode cX3_settledFigure 41 = .ok (.imul, 1) := by decide +kernel
theorem dX3_settledFigure_42 : decode cX3_settledFigure 42 = .ok (.iadd, 1) := by decide +kernel
theorem dX3_settledFigure_43 : decode cX3_settledFigure 43 = .ok (.istore 4, 2) := by decide +kernel
theorem dX3_settledFigure_45 : decode cX3_settledFigure 45 = .ok (.iinc 5 1, 3) := by decide +kernel
theorem dX3_settledFigure_48 : decode cX3_settledFigure 48 = .ok (.goto (-42), 3) := by decide +kernel
theorem dX3_settledFigure_51 : decode cX3_settledFigure 51 = .ok (.iload 4, 2) := by decide +kernel
theorem dX3_settledFigure_53 : decode cX3_settledFigure 53 = .ok (.aload_n 0, 1) := by decide +kernel
theorem dX3_settledFigure_54 : decode cX3_settledFigure 54 = .ok (.getfield 18, 3) := by decide +kernel
theorem dX3_settledFigure_57 : decode cX3_settledFigure 57 = .ok (.getfield 55, 3) := by decide +kernel
theorem dX3_settledFigure_60 : decode cX3_settledFigure 60 = .ok (.irem, 1) := by decide +kernel
theorem dX3_settledFigure_61 : decode cX3_settledFigure 61 = .ok (.ireturn, 1) := by decide +kernel
set_option maxRecDepth 20000 in
theorem ggX3_liesIn_X3_isPivot : GoodIn wsX3_liesIn wsX3_isPivot := goodIn_r _ [7, 8, 1, 17, 18, 19, 20, 21, 22, 23] (by decide +kernel) (by decide +kernel)
set_option maxRecDepth 20000 in
theorem gX3_liesIn_X3_isPivot : GoodIn wsX3_liesIn (wsV RX3 43 RX3 yX3_isPivot wsX3_isPivot) := goodIn_app (goodIn_of _ (by decide +kernel)) ggX3_liesIn_X3_isPivot
set_option maxRecDepth 20000 in
theorem ggX3_liesIn_X3_holds : GoodIn wsX3_liesIn wsX3_holds := goodIn_r _ [12, 1, 3, 4, 5, 6, 7, 8, 13, 14, 15, 16, 2, 17, 18, 19, 20, 21, 22, 23] (by decide +kernel) (by decide +kernel)
set_option maxRecDepth 20000 in
theorem gX3_liesIn_X3_holds : GoodIn wsX3_liesIn (wsV RX3 58 RX3 yX3_holds wsX3_holds) := goodIn_app (goodIn_of _ (by decide +kernel)) ggX3_liesIn_X3_holds
theorem dX3_liesIn_0 : decode cX3_liesIn 0 = .ok (.iconst 0, 1) := by decide +kernel
theorem dX3_liesIn_1 : decode cX3_liesIn 1 = .ok (.istore_n 2, 1) := by decide +kernel
theorem dX3_liesIn_2 : decode cX3_liesIn 2 = .ok (.iload_n 2, 1) := by decide +kernel
theorem dX3_liesIn_3 : decode cX3_liesIn 3 = .ok (.aload_n 0, 1) := by decide +kernel
theorem dX3_liesIn_4 : decode cX3_liesIn 4 = .ok (.getfield 18, 3) := by decide +kernel
theorem dX3_liesIn_7 : decode cX3_liesIn 7 = .ok (.getfield 38, 3) := by decide +kernel
theorem dX3_liesIn_10 : decode cX3_liesIn 10 = .ok (.if_icmp .ge 34, 3) := by decide +kernel
theorem dX3_liesIn_13 : decode cX3_liesIn 13 = .ok (.aload_n 0, 1) := by decide +kernel
theorem dX3_liesIn_14 : decode cX3_liesIn 14 = .ok (.iload_n 2, 1) := by decide +kernel
theorem dX3_liesIn_15 : decode cX3_liesIn 15 = .ok (.invokevirtual 43, 3) := by decide +kernel
theorem dX3_liesIn_18 : decode cX3_liesIn 18 = .ok (.ifCond .eq 20, 3) := by decide +kernel
theorem dX3_liesIn_21 : decode cX3_liesIn 21 = .ok (.aload_n 1, 1) := by decide +kernel
theorem dX3_liesIn_22 : decode cX3_liesIn 22 = .ok (.aload_n 0, 1) := by decide +kernel
theorem dX3_liesIn_23 : decode cX3_liesIn 23 = .ok (.getfield 9, 3) := by decide +kernel
theorem dX3_liesIn_26 : decode cX3_liesIn 26 = .ok (.iload_n 2, 1) := by decide +kernel
theorem dX3_liesIn_27 : decode cX3_liesIn 27 = .ok (.bipush 6, 2) := by decide +kernel
theorem dX3_liesIn_29 : decode cX3_liesIn 29 = .ok (.imul, 1) := by decide +kernel
theorem dX3_liesIn_30 : decode cX3_liesIn 30 = .ok (.invokevirtual 58, 3) := by decide +kernel
theorem dX3_liesIn_33 : decode cX3_liesIn 33 = .ok (.ifCond .ne 5, 3) := by decide +kernel
theorem dX3_liesIn_36 : decode cX3_liesIn 36 = .ok (.iconst 0, 1) := by decide +kernel
theorem dX3_liesIn_37 : decode cX3_liesIn 37 = .ok (.ireturn, 1) := by decide +kernel
theorem dX3_liesIn_38 : decode cX3_liesIn 38 = .ok (.iinc 2 1, 3) := by decide +kernel
theorem dX3_liesIn_41 : decode cX3_liesIn 41 = .ok (.goto (-39), 3) := by decide +kernel
theorem dX3_liesIn_44 : decode cX3_liesIn 44 = .ok (.iconst 1, 1) := by decide +kernel
theorem dX3_liesIn_45 : decode cX3_liesIn 45 = .ok (.ireturn, 1) := by decide +kernel
set_option maxRecDepth 20000 in
theorem ggX3_sameAs_X3_liesIn : GoodIn wsX3_sameAs wsX3_liesIn := goodIn_r _ [6, 7, 8, 9, 10, 11, 5, 12, 1, 13, 14, 15, 16, 17, 18, 19, 20, 21, 22, 23, 24, 25, 26, 27] (by decide +kernel) (by decide +kernel)
set_option maxRecDepth 20000 in
theorem gX3_sameAs_X3_liesIn : GoodIn wsX3_sameAs (wsV RX3 62 RX3 yX3_liesIn wsX3_liesIn) := goodIn_app (goodIn_of _ (by decide +kernel)) ggX3_sameAs_X3_liesIn
theorem dX3_sameAs_0 : decode cX3_sameAs 0 = .ok (.aload_n 0, 1) := by decide +kernel
theorem dX3_sameAs_1 : decode cX3_sameAs 1 = .ok (.getfield 22, 3) := by decide +kernel
theorem dX3_sameAs_4 : decode cX3_sameAs 4 = .ok (.aload_n 1, 1) := by decide +kernel
theorem dX3_sameAs_5 : decode cX3_sameAs 5 = .ok (.getfield 22, 3) := by decide +kernel
theorem dX3_sameAs_8 : decode cX3_sameAs 8 = .ok (.if_icmp .ne 15, 3) := by decide +kernel
theorem dX3_sameAs_11 : decode cX3_sameAs 11 = .ok (.aload_n 0, 1) := by decide +kernel
theorem dX3_sameAs_12 : decode cX3_sameAs 12 = .ok (.aload_n 1, 1) := by decide +kernel
theorem dX3_sameAs_13 : decode cX3_sameAs 13 = .ok (.invokevirtual 62, 3) := by decide +kernel
theorem dX3_sameAs_16 : decode cX3_sameAs 16 = .ok (.ifCond .eq 7, 3) := by decide +kernel
theorem dX3_sameAs_19 : decode cX3_sameAs 19 = .ok (.iconst 1, 1) := by decide +kernel
theorem dX3_sameAs_20 : decode cX3_sameAs 20 = .ok (.goto 4, 3) := by decide +kernel
theorem dX3_sameAs_23 : decode cX3_sameAs 23 = .ok (.iconst 0, 1) := by decide +kernel
theorem dX3_sameAs_24 : decode cX3_sameAs 24 = .ok (.ireturn, 1) := by decide +kernel
set_option maxRecDepth 20000 in
theorem ggX3_joinVector_X3_joinFresh : GoodIn wsX3_joinVector wsX3_joinFresh := goodIn_r _ [11, 2, 1, 12, 13, 14, 15, 10, 16, 17, 18, 19, 20, 21, 22, 23, 24, 25, 26, 27, 28, 29, 30, 31, 32, 33, 34, 35, 36, 37, 38, 39, 40, 41] (by decide +kernel) (by decide +kernel)
set_option maxRecDepth 20000 in
theorem gX3_joinVector_X3_joinFresh : GoodIn wsX3_joinVector (wsV RX3 66 RX3 yX3_joinFresh wsX3_joinFresh) := goodIn_app (goodIn_of _ (by decide +kernel)) ggX3_joinVector_X3_joinFresh
theorem dX3_joinVector_0 : decode cX3_joinVector 0 = .ok (.aload_n 1, 1) := by decide +kernel
theorem dX3_joinVector_1 : decode cX3_joinVector 1 = .ok (.iload_n 2, 1) := by decide +kernel
theorem dX3_joinVector_2 : decode cX3_joinVector 2 = .ok (.aload_n 0, 1) := by decide +kernel
theorem dX3_joinVector_3 : decode cX3_joinVector 3 = .ok (.getfield 15, 3) := by decide +kernel
theorem dX3_joinVector_6 : decode cX3_joinVector 6 = .ok (.iconst 0, 1) := by decide +kernel
theorem dX3_joinVector_7 : decode cX3_joinVector 7 = .ok (.aload_n 0, 1) := by decide +kernel
theorem dX3_joinVector_8 : decode cX3_joinVector 8 = .ok (.getfield 18, 3) := by decide +kernel
theorem dX3_joinVector_11 : decode cX3_joinVector 11 = .ok (.getfield 38, 3) := by decide +kernel
theorem dX3_joinVector_14 : decode cX3_joinVector 14 = .ok (.invokestatic 26, 3) := by decide +kernel
theorem dX3_joinVector_17 : decode cX3_joinVector 17 = .ok (.aload_n 0, 1) := by decide +kernel
theorem dX3_joinVector_18 : decode cX3_joinVector 18 = .ok (.invokevirtual 66, 3) := by decide +kernel
theorem dX3_joinVector_21 : decode cX3_joinVector 21 = .ok (.return_, 1) := by decide +kernel
set_option maxRecDepth 20000 in
theorem ggX3_joinSpace_X3_isPivot : GoodIn wsX3_joinSpace wsX3_isPivot := goodIn_r _ [12, 13, 1, 35, 36, 37, 38, 39, 40, 41] (by decide +kernel) (by decide +kernel)
set_option maxRecDepth 20000 in
theorem gX3_joinSpace_X3_isPivot : GoodIn wsX3_joinSpace (wsV RX3 43 RX3 yX3_isPivot wsX3_isPivot) := goodIn_app (goodIn_of _ (by decide +kernel)) ggX3_joinSpace_X3_isPivot
set_option maxRecDepth 20000 in
theorem ggX3_joinSpace_X3_joinFresh : GoodIn wsX3_joinSpace wsX3_joinFresh := goodIn_r _ [17, 1, 3, 2, 18, 19, 20, 11, 21, 8, 9, 10, 12, 13, 22, 23, 24, 25, 26, 27, 28, 29, 30, 31, 32, 33, 34, 35, 36, 37, 38, 39, 40, 41] (by decide +kernel) (by decide +kernel)
set_option maxRecDepth 20000 in
theorem gX3_joinSpace_X3_joinFresh : GoodIn wsX3_joinSpace (wsV RX3 66 RX3 yX3_joinFresh wsX3_joinFresh) := goodIn_app (goodIn_of _ (by decide +kernel)) ggX3_joinSpace_X3_joinFresh
theorem dX3_joinSpace_0 : decode cX3_joinSpace 0 = .ok (.iconst 0, 1) := by decide +kernel
theorem dX3_joinSpace_1 : decode cX3_joinSpace 1 = .ok (.istore_n 2, 1) := by decide +kernel
theorem dX3_joinSpace_2 : decode cX3_joinSpace 2 = .ok (.iload_n 2, 1) := by decide +kernel
theorem dX3_joinSpace_3 : decode cX3_joinSpace 3 = .ok (.aload_n 0, 1) := by decide +kernel
theorem dX3_joinSpace_4 : decode cX3_joinSpace 4 = .ok (.getfield 18, 3) := by decide +kernel
theorem dX3_joinSpace_7 : decode cX3_joinSpace 7 = .ok (.getfield 38, 3) := by decide +kernel
theorem dX3_joinSpace_10 : decode cX3_joinSpace 10 = .ok (.if_icmp .ge 44, 3) := by decide +kernel
theorem dX3_joinSpace_13 : decode cX3_joinSpace 13 = .ok (.aload_n 1, 1) := by decide +kernel
theorem dX3_joinSpace_14 : decode cX3_joinSpace 14 = .ok (.iload_n 2, 1) := by decide +kernel
theorem dX3_joinSpace_15 : decode cX3_joinSpace 15 = .ok (.invokevirtual 43, 3) := by decide +kernel
theorem dX3_joinSpace_18 : decode cX3_joinSpace 18 = .ok (.ifCond .eq 30, 3) := by decide +kernel
theorem dX3_joinSpace_21 : decode cX3_joinSpace 21 = .ok (.aload_n 1, 1) := by decide +kernel
theorem dX3_joinSpace_22 : decode cX3_joinSpace 22 = .ok (.getfield 9, 3) := by decide +kernel
theorem dX3_joinSpace_25 : decode cX3_joinSpace 25 = .ok (.iload_n 2, 1) := by decide +kernel
theorem dX3_joinSpace_26 : decode cX3_joinSpace 26 = .ok (.bipush 6, 2) := by decide +kernel
theorem dX3_joinSpace_28 : decode cX3_joinSpace 28 = .ok (.imul, 1) := by decide +kernel
theorem dX3_joinSpace_29 : decode cX3_joinSpace 29 = .ok (.aload_n 0, 1) := by decide +kernel
theorem dX3_joinSpace_30 : decode cX3_joinSpace 30 = .ok (.getfield 15, 3) := by decide +kernel
theorem dX3_joinSpace_33 : decode cX3_joinSpace 33 = .ok (.iconst 0, 1) := by decide +kernel
theorem dX3_joinSpace_34 : decode cX3_joinSpace 34 = .ok (.aload_n 0, 1) := by decide +kernel
theorem dX3_joinSpace_35 : decode cX3_joinSpace 35 = .ok (.getfield 18, 3) := by decide +kernel
theorem dX3_joinSpace_38 : decode cX3_joinSpace 38 = .ok (.getfield 38, 3) := by decide +kernel
theorem dX3_joinSpace_41 : decode cX3_joinSpace 41 = .ok (.invokestatic 26, 3) := by decide +kernel
theorem dX3_joinSpace_44 : decode cX3_joinSpace 44 = .ok (.aload_n 0, 1) := by decide +kernel
theorem dX3_joinSpace_45 : decode cX3_joinSpace 45 = .ok (.invokevirtual 66, 3) := by decide +kernel
theorem dX3_joinSpace_48 : decode cX3_joinSpace 48 = .ok (.iinc 2 1, 3) := by decide +kernel
theorem dX3_joinSpace_51 : decode cX3_joinSpace 51 = .ok (.goto (-49), 3) := by decide +kernel
theorem dX3_joinSpace_54 : decode cX3_joinSpace 54 = .ok (.return_, 1) := by decide +kernel
set_option maxRecDepth 20000 in
theorem ggX3_joinFresh_X3_reduceFresh : GoodIn wsX3_joinFresh wsX3_reduceFresh := goodIn_r _ [8, 1, 2, 3, 9, 10, 11, 7, 12, 13, 14, 15, 16, 17, 18, 19, 27, 28, 29, 30, 31, 32, 33] (by decide +kernel) (by decide +kernel)
set_option maxRecDepth 20000 in
theorem gX3_joinFresh_X3_reduceFresh : GoodIn wsX3_joinFresh (wsV RX3 69 RX3 yX3_reduceFresh wsX3_reduceFresh) := goodIn_app (goodIn_of _ (by decide +kernel)) ggX3_joinFresh_X3_reduceFresh
set_option maxRecDepth 20000 in
theorem ggX3_joinFresh_X0_inverse : GoodIn wsX3_joinFresh wsX0_inverse := goodIn_r _ [22, 19, 31, 32, 33] (by decide +kernel) (by decide +kernel)
set_option maxRecDepth 20000 in
theorem gX3_joinFresh_X0_inverse_n72 : GoodIn wsX3_joinFresh (wsX0_inverse) := ggX3_joinFresh_X0_inverse
set_option maxRecDepth 20000 in
theorem ggX3_joinFresh_X3_takeRow : GoodIn wsX3_joinFresh wsX3_takeRow := goodIn_r _ [26, 1, 3, 2, 13, 27, 28, 29, 30, 31, 32, 33] (by decide +kernel) (by decide +kernel)
set_option maxRecDepth 20000 in
theorem gX3_joinFresh_X3_takeRow : GoodIn wsX3_joinFresh (wsV RX3 75 RX3 yX3_takeRow wsX3_takeRow) := goodIn_app (goodIn_of _ (by decide +kernel)) ggX3_joinFresh_X3_takeRow
set_option maxRecDepth 20000 in
theorem ggX3_joinFresh_X3_isPivot : GoodIn wsX3_joinFresh wsX3_isPivot := goodIn_r _ [12, 13, 1, 27, 28, 29, 30, 31, 32, 33] (by decide +kernel) (by decide +kernel)
set_option maxRecDepth 20000 in
theorem gX3_joinFresh_X3_isPivot : GoodIn wsX3_joinFresh (wsV RX3 43 RX3 yX3_isPivot wsX3_isPivot) := goodIn_app (goodIn_of _ (by decide +kernel)) ggX3_joinFresh_X3_isPivot
set_option maxRecDepth 20000 in
theorem ggX3_joinFresh_X0_addMultiple : GoodIn wsX3_joinFresh wsX0_addMultiple := goodIn_r _ [17, 18, 19, 31, 32, 33] (by decide +kernel) (by decide +kernel)
set_option maxRecDepth 20000 in
theorem gX3_joinFresh_X0_addMultiple_n79 : GoodIn wsX3_joinFresh (wsX0_addMultiple) := ggX3_joinFresh_X0_addMultiple
theorem dX3_joinFresh_0 : decode cX3_joinFresh 0 = .ok (.aload_n 0, 1) := by decide +kernel
theorem dX3_joinFresh_1 : decode cX3_joinFresh 1 = .ok (.invokevirtual 69, 3) := by decide +kernel
theorem dX3_joinFresh_4 : decode cX3_joinFresh 4 = .ok (.iconst 0, 1) := by decide +kernel
theorem dX3_joinFresh_5 : decode cX3_joinFresh 5 = .ok (.istore_n 1, 1) := by decide +kernel
theorem dX3_joinFresh_6 : decode cX3_joinFresh 6 = .ok (.iload_n 1, 1) := by decide +kernel
theorem dX3_joinFresh_7 : decode cX3_joinFresh 7 = .ok (.aload_n 0, 1) := by decide +kernel
theorem dX3_joinFresh_8 : decode cX3_joinFresh 8 = .ok (.getfield 18, 3) := by decide +kernel
theorem dX3_joinFresh_11 : decode cX3_joinFresh 11 = .ok (.getfield 38, 3) := by decide +kernel
theorem dX3_joinFresh_14 : decode cX3_joinFresh 14 = .ok (.if_icmp .ge 18, 3) := by decide +kernel
theorem dX3_joinFresh_17 : decode cX3_joinFresh 17 = .ok (.aload_n 0, 1) := by decide +kernel
theorem dX3_joinFresh_18 : decode cX3_joinFresh 18 = .ok (.getfield 15, 3) := by decide +kernel
theorem dX3_joinFresh_21 : decode cX3_joinFresh 21 = .ok (.iload_n 1, 1) := by decide +kernel
theorem dX3_joinFresh_22 : decode cX3_joinFresh 22 = .ok (.iaload, 1) := by decide +kernel
theorem dX3_joinFresh_23 : decode cX3_joinFresh 23 = .ok (.ifCond .ne 9, 3) := by decide +kernel
theorem dX3_joinFresh_26 : decode cX3_joinFresh 26 = .ok (.iinc 1 1, 3) := by decide +kernel
theorem dX3_joinFresh_29 : decode cX3_joinFresh 29 = .ok (.goto (-23), 3) := by decide +kernel
theorem dX3_joinFresh_32 : decode cX3_joinFresh 32 = .ok (.iload_n 1, 1) := by decide +kernel
theorem dX3_joinFresh_33 : decode cX3_joinFresh 33 = .ok (.aload_n 0, 1) := by decide +kernel
theorem dX3_joinFresh_34 : decode cX3_joinFresh 34 = .ok (.getfield 18, 3) := by decide +kernel
theorem dX3_joinFresh_37 : decode cX3_joinFresh 37 = .ok (.getfield 38, 3) := by decide +kernel
theorem dX3_joinFresh_40 : decode cX3_joinFresh 40 = .ok (.if_icmp .ne 4, 3) := by decide +kernel
theorem dX3_joinFresh_43 : decode cX3_joinFresh 43 = .ok (.return_, 1) := by decide +kernel
theorem dX3_joinFresh_44 : decode cX3_joinFresh 44 = .ok (.aload_n 0, 1) := by decide +kernel
theorem dX3_joinFresh_45 : decode cX3_joinFresh 45 = .ok (.iload_n 1, 1) := by decide +kernel
theorem dX3_joinFresh_46 : decode cX3_joinFresh 46 = .ok (.aload_n 0, 1) := by decide +kernel
theorem dX3_joinFresh_47 : decode cX3_joinFresh 47 = .ok (.getfield 18, 3) := by decide +kernel
theorem dX3_joinFresh_50 : decode cX3_joinFresh 50 = .ok (.aload_n 0, 1) := by decide +kernel
theorem dX3_joinFresh_51 : decode cX3_joinFresh 51 = .ok (.getfield 15, 3) := by decide +kernel
theorem dX3_joinFresh_54 : decode cX3_joinFresh 54 = .ok (.iload_n 1, 1) := by decide +kernel
theorem dX3_joinFresh_55 : decode cX3_joinFresh 55 = .ok (.iaload, 1) := by decide +kernel
theorem dX3_joinFresh_56 : decode cX3_joinFresh 56 = .ok (.invokevirtual 72, 3) := by decide +kernel
theorem dX3_joinFresh_59 : decode cX3_joinFresh 59 = .ok (.invokevirtual 75, 3) := by decide +kernel
theorem dX3_joinFresh_62 : decode cX3_joinFresh 62 = .ok (.iconst 0, 1) := by decide +kernel
theorem dX3_joinFresh_63 : decode cX3_joinFresh 63 = .ok (.istore_n 2, 1) := by decide +kernel
theorem dX3_joinFresh_64 : decode cX3_joinFresh 64 = .ok (.iload_n 2, 1) := by decide +kernel
theorem dX3_joinFresh_65 : decode cX3_joinFresh 65 = .ok (.iload_n 1, 1) := by decide +kernel
theorem dX3_joinFresh_66 : decode cX3_joinFresh 66 = .ok (.if_icmp .ge 65, 3) := by decide +kernel
theorem dX3_joinFresh_69 : decode cX3_joinFresh 69 = .ok (.aload_n 0, 1) := by decide +kernel
theorem dX3_joinFresh_70 : decode cX3_joinFresh 70 = .ok (.getfield 9, 3) := by decide +kernel
theorem dX3_joinFresh_73 : decode cX3_joinFresh 73 = .ok (.iload_n 2, 1) := by decide +kernel
theorem dX3_joinFresh_74 : decode cX3_joinFresh 74 = .ok (.bipush 6, 2) := by decide +kernel
theorem dX3_joinFresh_76 : decode cX3_joinFresh 76 = .ok (.imul, 1) := by decide +kernel
theorem dX3_joinFresh_77 : decode cX3_joinFresh 77 = .ok (.iload_n 1, 1) := by decide +kernel
theorem dX3_joinFresh_78 : decode cX3_joinFresh 78 = .ok (.iadd, 1) := by decide +kernel
theorem dX3_joinFresh_79 : decode cX3_joinFresh 79 = .ok (.iaload, 1) := by decide +kernel
theorem dX3_joinFresh_80 : decode cX3_joinFresh 80 = .ok (.istore_n 3, 1) := by decide +kernel
theorem dX3_joinFresh_81 : decode cX3_joinFresh 81 = .ok (.aload_n 0, 1) := by decide +kernel
theorem dX3_joinFresh_82 : decode cX3_joinFresh 82 = .ok (.iload_n 2, 1) := by decide +kernel
theorem dX3_joinFresh_83 : decode cX3_joinFresh 83 = .ok (.invokevirtual 43, 3) := by decide +kernel
theorem dX3_joinFresh_86 : decode cX3_joinFresh 86 = .ok (.ifCond .eq 39, 3) := by decide +kernel
theorem dX3_joinFresh_89 : decode cX3_joinFresh 89 = .ok (.iload_n 3, 1) := by decide +kernel
theorem dX3_joinFresh_90 : decode cX3_joinFresh 90 = .ok (.ifCond .eq 35, 3) := by decide +kernel
theorem dX3_joinFresh_93 : decode cX3_joinFresh 93 = .ok (.aload_n 0, 1) := by decide +kernel
theorem dX3_joinFresh_94 : decode cX3_joinFresh 94 = .ok (.getfield 18, 3) := by decide +kernel
theorem dX3_joinFresh_97 : decode cX3_joinFresh 97 = .ok (.aload_n 0, 1) := by decide +kernel
theorem dX3_joinFresh_98 : decode cX3_joinFresh 98 = .ok (.getfield 9, 3) := by decide +kernel
theorem dX3_joinFresh_101 : decode cX3_joinFresh 101 = .ok (.iload_n 2, 1) := by decide +kernel
theorem dX3_joinFresh_102 : decode cX3_joinFresh 102 = .ok (.bipush 6, 2) := by decide +kernel
theorem dX3_joinFresh_104 : decode cX3_joinFresh 104 = .ok (.imul, 1) := by decide +kernel
theorem dX3_joinFresh_105 : decode cX3_joinFresh 105 = .ok (.aload_n 0, 1) := by decide +kernel
theorem dX3_joinFresh_106 : decode cX3_joinFresh 106 = .ok (.getfield 9, 3) := by decide +kernel
theorem dX3_joinFresh_109 : decode cX3_joinFresh 109 = .ok (.iload_n 1, 1) := by decide +kernel
theorem dX3_joinFresh_110 : decode cX3_joinFresh 110 = .ok (.bipush 6, 2) := by decide +kernel
theorem dX3_joinFresh_112 : decode cX3_joinFresh 112 = .ok (.imul, 1) := by decide +kernel
theorem dX3_joinFresh_113 : decode cX3_joinFresh 113 = .ok (.aload_n 0, 1) := by decide +kernel
theorem dX3_joinFresh_114 : decode cX3_joinFresh 114 = .ok (.getfield 18, 3) := by decide +kernel
theorem dX3_joinFresh_117 : decode cX3_joinFresh 117 = .ok (.getfield 55, 3) := by decide +kernel
theorem dX3_joinFresh_120 : decode cX3_joinFresh 120 = .ok (.iload_n 3, 1) := by decide +kernel
theorem dX3_joinFresh_121 : decode cX3_joinFresh 121 = .ok (.isub, 1) := by decide +kernel
theorem dX3_joinFresh_122 : decode cX3_joinFresh 122 = .ok (.invokevirtual 79, 3) := by decide +kernel
theorem dX3_joinFresh_125 : decode cX3_joinFresh 125 = .ok (.iinc 2 1, 3) := by decide +kernel
theorem dX3_joinFresh_128 : decode cX3_joinFresh 128 = .ok (.goto (-64), 3) := by decide +kernel
theorem dX3_joinFresh_131 : decode cX3_joinFresh 131 = .ok (.return_, 1) := by decide +kernel
theorem dX3_takeRow_0 : decode cX3_takeRow 0 = .ok (.iconst 0, 1) := by decide +kernel
theorem dX3_takeRow_1 : decode cX3_takeRow 1 = .ok (.istore_n 3, 1) := by decide +kernel
theorem dX3_takeRow_2 : decode cX3_takeRow 2 = .ok (.iload_n 3, 1) := by decide +kernel
theorem dX3_takeRow_3 : decode cX3_takeRow 3 = .ok (.aload_n 0, 1) := by decide +kernel
theorem dX3_takeRow_4 : decode cX3_takeRow 4 = .ok (.getfield 18, 3) := by decide +kernel
theorem dX3_takeRow_7 : decode cX3_takeRow 7 = .ok (.getfield 38, 3) := by decide +kernel
theorem dX3_takeRow_10 : decode cX3_takeRow 10 = .ok (.if_icmp .ge 36, 3) := by decide +kernel
theorem dX3_takeRow_13 : decode cX3_takeRow 13 = .ok (.aload_n 0, 1) := by decide +kernel
theorem dX3_takeRow_14 : decode cX3_takeRow 14 = .ok (.getfield 9, 3) := by decide +kernel
theorem dX3_takeRow_17 : decode cX3_takeRow 17 = .ok (.iload_n 1, 1) := by decide +kernel
theorem dX3_takeRow_18 : decode cX3_takeRow 18 = .ok (.bipush 6, 2) := by decide +kernel
theorem dX3_takeRow_20 : decode cX3_takeRow 20 = .ok (.imul, 1) := by decide +kernel
theorem dX3_takeRow_21 : decode cX3_takeRow 21 = .ok (.iload_n 3, 1) := by decide +kernel
theorem dX3_takeRow_22 : decode cX3_takeRow 22 = .ok (.iadd, 1) := by decide +kernel
theorem dX3_takeRow_23 : decode cX3_takeRow 23 = .ok (.iload_n 2, 1) := by decide +kernel
theorem dX3_takeRow_24 : decode cX3_takeRow 24 = .ok (.aload_n 0, 1) := by decide +kernel
theorem dX3_takeRow_25 : decode cX3_takeRow 25 = .ok (.getfield 15, 3) := by decide +kernel
theorem dX3_takeRow_28 : decode cX3_takeRow 28 = .ok (.iload_n 3, 1) := by decide +kernel
theorem dX3_takeRow_29 : decode cX3_takeRow 29 = .ok (.iaload, 1) := by decide +kernel
theorem dX3_takeRow_30 : decode cX3_takeRow 30 = .ok (.imul, 1) := by decide +kernel
theorem dX3_takeRow_31 : decode cX3_takeRow 31 = .ok (.aload_n 0, 1) := by decide +kernel
theorem dX3_takeRow_32 : decode cX3_takeRow 32 = .ok (.getfield 18, 3) := by decide +kernel
theorem dX3_takeRow_35 : decode cX3_takeRow 35 = .ok (.getfield 55, 3) := by decide +kernel
theorem dX3_takeRow_38 : decode cX3_takeRow 38 = .ok (.irem, 1) := by decide +kernel
theorem dX3_takeRow_39 : decode cX3_takeRow 39 = .ok (.iastore, 1) := by decide +kernel
theorem dX3_takeRow_40 : decode cX3_takeRow 40 = .ok (.iinc 3 1, 3) := by decide +kernel
theorem dX3_takeRow_43 : decode cX3_takeRow 43 = .ok (.goto (-41), 3) := by decide +kernel
theorem dX3_takeRow_46 : decode cX3_takeRow 46 = .ok (.aload_n 0, 1) := by decide +kernel
theorem dX3_takeRow_47 : decode cX3_takeRow 47 = .ok (.dup, 1) := by decide +kernel
theorem dX3_takeRow_48 : decode cX3_takeRow 48 = .ok (.getfield 22, 3) := by decide +kernel
theorem dX3_takeRow_51 : decode cX3_takeRow 51 = .ok (.iconst 1, 1) := by decide +kernel
theorem dX3_takeRow_52 : decode cX3_takeRow 52 = .ok (.aload_n 0, 1) := by decide +kernel
theorem dX3_takeRow_53 : decode cX3_takeRow 53 = .ok (.getfield 18, 3) := by decide +kernel
theorem dX3_takeRow_56 : decode cX3_takeRow 56 = .ok (.getfield 38, 3) := by decide +kernel
theorem dX3_takeRow_59 : decode cX3_takeRow 59 = .ok (.iconst 1, 1) := by decide +kernel
theorem dX3_takeRow_60 : decode cX3_takeRow 60 = .ok (.isub, 1) := by decide +kernel
theorem dX3_takeRow_61 : decode cX3_takeRow 61 = .ok (.iload_n 1, 1) := by decide +kernel
theorem dX3_takeRow_62 : decode cX3_takeRow 62 = .ok (.isub, 1) := by decide +kernel
theorem dX3_takeRow_63 : decode cX3_takeRow 63 = .ok (.ishl, 1) := by decide +kernel
theorem dX3_takeRow_64 : decode cX3_takeRow 64 = .ok (.ior, 1) := by decide +kernel
theorem dX3_takeRow_65 : decode cX3_takeRow 65 = .ok (.putfield 22, 3) := by decide +kernel
theorem dX3_takeRow_68 : decode cX3_takeRow 68 = .ok (.return_, 1) := by decide +kernel
set_option maxRecDepth 20000 in
theorem ggX3_reduceFresh_X3_isPivot : GoodIn wsX3_reduceFresh wsX3_isPivot := goodIn_r _ [8, 9, 1, 16, 17, 18, 19, 20, 21, 22] (by decide +kernel) (by decide +kernel)
set_option maxRecDepth 20000 in
theorem gX3_reduceFresh_X3_isPivot : GoodIn wsX3_reduceFresh (wsV RX3 43 RX3 yX3_isPivot wsX3_isPivot) := goodIn_app (goodIn_of _ (by decide +kernel)) ggX3_reduceFresh_X3_isPivot
set_option maxRecDepth 20000 in
theorem ggX3_reduceFresh_X0_addMultiple : GoodIn wsX3_reduceFresh wsX0_addMultiple := goodIn_r _ [13, 14, 15, 20, 21, 22] (by decide +kernel) (by decide +kernel)
set_option maxRecDepth 20000 in
theorem gX3_reduceFresh_X0_addMultiple_n79 : GoodIn wsX3_reduceFresh (wsX0_addMultiple) := ggX3_reduceFresh_X0_addMultiple
theorem dX3_reduceFresh_0 : decode cX3_reduceFresh 0 = .ok (.iconst 0, 1) := by decide +kernel
theorem dX3_reduceFresh_1 : decode cX3_reduceFresh 1 = .ok (.istore_n 1, 1) := by decide +kernel
theorem dX3_reduceFresh_2 : decode cX3_reduceFresh 2 = .ok (.iload_n 1, 1) := by decide +kernel
theorem dX3_reduceFresh_3 : decode cX3_reduceFresh 3 = .ok (.aload_n 0, 1) := by decide +kernel
theorem dX3_reduceFresh_4 : decode cX3_reduceFresh 4 = .ok (.getfield 18, 3) := by decide +kernel
theorem dX3_reduceFresh_7 : decode cX3_reduceFresh 7 = .ok (.getfield 38, 3) := by decide +kernel
theorem dX3_reduceFresh_10 : decode cX3_reduceFresh 10 = .ok (.if_icmp .ge 60, 3) := by decide +kernel
theorem dX3_reduceFresh_13 : decode cX3_reduceFresh 13 = .ok (.aload_n 0, 1) := by decide +kernel
theorem dX3_reduceFresh_14 : decode cX3_reduceFresh 14 = .ok (.getfield 15, 3) := by decide +kernel
theorem dX3_reduceFresh_17 : decode cX3_reduceFresh 17 = .ok (.iload_n 1, 1) := by decide +kernel
theorem dX3_reduceFresh_18 : decode cX3_reduceFresh 18 = .ok (.iaload, 1) := by decide +kernel
theorem dX3_reduceFresh_19 : decode cX3_reduceFresh 19 = .ok (.ifCond .eq 45, 3) := by decide +kernel
theorem dX3_reduceFresh_22 : decode cX3_reduceFresh 22 = .ok (.aload_n 0, 1) := by decide +kernel
theorem dX3_reduceFresh_23 : decode cX3_reduceFresh 23 = .ok (.iload_n 1, 1) := by decide +kernel
theorem dX3_reduceFresh_24 : decode cX3_reduceFresh 24 = .ok (.invokevirtual 43, 3) := by decide +kernel
theorem dX3_reduceFresh_27 : decode cX3_reduceFresh 27 = .ok (.ifCond .eq 37, 3) := by decide +kernel
theorem dX3_reduceFresh_30 : decode cX3_reduceFresh 30 = .ok (.aload_n 0, 1) := by decide +kernel
theorem dX3_reduceFresh_31 : decode cX3_reduceFresh 31 = .ok (.getfield 18, 3) := by decide +kernel
theorem dX3_reduceFresh_34 : decode cX3_reduceFresh 34 = .ok (.aload_n 0, 1) := by decide +kernel
theorem dX3_reduceFresh_35 : decode cX3_reduceFresh 35 = .ok (.getfield 15, 3) := by decide +kernel
theorem dX3_reduceFresh_38 : decode cX3_reduceFresh 38 = .ok (.iconst 0, 1) := by decide +kernel
theorem dX3_reduceFresh_39 : decode cX3_reduceFresh 39 = .ok (.aload_n 0, 1) := by decide +kernel
theorem dX3_reduceFresh_40 : decode cX3_reduceFresh 40 = .ok (.getfield 9, 3) := by decide +kernel
theorem dX3_reduceFresh_43 : decode cX3_reduceFresh 43 = .ok (.iload_n 1, 1) := by decide +kernel
theorem dX3_reduceFresh_44 : decode cX3_reduceFresh 44 = .ok (.bipush 6, 2) := by decide +kernel
theorem dX3_reduceFresh_46 : decode cX3_reduceFresh 46 = .ok (.imul, 1) := by decide +kernel
theorem dX3_reduceFresh_47 : decode cX3_reduceFresh 47 = .ok (.aload_n 0, 1) := by decide +kernel
theorem dX3_reduceFresh_48 : decode cX3_reduceFresh 48 = .ok (.getfield 18, 3) := by decide +kernel
theorem dX3_reduceFresh_51 : decode cX3_reduceFresh 51 = .ok (.getfield 55, 3) := by decide +kernel
theorem dX3_reduceFresh_54 : decode cX3_reduceFresh 54 = .ok (.aload_n 0, 1) := by decide +kernel
theorem dX3_reduceFresh_55 : decode cX3_reduceFresh 55 = .ok (.getfield 15, 3) := by decide +kernel
theorem dX3_reduceFresh_58 : decode cX3_reduceFresh 58 = .ok (.iload_n 1, 1) := by decide +kernel
theorem dX3_reduceFresh_59 : decode cX3_reduceFresh 59 = .ok (.iaload, 1) := by decide +kernel
theorem dX3_reduceFresh_60 : decode cX3_reduceFresh 60 = .ok (.isub, 1) := by decide +kernel
theorem dX3_reduceFresh_61 : decode cX3_reduceFresh 61 = .ok (.invokevirtual 79, 3) := by decide +kernel
theorem dX3_reduceFresh_64 : decode cX3_reduceFresh 64 = .ok (.iinc 1 1, 3) := by decide +kernel
theorem dX3_reduceFresh_67 : decode cX3_reduceFresh 67 = .ok (.goto (-65), 3) := by decide +kernel
theorem dX3_reduceFresh_70 : decode cX3_reduceFresh 70 = .ok (.return_, 1) := by decide +kernel
set_option maxRecDepth 20000 in
theorem ggX3_becomeDual_X3_becomeZero : GoodIn wsX3_becomeDual wsX3_becomeZero := goodIn_r _ [8, 9, 39, 40, 41, 42] (by decide +kernel) (by decide +kernel)
set_option maxRecDepth 20000 in
theorem gX3_becomeDual_X3_becomeZero : GoodIn wsX3_becomeDual (wsV RX3 83 RX3 yX3_becomeZero wsX3_becomeZero) := goodIn_app (goodIn_of _ (by decide +kernel)) ggX3_becomeDual_X3_becomeZero
set_option maxRecDepth 20000 in
theorem ggX3_becomeDual_X3_isPivot : GoodIn wsX3_becomeDual wsX3_isPivot := goodIn_r _ [13, 9, 1, 39, 40, 41, 42, 43, 44, 45] (by decide +kernel) (by decide +kernel)
set_option maxRecDepth 20000 in
theorem gX3_becomeDual_X3_isPivot : GoodIn wsX3_becomeDual (wsV RX3 43 RX3 yX3_isPivot wsX3_isPivot) := goodIn_app (goodIn_of _ (by decide +kernel)) ggX3_becomeDual_X3_isPivot
set_option maxRecDepth 20000 in
theorem ggX3_becomeDual_J7_fill_53178 : GoodIn wsX3_becomeDual wsJ7_fill_53178 := goodIn_r _ [17] (by decide +kernel) (by decide +kernel)
set_option maxRecDepth 20000 in
theorem gX3_becomeDual_J7_fill_53178 : GoodIn wsX3_becomeDual (va_wsS RX3 86 yJ7_fill_53178 wsJ7_fill_53178) := goodIn_app (goodIn_of _ (by decide +kernel)) ggX3_becomeDual_J7_fill_53178
set_option maxRecDepth 20000 in
theorem ggX3_becomeDual_X3_joinFresh : GoodIn wsX3_becomeDual wsX3_joinFresh := goodIn_r _ [21, 1, 2, 3, 22, 23, 24, 7, 25, 10, 11, 12, 13, 9, 26, 27, 28, 29, 30, 31, 32, 33, 34, 35, 36, 37, 38, 39, 40, 41, 42, 43, 44, 45] (by decide +kernel) (by decide +kernel)
set_option maxRecDepth 20000 in
theorem gX3_becomeDual_X3_joinFresh : GoodIn wsX3_becomeDual (wsV RX3 66 RX3 yX3_joinFresh wsX3_joinFresh) := goodIn_app (goodIn_of _ (by decide +kernel)) ggX3_becomeDual_X3_joinFresh
theorem dX3_becomeDual_0 : decode cX3_becomeDual 0 = .ok (.aload_n 0, 1) := by decide +kernel
theorem dX3_becomeDual_1 : decode cX3_becomeDual 1 = .ok (.invokevirtual 83, 3) := by decide +kernel
theorem dX3_becomeDual_4 : decode cX3_becomeDual 4 = .ok (.iconst 0, 1) := by decide +kernel
theorem dX3_becomeDual_5 : decode cX3_becomeDual 5 = .ok (.istore_n 2, 1) := by decide +kernel
theorem dX3_becomeDual_6 : decode cX3_becomeDual 6 = .ok (.iload_n 2, 1) := by decide +kernel
theorem dX3_becomeDual_7 : decode cX3_becomeDual 7 = .ok (.aload_n 0, 1) := by decide +kernel
theorem dX3_becomeDual_8 : decode cX3_becomeDual 8 = .ok (.getfield 18, 3) := by decide +kernel
theorem dX3_becomeDual_11 : decode cX3_becomeDual 11 = .ok (.getfield 38, 3) := by decide +kernel
theorem dX3_becomeDual_14 : decode cX3_becomeDual 14 = .ok (.if_icmp .ge 90, 3) := by decide +kernel
theorem dX3_becomeDual_17 : decode cX3_becomeDual 17 = .ok (.aload_n 1, 1) := by decide +kernel
theorem dX3_becomeDual_18 : decode cX3_becomeDual 18 = .ok (.iload_n 2, 1) := by decide +kernel
theorem dX3_becomeDual_19 : decode cX3_becomeDual 19 = .ok (.invokevirtual 43, 3) := by decide +kernel
theorem dX3_becomeDual_22 : decode cX3_becomeDual 22 = .ok (.ifCond .ne 76, 3) := by decide +kernel
theorem dX3_becomeDual_25 : decode cX3_becomeDual 25 = .ok (.aload_n 0, 1) := by decide +kernel
theorem dX3_becomeDual_26 : decode cX3_becomeDual 26 = .ok (.getfield 15, 3) := by decide +kernel
theorem dX3_becomeDual_29 : decode cX3_becomeDual 29 = .ok (.iconst 0, 1) := by decide +kernel
theorem dX3_becomeDual_30 : decode cX3_becomeDual 30 = .ok (.invokestatic 86, 3) := by decide +kernel
theorem dX3_becomeDual_33 : decode cX3_becomeDual 33 = .ok (.aload_n 0, 1) := by decide +kernel
theorem dX3_becomeDual_34 : decode cX3_becomeDual 34 = .ok (.getfield 15, 3) := by decide +kernel
theorem dX3_becomeDual_37 : decode cX3_becomeDual 37 = .ok (.iload_n 2, 1) := by decide +kernel
theorem dX3_becomeDual_38 : decode cX3_becomeDual 38 = .ok (.iconst 1, 1) := by decide +kernel
theorem dX3_becomeDual_39 : decode cX3_becomeDual 39 = .ok (.iastore, 1) := by decide +kernel
theorem dX3_becomeDual_40 : decode cX3_becomeDual 40 = .ok (.iconst 0, 1) := by decide +kernel
theorem dX3_becomeDual_41 : decode cX3_becomeDual 41 = .ok (.istore_n 3, 1) := by decide +kernel
theorem dX3_becomeDual_42 : decode cX3_becomeDual 42 = .ok (.iload_n 3, 1) := by decide +kernel
theorem dX3_becomeDual_43 : decode cX3_becomeDual 43 = .ok (.iload_n 2, 1) := by decide +kernel
theorem dX3_becomeDual_44 : decode cX3_becomeDual 44 = .ok (.if_icmp .ge 50, 3) := by decide +kernel
theorem dX3_becomeDual_47 : decode cX3_becomeDual 47 = .ok (.aload_n 1, 1) := by decide +kernel
theorem dX3_becomeDual_48 : decode cX3_becomeDual 48 = .ok (.iload_n 3, 1) := by decide +kernel
theorem dX3_becomeDual_49 : decode cX3_becomeDual 49 = .ok (.invokevirtual 43, 3) := by decide +kernel
theorem dX3_becomeDual_52 : decode cX3_becomeDual 52 = .ok (.ifCond .eq 36, 3) := by decide +kernel
theorem dX3_becomeDual_55 : decode cX3_becomeDual 55 = .ok (.aload_n 0, 1) := by decide +kernel
theorem dX3_becomeDual_56 : decode cX3_becomeDual 56 = .ok (.getfield 15, 3) := by decide +kernel
theorem dX3_becomeDual_59 : decode cX3_becomeDual 59 = .ok (.iload_n 3, 1) := by decide +kernel
theorem dX3_becomeDual_60 : decode cX3_becomeDual 60 = .ok (.aload_n 0, 1) := by decide +kernel
theorem dX3_becomeDual_61 : decode cX3_becomeDual 61 = .ok (.getfield 18, 3) := by decide +kernel
theorem dX3_becomeDual_64 : decode cX3_becomeDual 64 = .ok (.getfield 55, 3) := by decide +kernel
theorem dX3_becomeDual_67 : decode cX3_becomeDual 67 = .ok (.aload_n 1, 1) := by decide +kernel
theorem dX3_becomeDual_68 : decode cX3_becomeDual 68 = .ok (.getfield 9, 3) := by decide +kernel
theorem dX3_becomeDual_71 : decode cX3_becomeDual 71 = .ok (.iload_n 3, 1) := by decide +kernel
theorem dX3_becomeDual_72 : decode cX3_becomeDual 72 = .ok (.bipush 6, 2) := by decide +kernel
theorem dX3_becomeDual_74 : decode cX3_becomeDual 74 = .ok (.imul, 1) := by decide +kernel
theorem dX3_becomeDual_75 : decode cX3_becomeDual 75 = .ok (.iload_n 2, 1) := by decide +kernel
theorem dX3_becomeDual_76 : decode cX3_becomeDual 76 = .ok (.iadd, 1) := by decide +kernel
theorem dX3_becomeDual_77 : decode cX3_becomeDual 77 = .ok (.iaload, 1) := by decide +kernel
theorem dX3_becomeDual_78 : decode cX3_becomeDual 78 = .ok (.isub, 1) := by decide +kernel
theorem dX3_becomeDual_79 : decode cX3_becomeDual 79 = .ok (.aload_n 0, 1) := by decide +kernel
theorem dX3_becomeDual_80 : decode cX3_becomeDual 80 = .ok (.getfield 18, 3) := by decide +kernel
theorem dX3_becomeDual_83 : decode cX3_becomeDual 83 = .ok (.getfield 55, 3) := by decide +kernel
theorem dX3_becomeDual_86 : decode cX3_becomeDual 86 = .ok (.irem, 1) := by decide +kernel
theorem dX3_becomeDual_87 : decode cX3_becomeDual 87 = .ok (.iastore, 1) := by decide +kernel
theorem dX3_becomeDual_88 : decode cX3_becomeDual 88 = .ok (.iinc 3 1, 3) := by decide +kernel
theorem dX3_becomeDual_91 : decode cX3_becomeDual 91 = .ok (.goto (-49), 3) := by decide +kernel
theorem dX3_becomeDual_94 : decode cX3_becomeDual 94 = .ok (.aload_n 0, 1) := by decide +kernel
theorem dX3_becomeDual_95 : decode cX3_becomeDual 95 = .ok (.invokevirtual 66, 3) := by decide +kernel
theorem dX3_becomeDual_98 : decode cX3_becomeDual 98 = .ok (.iinc 2 1, 3) := by decide +kernel
theorem dX3_becomeDual_101 : decode cX3_becomeDual 101 = .ok (.goto (-95), 3) := by decide +kernel
theorem dX3_becomeDual_104 : decode cX3_becomeDual 104 = .ok (.return_, 1) := by decide +kernel
set_option maxRecDepth 20000 in
theorem ggX3_distance_X3_copyFrom : GoodIn wsX3_distance wsX3_copyFrom := goodIn_r _ [5, 6, 7, 8, 9, 10, 11, 54, 55, 56, 57] (by decide +kernel) (by decide +kernel)
set_option maxRecDepth 20000 in
theorem gX3_distance_X3_copyFrom : GoodIn wsX3_distance (wsV RX3 92 RX3 yX3_copyFrom wsX3_copyFrom) := goodIn_app (goodIn_of _ (by decide +kernel)) ggX3_distance_X3_copyFrom
set_option maxRecDepth 20000 in
theorem ggX3_distance_X3_joinSpace : GoodIn wsX3_distance wsX3_joinSpace := goodIn_r _ [15, 16, 7, 17, 8, 9, 10, 11, 18, 19, 20, 4, 21, 6, 22, 23, 24, 25, 26, 27, 28, 29, 30, 31, 32, 33, 34, 35, 36, 37, 38, 39, 40, 41, 42, 54, 55, 56, 57, 58, 59, 60] (by decide +kernel) (by decide +kernel)
set_option maxRecDepth 20000 in
theorem gX3_distance_X3_joinSpace : GoodIn wsX3_distance (wsV RX3 96 RX3 yX3_joinSpace wsX3_joinSpace) := goodIn_app (goodIn_of _ (by decide +kernel)) ggX3_distance_X3_joinSpace
set_option maxRecDepth 20000 in
theorem ggX3_distance_X3_rank : GoodIn wsX3_distance wsX3_rank := goodIn_r _ [46, 6, 47, 48, 49, 50, 51, 52, 53, 54, 55, 56, 57] (by decide +kernel) (by decide +kernel)
set_option maxRecDepth 20000 in
theorem gX3_distance_X3_rank : GoodIn wsX3_distance (wsV RX3 99 RX3 yX3_rank wsX3_rank) := goodIn_app (goodIn_of _ (by decide +kernel)) ggX3_distance_X3_rank
theorem dX3_distance_0 : decode cX3_distance 0 = .ok (.aload_n 0, 1) := by decide +kernel
theorem dX3_distance_1 : decode cX3_distance 1 = .ok (.aload_n 1, 1) := by decide +kernel
theorem dX3_distance_2 : decode cX3_distance 2 = .ok (.invokevirtual 92, 3) := by decide +kernel
theorem dX3_distance_5 : decode cX3_distance 5 = .ok (.aload_n 0, 1) := by decide +kernel
theorem dX3_distance_6 : decode cX3_distance 6 = .ok (.aload_n 2, 1) := by decide +kernel
theorem dX3_distance_7 : decode cX3_distance 7 = .ok (.invokevirtual 96, 3) := by decide +kernel
theorem dX3_distance_10 : decode cX3_distance 10 = .ok (.iconst 2, 1) := by decide +kernel
theorem dX3_distance_11 : decode cX3_distance 11 = .ok (.aload_n 0, 1) := by decide +kernel
theorem dX3_distance_12 : decode cX3_distance 12 = .ok (.invokevirtual 99, 3) := by decide +kernel
theorem dX3_distance_15 : decode cX3_distance 15 = .ok (.imul, 1) := by decide +kernel
theorem dX3_distance_16 : decode cX3_distance 16 = .ok (.aload_n 1, 1) := by decide +kernel
theorem dX3_distance_17 : decode cX3_distance 17 = .ok (.invokevirtual 99, 3) := by decide +kernel
theorem dX3_distance_20 : decode cX3_distance 20 = .ok (.isub, 1) := by decide +kernel
theorem dX3_distance_21 : decode cX3_distance 21 = .ok (.aload_n 2, 1) := by decide +kernel
theorem dX3_distance_22 : decode cX3_distance 22 = .ok (.invokevirtual 99, 3) := by decide +kernel
theorem dX3_distance_25 : decode cX3_distance 25 = .ok (.isub, 1) := by decide +kernel
theorem dX3_distance_26 : decode cX3_distance 26 = .ok (.ireturn, 1) := by decide +kernel
theorem dX3_freeCells_0 : decode cX3_freeCells 0 = .ok (.iconst 0, 1) := by decide +kernel
theorem dX3_freeCells_1 : decode cX3_freeCells 1 = .ok (.istore_n 2, 1) := by decide +kernel
theorem dX3_freeCells_2 : decode cX3_freeCells 2 = .ok (.iconst 0, 1) := by decide +kernel
theorem dX3_freeCells_3 : decode cX3_freeCells 3 = .ok (.istore_n 3, 1) := by decide +kernel
theorem dX3_freeCells_4 : decode cX3_freeCells 4 = .ok (.iconst 0, 1) := by decide +kernel
theorem dX3_freeCells_5 : decode cX3_freeCells 5 = .ok (.istore 4, 2) := by decide +kernel
theorem dX3_freeCells_7 : decode cX3_freeCells 7 = .ok (.iload 4, 2) := by decide +kernel
theorem dX3_freeCells_9 : decode cX3_freeCells 9 = .ok (.aload_n 0, 1) := by decide +kernel
theorem dX3_freeCells_10 : decode cX3_freeCells 10 = .ok (.getfield 18, 3) := by decide +kernel
theorem dX3_freeCells_13 : decode cX3_freeCells 13 = .ok (.getfield 38, 3) := by decide +kernel
theorem dX3_freeCells_16 : decode cX3_freeCells 16 = .ok (.if_icmp .ge 29, 3) := by decide +kernel
theorem dX3_freeCells_19 : decode cX3_freeCells 19 = .ok (.iload_n 1, 1) := by decide +kernel
theorem dX3_freeCells_20 : decode cX3_freeCells 20 = .ok (.iload 4, 2) := by decide +kernel
theorem dX3_freeCells_22 : decode cX3_freeCells 22 = .ok (.ishr, 1) := by decide +kernel
theorem dX3_freeCells_23 : decode cX3_freeCells 23 = .ok (.iconst 1, 1) := by decide +kernel
theorem dX3_freeCells_24 : decode cX3_freeCells 24 = .ok (.iand, 1) := by decide +kernel
theorem dX3_freeCells_25 : decode cX3_freeCells 25 = .ok (.iconst 1, 1) := by decide +kernel
theorem dX3_freeCells_26 : decode cX3_freeCells 26 = .ok (.if_icmp .ne 10, 3) := by decide +kernel
theorem dX3_freeCells_29 : decode cX3_freeCells 29 = .ok (.iload_n 2, 1) := by decide +kernel
theorem dX3_freeCells_30 : decode cX3_freeCells 30 = .ok (.iload_n 3, 1) := by decide +kernel
theorem dX3_freeCells_31 : decode cX3_freeCells 31 = .ok (.iadd, 1) := by decide +kernel
theorem dX3_freeCells_32 : decode cX3_freeCells 32 = .ok (.istore_n 2, 1) := by decide +kernel
theorem dX3_freeCells_33 : decode cX3_freeCells 33 = .ok (.goto 6, 3) := by decide +kernel
theorem dX3_freeCells_36 : decode cX3_freeCells 36 = .ok (.iinc 3 1, 3) := by decide +kernel
theorem dX3_freeCells_39 : decode cX3_freeCells 39 = .ok (.iinc 4 1, 3) := by decide +kernel
theorem dX3_freeCells_42 : decode cX3_freeCells 42 = .ok (.goto (-35), 3) := by decide +kernel
theorem dX3_freeCells_45 : decode cX3_freeCells 45 = .ok (.iload_n 2, 1) := by decide +kernel
theorem dX3_freeCells_46 : decode cX3_freeCells 46 = .ok (.ireturn, 1) := by decide +kernel
set_option maxRecDepth 20000 in
theorem ggX3_ordinal_X3_rank : GoodIn wsX3_ordinal wsX3_rank := goodIn_r _ [7, 2, 8, 9, 10, 11, 12, 13, 14, 33, 34, 35, 36] (by decide +kernel) (by decide +kernel)
set_option maxRecDepth 20000 in
theorem gX3_ordinal_X3_rank : GoodIn wsX3_ordinal (wsV RX3 99 RX3 yX3_rank wsX3_rank) := goodIn_app (goodIn_of _ (by decide +kernel)) ggX3_ordinal_X3_rank
set_option maxRecDepth 20000 in
theorem ggX3_ordinal_J6_bitCount_0f7a4 : GoodIn wsX3_ordinal wsJ6_bitCount_0f7a4 := goodIn_r _ [11, 12, 13, 14] (by decide +kernel) (by decide +kernel)
set_option maxRecDepth 20000 in
theorem gX3_ordinal_J6_bitCount_0f7a4 : GoodIn wsX3_ordinal (va_wsS RX3 32 yJ6_bitCount_0f7a4 wsJ6_bitCount_0f7a4) := goodIn_app (goodIn_of _ (by decide +kernel)) ggX3_ordinal_J6_bitCount_0f7a4
set_option maxRecDepth 20000 in
theorem ggX3_ordinal_X3_freeCells : GoodIn wsX3_ordinal wsX3_freeCells := goodIn_r _ [18, 1, 33, 34, 35, 36, 37, 38, 39] (by decide +kernel) (by decide +kernel)
set_option maxRecDepth 20000 in
theorem gX3_ordinal_X3_freeCells : GoodIn wsX3_ordinal (wsV RX3 103 RX3 yX3_freeCells wsX3_freeCells) := goodIn_app (goodIn_of _ (by decide +kernel)) ggX3_ordinal_X3_freeCells
set_option maxRecDepth 20000 in
theorem ggX3_ordinal_X0_power : GoodIn wsX3_ordinal wsX0_power := goodIn_r _ [22, 23, 37, 38, 39] (by decide +kernel) (by decide +kernel)
set_option maxRecDepth 20000 in
theorem gX3_ordinal_X0_power_n106 : GoodIn wsX3_ordinal (wsX0_power) := ggX3_ordinal_X0_power
set_option maxRecDepth 20000 in
theorem ggX3_ordinal_X3_cellsValue : GoodIn wsX3_ordinal wsX3_cellsValue := goodIn_r _ [27, 1, 28, 29, 30, 31, 6, 32, 2, 33, 34, 35, 36, 37, 38, 39] (by decide +kernel) (by decide +kernel)
set_option maxRecDepth 20000 in
theorem gX3_ordinal_X3_cellsValue : GoodIn wsX3_ordinal (wsV RX3 109 RX3 yX3_cellsValue wsX3_cellsValue) := goodIn_app (goodIn_of _ (by decide +kernel)) ggX3_ordinal_X3_cellsValue
theorem dX3_ordinal_0 : decode cX3_ordinal 0 = .ok (.aload_n 0, 1) := by decide +kernel
theorem dX3_ordinal_1 : decode cX3_ordinal 1 = .ok (.invokevirtual 99, 3) := by decide +kernel
theorem dX3_ordinal_4 : decode cX3_ordinal 4 = .ok (.istore_n 1, 1) := by decide +kernel
theorem dX3_ordinal_5 : decode cX3_ordinal 5 = .ok (.iconst 0, 1) := by decide +kernel
theorem dX3_ordinal_6 : decode cX3_ordinal 6 = .ok (.istore_n 2, 1) := by decide +kernel
theorem dX3_ordinal_7 : decode cX3_ordinal 7 = .ok (.iconst 1, 1) := by decide +kernel
theorem dX3_ordinal_8 : decode cX3_ordinal 8 = .ok (.aload_n 0, 1) := by decide +kernel
theorem dX3_ordinal_9 : decode cX3_ordinal 9 = .ok (.getfield 18, 3) := by decide +kernel
theorem dX3_ordinal_12 : decode cX3_ordinal 12 = .ok (.getfield 38, 3) := by decide +kernel
theorem dX3_ordinal_15 : decode cX3_ordinal 15 = .ok (.ishl, 1) := by decide +kernel
theorem dX3_ordinal_16 : decode cX3_ordinal 16 = .ok (.iconst 1, 1) := by decide +kernel
theorem dX3_ordinal_17 : decode cX3_ordinal 17 = .ok (.isub, 1) := by decide +kernel
theorem dX3_ordinal_18 : decode cX3_ordinal 18 = .ok (.istore_n 3, 1) := by decide +kernel
theorem dX3_ordinal_19 : decode cX3_ordinal 19 = .ok (.iload_n 3, 1) := by decide +kernel
theorem dX3_ordinal_20 : decode cX3_ordinal 20 = .ok (.aload_n 0, 1) := by decide +kernel
theorem dX3_ordinal_21 : decode cX3_ordinal 21 = .ok (.getfield 22, 3) := by decide +kernel
theorem dX3_ordinal_24 : decode cX3_ordinal 24 = .ok (.if_icmp .le 32, 3) := by decide +kernel
theorem dX3_ordinal_27 : decode cX3_ordinal 27 = .ok (.iload_n 3, 1) := by decide +kernel
theorem dX3_ordinal_28 : decode cX3_ordinal 28 = .ok (.invokestatic 32, 3) := by decide +kernel
theorem dX3_ordinal_31 : decode cX3_ordinal 31 = .ok (.iload_n 1, 1) := by decide +kernel
theorem dX3_ordinal_32 : decode cX3_ordinal 32 = .ok (.if_icmp .ne 18, 3) := by decide +kernel
theorem dX3_ordinal_35 : decode cX3_ordinal 35 = .ok (.iload_n 2, 1) := by decide +kernel
theorem dX3_ordinal_36 : decode cX3_ordinal 36 = .ok (.aload_n 0, 1) := by decide +kernel
theorem dX3_ordinal_37 : decode cX3_ordinal 37 = .ok (.getfield 18, 3) := by decide +kernel
theorem dX3_ordinal_40 : decode cX3_ordinal 40 = .ok (.aload_n 0, 1) := by decide +kernel
theorem dX3_ordinal_41 : decode cX3_ordinal 41 = .ok (.iload_n 3, 1) := by decide +kernel
theorem dX3_ordinal_42 : decode cX3_ordinal 42 = .ok (.invokevirtual 103, 3) := by decide +kernel
theorem dX3_ordinal_45 : decode cX3_ordinal 45 = .ok (.invokevirtual 106, 3) := by decide +kernel
theorem dX3_ordinal_48 : decode cX3_ordinal 48 = .ok (.iadd, 1) := by decide +kernel
theorem dX3_ordinal_49 : decode cX3_ordinal 49 = .ok (.istore_n 2, 1) := by decide +kernel
theorem dX3_ordinal_50 : decode cX3_ordinal 50 = .ok (.iinc 3 (-1), 3) := by decide +kernel
theorem dX3_ordinal_53 : decode cX3_ordinal 53 = .ok (.goto (-34), 3) := by decide +kernel
theorem dX3_ordinal_56 : decode cX3_ordinal 56 = .ok (.iload_n 2, 1) := by decide +kernel
theorem dX3_ordinal_57 : decode cX3_ordinal 57 = .ok (.aload_n 0, 1) := by decide +kernel
theorem dX3_ordinal_58 : decode cX3_ordinal 58 = .ok (.invokevirtual 109, 3) := by decide +kernel
theorem dX3_ordinal_61 : decode cX3_ordinal 61 = .ok (.iadd, 1) := by decide +kernel
theorem dX3_ordinal_62 : decode cX3_ordinal 62 = .ok (.ireturn, 1) := by decide +kernel
set_option maxRecDepth 20000 in
theorem ggX3_cellsValue_X3_isPivot : GoodIn wsX3_cellsValue wsX3_isPivot := goodIn_r _ [7, 8, 1, 9, 10, 11, 12, 13, 14, 15] (by decide +kernel) (by decide +kernel)
set_option maxRecDepth 20000 in
theorem gX3_cellsValue_X3_isPivot : GoodIn wsX3_cellsValue (wsV RX3 43 RX3 yX3_isPivot wsX3_isPivot) := goodIn_app (goodIn_of _ (by decide +kernel)) ggX3_cellsValue_X3_isPivot
theorem dX3_cellsValue_0 : decode cX3_cellsValue 0 = .ok (.iconst 0, 1) := by decide +kernel
theorem dX3_cellsValue_1 : decode cX3_cellsValue 1 = .ok (.istore_n 1, 1) := by decide +kernel
theorem dX3_cellsValue_2 : decode cX3_cellsValue 2 = .ok (.iconst 0, 1) := by decide +kernel
theorem dX3_cellsValue_3 : decode cX3_cellsValue 3 = .ok (.istore_n 2, 1) := by decide +kernel
theorem dX3_cellsValue_4 : decode cX3_cellsValue 4 = .ok (.iload_n 2, 1) := by decide +kernel
theorem dX3_cellsValue_5 : decode cX3_cellsValue 5 = .ok (.aload_n 0, 1) := by decide +kernel
theorem dX3_cellsValue_6 : decode cX3_cellsValue 6 = .ok (.getfield 18, 3) := by decide +kernel
theorem dX3_cellsValue_9 : decode cX3_cellsValue 9 = .ok (.getfield 38, 3) := by decide +kernel
theorem dX3_cellsValue_12 : decode cX3_cellsValue 12 = .ok (.if_icmp .ge 68, 3) := by decide +kernel
theorem dX3_cellsValue_15 : decode cX3_cellsValue 15 = .ok (.aload_n 0, 1) := by decide +kernel
theorem dX3_cellsValue_16 : decode cX3_cellsValue 16 = .ok (.iload_n 2, 1) := by decide +kernel
theorem dX3_cellsValue_17 : decode cX3_cellsValue 17 = .ok (.invokevirtual 43, 3) := by decide +kernel
theorem dX3_cellsValue_20 : decode cX3_cellsValue 20 = .ok (.ifCond .eq 54, 3) := by decide +kernel
theorem dX3_cellsValue_23 : decode cX3_cellsValue 23 = .ok (.iload_n 2, 1) := by decide +kernel
theorem dX3_cellsValue_24 : decode cX3_cellsValue 24 = .ok (.iconst 1, 1) := by decide +kernel
theorem dX3_cellsValue_25 : decode cX3_cellsValue 25 = .ok (.iadd, 1) := by decide +kernel
theorem dX3_cellsValue_26 : decode cX3_cellsValue 26 = .ok (.istore_n 3, 1) := by decide +kernel
theorem dX3_cellsValue_27 : decode cX3_cellsValue 27 = .ok (.iload_n 3, 1) := by decide +kernel
theorem dX3_cellsValue_28 : decode cX3_cellsValue 28 = .ok (.aload_n 0, 1) := by decide +kernel
theorem dX3_cellsValue_29 : decode cX3_cellsValue 29 = .ok (.getfield 18, 3) := by decide +kernel
theorem dX3_cellsValue_32 : decode cX3_cellsValue 32 = .ok (.getfield 38, 3) := by decide +kernel
theorem dX3_cellsValue_35 : decode cX3_cellsValue 35 = .ok (.if_icmp .ge 39, 3) := by decide +kernel
theorem dX3_cellsValue_38 : decode cX3_cellsValue 38 = .ok (.aload_n 0, 1) := by decide +kernel
theorem dX3_cellsValue_39 : decode cX3_cellsValue 39 = .ok (.iload_n 3, 1) := by decide +kernel
theorem dX3_cellsValue_40 : decode cX3_cellsValue 40 = .ok (.invokevirtual 43, 3) := by decide +kernel
theorem dX3_cellsValue_43 : decode cX3_cellsValue 43 = .ok (.ifCond .ne 25, 3) := by decide +kernel
theorem dX3_cellsValue_46 : decode cX3_cellsValue 46 = .ok (.iload_n 1, 1) := by decide +kernel
theorem dX3_cellsValue_47 : decode cX3_cellsValue 47 = .ok (.aload_n 0, 1) := by decide +kernel
theorem dX3_cellsValue_48 : decode cX3_cellsValue 48 = .ok (.getfield 18, 3) := by decide +kernel
theorem dX3_cellsValue_51 : decode cX3_cellsValue 51 = .ok (.getfield 55, 3) := by decide +kernel
theorem dX3_cellsValue_54 : decode cX3_cellsValue 54 = .ok (.imul, 1) := by decide +kernel
theorem dX3_cellsValue_55 : decode cX3_cellsValue 55 = .ok (.aload_n 0, 1) := by decide +kernel
theorem dX3_cellsValue_56 : decode cX3_cellsValue 56 = .ok (.getfield 9, 3) := by decide +kernel
theorem dX3_cellsValue_59 : decode cX3_cellsValue 59 = .ok (.iload_n 2, 1) := by decide +kernel
theorem dX3_cellsValue_60 : decode cX3_cellsValue 60 = .ok (.bipush 6, 2) := by decide +kernel
theorem dX3_cellsValue_62 : decode cX3_cellsValue 62 = .ok (.imul, 1) := by decide +kernel
theorem dX3_cellsValue_63 : decode cX3_cellsValue 63 = .ok (.iload_n 3, 1) := by decide +kernel
theorem dX3_cellsValue_64 : decode cX3_cellsValue 64 = .ok (.iadd, 1) := by decide +kernel
theorem dX3_cellsValue_65 : decode cX3_cellsValue 65 = .ok (.iaload, 1) := by decide +kernel
theorem dX3_cellsValue_66 : decode cX3_cellsValue 66 = .ok (.iadd, 1) := by decide +kernel
theorem dX3_cellsValue_67 : decode cX3_cellsValue 67 = .ok (.istore_n 1, 1) := by decide +kernel
theorem dX3_cellsValue_68 : decode cX3_cellsValue 68 = .ok (.iinc 3 1, 3) := by decide +kernel
theorem dX3_cellsValue_71 : decode cX3_cellsValue 71 = .ok (.goto (-44), 3) := by decide +kernel
theorem dX3_cellsValue_74 : decode cX3_cellsValue 74 = .ok (.iinc 2 1, 3) := by decide +kernel
theorem dX3_cellsValue_77 : decode cX3_cellsValue 77 = .ok (.goto (-73), 3) := by decide +kernel
theorem dX3_cellsValue_80 : decode cX3_cellsValue 80 = .ok (.iload_n 1, 1) := by decide +kernel
theorem dX3_cellsValue_81 : decode cX3_cellsValue 81 = .ok (.ireturn, 1) := by decide +kernel
set_option maxRecDepth 20000 in
theorem ggX3_becomeOrdinal_J6_bitCount_0f7a4 : GoodIn wsX3_becomeOrdinal wsJ6_bitCount_0f7a4 := goodIn_r _ [6, 7, 8, 9] (by decide +kernel) (by decide +kernel)
set_option maxRecDepth 20000 in
theorem gX3_becomeOrdinal_J6_bitCount_0f7a4 : GoodIn wsX3_becomeOrdinal (va_wsS RX3 32 yJ6_bitCount_0f7a4 wsJ6_bitCount_0f7a4) := goodIn_app (goodIn_of _ (by decide +kernel)) ggX3_becomeOrdinal_J6_bitCount_0f7a4
set_option maxRecDepth 20000 in
theorem ggX3_becomeOrdinal_X3_freeCells : GoodIn wsX3_becomeOrdinal wsX3_freeCells := goodIn_r _ [14, 1, 33, 34, 35, 36, 37, 38, 39] (by decide +kernel) (by decide +kernel)
set_option maxRecDepth 20000 in
theorem gX3_becomeOrdinal_X3_freeCells : GoodIn wsX3_becomeOrdinal (wsV RX3 103 RX3 yX3_freeCells wsX3_freeCells) := goodIn_app (goodIn_of _ (by decide +kernel)) ggX3_becomeOrdinal_X3_freeCells
set_option maxRecDepth 20000 in
theorem ggX3_becomeOrdinal_X0_power : GoodIn wsX3_becomeOrdinal wsX0_power := goodIn_r _ [18, 19, 37, 38, 39] (by decide +kernel) (by decide +kernel)
set_option maxRecDepth 20000 in
theorem gX3_becomeOrdinal_X0_power_n106 : GoodIn wsX3_becomeOrdinal (wsX0_power) := ggX3_becomeOrdinal_X0_power
set_option maxRecDepth 20000 in
theorem ggX3_becomeOrdinal_X3_fillCells : GoodIn wsX3_becomeOrdinal wsX3_fillCells := goodIn_r _ [23, 24, 1, 25, 26, 27, 28, 29, 30, 31, 13, 32, 2, 33, 34, 35, 36, 37, 38, 39] (by decide +kernel) (by decide +kernel)
set_option maxRecDepth 20000 in
theorem gX3_becomeOrdinal_X3_fillCells : GoodIn wsX3_becomeOrdinal (wsV RX3 112 RX3 yX3_fillCells wsX3_fillCells) := goodIn_app (goodIn_of _ (by decide +kernel)) ggX3_becomeOrdinal_X3_fillCells
theorem dX3_becomeOrdinal_0 : decode cX3_becomeOrdinal 0 = .ok (.iload_n 2, 1) := by decide +kernel
theorem dX3_becomeOrdinal_1 : decode cX3_becomeOrdinal 1 = .ok (.istore_n 3, 1) := by decide +kernel
theorem dX3_becomeOrdinal_2 : decode cX3_becomeOrdinal 2 = .ok (.iconst 1, 1) := by decide +kernel
theorem dX3_becomeOrdinal_3 : decode cX3_becomeOrdinal 3 = .ok (.aload_n 0, 1) := by decide +kernel
theorem dX3_becomeOrdinal_4 : decode cX3_becomeOrdinal 4 = .ok (.getfield 18, 3) := by decide +kernel
theorem dX3_becomeOrdinal_7 : decode cX3_becomeOrdinal 7 = .ok (.getfield 38, 3) := by decide +kernel
theorem dX3_becomeOrdinal_10 : decode cX3_becomeOrdinal 10 = .ok (.ishl, 1) := by decide +kernel
theorem dX3_becomeOrdinal_11 : decode cX3_becomeOrdinal 11 = .ok (.iconst 1, 1) := by decide +kernel
theorem dX3_becomeOrdinal_12 : decode cX3_becomeOrdinal 12 = .ok (.isub, 1) := by decide +kernel
theorem dX3_becomeOrdinal_13 : decode cX3_becomeOrdinal 13 = .ok (.istore 4, 2) := by decide +kernel
theorem dX3_becomeOrdinal_15 : decode cX3_becomeOrdinal 15 = .ok (.iload 4, 2) := by decide +kernel
theorem dX3_becomeOrdinal_17 : decode cX3_becomeOrdinal 17 = .ok (.ifCond .lt 56, 3) := by decide +kernel
theorem dX3_becomeOrdinal_20 : decode cX3_becomeOrdinal 20 = .ok (.iload 4, 2) := by decide +kernel
theorem dX3_becomeOrdinal_22 : decode cX3_becomeOrdinal 22 = .ok (.invokestatic 32, 3) := by decide +kernel
theorem dX3_becomeOrdinal_25 : decode cX3_becomeOrdinal 25 = .ok (.iload_n 1, 1) := by decide +kernel
theorem dX3_becomeOrdinal_26 : decode cX3_becomeOrdinal 26 = .ok (.if_icmp .ne 41, 3) := by decide +kernel
theorem dX3_becomeOrdinal_29 : decode cX3_becomeOrdinal 29 = .ok (.aload_n 0, 1) := by decide +kernel
theorem dX3_becomeOrdinal_30 : decode cX3_becomeOrdinal 30 = .ok (.getfield 18, 3) := by decide +kernel
theorem dX3_becomeOrdinal_33 : decode cX3_becomeOrdinal 33 = .ok (.aload_n 0, 1) := by decide +kernel
theorem dX3_becomeOrdinal_34 : decode cX3_becomeOrdinal 34 = .ok (.iload 4, 2) := by decide +kernel
theorem dX3_becomeOrdinal_36 : decode cX3_becomeOrdinal 36 = .ok (.invokevirtual 103, 3) := by decide +kernel
theorem dX3_becomeOrdinal_39 : decode cX3_becomeOrdinal 39 = .ok (.invokevirtual 106, 3) := by decide +kernel
theorem dX3_becomeOrdinal_42 : decode cX3_becomeOrdinal 42 = .ok (.istore 5, 2) := by decide +kernel
theorem dX3_becomeOrdinal_44 : decode cX3_becomeOrdinal 44 = .ok (.iload_n 3, 1) := by decide +kernel
theorem dX3_becomeOrdinal_45 : decode cX3_becomeOrdinal 45 = .ok (.iload 5, 2) := by decide +kernel
theorem dX3_becomeOrdinal_47 : decode cX3_becomeOrdinal 47 = .ok (.if_icmp .ge 15, 3) := by decide +kernel
theorem dX3_becomeOrdinal_50 : decode cX3_becomeOrdinal 50 = .ok (.aload_n 0, 1) := by decide +kernel
theorem dX3_becomeOrdinal_51 : decode cX3_becomeOrdinal 51 = .ok (.iload 4, 2) := by decide +kernel
theorem dX3_becomeOrdinal_53 : decode cX3_becomeOrdinal 53 = .ok (.putfield 22, 3) := by decide +kernel
theorem dX3_becomeOrdinal_56 : decode cX3_becomeOrdinal 56 = .ok (.aload_n 0, 1) := by decide +kernel
theorem dX3_becomeOrdinal_57 : decode cX3_becomeOrdinal 57 = .ok (.iload_n 3, 1) := by decide +kernel
theorem dX3_becomeOrdinal_58 : decode cX3_becomeOrdinal 58 = .ok (.invokevirtual 112, 3) := by decide +kernel
theorem dX3_becomeOrdinal_61 : decode cX3_becomeOrdinal 61 = .ok (.return_, 1) := by decide +kernel
theorem dX3_becomeOrdinal_62 : decode cX3_becomeOrdinal 62 = .ok (.iload_n 3, 1) := by decide +kernel
theorem dX3_becomeOrdinal_63 : decode cX3_becomeOrdinal 63 = .ok (.iload 5, 2) := by decide +kernel
theorem dX3_becomeOrdinal_65 : decode cX3_becomeOrdinal 65 = .ok (.isub, 1) := by decide +kernel
theorem dX3_becomeOrdinal_66 : decode cX3_becomeOrdinal 66 = .ok (.istore_n 3, 1) := by decide +kernel
theorem dX3_becomeOrdinal_67 : decode cX3_becomeOrdinal 67 = .ok (.iinc 4 (-1), 3) := by decide +kernel
theorem dX3_becomeOrdinal_70 : decode cX3_becomeOrdinal 70 = .ok (.goto (-55), 3) := by decide +kernel
theorem dX3_becomeOrdinal_73 : decode cX3_becomeOrdinal 73 = .ok (.return_, 1) := by decide +kernel
set_option maxRecDepth 20000 in
theorem ggX3_fillCells_J7_fill_53178 : GoodIn wsX3_fillCells wsJ7_fill_53178 := goodIn_r _ [6] (by decide +kernel) (by decide +kernel)
set_option maxRecDepth 20000 in
theorem gX3_fillCells_J7_fill_53178 : GoodIn wsX3_fillCells (va_wsS RX3 86 yJ7_fill_53178 wsJ7_fill_53178) := goodIn_app (goodIn_of _ (by decide +kernel)) ggX3_fillCells_J7_fill_53178
set_option maxRecDepth 20000 in
theorem ggX3_fillCells_X3_isPivot : GoodIn wsX3_fillCells wsX3_isPivot := goodIn_r _ [11, 12, 2, 13, 14, 15, 16, 17, 18, 19] (by decide +kernel) (by decide +kernel)
set_option maxRecDepth 20000 in
theorem gX3_fillCells_X3_isPivot : GoodIn wsX3_fillCells (wsV RX3 43 RX3 yX3_isPivot wsX3_isPivot) := goodIn_app (goodIn_of _ (by decide +kernel)) ggX3_fillCells_X3_isPivot
theorem dX3_fillCells_0 : decode cX3_fillCells 0 = .ok (.iload_n 1, 1) := by decide +kernel
theorem dX3_fillCells_1 : decode cX3_fillCells 1 = .ok (.istore_n 2, 1) := by decide +kernel
theorem dX3_fillCells_2 : decode cX3_fillCells 2 = .ok (.aload_n 0, 1) := by decide +kernel
theorem dX3_fillCells_3 : decode cX3_fillCells 3 = .ok (.getfield 9, 3) := by decide +kernel
theorem dX3_fillCells_6 : decode cX3_fillCells 6 = .ok (.iconst 0, 1) := by decide +kernel
theorem dX3_fillCells_7 : decode cX3_fillCells 7 = .ok (.invokestatic 86, 3) := by decide +kernel
theorem dX3_fillCells_10 : decode cX3_fillCells 10 = .ok (.aload_n 0, 1) := by decide +kernel
theorem dX3_fillCells_11 : decode cX3_fillCells 11 = .ok (.getfield 18, 3) := by decide +kernel
theorem dX3_fillCells_14 : decode cX3_fillCells 14 = .ok (.getfield 38, 3) := by decide +kernel
theorem dX3_fillCells_17 : decode cX3_fillCells 17 = .ok (.iconst 1, 1) := by decide +kernel
theorem dX3_fillCells_18 : decode cX3_fillCells 18 = .ok (.isub, 1) := by decide +kernel
theorem dX3_fillCells_19 : decode cX3_fillCells 19 = .ok (.istore_n 3, 1) := by decide +kernel
theorem dX3_fillCells_20 : decode cX3_fillCells 20 = .ok (.iload_n 3, 1) := by decide +kernel
theorem dX3_fillCells_21 : decode cX3_fillCells 21 = .ok (.ifCond .lt 92, 3) := by decide +kernel
