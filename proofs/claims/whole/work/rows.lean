section
-- ===== PART A: goes FIRST, ahead of the names: the tables' words, and 'selects' of the private methods out of them =====
/-- a private method of a class that the tables say can be made, by its rows of tables_1 -/
def lw_okq (q : MethodName × Nat) : Prop := (q.1.cls ≠ "java/lang/invoke/MethodHandle" ∧ q.1.cls ≠ "java/lang/invoke/VarHandle") ∧ Cond.instantiable q.1.cls q.2 ∈ tables_1 ∧ Cond.privateMethod q.1 ∈ tables_1 ∧ Cond.instanceMethod q.1 ∈ tables_1
theorem lw_p0 : lw_okq (⟨"SmallSpaces$Frame", "become", "(II)V"⟩, 3) := ⟨⟨by decide +kernel, by decide +kernel⟩, List.mem_of_getElem? (i := 20) (by decide +kernel), List.mem_of_getElem? (i := 26) (by decide +kernel), List.mem_of_getElem? (i := 27) (by decide +kernel)⟩
theorem lw_p1 : lw_okq (⟨"SmallSpaces$Frame", "power", "(I)I"⟩, 3) := ⟨⟨by decide +kernel, by decide +kernel⟩, List.mem_of_getElem? (i := 20) (by decide +kernel), List.mem_of_getElem? (i := 30) (by decide +kernel), List.mem_of_getElem? (i := 31) (by decide +kernel)⟩
theorem lw_p2 : lw_okq (⟨"SmallSpaces$Linear", "becomeIdentity", "()V"⟩, 3) := ⟨⟨by decide +kernel, by decide +kernel⟩, List.mem_of_getElem? (i := 92) (by decide +kernel), List.mem_of_getElem? (i := 98) (by decide +kernel), List.mem_of_getElem? (i := 99) (by decide +kernel)⟩
theorem lw_p3 : lw_okq (⟨"SmallSpaces$Space", "becomeZero", "()V"⟩, 4) := ⟨⟨by decide +kernel, by decide +kernel⟩, List.mem_of_getElem? (i := 51) (by decide +kernel), List.mem_of_getElem? (i := 151) (by decide +kernel), List.mem_of_getElem? (i := 152) (by decide +kernel)⟩
theorem lw_p4 : lw_okq (⟨"SmallSpaces$Frame", "isVector", "(I)Z"⟩, 3) := ⟨⟨by decide +kernel, by decide +kernel⟩, List.mem_of_getElem? (i := 20) (by decide +kernel), List.mem_of_getElem? (i := 160) (by decide +kernel), List.mem_of_getElem? (i := 161) (by decide +kernel)⟩
theorem lw_p5 : lw_okq (⟨"SmallSpaces$Frame", "sum", "(III)I"⟩, 3) := ⟨⟨by decide +kernel, by decide +kernel⟩, List.mem_of_getElem? (i := 20) (by decide +kernel), List.mem_of_getElem? (i := 164) (by decide +kernel), List.mem_of_getElem? (i := 165) (by decide +kernel)⟩
theorem lw_p6 : lw_okq (⟨"SmallSpaces$Frame", "product", "(II)I"⟩, 3) := ⟨⟨by decide +kernel, by decide +kernel⟩, List.mem_of_getElem? (i := 20) (by decide +kernel), List.mem_of_getElem? (i := 172) (by decide +kernel), List.mem_of_getElem? (i := 173) (by decide +kernel)⟩
theorem lw_p7 : lw_okq (⟨"SmallSpaces$Frame", "spell", "(I[II)V"⟩, 3) := ⟨⟨by decide +kernel, by decide +kernel⟩, List.mem_of_getElem? (i := 20) (by decide +kernel), List.mem_of_getElem? (i := 183) (by decide +kernel), List.mem_of_getElem? (i := 184) (by decide +kernel)⟩
theorem lw_p8 : lw_okq (⟨"SmallSpaces$Space", "joinVector", "([II)V"⟩, 4) := ⟨⟨by decide +kernel, by decide +kernel⟩, List.mem_of_getElem? (i := 51) (by decide +kernel), List.mem_of_getElem? (i := 187) (by decide +kernel), List.mem_of_getElem? (i := 188) (by decide +kernel)⟩
theorem lw_p9 : lw_okq (⟨"SmallSpaces$Space", "joinFresh", "()V"⟩, 4) := ⟨⟨by decide +kernel, by decide +kernel⟩, List.mem_of_getElem? (i := 51) (by decide +kernel), List.mem_of_getElem? (i := 194) (by decide +kernel), List.mem_of_getElem? (i := 195) (by decide +kernel)⟩
theorem lw_p10 : lw_okq (⟨"SmallSpaces$Space", "reduceFresh", "()V"⟩, 4) := ⟨⟨by decide +kernel, by decide +kernel⟩, List.mem_of_getElem? (i := 51) (by decide +kernel), List.mem_of_getElem? (i := 198) (by decide +kernel), List.mem_of_getElem? (i := 199) (by decide +kernel)⟩
theorem lw_p11 : lw_okq (⟨"SmallSpaces$Space", "isPivot", "(I)Z"⟩, 4) := ⟨⟨by decide +kernel, by decide +kernel⟩, List.mem_of_getElem? (i := 51) (by decide +kernel), List.mem_of_getElem? (i := 202) (by decide +kernel), List.mem_of_getElem? (i := 203) (by decide +kernel)⟩
theorem lw_p12 : lw_okq (⟨"SmallSpaces$Frame", "addMultiple", "([II[III)V"⟩, 3) := ⟨⟨by decide +kernel, by decide +kernel⟩, List.mem_of_getElem? (i := 20) (by decide +kernel), List.mem_of_getElem? (i := 206) (by decide +kernel), List.mem_of_getElem? (i := 207) (by decide +kernel)⟩
theorem lw_p13 : lw_okq (⟨"SmallSpaces$Frame", "inverse", "(I)I"⟩, 3) := ⟨⟨by decide +kernel, by decide +kernel⟩, List.mem_of_getElem? (i := 20) (by decide +kernel), List.mem_of_getElem? (i := 210) (by decide +kernel), List.mem_of_getElem? (i := 211) (by decide +kernel)⟩
theorem lw_p14 : lw_okq (⟨"SmallSpaces$Space", "takeRow", "(II)V"⟩, 4) := ⟨⟨by decide +kernel, by decide +kernel⟩, List.mem_of_getElem? (i := 51) (by decide +kernel), List.mem_of_getElem? (i := 214) (by decide +kernel), List.mem_of_getElem? (i := 215) (by decide +kernel)⟩
theorem lw_p15 : lw_okq (⟨"SmallSpaces$Space", "rank", "()I"⟩, 4) := ⟨⟨by decide +kernel, by decide +kernel⟩, List.mem_of_getElem? (i := 51) (by decide +kernel), List.mem_of_getElem? (i := 218) (by decide +kernel), List.mem_of_getElem? (i := 219) (by decide +kernel)⟩
def lw_privs_1 : List (MethodName × Nat) := [(⟨"SmallSpaces$Frame", "become", "(II)V"⟩, 3), (⟨"SmallSpaces$Frame", "power", "(I)I"⟩, 3), (⟨"SmallSpaces$Linear", "becomeIdentity", "()V"⟩, 3), (⟨"SmallSpaces$Space", "becomeZero", "()V"⟩, 4), (⟨"SmallSpaces$Frame", "isVector", "(I)Z"⟩, 3), (⟨"SmallSpaces$Frame", "sum", "(III)I"⟩, 3), (⟨"SmallSpaces$Frame", "product", "(II)I"⟩, 3), (⟨"SmallSpaces$Frame", "spell", "(I[II)V"⟩, 3), (⟨"SmallSpaces$Space", "joinVector", "([II)V"⟩, 4), (⟨"SmallSpaces$Space", "joinFresh", "()V"⟩, 4), (⟨"SmallSpaces$Space", "reduceFresh", "()V"⟩, 4), (⟨"SmallSpaces$Space", "isPivot", "(I)Z"⟩, 4), (⟨"SmallSpaces$Frame", "addMultiple", "([II[III)V"⟩, 3), (⟨"SmallSpaces$Frame", "inverse", "(I)I"⟩, 3), (⟨"SmallSpaces$Space", "takeRow", "(II)V"⟩, 4), (⟨"SmallSpaces$Space", "rank", "()I"⟩, 4)]
theorem lw_r1 : ∀ q ∈ lw_privs_1, lw_okq q := List.forall_mem_cons.mpr ⟨lw_p0, List.forall_mem_cons.mpr ⟨lw_p1, List.forall_mem_cons.mpr ⟨lw_p2, List.forall_mem_cons.mpr ⟨lw_p3, List.forall_mem_cons.mpr ⟨lw_p4, List.forall_mem_cons.mpr ⟨lw_p5, List.forall_mem_cons.mpr ⟨lw_p6, List.forall_mem_cons.mpr ⟨lw_p7, List.forall_mem_cons.mpr ⟨lw_p8, List.forall_mem_cons.mpr ⟨lw_p9, List.forall_mem_cons.mpr ⟨lw_p10, List.forall_mem_cons.mpr ⟨lw_p11, List.forall_mem_cons.mpr ⟨lw_p12, List.forall_mem_cons.mpr ⟨lw_p13, List.forall_mem_cons.mpr ⟨lw_p14, List.forall_mem_cons.mpr ⟨lw_p15, fun _ h => absurd h List.not_mem_nil⟩⟩⟩⟩⟩⟩⟩⟩⟩⟩⟩⟩⟩⟩⟩⟩
theorem lw_p16 : lw_okq (⟨"SmallSpaces$Space", "rowNumber", "(I)I"⟩, 4) := ⟨⟨by decide +kernel, by decide +kernel⟩, List.mem_of_getElem? (i := 51) (by decide +kernel), List.mem_of_getElem? (i := 240) (by decide +kernel), List.mem_of_getElem? (i := 241) (by decide +kernel)⟩
theorem lw_p17 : lw_okq (⟨"SmallSpaces$Frame", "vectorNumber", "([II)I"⟩, 3) := ⟨⟨by decide +kernel, by decide +kernel⟩, List.mem_of_getElem? (i := 20) (by decide +kernel), List.mem_of_getElem? (i := 244) (by decide +kernel), List.mem_of_getElem? (i := 245) (by decide +kernel)⟩
theorem lw_p18 : lw_okq (⟨"SmallSpaces$Space", "copyFrom", "(LSmallSpaces$Space;)V"⟩, 4) := ⟨⟨by decide +kernel, by decide +kernel⟩, List.mem_of_getElem? (i := 51) (by decide +kernel), List.mem_of_getElem? (i := 252) (by decide +kernel), List.mem_of_getElem? (i := 253) (by decide +kernel)⟩
theorem lw_p19 : lw_okq (⟨"SmallSpaces$Space", "joinSpace", "(LSmallSpaces$Space;)V"⟩, 4) := ⟨⟨by decide +kernel, by decide +kernel⟩, List.mem_of_getElem? (i := 51) (by decide +kernel), List.mem_of_getElem? (i := 256) (by decide +kernel), List.mem_of_getElem? (i := 257) (by decide +kernel)⟩
theorem lw_p20 : lw_okq (⟨"SmallSpaces", "settle", "(LSmallSpaces$Space;I)I"⟩, 9) := ⟨⟨by decide +kernel, by decide +kernel⟩, List.mem_of_getElem? (i := 12) (by decide +kernel), List.mem_of_getElem? (i := 260) (by decide +kernel), List.mem_of_getElem? (i := 261) (by decide +kernel)⟩
theorem lw_p21 : lw_okq (⟨"SmallSpaces$Space", "becomeDual", "(LSmallSpaces$Space;)V"⟩, 4) := ⟨⟨by decide +kernel, by decide +kernel⟩, List.mem_of_getElem? (i := 51) (by decide +kernel), List.mem_of_getElem? (i := 268) (by decide +kernel), List.mem_of_getElem? (i := 269) (by decide +kernel)⟩
theorem lw_p22 : lw_okq (⟨"SmallSpaces$Space", "holds", "([II)Z"⟩, 4) := ⟨⟨by decide +kernel, by decide +kernel⟩, List.mem_of_getElem? (i := 51) (by decide +kernel), List.mem_of_getElem? (i := 282) (by decide +kernel), List.mem_of_getElem? (i := 283) (by decide +kernel)⟩
theorem lw_p23 : lw_okq (⟨"SmallSpaces$Space", "settledFigure", "([III)I"⟩, 4) := ⟨⟨by decide +kernel, by decide +kernel⟩, List.mem_of_getElem? (i := 51) (by decide +kernel), List.mem_of_getElem? (i := 286) (by decide +kernel), List.mem_of_getElem? (i := 287) (by decide +kernel)⟩
theorem lw_p24 : lw_okq (⟨"SmallSpaces$Space", "liesIn", "(LSmallSpaces$Space;)Z"⟩, 4) := ⟨⟨by decide +kernel, by decide +kernel⟩, List.mem_of_getElem? (i := 51) (by decide +kernel), List.mem_of_getElem? (i := 294) (by decide +kernel), List.mem_of_getElem? (i := 295) (by decide +kernel)⟩
theorem lw_p25 : lw_okq (⟨"SmallSpaces$Space", "distance", "(LSmallSpaces$Space;LSmallSpaces$Space;)I"⟩, 4) := ⟨⟨by decide +kernel, by decide +kernel⟩, List.mem_of_getElem? (i := 51) (by decide +kernel), List.mem_of_getElem? (i := 303) (by decide +kernel), List.mem_of_getElem? (i := 304) (by decide +kernel)⟩
theorem lw_p26 : lw_okq (⟨"SmallSpaces$Space", "ordinal", "()I"⟩, 4) := ⟨⟨by decide +kernel, by decide +kernel⟩, List.mem_of_getElem? (i := 51) (by decide +kernel), List.mem_of_getElem? (i := 314) (by decide +kernel), List.mem_of_getElem? (i := 315) (by decide +kernel)⟩
theorem lw_p27 : lw_okq (⟨"SmallSpaces$Space", "freeCells", "(I)I"⟩, 4) := ⟨⟨by decide +kernel, by decide +kernel⟩, List.mem_of_getElem? (i := 51) (by decide +kernel), List.mem_of_getElem? (i := 318) (by decide +kernel), List.mem_of_getElem? (i := 319) (by decide +kernel)⟩
theorem lw_p28 : lw_okq (⟨"SmallSpaces$Space", "cellsValue", "()I"⟩, 4) := ⟨⟨by decide +kernel, by decide +kernel⟩, List.mem_of_getElem? (i := 51) (by decide +kernel), List.mem_of_getElem? (i := 323) (by decide +kernel), List.mem_of_getElem? (i := 324) (by decide +kernel)⟩
theorem lw_p29 : lw_okq (⟨"SmallSpaces", "isDim", "(I)Z"⟩, 9) := ⟨⟨by decide +kernel, by decide +kernel⟩, List.mem_of_getElem? (i := 12) (by decide +kernel), List.mem_of_getElem? (i := 331) (by decide +kernel), List.mem_of_getElem? (i := 332) (by decide +kernel)⟩
theorem lw_p30 : lw_okq (⟨"SmallSpaces$Frame", "spaces", "(II)I"⟩, 3) := ⟨⟨by decide +kernel, by decide +kernel⟩, List.mem_of_getElem? (i := 20) (by decide +kernel), List.mem_of_getElem? (i := 335) (by decide +kernel), List.mem_of_getElem? (i := 336) (by decide +kernel)⟩
theorem lw_p31 : lw_okq (⟨"SmallSpaces$Space", "becomeOrdinal", "(II)V"⟩, 4) := ⟨⟨by decide +kernel, by decide +kernel⟩, List.mem_of_getElem? (i := 51) (by decide +kernel), List.mem_of_getElem? (i := 339) (by decide +kernel), List.mem_of_getElem? (i := 340) (by decide +kernel)⟩
def lw_privs_2 : List (MethodName × Nat) := [(⟨"SmallSpaces$Space", "rowNumber", "(I)I"⟩, 4), (⟨"SmallSpaces$Frame", "vectorNumber", "([II)I"⟩, 3), (⟨"SmallSpaces$Space", "copyFrom", "(LSmallSpaces$Space;)V"⟩, 4), (⟨"SmallSpaces$Space", "joinSpace", "(LSmallSpaces$Space;)V"⟩, 4), (⟨"SmallSpaces", "settle", "(LSmallSpaces$Space;I)I"⟩, 9), (⟨"SmallSpaces$Space", "becomeDual", "(LSmallSpaces$Space;)V"⟩, 4), (⟨"SmallSpaces$Space", "holds", "([II)Z"⟩, 4), (⟨"SmallSpaces$Space", "settledFigure", "([III)I"⟩, 4), (⟨"SmallSpaces$Space", "liesIn", "(LSmallSpaces$Space;)Z"⟩, 4), (⟨"SmallSpaces$Space", "distance", "(LSmallSpaces$Space;LSmallSpaces$Space;)I"⟩, 4), (⟨"SmallSpaces$Space", "ordinal", "()I"⟩, 4), (⟨"SmallSpaces$Space", "freeCells", "(I)I"⟩, 4), (⟨"SmallSpaces$Space", "cellsValue", "()I"⟩, 4), (⟨"SmallSpaces", "isDim", "(I)Z"⟩, 9), (⟨"SmallSpaces$Frame", "spaces", "(II)I"⟩, 3), (⟨"SmallSpaces$Space", "becomeOrdinal", "(II)V"⟩, 4)]
theorem lw_r2 : ∀ q ∈ lw_privs_2, lw_okq q := List.forall_mem_cons.mpr ⟨lw_p16, List.forall_mem_cons.mpr ⟨lw_p17, List.forall_mem_cons.mpr ⟨lw_p18, List.forall_mem_cons.mpr ⟨lw_p19, List.forall_mem_cons.mpr ⟨lw_p20, List.forall_mem_cons.mpr ⟨lw_p21, List.forall_mem_cons.mpr ⟨lw_p22, List.forall_mem_cons.mpr ⟨lw_p23, List.forall_mem_cons.mpr ⟨lw_p24, List.forall_mem_cons.mpr ⟨lw_p25, List.forall_mem_cons.mpr ⟨lw_p26, List.forall_mem_cons.mpr ⟨lw_p27, List.forall_mem_cons.mpr ⟨lw_p28, List.forall_mem_cons.mpr ⟨lw_p29, List.forall_mem_cons.mpr ⟨lw_p30, List.forall_mem_cons.mpr ⟨lw_p31, fun _ h => absurd h List.not_mem_nil⟩⟩⟩⟩⟩⟩⟩⟩⟩⟩⟩⟩⟩⟩⟩⟩
theorem lw_p32 : lw_okq (⟨"SmallSpaces$Space", "fillCells", "(I)V"⟩, 4) := ⟨⟨by decide +kernel, by decide +kernel⟩, List.mem_of_getElem? (i := 51) (by decide +kernel), List.mem_of_getElem? (i := 343) (by decide +kernel), List.mem_of_getElem? (i := 344) (by decide +kernel)⟩
theorem lw_p33 : lw_okq (⟨"SmallSpaces$Heap", "accept", "(LSmallSpaces$Space;)V"⟩, 3) := ⟨⟨by decide +kernel, by decide +kernel⟩, List.mem_of_getElem? (i := 72) (by decide +kernel), List.mem_of_getElem? (i := 364) (by decide +kernel), List.mem_of_getElem? (i := 365) (by decide +kernel)⟩
theorem lw_p34 : lw_okq (⟨"SmallSpaces$Heap", "leastDistance", "()I"⟩, 3) := ⟨⟨by decide +kernel, by decide +kernel⟩, List.mem_of_getElem? (i := 72) (by decide +kernel), List.mem_of_getElem? (i := 381) (by decide +kernel), List.mem_of_getElem? (i := 382) (by decide +kernel)⟩
theorem lw_p35 : lw_okq (⟨"SmallSpaces$Heap", "covers", "([I)Z"⟩, 3) := ⟨⟨by decide +kernel, by decide +kernel⟩, List.mem_of_getElem? (i := 72) (by decide +kernel), List.mem_of_getElem? (i := 390) (by decide +kernel), List.mem_of_getElem? (i := 391) (by decide +kernel)⟩
theorem lw_p36 : lw_okq (⟨"SmallSpaces$Heap", "allApart", "(LSmallSpaces$Space;I)Z"⟩, 3) := ⟨⟨by decide +kernel, by decide +kernel⟩, List.mem_of_getElem? (i := 72) (by decide +kernel), List.mem_of_getElem? (i := 399) (by decide +kernel), List.mem_of_getElem? (i := 400) (by decide +kernel)⟩
theorem lw_p37 : lw_okq (⟨"SmallSpaces$Linear", "imageNumber", "(I)I"⟩, 3) := ⟨⟨by decide +kernel, by decide +kernel⟩, List.mem_of_getElem? (i := 92) (by decide +kernel), List.mem_of_getElem? (i := 407) (by decide +kernel), List.mem_of_getElem? (i := 408) (by decide +kernel)⟩
theorem lw_p38 : lw_okq (⟨"SmallSpaces$Linear", "setImage", "(II)V"⟩, 3) := ⟨⟨by decide +kernel, by decide +kernel⟩, List.mem_of_getElem? (i := 92) (by decide +kernel), List.mem_of_getElem? (i := 412) (by decide +kernel), List.mem_of_getElem? (i := 413) (by decide +kernel)⟩
theorem lw_p39 : lw_okq (⟨"SmallSpaces$Linear", "apply", "([I)I"⟩, 3) := ⟨⟨by decide +kernel, by decide +kernel⟩, List.mem_of_getElem? (i := 92) (by decide +kernel), List.mem_of_getElem? (i := 421) (by decide +kernel), List.mem_of_getElem? (i := 422) (by decide +kernel)⟩
theorem lw_p40 : lw_okq (⟨"SmallSpaces$Linear", "applyInto", "([II)V"⟩, 3) := ⟨⟨by decide +kernel, by decide +kernel⟩, List.mem_of_getElem? (i := 92) (by decide +kernel), List.mem_of_getElem? (i := 425) (by decide +kernel), List.mem_of_getElem? (i := 426) (by decide +kernel)⟩
theorem lw_p41 : lw_okq (⟨"SmallSpaces$Linear", "applyToSpace", "(LSmallSpaces$Space;LSmallSpaces$Space;)V"⟩, 3) := ⟨⟨by decide +kernel, by decide +kernel⟩, List.mem_of_getElem? (i := 92) (by decide +kernel), List.mem_of_getElem? (i := 434) (by decide +kernel), List.mem_of_getElem? (i := 435) (by decide +kernel)⟩
theorem lw_p42 : lw_okq (⟨"SmallSpaces$Linear", "columnSpace", "(LSmallSpaces$Space;)V"⟩, 3) := ⟨⟨by decide +kernel, by decide +kernel⟩, List.mem_of_getElem? (i := 92) (by decide +kernel), List.mem_of_getElem? (i := 445) (by decide +kernel), List.mem_of_getElem? (i := 446) (by decide +kernel)⟩
theorem lw_p43 : lw_okq (⟨"SmallSpaces", "timesTillAgain", "(LSmallSpaces$Space;)I"⟩, 9) := ⟨⟨by decide +kernel, by decide +kernel⟩, List.mem_of_getElem? (i := 12) (by decide +kernel), List.mem_of_getElem? (i := 453) (by decide +kernel), List.mem_of_getElem? (i := 454) (by decide +kernel)⟩
theorem lw_p44 : lw_okq (⟨"SmallSpaces$Space", "sameAs", "(LSmallSpaces$Space;)Z"⟩, 4) := ⟨⟨by decide +kernel, by decide +kernel⟩, List.mem_of_getElem? (i := 51) (by decide +kernel), List.mem_of_getElem? (i := 460) (by decide +kernel), List.mem_of_getElem? (i := 461) (by decide +kernel)⟩
theorem lw_p45 : lw_okq (⟨"SmallSpacesModel", "begin", "()V"⟩, 16) := ⟨⟨by decide +kernel, by decide +kernel⟩, List.mem_of_getElem? (i := 481) (by decide +kernel), List.mem_of_getElem? (i := 487) (by decide +kernel), List.mem_of_getElem? (i := 488) (by decide +kernel)⟩
theorem lw_p46 : lw_okq (⟨"SmallSpacesModel", "isVector", "(I)Z"⟩, 16) := ⟨⟨by decide +kernel, by decide +kernel⟩, List.mem_of_getElem? (i := 481) (by decide +kernel), List.mem_of_getElem? (i := 555) (by decide +kernel), List.mem_of_getElem? (i := 556) (by decide +kernel)⟩
theorem lw_p47 : lw_okq (⟨"SmallSpacesModel", "sum", "(III)I"⟩, 16) := ⟨⟨by decide +kernel, by decide +kernel⟩, List.mem_of_getElem? (i := 481) (by decide +kernel), List.mem_of_getElem? (i := 559) (by decide +kernel), List.mem_of_getElem? (i := 560) (by decide +kernel)⟩
def lw_privs_3 : List (MethodName × Nat) := [(⟨"SmallSpaces$Space", "fillCells", "(I)V"⟩, 4), (⟨"SmallSpaces$Heap", "accept", "(LSmallSpaces$Space;)V"⟩, 3), (⟨"SmallSpaces$Heap", "leastDistance", "()I"⟩, 3), (⟨"SmallSpaces$Heap", "covers", "([I)Z"⟩, 3), (⟨"SmallSpaces$Heap", "allApart", "(LSmallSpaces$Space;I)Z"⟩, 3), (⟨"SmallSpaces$Linear", "imageNumber", "(I)I"⟩, 3), (⟨"SmallSpaces$Linear", "setImage", "(II)V"⟩, 3), (⟨"SmallSpaces$Linear", "apply", "([I)I"⟩, 3), (⟨"SmallSpaces$Linear", "applyInto", "([II)V"⟩, 3), (⟨"SmallSpaces$Linear", "applyToSpace", "(LSmallSpaces$Space;LSmallSpaces$Space;)V"⟩, 3), (⟨"SmallSpaces$Linear", "columnSpace", "(LSmallSpaces$Space;)V"⟩, 3), (⟨"SmallSpaces", "timesTillAgain", "(LSmallSpaces$Space;)I"⟩, 9), (⟨"SmallSpaces$Space", "sameAs", "(LSmallSpaces$Space;)Z"⟩, 4), (⟨"SmallSpacesModel", "begin", "()V"⟩, 16), (⟨"SmallSpacesModel", "isVector", "(I)Z"⟩, 16), (⟨"SmallSpacesModel", "sum", "(III)I"⟩, 16)]
theorem lw_r3 : ∀ q ∈ lw_privs_3, lw_okq q := List.forall_mem_cons.mpr ⟨lw_p32, List.forall_mem_cons.mpr ⟨lw_p33, List.forall_mem_cons.mpr ⟨lw_p34, List.forall_mem_cons.mpr ⟨lw_p35, List.forall_mem_cons.mpr ⟨lw_p36, List.forall_mem_cons.mpr ⟨lw_p37, List.forall_mem_cons.mpr ⟨lw_p38, List.forall_mem_cons.mpr ⟨lw_p39, List.forall_mem_cons.mpr ⟨lw_p40, List.forall_mem_cons.mpr ⟨lw_p41, List.forall_mem_cons.mpr ⟨lw_p42, List.forall_mem_cons.mpr ⟨lw_p43, List.forall_mem_cons.mpr ⟨lw_p44, List.forall_mem_cons.mpr ⟨lw_p45, List.forall_mem_cons.mpr ⟨lw_p46, List.forall_mem_cons.mpr ⟨lw_p47, fun _ h => absurd h List.not_mem_nil⟩⟩⟩⟩⟩⟩⟩⟩⟩⟩⟩⟩⟩⟩⟩⟩
theorem lw_p48 : lw_okq (⟨"SmallSpacesModel", "figure", "(II)I"⟩, 16) := ⟨⟨by decide +kernel, by decide +kernel⟩, List.mem_of_getElem? (i := 481) (by decide +kernel), List.mem_of_getElem? (i := 563) (by decide +kernel), List.mem_of_getElem? (i := 564) (by decide +kernel)⟩
theorem lw_p49 : lw_okq (⟨"SmallSpacesModel", "product", "(II)I"⟩, 16) := ⟨⟨by decide +kernel, by decide +kernel⟩, List.mem_of_getElem? (i := 481) (by decide +kernel), List.mem_of_getElem? (i := 571) (by decide +kernel), List.mem_of_getElem? (i := 572) (by decide +kernel)⟩
theorem lw_p50 : lw_okq (⟨"SmallSpacesModel", "load", "(I)V"⟩, 16) := ⟨⟨by decide +kernel, by decide +kernel⟩, List.mem_of_getElem? (i := 481) (by decide +kernel), List.mem_of_getElem? (i := 583) (by decide +kernel), List.mem_of_getElem? (i := 584) (by decide +kernel)⟩
theorem lw_p51 : lw_okq (⟨"SmallSpacesModel", "settle", "()V"⟩, 16) := ⟨⟨by decide +kernel, by decide +kernel⟩, List.mem_of_getElem? (i := 481) (by decide +kernel), List.mem_of_getElem? (i := 587) (by decide +kernel), List.mem_of_getElem? (i := 588) (by decide +kernel)⟩
theorem lw_p52 : lw_okq (⟨"SmallSpacesModel", "save", "(I)I"⟩, 16) := ⟨⟨by decide +kernel, by decide +kernel⟩, List.mem_of_getElem? (i := 481) (by decide +kernel), List.mem_of_getElem? (i := 591) (by decide +kernel), List.mem_of_getElem? (i := 592) (by decide +kernel)⟩
theorem lw_p53 : lw_okq (⟨"SmallSpacesModel", "joined", "(II)I"⟩, 16) := ⟨⟨by decide +kernel, by decide +kernel⟩, List.mem_of_getElem? (i := 481) (by decide +kernel), List.mem_of_getElem? (i := 614) (by decide +kernel), List.mem_of_getElem? (i := 615) (by decide +kernel)⟩
theorem lw_p54 : lw_okq (⟨"SmallSpacesModel", "turn", "()V"⟩, 16) := ⟨⟨by decide +kernel, by decide +kernel⟩, List.mem_of_getElem? (i := 481) (by decide +kernel), List.mem_of_getElem? (i := 622) (by decide +kernel), List.mem_of_getElem? (i := 623) (by decide +kernel)⟩
theorem lw_p55 : lw_okq (⟨"SmallSpacesModel", "pivot", "(I)I"⟩, 16) := ⟨⟨by decide +kernel, by decide +kernel⟩, List.mem_of_getElem? (i := 481) (by decide +kernel), List.mem_of_getElem? (i := 626) (by decide +kernel), List.mem_of_getElem? (i := 627) (by decide +kernel)⟩
theorem lw_p56 : lw_okq (⟨"SmallSpacesModel", "holds", "(II)Z"⟩, 16) := ⟨⟨by decide +kernel, by decide +kernel⟩, List.mem_of_getElem? (i := 481) (by decide +kernel), List.mem_of_getElem? (i := 638) (by decide +kernel), List.mem_of_getElem? (i := 639) (by decide +kernel)⟩
theorem lw_p57 : lw_okq (⟨"SmallSpacesModel", "gauss", "(II)I"⟩, 16) := ⟨⟨by decide +kernel, by decide +kernel⟩, List.mem_of_getElem? (i := 481) (by decide +kernel), List.mem_of_getElem? (i := 654) (by decide +kernel), List.mem_of_getElem? (i := 655) (by decide +kernel)⟩
theorem lw_p58 : lw_okq (⟨"SmallSpacesModel", "firstPivots", "(I)V"⟩, 16) := ⟨⟨by decide +kernel, by decide +kernel⟩, List.mem_of_getElem? (i := 481) (by decide +kernel), List.mem_of_getElem? (i := 662) (by decide +kernel), List.mem_of_getElem? (i := 663) (by decide +kernel)⟩
theorem lw_p59 : lw_okq (⟨"SmallSpacesModel", "free", "(I)I"⟩, 16) := ⟨⟨by decide +kernel, by decide +kernel⟩, List.mem_of_getElem? (i := 481) (by decide +kernel), List.mem_of_getElem? (i := 666) (by decide +kernel), List.mem_of_getElem? (i := 667) (by decide +kernel)⟩
theorem lw_p60 : lw_okq (⟨"SmallSpacesModel", "goOn", "(I)Z"⟩, 16) := ⟨⟨by decide +kernel, by decide +kernel⟩, List.mem_of_getElem? (i := 481) (by decide +kernel), List.mem_of_getElem? (i := 670) (by decide +kernel), List.mem_of_getElem? (i := 671) (by decide +kernel)⟩
theorem lw_p61 : lw_okq (⟨"SmallSpacesModel", "isFree", "(III)Z"⟩, 16) := ⟨⟨by decide +kernel, by decide +kernel⟩, List.mem_of_getElem? (i := 481) (by decide +kernel), List.mem_of_getElem? (i := 674) (by decide +kernel), List.mem_of_getElem? (i := 675) (by decide +kernel)⟩
theorem lw_p62 : lw_okq (⟨"SmallSpacesModel", "lay", "(II)V"⟩, 16) := ⟨⟨by decide +kernel, by decide +kernel⟩, List.mem_of_getElem? (i := 481) (by decide +kernel), List.mem_of_getElem? (i := 682) (by decide +kernel), List.mem_of_getElem? (i := 683) (by decide +kernel)⟩
theorem lw_p63 : lw_okq (⟨"SmallSpacesModel", "toHeap", "()V"⟩, 16) := ⟨⟨by decide +kernel, by decide +kernel⟩, List.mem_of_getElem? (i := 481) (by decide +kernel), List.mem_of_getElem? (i := 698) (by decide +kernel), List.mem_of_getElem? (i := 699) (by decide +kernel)⟩
def lw_privs_4 : List (MethodName × Nat) := [(⟨"SmallSpacesModel", "figure", "(II)I"⟩, 16), (⟨"SmallSpacesModel", "product", "(II)I"⟩, 16), (⟨"SmallSpacesModel", "load", "(I)V"⟩, 16), (⟨"SmallSpacesModel", "settle", "()V"⟩, 16), (⟨"SmallSpacesModel", "save", "(I)I"⟩, 16), (⟨"SmallSpacesModel", "joined", "(II)I"⟩, 16), (⟨"SmallSpacesModel", "turn", "()V"⟩, 16), (⟨"SmallSpacesModel", "pivot", "(I)I"⟩, 16), (⟨"SmallSpacesModel", "holds", "(II)Z"⟩, 16), (⟨"SmallSpacesModel", "gauss", "(II)I"⟩, 16), (⟨"SmallSpacesModel", "firstPivots", "(I)V"⟩, 16), (⟨"SmallSpacesModel", "free", "(I)I"⟩, 16), (⟨"SmallSpacesModel", "goOn", "(I)Z"⟩, 16), (⟨"SmallSpacesModel", "isFree", "(III)Z"⟩, 16), (⟨"SmallSpacesModel", "lay", "(II)V"⟩, 16), (⟨"SmallSpacesModel", "toHeap", "()V"⟩, 16)]
theorem lw_r4 : ∀ q ∈ lw_privs_4, lw_okq q := List.forall_mem_cons.mpr ⟨lw_p48, List.forall_mem_cons.mpr ⟨lw_p49, List.forall_mem_cons.mpr ⟨lw_p50, List.forall_mem_cons.mpr ⟨lw_p51, List.forall_mem_cons.mpr ⟨lw_p52, List.forall_mem_cons.mpr ⟨lw_p53, List.forall_mem_cons.mpr ⟨lw_p54, List.forall_mem_cons.mpr ⟨lw_p55, List.forall_mem_cons.mpr ⟨lw_p56, List.forall_mem_cons.mpr ⟨lw_p57, List.forall_mem_cons.mpr ⟨lw_p58, List.forall_mem_cons.mpr ⟨lw_p59, List.forall_mem_cons.mpr ⟨lw_p60, List.forall_mem_cons.mpr ⟨lw_p61, List.forall_mem_cons.mpr ⟨lw_p62, List.forall_mem_cons.mpr ⟨lw_p63, fun _ h => absurd h List.not_mem_nil⟩⟩⟩⟩⟩⟩⟩⟩⟩⟩⟩⟩⟩⟩⟩⟩
theorem lw_p64 : lw_okq (⟨"SmallSpacesModel", "loadHeap", "(I)V"⟩, 16) := ⟨⟨by decide +kernel, by decide +kernel⟩, List.mem_of_getElem? (i := 481) (by decide +kernel), List.mem_of_getElem? (i := 710) (by decide +kernel), List.mem_of_getElem? (i := 711) (by decide +kernel)⟩
theorem lw_p65 : lw_okq (⟨"SmallSpacesModel", "mappedOf", "(I)I"⟩, 16) := ⟨⟨by decide +kernel, by decide +kernel⟩, List.mem_of_getElem? (i := 481) (by decide +kernel), List.mem_of_getElem? (i := 735) (by decide +kernel), List.mem_of_getElem? (i := 736) (by decide +kernel)⟩
theorem lw_p66 : lw_okq (⟨"SmallSpacesModel", "step", "()V"⟩, 16) := ⟨⟨by decide +kernel, by decide +kernel⟩, List.mem_of_getElem? (i := 481) (by decide +kernel), List.mem_of_getElem? (i := 743) (by decide +kernel), List.mem_of_getElem? (i := 744) (by decide +kernel)⟩
def lw_privs_5 : List (MethodName × Nat) := [(⟨"SmallSpacesModel", "loadHeap", "(I)V"⟩, 16), (⟨"SmallSpacesModel", "mappedOf", "(I)I"⟩, 16), (⟨"SmallSpacesModel", "step", "()V"⟩, 16)]
theorem lw_r5 : ∀ q ∈ lw_privs_5, lw_okq q := List.forall_mem_cons.mpr ⟨lw_p64, List.forall_mem_cons.mpr ⟨lw_p65, List.forall_mem_cons.mpr ⟨lw_p66, fun _ h => absurd h List.not_mem_nil⟩⟩⟩
def lw_privs : List (MethodName × Nat) := lw_privs_1 ++ (lw_privs_2 ++ (lw_privs_3 ++ (lw_privs_4 ++ (lw_privs_5))))
def lw_tbl : List Cond := k2_sels lw_privs ++ tables_1
theorem lw_privs_ok : ∀ q ∈ lw_privs, lw_okq q := by
  show ∀ q ∈ lw_privs_1 ++ (lw_privs_2 ++ (lw_privs_3 ++ (lw_privs_4 ++ (lw_privs_5)))), lw_okq q
  exact List.forall_mem_append.mpr ⟨lw_r1, List.forall_mem_append.mpr ⟨lw_r2, List.forall_mem_append.mpr ⟨lw_r3, List.forall_mem_append.mpr ⟨lw_r4, lw_r5⟩⟩⟩⟩
end
section
/-! ===== BEGIN words of one list among another's, by their places ===== -/
theorem goodIn_r {big : List Cond} (ws : List Cond) (ps : List Nat) (hp : ws = ps.filterMap (fun i => big[i]?)) (h : ws.all goodWord = true) : GoodIn big ws := by
  intro w hw
  have h1 := List.all_eq_true.mp h w hw
  rw [hp] at hw
  obtain ⟨i, -, hi⟩ := List.mem_filterMap.mp hw
  have hm : w ∈ big := by first | exact List.mem_of_getElem? hi | exact List.getElem?_mem hi
  exact ⟨hm, good_of_word h1⟩
theorem goodIn_app {big a b : List Cond} (ha : GoodIn big a) (hb : GoodIn big b) : GoodIn big (a ++ b) := fun w h => (List.mem_append.mp h).elim (ha w) (hb w)
theorem goodIn_ca {big a b : List Cond} {c : Cond} (ha : GoodIn big (c :: a)) (hb : GoodIn big b) : GoodIn big (c :: (a ++ b)) := fun w h => (List.mem_cons.mp h).elim (fun e => ha w (List.mem_cons.mpr (Or.inl e))) (fun h => (List.mem_append.mp h).elim (fun h => ha w (List.mem_cons.mpr (Or.inr h))) (hb w))
theorem goodIn_sub {big ws : List Cond} (hm : ∀ w ∈ ws, w ∈ big) (h : ws.all goodWord = true) : GoodIn big ws := fun w hw => ⟨hm w hw, good_of_word (List.all_eq_true.mp h w hw)⟩
/-! ===== END ===== -/

/-! ===== BEGIN printed: names, fields, word lists, decode rows ===== -/
def RX0 : String := "SmallSpaces$Frame"
def TX0 : u_T := fun k => match k with
  | 0 => ("SmallSpaces$Frame", "q", "I", false)
  | 1 => ("SmallSpaces$Frame", "n", "I", false)
  | _ => ("SmallSpaces$Frame", "vectors", "I", false)
def tyX0 : Nat → FieldType := fun k => match k with
  | 0 => .int
  | 1 => .int
  | _ => .int
abbrev wsX00 : List Cond := u_ws RX0 TX0 3
theorem nmX0 : ∀ a, a < 3 → ∀ b, b < 3 → a ≠ b → (TX0 a).2.1 ≠ (TX0 b).2.1 := by decide +kernel
theorem tyX0_ok : ∀ k, k < 3 → parseFieldDescriptor (TX0 k).2.2.1 = some (tyX0 k) := by decide +kernel
abbrev cX0_init : ByteArray := prog_2_method_1_code
def yX0_init : MethodName := ⟨RX0, "<init>", "()V"⟩
abbrev cX0_become : ByteArray := prog_2_method_2_code
def yX0_become : MethodName := ⟨RX0, "become", "(II)V"⟩
abbrev cX0_isVector : ByteArray := prog_2_method_3_code
def yX0_isVector : MethodName := ⟨RX0, "isVector", "(I)Z"⟩
abbrev cX0_power : ByteArray := prog_2_method_4_code
def yX0_power : MethodName := ⟨RX0, "power", "(I)I"⟩
abbrev cX0_sum : ByteArray := prog_2_method_5_code
def yX0_sum : MethodName := ⟨RX0, "sum", "(III)I"⟩
abbrev cX0_product : ByteArray := prog_2_method_6_code
def yX0_product : MethodName := ⟨RX0, "product", "(II)I"⟩
abbrev cX0_spell : ByteArray := prog_2_method_7_code
def yX0_spell : MethodName := ⟨RX0, "spell", "(I[II)V"⟩
abbrev cX0_vectorNumber : ByteArray := prog_2_method_8_code
def yX0_vectorNumber : MethodName := ⟨RX0, "vectorNumber", "([II)I"⟩
abbrev cX0_inverse : ByteArray := prog_2_method_9_code
def yX0_inverse : MethodName := ⟨RX0, "inverse", "(I)I"⟩
abbrev cX0_addMultiple : ByteArray := prog_2_method_10_code
def yX0_addMultiple : MethodName := ⟨RX0, "addMultiple", "([II[III)V"⟩
abbrev cX0_spaces : ByteArray := prog_2_method_11_code
def yX0_spaces : MethodName := ⟨RX0, "spaces", "(II)I"⟩
def RX1 : String := "SmallSpaces$Heap"
def TX1 : u_T := fun k => match k with
  | 0 => ("SmallSpaces$Heap", "spaces", "[LSmallSpaces$Space;", true)
  | 1 => ("SmallSpaces$Heap", "joined", "LSmallSpaces$Space;", true)
  | _ => ("SmallSpaces$Heap", "size", "I", false)
def tyX1 : Nat → FieldType := fun k => match k with
  | 0 => .array (.object "SmallSpaces$Space")
  | 1 => .object "SmallSpaces$Space"
  | _ => .int
abbrev wsX10 : List Cond := u_ws RX1 TX1 3
theorem nmX1 : ∀ a, a < 3 → ∀ b, b < 3 → a ≠ b → (TX1 a).2.1 ≠ (TX1 b).2.1 := by decide +kernel
theorem tyX1_ok : ∀ k, k < 3 → parseFieldDescriptor (TX1 k).2.2.1 = some (tyX1 k) := by decide +kernel
abbrev cX1_init : ByteArray := prog_3_method_1_code
def yX1_init : MethodName := ⟨RX1, "<init>", "(LSmallSpaces$Frame;)V"⟩
abbrev cX1_accept : ByteArray := prog_3_method_2_code
def yX1_accept : MethodName := ⟨RX1, "accept", "(LSmallSpaces$Space;)V"⟩
abbrev cX1_allApart : ByteArray := prog_3_method_3_code
def yX1_allApart : MethodName := ⟨RX1, "allApart", "(LSmallSpaces$Space;I)Z"⟩
abbrev cX1_leastDistance : ByteArray := prog_3_method_4_code
def yX1_leastDistance : MethodName := ⟨RX1, "leastDistance", "()I"⟩
abbrev cX1_covers : ByteArray := prog_3_method_5_code
def yX1_covers : MethodName := ⟨RX1, "covers", "([I)Z"⟩
def RX2 : String := "SmallSpaces$Linear"
def TX2 : u_T := fun k => match k with
  | 0 => ("SmallSpaces$Linear", "frame", "LSmallSpaces$Frame;", true)
  | 1 => ("SmallSpaces$Linear", "cells", "[I", true)
  | _ => ("SmallSpaces$Linear", "result", "[I", true)
def tyX2 : Nat → FieldType := fun k => match k with
  | 0 => .object "SmallSpaces$Frame"
  | 1 => .array .int
  | _ => .array .int
abbrev wsX20 : List Cond := u_ws RX2 TX2 3
theorem nmX2 : ∀ a, a < 3 → ∀ b, b < 3 → a ≠ b → (TX2 a).2.1 ≠ (TX2 b).2.1 := by decide +kernel
theorem tyX2_ok : ∀ k, k < 3 → parseFieldDescriptor (TX2 k).2.2.1 = some (tyX2 k) := by decide +kernel
abbrev cX2_init : ByteArray := prog_4_method_1_code
def yX2_init : MethodName := ⟨RX2, "<init>", "(LSmallSpaces$Frame;)V"⟩
abbrev cX2_becomeIdentity : ByteArray := prog_4_method_2_code
def yX2_becomeIdentity : MethodName := ⟨RX2, "becomeIdentity", "()V"⟩
abbrev cX2_imageNumber : ByteArray := prog_4_method_3_code
def yX2_imageNumber : MethodName := ⟨RX2, "imageNumber", "(I)I"⟩
abbrev cX2_setImage : ByteArray := prog_4_method_4_code
def yX2_setImage : MethodName := ⟨RX2, "setImage", "(II)V"⟩
abbrev cX2_apply : ByteArray := prog_4_method_5_code
def yX2_apply : MethodName := ⟨RX2, "apply", "([I)I"⟩
abbrev cX2_applyInto : ByteArray := prog_4_method_6_code
def yX2_applyInto : MethodName := ⟨RX2, "applyInto", "([II)V"⟩
abbrev cX2_applyToSpace : ByteArray := prog_4_method_7_code
def yX2_applyToSpace : MethodName := ⟨RX2, "applyToSpace", "(LSmallSpaces$Space;LSmallSpaces$Space;)V"⟩
abbrev cX2_columnSpace : ByteArray := prog_4_method_8_code
def yX2_columnSpace : MethodName := ⟨RX2, "columnSpace", "(LSmallSpaces$Space;)V"⟩
def RX3 : String := "SmallSpaces$Space"
def TX3 : u_T := fun k => match k with
  | 0 => ("SmallSpaces$Space", "frame", "LSmallSpaces$Frame;", true)
  | 1 => ("SmallSpaces$Space", "cells", "[I", true)
  | 2 => ("SmallSpaces$Space", "fresh", "[I", true)
  | _ => ("SmallSpaces$Space", "pivots", "I", false)
def tyX3 : Nat → FieldType := fun k => match k with
  | 0 => .object "SmallSpaces$Frame"
  | 1 => .array .int
  | 2 => .array .int
  | _ => .int
abbrev wsX30 : List Cond := u_ws RX3 TX3 4
theorem nmX3 : ∀ a, a < 4 → ∀ b, b < 4 → a ≠ b → (TX3 a).2.1 ≠ (TX3 b).2.1 := by decide +kernel
theorem tyX3_ok : ∀ k, k < 4 → parseFieldDescriptor (TX3 k).2.2.1 = some (tyX3 k) := by decide +kernel
abbrev cX3_init : ByteArray := prog_5_method_1_code
def yX3_init : MethodName := ⟨RX3, "<init>", "(LSmallSpaces$Frame;)V"⟩
abbrev cX3_becomeZero : ByteArray := prog_5_method_2_code
def yX3_becomeZero : MethodName := ⟨RX3, "becomeZero", "()V"⟩
abbrev cX3_copyFrom : ByteArray := prog_5_method_3_code
def yX3_copyFrom : MethodName := ⟨RX3, "copyFrom", "(LSmallSpaces$Space;)V"⟩
abbrev cX3_rank : ByteArray := prog_5_method_4_code
def yX3_rank : MethodName := ⟨RX3, "rank", "()I"⟩
abbrev cX3_isPivot : ByteArray := prog_5_method_5_code
def yX3_isPivot : MethodName := ⟨RX3, "isPivot", "(I)Z"⟩
abbrev cX3_rowNumber : ByteArray := prog_5_method_6_code
def yX3_rowNumber : MethodName := ⟨RX3, "rowNumber", "(I)I"⟩
abbrev cX3_holds : ByteArray := prog_5_method_7_code
def yX3_holds : MethodName := ⟨RX3, "holds", "([II)Z"⟩
abbrev cX3_settledFigure : ByteArray := prog_5_method_8_code
def yX3_settledFigure : MethodName := ⟨RX3, "settledFigure", "([III)I"⟩
abbrev cX3_liesIn : ByteArray := prog_5_method_9_code
def yX3_liesIn : MethodName := ⟨RX3, "liesIn", "(LSmallSpaces$Space;)Z"⟩
abbrev cX3_sameAs : ByteArray := prog_5_method_10_code
def yX3_sameAs : MethodName := ⟨RX3, "sameAs", "(LSmallSpaces$Space;)Z"⟩
abbrev cX3_joinVector : ByteArray := prog_5_method_11_code
def yX3_joinVector : MethodName := ⟨RX3, "joinVector", "([II)V"⟩
abbrev cX3_joinSpace : ByteArray := prog_5_method_12_code
def yX3_joinSpace : MethodName := ⟨RX3, "joinSpace", "(LSmallSpaces$Space;)V"⟩
abbrev cX3_joinFresh : ByteArray := prog_5_method_13_code
def yX3_joinFresh : MethodName := ⟨RX3, "joinFresh", "()V"⟩
abbrev cX3_takeRow : ByteArray := prog_5_method_14_code
def yX3_takeRow : MethodName := ⟨RX3, "takeRow", "(II)V"⟩
abbrev cX3_reduceFresh : ByteArray := prog_5_method_15_code
def yX3_reduceFresh : MethodName := ⟨RX3, "reduceFresh", "()V"⟩
abbrev cX3_becomeDual : ByteArray := prog_5_method_16_code
def yX3_becomeDual : MethodName := ⟨RX3, "becomeDual", "(LSmallSpaces$Space;)V"⟩
abbrev cX3_distance : ByteArray := prog_5_method_17_code
def yX3_distance : MethodName := ⟨RX3, "distance", "(LSmallSpaces$Space;LSmallSpaces$Space;)I"⟩
abbrev cX3_freeCells : ByteArray := prog_5_method_18_code
def yX3_freeCells : MethodName := ⟨RX3, "freeCells", "(I)I"⟩
abbrev cX3_ordinal : ByteArray := prog_5_method_19_code
def yX3_ordinal : MethodName := ⟨RX3, "ordinal", "()I"⟩
abbrev cX3_cellsValue : ByteArray := prog_5_method_20_code
def yX3_cellsValue : MethodName := ⟨RX3, "cellsValue", "()I"⟩
abbrev cX3_becomeOrdinal : ByteArray := prog_5_method_21_code
def yX3_becomeOrdinal : MethodName := ⟨RX3, "becomeOrdinal", "(II)V"⟩
abbrev cX3_fillCells : ByteArray := prog_5_method_22_code
def yX3_fillCells : MethodName := ⟨RX3, "fillCells", "(I)V"⟩
def RX4 : String := "SmallSpaces"
def TX4 : u_T := fun k => match k with
  | 0 => ("SmallSpaces", "frame", "LSmallSpaces$Frame;", true)
  | 1 => ("SmallSpaces", "slots", "[LSmallSpaces$Space;", true)
  | 2 => ("SmallSpaces", "heap", "LSmallSpaces$Heap;", true)
  | 3 => ("SmallSpaces", "linear", "LSmallSpaces$Linear;", true)
  | 4 => ("SmallSpaces", "made", "LSmallSpaces$Space;", true)
  | 5 => ("SmallSpaces", "other", "LSmallSpaces$Space;", true)
  | 6 => ("SmallSpaces", "figures", "[I", true)
  | 7 => ("SmallSpaces", "greedyDone", "I", false)
  | _ => ("SmallSpaces", "roundsDone", "I", false)
def tyX4 : Nat → FieldType := fun k => match k with
  | 0 => .object "SmallSpaces$Frame"
  | 1 => .array (.object "SmallSpaces$Space")
  | 2 => .object "SmallSpaces$Heap"
  | 3 => .object "SmallSpaces$Linear"
  | 4 => .object "SmallSpaces$Space"
  | 5 => .object "SmallSpaces$Space"
  | 6 => .array .int
  | 7 => .int
  | _ => .int
abbrev wsX40 : List Cond := u_ws RX4 TX4 9
theorem nmX4 : ∀ a, a < 9 → ∀ b, b < 9 → a ≠ b → (TX4 a).2.1 ≠ (TX4 b).2.1 := by decide +kernel
theorem tyX4_ok : ∀ k, k < 9 → parseFieldDescriptor (TX4 k).2.2.1 = some (tyX4 k) := by decide +kernel
abbrev cX4_init : ByteArray := prog_1_method_1_code
def yX4_init : MethodName := ⟨RX4, "<init>", "()V"⟩
abbrev cX4_field : ByteArray := prog_1_method_2_code
def yX4_field : MethodName := ⟨RX4, "field", "(II)I"⟩
abbrev cX4_plus : ByteArray := prog_1_method_3_code
def yX4_plus : MethodName := ⟨RX4, "plus", "(III)I"⟩
abbrev cX4_times : ByteArray := prog_1_method_4_code
def yX4_times : MethodName := ⟨RX4, "times", "(II)I"⟩
abbrev cX4_add : ByteArray := prog_1_method_5_code
def yX4_add : MethodName := ⟨RX4, "add", "(II)I"⟩
abbrev cX4_clear : ByteArray := prog_1_method_6_code
def yX4_clear : MethodName := ⟨RX4, "clear", "(I)I"⟩
abbrev cX4_dim : ByteArray := prog_1_method_7_code
def yX4_dim : MethodName := ⟨RX4, "dim", "(I)I"⟩
abbrev cX4_row : ByteArray := prog_1_method_8_code
def yX4_row : MethodName := ⟨RX4, "row", "(II)I"⟩
abbrev cX4_join : ByteArray := prog_1_method_9_code
def yX4_join : MethodName := ⟨RX4, "join", "(III)I"⟩
abbrev cX4_meet : ByteArray := prog_1_method_10_code
def yX4_meet : MethodName := ⟨RX4, "meet", "(III)I"⟩
abbrev cX4_dual : ByteArray := prog_1_method_11_code
def yX4_dual : MethodName := ⟨RX4, "dual", "(II)I"⟩
abbrev cX4_has : ByteArray := prog_1_method_12_code
def yX4_has : MethodName := ⟨RX4, "has", "(II)I"⟩
abbrev cX4_within : ByteArray := prog_1_method_13_code
def yX4_within : MethodName := ⟨RX4, "within", "(II)I"⟩
abbrev cX4_apart : ByteArray := prog_1_method_14_code
def yX4_apart : MethodName := ⟨RX4, "apart", "(II)I"⟩
abbrev cX4_number : ByteArray := prog_1_method_15_code
def yX4_number : MethodName := ⟨RX4, "number", "(I)I"⟩
abbrev cX4_numbered : ByteArray := prog_1_method_16_code
def yX4_numbered : MethodName := ⟨RX4, "numbered", "(III)I"⟩
abbrev cX4_many : ByteArray := prog_1_method_17_code
def yX4_many : MethodName := ⟨RX4, "many", "(I)I"⟩
abbrev cX4_over : ByteArray := prog_1_method_18_code
def yX4_over : MethodName := ⟨RX4, "over", "(II)I"⟩
abbrev cX4_meeting : ByteArray := prog_1_method_19_code
def yX4_meeting : MethodName := ⟨RX4, "meeting", "(III)I"⟩
abbrev cX4_put : ByteArray := prog_1_method_20_code
def yX4_put : MethodName := ⟨RX4, "put", "(I)I"⟩
abbrev cX4_empty : ByteArray := prog_1_method_21_code
def yX4_empty : MethodName := ⟨RX4, "empty", "()I"⟩
abbrev cX4_take : ByteArray := prog_1_method_22_code
def yX4_take : MethodName := ⟨RX4, "take", "(II)I"⟩
abbrev cX4_least : ByteArray := prog_1_method_23_code
def yX4_least : MethodName := ⟨RX4, "least", "()I"⟩
abbrev cX4_bare : ByteArray := prog_1_method_24_code
def yX4_bare : MethodName := ⟨RX4, "bare", "()I"⟩
abbrev cX4_greedy : ByteArray := prog_1_method_25_code
def yX4_greedy : MethodName := ⟨RX4, "greedy", "(II)I"⟩
abbrev cX4_image : ByteArray := prog_1_method_26_code
def yX4_image : MethodName := ⟨RX4, "image", "(II)I"⟩
abbrev cX4_mapped : ByteArray := prog_1_method_27_code
def yX4_mapped : MethodName := ⟨RX4, "mapped", "(I)I"⟩
abbrev cX4_map : ByteArray := prog_1_method_28_code
def yX4_map : MethodName := ⟨RX4, "map", "(II)I"⟩
abbrev cX4_kernel : ByteArray := prog_1_method_29_code
def yX4_kernel : MethodName := ⟨RX4, "kernel", "(I)I"⟩
abbrev cX4_round : ByteArray := prog_1_method_30_code
def yX4_round : MethodName := ⟨RX4, "round", "(I)I"⟩
abbrev cX4_told : ByteArray := prog_1_method_31_code
def yX4_told : MethodName := ⟨RX4, "told", "(I)I"⟩
abbrev cX4_digest : ByteArray := prog_1_method_32_code
def yX4_digest : MethodName := ⟨RX4, "digest", "()J"⟩
abbrev cX4_mostPlaces : ByteArray := prog_1_method_33_code
def yX4_mostPlaces : MethodName := ⟨RX4, "mostPlaces", "(I)I"⟩
abbrev cX4_isSlot : ByteArray := prog_1_method_34_code
def yX4_isSlot : MethodName := ⟨RX4, "isSlot", "(I)Z"⟩
abbrev cX4_isDim : ByteArray := prog_1_method_35_code
def yX4_isDim : MethodName := ⟨RX4, "isDim", "(I)Z"⟩
abbrev cX4_settle : ByteArray := prog_1_method_36_code
def yX4_settle : MethodName := ⟨RX4, "settle", "(LSmallSpaces$Space;I)I"⟩
abbrev cX4_timesTillAgain : ByteArray := prog_1_method_37_code
def yX4_timesTillAgain : MethodName := ⟨RX4, "timesTillAgain", "(LSmallSpaces$Space;)I"⟩
abbrev cX4_fold : ByteArray := prog_1_method_38_code
def yX4_fold : MethodName := ⟨RX4, "fold", "(JI)J"⟩
abbrev cX4_foldSpace : ByteArray := prog_1_method_39_code
def yX4_foldSpace : MethodName := ⟨RX4, "foldSpace", "(JLSmallSpaces$Space;)J"⟩
def RX5 : String := "SmallSpacesModel"
def TX5 : u_T := fun k => match k with
  | 0 => ("SmallSpacesModel", "q", "I", false)
  | 1 => ("SmallSpacesModel", "n", "I", false)
  | 2 => ("SmallSpacesModel", "vectors", "I", false)
  | 3 => ("SmallSpacesModel", "images", "[I", true)
  | 4 => ("SmallSpacesModel", "greedies", "I", false)
  | 5 => ("SmallSpacesModel", "rounds", "I", false)
  | 6 => ("SmallSpacesModel", "work", "[I", true)
  | 7 => ("SmallSpacesModel", "worked", "I", false)
  | 8 => ("SmallSpacesModel", "isPivot", "[Z", true)
  | 9 => ("SmallSpacesModel", "dims", "[I", true)
  | 10 => ("SmallSpacesModel", "rows", "[I", true)
  | 11 => ("SmallSpacesModel", "aside", "[I", true)
  | 12 => ("SmallSpacesModel", "pivots", "[I", true)
  | 13 => ("SmallSpacesModel", "heapMany", "I", false)
  | 14 => ("SmallSpacesModel", "heapDims", "[I", true)
  | _ => ("SmallSpacesModel", "heapRows", "[I", true)
def tyX5 : Nat → FieldType := fun k => match k with
  | 0 => .int
  | 1 => .int
  | 2 => .int
  | 3 => .array .int
  | 4 => .int
  | 5 => .int
  | 6 => .array .int
  | 7 => .int
  | 8 => .array .boolean
  | 9 => .array .int
  | 10 => .array .int
  | 11 => .array .int
  | 12 => .array .int
  | 13 => .int
  | 14 => .array .int
  | _ => .array .int
abbrev wsX50 : List Cond := u_ws RX5 TX5 16
theorem nmX5 : ∀ a, a < 16 → ∀ b, b < 16 → a ≠ b → (TX5 a).2.1 ≠ (TX5 b).2.1 := by decide +kernel
theorem tyX5_ok : ∀ k, k < 16 → parseFieldDescriptor (TX5 k).2.2.1 = some (tyX5 k) := by decide +kernel
abbrev cX5_init : ByteArray := prog_7_method_1_code
def yX5_init : MethodName := ⟨RX5, "<init>", "()V"⟩
abbrev cX5_in : ByteArray := prog_7_method_2_code
def yX5_in : MethodName := ⟨RX5, "in", "(JJJ)Z"⟩
abbrev cX5_power : ByteArray := prog_7_method_3_code
def yX5_power : MethodName := ⟨RX5, "power", "(II)I"⟩
abbrev cX5_begin : ByteArray := prog_7_method_4_code
def yX5_begin : MethodName := ⟨RX5, "begin", "()V"⟩
abbrev cX5_field : ByteArray := prog_7_method_5_code
def yX5_field : MethodName := ⟨RX5, "field", "(II)I"⟩
abbrev cX5_figure : ByteArray := prog_7_method_6_code
def yX5_figure : MethodName := ⟨RX5, "figure", "(II)I"⟩
abbrev cX5_isVector : ByteArray := prog_7_method_7_code
def yX5_isVector : MethodName := ⟨RX5, "isVector", "(I)Z"⟩
abbrev cX5_sum : ByteArray := prog_7_method_8_code
def yX5_sum : MethodName := ⟨RX5, "sum", "(III)I"⟩
abbrev cX5_plus : ByteArray := prog_7_method_9_code
def yX5_plus : MethodName := ⟨RX5, "plus", "(III)I"⟩
abbrev cX5_product : ByteArray := prog_7_method_10_code
def yX5_product : MethodName := ⟨RX5, "product", "(II)I"⟩
abbrev cX5_times : ByteArray := prog_7_method_11_code
def yX5_times : MethodName := ⟨RX5, "times", "(II)I"⟩
abbrev cX5_settle : ByteArray := prog_7_method_12_code
def yX5_settle : MethodName := ⟨RX5, "settle", "()V"⟩
abbrev cX5_pivot : ByteArray := prog_7_method_13_code
def yX5_pivot : MethodName := ⟨RX5, "pivot", "(I)I"⟩
abbrev cX5_turn : ByteArray := prog_7_method_14_code
def yX5_turn : MethodName := ⟨RX5, "turn", "()V"⟩
abbrev cX5_isSlot : ByteArray := prog_7_method_15_code
def yX5_isSlot : MethodName := ⟨RX5, "isSlot", "(I)Z"⟩
abbrev cX5_load : ByteArray := prog_7_method_16_code
def yX5_load : MethodName := ⟨RX5, "load", "(I)V"⟩
abbrev cX5_save : ByteArray := prog_7_method_17_code
def yX5_save : MethodName := ⟨RX5, "save", "(I)I"⟩
abbrev cX5_add : ByteArray := prog_7_method_18_code
def yX5_add : MethodName := ⟨RX5, "add", "(II)I"⟩
abbrev cX5_clear : ByteArray := prog_7_method_19_code
def yX5_clear : MethodName := ⟨RX5, "clear", "(I)I"⟩
abbrev cX5_dim : ByteArray := prog_7_method_20_code
def yX5_dim : MethodName := ⟨RX5, "dim", "(I)I"⟩
abbrev cX5_row : ByteArray := prog_7_method_21_code
def yX5_row : MethodName := ⟨RX5, "row", "(II)I"⟩
abbrev cX5_areSlots : ByteArray := prog_7_method_22_code
def yX5_areSlots : MethodName := ⟨RX5, "areSlots", "(III)Z"⟩
abbrev cX5_joined : ByteArray := prog_7_method_23_code
def yX5_joined : MethodName := ⟨RX5, "joined", "(II)I"⟩
abbrev cX5_join : ByteArray := prog_7_method_24_code
def yX5_join : MethodName := ⟨RX5, "join", "(III)I"⟩
abbrev cX5_meet : ByteArray := prog_7_method_25_code
def yX5_meet : MethodName := ⟨RX5, "meet", "(III)I"⟩
abbrev cX5_dual : ByteArray := prog_7_method_26_code
def yX5_dual : MethodName := ⟨RX5, "dual", "(II)I"⟩
abbrev cX5_holds : ByteArray := prog_7_method_27_code
def yX5_holds : MethodName := ⟨RX5, "holds", "(II)Z"⟩
abbrev cX5_has : ByteArray := prog_7_method_28_code
def yX5_has : MethodName := ⟨RX5, "has", "(II)I"⟩
abbrev cX5_within : ByteArray := prog_7_method_29_code
def yX5_within : MethodName := ⟨RX5, "within", "(II)I"⟩
abbrev cX5_apart : ByteArray := prog_7_method_30_code
def yX5_apart : MethodName := ⟨RX5, "apart", "(II)I"⟩
abbrev cX5_gauss : ByteArray := prog_7_method_31_code
def yX5_gauss : MethodName := ⟨RX5, "gauss", "(II)I"⟩
abbrev cX5_many : ByteArray := prog_7_method_32_code
def yX5_many : MethodName := ⟨RX5, "many", "(I)I"⟩
abbrev cX5_free : ByteArray := prog_7_method_33_code
def yX5_free : MethodName := ⟨RX5, "free", "(I)I"⟩
abbrev cX5_goOn : ByteArray := prog_7_method_34_code
def yX5_goOn : MethodName := ⟨RX5, "goOn", "(I)Z"⟩
abbrev cX5_firstPivots : ByteArray := prog_7_method_35_code
def yX5_firstPivots : MethodName := ⟨RX5, "firstPivots", "(I)V"⟩
abbrev cX5_isFree : ByteArray := prog_7_method_36_code
def yX5_isFree : MethodName := ⟨RX5, "isFree", "(III)Z"⟩
abbrev cX5_number : ByteArray := prog_7_method_37_code
def yX5_number : MethodName := ⟨RX5, "number", "(I)I"⟩
abbrev cX5_lay : ByteArray := prog_7_method_38_code
def yX5_lay : MethodName := ⟨RX5, "lay", "(II)V"⟩
abbrev cX5_numbered : ByteArray := prog_7_method_39_code
def yX5_numbered : MethodName := ⟨RX5, "numbered", "(III)I"⟩
abbrev cX5_over : ByteArray := prog_7_method_40_code
def yX5_over : MethodName := ⟨RX5, "over", "(II)I"⟩
abbrev cX5_meeting : ByteArray := prog_7_method_41_code
def yX5_meeting : MethodName := ⟨RX5, "meeting", "(III)I"⟩
abbrev cX5_toHeap : ByteArray := prog_7_method_42_code
def yX5_toHeap : MethodName := ⟨RX5, "toHeap", "()V"⟩
abbrev cX5_loadHeap : ByteArray := prog_7_method_43_code
def yX5_loadHeap : MethodName := ⟨RX5, "loadHeap", "(I)V"⟩
abbrev cX5_put : ByteArray := prog_7_method_44_code
def yX5_put : MethodName := ⟨RX5, "put", "(I)I"⟩
abbrev cX5_empty : ByteArray := prog_7_method_45_code
def yX5_empty : MethodName := ⟨RX5, "empty", "()I"⟩
abbrev cX5_take : ByteArray := prog_7_method_46_code
def yX5_take : MethodName := ⟨RX5, "take", "(II)I"⟩
abbrev cX5_least : ByteArray := prog_7_method_47_code
def yX5_least : MethodName := ⟨RX5, "least", "()I"⟩
abbrev cX5_bare : ByteArray := prog_7_method_48_code
def yX5_bare : MethodName := ⟨RX5, "bare", "()I"⟩
abbrev cX5_greedy : ByteArray := prog_7_method_49_code
def yX5_greedy : MethodName := ⟨RX5, "greedy", "(II)I"⟩
abbrev cX5_image : ByteArray := prog_7_method_50_code
def yX5_image : MethodName := ⟨RX5, "image", "(II)I"⟩
abbrev cX5_mappedOf : ByteArray := prog_7_method_51_code
def yX5_mappedOf : MethodName := ⟨RX5, "mappedOf", "(I)I"⟩
abbrev cX5_mapped : ByteArray := prog_7_method_52_code
def yX5_mapped : MethodName := ⟨RX5, "mapped", "(I)I"⟩
abbrev cX5_map : ByteArray := prog_7_method_53_code
def yX5_map : MethodName := ⟨RX5, "map", "(II)I"⟩
abbrev cX5_step : ByteArray := prog_7_method_54_code
def yX5_step : MethodName := ⟨RX5, "step", "()V"⟩
abbrev cX5_kernel : ByteArray := prog_7_method_55_code
def yX5_kernel : MethodName := ⟨RX5, "kernel", "(I)I"⟩
abbrev cX5_round : ByteArray := prog_7_method_56_code
def yX5_round : MethodName := ⟨RX5, "round", "(I)I"⟩
abbrev cX5_told : ByteArray := prog_7_method_57_code
def yX5_told : MethodName := ⟨RX5, "told", "(I)I"⟩
abbrev cX5_digest : ByteArray := prog_7_method_58_code
def yX5_digest : MethodName := ⟨RX5, "digest", "()J"⟩
def RJ6 : String := "java/lang/Integer"
def TJ6 : u_T := fun k => match k with
  | _ => ("", "", "", false)
def tyJ6 : Nat → FieldType := fun k => match k with
  | _ => .int
abbrev wsJ60 : List Cond := u_ws RJ6 TJ6 0
theorem nmJ6 : ∀ a, a < 0 → ∀ b, b < 0 → a ≠ b → (TJ6 a).2.1 ≠ (TJ6 b).2.1 := by decide +kernel
theorem tyJ6_ok : ∀ k, k < 0 → parseFieldDescriptor (TJ6 k).2.2.1 = some (tyJ6 k) := by decide +kernel
abbrev cJ6_bitCount_0f7a4 : ByteArray := prog_8_method_49_code
def yJ6_bitCount_0f7a4 : MethodName := ⟨RJ6, "bitCount", "(I)I"⟩
def RJ9 : String := "java/lang/Math"
def TJ9 : u_T := fun k => match k with
  | _ => ("", "", "", false)
def tyJ9 : Nat → FieldType := fun k => match k with
  | _ => .int
abbrev wsJ90 : List Cond := u_ws RJ9 TJ9 0
theorem nmJ9 : ∀ a, a < 0 → ∀ b, b < 0 → a ≠ b → (TJ9 a).2.1 ≠ (TJ9 b).2.1 := by decide +kernel
theorem tyJ9_ok : ∀ k, k < 0 → parseFieldDescriptor (TJ9 k).2.2.1 = some (tyJ9 k) := by decide +kernel
abbrev cJ9_min_7cf53 : ByteArray := prog_9_method_69_code
def yJ9_min_7cf53 : MethodName := ⟨RJ9, "min", "(II)I"⟩
def RJ10 : String := "java/lang/System"
def TJ10 : u_T := fun k => match k with
  | _ => ("", "", "", false)
def tyJ10 : Nat → FieldType := fun k => match k with
  | _ => .int
abbrev wsJ100 : List Cond := u_ws RJ10 TJ10 0
theorem nmJ10 : ∀ a, a < 0 → ∀ b, b < 0 → a ≠ b → (TJ10 a).2.1 ≠ (TJ10 b).2.1 := by decide +kernel
theorem tyJ10_ok : ∀ k, k < 0 → parseFieldDescriptor (TJ10 k).2.2.1 = some (tyJ10 k) := by decide +kernel
def RJ7 : String := "java/util/Arrays"
def TJ7 : u_T := fun k => match k with
  | _ => ("", "", "", false)
def tyJ7 : Nat → FieldType := fun k => match k with
  | _ => .int
abbrev wsJ70 : List Cond := u_ws RJ7 TJ7 0
theorem nmJ7 : ∀ a, a < 0 → ∀ b, b < 0 → a ≠ b → (TJ7 a).2.1 ≠ (TJ7 b).2.1 := by decide +kernel
theorem tyJ7_ok : ∀ k, k < 0 → parseFieldDescriptor (TJ7 k).2.2.1 = some (tyJ7 k) := by decide +kernel
abbrev cJ7_fill_53178 : ByteArray := prog_11_method_103_code
def yJ7_fill_53178 : MethodName := ⟨RJ7, "fill", "([II)V"⟩
def RL : String := "SmallSpacesLaw"
abbrev cL_law : ByteArray := code
def yL_law : MethodName := ⟨RL, "law", "([I)Z"⟩
def wsX0_power : List Cond := .code yX0_power cX0_power 4 (some .int) :: ([.fieldLink RX0 13 "SmallSpaces$Frame" "q" "I"] ++ wsX00)
def wsX0_become : List Cond := .code yX0_become cX0_become 3 none :: ([.fieldLink RX0 13 "SmallSpaces$Frame" "q" "I", .fieldLink RX0 17 "SmallSpaces$Frame" "n" "I", .fieldLink RX0 24 "SmallSpaces$Frame" "vectors" "I", .methodLink RX0 20 yX0_power, .instanceMethod yX0_power, .selects RX0 yX0_power yX0_power, .initialized RX0, .code yX0_power cX0_power 4 (some .int)] ++ wsX00)
def wsX0_init : List Cond := .code yX0_init cX0_init 1 none :: ([.methodLink RX0 1 objectInit, .instanceMethod objectInit, .code objectInit ⟨#[0xb1]⟩ 1 none, .methodLink RX0 7 yX0_become, .instanceMethod yX0_become, .selects RX0 yX0_become yX0_become, .initialized RX0, .code yX0_become cX0_become 3 none, .fieldLink RX0 13 "SmallSpaces$Frame" "q" "I", .fieldLink RX0 17 "SmallSpaces$Frame" "n" "I", .fieldLink RX0 24 "SmallSpaces$Frame" "vectors" "I", .methodLink RX0 20 yX0_power, .instanceMethod yX0_power, .selects RX0 yX0_power yX0_power, .code yX0_power cX0_power 4 (some .int)] ++ wsX00)
def wsX0_isVector : List Cond := .code yX0_isVector cX0_isVector 2 (some .boolean) :: ([.fieldLink RX0 24 "SmallSpaces$Frame" "vectors" "I"] ++ wsX00)
def wsX0_sum : List Cond := .code yX0_sum cX0_sum 9 (some .int) :: ([.fieldLink RX0 17 "SmallSpaces$Frame" "n" "I", .fieldLink RX0 13 "SmallSpaces$Frame" "q" "I"] ++ wsX00)
def wsX0_product : List Cond := .code yX0_product cX0_product 7 (some .int) :: ([.fieldLink RX0 17 "SmallSpaces$Frame" "n" "I", .fieldLink RX0 13 "SmallSpaces$Frame" "q" "I"] ++ wsX00)
def wsX0_spell : List Cond := .code yX0_spell cX0_spell 6 none :: ([.fieldLink RX0 17 "SmallSpaces$Frame" "n" "I", .fieldLink RX0 13 "SmallSpaces$Frame" "q" "I"] ++ wsX00)
def wsX0_vectorNumber : List Cond := .code yX0_vectorNumber cX0_vectorNumber 5 (some .int) :: ([.fieldLink RX0 17 "SmallSpaces$Frame" "n" "I", .fieldLink RX0 13 "SmallSpaces$Frame" "q" "I"] ++ wsX00)
def wsX0_inverse : List Cond := .code yX0_inverse cX0_inverse 2 (some .int) :: ([.fieldLink RX0 13 "SmallSpaces$Frame" "q" "I"] ++ wsX00)
def wsX0_addMultiple : List Cond := .code yX0_addMultiple cX0_addMultiple 7 none :: ([.fieldLink RX0 17 "SmallSpaces$Frame" "n" "I", .fieldLink RX0 13 "SmallSpaces$Frame" "q" "I"] ++ wsX00)
def wsX0_spaces : List Cond := .code yX0_spaces cX0_spaces 5 (some .int) :: ([.methodLink RX0 20 yX0_power, .instanceMethod yX0_power, .selects RX0 yX0_power yX0_power, .initialized RX0, .code yX0_power cX0_power 4 (some .int), .fieldLink RX0 13 "SmallSpaces$Frame" "q" "I"] ++ wsX00)
def wsX3_init : List Cond := .code yX3_init cX3_init 2 none :: ([.methodLink RX3 3 objectInit, .instanceMethod objectInit, .code objectInit ⟨#[0xb1]⟩ 1 none, .arrayClass .int, .fieldLink RX3 9 "SmallSpaces$Space" "cells" "[I", .fieldLink RX3 15 "SmallSpaces$Space" "fresh" "[I", .fieldLink RX3 18 "SmallSpaces$Space" "frame" "LSmallSpaces$Frame;"] ++ wsX30)
def wsX1_init : List Cond := .code yX1_init cX1_init 3 none :: ([.methodLink RX1 3 objectInit, .instanceMethod objectInit, .code objectInit ⟨#[0xb1]⟩ 1 none, .classLink RX1 9 RX3, .fieldLink RX1 11 "SmallSpaces$Heap" "spaces" "[LSmallSpaces$Space;", .instantiable RX3 4, .initialized RX3, .fieldLink RX1 20 "SmallSpaces$Heap" "joined" "LSmallSpaces$Space;", .instanceMethod yX3_init, .code yX3_init cX3_init 2 none, .methodLink RX3 3 objectInit, .arrayClass .int, .fieldLink RX3 9 "SmallSpaces$Space" "cells" "[I", .fieldLink RX3 15 "SmallSpaces$Space" "fresh" "[I", .fieldLink RX3 18 "SmallSpaces$Space" "frame" "LSmallSpaces$Frame;"] ++ wsX10 ++ wsX30)
def wsX3_copyFrom : List Cond := .code yX3_copyFrom cX3_copyFrom 2 none :: ([.fieldLink RX3 22 "SmallSpaces$Space" "pivots" "I", .fieldLink RX3 9 "SmallSpaces$Space" "cells" "[I", .methodLink RX3 26 arraycopyName, .native arraycopyName, .static arraycopyName, .initialized "java/lang/System"] ++ wsX30)
def wsX1_accept : List Cond := .code yX1_accept cX1_accept 2 none :: ([.fieldLink RX1 24 "SmallSpaces$Heap" "size" "I", .fieldLink RX1 11 "SmallSpaces$Heap" "spaces" "[LSmallSpaces$Space;", .instanceMethod yX3_copyFrom, .initialized RX3, .selects RX3 yX3_copyFrom yX3_copyFrom, .code yX3_copyFrom cX3_copyFrom 2 none, .fieldLink RX3 22 "SmallSpaces$Space" "pivots" "I", .fieldLink RX3 9 "SmallSpaces$Space" "cells" "[I", .methodLink RX3 26 arraycopyName, .native arraycopyName, .static arraycopyName, .initialized "java/lang/System"] ++ wsX10 ++ wsX30)
def wsX3_isPivot : List Cond := .code yX3_isPivot cX3_isPivot 2 (some .boolean) :: ([.fieldLink RX3 22 "SmallSpaces$Space" "pivots" "I", .fieldLink RX3 18 "SmallSpaces$Space" "frame" "LSmallSpaces$Frame;"] ++ wsX30 ++ wsX00)
def wsX3_reduceFresh : List Cond := .code yX3_reduceFresh cX3_reduceFresh 2 none :: ([.fieldLink RX3 18 "SmallSpaces$Space" "frame" "LSmallSpaces$Frame;", .fieldLink RX3 15 "SmallSpaces$Space" "fresh" "[I", .fieldLink RX3 9 "SmallSpaces$Space" "cells" "[I", .methodLink RX3 43 yX3_isPivot, .instanceMethod yX3_isPivot, .selects RX3 yX3_isPivot yX3_isPivot, .initialized RX3, .code yX3_isPivot cX3_isPivot 2 (some .boolean), .fieldLink RX3 22 "SmallSpaces$Space" "pivots" "I", .instanceMethod yX0_addMultiple, .initialized RX0, .selects RX0 yX0_addMultiple yX0_addMultiple, .code yX0_addMultiple cX0_addMultiple 7 none, .fieldLink RX0 17 "SmallSpaces$Frame" "n" "I", .fieldLink RX0 13 "SmallSpaces$Frame" "q" "I"] ++ wsX30 ++ wsX00)
def wsX3_takeRow : List Cond := .code yX3_takeRow cX3_takeRow 4 none :: ([.fieldLink RX3 18 "SmallSpaces$Space" "frame" "LSmallSpaces$Frame;", .fieldLink RX3 9 "SmallSpaces$Space" "cells" "[I", .fieldLink RX3 15 "SmallSpaces$Space" "fresh" "[I", .fieldLink RX3 22 "SmallSpaces$Space" "pivots" "I"] ++ wsX30 ++ wsX00)
def wsX3_joinFresh_r1 : List Cond := [Cond.fieldLink RX3 18 "SmallSpaces$Space" "frame" "LSmallSpaces$Frame;", Cond.fieldLink RX3 15 "SmallSpaces$Space" "fresh" "[I", Cond.fieldLink RX3 9 "SmallSpaces$Space" "cells" "[I", Cond.methodLink RX3 69 yX3_reduceFresh, Cond.instanceMethod yX3_reduceFresh, Cond.selects RX3 yX3_reduceFresh yX3_reduceFresh, Cond.initialized RX3, Cond.code yX3_reduceFresh cX3_reduceFresh 2 none, Cond.methodLink RX3 43 yX3_isPivot, Cond.instanceMethod yX3_isPivot, Cond.selects RX3 yX3_isPivot yX3_isPivot, Cond.code yX3_isPivot cX3_isPivot 2 (some .boolean), Cond.fieldLink RX3 22 "SmallSpaces$Space" "pivots" "I", Cond.instanceMethod yX0_addMultiple, Cond.initialized RX0, Cond.selects RX0 yX0_addMultiple yX0_addMultiple, Cond.code yX0_addMultiple cX0_addMultiple 7 none, Cond.fieldLink RX0 17 "SmallSpaces$Frame" "n" "I", Cond.fieldLink RX0 13 "SmallSpaces$Frame" "q" "I", Cond.instanceMethod yX0_inverse, Cond.selects RX0 yX0_inverse yX0_inverse, Cond.code yX0_inverse cX0_inverse 2 (some .int), Cond.methodLink RX3 75 yX3_takeRow, Cond.instanceMethod yX3_takeRow]
def wsX3_joinFresh_r2 : List Cond := [Cond.selects RX3 yX3_takeRow yX3_takeRow, Cond.code yX3_takeRow cX3_takeRow 4 none]
def wsX3_joinFresh : List Cond := .code yX3_joinFresh cX3_joinFresh 4 none :: ((wsX3_joinFresh_r1 ++ wsX3_joinFresh_r2) ++ wsX30 ++ wsX00)
def wsX3_joinSpace_r1 : List Cond := [Cond.fieldLink RX3 18 "SmallSpaces$Space" "frame" "LSmallSpaces$Frame;", Cond.fieldLink RX3 9 "SmallSpaces$Space" "cells" "[I", Cond.fieldLink RX3 15 "SmallSpaces$Space" "fresh" "[I", Cond.methodLink RX3 26 arraycopyName, Cond.native arraycopyName, Cond.static arraycopyName, Cond.initialized "java/lang/System", Cond.methodLink RX3 43 yX3_isPivot, Cond.instanceMethod yX3_isPivot, Cond.selects RX3 yX3_isPivot yX3_isPivot, Cond.initialized RX3, Cond.code yX3_isPivot cX3_isPivot 2 (some .boolean), Cond.fieldLink RX3 22 "SmallSpaces$Space" "pivots" "I", Cond.methodLink RX3 66 yX3_joinFresh, Cond.instanceMethod yX3_joinFresh, Cond.selects RX3 yX3_joinFresh yX3_joinFresh, Cond.code yX3_joinFresh cX3_joinFresh 4 none, Cond.methodLink RX3 69 yX3_reduceFresh, Cond.instanceMethod yX3_reduceFresh, Cond.selects RX3 yX3_reduceFresh yX3_reduceFresh, Cond.code yX3_reduceFresh cX3_reduceFresh 2 none, Cond.instanceMethod yX0_addMultiple, Cond.initialized RX0, Cond.selects RX0 yX0_addMultiple yX0_addMultiple]
def wsX3_joinSpace_r2 : List Cond := [Cond.code yX0_addMultiple cX0_addMultiple 7 none, Cond.fieldLink RX0 17 "SmallSpaces$Frame" "n" "I", Cond.fieldLink RX0 13 "SmallSpaces$Frame" "q" "I", Cond.instanceMethod yX0_inverse, Cond.selects RX0 yX0_inverse yX0_inverse, Cond.code yX0_inverse cX0_inverse 2 (some .int), Cond.methodLink RX3 75 yX3_takeRow, Cond.instanceMethod yX3_takeRow, Cond.selects RX3 yX3_takeRow yX3_takeRow, Cond.code yX3_takeRow cX3_takeRow 4 none]
def wsX3_joinSpace : List Cond := .code yX3_joinSpace cX3_joinSpace 3 none :: ((wsX3_joinSpace_r1 ++ wsX3_joinSpace_r2) ++ wsX30 ++ wsX00)
def wsJ6_bitCount_0f7a4 : List Cond := .code yJ6_bitCount_0f7a4 cJ6_bitCount_0f7a4 1 (some .int) :: ([.constant RJ6 265 (1431655765), .constant RJ6 266 (858993459), .constant RJ6 267 (252645135)])
def wsX3_rank : List Cond := .code yX3_rank cX3_rank 1 (some .int) :: ([.fieldLink RX3 22 "SmallSpaces$Space" "pivots" "I", .methodLink RX3 32 yJ6_bitCount_0f7a4, .static yJ6_bitCount_0f7a4, .initialized RJ6, .code yJ6_bitCount_0f7a4 cJ6_bitCount_0f7a4 1 (some .int), .constant RJ6 265 (1431655765), .constant RJ6 266 (858993459), .constant RJ6 267 (252645135)] ++ wsX30)
def wsX3_distance_r1 : List Cond := [Cond.methodLink RX3 92 yX3_copyFrom, Cond.instanceMethod yX3_copyFrom, Cond.selects RX3 yX3_copyFrom yX3_copyFrom, Cond.initialized RX3, Cond.code yX3_copyFrom cX3_copyFrom 2 none, Cond.fieldLink RX3 22 "SmallSpaces$Space" "pivots" "I", Cond.fieldLink RX3 9 "SmallSpaces$Space" "cells" "[I", Cond.methodLink RX3 26 arraycopyName, Cond.native arraycopyName, Cond.static arraycopyName, Cond.initialized "java/lang/System", Cond.methodLink RX3 96 yX3_joinSpace, Cond.instanceMethod yX3_joinSpace, Cond.selects RX3 yX3_joinSpace yX3_joinSpace, Cond.code yX3_joinSpace cX3_joinSpace 3 none, Cond.fieldLink RX3 18 "SmallSpaces$Space" "frame" "LSmallSpaces$Frame;", Cond.fieldLink RX3 15 "SmallSpaces$Space" "fresh" "[I", Cond.methodLink RX3 43 yX3_isPivot, Cond.instanceMethod yX3_isPivot, Cond.selects RX3 yX3_isPivot yX3_isPivot, Cond.code yX3_isPivot cX3_isPivot 2 (some .boolean), Cond.methodLink RX3 66 yX3_joinFresh, Cond.instanceMethod yX3_joinFresh, Cond.selects RX3 yX3_joinFresh yX3_joinFresh]
def wsX3_distance_r2 : List Cond := [Cond.code yX3_joinFresh cX3_joinFresh 4 none, Cond.methodLink RX3 69 yX3_reduceFresh, Cond.instanceMethod yX3_reduceFresh, Cond.selects RX3 yX3_reduceFresh yX3_reduceFresh, Cond.code yX3_reduceFresh cX3_reduceFresh 2 none, Cond.instanceMethod yX0_addMultiple, Cond.initialized RX0, Cond.selects RX0 yX0_addMultiple yX0_addMultiple, Cond.code yX0_addMultiple cX0_addMultiple 7 none, Cond.fieldLink RX0 17 "SmallSpaces$Frame" "n" "I", Cond.fieldLink RX0 13 "SmallSpaces$Frame" "q" "I", Cond.instanceMethod yX0_inverse, Cond.selects RX0 yX0_inverse yX0_inverse, Cond.code yX0_inverse cX0_inverse 2 (some .int), Cond.methodLink RX3 75 yX3_takeRow, Cond.instanceMethod yX3_takeRow, Cond.selects RX3 yX3_takeRow yX3_takeRow, Cond.code yX3_takeRow cX3_takeRow 4 none, Cond.methodLink RX3 99 yX3_rank, Cond.instanceMethod yX3_rank, Cond.selects RX3 yX3_rank yX3_rank, Cond.code yX3_rank cX3_rank 1 (some .int), Cond.methodLink RX3 32 yJ6_bitCount_0f7a4, Cond.static yJ6_bitCount_0f7a4]
def wsX3_distance_r3 : List Cond := [Cond.initialized RJ6, Cond.code yJ6_bitCount_0f7a4 cJ6_bitCount_0f7a4 1 (some .int), Cond.constant RJ6 265 (1431655765), Cond.constant RJ6 266 (858993459), Cond.constant RJ6 267 (252645135)]
def wsX3_distance : List Cond := .code yX3_distance cX3_distance 3 (some .int) :: ((wsX3_distance_r1 ++ (wsX3_distance_r2 ++ wsX3_distance_r3)) ++ wsX30 ++ wsX00)
def wsX1_allApart_r1 : List Cond := [Cond.fieldLink RX1 24 "SmallSpaces$Heap" "size" "I", Cond.fieldLink RX1 20 "SmallSpaces$Heap" "joined" "LSmallSpaces$Space;", Cond.fieldLink RX1 11 "SmallSpaces$Heap" "spaces" "[LSmallSpaces$Space;", Cond.instanceMethod yX3_distance, Cond.initialized RX3, Cond.selects RX3 yX3_distance yX3_distance, Cond.code yX3_distance cX3_distance 3 (some .int), Cond.methodLink RX3 92 yX3_copyFrom, Cond.instanceMethod yX3_copyFrom, Cond.selects RX3 yX3_copyFrom yX3_copyFrom, Cond.code yX3_copyFrom cX3_copyFrom 2 none, Cond.fieldLink RX3 22 "SmallSpaces$Space" "pivots" "I", Cond.fieldLink RX3 9 "SmallSpaces$Space" "cells" "[I", Cond.methodLink RX3 26 arraycopyName, Cond.native arraycopyName, Cond.static arraycopyName, Cond.initialized "java/lang/System", Cond.methodLink RX3 96 yX3_joinSpace, Cond.instanceMethod yX3_joinSpace, Cond.selects RX3 yX3_joinSpace yX3_joinSpace, Cond.code yX3_joinSpace cX3_joinSpace 3 none, Cond.fieldLink RX3 18 "SmallSpaces$Space" "frame" "LSmallSpaces$Frame;", Cond.fieldLink RX3 15 "SmallSpaces$Space" "fresh" "[I", Cond.methodLink RX3 43 yX3_isPivot]
def wsX1_allApart_r2 : List Cond := [Cond.instanceMethod yX3_isPivot, Cond.selects RX3 yX3_isPivot yX3_isPivot, Cond.code yX3_isPivot cX3_isPivot 2 (some .boolean), Cond.methodLink RX3 66 yX3_joinFresh, Cond.instanceMethod yX3_joinFresh, Cond.selects RX3 yX3_joinFresh yX3_joinFresh, Cond.code yX3_joinFresh cX3_joinFresh 4 none, Cond.methodLink RX3 69 yX3_reduceFresh, Cond.instanceMethod yX3_reduceFresh, Cond.selects RX3 yX3_reduceFresh yX3_reduceFresh, Cond.code yX3_reduceFresh cX3_reduceFresh 2 none, Cond.instanceMethod yX0_addMultiple, Cond.initialized RX0, Cond.selects RX0 yX0_addMultiple yX0_addMultiple, Cond.code yX0_addMultiple cX0_addMultiple 7 none, Cond.fieldLink RX0 17 "SmallSpaces$Frame" "n" "I", Cond.fieldLink RX0 13 "SmallSpaces$Frame" "q" "I", Cond.instanceMethod yX0_inverse, Cond.selects RX0 yX0_inverse yX0_inverse, Cond.code yX0_inverse cX0_inverse 2 (some .int), Cond.methodLink RX3 75 yX3_takeRow, Cond.instanceMethod yX3_takeRow, Cond.selects RX3 yX3_takeRow yX3_takeRow, Cond.code yX3_takeRow cX3_takeRow 4 none]
def wsX1_allApart_r3 : List Cond := [Cond.methodLink RX3 99 yX3_rank, Cond.instanceMethod yX3_rank, Cond.selects RX3 yX3_rank yX3_rank, Cond.code yX3_rank cX3_rank 1 (some .int), Cond.methodLink RX3 32 yJ6_bitCount_0f7a4, Cond.static yJ6_bitCount_0f7a4, Cond.initialized RJ6, Cond.code yJ6_bitCount_0f7a4 cJ6_bitCount_0f7a4 1 (some .int), Cond.constant RJ6 265 (1431655765), Cond.constant RJ6 266 (858993459), Cond.constant RJ6 267 (252645135)]
def wsX1_allApart : List Cond := .code yX1_allApart cX1_allApart 4 (some .boolean) :: ((wsX1_allApart_r1 ++ (wsX1_allApart_r2 ++ wsX1_allApart_r3)) ++ wsX10 ++ wsX30 ++ wsX00)
def wsX1_leastDistance_r1 : List Cond := [Cond.fieldLink RX1 24 "SmallSpaces$Heap" "size" "I", Cond.fieldLink RX1 20 "SmallSpaces$Heap" "joined" "LSmallSpaces$Space;", Cond.fieldLink RX1 11 "SmallSpaces$Heap" "spaces" "[LSmallSpaces$Space;", Cond.instanceMethod yX3_distance, Cond.initialized RX3, Cond.selects RX3 yX3_distance yX3_distance, Cond.code yX3_distance cX3_distance 3 (some .int), Cond.methodLink RX3 92 yX3_copyFrom, Cond.instanceMethod yX3_copyFrom, Cond.selects RX3 yX3_copyFrom yX3_copyFrom, Cond.code yX3_copyFrom cX3_copyFrom 2 none, Cond.fieldLink RX3 22 "SmallSpaces$Space" "pivots" "I", Cond.fieldLink RX3 9 "SmallSpaces$Space" "cells" "[I", Cond.methodLink RX3 26 arraycopyName, Cond.native arraycopyName, Cond.static arraycopyName, Cond.initialized "java/lang/System", Cond.methodLink RX3 96 yX3_joinSpace, Cond.instanceMethod yX3_joinSpace, Cond.selects RX3 yX3_joinSpace yX3_joinSpace, Cond.code yX3_joinSpace cX3_joinSpace 3 none, Cond.fieldLink RX3 18 "SmallSpaces$Space" "frame" "LSmallSpaces$Frame;", Cond.fieldLink RX3 15 "SmallSpaces$Space" "fresh" "[I", Cond.methodLink RX3 43 yX3_isPivot]
def wsX1_leastDistance_r2 : List Cond := [Cond.instanceMethod yX3_isPivot, Cond.selects RX3 yX3_isPivot yX3_isPivot, Cond.code yX3_isPivot cX3_isPivot 2 (some .boolean), Cond.methodLink RX3 66 yX3_joinFresh, Cond.instanceMethod yX3_joinFresh, Cond.selects RX3 yX3_joinFresh yX3_joinFresh, Cond.code yX3_joinFresh cX3_joinFresh 4 none, Cond.methodLink RX3 69 yX3_reduceFresh, Cond.instanceMethod yX3_reduceFresh, Cond.selects RX3 yX3_reduceFresh yX3_reduceFresh, Cond.code yX3_reduceFresh cX3_reduceFresh 2 none, Cond.instanceMethod yX0_addMultiple, Cond.initialized RX0, Cond.selects RX0 yX0_addMultiple yX0_addMultiple, Cond.code yX0_addMultiple cX0_addMultiple 7 none, Cond.fieldLink RX0 17 "SmallSpaces$Frame" "n" "I", Cond.fieldLink RX0 13 "SmallSpaces$Frame" "q" "I", Cond.instanceMethod yX0_inverse, Cond.selects RX0 yX0_inverse yX0_inverse, Cond.code yX0_inverse cX0_inverse 2 (some .int), Cond.methodLink RX3 75 yX3_takeRow, Cond.instanceMethod yX3_takeRow, Cond.selects RX3 yX3_takeRow yX3_takeRow, Cond.code yX3_takeRow cX3_takeRow 4 none]
def wsX1_leastDistance_r3 : List Cond := [Cond.methodLink RX3 99 yX3_rank, Cond.instanceMethod yX3_rank, Cond.selects RX3 yX3_rank yX3_rank, Cond.code yX3_rank cX3_rank 1 (some .int), Cond.methodLink RX3 32 yJ6_bitCount_0f7a4, Cond.static yJ6_bitCount_0f7a4, Cond.initialized RJ6, Cond.code yJ6_bitCount_0f7a4 cJ6_bitCount_0f7a4 1 (some .int), Cond.constant RJ6 265 (1431655765), Cond.constant RJ6 266 (858993459), Cond.constant RJ6 267 (252645135)]
def wsX1_leastDistance : List Cond := .code yX1_leastDistance cX1_leastDistance 5 (some .int) :: ((wsX1_leastDistance_r1 ++ (wsX1_leastDistance_r2 ++ wsX1_leastDistance_r3)) ++ wsX10 ++ wsX30 ++ wsX00)
def wsX3_settledFigure : List Cond := .code yX3_settledFigure cX3_settledFigure 6 (some .int) :: ([.fieldLink RX3 9 "SmallSpaces$Space" "cells" "[I", .fieldLink RX3 18 "SmallSpaces$Space" "frame" "LSmallSpaces$Frame;", .methodLink RX3 43 yX3_isPivot, .instanceMethod yX3_isPivot, .selects RX3 yX3_isPivot yX3_isPivot, .initialized RX3, .code yX3_isPivot cX3_isPivot 2 (some .boolean), .fieldLink RX3 22 "SmallSpaces$Space" "pivots" "I"] ++ wsX30 ++ wsX00)
def wsX3_holds : List Cond := .code yX3_holds cX3_holds 4 (some .boolean) :: ([.fieldLink RX3 18 "SmallSpaces$Space" "frame" "LSmallSpaces$Frame;", .methodLink RX3 43 yX3_isPivot, .instanceMethod yX3_isPivot, .selects RX3 yX3_isPivot yX3_isPivot, .initialized RX3, .code yX3_isPivot cX3_isPivot 2 (some .boolean), .fieldLink RX3 22 "SmallSpaces$Space" "pivots" "I", .methodLink RX3 51 yX3_settledFigure, .instanceMethod yX3_settledFigure, .selects RX3 yX3_settledFigure yX3_settledFigure, .code yX3_settledFigure cX3_settledFigure 6 (some .int), .fieldLink RX3 9 "SmallSpaces$Space" "cells" "[I"] ++ wsX30 ++ wsX00)
def wsX1_covers : List Cond := .code yX1_covers cX1_covers 3 (some .boolean) :: ([.fieldLink RX1 24 "SmallSpaces$Heap" "size" "I", .fieldLink RX1 11 "SmallSpaces$Heap" "spaces" "[LSmallSpaces$Space;", .instanceMethod yX3_holds, .initialized RX3, .selects RX3 yX3_holds yX3_holds, .code yX3_holds cX3_holds 4 (some .boolean), .fieldLink RX3 18 "SmallSpaces$Space" "frame" "LSmallSpaces$Frame;", .methodLink RX3 43 yX3_isPivot, .instanceMethod yX3_isPivot, .selects RX3 yX3_isPivot yX3_isPivot, .code yX3_isPivot cX3_isPivot 2 (some .boolean), .fieldLink RX3 22 "SmallSpaces$Space" "pivots" "I", .methodLink RX3 51 yX3_settledFigure, .instanceMethod yX3_settledFigure, .selects RX3 yX3_settledFigure yX3_settledFigure, .code yX3_settledFigure cX3_settledFigure 6 (some .int), .fieldLink RX3 9 "SmallSpaces$Space" "cells" "[I"] ++ wsX10 ++ wsX30 ++ wsX00)
def wsJ7_fill_53178 : List Cond := .code yJ7_fill_53178 cJ7_fill_53178 4 none :: ([])
def wsX2_becomeIdentity : List Cond := .code yX2_becomeIdentity cX2_becomeIdentity 2 none :: ([.fieldLink RX2 9 "SmallSpaces$Linear" "cells" "[I", .fieldLink RX2 18 "SmallSpaces$Linear" "frame" "LSmallSpaces$Frame;", .methodLink RX2 25 yJ7_fill_53178, .static yJ7_fill_53178, .initialized RJ7, .code yJ7_fill_53178 cJ7_fill_53178 4 none] ++ wsX20 ++ wsX00)
def wsX2_init : List Cond := .code yX2_init cX2_init 2 none :: ([.methodLink RX2 3 objectInit, .instanceMethod objectInit, .code objectInit ⟨#[0xb1]⟩ 1 none, .arrayClass .int, .fieldLink RX2 9 "SmallSpaces$Linear" "cells" "[I", .fieldLink RX2 15 "SmallSpaces$Linear" "result" "[I", .fieldLink RX2 18 "SmallSpaces$Linear" "frame" "LSmallSpaces$Frame;", .methodLink RX2 22 yX2_becomeIdentity, .instanceMethod yX2_becomeIdentity, .selects RX2 yX2_becomeIdentity yX2_becomeIdentity, .initialized RX2, .code yX2_becomeIdentity cX2_becomeIdentity 2 none, .methodLink RX2 25 yJ7_fill_53178, .static yJ7_fill_53178, .initialized RJ7, .code yJ7_fill_53178 cJ7_fill_53178 4 none] ++ wsX20 ++ wsX00)
def wsX2_imageNumber : List Cond := .code yX2_imageNumber cX2_imageNumber 2 (some .int) :: ([.fieldLink RX2 18 "SmallSpaces$Linear" "frame" "LSmallSpaces$Frame;", .fieldLink RX2 9 "SmallSpaces$Linear" "cells" "[I", .instanceMethod yX0_vectorNumber, .initialized RX0, .selects RX0 yX0_vectorNumber yX0_vectorNumber, .code yX0_vectorNumber cX0_vectorNumber 5 (some .int), .fieldLink RX0 17 "SmallSpaces$Frame" "n" "I", .fieldLink RX0 13 "SmallSpaces$Frame" "q" "I"] ++ wsX20 ++ wsX00)
def wsX2_setImage : List Cond := .code yX2_setImage cX2_setImage 3 none :: ([.fieldLink RX2 18 "SmallSpaces$Linear" "frame" "LSmallSpaces$Frame;", .fieldLink RX2 9 "SmallSpaces$Linear" "cells" "[I", .instanceMethod yX0_spell, .initialized RX0, .selects RX0 yX0_spell yX0_spell, .code yX0_spell cX0_spell 6 none, .fieldLink RX0 17 "SmallSpaces$Frame" "n" "I", .fieldLink RX0 13 "SmallSpaces$Frame" "q" "I"] ++ wsX20 ++ wsX00)
def wsX2_applyInto : List Cond := .code yX2_applyInto cX2_applyInto 4 none :: ([.fieldLink RX2 15 "SmallSpaces$Linear" "result" "[I", .fieldLink RX2 18 "SmallSpaces$Linear" "frame" "LSmallSpaces$Frame;", .fieldLink RX2 9 "SmallSpaces$Linear" "cells" "[I", .methodLink RX2 25 yJ7_fill_53178, .static yJ7_fill_53178, .initialized RJ7, .code yJ7_fill_53178 cJ7_fill_53178 4 none, .instanceMethod yX0_addMultiple, .initialized RX0, .selects RX0 yX0_addMultiple yX0_addMultiple, .code yX0_addMultiple cX0_addMultiple 7 none, .fieldLink RX0 17 "SmallSpaces$Frame" "n" "I", .fieldLink RX0 13 "SmallSpaces$Frame" "q" "I"] ++ wsX20 ++ wsX00)
def wsX2_apply : List Cond := .code yX2_apply cX2_apply 2 (some .int) :: ([.fieldLink RX2 18 "SmallSpaces$Linear" "frame" "LSmallSpaces$Frame;", .fieldLink RX2 15 "SmallSpaces$Linear" "result" "[I", .methodLink RX2 45 yX2_applyInto, .instanceMethod yX2_applyInto, .selects RX2 yX2_applyInto yX2_applyInto, .initialized RX2, .code yX2_applyInto cX2_applyInto 4 none, .fieldLink RX2 9 "SmallSpaces$Linear" "cells" "[I", .methodLink RX2 25 yJ7_fill_53178, .static yJ7_fill_53178, .initialized RJ7, .code yJ7_fill_53178 cJ7_fill_53178 4 none, .instanceMethod yX0_addMultiple, .initialized RX0, .selects RX0 yX0_addMultiple yX0_addMultiple, .code yX0_addMultiple cX0_addMultiple 7 none, .fieldLink RX0 17 "SmallSpaces$Frame" "n" "I", .fieldLink RX0 13 "SmallSpaces$Frame" "q" "I", .instanceMethod yX0_vectorNumber, .selects RX0 yX0_vectorNumber yX0_vectorNumber, .code yX0_vectorNumber cX0_vectorNumber 5 (some .int)] ++ wsX20 ++ wsX00)
def wsX3_becomeZero : List Cond := .code yX3_becomeZero cX3_becomeZero 1 none :: ([.fieldLink RX3 22 "SmallSpaces$Space" "pivots" "I"] ++ wsX30)
def wsX3_joinVector_r1 : List Cond := [Cond.fieldLink RX3 15 "SmallSpaces$Space" "fresh" "[I", Cond.fieldLink RX3 18 "SmallSpaces$Space" "frame" "LSmallSpaces$Frame;", Cond.methodLink RX3 26 arraycopyName, Cond.native arraycopyName, Cond.static arraycopyName, Cond.initialized "java/lang/System", Cond.methodLink RX3 66 yX3_joinFresh, Cond.instanceMethod yX3_joinFresh, Cond.selects RX3 yX3_joinFresh yX3_joinFresh, Cond.initialized RX3, Cond.code yX3_joinFresh cX3_joinFresh 4 none, Cond.fieldLink RX3 9 "SmallSpaces$Space" "cells" "[I", Cond.methodLink RX3 69 yX3_reduceFresh, Cond.instanceMethod yX3_reduceFresh, Cond.selects RX3 yX3_reduceFresh yX3_reduceFresh, Cond.code yX3_reduceFresh cX3_reduceFresh 2 none, Cond.methodLink RX3 43 yX3_isPivot, Cond.instanceMethod yX3_isPivot, Cond.selects RX3 yX3_isPivot yX3_isPivot, Cond.code yX3_isPivot cX3_isPivot 2 (some .boolean), Cond.fieldLink RX3 22 "SmallSpaces$Space" "pivots" "I", Cond.instanceMethod yX0_addMultiple, Cond.initialized RX0, Cond.selects RX0 yX0_addMultiple yX0_addMultiple]
def wsX3_joinVector_r2 : List Cond := [Cond.code yX0_addMultiple cX0_addMultiple 7 none, Cond.fieldLink RX0 17 "SmallSpaces$Frame" "n" "I", Cond.fieldLink RX0 13 "SmallSpaces$Frame" "q" "I", Cond.instanceMethod yX0_inverse, Cond.selects RX0 yX0_inverse yX0_inverse, Cond.code yX0_inverse cX0_inverse 2 (some .int), Cond.methodLink RX3 75 yX3_takeRow, Cond.instanceMethod yX3_takeRow, Cond.selects RX3 yX3_takeRow yX3_takeRow, Cond.code yX3_takeRow cX3_takeRow 4 none]
def wsX3_joinVector : List Cond := .code yX3_joinVector cX3_joinVector 3 none :: ((wsX3_joinVector_r1 ++ wsX3_joinVector_r2) ++ wsX30 ++ wsX00)
def wsX2_applyToSpace_r1 : List Cond := [Cond.fieldLink RX2 18 "SmallSpaces$Linear" "frame" "LSmallSpaces$Frame;", Cond.fieldLink RX2 15 "SmallSpaces$Linear" "result" "[I", Cond.instanceMethod yX3_becomeZero, Cond.initialized RX3, Cond.selects RX3 yX3_becomeZero yX3_becomeZero, Cond.code yX3_becomeZero cX3_becomeZero 1 none, Cond.fieldLink RX3 22 "SmallSpaces$Space" "pivots" "I", Cond.instanceMethod yX3_isPivot, Cond.selects RX3 yX3_isPivot yX3_isPivot, Cond.code yX3_isPivot cX3_isPivot 2 (some .boolean), Cond.fieldLink RX3 18 "SmallSpaces$Space" "frame" "LSmallSpaces$Frame;", Cond.methodLink RX2 45 yX2_applyInto, Cond.instanceMethod yX2_applyInto, Cond.selects RX2 yX2_applyInto yX2_applyInto, Cond.initialized RX2, Cond.code yX2_applyInto cX2_applyInto 4 none, Cond.fieldLink RX2 9 "SmallSpaces$Linear" "cells" "[I", Cond.methodLink RX2 25 yJ7_fill_53178, Cond.static yJ7_fill_53178, Cond.initialized RJ7, Cond.code yJ7_fill_53178 cJ7_fill_53178 4 none, Cond.instanceMethod yX0_addMultiple, Cond.initialized RX0, Cond.selects RX0 yX0_addMultiple yX0_addMultiple]
def wsX2_applyToSpace_r2 : List Cond := [Cond.code yX0_addMultiple cX0_addMultiple 7 none, Cond.fieldLink RX0 17 "SmallSpaces$Frame" "n" "I", Cond.fieldLink RX0 13 "SmallSpaces$Frame" "q" "I", Cond.instanceMethod yX3_joinVector, Cond.selects RX3 yX3_joinVector yX3_joinVector, Cond.code yX3_joinVector cX3_joinVector 3 none, Cond.fieldLink RX3 15 "SmallSpaces$Space" "fresh" "[I", Cond.methodLink RX3 26 arraycopyName, Cond.native arraycopyName, Cond.static arraycopyName, Cond.initialized "java/lang/System", Cond.methodLink RX3 66 yX3_joinFresh, Cond.instanceMethod yX3_joinFresh, Cond.selects RX3 yX3_joinFresh yX3_joinFresh, Cond.code yX3_joinFresh cX3_joinFresh 4 none, Cond.fieldLink RX3 9 "SmallSpaces$Space" "cells" "[I", Cond.methodLink RX3 69 yX3_reduceFresh, Cond.instanceMethod yX3_reduceFresh, Cond.selects RX3 yX3_reduceFresh yX3_reduceFresh, Cond.code yX3_reduceFresh cX3_reduceFresh 2 none, Cond.methodLink RX3 43 yX3_isPivot, Cond.instanceMethod yX0_inverse, Cond.selects RX0 yX0_inverse yX0_inverse, Cond.code yX0_inverse cX0_inverse 2 (some .int)]
def wsX2_applyToSpace_r3 : List Cond := [Cond.methodLink RX3 75 yX3_takeRow, Cond.instanceMethod yX3_takeRow, Cond.selects RX3 yX3_takeRow yX3_takeRow, Cond.code yX3_takeRow cX3_takeRow 4 none]
def wsX2_applyToSpace : List Cond := .code yX2_applyToSpace cX2_applyToSpace 4 none :: ((wsX2_applyToSpace_r1 ++ (wsX2_applyToSpace_r2 ++ wsX2_applyToSpace_r3)) ++ wsX20 ++ wsX00 ++ wsX30)
def wsX2_columnSpace_r1 : List Cond := [Cond.fieldLink RX2 18 "SmallSpaces$Linear" "frame" "LSmallSpaces$Frame;", Cond.fieldLink RX2 15 "SmallSpaces$Linear" "result" "[I", Cond.fieldLink RX2 9 "SmallSpaces$Linear" "cells" "[I", Cond.instanceMethod yX3_becomeZero, Cond.initialized RX3, Cond.selects RX3 yX3_becomeZero yX3_becomeZero, Cond.code yX3_becomeZero cX3_becomeZero 1 none, Cond.fieldLink RX3 22 "SmallSpaces$Space" "pivots" "I", Cond.instanceMethod yX3_joinVector, Cond.selects RX3 yX3_joinVector yX3_joinVector, Cond.code yX3_joinVector cX3_joinVector 3 none, Cond.fieldLink RX3 15 "SmallSpaces$Space" "fresh" "[I", Cond.fieldLink RX3 18 "SmallSpaces$Space" "frame" "LSmallSpaces$Frame;", Cond.methodLink RX3 26 arraycopyName, Cond.native arraycopyName, Cond.static arraycopyName, Cond.initialized "java/lang/System", Cond.methodLink RX3 66 yX3_joinFresh, Cond.instanceMethod yX3_joinFresh, Cond.selects RX3 yX3_joinFresh yX3_joinFresh, Cond.code yX3_joinFresh cX3_joinFresh 4 none, Cond.fieldLink RX3 9 "SmallSpaces$Space" "cells" "[I", Cond.methodLink RX3 69 yX3_reduceFresh, Cond.instanceMethod yX3_reduceFresh]
def wsX2_columnSpace_r2 : List Cond := [Cond.selects RX3 yX3_reduceFresh yX3_reduceFresh, Cond.code yX3_reduceFresh cX3_reduceFresh 2 none, Cond.methodLink RX3 43 yX3_isPivot, Cond.instanceMethod yX3_isPivot, Cond.selects RX3 yX3_isPivot yX3_isPivot, Cond.code yX3_isPivot cX3_isPivot 2 (some .boolean), Cond.instanceMethod yX0_addMultiple, Cond.initialized RX0, Cond.selects RX0 yX0_addMultiple yX0_addMultiple, Cond.code yX0_addMultiple cX0_addMultiple 7 none, Cond.fieldLink RX0 17 "SmallSpaces$Frame" "n" "I", Cond.fieldLink RX0 13 "SmallSpaces$Frame" "q" "I", Cond.instanceMethod yX0_inverse, Cond.selects RX0 yX0_inverse yX0_inverse, Cond.code yX0_inverse cX0_inverse 2 (some .int), Cond.methodLink RX3 75 yX3_takeRow, Cond.instanceMethod yX3_takeRow, Cond.selects RX3 yX3_takeRow yX3_takeRow, Cond.code yX3_takeRow cX3_takeRow 4 none]
def wsX2_columnSpace : List Cond := .code yX2_columnSpace cX2_columnSpace 4 none :: ((wsX2_columnSpace_r1 ++ wsX2_columnSpace_r2) ++ wsX20 ++ wsX00 ++ wsX30)
def wsX3_rowNumber : List Cond := .code yX3_rowNumber cX3_rowNumber 4 (some .int) :: ([.fieldLink RX3 18 "SmallSpaces$Space" "frame" "LSmallSpaces$Frame;", .fieldLink RX3 9 "SmallSpaces$Space" "cells" "[I", .methodLink RX3 43 yX3_isPivot, .instanceMethod yX3_isPivot, .selects RX3 yX3_isPivot yX3_isPivot, .initialized RX3, .code yX3_isPivot cX3_isPivot 2 (some .boolean), .fieldLink RX3 22 "SmallSpaces$Space" "pivots" "I", .instanceMethod yX0_vectorNumber, .initialized RX0, .selects RX0 yX0_vectorNumber yX0_vectorNumber, .code yX0_vectorNumber cX0_vectorNumber 5 (some .int), .fieldLink RX0 17 "SmallSpaces$Frame" "n" "I", .fieldLink RX0 13 "SmallSpaces$Frame" "q" "I"] ++ wsX30 ++ wsX00)
def wsX3_liesIn : List Cond := .code yX3_liesIn cX3_liesIn 3 (some .boolean) :: ([.fieldLink RX3 18 "SmallSpaces$Space" "frame" "LSmallSpaces$Frame;", .fieldLink RX3 9 "SmallSpaces$Space" "cells" "[I", .methodLink RX3 43 yX3_isPivot, .instanceMethod yX3_isPivot, .selects RX3 yX3_isPivot yX3_isPivot, .initialized RX3, .code yX3_isPivot cX3_isPivot 2 (some .boolean), .fieldLink RX3 22 "SmallSpaces$Space" "pivots" "I", .methodLink RX3 58 yX3_holds, .instanceMethod yX3_holds, .selects RX3 yX3_holds yX3_holds, .code yX3_holds cX3_holds 4 (some .boolean), .methodLink RX3 51 yX3_settledFigure, .instanceMethod yX3_settledFigure, .selects RX3 yX3_settledFigure yX3_settledFigure, .code yX3_settledFigure cX3_settledFigure 6 (some .int)] ++ wsX30 ++ wsX00)
def wsX3_sameAs : List Cond := .code yX3_sameAs cX3_sameAs 2 (some .boolean) :: ([.fieldLink RX3 22 "SmallSpaces$Space" "pivots" "I", .methodLink RX3 62 yX3_liesIn, .instanceMethod yX3_liesIn, .selects RX3 yX3_liesIn yX3_liesIn, .initialized RX3, .code yX3_liesIn cX3_liesIn 3 (some .boolean), .fieldLink RX3 18 "SmallSpaces$Space" "frame" "LSmallSpaces$Frame;", .fieldLink RX3 9 "SmallSpaces$Space" "cells" "[I", .methodLink RX3 43 yX3_isPivot, .instanceMethod yX3_isPivot, .selects RX3 yX3_isPivot yX3_isPivot, .code yX3_isPivot cX3_isPivot 2 (some .boolean), .methodLink RX3 58 yX3_holds, .instanceMethod yX3_holds, .selects RX3 yX3_holds yX3_holds, .code yX3_holds cX3_holds 4 (some .boolean), .methodLink RX3 51 yX3_settledFigure, .instanceMethod yX3_settledFigure, .selects RX3 yX3_settledFigure yX3_settledFigure, .code yX3_settledFigure cX3_settledFigure 6 (some .int)] ++ wsX30 ++ wsX00)
def wsX3_becomeDual_r1 : List Cond := [Cond.fieldLink RX3 18 "SmallSpaces$Space" "frame" "LSmallSpaces$Frame;", Cond.fieldLink RX3 15 "SmallSpaces$Space" "fresh" "[I", Cond.fieldLink RX3 9 "SmallSpaces$Space" "cells" "[I", Cond.methodLink RX3 83 yX3_becomeZero, Cond.instanceMethod yX3_becomeZero, Cond.selects RX3 yX3_becomeZero yX3_becomeZero, Cond.initialized RX3, Cond.code yX3_becomeZero cX3_becomeZero 1 none, Cond.fieldLink RX3 22 "SmallSpaces$Space" "pivots" "I", Cond.methodLink RX3 43 yX3_isPivot, Cond.instanceMethod yX3_isPivot, Cond.selects RX3 yX3_isPivot yX3_isPivot, Cond.code yX3_isPivot cX3_isPivot 2 (some .boolean), Cond.methodLink RX3 86 yJ7_fill_53178, Cond.static yJ7_fill_53178, Cond.initialized RJ7, Cond.code yJ7_fill_53178 cJ7_fill_53178 4 none, Cond.methodLink RX3 66 yX3_joinFresh, Cond.instanceMethod yX3_joinFresh, Cond.selects RX3 yX3_joinFresh yX3_joinFresh, Cond.code yX3_joinFresh cX3_joinFresh 4 none, Cond.methodLink RX3 69 yX3_reduceFresh, Cond.instanceMethod yX3_reduceFresh, Cond.selects RX3 yX3_reduceFresh yX3_reduceFresh]
def wsX3_becomeDual_r2 : List Cond := [Cond.code yX3_reduceFresh cX3_reduceFresh 2 none, Cond.instanceMethod yX0_addMultiple, Cond.initialized RX0, Cond.selects RX0 yX0_addMultiple yX0_addMultiple, Cond.code yX0_addMultiple cX0_addMultiple 7 none, Cond.fieldLink RX0 17 "SmallSpaces$Frame" "n" "I", Cond.fieldLink RX0 13 "SmallSpaces$Frame" "q" "I", Cond.instanceMethod yX0_inverse, Cond.selects RX0 yX0_inverse yX0_inverse, Cond.code yX0_inverse cX0_inverse 2 (some .int), Cond.methodLink RX3 75 yX3_takeRow, Cond.instanceMethod yX3_takeRow, Cond.selects RX3 yX3_takeRow yX3_takeRow, Cond.code yX3_takeRow cX3_takeRow 4 none]
def wsX3_becomeDual : List Cond := .code yX3_becomeDual cX3_becomeDual 4 none :: ((wsX3_becomeDual_r1 ++ wsX3_becomeDual_r2) ++ wsX30 ++ wsX00)
def wsX3_freeCells : List Cond := .code yX3_freeCells cX3_freeCells 5 (some .int) :: ([.fieldLink RX3 18 "SmallSpaces$Space" "frame" "LSmallSpaces$Frame;"] ++ wsX30 ++ wsX00)
def wsX3_cellsValue : List Cond := .code yX3_cellsValue cX3_cellsValue 4 (some .int) :: ([.fieldLink RX3 18 "SmallSpaces$Space" "frame" "LSmallSpaces$Frame;", .fieldLink RX3 9 "SmallSpaces$Space" "cells" "[I", .methodLink RX3 43 yX3_isPivot, .instanceMethod yX3_isPivot, .selects RX3 yX3_isPivot yX3_isPivot, .initialized RX3, .code yX3_isPivot cX3_isPivot 2 (some .boolean), .fieldLink RX3 22 "SmallSpaces$Space" "pivots" "I"] ++ wsX30 ++ wsX00)
def wsX3_ordinal_r1 : List Cond := [Cond.fieldLink RX3 18 "SmallSpaces$Space" "frame" "LSmallSpaces$Frame;", Cond.fieldLink RX3 22 "SmallSpaces$Space" "pivots" "I", Cond.methodLink RX3 99 yX3_rank, Cond.instanceMethod yX3_rank, Cond.selects RX3 yX3_rank yX3_rank, Cond.initialized RX3, Cond.code yX3_rank cX3_rank 1 (some .int), Cond.methodLink RX3 32 yJ6_bitCount_0f7a4, Cond.static yJ6_bitCount_0f7a4, Cond.initialized RJ6, Cond.code yJ6_bitCount_0f7a4 cJ6_bitCount_0f7a4 1 (some .int), Cond.constant RJ6 265 (1431655765), Cond.constant RJ6 266 (858993459), Cond.constant RJ6 267 (252645135), Cond.methodLink RX3 103 yX3_freeCells, Cond.instanceMethod yX3_freeCells, Cond.selects RX3 yX3_freeCells yX3_freeCells, Cond.code yX3_freeCells cX3_freeCells 5 (some .int), Cond.instanceMethod yX0_power, Cond.initialized RX0, Cond.selects RX0 yX0_power yX0_power, Cond.code yX0_power cX0_power 4 (some .int), Cond.fieldLink RX0 13 "SmallSpaces$Frame" "q" "I", Cond.methodLink RX3 109 yX3_cellsValue]
def wsX3_ordinal_r2 : List Cond := [Cond.instanceMethod yX3_cellsValue, Cond.selects RX3 yX3_cellsValue yX3_cellsValue, Cond.code yX3_cellsValue cX3_cellsValue 4 (some .int), Cond.fieldLink RX3 9 "SmallSpaces$Space" "cells" "[I", Cond.methodLink RX3 43 yX3_isPivot, Cond.instanceMethod yX3_isPivot, Cond.selects RX3 yX3_isPivot yX3_isPivot, Cond.code yX3_isPivot cX3_isPivot 2 (some .boolean)]
def wsX3_ordinal : List Cond := .code yX3_ordinal cX3_ordinal 4 (some .int) :: ((wsX3_ordinal_r1 ++ wsX3_ordinal_r2) ++ wsX30 ++ wsX00)
def wsX3_fillCells : List Cond := .code yX3_fillCells cX3_fillCells 5 none :: ([.fieldLink RX3 9 "SmallSpaces$Space" "cells" "[I", .fieldLink RX3 18 "SmallSpaces$Space" "frame" "LSmallSpaces$Frame;", .methodLink RX3 86 yJ7_fill_53178, .static yJ7_fill_53178, .initialized RJ7, .code yJ7_fill_53178 cJ7_fill_53178 4 none, .methodLink RX3 43 yX3_isPivot, .instanceMethod yX3_isPivot, .selects RX3 yX3_isPivot yX3_isPivot, .initialized RX3, .code yX3_isPivot cX3_isPivot 2 (some .boolean), .fieldLink RX3 22 "SmallSpaces$Space" "pivots" "I"] ++ wsX30 ++ wsX00)
def wsX3_becomeOrdinal_r1 : List Cond := [Cond.fieldLink RX3 18 "SmallSpaces$Space" "frame" "LSmallSpaces$Frame;", Cond.fieldLink RX3 22 "SmallSpaces$Space" "pivots" "I", Cond.methodLink RX3 32 yJ6_bitCount_0f7a4, Cond.static yJ6_bitCount_0f7a4, Cond.initialized RJ6, Cond.code yJ6_bitCount_0f7a4 cJ6_bitCount_0f7a4 1 (some .int), Cond.constant RJ6 265 (1431655765), Cond.constant RJ6 266 (858993459), Cond.constant RJ6 267 (252645135), Cond.methodLink RX3 103 yX3_freeCells, Cond.instanceMethod yX3_freeCells, Cond.selects RX3 yX3_freeCells yX3_freeCells, Cond.initialized RX3, Cond.code yX3_freeCells cX3_freeCells 5 (some .int), Cond.instanceMethod yX0_power, Cond.initialized RX0, Cond.selects RX0 yX0_power yX0_power, Cond.code yX0_power cX0_power 4 (some .int), Cond.fieldLink RX0 13 "SmallSpaces$Frame" "q" "I", Cond.methodLink RX3 112 yX3_fillCells, Cond.instanceMethod yX3_fillCells, Cond.selects RX3 yX3_fillCells yX3_fillCells, Cond.code yX3_fillCells cX3_fillCells 5 none, Cond.fieldLink RX3 9 "SmallSpaces$Space" "cells" "[I"]
def wsX3_becomeOrdinal_r2 : List Cond := [Cond.methodLink RX3 86 yJ7_fill_53178, Cond.static yJ7_fill_53178, Cond.initialized RJ7, Cond.code yJ7_fill_53178 cJ7_fill_53178 4 none, Cond.methodLink RX3 43 yX3_isPivot, Cond.instanceMethod yX3_isPivot, Cond.selects RX3 yX3_isPivot yX3_isPivot, Cond.code yX3_isPivot cX3_isPivot 2 (some .boolean)]
def wsX3_becomeOrdinal : List Cond := .code yX3_becomeOrdinal cX3_becomeOrdinal 6 none :: ((wsX3_becomeOrdinal_r1 ++ wsX3_becomeOrdinal_r2) ++ wsX30 ++ wsX00)
def wsX4_init_r1 : List Cond := [Cond.methodLink RX4 1 objectInit, Cond.instanceMethod objectInit, Cond.code objectInit ⟨#[0xb1]⟩ 1 none, Cond.classLink RX4 7 RX0, Cond.instantiable RX0 3, Cond.initialized RX0, Cond.fieldLink RX4 10 "SmallSpaces" "frame" "LSmallSpaces$Frame;", Cond.classLink RX4 16 RX3, Cond.fieldLink RX4 18 "SmallSpaces" "slots" "[LSmallSpaces$Space;", Cond.instantiable RX3 4, Cond.initialized RX3, Cond.classLink RX4 25 RX1, Cond.instantiable RX1 3, Cond.initialized RX1, Cond.fieldLink RX4 28 "SmallSpaces" "heap" "LSmallSpaces$Heap;", Cond.classLink RX4 32 RX2, Cond.instantiable RX2 3, Cond.initialized RX2, Cond.fieldLink RX4 35 "SmallSpaces" "linear" "LSmallSpaces$Linear;", Cond.fieldLink RX4 39 "SmallSpaces" "made" "LSmallSpaces$Space;", Cond.fieldLink RX4 43 "SmallSpaces" "other" "LSmallSpaces$Space;", Cond.arrayClass .int, Cond.fieldLink RX4 46 "SmallSpaces" "figures" "[I", Cond.instanceMethod yX0_init]
def wsX4_init_r2 : List Cond := [Cond.code yX0_init cX0_init 1 none, Cond.methodLink RX0 1 objectInit, Cond.methodLink RX0 7 yX0_become, Cond.instanceMethod yX0_become, Cond.selects RX0 yX0_become yX0_become, Cond.code yX0_become cX0_become 3 none, Cond.fieldLink RX0 13 "SmallSpaces$Frame" "q" "I", Cond.fieldLink RX0 17 "SmallSpaces$Frame" "n" "I", Cond.fieldLink RX0 24 "SmallSpaces$Frame" "vectors" "I", Cond.methodLink RX0 20 yX0_power, Cond.instanceMethod yX0_power, Cond.selects RX0 yX0_power yX0_power, Cond.code yX0_power cX0_power 4 (some .int), Cond.instanceMethod yX3_init, Cond.code yX3_init cX3_init 2 none, Cond.methodLink RX3 3 objectInit, Cond.fieldLink RX3 9 "SmallSpaces$Space" "cells" "[I", Cond.fieldLink RX3 15 "SmallSpaces$Space" "fresh" "[I", Cond.fieldLink RX3 18 "SmallSpaces$Space" "frame" "LSmallSpaces$Frame;", Cond.instanceMethod yX1_init, Cond.code yX1_init cX1_init 3 none, Cond.methodLink RX1 3 objectInit, Cond.classLink RX1 9 RX3, Cond.fieldLink RX1 11 "SmallSpaces$Heap" "spaces" "[LSmallSpaces$Space;"]
def wsX4_init_r3 : List Cond := [Cond.fieldLink RX1 20 "SmallSpaces$Heap" "joined" "LSmallSpaces$Space;", Cond.instanceMethod yX2_init, Cond.code yX2_init cX2_init 2 none, Cond.methodLink RX2 3 objectInit, Cond.fieldLink RX2 9 "SmallSpaces$Linear" "cells" "[I", Cond.fieldLink RX2 15 "SmallSpaces$Linear" "result" "[I", Cond.fieldLink RX2 18 "SmallSpaces$Linear" "frame" "LSmallSpaces$Frame;", Cond.methodLink RX2 22 yX2_becomeIdentity, Cond.instanceMethod yX2_becomeIdentity, Cond.selects RX2 yX2_becomeIdentity yX2_becomeIdentity, Cond.code yX2_becomeIdentity cX2_becomeIdentity 2 none, Cond.methodLink RX2 25 yJ7_fill_53178, Cond.static yJ7_fill_53178, Cond.initialized RJ7, Cond.code yJ7_fill_53178 cJ7_fill_53178 4 none]
def wsX4_init : List Cond := .code yX4_init cX4_init 2 none :: ((wsX4_init_r1 ++ (wsX4_init_r2 ++ wsX4_init_r3)) ++ wsX00 ++ wsX40 ++ wsX30 ++ wsX10 ++ wsX20)
def wsX4_mostPlaces : List Cond := .code yX4_mostPlaces cX4_mostPlaces 1 (some .int) :: ([])
def wsX4_field_r1 : List Cond := [Cond.fieldLink RX4 10 "SmallSpaces" "frame" "LSmallSpaces$Frame;", Cond.fieldLink RX4 18 "SmallSpaces" "slots" "[LSmallSpaces$Space;", Cond.fieldLink RX4 28 "SmallSpaces" "heap" "LSmallSpaces$Heap;", Cond.fieldLink RX4 35 "SmallSpaces" "linear" "LSmallSpaces$Linear;", Cond.methodLink RX4 50 yX4_mostPlaces, Cond.static yX4_mostPlaces, Cond.initialized RX4, Cond.code yX4_mostPlaces cX4_mostPlaces 1 (some .int), Cond.instanceMethod yX0_become, Cond.initialized RX0, Cond.selects RX0 yX0_become yX0_become, Cond.code yX0_become cX0_become 3 none, Cond.fieldLink RX0 13 "SmallSpaces$Frame" "q" "I", Cond.fieldLink RX0 17 "SmallSpaces$Frame" "n" "I", Cond.fieldLink RX0 24 "SmallSpaces$Frame" "vectors" "I", Cond.methodLink RX0 20 yX0_power, Cond.instanceMethod yX0_power, Cond.selects RX0 yX0_power yX0_power, Cond.code yX0_power cX0_power 4 (some .int), Cond.instanceMethod yX3_becomeZero, Cond.initialized RX3, Cond.selects RX3 yX3_becomeZero yX3_becomeZero, Cond.code yX3_becomeZero cX3_becomeZero 1 none, Cond.fieldLink RX3 22 "SmallSpaces$Space" "pivots" "I"]
def wsX4_field_r2 : List Cond := [Cond.instanceMethod yX2_becomeIdentity, Cond.initialized RX2, Cond.selects RX2 yX2_becomeIdentity yX2_becomeIdentity, Cond.code yX2_becomeIdentity cX2_becomeIdentity 2 none, Cond.fieldLink RX2 9 "SmallSpaces$Linear" "cells" "[I", Cond.fieldLink RX2 18 "SmallSpaces$Linear" "frame" "LSmallSpaces$Frame;", Cond.methodLink RX2 25 yJ7_fill_53178, Cond.static yJ7_fill_53178, Cond.initialized RJ7, Cond.code yJ7_fill_53178 cJ7_fill_53178 4 none]
def wsX4_field : List Cond := .code yX4_field cX4_field 4 (some .int) :: ((wsX4_field_r1 ++ wsX4_field_r2) ++ wsX40 ++ wsX10 ++ wsX00 ++ wsX30 ++ wsX20)
def wsX4_plus : List Cond := .code yX4_plus cX4_plus 4 (some .int) :: ([.fieldLink RX4 10 "SmallSpaces" "frame" "LSmallSpaces$Frame;", .instanceMethod yX0_isVector, .initialized RX0, .selects RX0 yX0_isVector yX0_isVector, .code yX0_isVector cX0_isVector 2 (some .boolean), .fieldLink RX0 24 "SmallSpaces$Frame" "vectors" "I", .instanceMethod yX0_sum, .selects RX0 yX0_sum yX0_sum, .code yX0_sum cX0_sum 9 (some .int), .fieldLink RX0 17 "SmallSpaces$Frame" "n" "I", .fieldLink RX0 13 "SmallSpaces$Frame" "q" "I"] ++ wsX40 ++ wsX00)
def wsX4_times : List Cond := .code yX4_times cX4_times 3 (some .int) :: ([.fieldLink RX4 10 "SmallSpaces" "frame" "LSmallSpaces$Frame;", .instanceMethod yX0_isVector, .initialized RX0, .selects RX0 yX0_isVector yX0_isVector, .code yX0_isVector cX0_isVector 2 (some .boolean), .fieldLink RX0 24 "SmallSpaces$Frame" "vectors" "I", .instanceMethod yX0_product, .selects RX0 yX0_product yX0_product, .code yX0_product cX0_product 7 (some .int), .fieldLink RX0 17 "SmallSpaces$Frame" "n" "I", .fieldLink RX0 13 "SmallSpaces$Frame" "q" "I"] ++ wsX40 ++ wsX00)
def wsX4_isSlot : List Cond := .code yX4_isSlot cX4_isSlot 1 (some .boolean) :: ([])
def wsX4_add_r1 : List Cond := [Cond.fieldLink RX4 10 "SmallSpaces" "frame" "LSmallSpaces$Frame;", Cond.fieldLink RX4 46 "SmallSpaces" "figures" "[I", Cond.fieldLink RX4 18 "SmallSpaces" "slots" "[LSmallSpaces$Space;", Cond.methodLink RX4 86 yX4_isSlot, Cond.static yX4_isSlot, Cond.initialized RX4, Cond.code yX4_isSlot cX4_isSlot 1 (some .boolean), Cond.instanceMethod yX0_isVector, Cond.initialized RX0, Cond.selects RX0 yX0_isVector yX0_isVector, Cond.code yX0_isVector cX0_isVector 2 (some .boolean), Cond.fieldLink RX0 24 "SmallSpaces$Frame" "vectors" "I", Cond.instanceMethod yX0_spell, Cond.selects RX0 yX0_spell yX0_spell, Cond.code yX0_spell cX0_spell 6 none, Cond.fieldLink RX0 17 "SmallSpaces$Frame" "n" "I", Cond.fieldLink RX0 13 "SmallSpaces$Frame" "q" "I", Cond.instanceMethod yX3_joinVector, Cond.initialized RX3, Cond.selects RX3 yX3_joinVector yX3_joinVector, Cond.code yX3_joinVector cX3_joinVector 3 none, Cond.fieldLink RX3 15 "SmallSpaces$Space" "fresh" "[I", Cond.fieldLink RX3 18 "SmallSpaces$Space" "frame" "LSmallSpaces$Frame;", Cond.methodLink RX3 26 arraycopyName]
def wsX4_add_r2 : List Cond := [Cond.native arraycopyName, Cond.static arraycopyName, Cond.initialized "java/lang/System", Cond.methodLink RX3 66 yX3_joinFresh, Cond.instanceMethod yX3_joinFresh, Cond.selects RX3 yX3_joinFresh yX3_joinFresh, Cond.code yX3_joinFresh cX3_joinFresh 4 none, Cond.fieldLink RX3 9 "SmallSpaces$Space" "cells" "[I", Cond.methodLink RX3 69 yX3_reduceFresh, Cond.instanceMethod yX3_reduceFresh, Cond.selects RX3 yX3_reduceFresh yX3_reduceFresh, Cond.code yX3_reduceFresh cX3_reduceFresh 2 none, Cond.methodLink RX3 43 yX3_isPivot, Cond.instanceMethod yX3_isPivot, Cond.selects RX3 yX3_isPivot yX3_isPivot, Cond.code yX3_isPivot cX3_isPivot 2 (some .boolean), Cond.fieldLink RX3 22 "SmallSpaces$Space" "pivots" "I", Cond.instanceMethod yX0_addMultiple, Cond.selects RX0 yX0_addMultiple yX0_addMultiple, Cond.code yX0_addMultiple cX0_addMultiple 7 none, Cond.instanceMethod yX0_inverse, Cond.selects RX0 yX0_inverse yX0_inverse, Cond.code yX0_inverse cX0_inverse 2 (some .int), Cond.methodLink RX3 75 yX3_takeRow]
def wsX4_add_r3 : List Cond := [Cond.instanceMethod yX3_takeRow, Cond.selects RX3 yX3_takeRow yX3_takeRow, Cond.code yX3_takeRow cX3_takeRow 4 none, Cond.instanceMethod yX3_rank, Cond.selects RX3 yX3_rank yX3_rank, Cond.code yX3_rank cX3_rank 1 (some .int), Cond.methodLink RX3 32 yJ6_bitCount_0f7a4, Cond.static yJ6_bitCount_0f7a4, Cond.initialized RJ6, Cond.code yJ6_bitCount_0f7a4 cJ6_bitCount_0f7a4 1 (some .int), Cond.constant RJ6 265 (1431655765), Cond.constant RJ6 266 (858993459), Cond.constant RJ6 267 (252645135)]
def wsX4_add : List Cond := .code yX4_add cX4_add 3 (some .int) :: ((wsX4_add_r1 ++ (wsX4_add_r2 ++ wsX4_add_r3)) ++ wsX40 ++ wsX00 ++ wsX30)
def wsX4_clear : List Cond := .code yX4_clear cX4_clear 3 (some .int) :: ([.fieldLink RX4 18 "SmallSpaces" "slots" "[LSmallSpaces$Space;", .methodLink RX4 86 yX4_isSlot, .static yX4_isSlot, .initialized RX4, .code yX4_isSlot cX4_isSlot 1 (some .boolean), .instanceMethod yX3_rank, .initialized RX3, .selects RX3 yX3_rank yX3_rank, .code yX3_rank cX3_rank 1 (some .int), .fieldLink RX3 22 "SmallSpaces$Space" "pivots" "I", .methodLink RX3 32 yJ6_bitCount_0f7a4, .static yJ6_bitCount_0f7a4, .initialized RJ6, .code yJ6_bitCount_0f7a4 cJ6_bitCount_0f7a4 1 (some .int), .constant RJ6 265 (1431655765), .constant RJ6 266 (858993459), .constant RJ6 267 (252645135), .instanceMethod yX3_becomeZero, .selects RX3 yX3_becomeZero yX3_becomeZero, .code yX3_becomeZero cX3_becomeZero 1 none] ++ wsX40 ++ wsX30)
def wsX4_dim : List Cond := .code yX4_dim cX4_dim 2 (some .int) :: ([.fieldLink RX4 18 "SmallSpaces" "slots" "[LSmallSpaces$Space;", .methodLink RX4 86 yX4_isSlot, .static yX4_isSlot, .initialized RX4, .code yX4_isSlot cX4_isSlot 1 (some .boolean), .instanceMethod yX3_rank, .initialized RX3, .selects RX3 yX3_rank yX3_rank, .code yX3_rank cX3_rank 1 (some .int), .fieldLink RX3 22 "SmallSpaces$Space" "pivots" "I", .methodLink RX3 32 yJ6_bitCount_0f7a4, .static yJ6_bitCount_0f7a4, .initialized RJ6, .code yJ6_bitCount_0f7a4 cJ6_bitCount_0f7a4 1 (some .int), .constant RJ6 265 (1431655765), .constant RJ6 266 (858993459), .constant RJ6 267 (252645135)] ++ wsX40 ++ wsX30)
def wsX4_row : List Cond := .code yX4_row cX4_row 3 (some .int) :: ([.fieldLink RX4 18 "SmallSpaces" "slots" "[LSmallSpaces$Space;", .methodLink RX4 86 yX4_isSlot, .static yX4_isSlot, .initialized RX4, .code yX4_isSlot cX4_isSlot 1 (some .boolean), .instanceMethod yX3_rowNumber, .initialized RX3, .selects RX3 yX3_rowNumber yX3_rowNumber, .code yX3_rowNumber cX3_rowNumber 4 (some .int), .fieldLink RX3 18 "SmallSpaces$Space" "frame" "LSmallSpaces$Frame;", .fieldLink RX3 9 "SmallSpaces$Space" "cells" "[I", .methodLink RX3 43 yX3_isPivot, .instanceMethod yX3_isPivot, .selects RX3 yX3_isPivot yX3_isPivot, .code yX3_isPivot cX3_isPivot 2 (some .boolean), .fieldLink RX3 22 "SmallSpaces$Space" "pivots" "I", .instanceMethod yX0_vectorNumber, .initialized RX0, .selects RX0 yX0_vectorNumber yX0_vectorNumber, .code yX0_vectorNumber cX0_vectorNumber 5 (some .int), .fieldLink RX0 17 "SmallSpaces$Frame" "n" "I", .fieldLink RX0 13 "SmallSpaces$Frame" "q" "I"] ++ wsX40 ++ wsX30 ++ wsX00)
def wsX4_settle : List Cond := .code yX4_settle cX4_settle 3 (some .int) :: ([.fieldLink RX4 18 "SmallSpaces" "slots" "[LSmallSpaces$Space;", .instanceMethod yX3_copyFrom, .initialized RX3, .selects RX3 yX3_copyFrom yX3_copyFrom, .code yX3_copyFrom cX3_copyFrom 2 none, .fieldLink RX3 22 "SmallSpaces$Space" "pivots" "I", .fieldLink RX3 9 "SmallSpaces$Space" "cells" "[I", .methodLink RX3 26 arraycopyName, .native arraycopyName, .static arraycopyName, .initialized "java/lang/System", .instanceMethod yX3_rank, .selects RX3 yX3_rank yX3_rank, .code yX3_rank cX3_rank 1 (some .int), .methodLink RX3 32 yJ6_bitCount_0f7a4, .static yJ6_bitCount_0f7a4, .initialized RJ6, .code yJ6_bitCount_0f7a4 cJ6_bitCount_0f7a4 1 (some .int), .constant RJ6 265 (1431655765), .constant RJ6 266 (858993459), .constant RJ6 267 (252645135)] ++ wsX40 ++ wsX30)
def wsX4_join_r1 : List Cond := [Cond.fieldLink RX4 39 "SmallSpaces" "made" "LSmallSpaces$Space;", Cond.fieldLink RX4 18 "SmallSpaces" "slots" "[LSmallSpaces$Space;", Cond.methodLink RX4 86 yX4_isSlot, Cond.static yX4_isSlot, Cond.initialized RX4, Cond.code yX4_isSlot cX4_isSlot 1 (some .boolean), Cond.instanceMethod yX3_copyFrom, Cond.initialized RX3, Cond.selects RX3 yX3_copyFrom yX3_copyFrom, Cond.code yX3_copyFrom cX3_copyFrom 2 none, Cond.fieldLink RX3 22 "SmallSpaces$Space" "pivots" "I", Cond.fieldLink RX3 9 "SmallSpaces$Space" "cells" "[I", Cond.methodLink RX3 26 arraycopyName, Cond.native arraycopyName, Cond.static arraycopyName, Cond.initialized "java/lang/System", Cond.instanceMethod yX3_joinSpace, Cond.selects RX3 yX3_joinSpace yX3_joinSpace, Cond.code yX3_joinSpace cX3_joinSpace 3 none, Cond.fieldLink RX3 18 "SmallSpaces$Space" "frame" "LSmallSpaces$Frame;", Cond.fieldLink RX3 15 "SmallSpaces$Space" "fresh" "[I", Cond.methodLink RX3 43 yX3_isPivot, Cond.instanceMethod yX3_isPivot, Cond.selects RX3 yX3_isPivot yX3_isPivot]
def wsX4_join_r2 : List Cond := [Cond.code yX3_isPivot cX3_isPivot 2 (some .boolean), Cond.methodLink RX3 66 yX3_joinFresh, Cond.instanceMethod yX3_joinFresh, Cond.selects RX3 yX3_joinFresh yX3_joinFresh, Cond.code yX3_joinFresh cX3_joinFresh 4 none, Cond.methodLink RX3 69 yX3_reduceFresh, Cond.instanceMethod yX3_reduceFresh, Cond.selects RX3 yX3_reduceFresh yX3_reduceFresh, Cond.code yX3_reduceFresh cX3_reduceFresh 2 none, Cond.instanceMethod yX0_addMultiple, Cond.initialized RX0, Cond.selects RX0 yX0_addMultiple yX0_addMultiple, Cond.code yX0_addMultiple cX0_addMultiple 7 none, Cond.fieldLink RX0 17 "SmallSpaces$Frame" "n" "I", Cond.fieldLink RX0 13 "SmallSpaces$Frame" "q" "I", Cond.instanceMethod yX0_inverse, Cond.selects RX0 yX0_inverse yX0_inverse, Cond.code yX0_inverse cX0_inverse 2 (some .int), Cond.methodLink RX3 75 yX3_takeRow, Cond.instanceMethod yX3_takeRow, Cond.selects RX3 yX3_takeRow yX3_takeRow, Cond.code yX3_takeRow cX3_takeRow 4 none, Cond.methodLink RX4 111 yX4_settle, Cond.instanceMethod yX4_settle]
def wsX4_join_r3 : List Cond := [Cond.selects RX4 yX4_settle yX4_settle, Cond.code yX4_settle cX4_settle 3 (some .int), Cond.instanceMethod yX3_rank, Cond.selects RX3 yX3_rank yX3_rank, Cond.code yX3_rank cX3_rank 1 (some .int), Cond.methodLink RX3 32 yJ6_bitCount_0f7a4, Cond.static yJ6_bitCount_0f7a4, Cond.initialized RJ6, Cond.code yJ6_bitCount_0f7a4 cJ6_bitCount_0f7a4 1 (some .int), Cond.constant RJ6 265 (1431655765), Cond.constant RJ6 266 (858993459), Cond.constant RJ6 267 (252645135)]
def wsX4_join : List Cond := .code yX4_join cX4_join 4 (some .int) :: ((wsX4_join_r1 ++ (wsX4_join_r2 ++ wsX4_join_r3)) ++ wsX40 ++ wsX30 ++ wsX00)
def wsX4_meet_r1 : List Cond := [Cond.fieldLink RX4 39 "SmallSpaces" "made" "LSmallSpaces$Space;", Cond.fieldLink RX4 18 "SmallSpaces" "slots" "[LSmallSpaces$Space;", Cond.fieldLink RX4 43 "SmallSpaces" "other" "LSmallSpaces$Space;", Cond.methodLink RX4 86 yX4_isSlot, Cond.static yX4_isSlot, Cond.initialized RX4, Cond.code yX4_isSlot cX4_isSlot 1 (some .boolean), Cond.instanceMethod yX3_becomeDual, Cond.initialized RX3, Cond.selects RX3 yX3_becomeDual yX3_becomeDual, Cond.code yX3_becomeDual cX3_becomeDual 4 none, Cond.fieldLink RX3 18 "SmallSpaces$Space" "frame" "LSmallSpaces$Frame;", Cond.fieldLink RX3 15 "SmallSpaces$Space" "fresh" "[I", Cond.fieldLink RX3 9 "SmallSpaces$Space" "cells" "[I", Cond.methodLink RX3 83 yX3_becomeZero, Cond.instanceMethod yX3_becomeZero, Cond.selects RX3 yX3_becomeZero yX3_becomeZero, Cond.code yX3_becomeZero cX3_becomeZero 1 none, Cond.fieldLink RX3 22 "SmallSpaces$Space" "pivots" "I", Cond.methodLink RX3 43 yX3_isPivot, Cond.instanceMethod yX3_isPivot, Cond.selects RX3 yX3_isPivot yX3_isPivot, Cond.code yX3_isPivot cX3_isPivot 2 (some .boolean), Cond.methodLink RX3 86 yJ7_fill_53178]
def wsX4_meet_r2 : List Cond := [Cond.static yJ7_fill_53178, Cond.initialized RJ7, Cond.code yJ7_fill_53178 cJ7_fill_53178 4 none, Cond.methodLink RX3 66 yX3_joinFresh, Cond.instanceMethod yX3_joinFresh, Cond.selects RX3 yX3_joinFresh yX3_joinFresh, Cond.code yX3_joinFresh cX3_joinFresh 4 none, Cond.methodLink RX3 69 yX3_reduceFresh, Cond.instanceMethod yX3_reduceFresh, Cond.selects RX3 yX3_reduceFresh yX3_reduceFresh, Cond.code yX3_reduceFresh cX3_reduceFresh 2 none, Cond.instanceMethod yX0_addMultiple, Cond.initialized RX0, Cond.selects RX0 yX0_addMultiple yX0_addMultiple, Cond.code yX0_addMultiple cX0_addMultiple 7 none, Cond.fieldLink RX0 17 "SmallSpaces$Frame" "n" "I", Cond.fieldLink RX0 13 "SmallSpaces$Frame" "q" "I", Cond.instanceMethod yX0_inverse, Cond.selects RX0 yX0_inverse yX0_inverse, Cond.code yX0_inverse cX0_inverse 2 (some .int), Cond.methodLink RX3 75 yX3_takeRow, Cond.instanceMethod yX3_takeRow, Cond.selects RX3 yX3_takeRow yX3_takeRow, Cond.code yX3_takeRow cX3_takeRow 4 none]
def wsX4_meet_r3 : List Cond := [Cond.instanceMethod yX3_joinSpace, Cond.selects RX3 yX3_joinSpace yX3_joinSpace, Cond.code yX3_joinSpace cX3_joinSpace 3 none, Cond.methodLink RX3 26 arraycopyName, Cond.native arraycopyName, Cond.static arraycopyName, Cond.initialized "java/lang/System", Cond.methodLink RX4 111 yX4_settle, Cond.instanceMethod yX4_settle, Cond.selects RX4 yX4_settle yX4_settle, Cond.code yX4_settle cX4_settle 3 (some .int), Cond.instanceMethod yX3_copyFrom, Cond.selects RX3 yX3_copyFrom yX3_copyFrom, Cond.code yX3_copyFrom cX3_copyFrom 2 none, Cond.instanceMethod yX3_rank, Cond.selects RX3 yX3_rank yX3_rank, Cond.code yX3_rank cX3_rank 1 (some .int), Cond.methodLink RX3 32 yJ6_bitCount_0f7a4, Cond.static yJ6_bitCount_0f7a4, Cond.initialized RJ6, Cond.code yJ6_bitCount_0f7a4 cJ6_bitCount_0f7a4 1 (some .int), Cond.constant RJ6 265 (1431655765), Cond.constant RJ6 266 (858993459), Cond.constant RJ6 267 (252645135)]
def wsX4_meet : List Cond := .code yX4_meet cX4_meet 4 (some .int) :: ((wsX4_meet_r1 ++ (wsX4_meet_r2 ++ wsX4_meet_r3)) ++ wsX40 ++ wsX30 ++ wsX00)
def wsX4_dual_r1 : List Cond := [Cond.fieldLink RX4 39 "SmallSpaces" "made" "LSmallSpaces$Space;", Cond.fieldLink RX4 18 "SmallSpaces" "slots" "[LSmallSpaces$Space;", Cond.methodLink RX4 86 yX4_isSlot, Cond.static yX4_isSlot, Cond.initialized RX4, Cond.code yX4_isSlot cX4_isSlot 1 (some .boolean), Cond.instanceMethod yX3_becomeDual, Cond.initialized RX3, Cond.selects RX3 yX3_becomeDual yX3_becomeDual, Cond.code yX3_becomeDual cX3_becomeDual 4 none, Cond.fieldLink RX3 18 "SmallSpaces$Space" "frame" "LSmallSpaces$Frame;", Cond.fieldLink RX3 15 "SmallSpaces$Space" "fresh" "[I", Cond.fieldLink RX3 9 "SmallSpaces$Space" "cells" "[I", Cond.methodLink RX3 83 yX3_becomeZero, Cond.instanceMethod yX3_becomeZero, Cond.selects RX3 yX3_becomeZero yX3_becomeZero, Cond.code yX3_becomeZero cX3_becomeZero 1 none, Cond.fieldLink RX3 22 "SmallSpaces$Space" "pivots" "I", Cond.methodLink RX3 43 yX3_isPivot, Cond.instanceMethod yX3_isPivot, Cond.selects RX3 yX3_isPivot yX3_isPivot, Cond.code yX3_isPivot cX3_isPivot 2 (some .boolean), Cond.methodLink RX3 86 yJ7_fill_53178, Cond.static yJ7_fill_53178]
def wsX4_dual_r2 : List Cond := [Cond.initialized RJ7, Cond.code yJ7_fill_53178 cJ7_fill_53178 4 none, Cond.methodLink RX3 66 yX3_joinFresh, Cond.instanceMethod yX3_joinFresh, Cond.selects RX3 yX3_joinFresh yX3_joinFresh, Cond.code yX3_joinFresh cX3_joinFresh 4 none, Cond.methodLink RX3 69 yX3_reduceFresh, Cond.instanceMethod yX3_reduceFresh, Cond.selects RX3 yX3_reduceFresh yX3_reduceFresh, Cond.code yX3_reduceFresh cX3_reduceFresh 2 none, Cond.instanceMethod yX0_addMultiple, Cond.initialized RX0, Cond.selects RX0 yX0_addMultiple yX0_addMultiple, Cond.code yX0_addMultiple cX0_addMultiple 7 none, Cond.fieldLink RX0 17 "SmallSpaces$Frame" "n" "I", Cond.fieldLink RX0 13 "SmallSpaces$Frame" "q" "I", Cond.instanceMethod yX0_inverse, Cond.selects RX0 yX0_inverse yX0_inverse, Cond.code yX0_inverse cX0_inverse 2 (some .int), Cond.methodLink RX3 75 yX3_takeRow, Cond.instanceMethod yX3_takeRow, Cond.selects RX3 yX3_takeRow yX3_takeRow, Cond.code yX3_takeRow cX3_takeRow 4 none, Cond.methodLink RX4 111 yX4_settle]
def wsX4_dual_r3 : List Cond := [Cond.instanceMethod yX4_settle, Cond.selects RX4 yX4_settle yX4_settle, Cond.code yX4_settle cX4_settle 3 (some .int), Cond.instanceMethod yX3_copyFrom, Cond.selects RX3 yX3_copyFrom yX3_copyFrom, Cond.code yX3_copyFrom cX3_copyFrom 2 none, Cond.methodLink RX3 26 arraycopyName, Cond.native arraycopyName, Cond.static arraycopyName, Cond.initialized "java/lang/System", Cond.instanceMethod yX3_rank, Cond.selects RX3 yX3_rank yX3_rank, Cond.code yX3_rank cX3_rank 1 (some .int), Cond.methodLink RX3 32 yJ6_bitCount_0f7a4, Cond.static yJ6_bitCount_0f7a4, Cond.initialized RJ6, Cond.code yJ6_bitCount_0f7a4 cJ6_bitCount_0f7a4 1 (some .int), Cond.constant RJ6 265 (1431655765), Cond.constant RJ6 266 (858993459), Cond.constant RJ6 267 (252645135)]
def wsX4_dual : List Cond := .code yX4_dual cX4_dual 3 (some .int) :: ((wsX4_dual_r1 ++ (wsX4_dual_r2 ++ wsX4_dual_r3)) ++ wsX40 ++ wsX30 ++ wsX00)
def wsX4_has_r1 : List Cond := [Cond.fieldLink RX4 10 "SmallSpaces" "frame" "LSmallSpaces$Frame;", Cond.fieldLink RX4 46 "SmallSpaces" "figures" "[I", Cond.fieldLink RX4 18 "SmallSpaces" "slots" "[LSmallSpaces$Space;", Cond.methodLink RX4 86 yX4_isSlot, Cond.static yX4_isSlot, Cond.initialized RX4, Cond.code yX4_isSlot cX4_isSlot 1 (some .boolean), Cond.instanceMethod yX0_isVector, Cond.initialized RX0, Cond.selects RX0 yX0_isVector yX0_isVector, Cond.code yX0_isVector cX0_isVector 2 (some .boolean), Cond.fieldLink RX0 24 "SmallSpaces$Frame" "vectors" "I", Cond.instanceMethod yX0_spell, Cond.selects RX0 yX0_spell yX0_spell, Cond.code yX0_spell cX0_spell 6 none, Cond.fieldLink RX0 17 "SmallSpaces$Frame" "n" "I", Cond.fieldLink RX0 13 "SmallSpaces$Frame" "q" "I", Cond.instanceMethod yX3_holds, Cond.initialized RX3, Cond.selects RX3 yX3_holds yX3_holds, Cond.code yX3_holds cX3_holds 4 (some .boolean), Cond.fieldLink RX3 18 "SmallSpaces$Space" "frame" "LSmallSpaces$Frame;", Cond.methodLink RX3 43 yX3_isPivot, Cond.instanceMethod yX3_isPivot]
def wsX4_has_r2 : List Cond := [Cond.selects RX3 yX3_isPivot yX3_isPivot, Cond.code yX3_isPivot cX3_isPivot 2 (some .boolean), Cond.fieldLink RX3 22 "SmallSpaces$Space" "pivots" "I", Cond.methodLink RX3 51 yX3_settledFigure, Cond.instanceMethod yX3_settledFigure, Cond.selects RX3 yX3_settledFigure yX3_settledFigure, Cond.code yX3_settledFigure cX3_settledFigure 6 (some .int), Cond.fieldLink RX3 9 "SmallSpaces$Space" "cells" "[I"]
def wsX4_has : List Cond := .code yX4_has cX4_has 3 (some .int) :: ((wsX4_has_r1 ++ wsX4_has_r2) ++ wsX40 ++ wsX00 ++ wsX30)
def wsX4_within : List Cond := .code yX4_within cX4_within 3 (some .int) :: ([.fieldLink RX4 18 "SmallSpaces" "slots" "[LSmallSpaces$Space;", .methodLink RX4 86 yX4_isSlot, .static yX4_isSlot, .initialized RX4, .code yX4_isSlot cX4_isSlot 1 (some .boolean), .instanceMethod yX3_liesIn, .initialized RX3, .selects RX3 yX3_liesIn yX3_liesIn, .code yX3_liesIn cX3_liesIn 3 (some .boolean), .fieldLink RX3 18 "SmallSpaces$Space" "frame" "LSmallSpaces$Frame;", .fieldLink RX3 9 "SmallSpaces$Space" "cells" "[I", .methodLink RX3 43 yX3_isPivot, .instanceMethod yX3_isPivot, .selects RX3 yX3_isPivot yX3_isPivot, .code yX3_isPivot cX3_isPivot 2 (some .boolean), .fieldLink RX3 22 "SmallSpaces$Space" "pivots" "I", .methodLink RX3 58 yX3_holds, .instanceMethod yX3_holds, .selects RX3 yX3_holds yX3_holds, .code yX3_holds cX3_holds 4 (some .boolean), .methodLink RX3 51 yX3_settledFigure, .instanceMethod yX3_settledFigure, .selects RX3 yX3_settledFigure yX3_settledFigure, .code yX3_settledFigure cX3_settledFigure 6 (some .int)] ++ wsX40 ++ wsX30 ++ wsX00)
def wsX4_apart_r1 : List Cond := [Cond.fieldLink RX4 39 "SmallSpaces" "made" "LSmallSpaces$Space;", Cond.fieldLink RX4 18 "SmallSpaces" "slots" "[LSmallSpaces$Space;", Cond.methodLink RX4 86 yX4_isSlot, Cond.static yX4_isSlot, Cond.initialized RX4, Cond.code yX4_isSlot cX4_isSlot 1 (some .boolean), Cond.instanceMethod yX3_distance, Cond.initialized RX3, Cond.selects RX3 yX3_distance yX3_distance, Cond.code yX3_distance cX3_distance 3 (some .int), Cond.methodLink RX3 92 yX3_copyFrom, Cond.instanceMethod yX3_copyFrom, Cond.selects RX3 yX3_copyFrom yX3_copyFrom, Cond.code yX3_copyFrom cX3_copyFrom 2 none, Cond.fieldLink RX3 22 "SmallSpaces$Space" "pivots" "I", Cond.fieldLink RX3 9 "SmallSpaces$Space" "cells" "[I", Cond.methodLink RX3 26 arraycopyName, Cond.native arraycopyName, Cond.static arraycopyName, Cond.initialized "java/lang/System", Cond.methodLink RX3 96 yX3_joinSpace, Cond.instanceMethod yX3_joinSpace, Cond.selects RX3 yX3_joinSpace yX3_joinSpace, Cond.code yX3_joinSpace cX3_joinSpace 3 none]
def wsX4_apart_r2 : List Cond := [Cond.fieldLink RX3 18 "SmallSpaces$Space" "frame" "LSmallSpaces$Frame;", Cond.fieldLink RX3 15 "SmallSpaces$Space" "fresh" "[I", Cond.methodLink RX3 43 yX3_isPivot, Cond.instanceMethod yX3_isPivot, Cond.selects RX3 yX3_isPivot yX3_isPivot, Cond.code yX3_isPivot cX3_isPivot 2 (some .boolean), Cond.methodLink RX3 66 yX3_joinFresh, Cond.instanceMethod yX3_joinFresh, Cond.selects RX3 yX3_joinFresh yX3_joinFresh, Cond.code yX3_joinFresh cX3_joinFresh 4 none, Cond.methodLink RX3 69 yX3_reduceFresh, Cond.instanceMethod yX3_reduceFresh, Cond.selects RX3 yX3_reduceFresh yX3_reduceFresh, Cond.code yX3_reduceFresh cX3_reduceFresh 2 none, Cond.instanceMethod yX0_addMultiple, Cond.initialized RX0, Cond.selects RX0 yX0_addMultiple yX0_addMultiple, Cond.code yX0_addMultiple cX0_addMultiple 7 none, Cond.fieldLink RX0 17 "SmallSpaces$Frame" "n" "I", Cond.fieldLink RX0 13 "SmallSpaces$Frame" "q" "I", Cond.instanceMethod yX0_inverse, Cond.selects RX0 yX0_inverse yX0_inverse, Cond.code yX0_inverse cX0_inverse 2 (some .int), Cond.methodLink RX3 75 yX3_takeRow]
def wsX4_apart_r3 : List Cond := [Cond.instanceMethod yX3_takeRow, Cond.selects RX3 yX3_takeRow yX3_takeRow, Cond.code yX3_takeRow cX3_takeRow 4 none, Cond.methodLink RX3 99 yX3_rank, Cond.instanceMethod yX3_rank, Cond.selects RX3 yX3_rank yX3_rank, Cond.code yX3_rank cX3_rank 1 (some .int), Cond.methodLink RX3 32 yJ6_bitCount_0f7a4, Cond.static yJ6_bitCount_0f7a4, Cond.initialized RJ6, Cond.code yJ6_bitCount_0f7a4 cJ6_bitCount_0f7a4 1 (some .int), Cond.constant RJ6 265 (1431655765), Cond.constant RJ6 266 (858993459), Cond.constant RJ6 267 (252645135)]
def wsX4_apart : List Cond := .code yX4_apart cX4_apart 3 (some .int) :: ((wsX4_apart_r1 ++ (wsX4_apart_r2 ++ wsX4_apart_r3)) ++ wsX40 ++ wsX30 ++ wsX00)
def wsX4_number_r1 : List Cond := [Cond.fieldLink RX4 18 "SmallSpaces" "slots" "[LSmallSpaces$Space;", Cond.methodLink RX4 86 yX4_isSlot, Cond.static yX4_isSlot, Cond.initialized RX4, Cond.code yX4_isSlot cX4_isSlot 1 (some .boolean), Cond.instanceMethod yX3_ordinal, Cond.initialized RX3, Cond.selects RX3 yX3_ordinal yX3_ordinal, Cond.code yX3_ordinal cX3_ordinal 4 (some .int), Cond.fieldLink RX3 18 "SmallSpaces$Space" "frame" "LSmallSpaces$Frame;", Cond.fieldLink RX3 22 "SmallSpaces$Space" "pivots" "I", Cond.methodLink RX3 99 yX3_rank, Cond.instanceMethod yX3_rank, Cond.selects RX3 yX3_rank yX3_rank, Cond.code yX3_rank cX3_rank 1 (some .int), Cond.methodLink RX3 32 yJ6_bitCount_0f7a4, Cond.static yJ6_bitCount_0f7a4, Cond.initialized RJ6, Cond.code yJ6_bitCount_0f7a4 cJ6_bitCount_0f7a4 1 (some .int), Cond.constant RJ6 265 (1431655765), Cond.constant RJ6 266 (858993459), Cond.constant RJ6 267 (252645135), Cond.methodLink RX3 103 yX3_freeCells, Cond.instanceMethod yX3_freeCells]
def wsX4_number_r2 : List Cond := [Cond.selects RX3 yX3_freeCells yX3_freeCells, Cond.code yX3_freeCells cX3_freeCells 5 (some .int), Cond.instanceMethod yX0_power, Cond.initialized RX0, Cond.selects RX0 yX0_power yX0_power, Cond.code yX0_power cX0_power 4 (some .int), Cond.fieldLink RX0 13 "SmallSpaces$Frame" "q" "I", Cond.methodLink RX3 109 yX3_cellsValue, Cond.instanceMethod yX3_cellsValue, Cond.selects RX3 yX3_cellsValue yX3_cellsValue, Cond.code yX3_cellsValue cX3_cellsValue 4 (some .int), Cond.fieldLink RX3 9 "SmallSpaces$Space" "cells" "[I", Cond.methodLink RX3 43 yX3_isPivot, Cond.instanceMethod yX3_isPivot, Cond.selects RX3 yX3_isPivot yX3_isPivot, Cond.code yX3_isPivot cX3_isPivot 2 (some .boolean)]
def wsX4_number : List Cond := .code yX4_number cX4_number 2 (some .int) :: ((wsX4_number_r1 ++ wsX4_number_r2) ++ wsX40 ++ wsX30 ++ wsX00)
def wsX4_isDim : List Cond := .code yX4_isDim cX4_isDim 2 (some .boolean) :: ([.fieldLink RX4 10 "SmallSpaces" "frame" "LSmallSpaces$Frame;"] ++ wsX40 ++ wsX00)
def wsX4_numbered_r1 : List Cond := [Cond.fieldLink RX4 10 "SmallSpaces" "frame" "LSmallSpaces$Frame;", Cond.fieldLink RX4 18 "SmallSpaces" "slots" "[LSmallSpaces$Space;", Cond.methodLink RX4 86 yX4_isSlot, Cond.static yX4_isSlot, Cond.initialized RX4, Cond.code yX4_isSlot cX4_isSlot 1 (some .boolean), Cond.methodLink RX4 133 yX4_isDim, Cond.instanceMethod yX4_isDim, Cond.selects RX4 yX4_isDim yX4_isDim, Cond.code yX4_isDim cX4_isDim 2 (some .boolean), Cond.instanceMethod yX0_spaces, Cond.initialized RX0, Cond.selects RX0 yX0_spaces yX0_spaces, Cond.code yX0_spaces cX0_spaces 5 (some .int), Cond.methodLink RX0 20 yX0_power, Cond.instanceMethod yX0_power, Cond.selects RX0 yX0_power yX0_power, Cond.code yX0_power cX0_power 4 (some .int), Cond.fieldLink RX0 13 "SmallSpaces$Frame" "q" "I", Cond.instanceMethod yX3_becomeOrdinal, Cond.initialized RX3, Cond.selects RX3 yX3_becomeOrdinal yX3_becomeOrdinal, Cond.code yX3_becomeOrdinal cX3_becomeOrdinal 6 none, Cond.fieldLink RX3 18 "SmallSpaces$Space" "frame" "LSmallSpaces$Frame;"]
def wsX4_numbered_r2 : List Cond := [Cond.fieldLink RX3 22 "SmallSpaces$Space" "pivots" "I", Cond.methodLink RX3 32 yJ6_bitCount_0f7a4, Cond.static yJ6_bitCount_0f7a4, Cond.initialized RJ6, Cond.code yJ6_bitCount_0f7a4 cJ6_bitCount_0f7a4 1 (some .int), Cond.constant RJ6 265 (1431655765), Cond.constant RJ6 266 (858993459), Cond.constant RJ6 267 (252645135), Cond.methodLink RX3 103 yX3_freeCells, Cond.instanceMethod yX3_freeCells, Cond.selects RX3 yX3_freeCells yX3_freeCells, Cond.code yX3_freeCells cX3_freeCells 5 (some .int), Cond.methodLink RX3 112 yX3_fillCells, Cond.instanceMethod yX3_fillCells, Cond.selects RX3 yX3_fillCells yX3_fillCells, Cond.code yX3_fillCells cX3_fillCells 5 none, Cond.fieldLink RX3 9 "SmallSpaces$Space" "cells" "[I", Cond.methodLink RX3 86 yJ7_fill_53178, Cond.static yJ7_fill_53178, Cond.initialized RJ7, Cond.code yJ7_fill_53178 cJ7_fill_53178 4 none, Cond.methodLink RX3 43 yX3_isPivot, Cond.instanceMethod yX3_isPivot, Cond.selects RX3 yX3_isPivot yX3_isPivot]
def wsX4_numbered_r3 : List Cond := [Cond.code yX3_isPivot cX3_isPivot 2 (some .boolean)]
def wsX4_numbered : List Cond := .code yX4_numbered cX4_numbered 4 (some .int) :: ((wsX4_numbered_r1 ++ (wsX4_numbered_r2 ++ wsX4_numbered_r3)) ++ wsX40 ++ wsX00 ++ wsX30)
def wsX4_many : List Cond := .code yX4_many cX4_many 2 (some .int) :: ([.fieldLink RX4 10 "SmallSpaces" "frame" "LSmallSpaces$Frame;", .instanceMethod yX0_spaces, .initialized RX0, .selects RX0 yX0_spaces yX0_spaces, .code yX0_spaces cX0_spaces 5 (some .int), .methodLink RX0 20 yX0_power, .instanceMethod yX0_power, .selects RX0 yX0_power yX0_power, .code yX0_power cX0_power 4 (some .int), .fieldLink RX0 13 "SmallSpaces$Frame" "q" "I"] ++ wsX40 ++ wsX00)
def wsX4_over_r1 : List Cond := [Cond.fieldLink RX4 18 "SmallSpaces" "slots" "[LSmallSpaces$Space;", Cond.fieldLink RX4 10 "SmallSpaces" "frame" "LSmallSpaces$Frame;", Cond.methodLink RX4 86 yX4_isSlot, Cond.static yX4_isSlot, Cond.initialized RX4, Cond.code yX4_isSlot cX4_isSlot 1 (some .boolean), Cond.methodLink RX4 133 yX4_isDim, Cond.instanceMethod yX4_isDim, Cond.selects RX4 yX4_isDim yX4_isDim, Cond.code yX4_isDim cX4_isDim 2 (some .boolean), Cond.instanceMethod yX3_rank, Cond.initialized RX3, Cond.selects RX3 yX3_rank yX3_rank, Cond.code yX3_rank cX3_rank 1 (some .int), Cond.fieldLink RX3 22 "SmallSpaces$Space" "pivots" "I", Cond.methodLink RX3 32 yJ6_bitCount_0f7a4, Cond.static yJ6_bitCount_0f7a4, Cond.initialized RJ6, Cond.code yJ6_bitCount_0f7a4 cJ6_bitCount_0f7a4 1 (some .int), Cond.constant RJ6 265 (1431655765), Cond.constant RJ6 266 (858993459), Cond.constant RJ6 267 (252645135), Cond.instanceMethod yX0_spaces, Cond.initialized RX0]
def wsX4_over_r2 : List Cond := [Cond.selects RX0 yX0_spaces yX0_spaces, Cond.code yX0_spaces cX0_spaces 5 (some .int), Cond.methodLink RX0 20 yX0_power, Cond.instanceMethod yX0_power, Cond.selects RX0 yX0_power yX0_power, Cond.code yX0_power cX0_power 4 (some .int), Cond.fieldLink RX0 13 "SmallSpaces$Frame" "q" "I"]
def wsX4_over : List Cond := .code yX4_over cX4_over 4 (some .int) :: ((wsX4_over_r1 ++ wsX4_over_r2) ++ wsX40 ++ wsX00 ++ wsX30)
def wsX4_meeting_r1 : List Cond := [Cond.fieldLink RX4 18 "SmallSpaces" "slots" "[LSmallSpaces$Space;", Cond.fieldLink RX4 10 "SmallSpaces" "frame" "LSmallSpaces$Frame;", Cond.methodLink RX4 86 yX4_isSlot, Cond.static yX4_isSlot, Cond.initialized RX4, Cond.code yX4_isSlot cX4_isSlot 1 (some .boolean), Cond.methodLink RX4 133 yX4_isDim, Cond.instanceMethod yX4_isDim, Cond.selects RX4 yX4_isDim yX4_isDim, Cond.code yX4_isDim cX4_isDim 2 (some .boolean), Cond.instanceMethod yX3_rank, Cond.initialized RX3, Cond.selects RX3 yX3_rank yX3_rank, Cond.code yX3_rank cX3_rank 1 (some .int), Cond.fieldLink RX3 22 "SmallSpaces$Space" "pivots" "I", Cond.methodLink RX3 32 yJ6_bitCount_0f7a4, Cond.static yJ6_bitCount_0f7a4, Cond.initialized RJ6, Cond.code yJ6_bitCount_0f7a4 cJ6_bitCount_0f7a4 1 (some .int), Cond.constant RJ6 265 (1431655765), Cond.constant RJ6 266 (858993459), Cond.constant RJ6 267 (252645135), Cond.instanceMethod yX0_spaces, Cond.initialized RX0]
def wsX4_meeting_r2 : List Cond := [Cond.selects RX0 yX0_spaces yX0_spaces, Cond.code yX0_spaces cX0_spaces 5 (some .int), Cond.methodLink RX0 20 yX0_power, Cond.instanceMethod yX0_power, Cond.selects RX0 yX0_power yX0_power, Cond.code yX0_power cX0_power 4 (some .int), Cond.fieldLink RX0 13 "SmallSpaces$Frame" "q" "I"]
def wsX4_meeting : List Cond := .code yX4_meeting cX4_meeting 6 (some .int) :: ((wsX4_meeting_r1 ++ wsX4_meeting_r2) ++ wsX40 ++ wsX00 ++ wsX30)
def wsX4_put : List Cond := .code yX4_put cX4_put 2 (some .int) :: ([.fieldLink RX4 28 "SmallSpaces" "heap" "LSmallSpaces$Heap;", .fieldLink RX4 18 "SmallSpaces" "slots" "[LSmallSpaces$Space;", .methodLink RX4 86 yX4_isSlot, .static yX4_isSlot, .initialized RX4, .code yX4_isSlot cX4_isSlot 1 (some .boolean), .instanceMethod yX1_accept, .initialized RX1, .selects RX1 yX1_accept yX1_accept, .code yX1_accept cX1_accept 2 none, .fieldLink RX1 24 "SmallSpaces$Heap" "size" "I", .fieldLink RX1 11 "SmallSpaces$Heap" "spaces" "[LSmallSpaces$Space;", .instanceMethod yX3_copyFrom, .initialized RX3, .selects RX3 yX3_copyFrom yX3_copyFrom, .code yX3_copyFrom cX3_copyFrom 2 none, .fieldLink RX3 22 "SmallSpaces$Space" "pivots" "I", .fieldLink RX3 9 "SmallSpaces$Space" "cells" "[I", .methodLink RX3 26 arraycopyName, .native arraycopyName, .static arraycopyName, .initialized "java/lang/System"] ++ wsX40 ++ wsX10 ++ wsX30)
def wsX4_empty : List Cond := .code yX4_empty cX4_empty 2 (some .int) :: ([.fieldLink RX4 28 "SmallSpaces" "heap" "LSmallSpaces$Heap;"] ++ wsX40 ++ wsX10)
def wsX4_take_r1 : List Cond := [Cond.fieldLink RX4 28 "SmallSpaces" "heap" "LSmallSpaces$Heap;", Cond.methodLink RX4 86 yX4_isSlot, Cond.static yX4_isSlot, Cond.initialized RX4, Cond.code yX4_isSlot cX4_isSlot 1 (some .boolean), Cond.methodLink RX4 111 yX4_settle, Cond.instanceMethod yX4_settle, Cond.selects RX4 yX4_settle yX4_settle, Cond.code yX4_settle cX4_settle 3 (some .int), Cond.fieldLink RX4 18 "SmallSpaces" "slots" "[LSmallSpaces$Space;", Cond.instanceMethod yX3_copyFrom, Cond.initialized RX3, Cond.selects RX3 yX3_copyFrom yX3_copyFrom, Cond.code yX3_copyFrom cX3_copyFrom 2 none, Cond.fieldLink RX3 22 "SmallSpaces$Space" "pivots" "I", Cond.fieldLink RX3 9 "SmallSpaces$Space" "cells" "[I", Cond.methodLink RX3 26 arraycopyName, Cond.native arraycopyName, Cond.static arraycopyName, Cond.initialized "java/lang/System", Cond.instanceMethod yX3_rank, Cond.selects RX3 yX3_rank yX3_rank, Cond.code yX3_rank cX3_rank 1 (some .int), Cond.methodLink RX3 32 yJ6_bitCount_0f7a4]
def wsX4_take_r2 : List Cond := [Cond.static yJ6_bitCount_0f7a4, Cond.initialized RJ6, Cond.code yJ6_bitCount_0f7a4 cJ6_bitCount_0f7a4 1 (some .int), Cond.constant RJ6 265 (1431655765), Cond.constant RJ6 266 (858993459), Cond.constant RJ6 267 (252645135)]
def wsX4_take : List Cond := .code yX4_take cX4_take 3 (some .int) :: ((wsX4_take_r1 ++ wsX4_take_r2) ++ wsX40 ++ wsX10 ++ wsX30)
def wsX4_least_r1 : List Cond := [Cond.fieldLink RX4 28 "SmallSpaces" "heap" "LSmallSpaces$Heap;", Cond.instanceMethod yX1_leastDistance, Cond.initialized RX1, Cond.selects RX1 yX1_leastDistance yX1_leastDistance, Cond.code yX1_leastDistance cX1_leastDistance 5 (some .int), Cond.fieldLink RX1 24 "SmallSpaces$Heap" "size" "I", Cond.fieldLink RX1 20 "SmallSpaces$Heap" "joined" "LSmallSpaces$Space;", Cond.fieldLink RX1 11 "SmallSpaces$Heap" "spaces" "[LSmallSpaces$Space;", Cond.instanceMethod yX3_distance, Cond.initialized RX3, Cond.selects RX3 yX3_distance yX3_distance, Cond.code yX3_distance cX3_distance 3 (some .int), Cond.methodLink RX3 92 yX3_copyFrom, Cond.instanceMethod yX3_copyFrom, Cond.selects RX3 yX3_copyFrom yX3_copyFrom, Cond.code yX3_copyFrom cX3_copyFrom 2 none, Cond.fieldLink RX3 22 "SmallSpaces$Space" "pivots" "I", Cond.fieldLink RX3 9 "SmallSpaces$Space" "cells" "[I", Cond.methodLink RX3 26 arraycopyName, Cond.native arraycopyName, Cond.static arraycopyName, Cond.initialized "java/lang/System", Cond.methodLink RX3 96 yX3_joinSpace, Cond.instanceMethod yX3_joinSpace]
def wsX4_least_r2 : List Cond := [Cond.selects RX3 yX3_joinSpace yX3_joinSpace, Cond.code yX3_joinSpace cX3_joinSpace 3 none, Cond.fieldLink RX3 18 "SmallSpaces$Space" "frame" "LSmallSpaces$Frame;", Cond.fieldLink RX3 15 "SmallSpaces$Space" "fresh" "[I", Cond.methodLink RX3 43 yX3_isPivot, Cond.instanceMethod yX3_isPivot, Cond.selects RX3 yX3_isPivot yX3_isPivot, Cond.code yX3_isPivot cX3_isPivot 2 (some .boolean), Cond.methodLink RX3 66 yX3_joinFresh, Cond.instanceMethod yX3_joinFresh, Cond.selects RX3 yX3_joinFresh yX3_joinFresh, Cond.code yX3_joinFresh cX3_joinFresh 4 none, Cond.methodLink RX3 69 yX3_reduceFresh, Cond.instanceMethod yX3_reduceFresh, Cond.selects RX3 yX3_reduceFresh yX3_reduceFresh, Cond.code yX3_reduceFresh cX3_reduceFresh 2 none, Cond.instanceMethod yX0_addMultiple, Cond.initialized RX0, Cond.selects RX0 yX0_addMultiple yX0_addMultiple, Cond.code yX0_addMultiple cX0_addMultiple 7 none, Cond.fieldLink RX0 17 "SmallSpaces$Frame" "n" "I", Cond.fieldLink RX0 13 "SmallSpaces$Frame" "q" "I", Cond.instanceMethod yX0_inverse, Cond.selects RX0 yX0_inverse yX0_inverse]
def wsX4_least_r3 : List Cond := [Cond.code yX0_inverse cX0_inverse 2 (some .int), Cond.methodLink RX3 75 yX3_takeRow, Cond.instanceMethod yX3_takeRow, Cond.selects RX3 yX3_takeRow yX3_takeRow, Cond.code yX3_takeRow cX3_takeRow 4 none, Cond.methodLink RX3 99 yX3_rank, Cond.instanceMethod yX3_rank, Cond.selects RX3 yX3_rank yX3_rank, Cond.code yX3_rank cX3_rank 1 (some .int), Cond.methodLink RX3 32 yJ6_bitCount_0f7a4, Cond.static yJ6_bitCount_0f7a4, Cond.initialized RJ6, Cond.code yJ6_bitCount_0f7a4 cJ6_bitCount_0f7a4 1 (some .int), Cond.constant RJ6 265 (1431655765), Cond.constant RJ6 266 (858993459), Cond.constant RJ6 267 (252645135)]
def wsX4_least : List Cond := .code yX4_least cX4_least 1 (some .int) :: ((wsX4_least_r1 ++ (wsX4_least_r2 ++ wsX4_least_r3)) ++ wsX40 ++ wsX10 ++ wsX30 ++ wsX00)
def wsX4_bare_r1 : List Cond := [Cond.fieldLink RX4 10 "SmallSpaces" "frame" "LSmallSpaces$Frame;", Cond.fieldLink RX4 46 "SmallSpaces" "figures" "[I", Cond.fieldLink RX4 28 "SmallSpaces" "heap" "LSmallSpaces$Heap;", Cond.instanceMethod yX0_spell, Cond.initialized RX0, Cond.selects RX0 yX0_spell yX0_spell, Cond.code yX0_spell cX0_spell 6 none, Cond.fieldLink RX0 17 "SmallSpaces$Frame" "n" "I", Cond.fieldLink RX0 13 "SmallSpaces$Frame" "q" "I", Cond.instanceMethod yX1_covers, Cond.initialized RX1, Cond.selects RX1 yX1_covers yX1_covers, Cond.code yX1_covers cX1_covers 3 (some .boolean), Cond.fieldLink RX1 24 "SmallSpaces$Heap" "size" "I", Cond.fieldLink RX1 11 "SmallSpaces$Heap" "spaces" "[LSmallSpaces$Space;", Cond.instanceMethod yX3_holds, Cond.initialized RX3, Cond.selects RX3 yX3_holds yX3_holds, Cond.code yX3_holds cX3_holds 4 (some .boolean), Cond.fieldLink RX3 18 "SmallSpaces$Space" "frame" "LSmallSpaces$Frame;", Cond.methodLink RX3 43 yX3_isPivot, Cond.instanceMethod yX3_isPivot, Cond.selects RX3 yX3_isPivot yX3_isPivot, Cond.code yX3_isPivot cX3_isPivot 2 (some .boolean)]
def wsX4_bare_r2 : List Cond := [Cond.fieldLink RX3 22 "SmallSpaces$Space" "pivots" "I", Cond.methodLink RX3 51 yX3_settledFigure, Cond.instanceMethod yX3_settledFigure, Cond.selects RX3 yX3_settledFigure yX3_settledFigure, Cond.code yX3_settledFigure cX3_settledFigure 6 (some .int), Cond.fieldLink RX3 9 "SmallSpaces$Space" "cells" "[I"]
def wsX4_bare : List Cond := .code yX4_bare cX4_bare 3 (some .int) :: ((wsX4_bare_r1 ++ wsX4_bare_r2) ++ wsX40 ++ wsX00 ++ wsX10 ++ wsX30)
def wsX4_greedy_r1 : List Cond := [Cond.fieldLink RX4 160 "SmallSpaces" "greedyDone" "I", Cond.fieldLink RX4 28 "SmallSpaces" "heap" "LSmallSpaces$Heap;", Cond.fieldLink RX4 10 "SmallSpaces" "frame" "LSmallSpaces$Frame;", Cond.fieldLink RX4 39 "SmallSpaces" "made" "LSmallSpaces$Space;", Cond.methodLink RX4 133 yX4_isDim, Cond.instanceMethod yX4_isDim, Cond.selects RX4 yX4_isDim yX4_isDim, Cond.initialized RX4, Cond.code yX4_isDim cX4_isDim 2 (some .boolean), Cond.instanceMethod yX0_spaces, Cond.initialized RX0, Cond.selects RX0 yX0_spaces yX0_spaces, Cond.code yX0_spaces cX0_spaces 5 (some .int), Cond.methodLink RX0 20 yX0_power, Cond.instanceMethod yX0_power, Cond.selects RX0 yX0_power yX0_power, Cond.code yX0_power cX0_power 4 (some .int), Cond.fieldLink RX0 13 "SmallSpaces$Frame" "q" "I", Cond.instanceMethod yX3_becomeOrdinal, Cond.initialized RX3, Cond.selects RX3 yX3_becomeOrdinal yX3_becomeOrdinal, Cond.code yX3_becomeOrdinal cX3_becomeOrdinal 6 none, Cond.fieldLink RX3 18 "SmallSpaces$Space" "frame" "LSmallSpaces$Frame;", Cond.fieldLink RX3 22 "SmallSpaces$Space" "pivots" "I"]
def wsX4_greedy_r2 : List Cond := [Cond.methodLink RX3 32 yJ6_bitCount_0f7a4, Cond.static yJ6_bitCount_0f7a4, Cond.initialized RJ6, Cond.code yJ6_bitCount_0f7a4 cJ6_bitCount_0f7a4 1 (some .int), Cond.constant RJ6 265 (1431655765), Cond.constant RJ6 266 (858993459), Cond.constant RJ6 267 (252645135), Cond.methodLink RX3 103 yX3_freeCells, Cond.instanceMethod yX3_freeCells, Cond.selects RX3 yX3_freeCells yX3_freeCells, Cond.code yX3_freeCells cX3_freeCells 5 (some .int), Cond.methodLink RX3 112 yX3_fillCells, Cond.instanceMethod yX3_fillCells, Cond.selects RX3 yX3_fillCells yX3_fillCells, Cond.code yX3_fillCells cX3_fillCells 5 none, Cond.fieldLink RX3 9 "SmallSpaces$Space" "cells" "[I", Cond.methodLink RX3 86 yJ7_fill_53178, Cond.static yJ7_fill_53178, Cond.initialized RJ7, Cond.code yJ7_fill_53178 cJ7_fill_53178 4 none, Cond.methodLink RX3 43 yX3_isPivot, Cond.instanceMethod yX3_isPivot, Cond.selects RX3 yX3_isPivot yX3_isPivot, Cond.code yX3_isPivot cX3_isPivot 2 (some .boolean)]
def wsX4_greedy_r3 : List Cond := [Cond.instanceMethod yX1_allApart, Cond.initialized RX1, Cond.selects RX1 yX1_allApart yX1_allApart, Cond.code yX1_allApart cX1_allApart 4 (some .boolean), Cond.fieldLink RX1 24 "SmallSpaces$Heap" "size" "I", Cond.fieldLink RX1 20 "SmallSpaces$Heap" "joined" "LSmallSpaces$Space;", Cond.fieldLink RX1 11 "SmallSpaces$Heap" "spaces" "[LSmallSpaces$Space;", Cond.instanceMethod yX3_distance, Cond.selects RX3 yX3_distance yX3_distance, Cond.code yX3_distance cX3_distance 3 (some .int), Cond.methodLink RX3 92 yX3_copyFrom, Cond.instanceMethod yX3_copyFrom, Cond.selects RX3 yX3_copyFrom yX3_copyFrom, Cond.code yX3_copyFrom cX3_copyFrom 2 none, Cond.methodLink RX3 26 arraycopyName, Cond.native arraycopyName, Cond.static arraycopyName, Cond.initialized "java/lang/System", Cond.methodLink RX3 96 yX3_joinSpace, Cond.instanceMethod yX3_joinSpace, Cond.selects RX3 yX3_joinSpace yX3_joinSpace, Cond.code yX3_joinSpace cX3_joinSpace 3 none, Cond.fieldLink RX3 15 "SmallSpaces$Space" "fresh" "[I", Cond.methodLink RX3 66 yX3_joinFresh]
def wsX4_greedy_r4 : List Cond := [Cond.instanceMethod yX3_joinFresh, Cond.selects RX3 yX3_joinFresh yX3_joinFresh, Cond.code yX3_joinFresh cX3_joinFresh 4 none, Cond.methodLink RX3 69 yX3_reduceFresh, Cond.instanceMethod yX3_reduceFresh, Cond.selects RX3 yX3_reduceFresh yX3_reduceFresh, Cond.code yX3_reduceFresh cX3_reduceFresh 2 none, Cond.instanceMethod yX0_addMultiple, Cond.selects RX0 yX0_addMultiple yX0_addMultiple, Cond.code yX0_addMultiple cX0_addMultiple 7 none, Cond.fieldLink RX0 17 "SmallSpaces$Frame" "n" "I", Cond.instanceMethod yX0_inverse, Cond.selects RX0 yX0_inverse yX0_inverse, Cond.code yX0_inverse cX0_inverse 2 (some .int), Cond.methodLink RX3 75 yX3_takeRow, Cond.instanceMethod yX3_takeRow, Cond.selects RX3 yX3_takeRow yX3_takeRow, Cond.code yX3_takeRow cX3_takeRow 4 none, Cond.methodLink RX3 99 yX3_rank, Cond.instanceMethod yX3_rank, Cond.selects RX3 yX3_rank yX3_rank, Cond.code yX3_rank cX3_rank 1 (some .int), Cond.instanceMethod yX1_accept, Cond.selects RX1 yX1_accept yX1_accept]
def wsX4_greedy_r5 : List Cond := [Cond.code yX1_accept cX1_accept 2 none]
def wsX4_greedy : List Cond := .code yX4_greedy cX4_greedy 5 (some .int) :: ((wsX4_greedy_r1 ++ (wsX4_greedy_r2 ++ (wsX4_greedy_r3 ++ (wsX4_greedy_r4 ++ wsX4_greedy_r5)))) ++ wsX40 ++ wsX10 ++ wsX00 ++ wsX30)
def wsX4_image : List Cond := .code yX4_image cX4_image 4 (some .int) :: ([.fieldLink RX4 10 "SmallSpaces" "frame" "LSmallSpaces$Frame;", .fieldLink RX4 35 "SmallSpaces" "linear" "LSmallSpaces$Linear;", .instanceMethod yX0_isVector, .initialized RX0, .selects RX0 yX0_isVector yX0_isVector, .code yX0_isVector cX0_isVector 2 (some .boolean), .fieldLink RX0 24 "SmallSpaces$Frame" "vectors" "I", .instanceMethod yX2_imageNumber, .initialized RX2, .selects RX2 yX2_imageNumber yX2_imageNumber, .code yX2_imageNumber cX2_imageNumber 2 (some .int), .fieldLink RX2 18 "SmallSpaces$Linear" "frame" "LSmallSpaces$Frame;", .fieldLink RX2 9 "SmallSpaces$Linear" "cells" "[I", .instanceMethod yX0_vectorNumber, .selects RX0 yX0_vectorNumber yX0_vectorNumber, .code yX0_vectorNumber cX0_vectorNumber 5 (some .int), .fieldLink RX0 17 "SmallSpaces$Frame" "n" "I", .fieldLink RX0 13 "SmallSpaces$Frame" "q" "I", .instanceMethod yX2_setImage, .selects RX2 yX2_setImage yX2_setImage, .code yX2_setImage cX2_setImage 3 none, .instanceMethod yX0_spell, .selects RX0 yX0_spell yX0_spell, .code yX0_spell cX0_spell 6 none] ++ wsX40 ++ wsX00 ++ wsX20)
def wsX4_mapped_r1 : List Cond := [Cond.fieldLink RX4 10 "SmallSpaces" "frame" "LSmallSpaces$Frame;", Cond.fieldLink RX4 46 "SmallSpaces" "figures" "[I", Cond.fieldLink RX4 35 "SmallSpaces" "linear" "LSmallSpaces$Linear;", Cond.instanceMethod yX0_isVector, Cond.initialized RX0, Cond.selects RX0 yX0_isVector yX0_isVector, Cond.code yX0_isVector cX0_isVector 2 (some .boolean), Cond.fieldLink RX0 24 "SmallSpaces$Frame" "vectors" "I", Cond.instanceMethod yX0_spell, Cond.selects RX0 yX0_spell yX0_spell, Cond.code yX0_spell cX0_spell 6 none, Cond.fieldLink RX0 17 "SmallSpaces$Frame" "n" "I", Cond.fieldLink RX0 13 "SmallSpaces$Frame" "q" "I", Cond.instanceMethod yX2_apply, Cond.initialized RX2, Cond.selects RX2 yX2_apply yX2_apply, Cond.code yX2_apply cX2_apply 2 (some .int), Cond.fieldLink RX2 18 "SmallSpaces$Linear" "frame" "LSmallSpaces$Frame;", Cond.fieldLink RX2 15 "SmallSpaces$Linear" "result" "[I", Cond.methodLink RX2 45 yX2_applyInto, Cond.instanceMethod yX2_applyInto, Cond.selects RX2 yX2_applyInto yX2_applyInto, Cond.code yX2_applyInto cX2_applyInto 4 none, Cond.fieldLink RX2 9 "SmallSpaces$Linear" "cells" "[I"]
def wsX4_mapped_r2 : List Cond := [Cond.methodLink RX2 25 yJ7_fill_53178, Cond.static yJ7_fill_53178, Cond.initialized RJ7, Cond.code yJ7_fill_53178 cJ7_fill_53178 4 none, Cond.instanceMethod yX0_addMultiple, Cond.selects RX0 yX0_addMultiple yX0_addMultiple, Cond.code yX0_addMultiple cX0_addMultiple 7 none, Cond.instanceMethod yX0_vectorNumber, Cond.selects RX0 yX0_vectorNumber yX0_vectorNumber, Cond.code yX0_vectorNumber cX0_vectorNumber 5 (some .int)]
def wsX4_mapped : List Cond := .code yX4_mapped cX4_mapped 2 (some .int) :: ((wsX4_mapped_r1 ++ wsX4_mapped_r2) ++ wsX40 ++ wsX00 ++ wsX20)
def wsX4_map_r1 : List Cond := [Cond.fieldLink RX4 35 "SmallSpaces" "linear" "LSmallSpaces$Linear;", Cond.fieldLink RX4 18 "SmallSpaces" "slots" "[LSmallSpaces$Space;", Cond.fieldLink RX4 39 "SmallSpaces" "made" "LSmallSpaces$Space;", Cond.methodLink RX4 86 yX4_isSlot, Cond.static yX4_isSlot, Cond.initialized RX4, Cond.code yX4_isSlot cX4_isSlot 1 (some .boolean), Cond.instanceMethod yX2_applyToSpace, Cond.initialized RX2, Cond.selects RX2 yX2_applyToSpace yX2_applyToSpace, Cond.code yX2_applyToSpace cX2_applyToSpace 4 none, Cond.fieldLink RX2 18 "SmallSpaces$Linear" "frame" "LSmallSpaces$Frame;", Cond.fieldLink RX2 15 "SmallSpaces$Linear" "result" "[I", Cond.instanceMethod yX3_becomeZero, Cond.initialized RX3, Cond.selects RX3 yX3_becomeZero yX3_becomeZero, Cond.code yX3_becomeZero cX3_becomeZero 1 none, Cond.fieldLink RX3 22 "SmallSpaces$Space" "pivots" "I", Cond.instanceMethod yX3_isPivot, Cond.selects RX3 yX3_isPivot yX3_isPivot, Cond.code yX3_isPivot cX3_isPivot 2 (some .boolean), Cond.fieldLink RX3 18 "SmallSpaces$Space" "frame" "LSmallSpaces$Frame;", Cond.methodLink RX2 45 yX2_applyInto, Cond.instanceMethod yX2_applyInto]
def wsX4_map_r2 : List Cond := [Cond.selects RX2 yX2_applyInto yX2_applyInto, Cond.code yX2_applyInto cX2_applyInto 4 none, Cond.fieldLink RX2 9 "SmallSpaces$Linear" "cells" "[I", Cond.methodLink RX2 25 yJ7_fill_53178, Cond.static yJ7_fill_53178, Cond.initialized RJ7, Cond.code yJ7_fill_53178 cJ7_fill_53178 4 none, Cond.instanceMethod yX0_addMultiple, Cond.initialized RX0, Cond.selects RX0 yX0_addMultiple yX0_addMultiple, Cond.code yX0_addMultiple cX0_addMultiple 7 none, Cond.fieldLink RX0 17 "SmallSpaces$Frame" "n" "I", Cond.fieldLink RX0 13 "SmallSpaces$Frame" "q" "I", Cond.instanceMethod yX3_joinVector, Cond.selects RX3 yX3_joinVector yX3_joinVector, Cond.code yX3_joinVector cX3_joinVector 3 none, Cond.fieldLink RX3 15 "SmallSpaces$Space" "fresh" "[I", Cond.methodLink RX3 26 arraycopyName, Cond.native arraycopyName, Cond.static arraycopyName, Cond.initialized "java/lang/System", Cond.methodLink RX3 66 yX3_joinFresh, Cond.instanceMethod yX3_joinFresh, Cond.selects RX3 yX3_joinFresh yX3_joinFresh]
def wsX4_map_r3 : List Cond := [Cond.code yX3_joinFresh cX3_joinFresh 4 none, Cond.fieldLink RX3 9 "SmallSpaces$Space" "cells" "[I", Cond.methodLink RX3 69 yX3_reduceFresh, Cond.instanceMethod yX3_reduceFresh, Cond.selects RX3 yX3_reduceFresh yX3_reduceFresh, Cond.code yX3_reduceFresh cX3_reduceFresh 2 none, Cond.methodLink RX3 43 yX3_isPivot, Cond.instanceMethod yX0_inverse, Cond.selects RX0 yX0_inverse yX0_inverse, Cond.code yX0_inverse cX0_inverse 2 (some .int), Cond.methodLink RX3 75 yX3_takeRow, Cond.instanceMethod yX3_takeRow, Cond.selects RX3 yX3_takeRow yX3_takeRow, Cond.code yX3_takeRow cX3_takeRow 4 none, Cond.methodLink RX4 111 yX4_settle, Cond.instanceMethod yX4_settle, Cond.selects RX4 yX4_settle yX4_settle, Cond.code yX4_settle cX4_settle 3 (some .int), Cond.instanceMethod yX3_copyFrom, Cond.selects RX3 yX3_copyFrom yX3_copyFrom, Cond.code yX3_copyFrom cX3_copyFrom 2 none, Cond.instanceMethod yX3_rank, Cond.selects RX3 yX3_rank yX3_rank, Cond.code yX3_rank cX3_rank 1 (some .int)]
def wsX4_map_r4 : List Cond := [Cond.methodLink RX3 32 yJ6_bitCount_0f7a4, Cond.static yJ6_bitCount_0f7a4, Cond.initialized RJ6, Cond.code yJ6_bitCount_0f7a4 cJ6_bitCount_0f7a4 1 (some .int), Cond.constant RJ6 265 (1431655765), Cond.constant RJ6 266 (858993459), Cond.constant RJ6 267 (252645135)]
def wsX4_map : List Cond := .code yX4_map cX4_map 3 (some .int) :: ((wsX4_map_r1 ++ (wsX4_map_r2 ++ (wsX4_map_r3 ++ wsX4_map_r4))) ++ wsX40 ++ wsX20 ++ wsX00 ++ wsX30)
def wsX4_kernel_r1 : List Cond := [Cond.fieldLink RX4 35 "SmallSpaces" "linear" "LSmallSpaces$Linear;", Cond.fieldLink RX4 43 "SmallSpaces" "other" "LSmallSpaces$Space;", Cond.fieldLink RX4 39 "SmallSpaces" "made" "LSmallSpaces$Space;", Cond.methodLink RX4 86 yX4_isSlot, Cond.static yX4_isSlot, Cond.initialized RX4, Cond.code yX4_isSlot cX4_isSlot 1 (some .boolean), Cond.instanceMethod yX2_columnSpace, Cond.initialized RX2, Cond.selects RX2 yX2_columnSpace yX2_columnSpace, Cond.code yX2_columnSpace cX2_columnSpace 4 none, Cond.fieldLink RX2 18 "SmallSpaces$Linear" "frame" "LSmallSpaces$Frame;", Cond.fieldLink RX2 15 "SmallSpaces$Linear" "result" "[I", Cond.fieldLink RX2 9 "SmallSpaces$Linear" "cells" "[I", Cond.instanceMethod yX3_becomeZero, Cond.initialized RX3, Cond.selects RX3 yX3_becomeZero yX3_becomeZero, Cond.code yX3_becomeZero cX3_becomeZero 1 none, Cond.fieldLink RX3 22 "SmallSpaces$Space" "pivots" "I", Cond.instanceMethod yX3_joinVector, Cond.selects RX3 yX3_joinVector yX3_joinVector, Cond.code yX3_joinVector cX3_joinVector 3 none, Cond.fieldLink RX3 15 "SmallSpaces$Space" "fresh" "[I", Cond.fieldLink RX3 18 "SmallSpaces$Space" "frame" "LSmallSpaces$Frame;"]
def wsX4_kernel_r2 : List Cond := [Cond.methodLink RX3 26 arraycopyName, Cond.native arraycopyName, Cond.static arraycopyName, Cond.initialized "java/lang/System", Cond.methodLink RX3 66 yX3_joinFresh, Cond.instanceMethod yX3_joinFresh, Cond.selects RX3 yX3_joinFresh yX3_joinFresh, Cond.code yX3_joinFresh cX3_joinFresh 4 none, Cond.fieldLink RX3 9 "SmallSpaces$Space" "cells" "[I", Cond.methodLink RX3 69 yX3_reduceFresh, Cond.instanceMethod yX3_reduceFresh, Cond.selects RX3 yX3_reduceFresh yX3_reduceFresh, Cond.code yX3_reduceFresh cX3_reduceFresh 2 none, Cond.methodLink RX3 43 yX3_isPivot, Cond.instanceMethod yX3_isPivot, Cond.selects RX3 yX3_isPivot yX3_isPivot, Cond.code yX3_isPivot cX3_isPivot 2 (some .boolean), Cond.instanceMethod yX0_addMultiple, Cond.initialized RX0, Cond.selects RX0 yX0_addMultiple yX0_addMultiple, Cond.code yX0_addMultiple cX0_addMultiple 7 none, Cond.fieldLink RX0 17 "SmallSpaces$Frame" "n" "I", Cond.fieldLink RX0 13 "SmallSpaces$Frame" "q" "I", Cond.instanceMethod yX0_inverse]
def wsX4_kernel_r3 : List Cond := [Cond.selects RX0 yX0_inverse yX0_inverse, Cond.code yX0_inverse cX0_inverse 2 (some .int), Cond.methodLink RX3 75 yX3_takeRow, Cond.instanceMethod yX3_takeRow, Cond.selects RX3 yX3_takeRow yX3_takeRow, Cond.code yX3_takeRow cX3_takeRow 4 none, Cond.instanceMethod yX3_becomeDual, Cond.selects RX3 yX3_becomeDual yX3_becomeDual, Cond.code yX3_becomeDual cX3_becomeDual 4 none, Cond.methodLink RX3 83 yX3_becomeZero, Cond.methodLink RX3 86 yJ7_fill_53178, Cond.static yJ7_fill_53178, Cond.initialized RJ7, Cond.code yJ7_fill_53178 cJ7_fill_53178 4 none, Cond.methodLink RX4 111 yX4_settle, Cond.instanceMethod yX4_settle, Cond.selects RX4 yX4_settle yX4_settle, Cond.code yX4_settle cX4_settle 3 (some .int), Cond.fieldLink RX4 18 "SmallSpaces" "slots" "[LSmallSpaces$Space;", Cond.instanceMethod yX3_copyFrom, Cond.selects RX3 yX3_copyFrom yX3_copyFrom, Cond.code yX3_copyFrom cX3_copyFrom 2 none, Cond.instanceMethod yX3_rank, Cond.selects RX3 yX3_rank yX3_rank]
def wsX4_kernel_r4 : List Cond := [Cond.code yX3_rank cX3_rank 1 (some .int), Cond.methodLink RX3 32 yJ6_bitCount_0f7a4, Cond.static yJ6_bitCount_0f7a4, Cond.initialized RJ6, Cond.code yJ6_bitCount_0f7a4 cJ6_bitCount_0f7a4 1 (some .int), Cond.constant RJ6 265 (1431655765), Cond.constant RJ6 266 (858993459), Cond.constant RJ6 267 (252645135)]
def wsX4_kernel : List Cond := .code yX4_kernel cX4_kernel 2 (some .int) :: ((wsX4_kernel_r1 ++ (wsX4_kernel_r2 ++ (wsX4_kernel_r3 ++ wsX4_kernel_r4))) ++ wsX40 ++ wsX20 ++ wsX00 ++ wsX30)
def wsX4_timesTillAgain_r1 : List Cond := [Cond.fieldLink RX4 10 "SmallSpaces" "frame" "LSmallSpaces$Frame;", Cond.methodLink RX4 201 Lib.Math.min.name, Cond.static Lib.Math.min.name, Cond.initialized "java/lang/Math", Cond.code Lib.Math.min.name Lib.Math.min.code 2 (some .int), Cond.fieldLink RX4 43 "SmallSpaces" "other" "LSmallSpaces$Space;", Cond.fieldLink RX4 35 "SmallSpaces" "linear" "LSmallSpaces$Linear;", Cond.fieldLink RX4 39 "SmallSpaces" "made" "LSmallSpaces$Space;", Cond.instanceMethod yX3_copyFrom, Cond.initialized RX3, Cond.selects RX3 yX3_copyFrom yX3_copyFrom, Cond.code yX3_copyFrom cX3_copyFrom 2 none, Cond.fieldLink RX3 22 "SmallSpaces$Space" "pivots" "I", Cond.fieldLink RX3 9 "SmallSpaces$Space" "cells" "[I", Cond.methodLink RX3 26 arraycopyName, Cond.native arraycopyName, Cond.static arraycopyName, Cond.initialized "java/lang/System", Cond.instanceMethod yX2_applyToSpace, Cond.initialized RX2, Cond.selects RX2 yX2_applyToSpace yX2_applyToSpace, Cond.code yX2_applyToSpace cX2_applyToSpace 4 none, Cond.fieldLink RX2 18 "SmallSpaces$Linear" "frame" "LSmallSpaces$Frame;", Cond.fieldLink RX2 15 "SmallSpaces$Linear" "result" "[I"]
def wsX4_timesTillAgain_r2 : List Cond := [Cond.instanceMethod yX3_becomeZero, Cond.selects RX3 yX3_becomeZero yX3_becomeZero, Cond.code yX3_becomeZero cX3_becomeZero 1 none, Cond.instanceMethod yX3_isPivot, Cond.selects RX3 yX3_isPivot yX3_isPivot, Cond.code yX3_isPivot cX3_isPivot 2 (some .boolean), Cond.fieldLink RX3 18 "SmallSpaces$Space" "frame" "LSmallSpaces$Frame;", Cond.methodLink RX2 45 yX2_applyInto, Cond.instanceMethod yX2_applyInto, Cond.selects RX2 yX2_applyInto yX2_applyInto, Cond.code yX2_applyInto cX2_applyInto 4 none, Cond.fieldLink RX2 9 "SmallSpaces$Linear" "cells" "[I", Cond.methodLink RX2 25 yJ7_fill_53178, Cond.static yJ7_fill_53178, Cond.initialized RJ7, Cond.code yJ7_fill_53178 cJ7_fill_53178 4 none, Cond.instanceMethod yX0_addMultiple, Cond.initialized RX0, Cond.selects RX0 yX0_addMultiple yX0_addMultiple, Cond.code yX0_addMultiple cX0_addMultiple 7 none, Cond.fieldLink RX0 17 "SmallSpaces$Frame" "n" "I", Cond.fieldLink RX0 13 "SmallSpaces$Frame" "q" "I", Cond.instanceMethod yX3_joinVector, Cond.selects RX3 yX3_joinVector yX3_joinVector]
def wsX4_timesTillAgain_r3 : List Cond := [Cond.code yX3_joinVector cX3_joinVector 3 none, Cond.fieldLink RX3 15 "SmallSpaces$Space" "fresh" "[I", Cond.methodLink RX3 66 yX3_joinFresh, Cond.instanceMethod yX3_joinFresh, Cond.selects RX3 yX3_joinFresh yX3_joinFresh, Cond.code yX3_joinFresh cX3_joinFresh 4 none, Cond.methodLink RX3 69 yX3_reduceFresh, Cond.instanceMethod yX3_reduceFresh, Cond.selects RX3 yX3_reduceFresh yX3_reduceFresh, Cond.code yX3_reduceFresh cX3_reduceFresh 2 none, Cond.methodLink RX3 43 yX3_isPivot, Cond.instanceMethod yX0_inverse, Cond.selects RX0 yX0_inverse yX0_inverse, Cond.code yX0_inverse cX0_inverse 2 (some .int), Cond.methodLink RX3 75 yX3_takeRow, Cond.instanceMethod yX3_takeRow, Cond.selects RX3 yX3_takeRow yX3_takeRow, Cond.code yX3_takeRow cX3_takeRow 4 none, Cond.instanceMethod yX3_rank, Cond.selects RX3 yX3_rank yX3_rank, Cond.code yX3_rank cX3_rank 1 (some .int), Cond.methodLink RX3 32 yJ6_bitCount_0f7a4, Cond.static yJ6_bitCount_0f7a4, Cond.initialized RJ6]
def wsX4_timesTillAgain_r4 : List Cond := [Cond.code yJ6_bitCount_0f7a4 cJ6_bitCount_0f7a4 1 (some .int), Cond.constant RJ6 265 (1431655765), Cond.constant RJ6 266 (858993459), Cond.constant RJ6 267 (252645135), Cond.instanceMethod yX3_sameAs, Cond.selects RX3 yX3_sameAs yX3_sameAs, Cond.code yX3_sameAs cX3_sameAs 2 (some .boolean), Cond.methodLink RX3 62 yX3_liesIn, Cond.instanceMethod yX3_liesIn, Cond.selects RX3 yX3_liesIn yX3_liesIn, Cond.code yX3_liesIn cX3_liesIn 3 (some .boolean), Cond.methodLink RX3 58 yX3_holds, Cond.instanceMethod yX3_holds, Cond.selects RX3 yX3_holds yX3_holds, Cond.code yX3_holds cX3_holds 4 (some .boolean), Cond.methodLink RX3 51 yX3_settledFigure, Cond.instanceMethod yX3_settledFigure, Cond.selects RX3 yX3_settledFigure yX3_settledFigure, Cond.code yX3_settledFigure cX3_settledFigure 6 (some .int)]
def wsX4_timesTillAgain : List Cond := .code yX4_timesTillAgain cX4_timesTillAgain 4 (some .int) :: ((wsX4_timesTillAgain_r1 ++ (wsX4_timesTillAgain_r2 ++ (wsX4_timesTillAgain_r3 ++ wsX4_timesTillAgain_r4))) ++ wsX40 ++ wsX00 ++ wsX30 ++ wsX20)
def wsX4_round_r1 : List Cond := [Cond.fieldLink RX4 184 "SmallSpaces" "roundsDone" "I", Cond.fieldLink RX4 18 "SmallSpaces" "slots" "[LSmallSpaces$Space;", Cond.methodLink RX4 86 yX4_isSlot, Cond.static yX4_isSlot, Cond.initialized RX4, Cond.code yX4_isSlot cX4_isSlot 1 (some .boolean), Cond.methodLink RX4 187 yX4_timesTillAgain, Cond.instanceMethod yX4_timesTillAgain, Cond.selects RX4 yX4_timesTillAgain yX4_timesTillAgain, Cond.code yX4_timesTillAgain cX4_timesTillAgain 4 (some .int), Cond.fieldLink RX4 10 "SmallSpaces" "frame" "LSmallSpaces$Frame;", Cond.methodLink RX4 201 Lib.Math.min.name, Cond.static Lib.Math.min.name, Cond.initialized "java/lang/Math", Cond.code Lib.Math.min.name Lib.Math.min.code 2 (some .int), Cond.fieldLink RX4 43 "SmallSpaces" "other" "LSmallSpaces$Space;", Cond.fieldLink RX4 35 "SmallSpaces" "linear" "LSmallSpaces$Linear;", Cond.fieldLink RX4 39 "SmallSpaces" "made" "LSmallSpaces$Space;", Cond.instanceMethod yX3_copyFrom, Cond.initialized RX3, Cond.selects RX3 yX3_copyFrom yX3_copyFrom, Cond.code yX3_copyFrom cX3_copyFrom 2 none, Cond.fieldLink RX3 22 "SmallSpaces$Space" "pivots" "I", Cond.fieldLink RX3 9 "SmallSpaces$Space" "cells" "[I"]
def wsX4_round_r2 : List Cond := [Cond.methodLink RX3 26 arraycopyName, Cond.native arraycopyName, Cond.static arraycopyName, Cond.initialized "java/lang/System", Cond.instanceMethod yX2_applyToSpace, Cond.initialized RX2, Cond.selects RX2 yX2_applyToSpace yX2_applyToSpace, Cond.code yX2_applyToSpace cX2_applyToSpace 4 none, Cond.fieldLink RX2 18 "SmallSpaces$Linear" "frame" "LSmallSpaces$Frame;", Cond.fieldLink RX2 15 "SmallSpaces$Linear" "result" "[I", Cond.instanceMethod yX3_becomeZero, Cond.selects RX3 yX3_becomeZero yX3_becomeZero, Cond.code yX3_becomeZero cX3_becomeZero 1 none, Cond.instanceMethod yX3_isPivot, Cond.selects RX3 yX3_isPivot yX3_isPivot, Cond.code yX3_isPivot cX3_isPivot 2 (some .boolean), Cond.fieldLink RX3 18 "SmallSpaces$Space" "frame" "LSmallSpaces$Frame;", Cond.methodLink RX2 45 yX2_applyInto, Cond.instanceMethod yX2_applyInto, Cond.selects RX2 yX2_applyInto yX2_applyInto, Cond.code yX2_applyInto cX2_applyInto 4 none, Cond.fieldLink RX2 9 "SmallSpaces$Linear" "cells" "[I", Cond.methodLink RX2 25 yJ7_fill_53178, Cond.static yJ7_fill_53178]
def wsX4_round_r3 : List Cond := [Cond.initialized RJ7, Cond.code yJ7_fill_53178 cJ7_fill_53178 4 none, Cond.instanceMethod yX0_addMultiple, Cond.initialized RX0, Cond.selects RX0 yX0_addMultiple yX0_addMultiple, Cond.code yX0_addMultiple cX0_addMultiple 7 none, Cond.fieldLink RX0 17 "SmallSpaces$Frame" "n" "I", Cond.fieldLink RX0 13 "SmallSpaces$Frame" "q" "I", Cond.instanceMethod yX3_joinVector, Cond.selects RX3 yX3_joinVector yX3_joinVector, Cond.code yX3_joinVector cX3_joinVector 3 none, Cond.fieldLink RX3 15 "SmallSpaces$Space" "fresh" "[I", Cond.methodLink RX3 66 yX3_joinFresh, Cond.instanceMethod yX3_joinFresh, Cond.selects RX3 yX3_joinFresh yX3_joinFresh, Cond.code yX3_joinFresh cX3_joinFresh 4 none, Cond.methodLink RX3 69 yX3_reduceFresh, Cond.instanceMethod yX3_reduceFresh, Cond.selects RX3 yX3_reduceFresh yX3_reduceFresh, Cond.code yX3_reduceFresh cX3_reduceFresh 2 none, Cond.methodLink RX3 43 yX3_isPivot, Cond.instanceMethod yX0_inverse, Cond.selects RX0 yX0_inverse yX0_inverse, Cond.code yX0_inverse cX0_inverse 2 (some .int)]
def wsX4_round_r4 : List Cond := [Cond.methodLink RX3 75 yX3_takeRow, Cond.instanceMethod yX3_takeRow, Cond.selects RX3 yX3_takeRow yX3_takeRow, Cond.code yX3_takeRow cX3_takeRow 4 none, Cond.instanceMethod yX3_rank, Cond.selects RX3 yX3_rank yX3_rank, Cond.code yX3_rank cX3_rank 1 (some .int), Cond.methodLink RX3 32 yJ6_bitCount_0f7a4, Cond.static yJ6_bitCount_0f7a4, Cond.initialized RJ6, Cond.code yJ6_bitCount_0f7a4 cJ6_bitCount_0f7a4 1 (some .int), Cond.constant RJ6 265 (1431655765), Cond.constant RJ6 266 (858993459), Cond.constant RJ6 267 (252645135), Cond.instanceMethod yX3_sameAs, Cond.selects RX3 yX3_sameAs yX3_sameAs, Cond.code yX3_sameAs cX3_sameAs 2 (some .boolean), Cond.methodLink RX3 62 yX3_liesIn, Cond.instanceMethod yX3_liesIn, Cond.selects RX3 yX3_liesIn yX3_liesIn, Cond.code yX3_liesIn cX3_liesIn 3 (some .boolean), Cond.methodLink RX3 58 yX3_holds, Cond.instanceMethod yX3_holds, Cond.selects RX3 yX3_holds yX3_holds]
def wsX4_round_r5 : List Cond := [Cond.code yX3_holds cX3_holds 4 (some .boolean), Cond.methodLink RX3 51 yX3_settledFigure, Cond.instanceMethod yX3_settledFigure, Cond.selects RX3 yX3_settledFigure yX3_settledFigure, Cond.code yX3_settledFigure cX3_settledFigure 6 (some .int)]
def wsX4_round : List Cond := .code yX4_round cX4_round 2 (some .int) :: ((wsX4_round_r1 ++ (wsX4_round_r2 ++ (wsX4_round_r3 ++ (wsX4_round_r4 ++ wsX4_round_r5)))) ++ wsX40 ++ wsX00 ++ wsX30 ++ wsX20)
def wsX4_told : List Cond := .code yX4_told cX4_told 2 (some .int) :: ([.fieldLink RX4 10 "SmallSpaces" "frame" "LSmallSpaces$Frame;", .fieldLink RX4 28 "SmallSpaces" "heap" "LSmallSpaces$Heap;", .fieldLink RX4 160 "SmallSpaces" "greedyDone" "I", .fieldLink RX4 184 "SmallSpaces" "roundsDone" "I"] ++ wsX40 ++ wsX00 ++ wsX10)
def wsX4_fold : List Cond := .code yX4_fold cX4_fold 3 (some .long) :: ([.constantLong RX4 209 (31)])
def wsX4_foldSpace_r1 : List Cond := [Cond.instanceMethod yX3_rank, Cond.initialized RX3, Cond.selects RX3 yX3_rank yX3_rank, Cond.code yX3_rank cX3_rank 1 (some .int), Cond.fieldLink RX3 22 "SmallSpaces$Space" "pivots" "I", Cond.methodLink RX3 32 yJ6_bitCount_0f7a4, Cond.static yJ6_bitCount_0f7a4, Cond.initialized RJ6, Cond.code yJ6_bitCount_0f7a4 cJ6_bitCount_0f7a4 1 (some .int), Cond.constant RJ6 265 (1431655765), Cond.constant RJ6 266 (858993459), Cond.constant RJ6 267 (252645135), Cond.methodLink RX4 193 yX4_fold, Cond.static yX4_fold, Cond.initialized RX4, Cond.code yX4_fold cX4_fold 3 (some .long), Cond.constantLong RX4 209 (31), Cond.instanceMethod yX3_rowNumber, Cond.selects RX3 yX3_rowNumber yX3_rowNumber, Cond.code yX3_rowNumber cX3_rowNumber 4 (some .int), Cond.fieldLink RX3 18 "SmallSpaces$Space" "frame" "LSmallSpaces$Frame;", Cond.fieldLink RX3 9 "SmallSpaces$Space" "cells" "[I", Cond.methodLink RX3 43 yX3_isPivot, Cond.instanceMethod yX3_isPivot]
def wsX4_foldSpace_r2 : List Cond := [Cond.selects RX3 yX3_isPivot yX3_isPivot, Cond.code yX3_isPivot cX3_isPivot 2 (some .boolean), Cond.instanceMethod yX0_vectorNumber, Cond.initialized RX0, Cond.selects RX0 yX0_vectorNumber yX0_vectorNumber, Cond.code yX0_vectorNumber cX0_vectorNumber 5 (some .int), Cond.fieldLink RX0 17 "SmallSpaces$Frame" "n" "I", Cond.fieldLink RX0 13 "SmallSpaces$Frame" "q" "I"]
def wsX4_foldSpace : List Cond := .code yX4_foldSpace cX4_foldSpace 7 (some .long) :: ((wsX4_foldSpace_r1 ++ wsX4_foldSpace_r2) ++ wsX30 ++ wsX00)
def wsX4_digest_r1 : List Cond := [Cond.constantLong RX4 191 (167), Cond.fieldLink RX4 10 "SmallSpaces" "frame" "LSmallSpaces$Frame;", Cond.fieldLink RX4 18 "SmallSpaces" "slots" "[LSmallSpaces$Space;", Cond.fieldLink RX4 28 "SmallSpaces" "heap" "LSmallSpaces$Heap;", Cond.fieldLink RX4 35 "SmallSpaces" "linear" "LSmallSpaces$Linear;", Cond.fieldLink RX4 160 "SmallSpaces" "greedyDone" "I", Cond.fieldLink RX4 184 "SmallSpaces" "roundsDone" "I", Cond.methodLink RX4 193 yX4_fold, Cond.static yX4_fold, Cond.initialized RX4, Cond.code yX4_fold cX4_fold 3 (some .long), Cond.constantLong RX4 209 (31), Cond.methodLink RX4 197 yX4_foldSpace, Cond.static yX4_foldSpace, Cond.code yX4_foldSpace cX4_foldSpace 7 (some .long), Cond.instanceMethod yX3_rank, Cond.initialized RX3, Cond.selects RX3 yX3_rank yX3_rank, Cond.code yX3_rank cX3_rank 1 (some .int), Cond.fieldLink RX3 22 "SmallSpaces$Space" "pivots" "I", Cond.methodLink RX3 32 yJ6_bitCount_0f7a4, Cond.static yJ6_bitCount_0f7a4, Cond.initialized RJ6, Cond.code yJ6_bitCount_0f7a4 cJ6_bitCount_0f7a4 1 (some .int)]
def wsX4_digest_r2 : List Cond := [Cond.constant RJ6 265 (1431655765), Cond.constant RJ6 266 (858993459), Cond.constant RJ6 267 (252645135), Cond.instanceMethod yX3_rowNumber, Cond.selects RX3 yX3_rowNumber yX3_rowNumber, Cond.code yX3_rowNumber cX3_rowNumber 4 (some .int), Cond.fieldLink RX3 18 "SmallSpaces$Space" "frame" "LSmallSpaces$Frame;", Cond.fieldLink RX3 9 "SmallSpaces$Space" "cells" "[I", Cond.methodLink RX3 43 yX3_isPivot, Cond.instanceMethod yX3_isPivot, Cond.selects RX3 yX3_isPivot yX3_isPivot, Cond.code yX3_isPivot cX3_isPivot 2 (some .boolean), Cond.instanceMethod yX0_vectorNumber, Cond.initialized RX0, Cond.selects RX0 yX0_vectorNumber yX0_vectorNumber, Cond.code yX0_vectorNumber cX0_vectorNumber 5 (some .int), Cond.fieldLink RX0 17 "SmallSpaces$Frame" "n" "I", Cond.fieldLink RX0 13 "SmallSpaces$Frame" "q" "I", Cond.instanceMethod yX2_imageNumber, Cond.initialized RX2, Cond.selects RX2 yX2_imageNumber yX2_imageNumber, Cond.code yX2_imageNumber cX2_imageNumber 2 (some .int), Cond.fieldLink RX2 18 "SmallSpaces$Linear" "frame" "LSmallSpaces$Frame;", Cond.fieldLink RX2 9 "SmallSpaces$Linear" "cells" "[I"]
def wsX4_digest : List Cond := .code yX4_digest cX4_digest 4 (some .long) :: ((wsX4_digest_r1 ++ wsX4_digest_r2) ++ wsX40 ++ wsX00 ++ wsX10 ++ wsX30 ++ wsX20)
def wsX5_power : List Cond := .code yX5_power cX5_power 4 (some .int) :: ([])
def wsX5_begin : List Cond := .code yX5_begin cX5_begin 2 none :: ([.fieldLink RX5 38 "SmallSpacesModel" "q" "I", .fieldLink RX5 42 "SmallSpacesModel" "n" "I", .fieldLink RX5 52 "SmallSpacesModel" "vectors" "I", .fieldLink RX5 20 "SmallSpacesModel" "dims" "[I", .fieldLink RX5 55 "SmallSpacesModel" "heapMany" "I", .fieldLink RX5 7 "SmallSpacesModel" "images" "[I", .methodLink RX5 48 yX5_power, .static yX5_power, .initialized RX5, .code yX5_power cX5_power 4 (some .int)] ++ wsX50)
def wsX5_init_r1 : List Cond := [Cond.methodLink RX5 1 objectInit, Cond.instanceMethod objectInit, Cond.code objectInit ⟨#[0xb1]⟩ 1 none, Cond.arrayClass .int, Cond.fieldLink RX5 7 "SmallSpacesModel" "images" "[I", Cond.fieldLink RX5 13 "SmallSpacesModel" "work" "[I", Cond.arrayClass .boolean, Cond.fieldLink RX5 16 "SmallSpacesModel" "isPivot" "[Z", Cond.fieldLink RX5 20 "SmallSpacesModel" "dims" "[I", Cond.fieldLink RX5 23 "SmallSpacesModel" "rows" "[I", Cond.fieldLink RX5 26 "SmallSpacesModel" "aside" "[I", Cond.fieldLink RX5 29 "SmallSpacesModel" "pivots" "[I", Cond.fieldLink RX5 32 "SmallSpacesModel" "heapDims" "[I", Cond.fieldLink RX5 35 "SmallSpacesModel" "heapRows" "[I", Cond.fieldLink RX5 38 "SmallSpacesModel" "q" "I", Cond.fieldLink RX5 42 "SmallSpacesModel" "n" "I", Cond.methodLink RX5 45 yX5_begin, Cond.instanceMethod yX5_begin, Cond.selects RX5 yX5_begin yX5_begin, Cond.initialized RX5, Cond.code yX5_begin cX5_begin 2 none, Cond.fieldLink RX5 52 "SmallSpacesModel" "vectors" "I", Cond.fieldLink RX5 55 "SmallSpacesModel" "heapMany" "I", Cond.methodLink RX5 48 yX5_power]
def wsX5_init_r2 : List Cond := [Cond.static yX5_power, Cond.code yX5_power cX5_power 4 (some .int)]
def wsX5_init : List Cond := .code yX5_init cX5_init 1 none :: ((wsX5_init_r1 ++ wsX5_init_r2) ++ wsX50)
def wsX5_in : List Cond := .code yX5_in cX5_in 6 (some .boolean) :: ([])
def wsX5_field : List Cond := .code yX5_field cX5_field 4 (some .int) :: ([.fieldLink RX5 38 "SmallSpacesModel" "q" "I", .fieldLink RX5 42 "SmallSpacesModel" "n" "I", .fieldLink RX5 52 "SmallSpacesModel" "vectors" "I", .methodLink RX5 58 yX5_in, .static yX5_in, .initialized RX5, .code yX5_in cX5_in 6 (some .boolean), .methodLink RX5 45 yX5_begin, .instanceMethod yX5_begin, .selects RX5 yX5_begin yX5_begin, .code yX5_begin cX5_begin 2 none, .fieldLink RX5 20 "SmallSpacesModel" "dims" "[I", .fieldLink RX5 55 "SmallSpacesModel" "heapMany" "I", .fieldLink RX5 7 "SmallSpacesModel" "images" "[I", .methodLink RX5 48 yX5_power, .static yX5_power, .code yX5_power cX5_power 4 (some .int)] ++ wsX50)
def wsX5_figure : List Cond := .code yX5_figure cX5_figure 3 (some .int) :: ([.fieldLink RX5 38 "SmallSpacesModel" "q" "I", .fieldLink RX5 42 "SmallSpacesModel" "n" "I", .methodLink RX5 48 yX5_power, .static yX5_power, .initialized RX5, .code yX5_power cX5_power 4 (some .int)] ++ wsX50)
def wsX5_isVector : List Cond := .code yX5_isVector cX5_isVector 2 (some .boolean) :: ([.fieldLink RX5 52 "SmallSpacesModel" "vectors" "I", .methodLink RX5 58 yX5_in, .static yX5_in, .initialized RX5, .code yX5_in cX5_in 6 (some .boolean)] ++ wsX50)
def wsX5_sum : List Cond := .code yX5_sum cX5_sum 6 (some .int) :: ([.fieldLink RX5 42 "SmallSpacesModel" "n" "I", .fieldLink RX5 38 "SmallSpacesModel" "q" "I", .methodLink RX5 62 yX5_figure, .instanceMethod yX5_figure, .selects RX5 yX5_figure yX5_figure, .initialized RX5, .code yX5_figure cX5_figure 3 (some .int), .methodLink RX5 48 yX5_power, .static yX5_power, .code yX5_power cX5_power 4 (some .int)] ++ wsX50)
def wsX5_plus : List Cond := .code yX5_plus cX5_plus 4 (some .int) :: ([.fieldLink RX5 38 "SmallSpacesModel" "q" "I", .methodLink RX5 65 yX5_isVector, .instanceMethod yX5_isVector, .selects RX5 yX5_isVector yX5_isVector, .initialized RX5, .code yX5_isVector cX5_isVector 2 (some .boolean), .fieldLink RX5 52 "SmallSpacesModel" "vectors" "I", .methodLink RX5 58 yX5_in, .static yX5_in, .code yX5_in cX5_in 6 (some .boolean), .methodLink RX5 69 yX5_sum, .instanceMethod yX5_sum, .selects RX5 yX5_sum yX5_sum, .code yX5_sum cX5_sum 6 (some .int), .fieldLink RX5 42 "SmallSpacesModel" "n" "I", .methodLink RX5 62 yX5_figure, .instanceMethod yX5_figure, .selects RX5 yX5_figure yX5_figure, .code yX5_figure cX5_figure 3 (some .int), .methodLink RX5 48 yX5_power, .static yX5_power, .code yX5_power cX5_power 4 (some .int)] ++ wsX50)
def wsX5_product : List Cond := .code yX5_product cX5_product 5 (some .int) :: ([.fieldLink RX5 42 "SmallSpacesModel" "n" "I", .fieldLink RX5 38 "SmallSpacesModel" "q" "I", .methodLink RX5 62 yX5_figure, .instanceMethod yX5_figure, .selects RX5 yX5_figure yX5_figure, .initialized RX5, .code yX5_figure cX5_figure 3 (some .int), .methodLink RX5 48 yX5_power, .static yX5_power, .code yX5_power cX5_power 4 (some .int)] ++ wsX50)
def wsX5_times : List Cond := .code yX5_times cX5_times 3 (some .int) :: ([.methodLink RX5 65 yX5_isVector, .instanceMethod yX5_isVector, .selects RX5 yX5_isVector yX5_isVector, .initialized RX5, .code yX5_isVector cX5_isVector 2 (some .boolean), .fieldLink RX5 52 "SmallSpacesModel" "vectors" "I", .methodLink RX5 58 yX5_in, .static yX5_in, .code yX5_in cX5_in 6 (some .boolean), .methodLink RX5 73 yX5_product, .instanceMethod yX5_product, .selects RX5 yX5_product yX5_product, .code yX5_product cX5_product 5 (some .int), .fieldLink RX5 42 "SmallSpacesModel" "n" "I", .fieldLink RX5 38 "SmallSpacesModel" "q" "I", .methodLink RX5 62 yX5_figure, .instanceMethod yX5_figure, .selects RX5 yX5_figure yX5_figure, .code yX5_figure cX5_figure 3 (some .int), .methodLink RX5 48 yX5_power, .static yX5_power, .code yX5_power cX5_power 4 (some .int)] ++ wsX50)
def wsX5_settle : List Cond := .code yX5_settle cX5_settle 8 none :: ([.fieldLink RX5 42 "SmallSpacesModel" "n" "I", .fieldLink RX5 76 "SmallSpacesModel" "worked" "I", .fieldLink RX5 13 "SmallSpacesModel" "work" "[I", .fieldLink RX5 38 "SmallSpacesModel" "q" "I", .methodLink RX5 62 yX5_figure, .instanceMethod yX5_figure, .selects RX5 yX5_figure yX5_figure, .initialized RX5, .code yX5_figure cX5_figure 3 (some .int), .methodLink RX5 48 yX5_power, .static yX5_power, .code yX5_power cX5_power 4 (some .int), .methodLink RX5 69 yX5_sum, .instanceMethod yX5_sum, .selects RX5 yX5_sum yX5_sum, .code yX5_sum cX5_sum 6 (some .int)] ++ wsX50)
def wsX5_pivot : List Cond := .code yX5_pivot cX5_pivot 3 (some .int) :: ([.methodLink RX5 62 yX5_figure, .instanceMethod yX5_figure, .selects RX5 yX5_figure yX5_figure, .initialized RX5, .code yX5_figure cX5_figure 3 (some .int), .fieldLink RX5 38 "SmallSpacesModel" "q" "I", .fieldLink RX5 42 "SmallSpacesModel" "n" "I", .methodLink RX5 48 yX5_power, .static yX5_power, .code yX5_power cX5_power 4 (some .int)] ++ wsX50)
def wsX5_turn_r1 : List Cond := [Cond.fieldLink RX5 76 "SmallSpacesModel" "worked" "I", Cond.fieldLink RX5 16 "SmallSpacesModel" "isPivot" "[Z", Cond.fieldLink RX5 13 "SmallSpacesModel" "work" "[I", Cond.fieldLink RX5 42 "SmallSpacesModel" "n" "I", Cond.fieldLink RX5 38 "SmallSpacesModel" "q" "I", Cond.methodLink RX5 79 yX5_pivot, Cond.instanceMethod yX5_pivot, Cond.selects RX5 yX5_pivot yX5_pivot, Cond.initialized RX5, Cond.code yX5_pivot cX5_pivot 3 (some .int), Cond.methodLink RX5 62 yX5_figure, Cond.instanceMethod yX5_figure, Cond.selects RX5 yX5_figure yX5_figure, Cond.code yX5_figure cX5_figure 3 (some .int), Cond.methodLink RX5 48 yX5_power, Cond.static yX5_power, Cond.code yX5_power cX5_power 4 (some .int), Cond.methodLink RX5 83 yX5_settle, Cond.instanceMethod yX5_settle, Cond.selects RX5 yX5_settle yX5_settle, Cond.code yX5_settle cX5_settle 8 none, Cond.methodLink RX5 69 yX5_sum, Cond.instanceMethod yX5_sum, Cond.selects RX5 yX5_sum yX5_sum]
def wsX5_turn_r2 : List Cond := [Cond.code yX5_sum cX5_sum 6 (some .int)]
def wsX5_turn : List Cond := .code yX5_turn cX5_turn 6 none :: ((wsX5_turn_r1 ++ wsX5_turn_r2) ++ wsX50)
def wsX5_isSlot : List Cond := .code yX5_isSlot cX5_isSlot 1 (some .boolean) :: ([.constantLong RX5 86 (11), .methodLink RX5 58 yX5_in, .static yX5_in, .initialized RX5, .code yX5_in cX5_in 6 (some .boolean)])
def wsX5_load : List Cond := .code yX5_load cX5_load 3 none :: ([.fieldLink RX5 20 "SmallSpacesModel" "dims" "[I", .fieldLink RX5 13 "SmallSpacesModel" "work" "[I", .fieldLink RX5 76 "SmallSpacesModel" "worked" "I", .fieldLink RX5 23 "SmallSpacesModel" "rows" "[I"] ++ wsX50)
def wsX5_save : List Cond := .code yX5_save cX5_save 3 (some .int) :: ([.fieldLink RX5 20 "SmallSpacesModel" "dims" "[I", .fieldLink RX5 76 "SmallSpacesModel" "worked" "I", .fieldLink RX5 23 "SmallSpacesModel" "rows" "[I", .fieldLink RX5 13 "SmallSpacesModel" "work" "[I"] ++ wsX50)
def wsX5_add_r1 : List Cond := [Cond.fieldLink RX5 76 "SmallSpacesModel" "worked" "I", Cond.fieldLink RX5 13 "SmallSpacesModel" "work" "[I", Cond.methodLink RX5 88 yX5_isSlot, Cond.static yX5_isSlot, Cond.initialized RX5, Cond.code yX5_isSlot cX5_isSlot 1 (some .boolean), Cond.constantLong RX5 86 (11), Cond.methodLink RX5 58 yX5_in, Cond.static yX5_in, Cond.code yX5_in cX5_in 6 (some .boolean), Cond.methodLink RX5 65 yX5_isVector, Cond.instanceMethod yX5_isVector, Cond.selects RX5 yX5_isVector yX5_isVector, Cond.code yX5_isVector cX5_isVector 2 (some .boolean), Cond.fieldLink RX5 52 "SmallSpacesModel" "vectors" "I", Cond.methodLink RX5 91 yX5_load, Cond.instanceMethod yX5_load, Cond.selects RX5 yX5_load yX5_load, Cond.code yX5_load cX5_load 3 none, Cond.fieldLink RX5 20 "SmallSpacesModel" "dims" "[I", Cond.fieldLink RX5 23 "SmallSpacesModel" "rows" "[I", Cond.methodLink RX5 83 yX5_settle, Cond.instanceMethod yX5_settle, Cond.selects RX5 yX5_settle yX5_settle]
def wsX5_add_r2 : List Cond := [Cond.code yX5_settle cX5_settle 8 none, Cond.fieldLink RX5 42 "SmallSpacesModel" "n" "I", Cond.fieldLink RX5 38 "SmallSpacesModel" "q" "I", Cond.methodLink RX5 62 yX5_figure, Cond.instanceMethod yX5_figure, Cond.selects RX5 yX5_figure yX5_figure, Cond.code yX5_figure cX5_figure 3 (some .int), Cond.methodLink RX5 48 yX5_power, Cond.static yX5_power, Cond.code yX5_power cX5_power 4 (some .int), Cond.methodLink RX5 69 yX5_sum, Cond.instanceMethod yX5_sum, Cond.selects RX5 yX5_sum yX5_sum, Cond.code yX5_sum cX5_sum 6 (some .int), Cond.methodLink RX5 95 yX5_save, Cond.instanceMethod yX5_save, Cond.selects RX5 yX5_save yX5_save, Cond.code yX5_save cX5_save 3 (some .int)]
def wsX5_add : List Cond := .code yX5_add cX5_add 3 (some .int) :: ((wsX5_add_r1 ++ wsX5_add_r2) ++ wsX50)
def wsX5_clear : List Cond := .code yX5_clear cX5_clear 3 (some .int) :: ([.fieldLink RX5 20 "SmallSpacesModel" "dims" "[I", .methodLink RX5 88 yX5_isSlot, .static yX5_isSlot, .initialized RX5, .code yX5_isSlot cX5_isSlot 1 (some .boolean), .constantLong RX5 86 (11), .methodLink RX5 58 yX5_in, .static yX5_in, .code yX5_in cX5_in 6 (some .boolean)] ++ wsX50)
def wsX5_dim : List Cond := .code yX5_dim cX5_dim 2 (some .int) :: ([.fieldLink RX5 20 "SmallSpacesModel" "dims" "[I", .methodLink RX5 88 yX5_isSlot, .static yX5_isSlot, .initialized RX5, .code yX5_isSlot cX5_isSlot 1 (some .boolean), .constantLong RX5 86 (11), .methodLink RX5 58 yX5_in, .static yX5_in, .code yX5_in cX5_in 6 (some .boolean)] ++ wsX50)
def wsX5_row : List Cond := .code yX5_row cX5_row 3 (some .int) :: ([.fieldLink RX5 20 "SmallSpacesModel" "dims" "[I", .fieldLink RX5 23 "SmallSpacesModel" "rows" "[I", .methodLink RX5 88 yX5_isSlot, .static yX5_isSlot, .initialized RX5, .code yX5_isSlot cX5_isSlot 1 (some .boolean), .constantLong RX5 86 (11), .methodLink RX5 58 yX5_in, .static yX5_in, .code yX5_in cX5_in 6 (some .boolean)] ++ wsX50)
def wsX5_areSlots : List Cond := .code yX5_areSlots cX5_areSlots 3 (some .boolean) :: ([.methodLink RX5 88 yX5_isSlot, .static yX5_isSlot, .initialized RX5, .code yX5_isSlot cX5_isSlot 1 (some .boolean), .constantLong RX5 86 (11), .methodLink RX5 58 yX5_in, .static yX5_in, .code yX5_in cX5_in 6 (some .boolean)])
def wsX5_joined_r1 : List Cond := [Cond.fieldLink RX5 76 "SmallSpacesModel" "worked" "I", Cond.methodLink RX5 91 yX5_load, Cond.instanceMethod yX5_load, Cond.selects RX5 yX5_load yX5_load, Cond.initialized RX5, Cond.code yX5_load cX5_load 3 none, Cond.fieldLink RX5 20 "SmallSpacesModel" "dims" "[I", Cond.fieldLink RX5 13 "SmallSpacesModel" "work" "[I", Cond.fieldLink RX5 23 "SmallSpacesModel" "rows" "[I", Cond.methodLink RX5 83 yX5_settle, Cond.instanceMethod yX5_settle, Cond.selects RX5 yX5_settle yX5_settle, Cond.code yX5_settle cX5_settle 8 none, Cond.fieldLink RX5 42 "SmallSpacesModel" "n" "I", Cond.fieldLink RX5 38 "SmallSpacesModel" "q" "I", Cond.methodLink RX5 62 yX5_figure, Cond.instanceMethod yX5_figure, Cond.selects RX5 yX5_figure yX5_figure, Cond.code yX5_figure cX5_figure 3 (some .int), Cond.methodLink RX5 48 yX5_power, Cond.static yX5_power, Cond.code yX5_power cX5_power 4 (some .int), Cond.methodLink RX5 69 yX5_sum, Cond.instanceMethod yX5_sum]
def wsX5_joined_r2 : List Cond := [Cond.selects RX5 yX5_sum yX5_sum, Cond.code yX5_sum cX5_sum 6 (some .int)]
def wsX5_joined : List Cond := .code yX5_joined cX5_joined 3 (some .int) :: ((wsX5_joined_r1 ++ wsX5_joined_r2) ++ wsX50)
def wsX5_join_r1 : List Cond := [Cond.methodLink RX5 98 yX5_areSlots, Cond.static yX5_areSlots, Cond.initialized RX5, Cond.code yX5_areSlots cX5_areSlots 3 (some .boolean), Cond.methodLink RX5 88 yX5_isSlot, Cond.static yX5_isSlot, Cond.code yX5_isSlot cX5_isSlot 1 (some .boolean), Cond.constantLong RX5 86 (11), Cond.methodLink RX5 58 yX5_in, Cond.static yX5_in, Cond.code yX5_in cX5_in 6 (some .boolean), Cond.methodLink RX5 102 yX5_joined, Cond.instanceMethod yX5_joined, Cond.selects RX5 yX5_joined yX5_joined, Cond.code yX5_joined cX5_joined 3 (some .int), Cond.fieldLink RX5 76 "SmallSpacesModel" "worked" "I", Cond.methodLink RX5 91 yX5_load, Cond.instanceMethod yX5_load, Cond.selects RX5 yX5_load yX5_load, Cond.code yX5_load cX5_load 3 none, Cond.fieldLink RX5 20 "SmallSpacesModel" "dims" "[I", Cond.fieldLink RX5 13 "SmallSpacesModel" "work" "[I", Cond.fieldLink RX5 23 "SmallSpacesModel" "rows" "[I", Cond.methodLink RX5 83 yX5_settle]
def wsX5_join_r2 : List Cond := [Cond.instanceMethod yX5_settle, Cond.selects RX5 yX5_settle yX5_settle, Cond.code yX5_settle cX5_settle 8 none, Cond.fieldLink RX5 42 "SmallSpacesModel" "n" "I", Cond.fieldLink RX5 38 "SmallSpacesModel" "q" "I", Cond.methodLink RX5 62 yX5_figure, Cond.instanceMethod yX5_figure, Cond.selects RX5 yX5_figure yX5_figure, Cond.code yX5_figure cX5_figure 3 (some .int), Cond.methodLink RX5 48 yX5_power, Cond.static yX5_power, Cond.code yX5_power cX5_power 4 (some .int), Cond.methodLink RX5 69 yX5_sum, Cond.instanceMethod yX5_sum, Cond.selects RX5 yX5_sum yX5_sum, Cond.code yX5_sum cX5_sum 6 (some .int), Cond.methodLink RX5 95 yX5_save, Cond.instanceMethod yX5_save, Cond.selects RX5 yX5_save yX5_save, Cond.code yX5_save cX5_save 3 (some .int)]
def wsX5_join : List Cond := .code yX5_join cX5_join 4 (some .int) :: ((wsX5_join_r1 ++ wsX5_join_r2) ++ wsX50)
def wsX5_meet_r1 : List Cond := [Cond.fieldLink RX5 76 "SmallSpacesModel" "worked" "I", Cond.fieldLink RX5 26 "SmallSpacesModel" "aside" "[I", Cond.fieldLink RX5 13 "SmallSpacesModel" "work" "[I", Cond.methodLink RX5 98 yX5_areSlots, Cond.static yX5_areSlots, Cond.initialized RX5, Cond.code yX5_areSlots cX5_areSlots 3 (some .boolean), Cond.methodLink RX5 88 yX5_isSlot, Cond.static yX5_isSlot, Cond.code yX5_isSlot cX5_isSlot 1 (some .boolean), Cond.constantLong RX5 86 (11), Cond.methodLink RX5 58 yX5_in, Cond.static yX5_in, Cond.code yX5_in cX5_in 6 (some .boolean), Cond.methodLink RX5 91 yX5_load, Cond.instanceMethod yX5_load, Cond.selects RX5 yX5_load yX5_load, Cond.code yX5_load cX5_load 3 none, Cond.fieldLink RX5 20 "SmallSpacesModel" "dims" "[I", Cond.fieldLink RX5 23 "SmallSpacesModel" "rows" "[I", Cond.methodLink RX5 105 yX5_turn, Cond.instanceMethod yX5_turn, Cond.selects RX5 yX5_turn yX5_turn, Cond.code yX5_turn cX5_turn 6 none]
def wsX5_meet_r2 : List Cond := [Cond.fieldLink RX5 16 "SmallSpacesModel" "isPivot" "[Z", Cond.fieldLink RX5 42 "SmallSpacesModel" "n" "I", Cond.fieldLink RX5 38 "SmallSpacesModel" "q" "I", Cond.methodLink RX5 79 yX5_pivot, Cond.instanceMethod yX5_pivot, Cond.selects RX5 yX5_pivot yX5_pivot, Cond.code yX5_pivot cX5_pivot 3 (some .int), Cond.methodLink RX5 62 yX5_figure, Cond.instanceMethod yX5_figure, Cond.selects RX5 yX5_figure yX5_figure, Cond.code yX5_figure cX5_figure 3 (some .int), Cond.methodLink RX5 48 yX5_power, Cond.static yX5_power, Cond.code yX5_power cX5_power 4 (some .int), Cond.methodLink RX5 83 yX5_settle, Cond.instanceMethod yX5_settle, Cond.selects RX5 yX5_settle yX5_settle, Cond.code yX5_settle cX5_settle 8 none, Cond.methodLink RX5 69 yX5_sum, Cond.instanceMethod yX5_sum, Cond.selects RX5 yX5_sum yX5_sum, Cond.code yX5_sum cX5_sum 6 (some .int), Cond.methodLink RX5 95 yX5_save, Cond.instanceMethod yX5_save]
def wsX5_meet_r3 : List Cond := [Cond.selects RX5 yX5_save yX5_save, Cond.code yX5_save cX5_save 3 (some .int)]
def wsX5_meet : List Cond := .code yX5_meet cX5_meet 6 (some .int) :: ((wsX5_meet_r1 ++ (wsX5_meet_r2 ++ wsX5_meet_r3)) ++ wsX50)
def wsX5_dual_r1 : List Cond := [Cond.fieldLink RX5 76 "SmallSpacesModel" "worked" "I", Cond.methodLink RX5 98 yX5_areSlots, Cond.static yX5_areSlots, Cond.initialized RX5, Cond.code yX5_areSlots cX5_areSlots 3 (some .boolean), Cond.methodLink RX5 88 yX5_isSlot, Cond.static yX5_isSlot, Cond.code yX5_isSlot cX5_isSlot 1 (some .boolean), Cond.constantLong RX5 86 (11), Cond.methodLink RX5 58 yX5_in, Cond.static yX5_in, Cond.code yX5_in cX5_in 6 (some .boolean), Cond.methodLink RX5 91 yX5_load, Cond.instanceMethod yX5_load, Cond.selects RX5 yX5_load yX5_load, Cond.code yX5_load cX5_load 3 none, Cond.fieldLink RX5 20 "SmallSpacesModel" "dims" "[I", Cond.fieldLink RX5 13 "SmallSpacesModel" "work" "[I", Cond.fieldLink RX5 23 "SmallSpacesModel" "rows" "[I", Cond.methodLink RX5 105 yX5_turn, Cond.instanceMethod yX5_turn, Cond.selects RX5 yX5_turn yX5_turn, Cond.code yX5_turn cX5_turn 6 none, Cond.fieldLink RX5 16 "SmallSpacesModel" "isPivot" "[Z"]
def wsX5_dual_r2 : List Cond := [Cond.fieldLink RX5 42 "SmallSpacesModel" "n" "I", Cond.fieldLink RX5 38 "SmallSpacesModel" "q" "I", Cond.methodLink RX5 79 yX5_pivot, Cond.instanceMethod yX5_pivot, Cond.selects RX5 yX5_pivot yX5_pivot, Cond.code yX5_pivot cX5_pivot 3 (some .int), Cond.methodLink RX5 62 yX5_figure, Cond.instanceMethod yX5_figure, Cond.selects RX5 yX5_figure yX5_figure, Cond.code yX5_figure cX5_figure 3 (some .int), Cond.methodLink RX5 48 yX5_power, Cond.static yX5_power, Cond.code yX5_power cX5_power 4 (some .int), Cond.methodLink RX5 83 yX5_settle, Cond.instanceMethod yX5_settle, Cond.selects RX5 yX5_settle yX5_settle, Cond.code yX5_settle cX5_settle 8 none, Cond.methodLink RX5 69 yX5_sum, Cond.instanceMethod yX5_sum, Cond.selects RX5 yX5_sum yX5_sum, Cond.code yX5_sum cX5_sum 6 (some .int), Cond.methodLink RX5 95 yX5_save, Cond.instanceMethod yX5_save, Cond.selects RX5 yX5_save yX5_save]
def wsX5_dual_r3 : List Cond := [Cond.code yX5_save cX5_save 3 (some .int)]
def wsX5_dual : List Cond := .code yX5_dual cX5_dual 3 (some .int) :: ((wsX5_dual_r1 ++ (wsX5_dual_r2 ++ wsX5_dual_r3)) ++ wsX50)
def wsX5_holds : List Cond := .code yX5_holds cX5_holds 6 (some .boolean) :: ([.fieldLink RX5 20 "SmallSpacesModel" "dims" "[I", .fieldLink RX5 23 "SmallSpacesModel" "rows" "[I", .fieldLink RX5 38 "SmallSpacesModel" "q" "I", .methodLink RX5 79 yX5_pivot, .instanceMethod yX5_pivot, .selects RX5 yX5_pivot yX5_pivot, .initialized RX5, .code yX5_pivot cX5_pivot 3 (some .int), .methodLink RX5 62 yX5_figure, .instanceMethod yX5_figure, .selects RX5 yX5_figure yX5_figure, .code yX5_figure cX5_figure 3 (some .int), .fieldLink RX5 42 "SmallSpacesModel" "n" "I", .methodLink RX5 48 yX5_power, .static yX5_power, .code yX5_power cX5_power 4 (some .int), .methodLink RX5 69 yX5_sum, .instanceMethod yX5_sum, .selects RX5 yX5_sum yX5_sum, .code yX5_sum cX5_sum 6 (some .int)] ++ wsX50)
def wsX5_has_r1 : List Cond := [Cond.methodLink RX5 88 yX5_isSlot, Cond.static yX5_isSlot, Cond.initialized RX5, Cond.code yX5_isSlot cX5_isSlot 1 (some .boolean), Cond.constantLong RX5 86 (11), Cond.methodLink RX5 58 yX5_in, Cond.static yX5_in, Cond.code yX5_in cX5_in 6 (some .boolean), Cond.methodLink RX5 65 yX5_isVector, Cond.instanceMethod yX5_isVector, Cond.selects RX5 yX5_isVector yX5_isVector, Cond.code yX5_isVector cX5_isVector 2 (some .boolean), Cond.fieldLink RX5 52 "SmallSpacesModel" "vectors" "I", Cond.methodLink RX5 108 yX5_holds, Cond.instanceMethod yX5_holds, Cond.selects RX5 yX5_holds yX5_holds, Cond.code yX5_holds cX5_holds 6 (some .boolean), Cond.fieldLink RX5 20 "SmallSpacesModel" "dims" "[I", Cond.fieldLink RX5 23 "SmallSpacesModel" "rows" "[I", Cond.fieldLink RX5 38 "SmallSpacesModel" "q" "I", Cond.methodLink RX5 79 yX5_pivot, Cond.instanceMethod yX5_pivot, Cond.selects RX5 yX5_pivot yX5_pivot, Cond.code yX5_pivot cX5_pivot 3 (some .int)]
def wsX5_has_r2 : List Cond := [Cond.methodLink RX5 62 yX5_figure, Cond.instanceMethod yX5_figure, Cond.selects RX5 yX5_figure yX5_figure, Cond.code yX5_figure cX5_figure 3 (some .int), Cond.fieldLink RX5 42 "SmallSpacesModel" "n" "I", Cond.methodLink RX5 48 yX5_power, Cond.static yX5_power, Cond.code yX5_power cX5_power 4 (some .int), Cond.methodLink RX5 69 yX5_sum, Cond.instanceMethod yX5_sum, Cond.selects RX5 yX5_sum yX5_sum, Cond.code yX5_sum cX5_sum 6 (some .int)]
def wsX5_has : List Cond := .code yX5_has cX5_has 3 (some .int) :: ((wsX5_has_r1 ++ wsX5_has_r2) ++ wsX50)
def wsX5_within_r1 : List Cond := [Cond.fieldLink RX5 20 "SmallSpacesModel" "dims" "[I", Cond.fieldLink RX5 23 "SmallSpacesModel" "rows" "[I", Cond.methodLink RX5 88 yX5_isSlot, Cond.static yX5_isSlot, Cond.initialized RX5, Cond.code yX5_isSlot cX5_isSlot 1 (some .boolean), Cond.constantLong RX5 86 (11), Cond.methodLink RX5 58 yX5_in, Cond.static yX5_in, Cond.code yX5_in cX5_in 6 (some .boolean), Cond.methodLink RX5 108 yX5_holds, Cond.instanceMethod yX5_holds, Cond.selects RX5 yX5_holds yX5_holds, Cond.code yX5_holds cX5_holds 6 (some .boolean), Cond.fieldLink RX5 38 "SmallSpacesModel" "q" "I", Cond.methodLink RX5 79 yX5_pivot, Cond.instanceMethod yX5_pivot, Cond.selects RX5 yX5_pivot yX5_pivot, Cond.code yX5_pivot cX5_pivot 3 (some .int), Cond.methodLink RX5 62 yX5_figure, Cond.instanceMethod yX5_figure, Cond.selects RX5 yX5_figure yX5_figure, Cond.code yX5_figure cX5_figure 3 (some .int), Cond.fieldLink RX5 42 "SmallSpacesModel" "n" "I"]
def wsX5_within_r2 : List Cond := [Cond.methodLink RX5 48 yX5_power, Cond.static yX5_power, Cond.code yX5_power cX5_power 4 (some .int), Cond.methodLink RX5 69 yX5_sum, Cond.instanceMethod yX5_sum, Cond.selects RX5 yX5_sum yX5_sum, Cond.code yX5_sum cX5_sum 6 (some .int)]
def wsX5_within : List Cond := .code yX5_within cX5_within 5 (some .int) :: ((wsX5_within_r1 ++ wsX5_within_r2) ++ wsX50)
def wsX5_apart_r1 : List Cond := [Cond.fieldLink RX5 20 "SmallSpacesModel" "dims" "[I", Cond.methodLink RX5 88 yX5_isSlot, Cond.static yX5_isSlot, Cond.initialized RX5, Cond.code yX5_isSlot cX5_isSlot 1 (some .boolean), Cond.constantLong RX5 86 (11), Cond.methodLink RX5 58 yX5_in, Cond.static yX5_in, Cond.code yX5_in cX5_in 6 (some .boolean), Cond.methodLink RX5 102 yX5_joined, Cond.instanceMethod yX5_joined, Cond.selects RX5 yX5_joined yX5_joined, Cond.code yX5_joined cX5_joined 3 (some .int), Cond.fieldLink RX5 76 "SmallSpacesModel" "worked" "I", Cond.methodLink RX5 91 yX5_load, Cond.instanceMethod yX5_load, Cond.selects RX5 yX5_load yX5_load, Cond.code yX5_load cX5_load 3 none, Cond.fieldLink RX5 13 "SmallSpacesModel" "work" "[I", Cond.fieldLink RX5 23 "SmallSpacesModel" "rows" "[I", Cond.methodLink RX5 83 yX5_settle, Cond.instanceMethod yX5_settle, Cond.selects RX5 yX5_settle yX5_settle, Cond.code yX5_settle cX5_settle 8 none]
def wsX5_apart_r2 : List Cond := [Cond.fieldLink RX5 42 "SmallSpacesModel" "n" "I", Cond.fieldLink RX5 38 "SmallSpacesModel" "q" "I", Cond.methodLink RX5 62 yX5_figure, Cond.instanceMethod yX5_figure, Cond.selects RX5 yX5_figure yX5_figure, Cond.code yX5_figure cX5_figure 3 (some .int), Cond.methodLink RX5 48 yX5_power, Cond.static yX5_power, Cond.code yX5_power cX5_power 4 (some .int), Cond.methodLink RX5 69 yX5_sum, Cond.instanceMethod yX5_sum, Cond.selects RX5 yX5_sum yX5_sum, Cond.code yX5_sum cX5_sum 6 (some .int)]
def wsX5_apart : List Cond := .code yX5_apart cX5_apart 3 (some .int) :: ((wsX5_apart_r1 ++ wsX5_apart_r2) ++ wsX50)
def wsX5_gauss : List Cond := .code yX5_gauss cX5_gauss 8 (some .int) :: ([.fieldLink RX5 38 "SmallSpacesModel" "q" "I", .methodLink RX5 58 yX5_in, .static yX5_in, .initialized RX5, .code yX5_in cX5_in 6 (some .boolean), .methodLink RX5 48 yX5_power, .static yX5_power, .code yX5_power cX5_power 4 (some .int)] ++ wsX50)
def wsX5_many : List Cond := .code yX5_many cX5_many 2 (some .int) :: ([.fieldLink RX5 42 "SmallSpacesModel" "n" "I", .methodLink RX5 112 yX5_gauss, .instanceMethod yX5_gauss, .selects RX5 yX5_gauss yX5_gauss, .initialized RX5, .code yX5_gauss cX5_gauss 8 (some .int), .fieldLink RX5 38 "SmallSpacesModel" "q" "I", .methodLink RX5 58 yX5_in, .static yX5_in, .code yX5_in cX5_in 6 (some .boolean), .methodLink RX5 48 yX5_power, .static yX5_power, .code yX5_power cX5_power 4 (some .int)] ++ wsX50)
def wsX5_free : List Cond := .code yX5_free cX5_free 4 (some .int) :: ([.fieldLink RX5 42 "SmallSpacesModel" "n" "I", .fieldLink RX5 29 "SmallSpacesModel" "pivots" "[I"] ++ wsX50)
def wsX5_goOn : List Cond := .code yX5_goOn cX5_goOn 4 (some .boolean) :: ([.fieldLink RX5 29 "SmallSpacesModel" "pivots" "[I", .fieldLink RX5 42 "SmallSpacesModel" "n" "I"] ++ wsX50)
def wsX5_firstPivots : List Cond := .code yX5_firstPivots cX5_firstPivots 3 none :: ([.fieldLink RX5 29 "SmallSpacesModel" "pivots" "[I"] ++ wsX50)
def wsX5_isFree : List Cond := .code yX5_isFree cX5_isFree 6 (some .boolean) :: ([.fieldLink RX5 29 "SmallSpacesModel" "pivots" "[I"] ++ wsX50)
def wsX5_number_r1 : List Cond := [Cond.fieldLink RX5 20 "SmallSpacesModel" "dims" "[I", Cond.fieldLink RX5 29 "SmallSpacesModel" "pivots" "[I", Cond.fieldLink RX5 23 "SmallSpacesModel" "rows" "[I", Cond.fieldLink RX5 38 "SmallSpacesModel" "q" "I", Cond.fieldLink RX5 42 "SmallSpacesModel" "n" "I", Cond.methodLink RX5 88 yX5_isSlot, Cond.static yX5_isSlot, Cond.initialized RX5, Cond.code yX5_isSlot cX5_isSlot 1 (some .boolean), Cond.constantLong RX5 86 (11), Cond.methodLink RX5 58 yX5_in, Cond.static yX5_in, Cond.code yX5_in cX5_in 6 (some .boolean), Cond.methodLink RX5 115 yX5_firstPivots, Cond.instanceMethod yX5_firstPivots, Cond.selects RX5 yX5_firstPivots yX5_firstPivots, Cond.code yX5_firstPivots cX5_firstPivots 3 none, Cond.methodLink RX5 79 yX5_pivot, Cond.instanceMethod yX5_pivot, Cond.selects RX5 yX5_pivot yX5_pivot, Cond.code yX5_pivot cX5_pivot 3 (some .int), Cond.methodLink RX5 62 yX5_figure, Cond.instanceMethod yX5_figure, Cond.selects RX5 yX5_figure yX5_figure]
def wsX5_number_r2 : List Cond := [Cond.code yX5_figure cX5_figure 3 (some .int), Cond.methodLink RX5 48 yX5_power, Cond.static yX5_power, Cond.code yX5_power cX5_power 4 (some .int), Cond.methodLink RX5 118 yX5_free, Cond.instanceMethod yX5_free, Cond.selects RX5 yX5_free yX5_free, Cond.code yX5_free cX5_free 4 (some .int), Cond.methodLink RX5 121 yX5_goOn, Cond.instanceMethod yX5_goOn, Cond.selects RX5 yX5_goOn yX5_goOn, Cond.code yX5_goOn cX5_goOn 4 (some .boolean), Cond.methodLink RX5 124 yX5_isFree, Cond.instanceMethod yX5_isFree, Cond.selects RX5 yX5_isFree yX5_isFree, Cond.code yX5_isFree cX5_isFree 6 (some .boolean)]
def wsX5_number : List Cond := .code yX5_number cX5_number 8 (some .int) :: ((wsX5_number_r1 ++ wsX5_number_r2) ++ wsX50)
def wsX5_lay_r1 : List Cond := [Cond.fieldLink RX5 38 "SmallSpacesModel" "q" "I", Cond.fieldLink RX5 76 "SmallSpacesModel" "worked" "I", Cond.fieldLink RX5 42 "SmallSpacesModel" "n" "I", Cond.fieldLink RX5 29 "SmallSpacesModel" "pivots" "[I", Cond.fieldLink RX5 13 "SmallSpacesModel" "work" "[I", Cond.methodLink RX5 115 yX5_firstPivots, Cond.instanceMethod yX5_firstPivots, Cond.selects RX5 yX5_firstPivots yX5_firstPivots, Cond.initialized RX5, Cond.code yX5_firstPivots cX5_firstPivots 3 none, Cond.methodLink RX5 118 yX5_free, Cond.instanceMethod yX5_free, Cond.selects RX5 yX5_free yX5_free, Cond.code yX5_free cX5_free 4 (some .int), Cond.methodLink RX5 48 yX5_power, Cond.static yX5_power, Cond.code yX5_power cX5_power 4 (some .int), Cond.methodLink RX5 121 yX5_goOn, Cond.instanceMethod yX5_goOn, Cond.selects RX5 yX5_goOn yX5_goOn, Cond.code yX5_goOn cX5_goOn 4 (some .boolean), Cond.methodLink RX5 124 yX5_isFree, Cond.instanceMethod yX5_isFree, Cond.selects RX5 yX5_isFree yX5_isFree]
def wsX5_lay_r2 : List Cond := [Cond.code yX5_isFree cX5_isFree 6 (some .boolean)]
def wsX5_lay : List Cond := .code yX5_lay cX5_lay 8 none :: ((wsX5_lay_r1 ++ wsX5_lay_r2) ++ wsX50)
def wsX5_numbered_r1 : List Cond := [Cond.fieldLink RX5 42 "SmallSpacesModel" "n" "I", Cond.methodLink RX5 88 yX5_isSlot, Cond.static yX5_isSlot, Cond.initialized RX5, Cond.code yX5_isSlot cX5_isSlot 1 (some .boolean), Cond.constantLong RX5 86 (11), Cond.methodLink RX5 58 yX5_in, Cond.static yX5_in, Cond.code yX5_in cX5_in 6 (some .boolean), Cond.methodLink RX5 112 yX5_gauss, Cond.instanceMethod yX5_gauss, Cond.selects RX5 yX5_gauss yX5_gauss, Cond.code yX5_gauss cX5_gauss 8 (some .int), Cond.fieldLink RX5 38 "SmallSpacesModel" "q" "I", Cond.methodLink RX5 48 yX5_power, Cond.static yX5_power, Cond.code yX5_power cX5_power 4 (some .int), Cond.methodLink RX5 127 yX5_lay, Cond.instanceMethod yX5_lay, Cond.selects RX5 yX5_lay yX5_lay, Cond.code yX5_lay cX5_lay 8 none, Cond.fieldLink RX5 76 "SmallSpacesModel" "worked" "I", Cond.fieldLink RX5 29 "SmallSpacesModel" "pivots" "[I", Cond.fieldLink RX5 13 "SmallSpacesModel" "work" "[I"]
def wsX5_numbered_r2 : List Cond := [Cond.methodLink RX5 115 yX5_firstPivots, Cond.instanceMethod yX5_firstPivots, Cond.selects RX5 yX5_firstPivots yX5_firstPivots, Cond.code yX5_firstPivots cX5_firstPivots 3 none, Cond.methodLink RX5 118 yX5_free, Cond.instanceMethod yX5_free, Cond.selects RX5 yX5_free yX5_free, Cond.code yX5_free cX5_free 4 (some .int), Cond.methodLink RX5 121 yX5_goOn, Cond.instanceMethod yX5_goOn, Cond.selects RX5 yX5_goOn yX5_goOn, Cond.code yX5_goOn cX5_goOn 4 (some .boolean), Cond.methodLink RX5 124 yX5_isFree, Cond.instanceMethod yX5_isFree, Cond.selects RX5 yX5_isFree yX5_isFree, Cond.code yX5_isFree cX5_isFree 6 (some .boolean), Cond.methodLink RX5 95 yX5_save, Cond.instanceMethod yX5_save, Cond.selects RX5 yX5_save yX5_save, Cond.code yX5_save cX5_save 3 (some .int), Cond.fieldLink RX5 20 "SmallSpacesModel" "dims" "[I", Cond.fieldLink RX5 23 "SmallSpacesModel" "rows" "[I"]
def wsX5_numbered : List Cond := .code yX5_numbered cX5_numbered 4 (some .int) :: ((wsX5_numbered_r1 ++ wsX5_numbered_r2) ++ wsX50)
def wsX5_over : List Cond := .code yX5_over cX5_over 3 (some .int) :: ([.fieldLink RX5 20 "SmallSpacesModel" "dims" "[I", .fieldLink RX5 42 "SmallSpacesModel" "n" "I", .methodLink RX5 88 yX5_isSlot, .static yX5_isSlot, .initialized RX5, .code yX5_isSlot cX5_isSlot 1 (some .boolean), .constantLong RX5 86 (11), .methodLink RX5 58 yX5_in, .static yX5_in, .code yX5_in cX5_in 6 (some .boolean), .methodLink RX5 112 yX5_gauss, .instanceMethod yX5_gauss, .selects RX5 yX5_gauss yX5_gauss, .code yX5_gauss cX5_gauss 8 (some .int), .fieldLink RX5 38 "SmallSpacesModel" "q" "I", .methodLink RX5 48 yX5_power, .static yX5_power, .code yX5_power cX5_power 4 (some .int)] ++ wsX50)
def wsX5_meeting : List Cond := .code yX5_meeting cX5_meeting 6 (some .int) :: ([.fieldLink RX5 20 "SmallSpacesModel" "dims" "[I", .fieldLink RX5 42 "SmallSpacesModel" "n" "I", .fieldLink RX5 38 "SmallSpacesModel" "q" "I", .methodLink RX5 88 yX5_isSlot, .static yX5_isSlot, .initialized RX5, .code yX5_isSlot cX5_isSlot 1 (some .boolean), .constantLong RX5 86 (11), .methodLink RX5 58 yX5_in, .static yX5_in, .code yX5_in cX5_in 6 (some .boolean), .methodLink RX5 112 yX5_gauss, .instanceMethod yX5_gauss, .selects RX5 yX5_gauss yX5_gauss, .code yX5_gauss cX5_gauss 8 (some .int), .methodLink RX5 48 yX5_power, .static yX5_power, .code yX5_power cX5_power 4 (some .int)] ++ wsX50)
def wsX5_toHeap : List Cond := .code yX5_toHeap cX5_toHeap 2 none :: ([.fieldLink RX5 32 "SmallSpacesModel" "heapDims" "[I", .fieldLink RX5 55 "SmallSpacesModel" "heapMany" "I", .fieldLink RX5 76 "SmallSpacesModel" "worked" "I", .fieldLink RX5 35 "SmallSpacesModel" "heapRows" "[I", .fieldLink RX5 13 "SmallSpacesModel" "work" "[I"] ++ wsX50)
def wsX5_loadHeap : List Cond := .code yX5_loadHeap cX5_loadHeap 3 none :: ([.fieldLink RX5 32 "SmallSpacesModel" "heapDims" "[I", .fieldLink RX5 13 "SmallSpacesModel" "work" "[I", .fieldLink RX5 76 "SmallSpacesModel" "worked" "I", .fieldLink RX5 35 "SmallSpacesModel" "heapRows" "[I"] ++ wsX50)
def wsX5_put : List Cond := .code yX5_put cX5_put 2 (some .int) :: ([.fieldLink RX5 55 "SmallSpacesModel" "heapMany" "I", .fieldLink RX5 76 "SmallSpacesModel" "worked" "I", .methodLink RX5 88 yX5_isSlot, .static yX5_isSlot, .initialized RX5, .code yX5_isSlot cX5_isSlot 1 (some .boolean), .constantLong RX5 86 (11), .methodLink RX5 58 yX5_in, .static yX5_in, .code yX5_in cX5_in 6 (some .boolean), .methodLink RX5 91 yX5_load, .instanceMethod yX5_load, .selects RX5 yX5_load yX5_load, .code yX5_load cX5_load 3 none, .fieldLink RX5 20 "SmallSpacesModel" "dims" "[I", .fieldLink RX5 13 "SmallSpacesModel" "work" "[I", .fieldLink RX5 23 "SmallSpacesModel" "rows" "[I", .methodLink RX5 131 yX5_toHeap, .instanceMethod yX5_toHeap, .selects RX5 yX5_toHeap yX5_toHeap, .code yX5_toHeap cX5_toHeap 2 none, .fieldLink RX5 32 "SmallSpacesModel" "heapDims" "[I", .fieldLink RX5 35 "SmallSpacesModel" "heapRows" "[I"] ++ wsX50)
def wsX5_empty : List Cond := .code yX5_empty cX5_empty 2 (some .int) :: ([.fieldLink RX5 55 "SmallSpacesModel" "heapMany" "I"] ++ wsX50)
def wsX5_take : List Cond := .code yX5_take cX5_take 3 (some .int) :: ([.fieldLink RX5 55 "SmallSpacesModel" "heapMany" "I", .fieldLink RX5 76 "SmallSpacesModel" "worked" "I", .methodLink RX5 88 yX5_isSlot, .static yX5_isSlot, .initialized RX5, .code yX5_isSlot cX5_isSlot 1 (some .boolean), .constantLong RX5 86 (11), .methodLink RX5 58 yX5_in, .static yX5_in, .code yX5_in cX5_in 6 (some .boolean), .methodLink RX5 134 yX5_loadHeap, .instanceMethod yX5_loadHeap, .selects RX5 yX5_loadHeap yX5_loadHeap, .code yX5_loadHeap cX5_loadHeap 3 none, .fieldLink RX5 32 "SmallSpacesModel" "heapDims" "[I", .fieldLink RX5 13 "SmallSpacesModel" "work" "[I", .fieldLink RX5 35 "SmallSpacesModel" "heapRows" "[I", .methodLink RX5 95 yX5_save, .instanceMethod yX5_save, .selects RX5 yX5_save yX5_save, .code yX5_save cX5_save 3 (some .int), .fieldLink RX5 20 "SmallSpacesModel" "dims" "[I", .fieldLink RX5 23 "SmallSpacesModel" "rows" "[I"] ++ wsX50)
def wsX5_least_r1 : List Cond := [Cond.fieldLink RX5 55 "SmallSpacesModel" "heapMany" "I", Cond.fieldLink RX5 76 "SmallSpacesModel" "worked" "I", Cond.fieldLink RX5 32 "SmallSpacesModel" "heapDims" "[I", Cond.methodLink RX5 134 yX5_loadHeap, Cond.instanceMethod yX5_loadHeap, Cond.selects RX5 yX5_loadHeap yX5_loadHeap, Cond.initialized RX5, Cond.code yX5_loadHeap cX5_loadHeap 3 none, Cond.fieldLink RX5 13 "SmallSpacesModel" "work" "[I", Cond.fieldLink RX5 35 "SmallSpacesModel" "heapRows" "[I", Cond.methodLink RX5 83 yX5_settle, Cond.instanceMethod yX5_settle, Cond.selects RX5 yX5_settle yX5_settle, Cond.code yX5_settle cX5_settle 8 none, Cond.fieldLink RX5 42 "SmallSpacesModel" "n" "I", Cond.fieldLink RX5 38 "SmallSpacesModel" "q" "I", Cond.methodLink RX5 62 yX5_figure, Cond.instanceMethod yX5_figure, Cond.selects RX5 yX5_figure yX5_figure, Cond.code yX5_figure cX5_figure 3 (some .int), Cond.methodLink RX5 48 yX5_power, Cond.static yX5_power, Cond.code yX5_power cX5_power 4 (some .int), Cond.methodLink RX5 69 yX5_sum]
def wsX5_least_r2 : List Cond := [Cond.instanceMethod yX5_sum, Cond.selects RX5 yX5_sum yX5_sum, Cond.code yX5_sum cX5_sum 6 (some .int)]
def wsX5_least : List Cond := .code yX5_least cX5_least 5 (some .int) :: ((wsX5_least_r1 ++ wsX5_least_r2) ++ wsX50)
def wsX5_bare : List Cond := .code yX5_bare cX5_bare 8 (some .int) :: ([.fieldLink RX5 52 "SmallSpacesModel" "vectors" "I", .fieldLink RX5 55 "SmallSpacesModel" "heapMany" "I", .fieldLink RX5 32 "SmallSpacesModel" "heapDims" "[I", .fieldLink RX5 35 "SmallSpacesModel" "heapRows" "[I", .fieldLink RX5 38 "SmallSpacesModel" "q" "I", .methodLink RX5 79 yX5_pivot, .instanceMethod yX5_pivot, .selects RX5 yX5_pivot yX5_pivot, .initialized RX5, .code yX5_pivot cX5_pivot 3 (some .int), .methodLink RX5 62 yX5_figure, .instanceMethod yX5_figure, .selects RX5 yX5_figure yX5_figure, .code yX5_figure cX5_figure 3 (some .int), .fieldLink RX5 42 "SmallSpacesModel" "n" "I", .methodLink RX5 48 yX5_power, .static yX5_power, .code yX5_power cX5_power 4 (some .int), .methodLink RX5 69 yX5_sum, .instanceMethod yX5_sum, .selects RX5 yX5_sum yX5_sum, .code yX5_sum cX5_sum 6 (some .int)] ++ wsX50)
def wsX5_greedy_r1 : List Cond := [Cond.fieldLink RX5 42 "SmallSpacesModel" "n" "I", Cond.constantLong RX5 137 (12), Cond.fieldLink RX5 139 "SmallSpacesModel" "greedies" "I", Cond.fieldLink RX5 55 "SmallSpacesModel" "heapMany" "I", Cond.fieldLink RX5 76 "SmallSpacesModel" "worked" "I", Cond.methodLink RX5 58 yX5_in, Cond.static yX5_in, Cond.initialized RX5, Cond.code yX5_in cX5_in 6 (some .boolean), Cond.methodLink RX5 112 yX5_gauss, Cond.instanceMethod yX5_gauss, Cond.selects RX5 yX5_gauss yX5_gauss, Cond.code yX5_gauss cX5_gauss 8 (some .int), Cond.fieldLink RX5 38 "SmallSpacesModel" "q" "I", Cond.methodLink RX5 48 yX5_power, Cond.static yX5_power, Cond.code yX5_power cX5_power 4 (some .int), Cond.methodLink RX5 127 yX5_lay, Cond.instanceMethod yX5_lay, Cond.selects RX5 yX5_lay yX5_lay, Cond.code yX5_lay cX5_lay 8 none, Cond.fieldLink RX5 29 "SmallSpacesModel" "pivots" "[I", Cond.fieldLink RX5 13 "SmallSpacesModel" "work" "[I", Cond.methodLink RX5 115 yX5_firstPivots]
def wsX5_greedy_r2 : List Cond := [Cond.instanceMethod yX5_firstPivots, Cond.selects RX5 yX5_firstPivots yX5_firstPivots, Cond.code yX5_firstPivots cX5_firstPivots 3 none, Cond.methodLink RX5 118 yX5_free, Cond.instanceMethod yX5_free, Cond.selects RX5 yX5_free yX5_free, Cond.code yX5_free cX5_free 4 (some .int), Cond.methodLink RX5 121 yX5_goOn, Cond.instanceMethod yX5_goOn, Cond.selects RX5 yX5_goOn yX5_goOn, Cond.code yX5_goOn cX5_goOn 4 (some .boolean), Cond.methodLink RX5 124 yX5_isFree, Cond.instanceMethod yX5_isFree, Cond.selects RX5 yX5_isFree yX5_isFree, Cond.code yX5_isFree cX5_isFree 6 (some .boolean), Cond.methodLink RX5 134 yX5_loadHeap, Cond.instanceMethod yX5_loadHeap, Cond.selects RX5 yX5_loadHeap yX5_loadHeap, Cond.code yX5_loadHeap cX5_loadHeap 3 none, Cond.fieldLink RX5 32 "SmallSpacesModel" "heapDims" "[I", Cond.fieldLink RX5 35 "SmallSpacesModel" "heapRows" "[I", Cond.methodLink RX5 83 yX5_settle, Cond.instanceMethod yX5_settle, Cond.selects RX5 yX5_settle yX5_settle]
def wsX5_greedy_r3 : List Cond := [Cond.code yX5_settle cX5_settle 8 none, Cond.methodLink RX5 62 yX5_figure, Cond.instanceMethod yX5_figure, Cond.selects RX5 yX5_figure yX5_figure, Cond.code yX5_figure cX5_figure 3 (some .int), Cond.methodLink RX5 69 yX5_sum, Cond.instanceMethod yX5_sum, Cond.selects RX5 yX5_sum yX5_sum, Cond.code yX5_sum cX5_sum 6 (some .int), Cond.methodLink RX5 131 yX5_toHeap, Cond.instanceMethod yX5_toHeap, Cond.selects RX5 yX5_toHeap yX5_toHeap, Cond.code yX5_toHeap cX5_toHeap 2 none]
def wsX5_greedy : List Cond := .code yX5_greedy cX5_greedy 7 (some .int) :: ((wsX5_greedy_r1 ++ (wsX5_greedy_r2 ++ wsX5_greedy_r3)) ++ wsX50)
def wsX5_image : List Cond := .code yX5_image cX5_image 4 (some .int) :: ([.fieldLink RX5 42 "SmallSpacesModel" "n" "I", .fieldLink RX5 7 "SmallSpacesModel" "images" "[I", .methodLink RX5 58 yX5_in, .static yX5_in, .initialized RX5, .code yX5_in cX5_in 6 (some .boolean), .methodLink RX5 65 yX5_isVector, .instanceMethod yX5_isVector, .selects RX5 yX5_isVector yX5_isVector, .code yX5_isVector cX5_isVector 2 (some .boolean), .fieldLink RX5 52 "SmallSpacesModel" "vectors" "I"] ++ wsX50)
def wsX5_mappedOf : List Cond := .code yX5_mappedOf cX5_mappedOf 4 (some .int) :: ([.fieldLink RX5 42 "SmallSpacesModel" "n" "I", .fieldLink RX5 7 "SmallSpacesModel" "images" "[I", .methodLink RX5 62 yX5_figure, .instanceMethod yX5_figure, .selects RX5 yX5_figure yX5_figure, .initialized RX5, .code yX5_figure cX5_figure 3 (some .int), .fieldLink RX5 38 "SmallSpacesModel" "q" "I", .methodLink RX5 48 yX5_power, .static yX5_power, .code yX5_power cX5_power 4 (some .int), .methodLink RX5 69 yX5_sum, .instanceMethod yX5_sum, .selects RX5 yX5_sum yX5_sum, .code yX5_sum cX5_sum 6 (some .int)] ++ wsX50)
def wsX5_mapped_r1 : List Cond := [Cond.methodLink RX5 65 yX5_isVector, Cond.instanceMethod yX5_isVector, Cond.selects RX5 yX5_isVector yX5_isVector, Cond.initialized RX5, Cond.code yX5_isVector cX5_isVector 2 (some .boolean), Cond.fieldLink RX5 52 "SmallSpacesModel" "vectors" "I", Cond.methodLink RX5 58 yX5_in, Cond.static yX5_in, Cond.code yX5_in cX5_in 6 (some .boolean), Cond.methodLink RX5 142 yX5_mappedOf, Cond.instanceMethod yX5_mappedOf, Cond.selects RX5 yX5_mappedOf yX5_mappedOf, Cond.code yX5_mappedOf cX5_mappedOf 4 (some .int), Cond.fieldLink RX5 42 "SmallSpacesModel" "n" "I", Cond.fieldLink RX5 7 "SmallSpacesModel" "images" "[I", Cond.methodLink RX5 62 yX5_figure, Cond.instanceMethod yX5_figure, Cond.selects RX5 yX5_figure yX5_figure, Cond.code yX5_figure cX5_figure 3 (some .int), Cond.fieldLink RX5 38 "SmallSpacesModel" "q" "I", Cond.methodLink RX5 48 yX5_power, Cond.static yX5_power, Cond.code yX5_power cX5_power 4 (some .int), Cond.methodLink RX5 69 yX5_sum]
def wsX5_mapped_r2 : List Cond := [Cond.instanceMethod yX5_sum, Cond.selects RX5 yX5_sum yX5_sum, Cond.code yX5_sum cX5_sum 6 (some .int)]
def wsX5_mapped : List Cond := .code yX5_mapped cX5_mapped 2 (some .int) :: ((wsX5_mapped_r1 ++ wsX5_mapped_r2) ++ wsX50)
def wsX5_step_r1 : List Cond := [Cond.fieldLink RX5 76 "SmallSpacesModel" "worked" "I", Cond.fieldLink RX5 13 "SmallSpacesModel" "work" "[I", Cond.methodLink RX5 142 yX5_mappedOf, Cond.instanceMethod yX5_mappedOf, Cond.selects RX5 yX5_mappedOf yX5_mappedOf, Cond.initialized RX5, Cond.code yX5_mappedOf cX5_mappedOf 4 (some .int), Cond.fieldLink RX5 42 "SmallSpacesModel" "n" "I", Cond.fieldLink RX5 7 "SmallSpacesModel" "images" "[I", Cond.methodLink RX5 62 yX5_figure, Cond.instanceMethod yX5_figure, Cond.selects RX5 yX5_figure yX5_figure, Cond.code yX5_figure cX5_figure 3 (some .int), Cond.fieldLink RX5 38 "SmallSpacesModel" "q" "I", Cond.methodLink RX5 48 yX5_power, Cond.static yX5_power, Cond.code yX5_power cX5_power 4 (some .int), Cond.methodLink RX5 69 yX5_sum, Cond.instanceMethod yX5_sum, Cond.selects RX5 yX5_sum yX5_sum, Cond.code yX5_sum cX5_sum 6 (some .int), Cond.methodLink RX5 83 yX5_settle, Cond.instanceMethod yX5_settle, Cond.selects RX5 yX5_settle yX5_settle]
def wsX5_step_r2 : List Cond := [Cond.code yX5_settle cX5_settle 8 none]
def wsX5_step : List Cond := .code yX5_step cX5_step 2 none :: ((wsX5_step_r1 ++ wsX5_step_r2) ++ wsX50)
def wsX5_map_r1 : List Cond := [Cond.fieldLink RX5 76 "SmallSpacesModel" "worked" "I", Cond.methodLink RX5 98 yX5_areSlots, Cond.static yX5_areSlots, Cond.initialized RX5, Cond.code yX5_areSlots cX5_areSlots 3 (some .boolean), Cond.methodLink RX5 88 yX5_isSlot, Cond.static yX5_isSlot, Cond.code yX5_isSlot cX5_isSlot 1 (some .boolean), Cond.constantLong RX5 86 (11), Cond.methodLink RX5 58 yX5_in, Cond.static yX5_in, Cond.code yX5_in cX5_in 6 (some .boolean), Cond.methodLink RX5 91 yX5_load, Cond.instanceMethod yX5_load, Cond.selects RX5 yX5_load yX5_load, Cond.code yX5_load cX5_load 3 none, Cond.fieldLink RX5 20 "SmallSpacesModel" "dims" "[I", Cond.fieldLink RX5 13 "SmallSpacesModel" "work" "[I", Cond.fieldLink RX5 23 "SmallSpacesModel" "rows" "[I", Cond.methodLink RX5 145 yX5_step, Cond.instanceMethod yX5_step, Cond.selects RX5 yX5_step yX5_step, Cond.code yX5_step cX5_step 2 none, Cond.methodLink RX5 142 yX5_mappedOf]
def wsX5_map_r2 : List Cond := [Cond.instanceMethod yX5_mappedOf, Cond.selects RX5 yX5_mappedOf yX5_mappedOf, Cond.code yX5_mappedOf cX5_mappedOf 4 (some .int), Cond.fieldLink RX5 42 "SmallSpacesModel" "n" "I", Cond.fieldLink RX5 7 "SmallSpacesModel" "images" "[I", Cond.methodLink RX5 62 yX5_figure, Cond.instanceMethod yX5_figure, Cond.selects RX5 yX5_figure yX5_figure, Cond.code yX5_figure cX5_figure 3 (some .int), Cond.fieldLink RX5 38 "SmallSpacesModel" "q" "I", Cond.methodLink RX5 48 yX5_power, Cond.static yX5_power, Cond.code yX5_power cX5_power 4 (some .int), Cond.methodLink RX5 69 yX5_sum, Cond.instanceMethod yX5_sum, Cond.selects RX5 yX5_sum yX5_sum, Cond.code yX5_sum cX5_sum 6 (some .int), Cond.methodLink RX5 83 yX5_settle, Cond.instanceMethod yX5_settle, Cond.selects RX5 yX5_settle yX5_settle, Cond.code yX5_settle cX5_settle 8 none, Cond.methodLink RX5 95 yX5_save, Cond.instanceMethod yX5_save, Cond.selects RX5 yX5_save yX5_save]
def wsX5_map_r3 : List Cond := [Cond.code yX5_save cX5_save 3 (some .int)]
def wsX5_map : List Cond := .code yX5_map cX5_map 3 (some .int) :: ((wsX5_map_r1 ++ (wsX5_map_r2 ++ wsX5_map_r3)) ++ wsX50)
def wsX5_kernel_r1 : List Cond := [Cond.fieldLink RX5 42 "SmallSpacesModel" "n" "I", Cond.fieldLink RX5 76 "SmallSpacesModel" "worked" "I", Cond.fieldLink RX5 38 "SmallSpacesModel" "q" "I", Cond.fieldLink RX5 7 "SmallSpacesModel" "images" "[I", Cond.fieldLink RX5 13 "SmallSpacesModel" "work" "[I", Cond.methodLink RX5 88 yX5_isSlot, Cond.static yX5_isSlot, Cond.initialized RX5, Cond.code yX5_isSlot cX5_isSlot 1 (some .boolean), Cond.constantLong RX5 86 (11), Cond.methodLink RX5 58 yX5_in, Cond.static yX5_in, Cond.code yX5_in cX5_in 6 (some .boolean), Cond.methodLink RX5 62 yX5_figure, Cond.instanceMethod yX5_figure, Cond.selects RX5 yX5_figure yX5_figure, Cond.code yX5_figure cX5_figure 3 (some .int), Cond.methodLink RX5 48 yX5_power, Cond.static yX5_power, Cond.code yX5_power cX5_power 4 (some .int), Cond.methodLink RX5 83 yX5_settle, Cond.instanceMethod yX5_settle, Cond.selects RX5 yX5_settle yX5_settle, Cond.code yX5_settle cX5_settle 8 none]
def wsX5_kernel_r2 : List Cond := [Cond.methodLink RX5 69 yX5_sum, Cond.instanceMethod yX5_sum, Cond.selects RX5 yX5_sum yX5_sum, Cond.code yX5_sum cX5_sum 6 (some .int), Cond.methodLink RX5 105 yX5_turn, Cond.instanceMethod yX5_turn, Cond.selects RX5 yX5_turn yX5_turn, Cond.code yX5_turn cX5_turn 6 none, Cond.fieldLink RX5 16 "SmallSpacesModel" "isPivot" "[Z", Cond.methodLink RX5 79 yX5_pivot, Cond.instanceMethod yX5_pivot, Cond.selects RX5 yX5_pivot yX5_pivot, Cond.code yX5_pivot cX5_pivot 3 (some .int), Cond.methodLink RX5 95 yX5_save, Cond.instanceMethod yX5_save, Cond.selects RX5 yX5_save yX5_save, Cond.code yX5_save cX5_save 3 (some .int), Cond.fieldLink RX5 20 "SmallSpacesModel" "dims" "[I", Cond.fieldLink RX5 23 "SmallSpacesModel" "rows" "[I"]
def wsX5_kernel : List Cond := .code yX5_kernel cX5_kernel 5 (some .int) :: ((wsX5_kernel_r1 ++ wsX5_kernel_r2) ++ wsX50)
def wsX5_round_r1 : List Cond := [Cond.fieldLink RX5 148 "SmallSpacesModel" "rounds" "I", Cond.fieldLink RX5 76 "SmallSpacesModel" "worked" "I", Cond.fieldLink RX5 20 "SmallSpacesModel" "dims" "[I", Cond.fieldLink RX5 13 "SmallSpacesModel" "work" "[I", Cond.fieldLink RX5 23 "SmallSpacesModel" "rows" "[I", Cond.methodLink RX5 88 yX5_isSlot, Cond.static yX5_isSlot, Cond.initialized RX5, Cond.code yX5_isSlot cX5_isSlot 1 (some .boolean), Cond.constantLong RX5 86 (11), Cond.methodLink RX5 58 yX5_in, Cond.static yX5_in, Cond.code yX5_in cX5_in 6 (some .boolean), Cond.methodLink RX5 91 yX5_load, Cond.instanceMethod yX5_load, Cond.selects RX5 yX5_load yX5_load, Cond.code yX5_load cX5_load 3 none, Cond.methodLink RX5 145 yX5_step, Cond.instanceMethod yX5_step, Cond.selects RX5 yX5_step yX5_step, Cond.code yX5_step cX5_step 2 none, Cond.methodLink RX5 142 yX5_mappedOf, Cond.instanceMethod yX5_mappedOf, Cond.selects RX5 yX5_mappedOf yX5_mappedOf]
def wsX5_round_r2 : List Cond := [Cond.code yX5_mappedOf cX5_mappedOf 4 (some .int), Cond.fieldLink RX5 42 "SmallSpacesModel" "n" "I", Cond.fieldLink RX5 7 "SmallSpacesModel" "images" "[I", Cond.methodLink RX5 62 yX5_figure, Cond.instanceMethod yX5_figure, Cond.selects RX5 yX5_figure yX5_figure, Cond.code yX5_figure cX5_figure 3 (some .int), Cond.fieldLink RX5 38 "SmallSpacesModel" "q" "I", Cond.methodLink RX5 48 yX5_power, Cond.static yX5_power, Cond.code yX5_power cX5_power 4 (some .int), Cond.methodLink RX5 69 yX5_sum, Cond.instanceMethod yX5_sum, Cond.selects RX5 yX5_sum yX5_sum, Cond.code yX5_sum cX5_sum 6 (some .int), Cond.methodLink RX5 83 yX5_settle, Cond.instanceMethod yX5_settle, Cond.selects RX5 yX5_settle yX5_settle, Cond.code yX5_settle cX5_settle 8 none]
def wsX5_round : List Cond := .code yX5_round cX5_round 5 (some .int) :: ((wsX5_round_r1 ++ wsX5_round_r2) ++ wsX50)
def wsX5_told : List Cond := .code yX5_told cX5_told 2 (some .int) :: ([.fieldLink RX5 38 "SmallSpacesModel" "q" "I", .fieldLink RX5 42 "SmallSpacesModel" "n" "I", .fieldLink RX5 52 "SmallSpacesModel" "vectors" "I", .fieldLink RX5 55 "SmallSpacesModel" "heapMany" "I", .fieldLink RX5 139 "SmallSpacesModel" "greedies" "I", .fieldLink RX5 148 "SmallSpacesModel" "rounds" "I"] ++ wsX50)
def wsX5_digest : List Cond := .code yX5_digest cX5_digest 5 (some .long) :: ([.constantLong RX5 151 (167), .constantLong RX5 153 (31), .fieldLink RX5 38 "SmallSpacesModel" "q" "I", .fieldLink RX5 42 "SmallSpacesModel" "n" "I", .fieldLink RX5 20 "SmallSpacesModel" "dims" "[I", .fieldLink RX5 23 "SmallSpacesModel" "rows" "[I", .fieldLink RX5 55 "SmallSpacesModel" "heapMany" "I", .fieldLink RX5 32 "SmallSpacesModel" "heapDims" "[I", .fieldLink RX5 35 "SmallSpacesModel" "heapRows" "[I", .fieldLink RX5 7 "SmallSpacesModel" "images" "[I", .fieldLink RX5 139 "SmallSpacesModel" "greedies" "I", .fieldLink RX5 148 "SmallSpacesModel" "rounds" "I"] ++ wsX50)
def wsJ9_min_7cf53 : List Cond := .code yJ9_min_7cf53 cJ9_min_7cf53 2 (some .int) :: ([])
def wsL_law_r1 : List Cond := [Cond.classLink RL 7 RX4, Cond.instantiable RX4 9, Cond.initialized RX4, Cond.classLink RL 10 RX5, Cond.instantiable RX5 16, Cond.initialized RX5, Cond.methodLink RL 9 yX4_init, Cond.instanceMethod yX4_init, Cond.code yX4_init cX4_init 2 none, Cond.methodLink RX4 1 objectInit, Cond.instanceMethod objectInit, Cond.code objectInit ⟨#[0xb1]⟩ 1 none, Cond.classLink RX4 7 RX0, Cond.instantiable RX0 3, Cond.initialized RX0, Cond.fieldLink RX4 10 "SmallSpaces" "frame" "LSmallSpaces$Frame;", Cond.classLink RX4 16 RX3, Cond.fieldLink RX4 18 "SmallSpaces" "slots" "[LSmallSpaces$Space;", Cond.instantiable RX3 4, Cond.initialized RX3, Cond.classLink RX4 25 RX1, Cond.instantiable RX1 3, Cond.initialized RX1, Cond.fieldLink RX4 28 "SmallSpaces" "heap" "LSmallSpaces$Heap;"]
def wsL_law_r2 : List Cond := [Cond.classLink RX4 32 RX2, Cond.instantiable RX2 3, Cond.initialized RX2, Cond.fieldLink RX4 35 "SmallSpaces" "linear" "LSmallSpaces$Linear;", Cond.fieldLink RX4 39 "SmallSpaces" "made" "LSmallSpaces$Space;", Cond.fieldLink RX4 43 "SmallSpaces" "other" "LSmallSpaces$Space;", Cond.arrayClass .int, Cond.fieldLink RX4 46 "SmallSpaces" "figures" "[I", Cond.instanceMethod yX0_init, Cond.code yX0_init cX0_init 1 none, Cond.methodLink RX0 1 objectInit, Cond.methodLink RX0 7 yX0_become, Cond.instanceMethod yX0_become, Cond.selects RX0 yX0_become yX0_become, Cond.code yX0_become cX0_become 3 none, Cond.fieldLink RX0 13 "SmallSpaces$Frame" "q" "I", Cond.fieldLink RX0 17 "SmallSpaces$Frame" "n" "I", Cond.fieldLink RX0 24 "SmallSpaces$Frame" "vectors" "I", Cond.methodLink RX0 20 yX0_power, Cond.instanceMethod yX0_power, Cond.selects RX0 yX0_power yX0_power, Cond.code yX0_power cX0_power 4 (some .int), Cond.instanceMethod yX3_init, Cond.code yX3_init cX3_init 2 none]
def wsL_law_r3 : List Cond := [Cond.methodLink RX3 3 objectInit, Cond.fieldLink RX3 9 "SmallSpaces$Space" "cells" "[I", Cond.fieldLink RX3 15 "SmallSpaces$Space" "fresh" "[I", Cond.fieldLink RX3 18 "SmallSpaces$Space" "frame" "LSmallSpaces$Frame;", Cond.instanceMethod yX1_init, Cond.code yX1_init cX1_init 3 none, Cond.methodLink RX1 3 objectInit, Cond.classLink RX1 9 RX3, Cond.fieldLink RX1 11 "SmallSpaces$Heap" "spaces" "[LSmallSpaces$Space;", Cond.fieldLink RX1 20 "SmallSpaces$Heap" "joined" "LSmallSpaces$Space;", Cond.instanceMethod yX2_init, Cond.code yX2_init cX2_init 2 none, Cond.methodLink RX2 3 objectInit, Cond.fieldLink RX2 9 "SmallSpaces$Linear" "cells" "[I", Cond.fieldLink RX2 15 "SmallSpaces$Linear" "result" "[I", Cond.fieldLink RX2 18 "SmallSpaces$Linear" "frame" "LSmallSpaces$Frame;", Cond.methodLink RX2 22 yX2_becomeIdentity, Cond.instanceMethod yX2_becomeIdentity, Cond.selects RX2 yX2_becomeIdentity yX2_becomeIdentity, Cond.code yX2_becomeIdentity cX2_becomeIdentity 2 none, Cond.methodLink RX2 25 yJ7_fill_53178, Cond.static yJ7_fill_53178, Cond.initialized RJ7, Cond.code yJ7_fill_53178 cJ7_fill_53178 4 none]
def wsL_law_r4 : List Cond := [Cond.methodLink RL 12 yX5_init, Cond.instanceMethod yX5_init, Cond.code yX5_init cX5_init 1 none, Cond.methodLink RX5 1 objectInit, Cond.fieldLink RX5 7 "SmallSpacesModel" "images" "[I", Cond.fieldLink RX5 13 "SmallSpacesModel" "work" "[I", Cond.arrayClass .boolean, Cond.fieldLink RX5 16 "SmallSpacesModel" "isPivot" "[Z", Cond.fieldLink RX5 20 "SmallSpacesModel" "dims" "[I", Cond.fieldLink RX5 23 "SmallSpacesModel" "rows" "[I", Cond.fieldLink RX5 26 "SmallSpacesModel" "aside" "[I", Cond.fieldLink RX5 29 "SmallSpacesModel" "pivots" "[I", Cond.fieldLink RX5 32 "SmallSpacesModel" "heapDims" "[I", Cond.fieldLink RX5 35 "SmallSpacesModel" "heapRows" "[I", Cond.fieldLink RX5 38 "SmallSpacesModel" "q" "I", Cond.fieldLink RX5 42 "SmallSpacesModel" "n" "I", Cond.methodLink RX5 45 yX5_begin, Cond.instanceMethod yX5_begin, Cond.selects RX5 yX5_begin yX5_begin, Cond.code yX5_begin cX5_begin 2 none, Cond.fieldLink RX5 52 "SmallSpacesModel" "vectors" "I", Cond.fieldLink RX5 55 "SmallSpacesModel" "heapMany" "I", Cond.methodLink RX5 48 yX5_power, Cond.static yX5_power]
def wsL_law_r5 : List Cond := [Cond.code yX5_power cX5_power 4 (some .int), Cond.methodLink RL 13 yX4_field, Cond.instanceMethod yX4_field, Cond.selects RX4 yX4_field yX4_field, Cond.code yX4_field cX4_field 4 (some .int), Cond.methodLink RX4 50 yX4_mostPlaces, Cond.static yX4_mostPlaces, Cond.code yX4_mostPlaces cX4_mostPlaces 1 (some .int), Cond.instanceMethod yX3_becomeZero, Cond.selects RX3 yX3_becomeZero yX3_becomeZero, Cond.code yX3_becomeZero cX3_becomeZero 1 none, Cond.fieldLink RX3 22 "SmallSpaces$Space" "pivots" "I", Cond.methodLink RL 17 yX5_field, Cond.instanceMethod yX5_field, Cond.selects RX5 yX5_field yX5_field, Cond.code yX5_field cX5_field 4 (some .int), Cond.methodLink RX5 58 yX5_in, Cond.static yX5_in, Cond.code yX5_in cX5_in 6 (some .boolean), Cond.methodLink RL 18 yX4_plus, Cond.instanceMethod yX4_plus, Cond.selects RX4 yX4_plus yX4_plus, Cond.code yX4_plus cX4_plus 4 (some .int), Cond.instanceMethod yX0_isVector]
def wsL_law_r6 : List Cond := [Cond.selects RX0 yX0_isVector yX0_isVector, Cond.code yX0_isVector cX0_isVector 2 (some .boolean), Cond.instanceMethod yX0_sum, Cond.selects RX0 yX0_sum yX0_sum, Cond.code yX0_sum cX0_sum 9 (some .int), Cond.methodLink RL 22 yX5_plus, Cond.instanceMethod yX5_plus, Cond.selects RX5 yX5_plus yX5_plus, Cond.code yX5_plus cX5_plus 4 (some .int), Cond.methodLink RX5 65 yX5_isVector, Cond.instanceMethod yX5_isVector, Cond.selects RX5 yX5_isVector yX5_isVector, Cond.code yX5_isVector cX5_isVector 2 (some .boolean), Cond.methodLink RX5 69 yX5_sum, Cond.instanceMethod yX5_sum, Cond.selects RX5 yX5_sum yX5_sum, Cond.code yX5_sum cX5_sum 6 (some .int), Cond.methodLink RX5 62 yX5_figure, Cond.instanceMethod yX5_figure, Cond.selects RX5 yX5_figure yX5_figure, Cond.code yX5_figure cX5_figure 3 (some .int), Cond.methodLink RL 23 yX4_times, Cond.instanceMethod yX4_times, Cond.selects RX4 yX4_times yX4_times]
def wsL_law_r7 : List Cond := [Cond.code yX4_times cX4_times 3 (some .int), Cond.instanceMethod yX0_product, Cond.selects RX0 yX0_product yX0_product, Cond.code yX0_product cX0_product 7 (some .int), Cond.methodLink RL 26 yX5_times, Cond.instanceMethod yX5_times, Cond.selects RX5 yX5_times yX5_times, Cond.code yX5_times cX5_times 3 (some .int), Cond.methodLink RX5 73 yX5_product, Cond.instanceMethod yX5_product, Cond.selects RX5 yX5_product yX5_product, Cond.code yX5_product cX5_product 5 (some .int), Cond.methodLink RL 27 yX4_add, Cond.instanceMethod yX4_add, Cond.selects RX4 yX4_add yX4_add, Cond.code yX4_add cX4_add 3 (some .int), Cond.methodLink RX4 86 yX4_isSlot, Cond.static yX4_isSlot, Cond.code yX4_isSlot cX4_isSlot 1 (some .boolean), Cond.instanceMethod yX0_spell, Cond.selects RX0 yX0_spell yX0_spell, Cond.code yX0_spell cX0_spell 6 none, Cond.instanceMethod yX3_joinVector, Cond.selects RX3 yX3_joinVector yX3_joinVector]
def wsL_law_r8 : List Cond := [Cond.code yX3_joinVector cX3_joinVector 3 none, Cond.methodLink RX3 26 arraycopyName, Cond.native arraycopyName, Cond.static arraycopyName, Cond.initialized "java/lang/System", Cond.methodLink RX3 66 yX3_joinFresh, Cond.instanceMethod yX3_joinFresh, Cond.selects RX3 yX3_joinFresh yX3_joinFresh, Cond.code yX3_joinFresh cX3_joinFresh 4 none, Cond.methodLink RX3 69 yX3_reduceFresh, Cond.instanceMethod yX3_reduceFresh, Cond.selects RX3 yX3_reduceFresh yX3_reduceFresh, Cond.code yX3_reduceFresh cX3_reduceFresh 2 none, Cond.methodLink RX3 43 yX3_isPivot, Cond.instanceMethod yX3_isPivot, Cond.selects RX3 yX3_isPivot yX3_isPivot, Cond.code yX3_isPivot cX3_isPivot 2 (some .boolean), Cond.instanceMethod yX0_addMultiple, Cond.selects RX0 yX0_addMultiple yX0_addMultiple, Cond.code yX0_addMultiple cX0_addMultiple 7 none, Cond.instanceMethod yX0_inverse, Cond.selects RX0 yX0_inverse yX0_inverse, Cond.code yX0_inverse cX0_inverse 2 (some .int), Cond.methodLink RX3 75 yX3_takeRow]
def wsL_law_r9 : List Cond := [Cond.instanceMethod yX3_takeRow, Cond.selects RX3 yX3_takeRow yX3_takeRow, Cond.code yX3_takeRow cX3_takeRow 4 none, Cond.instanceMethod yX3_rank, Cond.selects RX3 yX3_rank yX3_rank, Cond.code yX3_rank cX3_rank 1 (some .int), Cond.methodLink RX3 32 yJ6_bitCount_0f7a4, Cond.static yJ6_bitCount_0f7a4, Cond.initialized RJ6, Cond.code yJ6_bitCount_0f7a4 cJ6_bitCount_0f7a4 1 (some .int), Cond.constant RJ6 265 (1431655765), Cond.constant RJ6 266 (858993459), Cond.constant RJ6 267 (252645135), Cond.methodLink RL 30 yX5_add, Cond.instanceMethod yX5_add, Cond.selects RX5 yX5_add yX5_add, Cond.code yX5_add cX5_add 3 (some .int), Cond.fieldLink RX5 76 "SmallSpacesModel" "worked" "I", Cond.methodLink RX5 88 yX5_isSlot, Cond.static yX5_isSlot, Cond.code yX5_isSlot cX5_isSlot 1 (some .boolean), Cond.constantLong RX5 86 (11), Cond.methodLink RX5 91 yX5_load, Cond.instanceMethod yX5_load]
def wsL_law_r10 : List Cond := [Cond.selects RX5 yX5_load yX5_load, Cond.code yX5_load cX5_load 3 none, Cond.methodLink RX5 83 yX5_settle, Cond.instanceMethod yX5_settle, Cond.selects RX5 yX5_settle yX5_settle, Cond.code yX5_settle cX5_settle 8 none, Cond.methodLink RX5 95 yX5_save, Cond.instanceMethod yX5_save, Cond.selects RX5 yX5_save yX5_save, Cond.code yX5_save cX5_save 3 (some .int), Cond.methodLink RL 31 yX4_clear, Cond.instanceMethod yX4_clear, Cond.selects RX4 yX4_clear yX4_clear, Cond.code yX4_clear cX4_clear 3 (some .int), Cond.methodLink RL 35 yX5_clear, Cond.instanceMethod yX5_clear, Cond.selects RX5 yX5_clear yX5_clear, Cond.code yX5_clear cX5_clear 3 (some .int), Cond.methodLink RL 36 yX4_dim, Cond.instanceMethod yX4_dim, Cond.selects RX4 yX4_dim yX4_dim, Cond.code yX4_dim cX4_dim 2 (some .int), Cond.methodLink RL 39 yX5_dim, Cond.instanceMethod yX5_dim]
def wsL_law_r11 : List Cond := [Cond.selects RX5 yX5_dim yX5_dim, Cond.code yX5_dim cX5_dim 2 (some .int), Cond.methodLink RL 40 yX4_row, Cond.instanceMethod yX4_row, Cond.selects RX4 yX4_row yX4_row, Cond.code yX4_row cX4_row 3 (some .int), Cond.instanceMethod yX3_rowNumber, Cond.selects RX3 yX3_rowNumber yX3_rowNumber, Cond.code yX3_rowNumber cX3_rowNumber 4 (some .int), Cond.instanceMethod yX0_vectorNumber, Cond.selects RX0 yX0_vectorNumber yX0_vectorNumber, Cond.code yX0_vectorNumber cX0_vectorNumber 5 (some .int), Cond.methodLink RL 43 yX5_row, Cond.instanceMethod yX5_row, Cond.selects RX5 yX5_row yX5_row, Cond.code yX5_row cX5_row 3 (some .int), Cond.methodLink RL 44 yX4_join, Cond.instanceMethod yX4_join, Cond.selects RX4 yX4_join yX4_join, Cond.code yX4_join cX4_join 4 (some .int), Cond.instanceMethod yX3_copyFrom, Cond.selects RX3 yX3_copyFrom yX3_copyFrom, Cond.code yX3_copyFrom cX3_copyFrom 2 none, Cond.instanceMethod yX3_joinSpace]
def wsL_law_r12 : List Cond := [Cond.selects RX3 yX3_joinSpace yX3_joinSpace, Cond.code yX3_joinSpace cX3_joinSpace 3 none, Cond.methodLink RX4 111 yX4_settle, Cond.instanceMethod yX4_settle, Cond.selects RX4 yX4_settle yX4_settle, Cond.code yX4_settle cX4_settle 3 (some .int), Cond.methodLink RL 47 yX5_join, Cond.instanceMethod yX5_join, Cond.selects RX5 yX5_join yX5_join, Cond.code yX5_join cX5_join 4 (some .int), Cond.methodLink RX5 98 yX5_areSlots, Cond.static yX5_areSlots, Cond.code yX5_areSlots cX5_areSlots 3 (some .boolean), Cond.methodLink RX5 102 yX5_joined, Cond.instanceMethod yX5_joined, Cond.selects RX5 yX5_joined yX5_joined, Cond.code yX5_joined cX5_joined 3 (some .int), Cond.methodLink RL 48 yX4_meet, Cond.instanceMethod yX4_meet, Cond.selects RX4 yX4_meet yX4_meet, Cond.code yX4_meet cX4_meet 4 (some .int), Cond.instanceMethod yX3_becomeDual, Cond.selects RX3 yX3_becomeDual yX3_becomeDual, Cond.code yX3_becomeDual cX3_becomeDual 4 none]
def wsL_law_r13 : List Cond := [Cond.methodLink RX3 83 yX3_becomeZero, Cond.methodLink RX3 86 yJ7_fill_53178, Cond.methodLink RL 51 yX5_meet, Cond.instanceMethod yX5_meet, Cond.selects RX5 yX5_meet yX5_meet, Cond.code yX5_meet cX5_meet 6 (some .int), Cond.methodLink RX5 105 yX5_turn, Cond.instanceMethod yX5_turn, Cond.selects RX5 yX5_turn yX5_turn, Cond.code yX5_turn cX5_turn 6 none, Cond.methodLink RX5 79 yX5_pivot, Cond.instanceMethod yX5_pivot, Cond.selects RX5 yX5_pivot yX5_pivot, Cond.code yX5_pivot cX5_pivot 3 (some .int), Cond.methodLink RL 52 yX4_dual, Cond.instanceMethod yX4_dual, Cond.selects RX4 yX4_dual yX4_dual, Cond.code yX4_dual cX4_dual 3 (some .int), Cond.methodLink RL 55 yX5_dual, Cond.instanceMethod yX5_dual, Cond.selects RX5 yX5_dual yX5_dual, Cond.code yX5_dual cX5_dual 3 (some .int), Cond.methodLink RL 56 yX4_has, Cond.instanceMethod yX4_has]
def wsL_law_r14 : List Cond := [Cond.selects RX4 yX4_has yX4_has, Cond.code yX4_has cX4_has 3 (some .int), Cond.instanceMethod yX3_holds, Cond.selects RX3 yX3_holds yX3_holds, Cond.code yX3_holds cX3_holds 4 (some .boolean), Cond.methodLink RX3 51 yX3_settledFigure, Cond.instanceMethod yX3_settledFigure, Cond.selects RX3 yX3_settledFigure yX3_settledFigure, Cond.code yX3_settledFigure cX3_settledFigure 6 (some .int), Cond.methodLink RL 59 yX5_has, Cond.instanceMethod yX5_has, Cond.selects RX5 yX5_has yX5_has, Cond.code yX5_has cX5_has 3 (some .int), Cond.methodLink RX5 108 yX5_holds, Cond.instanceMethod yX5_holds, Cond.selects RX5 yX5_holds yX5_holds, Cond.code yX5_holds cX5_holds 6 (some .boolean), Cond.methodLink RL 60 yX4_within, Cond.instanceMethod yX4_within, Cond.selects RX4 yX4_within yX4_within, Cond.code yX4_within cX4_within 3 (some .int), Cond.instanceMethod yX3_liesIn, Cond.selects RX3 yX3_liesIn yX3_liesIn, Cond.code yX3_liesIn cX3_liesIn 3 (some .boolean)]
def wsL_law_r15 : List Cond := [Cond.methodLink RX3 58 yX3_holds, Cond.methodLink RL 63 yX5_within, Cond.instanceMethod yX5_within, Cond.selects RX5 yX5_within yX5_within, Cond.code yX5_within cX5_within 5 (some .int), Cond.methodLink RL 64 yX4_apart, Cond.instanceMethod yX4_apart, Cond.selects RX4 yX4_apart yX4_apart, Cond.code yX4_apart cX4_apart 3 (some .int), Cond.instanceMethod yX3_distance, Cond.selects RX3 yX3_distance yX3_distance, Cond.code yX3_distance cX3_distance 3 (some .int), Cond.methodLink RX3 92 yX3_copyFrom, Cond.methodLink RX3 96 yX3_joinSpace, Cond.methodLink RX3 99 yX3_rank, Cond.methodLink RL 67 yX5_apart, Cond.instanceMethod yX5_apart, Cond.selects RX5 yX5_apart yX5_apart, Cond.code yX5_apart cX5_apart 3 (some .int), Cond.methodLink RL 68 yX4_number, Cond.instanceMethod yX4_number, Cond.selects RX4 yX4_number yX4_number, Cond.code yX4_number cX4_number 2 (some .int), Cond.instanceMethod yX3_ordinal]
def wsL_law_r16 : List Cond := [Cond.selects RX3 yX3_ordinal yX3_ordinal, Cond.code yX3_ordinal cX3_ordinal 4 (some .int), Cond.methodLink RX3 103 yX3_freeCells, Cond.instanceMethod yX3_freeCells, Cond.selects RX3 yX3_freeCells yX3_freeCells, Cond.code yX3_freeCells cX3_freeCells 5 (some .int), Cond.methodLink RX3 109 yX3_cellsValue, Cond.instanceMethod yX3_cellsValue, Cond.selects RX3 yX3_cellsValue yX3_cellsValue, Cond.code yX3_cellsValue cX3_cellsValue 4 (some .int), Cond.methodLink RL 71 yX5_number, Cond.instanceMethod yX5_number, Cond.selects RX5 yX5_number yX5_number, Cond.code yX5_number cX5_number 8 (some .int), Cond.methodLink RX5 115 yX5_firstPivots, Cond.instanceMethod yX5_firstPivots, Cond.selects RX5 yX5_firstPivots yX5_firstPivots, Cond.code yX5_firstPivots cX5_firstPivots 3 none, Cond.methodLink RX5 118 yX5_free, Cond.instanceMethod yX5_free, Cond.selects RX5 yX5_free yX5_free, Cond.code yX5_free cX5_free 4 (some .int), Cond.methodLink RX5 121 yX5_goOn, Cond.instanceMethod yX5_goOn]
def wsL_law_r17 : List Cond := [Cond.selects RX5 yX5_goOn yX5_goOn, Cond.code yX5_goOn cX5_goOn 4 (some .boolean), Cond.methodLink RX5 124 yX5_isFree, Cond.instanceMethod yX5_isFree, Cond.selects RX5 yX5_isFree yX5_isFree, Cond.code yX5_isFree cX5_isFree 6 (some .boolean), Cond.methodLink RL 72 yX4_numbered, Cond.instanceMethod yX4_numbered, Cond.selects RX4 yX4_numbered yX4_numbered, Cond.code yX4_numbered cX4_numbered 4 (some .int), Cond.methodLink RX4 133 yX4_isDim, Cond.instanceMethod yX4_isDim, Cond.selects RX4 yX4_isDim yX4_isDim, Cond.code yX4_isDim cX4_isDim 2 (some .boolean), Cond.instanceMethod yX0_spaces, Cond.selects RX0 yX0_spaces yX0_spaces, Cond.code yX0_spaces cX0_spaces 5 (some .int), Cond.instanceMethod yX3_becomeOrdinal, Cond.selects RX3 yX3_becomeOrdinal yX3_becomeOrdinal, Cond.code yX3_becomeOrdinal cX3_becomeOrdinal 6 none, Cond.methodLink RX3 112 yX3_fillCells, Cond.instanceMethod yX3_fillCells, Cond.selects RX3 yX3_fillCells yX3_fillCells, Cond.code yX3_fillCells cX3_fillCells 5 none]
def wsL_law_r18 : List Cond := [Cond.methodLink RL 75 yX5_numbered, Cond.instanceMethod yX5_numbered, Cond.selects RX5 yX5_numbered yX5_numbered, Cond.code yX5_numbered cX5_numbered 4 (some .int), Cond.methodLink RX5 112 yX5_gauss, Cond.instanceMethod yX5_gauss, Cond.selects RX5 yX5_gauss yX5_gauss, Cond.code yX5_gauss cX5_gauss 8 (some .int), Cond.methodLink RX5 127 yX5_lay, Cond.instanceMethod yX5_lay, Cond.selects RX5 yX5_lay yX5_lay, Cond.code yX5_lay cX5_lay 8 none, Cond.methodLink RL 76 yX4_many, Cond.instanceMethod yX4_many, Cond.selects RX4 yX4_many yX4_many, Cond.code yX4_many cX4_many 2 (some .int), Cond.methodLink RL 79 yX5_many, Cond.instanceMethod yX5_many, Cond.selects RX5 yX5_many yX5_many, Cond.code yX5_many cX5_many 2 (some .int), Cond.methodLink RL 80 yX4_over, Cond.instanceMethod yX4_over, Cond.selects RX4 yX4_over yX4_over, Cond.code yX4_over cX4_over 4 (some .int)]
def wsL_law_r19 : List Cond := [Cond.methodLink RL 83 yX5_over, Cond.instanceMethod yX5_over, Cond.selects RX5 yX5_over yX5_over, Cond.code yX5_over cX5_over 3 (some .int), Cond.methodLink RL 84 yX4_meeting, Cond.instanceMethod yX4_meeting, Cond.selects RX4 yX4_meeting yX4_meeting, Cond.code yX4_meeting cX4_meeting 6 (some .int), Cond.methodLink RL 87 yX5_meeting, Cond.instanceMethod yX5_meeting, Cond.selects RX5 yX5_meeting yX5_meeting, Cond.code yX5_meeting cX5_meeting 6 (some .int), Cond.methodLink RL 88 yX4_put, Cond.instanceMethod yX4_put, Cond.selects RX4 yX4_put yX4_put, Cond.code yX4_put cX4_put 2 (some .int), Cond.instanceMethod yX1_accept, Cond.selects RX1 yX1_accept yX1_accept, Cond.code yX1_accept cX1_accept 2 none, Cond.fieldLink RX1 24 "SmallSpaces$Heap" "size" "I", Cond.methodLink RL 91 yX5_put, Cond.instanceMethod yX5_put, Cond.selects RX5 yX5_put yX5_put, Cond.code yX5_put cX5_put 2 (some .int)]
def wsL_law_r20 : List Cond := [Cond.methodLink RX5 131 yX5_toHeap, Cond.instanceMethod yX5_toHeap, Cond.selects RX5 yX5_toHeap yX5_toHeap, Cond.code yX5_toHeap cX5_toHeap 2 none, Cond.methodLink RL 92 yX4_empty, Cond.instanceMethod yX4_empty, Cond.selects RX4 yX4_empty yX4_empty, Cond.code yX4_empty cX4_empty 2 (some .int), Cond.methodLink RL 96 yX5_empty, Cond.instanceMethod yX5_empty, Cond.selects RX5 yX5_empty yX5_empty, Cond.code yX5_empty cX5_empty 2 (some .int), Cond.methodLink RL 97 yX4_take, Cond.instanceMethod yX4_take, Cond.selects RX4 yX4_take yX4_take, Cond.code yX4_take cX4_take 3 (some .int), Cond.methodLink RL 100 yX5_take, Cond.instanceMethod yX5_take, Cond.selects RX5 yX5_take yX5_take, Cond.code yX5_take cX5_take 3 (some .int), Cond.methodLink RX5 134 yX5_loadHeap, Cond.instanceMethod yX5_loadHeap, Cond.selects RX5 yX5_loadHeap yX5_loadHeap, Cond.code yX5_loadHeap cX5_loadHeap 3 none]
def wsL_law_r21 : List Cond := [Cond.methodLink RL 101 yX4_least, Cond.instanceMethod yX4_least, Cond.selects RX4 yX4_least yX4_least, Cond.code yX4_least cX4_least 1 (some .int), Cond.instanceMethod yX1_leastDistance, Cond.selects RX1 yX1_leastDistance yX1_leastDistance, Cond.code yX1_leastDistance cX1_leastDistance 5 (some .int), Cond.methodLink RL 104 yX5_least, Cond.instanceMethod yX5_least, Cond.selects RX5 yX5_least yX5_least, Cond.code yX5_least cX5_least 5 (some .int), Cond.methodLink RL 105 yX4_bare, Cond.instanceMethod yX4_bare, Cond.selects RX4 yX4_bare yX4_bare, Cond.code yX4_bare cX4_bare 3 (some .int), Cond.instanceMethod yX1_covers, Cond.selects RX1 yX1_covers yX1_covers, Cond.code yX1_covers cX1_covers 3 (some .boolean), Cond.methodLink RL 108 yX5_bare, Cond.instanceMethod yX5_bare, Cond.selects RX5 yX5_bare yX5_bare, Cond.code yX5_bare cX5_bare 8 (some .int), Cond.methodLink RL 109 yX4_greedy, Cond.instanceMethod yX4_greedy]
def wsL_law_r22 : List Cond := [Cond.selects RX4 yX4_greedy yX4_greedy, Cond.code yX4_greedy cX4_greedy 5 (some .int), Cond.fieldLink RX4 160 "SmallSpaces" "greedyDone" "I", Cond.instanceMethod yX1_allApart, Cond.selects RX1 yX1_allApart yX1_allApart, Cond.code yX1_allApart cX1_allApart 4 (some .boolean), Cond.methodLink RL 112 yX5_greedy, Cond.instanceMethod yX5_greedy, Cond.selects RX5 yX5_greedy yX5_greedy, Cond.code yX5_greedy cX5_greedy 7 (some .int), Cond.constantLong RX5 137 (12), Cond.fieldLink RX5 139 "SmallSpacesModel" "greedies" "I", Cond.methodLink RL 113 yX4_image, Cond.instanceMethod yX4_image, Cond.selects RX4 yX4_image yX4_image, Cond.code yX4_image cX4_image 4 (some .int), Cond.instanceMethod yX2_imageNumber, Cond.selects RX2 yX2_imageNumber yX2_imageNumber, Cond.code yX2_imageNumber cX2_imageNumber 2 (some .int), Cond.instanceMethod yX2_setImage, Cond.selects RX2 yX2_setImage yX2_setImage, Cond.code yX2_setImage cX2_setImage 3 none, Cond.methodLink RL 116 yX5_image, Cond.instanceMethod yX5_image]
def wsL_law_r23 : List Cond := [Cond.selects RX5 yX5_image yX5_image, Cond.code yX5_image cX5_image 4 (some .int), Cond.methodLink RL 117 yX4_mapped, Cond.instanceMethod yX4_mapped, Cond.selects RX4 yX4_mapped yX4_mapped, Cond.code yX4_mapped cX4_mapped 2 (some .int), Cond.instanceMethod yX2_apply, Cond.selects RX2 yX2_apply yX2_apply, Cond.code yX2_apply cX2_apply 2 (some .int), Cond.methodLink RX2 45 yX2_applyInto, Cond.instanceMethod yX2_applyInto, Cond.selects RX2 yX2_applyInto yX2_applyInto, Cond.code yX2_applyInto cX2_applyInto 4 none, Cond.methodLink RL 120 yX5_mapped, Cond.instanceMethod yX5_mapped, Cond.selects RX5 yX5_mapped yX5_mapped, Cond.code yX5_mapped cX5_mapped 2 (some .int), Cond.methodLink RX5 142 yX5_mappedOf, Cond.instanceMethod yX5_mappedOf, Cond.selects RX5 yX5_mappedOf yX5_mappedOf, Cond.code yX5_mappedOf cX5_mappedOf 4 (some .int), Cond.methodLink RL 121 yX4_map, Cond.instanceMethod yX4_map, Cond.selects RX4 yX4_map yX4_map]
def wsL_law_r24 : List Cond := [Cond.code yX4_map cX4_map 3 (some .int), Cond.instanceMethod yX2_applyToSpace, Cond.selects RX2 yX2_applyToSpace yX2_applyToSpace, Cond.code yX2_applyToSpace cX2_applyToSpace 4 none, Cond.methodLink RL 124 yX5_map, Cond.instanceMethod yX5_map, Cond.selects RX5 yX5_map yX5_map, Cond.code yX5_map cX5_map 3 (some .int), Cond.methodLink RX5 145 yX5_step, Cond.instanceMethod yX5_step, Cond.selects RX5 yX5_step yX5_step, Cond.code yX5_step cX5_step 2 none, Cond.methodLink RL 125 yX4_kernel, Cond.instanceMethod yX4_kernel, Cond.selects RX4 yX4_kernel yX4_kernel, Cond.code yX4_kernel cX4_kernel 2 (some .int), Cond.instanceMethod yX2_columnSpace, Cond.selects RX2 yX2_columnSpace yX2_columnSpace, Cond.code yX2_columnSpace cX2_columnSpace 4 none, Cond.methodLink RL 128 yX5_kernel, Cond.instanceMethod yX5_kernel, Cond.selects RX5 yX5_kernel yX5_kernel, Cond.code yX5_kernel cX5_kernel 5 (some .int), Cond.methodLink RL 129 yX4_round]
def wsL_law_r25 : List Cond := [Cond.instanceMethod yX4_round, Cond.selects RX4 yX4_round yX4_round, Cond.code yX4_round cX4_round 2 (some .int), Cond.fieldLink RX4 184 "SmallSpaces" "roundsDone" "I", Cond.methodLink RX4 187 yX4_timesTillAgain, Cond.instanceMethod yX4_timesTillAgain, Cond.selects RX4 yX4_timesTillAgain yX4_timesTillAgain, Cond.code yX4_timesTillAgain cX4_timesTillAgain 4 (some .int), Cond.methodLink RX4 201 Lib.Math.min.name, Cond.static Lib.Math.min.name, Cond.initialized "java/lang/Math", Cond.code Lib.Math.min.name Lib.Math.min.code 2 (some .int), Cond.instanceMethod yX3_sameAs, Cond.selects RX3 yX3_sameAs yX3_sameAs, Cond.code yX3_sameAs cX3_sameAs 2 (some .boolean), Cond.methodLink RX3 62 yX3_liesIn, Cond.methodLink RL 132 yX5_round, Cond.instanceMethod yX5_round, Cond.selects RX5 yX5_round yX5_round, Cond.code yX5_round cX5_round 5 (some .int), Cond.fieldLink RX5 148 "SmallSpacesModel" "rounds" "I", Cond.methodLink RL 133 yX4_told, Cond.instanceMethod yX4_told, Cond.selects RX4 yX4_told yX4_told]
def wsL_law_r26 : List Cond := [Cond.code yX4_told cX4_told 2 (some .int), Cond.methodLink RL 136 yX5_told, Cond.instanceMethod yX5_told, Cond.selects RX5 yX5_told yX5_told, Cond.code yX5_told cX5_told 2 (some .int), Cond.methodLink RL 137 yX4_digest, Cond.instanceMethod yX4_digest, Cond.selects RX4 yX4_digest yX4_digest, Cond.code yX4_digest cX4_digest 4 (some .long), Cond.constantLong RX4 191 (167), Cond.methodLink RX4 193 yX4_fold, Cond.static yX4_fold, Cond.code yX4_fold cX4_fold 3 (some .long), Cond.constantLong RX4 209 (31), Cond.methodLink RX4 197 yX4_foldSpace, Cond.static yX4_foldSpace, Cond.code yX4_foldSpace cX4_foldSpace 7 (some .long), Cond.methodLink RL 141 yX5_digest, Cond.instanceMethod yX5_digest, Cond.selects RX5 yX5_digest yX5_digest, Cond.code yX5_digest cX5_digest 5 (some .long), Cond.constantLong RX5 151 (167), Cond.constantLong RX5 153 (31)]
def wsL_law : List Cond := (wsL_law_r1 ++ (wsL_law_r2 ++ (wsL_law_r3 ++ (wsL_law_r4 ++ (wsL_law_r5 ++ (wsL_law_r6 ++ (wsL_law_r7 ++ (wsL_law_r8 ++ (wsL_law_r9 ++ (wsL_law_r10 ++ (wsL_law_r11 ++ (wsL_law_r12 ++ (wsL_law_r13 ++ (wsL_law_r14 ++ (wsL_law_r15 ++ (wsL_law_r16 ++ (wsL_law_r17 ++ (wsL_law_r18 ++ (wsL_law_r19 ++ (wsL_law_r20 ++ (wsL_law_r21 ++ (wsL_law_r22 ++ (wsL_law_r23 ++ (wsL_law_r24 ++ (wsL_law_r25 ++ wsL_law_r26))))))))))))))))))))))))) ++ wsX40 ++ wsX50 ++ wsX00 ++ wsX30 ++ wsX10 ++ wsX20 ++ ([] : List Cond)
set_option maxRecDepth 20000 in
theorem inlX0 : ∀ w ∈ wsX00, w ∈ wsL_law := fun _ h => List.mem_append_left _ (List.mem_append_left _ (List.mem_append_left _ (List.mem_append_left _ (List.mem_append_right _ h))))
theorem inlX1 : ∀ w ∈ wsX10, w ∈ wsL_law := fun _ h => List.mem_append_left _ (List.mem_append_left _ (List.mem_append_right _ h))
theorem inlX2 : ∀ w ∈ wsX20, w ∈ wsL_law := fun _ h => List.mem_append_left _ (List.mem_append_right _ h)
theorem inlX3 : ∀ w ∈ wsX30, w ∈ wsL_law := fun _ h => List.mem_append_left _ (List.mem_append_left _ (List.mem_append_left _ (List.mem_append_right _ h)))
theorem inlX4 : ∀ w ∈ wsX40, w ∈ wsL_law := fun _ h => List.mem_append_left _ (List.mem_append_left _ (List.mem_append_left _ (List.mem_append_left _ (List.mem_append_left _ (List.mem_append_left _ (List.mem_append_right _ h))))))
theorem inlX5 : ∀ w ∈ wsX50, w ∈ wsL_law := fun _ h => List.mem_append_left _ (List.mem_append_left _ (List.mem_append_left _ (List.mem_append_left _ (List.mem_append_left _ (List.mem_append_right _ h)))))
theorem inJ6 : ∀ w ∈ wsJ60, w ∈ lw_tbl := by decide +kernel
theorem inJ9 : ∀ w ∈ wsJ90, w ∈ lw_tbl := by decide +kernel
theorem inJ10 : ∀ w ∈ wsJ100, w ∈ lw_tbl := by decide +kernel
theorem inJ7 : ∀ w ∈ wsJ70, w ∈ lw_tbl := by decide +kernel
set_option maxRecDepth 20000 in
theorem ggX0_init_X0_become : GoodIn wsX0_init wsX0_become := goodIn_r _ [8, 9, 10, 11, 12, 13, 14, 7, 15, 16, 17, 18] (by decide +kernel) (by decide +kernel)
set_option maxRecDepth 20000 in
theorem gX0_init_X0_become : GoodIn wsX0_init (wsV RX0 7 RX0 yX0_become wsX0_become) := goodIn_app (goodIn_of _ (by decide +kernel)) ggX0_init_X0_become
theorem dX0_init_0 : decode cX0_init 0 = .ok (.aload_n 0, 1) := by decide +kernel
theorem dX0_init_1 : decode cX0_init 1 = .ok (.invokespecial 1, 3) := by decide +kernel
theorem dX0_init_4 : decode cX0_init 4 = .ok (.aload_n 0, 1) := by decide +kernel
theorem dX0_init_5 : decode cX0_init 5 = .ok (.iconst 2, 1) := by decide +kernel
theorem dX0_init_6 : decode cX0_init 6 = .ok (.iconst 1, 1) := by decide +kernel
theorem dX0_init_7 : decode cX0_init 7 = .ok (.invokevirtual 7, 3) := by decide +kernel
theorem dX0_init_10 : decode cX0_init 10 = .ok (.return_, 1) := by decide +kernel
set_option maxRecDepth 20000 in
theorem ggX0_become_X0_power : GoodIn wsX0_become wsX0_power := goodIn_r _ [8, 1, 9, 10, 11] (by decide +kernel) (by decide +kernel)
set_option maxRecDepth 20000 in
theorem gX0_become_X0_power : GoodIn wsX0_become (wsV RX0 20 RX0 yX0_power wsX0_power) := goodIn_app (goodIn_of _ (by decide +kernel)) ggX0_become_X0_power
theorem dX0_become_0 : decode cX0_become 0 = .ok (.aload_n 0, 1) := by decide +kernel
theorem dX0_become_1 : decode cX0_become 1 = .ok (.iload_n 1, 1) := by decide +kernel
theorem dX0_become_2 : decode cX0_become 2 = .ok (.putfield 13, 3) := by decide +kernel
theorem dX0_become_5 : decode cX0_become 5 = .ok (.aload_n 0, 1) := by decide +kernel
theorem dX0_become_6 : decode cX0_become 6 = .ok (.iload_n 2, 1) := by decide +kernel
theorem dX0_become_7 : decode cX0_become 7 = .ok (.putfield 17, 3) := by decide +kernel
theorem dX0_become_10 : decode cX0_become 10 = .ok (.aload_n 0, 1) := by decide +kernel
theorem dX0_become_11 : decode cX0_become 11 = .ok (.aload_n 0, 1) := by decide +kernel
theorem dX0_become_12 : decode cX0_become 12 = .ok (.iload_n 2, 1) := by decide +kernel
theorem dX0_become_13 : decode cX0_become 13 = .ok (.invokevirtual 20, 3) := by decide +kernel
theorem dX0_become_16 : decode cX0_become 16 = .ok (.putfield 24, 3) := by decide +kernel
theorem dX0_become_19 : decode cX0_become 19 = .ok (.return_, 1) := by decide +kernel
theorem dX0_isVector_0 : decode cX0_isVector 0 = .ok (.iload_n 1, 1) := by decide +kernel
theorem dX0_isVector_1 : decode cX0_isVector 1 = .ok (.ifCond .lt 15, 3) := by decide +kernel
theorem dX0_isVector_4 : decode cX0_isVector 4 = .ok (.iload_n 1, 1) := by decide +kernel
theorem dX0_isVector_5 : decode cX0_isVector 5 = .ok (.aload_n 0, 1) := by decide +kernel
theorem dX0_isVector_6 : decode cX0_isVector 6 = .ok (.getfield 24, 3) := by decide +kernel
theorem dX0_isVector_9 : decode cX0_isVector 9 = .ok (.if_icmp .ge 7, 3) := by decide +kernel
theorem dX0_isVector_12 : decode cX0_isVector 12 = .ok (.iconst 1, 1) := by decide +kernel
theorem dX0_isVector_13 : decode cX0_isVector 13 = .ok (.goto 4, 3) := by decide +kernel
theorem dX0_isVector_16 : decode cX0_isVector 16 = .ok (.iconst 0, 1) := by decide +kernel
theorem dX0_isVector_17 : decode cX0_isVector 17 = .ok (.ireturn, 1) := by decide +kernel
theorem dX0_power_0 : decode cX0_power 0 = .ok (.iconst 1, 1) := by decide +kernel
theorem dX0_power_1 : decode cX0_power 1 = .ok (.istore_n 2, 1) := by decide +kernel
theorem dX0_power_2 : decode cX0_power 2 = .ok (.iconst 0, 1) := by decide +kernel
theorem dX0_power_3 : decode cX0_power 3 = .ok (.istore_n 3, 1) := by decide +kernel
theorem dX0_power_4 : decode cX0_power 4 = .ok (.iload_n 3, 1) := by decide +kernel
theorem dX0_power_5 : decode cX0_power 5 = .ok (.iload_n 1, 1) := by decide +kernel
theorem dX0_power_6 : decode cX0_power 6 = .ok (.if_icmp .ge 16, 3) := by decide +kernel
theorem dX0_power_9 : decode cX0_power 9 = .ok (.iload_n 2, 1) := by decide +kernel
theorem dX0_power_10 : decode cX0_power 10 = .ok (.aload_n 0, 1) := by decide +kernel
theorem dX0_power_11 : decode cX0_power 11 = .ok (.getfield 13, 3) := by decide +kernel
theorem dX0_power_14 : decode cX0_power 14 = .ok (.imul, 1) := by decide +kernel
theorem dX0_power_15 : decode cX0_power 15 = .ok (.istore_n 2, 1) := by decide +kernel
theorem dX0_power_16 : decode cX0_power 16 = .ok (.iinc 3 1, 3) := by decide +kernel
theorem dX0_power_19 : decode cX0_power 19 = .ok (.goto (-15), 3) := by decide +kernel
theorem dX0_power_22 : decode cX0_power 22 = .ok (.iload_n 2, 1) := by decide +kernel
theorem dX0_power_23 : decode cX0_power 23 = .ok (.ireturn, 1) := by decide +kernel
theorem dX0_sum_0 : decode cX0_sum 0 = .ok (.iconst 0, 1) := by decide +kernel
theorem dX0_sum_1 : decode cX0_sum 1 = .ok (.istore 4, 2) := by decide +kernel
theorem dX0_sum_3 : decode cX0_sum 3 = .ok (.iconst 1, 1) := by decide +kernel
theorem dX0_sum_4 : decode cX0_sum 4 = .ok (.istore 5, 2) := by decide +kernel
theorem dX0_sum_6 : decode cX0_sum 6 = .ok (.iload_n 1, 1) := by decide +kernel
theorem dX0_sum_7 : decode cX0_sum 7 = .ok (.istore 6, 2) := by decide +kernel
theorem dX0_sum_9 : decode cX0_sum 9 = .ok (.iload_n 2, 1) := by decide +kernel
theorem dX0_sum_10 : decode cX0_sum 10 = .ok (.istore 7, 2) := by decide +kernel
theorem dX0_sum_12 : decode cX0_sum 12 = .ok (.iconst 0, 1) := by decide +kernel
theorem dX0_sum_13 : decode cX0_sum 13 = .ok (.istore 8, 2) := by decide +kernel
theorem dX0_sum_15 : decode cX0_sum 15 = .ok (.iload 8, 2) := by decide +kernel
theorem dX0_sum_17 : decode cX0_sum 17 = .ok (.aload_n 0, 1) := by decide +kernel
theorem dX0_sum_18 : decode cX0_sum 18 = .ok (.getfield 17, 3) := by decide +kernel
theorem dX0_sum_21 : decode cX0_sum 21 = .ok (.if_icmp .ge 66, 3) := by decide +kernel
theorem dX0_sum_24 : decode cX0_sum 24 = .ok (.iload 4, 2) := by decide +kernel
theorem dX0_sum_26 : decode cX0_sum 26 = .ok (.iload 6, 2) := by decide +kernel
theorem dX0_sum_28 : decode cX0_sum 28 = .ok (.aload_n 0, 1) := by decide +kernel
theorem dX0_sum_29 : decode cX0_sum 29 = .ok (.getfield 13, 3) := by decide +kernel
theorem dX0_sum_32 : decode cX0_sum 32 = .ok (.irem, 1) := by decide +kernel
theorem dX0_sum_33 : decode cX0_sum 33 = .ok (.iload_n 3, 1) := by decide +kernel
theorem dX0_sum_34 : decode cX0_sum 34 = .ok (.iload 7, 2) := by decide +kernel
theorem dX0_sum_36 : decode cX0_sum 36 = .ok (.aload_n 0, 1) := by decide +kernel
theorem dX0_sum_37 : decode cX0_sum 37 = .ok (.getfield 13, 3) := by decide +kernel
theorem dX0_sum_40 : decode cX0_sum 40 = .ok (.irem, 1) := by decide +kernel
theorem dX0_sum_41 : decode cX0_sum 41 = .ok (.imul, 1) := by decide +kernel
theorem dX0_sum_42 : decode cX0_sum 42 = .ok (.iadd, 1) := by decide +kernel
theorem dX0_sum_43 : decode cX0_sum 43 = .ok (.aload_n 0, 1) := by decide +kernel
theorem dX0_sum_44 : decode cX0_sum 44 = .ok (.getfield 13, 3) := by decide +kernel
theorem dX0_sum_47 : decode cX0_sum 47 = .ok (.irem, 1) := by decide +kernel
theorem dX0_sum_48 : decode cX0_sum 48 = .ok (.iload 5, 2) := by decide +kernel
theorem dX0_sum_50 : decode cX0_sum 50 = .ok (.imul, 1) := by decide +kernel
theorem dX0_sum_51 : decode cX0_sum 51 = .ok (.iadd, 1) := by decide +kernel
theorem dX0_sum_52 : decode cX0_sum 52 = .ok (.istore 4, 2) := by decide +kernel
theorem dX0_sum_54 : decode cX0_sum 54 = .ok (.iload 5, 2) := by decide +kernel
theorem dX0_sum_56 : decode cX0_sum 56 = .ok (.aload_n 0, 1) := by decide +kernel
theorem dX0_sum_57 : decode cX0_sum 57 = .ok (.getfield 13, 3) := by decide +kernel
theorem dX0_sum_60 : decode cX0_sum 60 = .ok (.imul, 1) := by decide +kernel
theorem dX0_sum_61 : decode cX0_sum 61 = .ok (.istore 5, 2) := by decide +kernel
theorem dX0_sum_63 : decode cX0_sum 63 = .ok (.iload 6, 2) := by decide +kernel
theorem dX0_sum_65 : decode cX0_sum 65 = .ok (.aload_n 0, 1) := by decide +kernel
theorem dX0_sum_66 : decode cX0_sum 66 = .ok (.getfield 13, 3) := by decide +kernel
theorem dX0_sum_69 : decode cX0_sum 69 = .ok (.idiv, 1) := by decide +kernel
theorem dX0_sum_70 : decode cX0_sum 70 = .ok (.istore 6, 2) := by decide +kernel
theorem dX0_sum_72 : decode cX0_sum 72 = .ok (.iload 7, 2) := by decide +kernel
theorem dX0_sum_74 : decode cX0_sum 74 = .ok (.aload_n 0, 1) := by decide +kernel
theorem dX0_sum_75 : decode cX0_sum 75 = .ok (.getfield 13, 3) := by decide +kernel
theorem dX0_sum_78 : decode cX0_sum 78 = .ok (.idiv, 1) := by decide +kernel
theorem dX0_sum_79 : decode cX0_sum 79 = .ok (.istore 7, 2) := by decide +kernel
theorem dX0_sum_81 : decode cX0_sum 81 = .ok (.iinc 8 1, 3) := by decide +kernel
theorem dX0_sum_84 : decode cX0_sum 84 = .ok (.goto (-69), 3) := by decide +kernel
theorem dX0_sum_87 : decode cX0_sum 87 = .ok (.iload 4, 2) := by decide +kernel
theorem dX0_sum_89 : decode cX0_sum 89 = .ok (.ireturn, 1) := by decide +kernel
theorem dX0_product_0 : decode cX0_product 0 = .ok (.iconst 0, 1) := by decide +kernel
theorem dX0_product_1 : decode cX0_product 1 = .ok (.istore_n 3, 1) := by decide +kernel
theorem dX0_product_2 : decode cX0_product 2 = .ok (.iload_n 1, 1) := by decide +kernel
theorem dX0_product_3 : decode cX0_product 3 = .ok (.istore 4, 2) := by decide +kernel
theorem dX0_product_5 : decode cX0_product 5 = .ok (.iload_n 2, 1) := by decide +kernel
theorem dX0_product_6 : decode cX0_product 6 = .ok (.istore 5, 2) := by decide +kernel
theorem dX0_product_8 : decode cX0_product 8 = .ok (.iconst 0, 1) := by decide +kernel
theorem dX0_product_9 : decode cX0_product 9 = .ok (.istore 6, 2) := by decide +kernel
theorem dX0_product_11 : decode cX0_product 11 = .ok (.iload 6, 2) := by decide +kernel
theorem dX0_product_13 : decode cX0_product 13 = .ok (.aload_n 0, 1) := by decide +kernel
theorem dX0_product_14 : decode cX0_product 14 = .ok (.getfield 17, 3) := by decide +kernel
theorem dX0_product_17 : decode cX0_product 17 = .ok (.if_icmp .ge 45, 3) := by decide +kernel
theorem dX0_product_20 : decode cX0_product 20 = .ok (.iload_n 3, 1) := by decide +kernel
theorem dX0_product_21 : decode cX0_product 21 = .ok (.iload 4, 2) := by decide +kernel
theorem dX0_product_23 : decode cX0_product 23 = .ok (.aload_n 0, 1) := by decide +kernel
theorem dX0_product_24 : decode cX0_product 24 = .ok (.getfield 13, 3) := by decide +kernel
theorem dX0_product_27 : decode cX0_product 27 = .ok (.irem, 1) := by decide +kernel
theorem dX0_product_28 : decode cX0_product 28 = .ok (.iload 5, 2) := by decide +kernel
theorem dX0_product_30 : decode cX0_product 30 = .ok (.aload_n 0, 1) := by decide +kernel
theorem dX0_product_31 : decode cX0_product 31 = .ok (.getfield 13, 3) := by decide +kernel
theorem dX0_product_34 : decode cX0_product 34 = .ok (.irem, 1) := by decide +kernel
theorem dX0_product_35 : decode cX0_product 35 = .ok (.imul, 1) := by decide +kernel
theorem dX0_product_36 : decode cX0_product 36 = .ok (.iadd, 1) := by decide +kernel
theorem dX0_product_37 : decode cX0_product 37 = .ok (.istore_n 3, 1) := by decide +kernel
theorem dX0_product_38 : decode cX0_product 38 = .ok (.iload 4, 2) := by decide +kernel
theorem dX0_product_40 : decode cX0_product 40 = .ok (.aload_n 0, 1) := by decide +kernel
theorem dX0_product_41 : decode cX0_product 41 = .ok (.getfield 13, 3) := by decide +kernel
theorem dX0_product_44 : decode cX0_product 44 = .ok (.idiv, 1) := by decide +kernel
theorem dX0_product_45 : decode cX0_product 45 = .ok (.istore 4, 2) := by decide +kernel
theorem dX0_product_47 : decode cX0_product 47 = .ok (.iload 5, 2) := by decide +kernel
theorem dX0_product_49 : decode cX0_product 49 = .ok (.aload_n 0, 1) := by decide +kernel
theorem dX0_product_50 : decode cX0_product 50 = .ok (.getfield 13, 3) := by decide +kernel
theorem dX0_product_53 : decode cX0_product 53 = .ok (.idiv, 1) := by decide +kernel
theorem dX0_product_54 : decode cX0_product 54 = .ok (.istore 5, 2) := by decide +kernel
theorem dX0_product_56 : decode cX0_product 56 = .ok (.iinc 6 1, 3) := by decide +kernel
theorem dX0_product_59 : decode cX0_product 59 = .ok (.goto (-48), 3) := by decide +kernel
theorem dX0_product_62 : decode cX0_product 62 = .ok (.iload_n 3, 1) := by decide +kernel
theorem dX0_product_63 : decode cX0_product 63 = .ok (.aload_n 0, 1) := by decide +kernel
theorem dX0_product_64 : decode cX0_product 64 = .ok (.getfield 13, 3) := by decide +kernel
theorem dX0_product_67 : decode cX0_product 67 = .ok (.irem, 1) := by decide +kernel
theorem dX0_product_68 : decode cX0_product 68 = .ok (.ireturn, 1) := by decide +kernel
theorem dX0_spell_0 : decode cX0_spell 0 = .ok (.iload_n 1, 1) := by decide +kernel
theorem dX0_spell_1 : decode cX0_spell 1 = .ok (.istore 4, 2) := by decide +kernel
theorem dX0_spell_3 : decode cX0_spell 3 = .ok (.aload_n 0, 1) := by decide +kernel
theorem dX0_spell_4 : decode cX0_spell 4 = .ok (.getfield 17, 3) := by decide +kernel
theorem dX0_spell_7 : decode cX0_spell 7 = .ok (.iconst 1, 1) := by decide +kernel
theorem dX0_spell_8 : decode cX0_spell 8 = .ok (.isub, 1) := by decide +kernel
theorem dX0_spell_9 : decode cX0_spell 9 = .ok (.istore 5, 2) := by decide +kernel
theorem dX0_spell_11 : decode cX0_spell 11 = .ok (.iload 5, 2) := by decide +kernel
theorem dX0_spell_13 : decode cX0_spell 13 = .ok (.ifCond .lt 31, 3) := by decide +kernel
theorem dX0_spell_16 : decode cX0_spell 16 = .ok (.aload_n 2, 1) := by decide +kernel
theorem dX0_spell_17 : decode cX0_spell 17 = .ok (.iload_n 3, 1) := by decide +kernel
theorem dX0_spell_18 : decode cX0_spell 18 = .ok (.iload 5, 2) := by decide +kernel
theorem dX0_spell_20 : decode cX0_spell 20 = .ok (.iadd, 1) := by decide +kernel
theorem dX0_spell_21 : decode cX0_spell 21 = .ok (.iload 4, 2) := by decide +kernel
theorem dX0_spell_23 : decode cX0_spell 23 = .ok (.aload_n 0, 1) := by decide +kernel
theorem dX0_spell_24 : decode cX0_spell 24 = .ok (.getfield 13, 3) := by decide +kernel
theorem dX0_spell_27 : decode cX0_spell 27 = .ok (.irem, 1) := by decide +kernel
theorem dX0_spell_28 : decode cX0_spell 28 = .ok (.iastore, 1) := by decide +kernel
theorem dX0_spell_29 : decode cX0_spell 29 = .ok (.iload 4, 2) := by decide +kernel
theorem dX0_spell_31 : decode cX0_spell 31 = .ok (.aload_n 0, 1) := by decide +kernel
theorem dX0_spell_32 : decode cX0_spell 32 = .ok (.getfield 13, 3) := by decide +kernel
theorem dX0_spell_35 : decode cX0_spell 35 = .ok (.idiv, 1) := by decide +kernel
theorem dX0_spell_36 : decode cX0_spell 36 = .ok (.istore 4, 2) := by decide +kernel
theorem dX0_spell_38 : decode cX0_spell 38 = .ok (.iinc 5 (-1), 3) := by decide +kernel
theorem dX0_spell_41 : decode cX0_spell 41 = .ok (.goto (-30), 3) := by decide +kernel
theorem dX0_spell_44 : decode cX0_spell 44 = .ok (.return_, 1) := by decide +kernel
theorem dX0_vectorNumber_0 : decode cX0_vectorNumber 0 = .ok (.iconst 0, 1) := by decide +kernel
theorem dX0_vectorNumber_1 : decode cX0_vectorNumber 1 = .ok (.istore_n 3, 1) := by decide +kernel
theorem dX0_vectorNumber_2 : decode cX0_vectorNumber 2 = .ok (.iconst 0, 1) := by decide +kernel
theorem dX0_vectorNumber_3 : decode cX0_vectorNumber 3 = .ok (.istore 4, 2) := by decide +kernel
theorem dX0_vectorNumber_5 : decode cX0_vectorNumber 5 = .ok (.iload 4, 2) := by decide +kernel
theorem dX0_vectorNumber_7 : decode cX0_vectorNumber 7 = .ok (.aload_n 0, 1) := by decide +kernel
theorem dX0_vectorNumber_8 : decode cX0_vectorNumber 8 = .ok (.getfield 17, 3) := by decide +kernel
theorem dX0_vectorNumber_11 : decode cX0_vectorNumber 11 = .ok (.if_icmp .ge 23, 3) := by decide +kernel
theorem dX0_vectorNumber_14 : decode cX0_vectorNumber 14 = .ok (.iload_n 3, 1) := by decide +kernel
theorem dX0_vectorNumber_15 : decode cX0_vectorNumber 15 = .ok (.aload_n 0, 1) := by decide +kernel
theorem dX0_vectorNumber_16 : decode cX0_vectorNumber 16 = .ok (.getfield 13, 3) := by decide +kernel
theorem dX0_vectorNumber_19 : decode cX0_vectorNumber 19 = .ok (.imul, 1) := by decide +kernel
theorem dX0_vectorNumber_20 : decode cX0_vectorNumber 20 = .ok (.aload_n 1, 1) := by decide +kernel
theorem dX0_vectorNumber_21 : decode cX0_vectorNumber 21 = .ok (.iload_n 2, 1) := by decide +kernel
theorem dX0_vectorNumber_22 : decode cX0_vectorNumber 22 = .ok (.iload 4, 2) := by decide +kernel
theorem dX0_vectorNumber_24 : decode cX0_vectorNumber 24 = .ok (.iadd, 1) := by decide +kernel
theorem dX0_vectorNumber_25 : decode cX0_vectorNumber 25 = .ok (.iaload, 1) := by decide +kernel
theorem dX0_vectorNumber_26 : decode cX0_vectorNumber 26 = .ok (.iadd, 1) := by decide +kernel
theorem dX0_vectorNumber_27 : decode cX0_vectorNumber 27 = .ok (.istore_n 3, 1) := by decide +kernel
theorem dX0_vectorNumber_28 : decode cX0_vectorNumber 28 = .ok (.iinc 4 1, 3) := by decide +kernel
theorem dX0_vectorNumber_31 : decode cX0_vectorNumber 31 = .ok (.goto (-26), 3) := by decide +kernel
theorem dX0_vectorNumber_34 : decode cX0_vectorNumber 34 = .ok (.iload_n 3, 1) := by decide +kernel
theorem dX0_vectorNumber_35 : decode cX0_vectorNumber 35 = .ok (.ireturn, 1) := by decide +kernel
theorem dX0_inverse_0 : decode cX0_inverse 0 = .ok (.iload_n 1, 1) := by decide +kernel
theorem dX0_inverse_1 : decode cX0_inverse 1 = .ok (.iload_n 1, 1) := by decide +kernel
theorem dX0_inverse_2 : decode cX0_inverse 2 = .ok (.imul, 1) := by decide +kernel
theorem dX0_inverse_3 : decode cX0_inverse 3 = .ok (.iload_n 1, 1) := by decide +kernel
theorem dX0_inverse_4 : decode cX0_inverse 4 = .ok (.imul, 1) := by decide +kernel
theorem dX0_inverse_5 : decode cX0_inverse 5 = .ok (.aload_n 0, 1) := by decide +kernel
theorem dX0_inverse_6 : decode cX0_inverse 6 = .ok (.getfield 13, 3) := by decide +kernel
theorem dX0_inverse_9 : decode cX0_inverse 9 = .ok (.irem, 1) := by decide +kernel
theorem dX0_inverse_10 : decode cX0_inverse 10 = .ok (.ireturn, 1) := by decide +kernel
theorem dX0_addMultiple_0 : decode cX0_addMultiple 0 = .ok (.iconst 0, 1) := by decide +kernel
theorem dX0_addMultiple_1 : decode cX0_addMultiple 1 = .ok (.istore 6, 2) := by decide +kernel
theorem dX0_addMultiple_3 : decode cX0_addMultiple 3 = .ok (.iload 6, 2) := by decide +kernel
theorem dX0_addMultiple_5 : decode cX0_addMultiple 5 = .ok (.aload_n 0, 1) := by decide +kernel
theorem dX0_addMultiple_6 : decode cX0_addMultiple 6 = .ok (.getfield 17, 3) := by decide +kernel
theorem dX0_addMultiple_9 : decode cX0_addMultiple 9 = .ok (.if_icmp .ge 37, 3) := by decide +kernel
theorem dX0_addMultiple_12 : decode cX0_addMultiple 12 = .ok (.aload_n 1, 1) := by decide +kernel
theorem dX0_addMultiple_13 : decode cX0_addMultiple 13 = .ok (.iload_n 2, 1) := by decide +kernel
theorem dX0_addMultiple_14 : decode cX0_addMultiple 14 = .ok (.iload 6, 2) := by decide +kernel
theorem dX0_addMultiple_16 : decode cX0_addMultiple 16 = .ok (.iadd, 1) := by decide +kernel
theorem dX0_addMultiple_17 : decode cX0_addMultiple 17 = .ok (.aload_n 1, 1) := by decide +kernel
theorem dX0_addMultiple_18 : decode cX0_addMultiple 18 = .ok (.iload_n 2, 1) := by decide +kernel
theorem dX0_addMultiple_19 : decode cX0_addMultiple 19 = .ok (.iload 6, 2) := by decide +kernel
theorem dX0_addMultiple_21 : decode cX0_addMultiple 21 = .ok (.iadd, 1) := by decide +kernel
theorem dX0_addMultiple_22 : decode cX0_addMultiple 22 = .ok (.iaload, 1) := by decide +kernel
theorem dX0_addMultiple_23 : decode cX0_addMultiple 23 = .ok (.iload 5, 2) := by decide +kernel
theorem dX0_addMultiple_25 : decode cX0_addMultiple 25 = .ok (.aload_n 3, 1) := by decide +kernel
theorem dX0_addMultiple_26 : decode cX0_addMultiple 26 = .ok (.iload 4, 2) := by decide +kernel
theorem dX0_addMultiple_28 : decode cX0_addMultiple 28 = .ok (.iload 6, 2) := by decide +kernel
theorem dX0_addMultiple_30 : decode cX0_addMultiple 30 = .ok (.iadd, 1) := by decide +kernel
theorem dX0_addMultiple_31 : decode cX0_addMultiple 31 = .ok (.iaload, 1) := by decide +kernel
theorem dX0_addMultiple_32 : decode cX0_addMultiple 32 = .ok (.imul, 1) := by decide +kernel
theorem dX0_addMultiple_33 : decode cX0_addMultiple 33 = .ok (.iadd, 1) := by decide +kernel
theorem dX0_addMultiple_34 : decode cX0_addMultiple 34 = .ok (.aload_n 0, 1) := by decide +kernel
theorem dX0_addMultiple_35 : decode cX0_addMultiple 35 = .ok (.getfield 13, 3) := by decide +kernel
theorem dX0_addMultiple_38 : decode cX0_addMultiple 38 = .ok (.irem, 1) := by decide +kernel
theorem dX0_addMultiple_39 : decode cX0_addMultiple 39 = .ok (.iastore, 1) := by decide +kernel
theorem dX0_addMultiple_40 : decode cX0_addMultiple 40 = .ok (.iinc 6 1, 3) := by decide +kernel
theorem dX0_addMultiple_43 : decode cX0_addMultiple 43 = .ok (.goto (-40), 3) := by decide +kernel
theorem dX0_addMultiple_46 : decode cX0_addMultiple 46 = .ok (.return_, 1) := by decide +kernel
set_option maxRecDepth 20000 in
theorem ggX0_spaces_X0_power : GoodIn wsX0_spaces wsX0_power := goodIn_r _ [5, 6, 7, 8, 9] (by decide +kernel) (by decide +kernel)
set_option maxRecDepth 20000 in
theorem gX0_spaces_X0_power : GoodIn wsX0_spaces (wsV RX0 20 RX0 yX0_power wsX0_power) := goodIn_app (goodIn_of _ (by decide +kernel)) ggX0_spaces_X0_power
theorem dX0_spaces_0 : decode cX0_spaces 0 = .ok (.iload_n 2, 1) := by decide +kernel
theorem dX0_spaces_1 : decode cX0_spaces 1 = .ok (.ifCond .lt 8, 3) := by decide +kernel
theorem dX0_spaces_4 : decode cX0_spaces 4 = .ok (.iload_n 2, 1) := by decide +kernel
theorem dX0_spaces_5 : decode cX0_spaces 5 = .ok (.iload_n 1, 1) := by decide +kernel
theorem dX0_spaces_6 : decode cX0_spaces 6 = .ok (.if_icmp .le 5, 3) := by decide +kernel
theorem dX0_spaces_9 : decode cX0_spaces 9 = .ok (.iconst 0, 1) := by decide +kernel
theorem dX0_spaces_10 : decode cX0_spaces 10 = .ok (.ireturn, 1) := by decide +kernel
theorem dX0_spaces_11 : decode cX0_spaces 11 = .ok (.iconst 1, 1) := by decide +kernel
theorem dX0_spaces_12 : decode cX0_spaces 12 = .ok (.istore_n 3, 1) := by decide +kernel
theorem dX0_spaces_13 : decode cX0_spaces 13 = .ok (.iconst 0, 1) := by decide +kernel
theorem dX0_spaces_14 : decode cX0_spaces 14 = .ok (.istore 4, 2) := by decide +kernel
theorem dX0_spaces_16 : decode cX0_spaces 16 = .ok (.iload 4, 2) := by decide +kernel
theorem dX0_spaces_18 : decode cX0_spaces 18 = .ok (.iload_n 2, 1) := by decide +kernel
theorem dX0_spaces_19 : decode cX0_spaces 19 = .ok (.if_icmp .ge 33, 3) := by decide +kernel
theorem dX0_spaces_22 : decode cX0_spaces 22 = .ok (.iload_n 3, 1) := by decide +kernel
theorem dX0_spaces_23 : decode cX0_spaces 23 = .ok (.aload_n 0, 1) := by decide +kernel
theorem dX0_spaces_24 : decode cX0_spaces 24 = .ok (.iload_n 1, 1) := by decide +kernel
theorem dX0_spaces_25 : decode cX0_spaces 25 = .ok (.iload 4, 2) := by decide +kernel
theorem dX0_spaces_27 : decode cX0_spaces 27 = .ok (.isub, 1) := by decide +kernel
theorem dX0_spaces_28 : decode cX0_spaces 28 = .ok (.invokevirtual 20, 3) := by decide +kernel
theorem dX0_spaces_31 : decode cX0_spaces 31 = .ok (.iconst 1, 1) := by decide +kernel
theorem dX0_spaces_32 : decode cX0_spaces 32 = .ok (.isub, 1) := by decide +kernel
theorem dX0_spaces_33 : decode cX0_spaces 33 = .ok (.imul, 1) := by decide +kernel
theorem dX0_spaces_34 : decode cX0_spaces 34 = .ok (.aload_n 0, 1) := by decide +kernel
theorem dX0_spaces_35 : decode cX0_spaces 35 = .ok (.iload 4, 2) := by decide +kernel
theorem dX0_spaces_37 : decode cX0_spaces 37 = .ok (.iconst 1, 1) := by decide +kernel
theorem dX0_spaces_38 : decode cX0_spaces 38 = .ok (.iadd, 1) := by decide +kernel
theorem dX0_spaces_39 : decode cX0_spaces 39 = .ok (.invokevirtual 20, 3) := by decide +kernel
theorem dX0_spaces_42 : decode cX0_spaces 42 = .ok (.iconst 1, 1) := by decide +kernel
theorem dX0_spaces_43 : decode cX0_spaces 43 = .ok (.isub, 1) := by decide +kernel
theorem dX0_spaces_44 : decode cX0_spaces 44 = .ok (.idiv, 1) := by decide +kernel
theorem dX0_spaces_45 : decode cX0_spaces 45 = .ok (.istore_n 3, 1) := by decide +kernel
theorem dX0_spaces_46 : decode cX0_spaces 46 = .ok (.iinc 4 1, 3) := by decide +kernel
theorem dX0_spaces_49 : decode cX0_spaces 49 = .ok (.goto (-33), 3) := by decide +kernel
theorem dX0_spaces_52 : decode cX0_spaces 52 = .ok (.iload_n 3, 1) := by decide +kernel
theorem dX0_spaces_53 : decode cX0_spaces 53 = .ok (.ireturn, 1) := by decide +kernel
set_option maxRecDepth 20000 in
theorem ggX1_init_X3_init : GoodIn wsX1_init wsX3_init := goodIn_r _ [10, 11, 2, 3, 12, 13, 14, 15, 19, 20, 21, 22] (by decide +kernel) (by decide +kernel)
set_option maxRecDepth 20000 in
theorem gX1_init_X3_init_n17 : GoodIn wsX1_init (wsX3_init) := ggX1_init_X3_init
theorem dX1_init_0 : decode cX1_init 0 = .ok (.aload_n 0, 1) := by decide +kernel
theorem dX1_init_1 : decode cX1_init 1 = .ok (.invokespecial 3, 3) := by decide +kernel
theorem dX1_init_4 : decode cX1_init 4 = .ok (.aload_n 0, 1) := by decide +kernel
theorem dX1_init_5 : decode cX1_init 5 = .ok (.bipush 40, 2) := by decide +kernel
theorem dX1_init_7 : decode cX1_init 7 = .ok (.anewarray 9, 3) := by decide +kernel
theorem dX1_init_10 : decode cX1_init 10 = .ok (.putfield 11, 3) := by decide +kernel
theorem dX1_init_13 : decode cX1_init 13 = .ok (.aload_n 0, 1) := by decide +kernel
theorem dX1_init_14 : decode cX1_init 14 = .ok (.new 9, 3) := by decide +kernel
theorem dX1_init_17 : decode cX1_init 17 = .ok (.dup, 1) := by decide +kernel
theorem dX1_init_18 : decode cX1_init 18 = .ok (.aload_n 1, 1) := by decide +kernel
theorem dX1_init_19 : decode cX1_init 19 = .ok (.invokespecial 17, 3) := by decide +kernel
theorem dX1_init_22 : decode cX1_init 22 = .ok (.putfield 20, 3) := by decide +kernel
theorem dX1_init_25 : decode cX1_init 25 = .ok (.iconst 0, 1) := by decide +kernel
theorem dX1_init_26 : decode cX1_init 26 = .ok (.istore_n 2, 1) := by decide +kernel
theorem dX1_init_27 : decode cX1_init 27 = .ok (.iload_n 2, 1) := by decide +kernel
theorem dX1_init_28 : decode cX1_init 28 = .ok (.bipush 40, 2) := by decide +kernel
theorem dX1_init_30 : decode cX1_init 30 = .ok (.if_icmp .ge 23, 3) := by decide +kernel
theorem dX1_init_33 : decode cX1_init 33 = .ok (.aload_n 0, 1) := by decide +kernel
theorem dX1_init_34 : decode cX1_init 34 = .ok (.getfield 11, 3) := by decide +kernel
theorem dX1_init_37 : decode cX1_init 37 = .ok (.iload_n 2, 1) := by decide +kernel
theorem dX1_init_38 : decode cX1_init 38 = .ok (.new 9, 3) := by decide +kernel
theorem dX1_init_41 : decode cX1_init 41 = .ok (.dup, 1) := by decide +kernel
theorem dX1_init_42 : decode cX1_init 42 = .ok (.aload_n 1, 1) := by decide +kernel
theorem dX1_init_43 : decode cX1_init 43 = .ok (.invokespecial 17, 3) := by decide +kernel
theorem dX1_init_46 : decode cX1_init 46 = .ok (.aastore, 1) := by decide +kernel
theorem dX1_init_47 : decode cX1_init 47 = .ok (.iinc 2 1, 3) := by decide +kernel
theorem dX1_init_50 : decode cX1_init 50 = .ok (.goto (-23), 3) := by decide +kernel
theorem dX1_init_53 : decode cX1_init 53 = .ok (.return_, 1) := by decide +kernel
set_option maxRecDepth 20000 in
theorem ggX1_accept_X3_copyFrom : GoodIn wsX1_accept wsX3_copyFrom := goodIn_r _ [6, 7, 8, 9, 10, 11, 12, 16, 17, 18, 19] (by decide +kernel) (by decide +kernel)
set_option maxRecDepth 20000 in
theorem gX1_accept_X3_copyFrom_n28 : GoodIn wsX1_accept (wsX3_copyFrom) := ggX1_accept_X3_copyFrom
theorem dX1_accept_0 : decode cX1_accept 0 = .ok (.aload_n 0, 1) := by decide +kernel
theorem dX1_accept_1 : decode cX1_accept 1 = .ok (.getfield 24, 3) := by decide +kernel
theorem dX1_accept_4 : decode cX1_accept 4 = .ok (.bipush 40, 2) := by decide +kernel
theorem dX1_accept_6 : decode cX1_accept 6 = .ok (.if_icmp .ge 26, 3) := by decide +kernel
theorem dX1_accept_9 : decode cX1_accept 9 = .ok (.aload_n 0, 1) := by decide +kernel
theorem dX1_accept_10 : decode cX1_accept 10 = .ok (.getfield 11, 3) := by decide +kernel
theorem dX1_accept_13 : decode cX1_accept 13 = .ok (.aload_n 0, 1) := by decide +kernel
theorem dX1_accept_14 : decode cX1_accept 14 = .ok (.getfield 24, 3) := by decide +kernel
theorem dX1_accept_17 : decode cX1_accept 17 = .ok (.aaload, 1) := by decide +kernel
theorem dX1_accept_18 : decode cX1_accept 18 = .ok (.aload_n 1, 1) := by decide +kernel
theorem dX1_accept_19 : decode cX1_accept 19 = .ok (.invokevirtual 28, 3) := by decide +kernel
theorem dX1_accept_22 : decode cX1_accept 22 = .ok (.aload_n 0, 1) := by decide +kernel
theorem dX1_accept_23 : decode cX1_accept 23 = .ok (.dup, 1) := by decide +kernel
theorem dX1_accept_24 : decode cX1_accept 24 = .ok (.getfield 24, 3) := by decide +kernel
theorem dX1_accept_27 : decode cX1_accept 27 = .ok (.iconst 1, 1) := by decide +kernel
theorem dX1_accept_28 : decode cX1_accept 28 = .ok (.iadd, 1) := by decide +kernel
theorem dX1_accept_29 : decode cX1_accept 29 = .ok (.putfield 24, 3) := by decide +kernel
theorem dX1_accept_32 : decode cX1_accept 32 = .ok (.return_, 1) := by decide +kernel
set_option maxRecDepth 20000 in
theorem ggX1_allApart_X3_distance : GoodIn wsX1_allApart wsX3_distance := goodIn_r _ [7, 8, 9, 10, 5, 11, 12, 13, 14, 15, 16, 17, 18, 19, 20, 21, 22, 23, 24, 25, 26, 27, 28, 29, 30, 31, 32, 33, 34, 35, 36, 37, 38, 39, 40, 41, 42, 43, 44, 45, 46, 47, 48, 49, 50, 51, 52, 53, 54, 55, 56, 57, 58, 59, 63, 64, 65, 66, 67, 68, 69] (by decide +kernel) (by decide +kernel)
set_option maxRecDepth 20000 in
theorem gX1_allApart_X3_distance_n32 : GoodIn wsX1_allApart (wsX3_distance) := ggX1_allApart_X3_distance
theorem dX1_allApart_0 : decode cX1_allApart 0 = .ok (.iconst 0, 1) := by decide +kernel
theorem dX1_allApart_1 : decode cX1_allApart 1 = .ok (.istore_n 3, 1) := by decide +kernel
theorem dX1_allApart_2 : decode cX1_allApart 2 = .ok (.iload_n 3, 1) := by decide +kernel
theorem dX1_allApart_3 : decode cX1_allApart 3 = .ok (.aload_n 0, 1) := by decide +kernel
theorem dX1_allApart_4 : decode cX1_allApart 4 = .ok (.getfield 24, 3) := by decide +kernel
theorem dX1_allApart_7 : decode cX1_allApart 7 = .ok (.if_icmp .ge 29, 3) := by decide +kernel
theorem dX1_allApart_10 : decode cX1_allApart 10 = .ok (.aload_n 0, 1) := by decide +kernel
theorem dX1_allApart_11 : decode cX1_allApart 11 = .ok (.getfield 20, 3) := by decide +kernel
theorem dX1_allApart_14 : decode cX1_allApart 14 = .ok (.aload_n 1, 1) := by decide +kernel
theorem dX1_allApart_15 : decode cX1_allApart 15 = .ok (.aload_n 0, 1) := by decide +kernel
theorem dX1_allApart_16 : decode cX1_allApart 16 = .ok (.getfield 11, 3) := by decide +kernel
theorem dX1_allApart_19 : decode cX1_allApart 19 = .ok (.iload_n 3, 1) := by decide +kernel
theorem dX1_allApart_20 : decode cX1_allApart 20 = .ok (.aaload, 1) := by decide +kernel
theorem dX1_allApart_21 : decode cX1_allApart 21 = .ok (.invokevirtual 32, 3) := by decide +kernel
theorem dX1_allApart_24 : decode cX1_allApart 24 = .ok (.iload_n 2, 1) := by decide +kernel
theorem dX1_allApart_25 : decode cX1_allApart 25 = .ok (.if_icmp .ge 5, 3) := by decide +kernel
theorem dX1_allApart_28 : decode cX1_allApart 28 = .ok (.iconst 0, 1) := by decide +kernel
theorem dX1_allApart_29 : decode cX1_allApart 29 = .ok (.ireturn, 1) := by decide +kernel
theorem dX1_allApart_30 : decode cX1_allApart 30 = .ok (.iinc 3 1, 3) := by decide +kernel
theorem dX1_allApart_33 : decode cX1_allApart 33 = .ok (.goto (-31), 3) := by decide +kernel
theorem dX1_allApart_36 : decode cX1_allApart 36 = .ok (.iconst 1, 1) := by decide +kernel
theorem dX1_allApart_37 : decode cX1_allApart 37 = .ok (.ireturn, 1) := by decide +kernel
set_option maxRecDepth 20000 in
theorem ggX1_leastDistance_X3_distance : GoodIn wsX1_leastDistance wsX3_distance := goodIn_r _ [7, 8, 9, 10, 5, 11, 12, 13, 14, 15, 16, 17, 18, 19, 20, 21, 22, 23, 24, 25, 26, 27, 28, 29, 30, 31, 32, 33, 34, 35, 36, 37, 38, 39, 40, 41, 42, 43, 44, 45, 46, 47, 48, 49, 50, 51, 52, 53, 54, 55, 56, 57, 58, 59, 63, 64, 65, 66, 67, 68, 69] (by decide +kernel) (by decide +kernel)
set_option maxRecDepth 20000 in
theorem gX1_leastDistance_X3_distance_n32 : GoodIn wsX1_leastDistance (wsX3_distance) := ggX1_leastDistance_X3_distance
theorem dX1_leastDistance_0 : decode cX1_leastDistance 0 = .ok (.iconst (-1), 1) := by decide +kernel
theorem dX1_leastDistance_1 : decode cX1_leastDistance 1 = .ok (.istore_n 1, 1) := by decide +kernel
theorem dX1_leastDistance_2 : decode cX1_leastDistance 2 = .ok (.iconst 1, 1) := by decide +kernel
theorem dX1_leastDistance_3 : decode cX1_leastDistance 3 = .ok (.istore_n 2, 1) := by decide +kernel
theorem dX1_leastDistance_4 : decode cX1_leastDistance 4 = .ok (.iload_n 2, 1) := by decide +kernel
theorem dX1_leastDistance_5 : decode cX1_leastDistance 5 = .ok (.aload_n 0, 1) := by decide +kernel
theorem dX1_leastDistance_6 : decode cX1_leastDistance 6 = .ok (.getfield 24, 3) := by decide +kernel
theorem dX1_leastDistance_9 : decode cX1_leastDistance 9 = .ok (.if_icmp .ge 57, 3) := by decide +kernel
theorem dX1_leastDistance_12 : decode cX1_leastDistance 12 = .ok (.iconst 0, 1) := by decide +kernel
theorem dX1_leastDistance_13 : decode cX1_leastDistance 13 = .ok (.istore_n 3, 1) := by decide +kernel
theorem dX1_leastDistance_14 : decode cX1_leastDistance 14 = .ok (.iload_n 3, 1) := by decide +kernel
theorem dX1_leastDistance_15 : decode cX1_leastDistance 15 = .ok (.iload_n 2, 1) := by decide +kernel
theorem dX1_leastDistance_16 : decode cX1_leastDistance 16 = .ok (.if_icmp .ge 44, 3) := by decide +kernel
theorem dX1_leastDistance_19 : decode cX1_leastDistance 19 = .ok (.aload_n 0, 1) := by decide +kernel
theorem dX1_leastDistance_20 : decode cX1_leastDistance 20 = .ok (.getfield 20, 3) := by decide +kernel
theorem dX1_leastDistance_23 : decode cX1_leastDistance 23 = .ok (.aload_n 0, 1) := by decide +kernel
theorem dX1_leastDistance_24 : decode cX1_leastDistance 24 = .ok (.getfield 11, 3) := by decide +kernel
theorem dX1_leastDistance_27 : decode cX1_leastDistance 27 = .ok (.iload_n 2, 1) := by decide +kernel
theorem dX1_leastDistance_28 : decode cX1_leastDistance 28 = .ok (.aaload, 1) := by decide +kernel
theorem dX1_leastDistance_29 : decode cX1_leastDistance 29 = .ok (.aload_n 0, 1) := by decide +kernel
theorem dX1_leastDistance_30 : decode cX1_leastDistance 30 = .ok (.getfield 11, 3) := by decide +kernel
theorem dX1_leastDistance_33 : decode cX1_leastDistance 33 = .ok (.iload_n 3, 1) := by decide +kernel
theorem dX1_leastDistance_34 : decode cX1_leastDistance 34 = .ok (.aaload, 1) := by decide +kernel
theorem dX1_leastDistance_35 : decode cX1_leastDistance 35 = .ok (.invokevirtual 32, 3) := by decide +kernel
theorem dX1_leastDistance_38 : decode cX1_leastDistance 38 = .ok (.istore 4, 2) := by decide +kernel
theorem dX1_leastDistance_40 : decode cX1_leastDistance 40 = .ok (.iload_n 1, 1) := by decide +kernel
theorem dX1_leastDistance_41 : decode cX1_leastDistance 41 = .ok (.iconst (-1), 1) := by decide +kernel
theorem dX1_leastDistance_42 : decode cX1_leastDistance 42 = .ok (.if_icmp .eq 9, 3) := by decide +kernel
theorem dX1_leastDistance_45 : decode cX1_leastDistance 45 = .ok (.iload 4, 2) := by decide +kernel
theorem dX1_leastDistance_47 : decode cX1_leastDistance 47 = .ok (.iload_n 1, 1) := by decide +kernel
theorem dX1_leastDistance_48 : decode cX1_leastDistance 48 = .ok (.if_icmp .ge 6, 3) := by decide +kernel
theorem dX1_leastDistance_51 : decode cX1_leastDistance 51 = .ok (.iload 4, 2) := by decide +kernel
theorem dX1_leastDistance_53 : decode cX1_leastDistance 53 = .ok (.istore_n 1, 1) := by decide +kernel
theorem dX1_leastDistance_54 : decode cX1_leastDistance 54 = .ok (.iinc 3 1, 3) := by decide +kernel
theorem dX1_leastDistance_57 : decode cX1_leastDistance 57 = .ok (.goto (-43), 3) := by decide +kernel
theorem dX1_leastDistance_60 : decode cX1_leastDistance 60 = .ok (.iinc 2 1, 3) := by decide +kernel
theorem dX1_leastDistance_63 : decode cX1_leastDistance 63 = .ok (.goto (-59), 3) := by decide +kernel
theorem dX1_leastDistance_66 : decode cX1_leastDistance 66 = .ok (.iload_n 1, 1) := by decide +kernel
theorem dX1_leastDistance_67 : decode cX1_leastDistance 67 = .ok (.ireturn, 1) := by decide +kernel
set_option maxRecDepth 20000 in
theorem ggX1_covers_X3_holds : GoodIn wsX1_covers wsX3_holds := goodIn_r _ [6, 7, 8, 9, 10, 4, 11, 12, 13, 14, 15, 16, 17, 21, 22, 23, 24, 25, 26, 27] (by decide +kernel) (by decide +kernel)
set_option maxRecDepth 20000 in
theorem gX1_covers_X3_holds_n36 : GoodIn wsX1_covers (wsX3_holds) := ggX1_covers_X3_holds
theorem dX1_covers_0 : decode cX1_covers 0 = .ok (.iconst 0, 1) := by decide +kernel
theorem dX1_covers_1 : decode cX1_covers 1 = .ok (.istore_n 2, 1) := by decide +kernel
theorem dX1_covers_2 : decode cX1_covers 2 = .ok (.iload_n 2, 1) := by decide +kernel
theorem dX1_covers_3 : decode cX1_covers 3 = .ok (.aload_n 0, 1) := by decide +kernel
theorem dX1_covers_4 : decode cX1_covers 4 = .ok (.getfield 24, 3) := by decide +kernel
theorem dX1_covers_7 : decode cX1_covers 7 = .ok (.if_icmp .ge 25, 3) := by decide +kernel
theorem dX1_covers_10 : decode cX1_covers 10 = .ok (.aload_n 0, 1) := by decide +kernel
theorem dX1_covers_11 : decode cX1_covers 11 = .ok (.getfield 11, 3) := by decide +kernel
theorem dX1_covers_14 : decode cX1_covers 14 = .ok (.iload_n 2, 1) := by decide +kernel
theorem dX1_covers_15 : decode cX1_covers 15 = .ok (.aaload, 1) := by decide +kernel
theorem dX1_covers_16 : decode cX1_covers 16 = .ok (.aload_n 1, 1) := by decide +kernel
theorem dX1_covers_17 : decode cX1_covers 17 = .ok (.iconst 0, 1) := by decide +kernel
theorem dX1_covers_18 : decode cX1_covers 18 = .ok (.invokevirtual 36, 3) := by decide +kernel
theorem dX1_covers_21 : decode cX1_covers 21 = .ok (.ifCond .eq 5, 3) := by decide +kernel
theorem dX1_covers_24 : decode cX1_covers 24 = .ok (.iconst 1, 1) := by decide +kernel
theorem dX1_covers_25 : decode cX1_covers 25 = .ok (.ireturn, 1) := by decide +kernel
theorem dX1_covers_26 : decode cX1_covers 26 = .ok (.iinc 2 1, 3) := by decide +kernel
theorem dX1_covers_29 : decode cX1_covers 29 = .ok (.goto (-27), 3) := by decide +kernel
theorem dX1_covers_32 : decode cX1_covers 32 = .ok (.iconst 0, 1) := by decide +kernel
theorem dX1_covers_33 : decode cX1_covers 33 = .ok (.ireturn, 1) := by decide +kernel
set_option maxRecDepth 20000 in
theorem ggX2_init_X2_becomeIdentity : GoodIn wsX2_init wsX2_becomeIdentity := goodIn_r _ [12, 5, 7, 13, 14, 15, 16, 17, 18, 19, 20, 21, 22] (by decide +kernel) (by decide +kernel)
set_option maxRecDepth 20000 in
theorem gX2_init_X2_becomeIdentity : GoodIn wsX2_init (wsV RX2 22 RX2 yX2_becomeIdentity wsX2_becomeIdentity) := goodIn_app (goodIn_of _ (by decide +kernel)) ggX2_init_X2_becomeIdentity
theorem dX2_init_0 : decode cX2_init 0 = .ok (.aload_n 0, 1) := by decide +kernel
theorem dX2_init_1 : decode cX2_init 1 = .ok (.invokespecial 3, 3) := by decide +kernel
theorem dX2_init_4 : decode cX2_init 4 = .ok (.aload_n 0, 1) := by decide +kernel
theorem dX2_init_5 : decode cX2_init 5 = .ok (.bipush 36, 2) := by decide +kernel
theorem dX2_init_7 : decode cX2_init 7 = .ok (.newarray .int, 2) := by decide +kernel
theorem dX2_init_9 : decode cX2_init 9 = .ok (.putfield 9, 3) := by decide +kernel
theorem dX2_init_12 : decode cX2_init 12 = .ok (.aload_n 0, 1) := by decide +kernel
theorem dX2_init_13 : decode cX2_init 13 = .ok (.bipush 6, 2) := by decide +kernel
theorem dX2_init_15 : decode cX2_init 15 = .ok (.newarray .int, 2) := by decide +kernel
theorem dX2_init_17 : decode cX2_init 17 = .ok (.putfield 15, 3) := by decide +kernel
theorem dX2_init_20 : decode cX2_init 20 = .ok (.aload_n 0, 1) := by decide +kernel
theorem dX2_init_21 : decode cX2_init 21 = .ok (.aload_n 1, 1) := by decide +kernel
theorem dX2_init_22 : decode cX2_init 22 = .ok (.putfield 18, 3) := by decide +kernel
theorem dX2_init_25 : decode cX2_init 25 = .ok (.aload_n 0, 1) := by decide +kernel
theorem dX2_init_26 : decode cX2_init 26 = .ok (.invokevirtual 22, 3) := by decide +kernel
theorem dX2_init_29 : decode cX2_init 29 = .ok (.return_, 1) := by decide +kernel
set_option maxRecDepth 20000 in
theorem ggX2_becomeIdentity_J7_fill_53178 : GoodIn wsX2_becomeIdentity wsJ7_fill_53178 := goodIn_r _ [6] (by decide +kernel) (by decide +kernel)
set_option maxRecDepth 20000 in
theorem gX2_becomeIdentity_J7_fill_53178 : GoodIn wsX2_becomeIdentity (va_wsS RX2 25 yJ7_fill_53178 wsJ7_fill_53178) := goodIn_app (goodIn_of _ (by decide +kernel)) ggX2_becomeIdentity_J7_fill_53178
theorem dX2_becomeIdentity_0 : decode cX2_becomeIdentity 0 = .ok (.aload_n 0, 1) := by decide +kernel
theorem dX2_becomeIdentity_1 : decode cX2_becomeIdentity 1 = .ok (.getfield 9, 3) := by decide +kernel
theorem dX2_becomeIdentity_4 : decode cX2_becomeIdentity 4 = .ok (.iconst 0, 1) := by decide +kernel
theorem dX2_becomeIdentity_5 : decode cX2_becomeIdentity 5 = .ok (.invokestatic 25, 3) := by decide +kernel
theorem dX2_becomeIdentity_8 : decode cX2_becomeIdentity 8 = .ok (.iconst 0, 1) := by decide +kernel
theorem dX2_becomeIdentity_9 : decode cX2_becomeIdentity 9 = .ok (.istore_n 1, 1) := by decide +kernel
theorem dX2_becomeIdentity_10 : decode cX2_becomeIdentity 10 = .ok (.iload_n 1, 1) := by decide +kernel
theorem dX2_becomeIdentity_11 : decode cX2_becomeIdentity 11 = .ok (.aload_n 0, 1) := by decide +kernel
theorem dX2_becomeIdentity_12 : decode cX2_becomeIdentity 12 = .ok (.getfield 18, 3) := by decide +kernel
theorem dX2_becomeIdentity_15 : decode cX2_becomeIdentity 15 = .ok (.getfield 31, 3) := by decide +kernel
theorem dX2_becomeIdentity_18 : decode cX2_becomeIdentity 18 = .ok (.if_icmp .ge 21, 3) := by decide +kernel
theorem dX2_becomeIdentity_21 : decode cX2_becomeIdentity 21 = .ok (.aload_n 0, 1) := by decide +kernel
theorem dX2_becomeIdentity_22 : decode cX2_becomeIdentity 22 = .ok (.getfield 9, 3) := by decide +kernel
theorem dX2_becomeIdentity_25 : decode cX2_becomeIdentity 25 = .ok (.iload_n 1, 1) := by decide +kernel
theorem dX2_becomeIdentity_26 : decode cX2_becomeIdentity 26 = .ok (.bipush 6, 2) := by decide +kernel
theorem dX2_becomeIdentity_28 : decode cX2_becomeIdentity 28 = .ok (.imul, 1) := by decide +kernel
theorem dX2_becomeIdentity_29 : decode cX2_becomeIdentity 29 = .ok (.iload_n 1, 1) := by decide +kernel
theorem dX2_becomeIdentity_30 : decode cX2_becomeIdentity 30 = .ok (.iadd, 1) := by decide +kernel
theorem dX2_becomeIdentity_31 : decode cX2_becomeIdentity 31 = .ok (.iconst 1, 1) := by decide +kernel
theorem dX2_becomeIdentity_32 : decode cX2_becomeIdentity 32 = .ok (.iastore, 1) := by decide +kernel
theorem dX2_becomeIdentity_33 : decode cX2_becomeIdentity 33 = .ok (.iinc 1 1, 3) := by decide +kernel
theorem dX2_becomeIdentity_36 : decode cX2_becomeIdentity 36 = .ok (.goto (-26), 3) := by decide +kernel
theorem dX2_becomeIdentity_39 : decode cX2_becomeIdentity 39 = .ok (.return_, 1) := by decide +kernel
set_option maxRecDepth 20000 in
theorem ggX2_imageNumber_X0_vectorNumber : GoodIn wsX2_imageNumber wsX0_vectorNumber := goodIn_r _ [6, 7, 8, 12, 13, 14] (by decide +kernel) (by decide +kernel)
set_option maxRecDepth 20000 in
theorem gX2_imageNumber_X0_vectorNumber_n37 : GoodIn wsX2_imageNumber (wsX0_vectorNumber) := ggX2_imageNumber_X0_vectorNumber
theorem dX2_imageNumber_0 : decode cX2_imageNumber 0 = .ok (.aload_n 0, 1) := by decide +kernel
theorem dX2_imageNumber_1 : decode cX2_imageNumber 1 = .ok (.getfield 18, 3) := by decide +kernel
theorem dX2_imageNumber_4 : decode cX2_imageNumber 4 = .ok (.aload_n 0, 1) := by decide +kernel
theorem dX2_imageNumber_5 : decode cX2_imageNumber 5 = .ok (.getfield 9, 3) := by decide +kernel
theorem dX2_imageNumber_8 : decode cX2_imageNumber 8 = .ok (.iload_n 1, 1) := by decide +kernel
theorem dX2_imageNumber_9 : decode cX2_imageNumber 9 = .ok (.bipush 6, 2) := by decide +kernel
theorem dX2_imageNumber_11 : decode cX2_imageNumber 11 = .ok (.imul, 1) := by decide +kernel
theorem dX2_imageNumber_12 : decode cX2_imageNumber 12 = .ok (.invokevirtual 37, 3) := by decide +kernel
theorem dX2_imageNumber_15 : decode cX2_imageNumber 15 = .ok (.ireturn, 1) := by decide +kernel
set_option maxRecDepth 20000 in
theorem ggX2_setImage_X0_spell : GoodIn wsX2_setImage wsX0_spell := goodIn_r _ [6, 7, 8, 12, 13, 14] (by decide +kernel) (by decide +kernel)
set_option maxRecDepth 20000 in
theorem gX2_setImage_X0_spell_n41 : GoodIn wsX2_setImage (wsX0_spell) := ggX2_setImage_X0_spell
theorem dX2_setImage_0 : decode cX2_setImage 0 = .ok (.aload_n 0, 1) := by decide +kernel
theorem dX2_setImage_1 : decode cX2_setImage 1 = .ok (.getfield 18, 3) := by decide +kernel
theorem dX2_setImage_4 : decode cX2_setImage 4 = .ok (.iload_n 2, 1) := by decide +kernel
theorem dX2_setImage_5 : decode cX2_setImage 5 = .ok (.aload_n 0, 1) := by decide +kernel
theorem dX2_setImage_6 : decode cX2_setImage 6 = .ok (.getfield 9, 3) := by decide +kernel
theorem dX2_setImage_9 : decode cX2_setImage 9 = .ok (.iload_n 1, 1) := by decide +kernel
theorem dX2_setImage_10 : decode cX2_setImage 10 = .ok (.bipush 6, 2) := by decide +kernel
theorem dX2_setImage_12 : decode cX2_setImage 12 = .ok (.imul, 1) := by decide +kernel
theorem dX2_setImage_13 : decode cX2_setImage 13 = .ok (.invokevirtual 41, 3) := by decide +kernel
theorem dX2_setImage_16 : decode cX2_setImage 16 = .ok (.return_, 1) := by decide +kernel
set_option maxRecDepth 20000 in
theorem ggX2_apply_X2_applyInto : GoodIn wsX2_apply wsX2_applyInto := goodIn_r _ [7, 2, 1, 8, 9, 10, 11, 12, 13, 14, 15, 16, 17, 18, 22, 23, 24, 25, 26, 27] (by decide +kernel) (by decide +kernel)
set_option maxRecDepth 20000 in
theorem gX2_apply_X2_applyInto : GoodIn wsX2_apply (wsV RX2 45 RX2 yX2_applyInto wsX2_applyInto) := goodIn_app (goodIn_of _ (by decide +kernel)) ggX2_apply_X2_applyInto
set_option maxRecDepth 20000 in
theorem ggX2_apply_X0_vectorNumber : GoodIn wsX2_apply wsX0_vectorNumber := goodIn_r _ [21, 17, 18, 25, 26, 27] (by decide +kernel) (by decide +kernel)
set_option maxRecDepth 20000 in
theorem gX2_apply_X0_vectorNumber_n37 : GoodIn wsX2_apply (wsX0_vectorNumber) := ggX2_apply_X0_vectorNumber
theorem dX2_apply_0 : decode cX2_apply 0 = .ok (.aload_n 0, 1) := by decide +kernel
theorem dX2_apply_1 : decode cX2_apply 1 = .ok (.aload_n 1, 1) := by decide +kernel
theorem dX2_apply_2 : decode cX2_apply 2 = .ok (.iconst 0, 1) := by decide +kernel
theorem dX2_apply_3 : decode cX2_apply 3 = .ok (.invokevirtual 45, 3) := by decide +kernel
theorem dX2_apply_6 : decode cX2_apply 6 = .ok (.aload_n 0, 1) := by decide +kernel
theorem dX2_apply_7 : decode cX2_apply 7 = .ok (.getfield 18, 3) := by decide +kernel
theorem dX2_apply_10 : decode cX2_apply 10 = .ok (.aload_n 0, 1) := by decide +kernel
theorem dX2_apply_11 : decode cX2_apply 11 = .ok (.getfield 15, 3) := by decide +kernel
theorem dX2_apply_14 : decode cX2_apply 14 = .ok (.iconst 0, 1) := by decide +kernel
theorem dX2_apply_15 : decode cX2_apply 15 = .ok (.invokevirtual 37, 3) := by decide +kernel
theorem dX2_apply_18 : decode cX2_apply 18 = .ok (.ireturn, 1) := by decide +kernel
set_option maxRecDepth 20000 in
theorem ggX2_applyInto_J7_fill_53178 : GoodIn wsX2_applyInto wsJ7_fill_53178 := goodIn_r _ [7] (by decide +kernel) (by decide +kernel)
set_option maxRecDepth 20000 in
theorem gX2_applyInto_J7_fill_53178 : GoodIn wsX2_applyInto (va_wsS RX2 25 yJ7_fill_53178 wsJ7_fill_53178) := goodIn_app (goodIn_of _ (by decide +kernel)) ggX2_applyInto_J7_fill_53178
set_option maxRecDepth 20000 in
theorem ggX2_applyInto_X0_addMultiple : GoodIn wsX2_applyInto wsX0_addMultiple := goodIn_r _ [11, 12, 13, 17, 18, 19] (by decide +kernel) (by decide +kernel)
set_option maxRecDepth 20000 in
theorem gX2_applyInto_X0_addMultiple_n48 : GoodIn wsX2_applyInto (wsX0_addMultiple) := ggX2_applyInto_X0_addMultiple
theorem dX2_applyInto_0 : decode cX2_applyInto 0 = .ok (.aload_n 0, 1) := by decide +kernel
theorem dX2_applyInto_1 : decode cX2_applyInto 1 = .ok (.getfield 15, 3) := by decide +kernel
theorem dX2_applyInto_4 : decode cX2_applyInto 4 = .ok (.iconst 0, 1) := by decide +kernel
theorem dX2_applyInto_5 : decode cX2_applyInto 5 = .ok (.invokestatic 25, 3) := by decide +kernel
theorem dX2_applyInto_8 : decode cX2_applyInto 8 = .ok (.iconst 0, 1) := by decide +kernel
theorem dX2_applyInto_9 : decode cX2_applyInto 9 = .ok (.istore_n 3, 1) := by decide +kernel
theorem dX2_applyInto_10 : decode cX2_applyInto 10 = .ok (.iload_n 3, 1) := by decide +kernel
theorem dX2_applyInto_11 : decode cX2_applyInto 11 = .ok (.aload_n 0, 1) := by decide +kernel
theorem dX2_applyInto_12 : decode cX2_applyInto 12 = .ok (.getfield 18, 3) := by decide +kernel
theorem dX2_applyInto_15 : decode cX2_applyInto 15 = .ok (.getfield 31, 3) := by decide +kernel
theorem dX2_applyInto_18 : decode cX2_applyInto 18 = .ok (.if_icmp .ge 42, 3) := by decide +kernel
theorem dX2_applyInto_21 : decode cX2_applyInto 21 = .ok (.aload_n 1, 1) := by decide +kernel
theorem dX2_applyInto_22 : decode cX2_applyInto 22 = .ok (.iload_n 2, 1) := by decide +kernel
theorem dX2_applyInto_23 : decode cX2_applyInto 23 = .ok (.iload_n 3, 1) := by decide +kernel
theorem dX2_applyInto_24 : decode cX2_applyInto 24 = .ok (.iadd, 1) := by decide +kernel
theorem dX2_applyInto_25 : decode cX2_applyInto 25 = .ok (.iaload, 1) := by decide +kernel
theorem dX2_applyInto_26 : decode cX2_applyInto 26 = .ok (.ifCond .eq 28, 3) := by decide +kernel
theorem dX2_applyInto_29 : decode cX2_applyInto 29 = .ok (.aload_n 0, 1) := by decide +kernel
theorem dX2_applyInto_30 : decode cX2_applyInto 30 = .ok (.getfield 18, 3) := by decide +kernel
theorem dX2_applyInto_33 : decode cX2_applyInto 33 = .ok (.aload_n 0, 1) := by decide +kernel
theorem dX2_applyInto_34 : decode cX2_applyInto 34 = .ok (.getfield 15, 3) := by decide +kernel
theorem dX2_applyInto_37 : decode cX2_applyInto 37 = .ok (.iconst 0, 1) := by decide +kernel
theorem dX2_applyInto_38 : decode cX2_applyInto 38 = .ok (.aload_n 0, 1) := by decide +kernel
theorem dX2_applyInto_39 : decode cX2_applyInto 39 = .ok (.getfield 9, 3) := by decide +kernel
theorem dX2_applyInto_42 : decode cX2_applyInto 42 = .ok (.iload_n 3, 1) := by decide +kernel
theorem dX2_applyInto_43 : decode cX2_applyInto 43 = .ok (.bipush 6, 2) := by decide +kernel
theorem dX2_applyInto_45 : decode cX2_applyInto 45 = .ok (.imul, 1) := by decide +kernel
theorem dX2_applyInto_46 : decode cX2_applyInto 46 = .ok (.aload_n 1, 1) := by decide +kernel
theorem dX2_applyInto_47 : decode cX2_applyInto 47 = .ok (.iload_n 2, 1) := by decide +kernel
theorem dX2_applyInto_48 : decode cX2_applyInto 48 = .ok (.iload_n 3, 1) := by decide +kernel
theorem dX2_applyInto_49 : decode cX2_applyInto 49 = .ok (.iadd, 1) := by decide +kernel
theorem dX2_applyInto_50 : decode cX2_applyInto 50 = .ok (.iaload, 1) := by decide +kernel
theorem dX2_applyInto_51 : decode cX2_applyInto 51 = .ok (.invokevirtual 48, 3) := by decide +kernel
theorem dX2_applyInto_54 : decode cX2_applyInto 54 = .ok (.iinc 3 1, 3) := by decide +kernel
theorem dX2_applyInto_57 : decode cX2_applyInto 57 = .ok (.goto (-47), 3) := by decide +kernel
theorem dX2_applyInto_60 : decode cX2_applyInto 60 = .ok (.return_, 1) := by decide +kernel
set_option maxRecDepth 20000 in
theorem ggX2_applyToSpace_X3_becomeZero : GoodIn wsX2_applyToSpace wsX3_becomeZero := goodIn_r _ [6, 7, 59, 60, 61, 62] (by decide +kernel) (by decide +kernel)
set_option maxRecDepth 20000 in
theorem gX2_applyToSpace_X3_becomeZero_n52 : GoodIn wsX2_applyToSpace (wsX3_becomeZero) := ggX2_applyToSpace_X3_becomeZero
set_option maxRecDepth 20000 in
theorem ggX2_applyToSpace_X3_isPivot : GoodIn wsX2_applyToSpace wsX3_isPivot := goodIn_r _ [10, 7, 11, 59, 60, 61, 62, 56, 57, 58] (by decide +kernel) (by decide +kernel)
set_option maxRecDepth 20000 in
theorem gX2_applyToSpace_X3_isPivot_n57 : GoodIn wsX2_applyToSpace (wsX3_isPivot) := ggX2_applyToSpace_X3_isPivot
set_option maxRecDepth 20000 in
theorem ggX2_applyToSpace_X2_applyInto : GoodIn wsX2_applyToSpace wsX2_applyInto := goodIn_r _ [16, 2, 1, 17, 18, 19, 20, 21, 22, 23, 24, 25, 26, 27, 53, 54, 55, 56, 57, 58] (by decide +kernel) (by decide +kernel)
set_option maxRecDepth 20000 in
theorem gX2_applyToSpace_X2_applyInto : GoodIn wsX2_applyToSpace (wsV RX2 45 RX2 yX2_applyInto wsX2_applyInto) := goodIn_app (goodIn_of _ (by decide +kernel)) ggX2_applyToSpace_X2_applyInto
set_option maxRecDepth 20000 in
theorem ggX2_applyToSpace_X3_joinVector : GoodIn wsX2_applyToSpace wsX3_joinVector := goodIn_r _ [30, 31, 11, 32, 33, 34, 35, 36, 37, 38, 4, 39, 40, 41, 42, 43, 44, 45, 8, 9, 10, 7, 22, 23, 24, 25, 26, 27, 46, 47, 48, 49, 50, 51, 52, 59, 60, 61, 62, 56, 57, 58] (by decide +kernel) (by decide +kernel)
set_option maxRecDepth 20000 in
theorem gX2_applyToSpace_X3_joinVector_n62 : GoodIn wsX2_applyToSpace (wsX3_joinVector) := ggX2_applyToSpace_X3_joinVector
theorem dX2_applyToSpace_0 : decode cX2_applyToSpace 0 = .ok (.aload_n 2, 1) := by decide +kernel
theorem dX2_applyToSpace_1 : decode cX2_applyToSpace 1 = .ok (.invokevirtual 52, 3) := by decide +kernel
theorem dX2_applyToSpace_4 : decode cX2_applyToSpace 4 = .ok (.iconst 0, 1) := by decide +kernel
theorem dX2_applyToSpace_5 : decode cX2_applyToSpace 5 = .ok (.istore_n 3, 1) := by decide +kernel
theorem dX2_applyToSpace_6 : decode cX2_applyToSpace 6 = .ok (.iload_n 3, 1) := by decide +kernel
theorem dX2_applyToSpace_7 : decode cX2_applyToSpace 7 = .ok (.aload_n 0, 1) := by decide +kernel
theorem dX2_applyToSpace_8 : decode cX2_applyToSpace 8 = .ok (.getfield 18, 3) := by decide +kernel
theorem dX2_applyToSpace_11 : decode cX2_applyToSpace 11 = .ok (.getfield 31, 3) := by decide +kernel
theorem dX2_applyToSpace_14 : decode cX2_applyToSpace 14 = .ok (.if_icmp .ge 38, 3) := by decide +kernel
theorem dX2_applyToSpace_17 : decode cX2_applyToSpace 17 = .ok (.aload_n 1, 1) := by decide +kernel
theorem dX2_applyToSpace_18 : decode cX2_applyToSpace 18 = .ok (.iload_n 3, 1) := by decide +kernel
theorem dX2_applyToSpace_19 : decode cX2_applyToSpace 19 = .ok (.invokevirtual 57, 3) := by decide +kernel
theorem dX2_applyToSpace_22 : decode cX2_applyToSpace 22 = .ok (.ifCond .eq 24, 3) := by decide +kernel
theorem dX2_applyToSpace_25 : decode cX2_applyToSpace 25 = .ok (.aload_n 0, 1) := by decide +kernel
theorem dX2_applyToSpace_26 : decode cX2_applyToSpace 26 = .ok (.aload_n 1, 1) := by decide +kernel
theorem dX2_applyToSpace_27 : decode cX2_applyToSpace 27 = .ok (.getfield 61, 3) := by decide +kernel
theorem dX2_applyToSpace_30 : decode cX2_applyToSpace 30 = .ok (.iload_n 3, 1) := by decide +kernel
theorem dX2_applyToSpace_31 : decode cX2_applyToSpace 31 = .ok (.bipush 6, 2) := by decide +kernel
theorem dX2_applyToSpace_33 : decode cX2_applyToSpace 33 = .ok (.imul, 1) := by decide +kernel
theorem dX2_applyToSpace_34 : decode cX2_applyToSpace 34 = .ok (.invokevirtual 45, 3) := by decide +kernel
theorem dX2_applyToSpace_37 : decode cX2_applyToSpace 37 = .ok (.aload_n 2, 1) := by decide +kernel
theorem dX2_applyToSpace_38 : decode cX2_applyToSpace 38 = .ok (.aload_n 0, 1) := by decide +kernel
theorem dX2_applyToSpace_39 : decode cX2_applyToSpace 39 = .ok (.getfield 15, 3) := by decide +kernel
theorem dX2_applyToSpace_42 : decode cX2_applyToSpace 42 = .ok (.iconst 0, 1) := by decide +kernel
theorem dX2_applyToSpace_43 : decode cX2_applyToSpace 43 = .ok (.invokevirtual 62, 3) := by decide +kernel
theorem dX2_applyToSpace_46 : decode cX2_applyToSpace 46 = .ok (.iinc 3 1, 3) := by decide +kernel
theorem dX2_applyToSpace_49 : decode cX2_applyToSpace 49 = .ok (.goto (-43), 3) := by decide +kernel
theorem dX2_applyToSpace_52 : decode cX2_applyToSpace 52 = .ok (.return_, 1) := by decide +kernel
set_option maxRecDepth 20000 in
theorem ggX2_columnSpace_X3_becomeZero : GoodIn wsX2_columnSpace wsX3_becomeZero := goodIn_r _ [7, 8, 50, 51, 52, 53] (by decide +kernel) (by decide +kernel)
set_option maxRecDepth 20000 in
theorem gX2_columnSpace_X3_becomeZero_n52 : GoodIn wsX2_columnSpace (wsX3_becomeZero) := ggX2_columnSpace_X3_becomeZero
set_option maxRecDepth 20000 in
theorem ggX2_columnSpace_X3_joinVector : GoodIn wsX2_columnSpace wsX3_joinVector := goodIn_r _ [11, 12, 13, 14, 15, 16, 17, 18, 19, 20, 5, 21, 22, 23, 24, 25, 26, 27, 28, 29, 30, 8, 31, 32, 33, 34, 35, 36, 37, 38, 39, 40, 41, 42, 43, 50, 51, 52, 53, 47, 48, 49] (by decide +kernel) (by decide +kernel)
set_option maxRecDepth 20000 in
theorem gX2_columnSpace_X3_joinVector_n62 : GoodIn wsX2_columnSpace (wsX3_joinVector) := ggX2_columnSpace_X3_joinVector
theorem dX2_columnSpace_0 : decode cX2_columnSpace 0 = .ok (.aload_n 1, 1) := by decide +kernel
theorem dX2_columnSpace_1 : decode cX2_columnSpace 1 = .ok (.invokevirtual 52, 3) := by decide +kernel
theorem dX2_columnSpace_4 : decode cX2_columnSpace 4 = .ok (.iconst 0, 1) := by decide +kernel
theorem dX2_columnSpace_5 : decode cX2_columnSpace 5 = .ok (.istore_n 2, 1) := by decide +kernel
theorem dX2_columnSpace_6 : decode cX2_columnSpace 6 = .ok (.iload_n 2, 1) := by decide +kernel
theorem dX2_columnSpace_7 : decode cX2_columnSpace 7 = .ok (.aload_n 0, 1) := by decide +kernel
theorem dX2_columnSpace_8 : decode cX2_columnSpace 8 = .ok (.getfield 18, 3) := by decide +kernel
theorem dX2_columnSpace_11 : decode cX2_columnSpace 11 = .ok (.getfield 31, 3) := by decide +kernel
theorem dX2_columnSpace_14 : decode cX2_columnSpace 14 = .ok (.if_icmp .ge 54, 3) := by decide +kernel
theorem dX2_columnSpace_17 : decode cX2_columnSpace 17 = .ok (.iconst 0, 1) := by decide +kernel
theorem dX2_columnSpace_18 : decode cX2_columnSpace 18 = .ok (.istore_n 3, 1) := by decide +kernel
theorem dX2_columnSpace_19 : decode cX2_columnSpace 19 = .ok (.iload_n 3, 1) := by decide +kernel
theorem dX2_columnSpace_20 : decode cX2_columnSpace 20 = .ok (.aload_n 0, 1) := by decide +kernel
theorem dX2_columnSpace_21 : decode cX2_columnSpace 21 = .ok (.getfield 18, 3) := by decide +kernel
theorem dX2_columnSpace_24 : decode cX2_columnSpace 24 = .ok (.getfield 31, 3) := by decide +kernel
theorem dX2_columnSpace_27 : decode cX2_columnSpace 27 = .ok (.if_icmp .ge 26, 3) := by decide +kernel
theorem dX2_columnSpace_30 : decode cX2_columnSpace 30 = .ok (.aload_n 0, 1) := by decide +kernel
theorem dX2_columnSpace_31 : decode cX2_columnSpace 31 = .ok (.getfield 15, 3) := by decide +kernel
theorem dX2_columnSpace_34 : decode cX2_columnSpace 34 = .ok (.iload_n 3, 1) := by decide +kernel
theorem dX2_columnSpace_35 : decode cX2_columnSpace 35 = .ok (.aload_n 0, 1) := by decide +kernel
theorem dX2_columnSpace_36 : decode cX2_columnSpace 36 = .ok (.getfield 9, 3) := by decide +kernel
theorem dX2_columnSpace_39 : decode cX2_columnSpace 39 = .ok (.iload_n 3, 1) := by decide +kernel
theorem dX2_columnSpace_40 : decode cX2_columnSpace 40 = .ok (.bipush 6, 2) := by decide +kernel
theorem dX2_columnSpace_42 : decode cX2_columnSpace 42 = .ok (.imul, 1) := by decide +kernel
theorem dX2_columnSpace_43 : decode cX2_columnSpace 43 = .ok (.iload_n 2, 1) := by decide +kernel
theorem dX2_columnSpace_44 : decode cX2_columnSpace 44 = .ok (.iadd, 1) := by decide +kernel
theorem dX2_columnSpace_45 : decode cX2_columnSpace 45 = .ok (.iaload, 1) := by decide +kernel
theorem dX2_columnSpace_46 : decode cX2_columnSpace 46 = .ok (.iastore, 1) := by decide +kernel
theorem dX2_columnSpace_47 : decode cX2_columnSpace 47 = .ok (.iinc 3 1, 3) := by decide +kernel
theorem dX2_columnSpace_50 : decode cX2_columnSpace 50 = .ok (.goto (-31), 3) := by decide +kernel
theorem dX2_columnSpace_53 : decode cX2_columnSpace 53 = .ok (.aload_n 1, 1) := by decide +kernel
theorem dX2_columnSpace_54 : decode cX2_columnSpace 54 = .ok (.aload_n 0, 1) := by decide +kernel
theorem dX2_columnSpace_55 : decode cX2_columnSpace 55 = .ok (.getfield 15, 3) := by decide +kernel
theorem dX2_columnSpace_58 : decode cX2_columnSpace 58 = .ok (.iconst 0, 1) := by decide +kernel
theorem dX2_columnSpace_59 : decode cX2_columnSpace 59 = .ok (.invokevirtual 62, 3) := by decide +kernel
theorem dX2_columnSpace_62 : decode cX2_columnSpace 62 = .ok (.iinc 2 1, 3) := by decide +kernel
theorem dX2_columnSpace_65 : decode cX2_columnSpace 65 = .ok (.goto (-59), 3) := by decide +kernel
theorem dX2_columnSpace_68 : decode cX2_columnSpace 68 = .ok (.return_, 1) := by decide +kernel
theorem dX3_init_0 : decode cX3_init 0 = .ok (.aload_n 0, 1) := by decide +kernel
theorem dX3_init_1 : decode cX3_init 1 = .ok (.invokespecial 3, 3) := by decide +kernel
theorem dX3_init_4 : decode cX3_init 4 = .ok (.aload_n 0, 1) := by decide +kernel
theorem dX3_init_5 : decode cX3_init 5 = .ok (.bipush 36, 2) := by decide +kernel
theorem dX3_init_7 : decode cX3_init 7 = .ok (.newarray .int, 2) := by decide +kernel
theorem dX3_init_9 : decode cX3_init 9 = .ok (.putfield 9, 3) := by decide +kernel
theorem dX3_init_12 : decode cX3_init 12 = .ok (.aload_n 0, 1) := by decide +kernel
theorem dX3_init_13 : decode cX3_init 13 = .ok (.bipush 6, 2) := by decide +kernel
theorem dX3_init_15 : decode cX3_init 15 = .ok (.newarray .int, 2) := by decide +kernel
theorem dX3_init_17 : decode cX3_init 17 = .ok (.putfield 15, 3) := by decide +kernel
theorem dX3_init_20 : decode cX3_init 20 = .ok (.aload_n 0, 1) := by decide +kernel
theorem dX3_init_21 : decode cX3_init 21 = .ok (.aload_n 1, 1) := by decide +kernel
theorem dX3_init_22 : decode cX3_init 22 = .ok (.putfield 18, 3) := by decide +kernel
theorem dX3_init_25 : decode cX3_init 25 = .ok (.return_, 1) := by decide +kernel
theorem dX3_becomeZero_0 : decode cX3_becomeZero 0 = .ok (.aload_n 0, 1) := by decide +kernel
theorem dX3_becomeZero_1 : decode cX3_becomeZero 1 = .ok (.iconst 0, 1) := by decide +kernel
theorem dX3_becomeZero_2 : decode cX3_becomeZero 2 = .ok (.putfield 22, 3) := by decide +kernel
theorem dX3_becomeZero_5 : decode cX3_becomeZero 5 = .ok (.return_, 1) := by decide +kernel
theorem dX3_copyFrom_0 : decode cX3_copyFrom 0 = .ok (.aload_n 0, 1) := by decide +kernel
theorem dX3_copyFrom_1 : decode cX3_copyFrom 1 = .ok (.aload_n 1, 1) := by decide +kernel
theorem dX3_copyFrom_2 : decode cX3_copyFrom 2 = .ok (.getfield 22, 3) := by decide +kernel
theorem dX3_copyFrom_5 : decode cX3_copyFrom 5 = .ok (.putfield 22, 3) := by decide +kernel
theorem dX3_copyFrom_8 : decode cX3_copyFrom 8 = .ok (.aload_n 1, 1) := by decide +kernel
theorem dX3_copyFrom_9 : decode cX3_copyFrom 9 = .ok (.getfield 9, 3) := by decide +kernel
theorem dX3_copyFrom_12 : decode cX3_copyFrom 12 = .ok (.iconst 0, 1) := by decide +kernel
theorem dX3_copyFrom_13 : decode cX3_copyFrom 13 = .ok (.aload_n 0, 1) := by decide +kernel
theorem dX3_copyFrom_14 : decode cX3_copyFrom 14 = .ok (.getfield 9, 3) := by decide +kernel
theorem dX3_copyFrom_17 : decode cX3_copyFrom 17 = .ok (.iconst 0, 1) := by decide +kernel
theorem dX3_copyFrom_18 : decode cX3_copyFrom 18 = .ok (.aload_n 0, 1) := by decide +kernel
theorem dX3_copyFrom_19 : decode cX3_copyFrom 19 = .ok (.getfield 9, 3) := by decide +kernel
theorem dX3_copyFrom_22 : decode cX3_copyFrom 22 = .ok (.arraylength, 1) := by decide +kernel
theorem dX3_copyFrom_23 : decode cX3_copyFrom 23 = .ok (.invokestatic 26, 3) := by decide +kernel
theorem dX3_copyFrom_26 : decode cX3_copyFrom 26 = .ok (.return_, 1) := by decide +kernel
set_option maxRecDepth 20000 in
theorem ggX3_rank_J6_bitCount_0f7a4 : GoodIn wsX3_rank wsJ6_bitCount_0f7a4 := goodIn_r _ [5, 6, 7, 8] (by decide +kernel) (by decide +kernel)
set_option maxRecDepth 20000 in
theorem gX3_rank_J6_bitCount_0f7a4 : GoodIn wsX3_rank (va_wsS RX3 32 yJ6_bitCount_0f7a4 wsJ6_bitCount_0f7a4) := goodIn_app (goodIn_of _ (by decide +kernel)) ggX3_rank_J6_bitCount_0f7a4
theorem dX3_rank_0 : decode cX3_rank 0 = .ok (.aload_n 0, 1) := by decide +kernel
theorem dX3_rank_1 : decode cX3_rank 1 = .ok (.getfield 22, 3) := by decide +kernel
theorem dX3_rank_4 : decode cX3_rank 4 = .ok (.invokestatic 32, 3) := by decide +kernel
theorem dX3_rank_7 : decode cX3_rank 7 = .ok (.ireturn, 1) := by decide +kernel
theorem dX3_isPivot_0 : decode cX3_isPivot 0 = .ok (.aload_n 0, 1) := by decide +kernel
theorem dX3_isPivot_1 : decode cX3_isPivot 1 = .ok (.getfield 22, 3) := by decide +kernel
theorem dX3_isPivot_4 : decode cX3_isPivot 4 = .ok (.aload_n 0, 1) := by decide +kernel
theorem dX3_isPivot_5 : decode cX3_isPivot 5 = .ok (.getfield 18, 3) := by decide +kernel
theorem dX3_isPivot_8 : decode cX3_isPivot 8 = .ok (.getfield 38, 3) := by decide +kernel
theorem dX3_isPivot_11 : decode cX3_isPivot 11 = .ok (.iconst 1, 1) := by decide +kernel
theorem dX3_isPivot_12 : decode cX3_isPivot 12 = .ok (.isub, 1) := by decide +kernel
theorem dX3_isPivot_13 : decode cX3_isPivot 13 = .ok (.iload_n 1, 1) := by decide +kernel
theorem dX3_isPivot_14 : decode cX3_isPivot 14 = .ok (.isub, 1) := by decide +kernel
theorem dX3_isPivot_15 : decode cX3_isPivot 15 = .ok (.ishr, 1) := by decide +kernel
theorem dX3_isPivot_16 : decode cX3_isPivot 16 = .ok (.iconst 1, 1) := by decide +kernel
theorem dX3_isPivot_17 : decode cX3_isPivot 17 = .ok (.iand, 1) := by decide +kernel
theorem dX3_isPivot_18 : decode cX3_isPivot 18 = .ok (.iconst 1, 1) := by decide +kernel
theorem dX3_isPivot_19 : decode cX3_isPivot 19 = .ok (.if_icmp .ne 7, 3) := by decide +kernel
theorem dX3_isPivot_22 : decode cX3_isPivot 22 = .ok (.iconst 1, 1) := by decide +kernel
theorem dX3_isPivot_23 : decode cX3_isPivot 23 = .ok (.goto 4, 3) := by decide +kernel
theorem dX3_isPivot_26 : decode cX3_isPivot 26 = .ok (.iconst 0, 1) := by decide +kernel
theorem dX3_isPivot_27 : decode cX3_isPivot 27 = .ok (.ireturn, 1) := by decide +kernel
set_option maxRecDepth 20000 in
theorem ggX3_rowNumber_X3_isPivot : GoodIn wsX3_rowNumber wsX3_isPivot := goodIn_r _ [7, 8, 1, 15, 16, 17, 18, 19, 20, 21] (by decide +kernel) (by decide +kernel)
set_option maxRecDepth 20000 in
theorem gX3_rowNumber_X3_isPivot : GoodIn wsX3_rowNumber (wsV RX3 43 RX3 yX3_isPivot wsX3_isPivot) := goodIn_app (goodIn_of _ (by decide +kernel)) ggX3_rowNumber_X3_isPivot
set_option maxRecDepth 20000 in
theorem ggX3_rowNumber_X0_vectorNumber : GoodIn wsX3_rowNumber wsX0_vectorNumber := goodIn_r _ [12, 13, 14, 19, 20, 21] (by decide +kernel) (by decide +kernel)
set_option maxRecDepth 20000 in
theorem gX3_rowNumber_X0_vectorNumber_n47 : GoodIn wsX3_rowNumber (wsX0_vectorNumber) := ggX3_rowNumber_X0_vectorNumber
theorem dX3_rowNumber_0 : decode cX3_rowNumber 0 = .ok (.iconst 0, 1) := by decide +kernel
theorem dX3_rowNumber_1 : decode cX3_rowNumber 1 = .ok (.istore_n 2, 1) := by decide +kernel
theorem dX3_rowNumber_2 : decode cX3_rowNumber 2 = .ok (.iconst 0, 1) := by decide +kernel
theorem dX3_rowNumber_3 : decode cX3_rowNumber 3 = .ok (.istore_n 3, 1) := by decide +kernel
theorem dX3_rowNumber_4 : decode cX3_rowNumber 4 = .ok (.iload_n 3, 1) := by decide +kernel
theorem dX3_rowNumber_5 : decode cX3_rowNumber 5 = .ok (.aload_n 0, 1) := by decide +kernel
theorem dX3_rowNumber_6 : decode cX3_rowNumber 6 = .ok (.getfield 18, 3) := by decide +kernel
theorem dX3_rowNumber_9 : decode cX3_rowNumber 9 = .ok (.getfield 38, 3) := by decide +kernel
theorem dX3_rowNumber_12 : decode cX3_rowNumber 12 = .ok (.if_icmp .ge 41, 3) := by decide +kernel
theorem dX3_rowNumber_15 : decode cX3_rowNumber 15 = .ok (.aload_n 0, 1) := by decide +kernel
theorem dX3_rowNumber_16 : decode cX3_rowNumber 16 = .ok (.iload_n 3, 1) := by decide +kernel
theorem dX3_rowNumber_17 : decode cX3_rowNumber 17 = .ok (.invokevirtual 43, 3) := by decide +kernel
theorem dX3_rowNumber_20 : decode cX3_rowNumber 20 = .ok (.ifCond .eq 27, 3) := by decide +kernel
theorem dX3_rowNumber_23 : decode cX3_rowNumber 23 = .ok (.iload_n 2, 1) := by decide +kernel
theorem dX3_rowNumber_24 : decode cX3_rowNumber 24 = .ok (.iload_n 1, 1) := by decide +kernel
theorem dX3_rowNumber_25 : decode cX3_rowNumber 25 = .ok (.if_icmp .ne 19, 3) := by decide +kernel
theorem dX3_rowNumber_28 : decode cX3_rowNumber 28 = .ok (.aload_n 0, 1) := by decide +kernel
theorem dX3_rowNumber_29 : decode cX3_rowNumber 29 = .ok (.getfield 18, 3) := by decide +kernel
theorem dX3_rowNumber_32 : decode cX3_rowNumber 32 = .ok (.aload_n 0, 1) := by decide +kernel
theorem dX3_rowNumber_33 : decode cX3_rowNumber 33 = .ok (.getfield 9, 3) := by decide +kernel
theorem dX3_rowNumber_36 : decode cX3_rowNumber 36 = .ok (.iload_n 3, 1) := by decide +kernel
theorem dX3_rowNumber_37 : decode cX3_rowNumber 37 = .ok (.bipush 6, 2) := by decide +kernel
theorem dX3_rowNumber_39 : decode cX3_rowNumber 39 = .ok (.imul, 1) := by decide +kernel
theorem dX3_rowNumber_40 : decode cX3_rowNumber 40 = .ok (.invokevirtual 47, 3) := by decide +kernel
theorem dX3_rowNumber_43 : decode cX3_rowNumber 43 = .ok (.ireturn, 1) := by decide +kernel
theorem dX3_rowNumber_44 : decode cX3_rowNumber 44 = .ok (.iinc 2 1, 3) := by decide +kernel
theorem dX3_rowNumber_47 : decode cX3_rowNumber 47 = .ok (.iinc 3 1, 3) := by decide +kernel
theorem dX3_rowNumber_50 : decode cX3_rowNumber 50 = .ok (.goto (-46), 3) := by decide +kernel
theorem dX3_rowNumber_53 : decode cX3_rowNumber 53 = .ok (.iconst (-1), 1) := by decide +kernel
theorem dX3_rowNumber_54 : decode cX3_rowNumber 54 = .ok (.ireturn, 1) := by decide +kernel
set_option maxRecDepth 20000 in
theorem ggX3_holds_X3_isPivot : GoodIn wsX3_holds wsX3_isPivot := goodIn_r _ [6, 7, 1, 13, 14, 15, 16, 17, 18, 19] (by decide +kernel) (by decide +kernel)
set_option maxRecDepth 20000 in
theorem gX3_holds_X3_isPivot : GoodIn wsX3_holds (wsV RX3 43 RX3 yX3_isPivot wsX3_isPivot) := goodIn_app (goodIn_of _ (by decide +kernel)) ggX3_holds_X3_isPivot
set_option maxRecDepth 20000 in
theorem ggX3_holds_X3_settledFigure : GoodIn wsX3_holds wsX3_settledFigure := goodIn_r _ [11, 12, 1, 2, 3, 4, 5, 6, 7, 13, 14, 15, 16, 17, 18, 19] (by decide +kernel) (by decide +kernel)
set_option maxRecDepth 20000 in
theorem gX3_holds_X3_settledFigure : GoodIn wsX3_holds (wsV RX3 51 RX3 yX3_settledFigure wsX3_settledFigure) := goodIn_app (goodIn_of _ (by decide +kernel)) ggX3_holds_X3_settledFigure
theorem dX3_holds_0 : decode cX3_holds 0 = .ok (.iconst 0, 1) := by decide +kernel
theorem dX3_holds_1 : decode cX3_holds 1 = .ok (.istore_n 3, 1) := by decide +kernel
theorem dX3_holds_2 : decode cX3_holds 2 = .ok (.iload_n 3, 1) := by decide +kernel
theorem dX3_holds_3 : decode cX3_holds 3 = .ok (.aload_n 0, 1) := by decide +kernel
theorem dX3_holds_4 : decode cX3_holds 4 = .ok (.getfield 18, 3) := by decide +kernel
theorem dX3_holds_7 : decode cX3_holds 7 = .ok (.getfield 38, 3) := by decide +kernel
theorem dX3_holds_10 : decode cX3_holds 10 = .ok (.if_icmp .ge 34, 3) := by decide +kernel
theorem dX3_holds_13 : decode cX3_holds 13 = .ok (.aload_n 0, 1) := by decide +kernel
theorem dX3_holds_14 : decode cX3_holds 14 = .ok (.iload_n 3, 1) := by decide +kernel
theorem dX3_holds_15 : decode cX3_holds 15 = .ok (.invokevirtual 43, 3) := by decide +kernel
theorem dX3_holds_18 : decode cX3_holds 18 = .ok (.ifCond .ne 20, 3) := by decide +kernel
theorem dX3_holds_21 : decode cX3_holds 21 = .ok (.aload_n 0, 1) := by decide +kernel
theorem dX3_holds_22 : decode cX3_holds 22 = .ok (.aload_n 1, 1) := by decide +kernel
theorem dX3_holds_23 : decode cX3_holds 23 = .ok (.iload_n 2, 1) := by decide +kernel
theorem dX3_holds_24 : decode cX3_holds 24 = .ok (.iload_n 3, 1) := by decide +kernel
theorem dX3_holds_25 : decode cX3_holds 25 = .ok (.invokevirtual 51, 3) := by decide +kernel
theorem dX3_holds_28 : decode cX3_holds 28 = .ok (.aload_n 1, 1) := by decide +kernel
theorem dX3_holds_29 : decode cX3_holds 29 = .ok (.iload_n 2, 1) := by decide +kernel
theorem dX3_holds_30 : decode cX3_holds 30 = .ok (.iload_n 3, 1) := by decide +kernel
theorem dX3_holds_31 : decode cX3_holds 31 = .ok (.iadd, 1) := by decide +kernel
theorem dX3_holds_32 : decode cX3_holds 32 = .ok (.iaload, 1) := by decide +kernel
theorem dX3_holds_33 : decode cX3_holds 33 = .ok (.if_icmp .eq 5, 3) := by decide +kernel
theorem dX3_holds_36 : decode cX3_holds 36 = .ok (.iconst 0, 1) := by decide +kernel
theorem dX3_holds_37 : decode cX3_holds 37 = .ok (.ireturn, 1) := by decide +kernel
theorem dX3_holds_38 : decode cX3_holds 38 = .ok (.iinc 3 1, 3) := by decide +kernel
theorem dX3_holds_41 : decode cX3_holds 41 = .ok (.goto (-39), 3) := by decide +kernel
theorem dX3_holds_44 : decode cX3_holds 44 = .ok (.iconst 1, 1) := by decide +kernel
theorem dX3_holds_45 : decode cX3_holds 45 = .ok (.ireturn, 1) := by decide +kernel
set_option maxRecDepth 20000 in
theorem ggX3_settledFigure_X3_isPivot : GoodIn wsX3_settledFigure wsX3_isPivot := goodIn_r _ [7, 8, 2, 9, 10, 11, 12, 13, 14, 15] (by decide +kernel) (by decide +kernel)
set_option maxRecDepth 20000 in
theorem gX3_settledFigure_X3_isPivot : GoodIn wsX3_settledFigure (wsV RX3 43 RX3 yX3_isPivot wsX3_isPivot) := goodIn_app (goodIn_of _ (by decide +kernel)) ggX3_settledFigure_X3_isPivot
theorem dX3_settledFigure_0 : decode cX3_settledFigure 0 = .ok (.iconst 0, 1) := by decide +kernel
theorem dX3_settledFigure_1 : decode cX3_settledFigure 1 = .ok (.istore 4, 2) := by decide +kernel
theorem dX3_settledFigure_3 : decode cX3_settledFigure 3 = .ok (.iconst 0, 1) := by decide +kernel
theorem dX3_settledFigure_4 : decode cX3_settledFigure 4 = .ok (.istore 5, 2) := by decide +kernel
theorem dX3_settledFigure_6 : decode cX3_settledFigure 6 = .ok (.iload 5, 2) := by decide +kernel
theorem dX3_settledFigure_8 : decode cX3_settledFigure 8 = .ok (.iload_n 3, 1) := by decide +kernel
theorem dX3_settledFigure_9 : decode cX3_settledFigure 9 = .ok (.if_icmp .ge 42, 3) := by decide +kernel
theorem dX3_settledFigure_12 : decode cX3_settledFigure 12 = .ok (.aload_n 0, 1) := by decide +kernel
theorem dX3_settledFigure_13 : decode cX3_settledFigure 13 = .ok (.iload 5, 2) := by decide +kernel
theorem dX3_settledFigure_15 : decode cX3_settledFigure 15 = .ok (.invokevirtual 43, 3) := by decide +kernel
theorem dX3_settledFigure_18 : decode cX3_settledFigure 18 = .ok (.ifCond .eq 27, 3) := by decide +kernel
theorem dX3_settledFigure_21 : decode cX3_settledFigure 21 = .ok (.iload 4, 2) := by decide +kernel
theorem dX3_settledFigure_23 : decode cX3_settledFigure 23 = .ok (.aload_n 1, 1) := by decide +kernel
theorem dX3_settledFigure_24 : decode cX3_settledFigure 24 = .ok (.iload_n 2, 1) := by decide +kernel
theorem dX3_settledFigure_25 : decode cX3_settledFigure 25 = .ok (.iload 5, 2) := by decide +kernel
theorem dX3_settledFigure_27 : decode cX3_settledFigure 27 = .ok (.iadd, 1) := by decide +kernel
theorem dX3_settledFigure_28 : decode cX3_settledFigure 28 = .ok (.iaload, 1) := by decide +kernel
theorem dX3_settledFigure_29 : decode cX3_settledFigure 29 = .ok (.aload_n 0, 1) := by decide +kernel
theorem dX3_settledFigure_30 : decode cX3_settledFigure 30 = .ok (.getfield 9, 3) := by decide +kernel
theorem dX3_settledFigure_33 : decode cX3_settledFigure 33 = .ok (.iload 5, 2) := by decide +kernel
theorem dX3_settledFigure_35 : decode cX3_settledFigure 35 = .ok (.bipush 6, 2) := by decide +kernel
theorem dX3_settledFigure_37 : decode cX3_settledFigure 37 = .ok (.imul, 1) := by decide +kernel
theorem dX3_settledFigure_38 : decode cX3_settledFigure 38 = .ok (.iload_n 3, 1) := by decide +kernel
theorem dX3_settledFigure_39 : decode cX3_settledFigure 39 = .ok (.iadd, 1) := by decide +kernel
theorem dX3_settledFigure_40 : decode cX3_settledFigure 40 = .ok (.iaload, 1) := by decide +kernel
theorem dX3_settledFigure_41 : decode cX3_settledFigure 41 = .ok (.imul, 1) := by decide +kernel
theorem dX3_settledFigure_42 : decode cX3_settledFigure 42 = .ok (.iadd, 1) := by decide +kernel
theorem dX3_settledFigure_43 : decode cX3_settledFigure 43 = .ok (.istore 4, 2) := by decide +kernel
theorem dX3_settledFigure_45 : decode cX3_settledFigure 45 = .ok (.iinc 5 1, 3) := by decide +kernel
theorem dX3_settledFigure_48 : decode cX3_settledFigure 48 = .ok (.goto (-42), 3) := by decide +kernel
theorem dX3_settledFigure_51 : decode cX3_settledFigure 51 = .ok (.iload 4, 2) := by decide +kernel
theorem dX3_settledFigure_53 : decode cX3_settledFigure 53 = .ok (.aload_n 0, 1) := by decide +kernel
theorem dX3_settledFigure_54 : decode cX3_settledFigure 54 = .ok (.getfield 18, 3) := by decide +kernel
theorem dX3_settledFigure_57 : decode cX3_settledFigure 57 = .ok (.getfield 55, 3) := by decide +kernel
theorem dX3_settledFigure_60 : decode cX3_settledFigure 60 = .ok (.irem, 1) := by decide +kernel
theorem dX3_settledFigure_61 : decode cX3_settledFigure 61 = .ok (.ireturn, 1) := by decide +kernel
set_option maxRecDepth 20000 in
theorem ggX3_liesIn_X3_isPivot : GoodIn wsX3_liesIn wsX3_isPivot := goodIn_r _ [7, 8, 1, 17, 18, 19, 20, 21, 22, 23] (by decide +kernel) (by decide +kernel)
set_option maxRecDepth 20000 in
theorem gX3_liesIn_X3_isPivot : GoodIn wsX3_liesIn (wsV RX3 43 RX3 yX3_isPivot wsX3_isPivot) := goodIn_app (goodIn_of _ (by decide +kernel)) ggX3_liesIn_X3_isPivot
set_option maxRecDepth 20000 in
theorem ggX3_liesIn_X3_holds : GoodIn wsX3_liesIn wsX3_holds := goodIn_r _ [12, 1, 3, 4, 5, 6, 7, 8, 13, 14, 15, 16, 2, 17, 18, 19, 20, 21, 22, 23] (by decide +kernel) (by decide +kernel)
set_option maxRecDepth 20000 in
theorem gX3_liesIn_X3_holds : GoodIn wsX3_liesIn (wsV RX3 58 RX3 yX3_holds wsX3_holds) := goodIn_app (goodIn_of _ (by decide +kernel)) ggX3_liesIn_X3_holds
theorem dX3_liesIn_0 : decode cX3_liesIn 0 = .ok (.iconst 0, 1) := by decide +kernel
theorem dX3_liesIn_1 : decode cX3_liesIn 1 = .ok (.istore_n 2, 1) := by decide +kernel
theorem dX3_liesIn_2 : decode cX3_liesIn 2 = .ok (.iload_n 2, 1) := by decide +kernel
theorem dX3_liesIn_3 : decode cX3_liesIn 3 = .ok (.aload_n 0, 1) := by decide +kernel
theorem dX3_liesIn_4 : decode cX3_liesIn 4 = .ok (.getfield 18, 3) := by decide +kernel
theorem dX3_liesIn_7 : decode cX3_liesIn 7 = .ok (.getfield 38, 3) := by decide +kernel
theorem dX3_liesIn_10 : decode cX3_liesIn 10 = .ok (.if_icmp .ge 34, 3) := by decide +kernel
theorem dX3_liesIn_13 : decode cX3_liesIn 13 = .ok (.aload_n 0, 1) := by decide +kernel
theorem dX3_liesIn_14 : decode cX3_liesIn 14 = .ok (.iload_n 2, 1) := by decide +kernel
theorem dX3_liesIn_15 : decode cX3_liesIn 15 = .ok (.invokevirtual 43, 3) := by decide +kernel
theorem dX3_liesIn_18 : decode cX3_liesIn 18 = .ok (.ifCond .eq 20, 3) := by decide +kernel
theorem dX3_liesIn_21 : decode cX3_liesIn 21 = .ok (.aload_n 1, 1) := by decide +kernel
theorem dX3_liesIn_22 : decode cX3_liesIn 22 = .ok (.aload_n 0, 1) := by decide +kernel
theorem dX3_liesIn_23 : decode cX3_liesIn 23 = .ok (.getfield 9, 3) := by decide +kernel
theorem dX3_liesIn_26 : decode cX3_liesIn 26 = .ok (.iload_n 2, 1) := by decide +kernel
theorem dX3_liesIn_27 : decode cX3_liesIn 27 = .ok (.bipush 6, 2) := by decide +kernel
theorem dX3_liesIn_29 : decode cX3_liesIn 29 = .ok (.imul, 1) := by decide +kernel
theorem dX3_liesIn_30 : decode cX3_liesIn 30 = .ok (.invokevirtual 58, 3) := by decide +kernel
theorem dX3_liesIn_33 : decode cX3_liesIn 33 = .ok (.ifCond .ne 5, 3) := by decide +kernel
theorem dX3_liesIn_36 : decode cX3_liesIn 36 = .ok (.iconst 0, 1) := by decide +kernel
theorem dX3_liesIn_37 : decode cX3_liesIn 37 = .ok (.ireturn, 1) := by decide +kernel
theorem dX3_liesIn_38 : decode cX3_liesIn 38 = .ok (.iinc 2 1, 3) := by decide +kernel
theorem dX3_liesIn_41 : decode cX3_liesIn 41 = .ok (.goto (-39), 3) := by decide +kernel
theorem dX3_liesIn_44 : decode cX3_liesIn 44 = .ok (.iconst 1, 1) := by decide +kernel
theorem dX3_liesIn_45 : decode cX3_liesIn 45 = .ok (.ireturn, 1) := by decide +kernel
set_option maxRecDepth 20000 in
theorem ggX3_sameAs_X3_liesIn : GoodIn wsX3_sameAs wsX3_liesIn := goodIn_r _ [6, 7, 8, 9, 10, 11, 5, 12, 1, 13, 14, 15, 16, 17, 18, 19, 20, 21, 22, 23, 24, 25, 26, 27] (by decide +kernel) (by decide +kernel)
set_option maxRecDepth 20000 in
theorem gX3_sameAs_X3_liesIn : GoodIn wsX3_sameAs (wsV RX3 62 RX3 yX3_liesIn wsX3_liesIn) := goodIn_app (goodIn_of _ (by decide +kernel)) ggX3_sameAs_X3_liesIn
theorem dX3_sameAs_0 : decode cX3_sameAs 0 = .ok (.aload_n 0, 1) := by decide +kernel
theorem dX3_sameAs_1 : decode cX3_sameAs 1 = .ok (.getfield 22, 3) := by decide +kernel
theorem dX3_sameAs_4 : decode cX3_sameAs 4 = .ok (.aload_n 1, 1) := by decide +kernel
theorem dX3_sameAs_5 : decode cX3_sameAs 5 = .ok (.getfield 22, 3) := by decide +kernel
theorem dX3_sameAs_8 : decode cX3_sameAs 8 = .ok (.if_icmp .ne 15, 3) := by decide +kernel
theorem dX3_sameAs_11 : decode cX3_sameAs 11 = .ok (.aload_n 0, 1) := by decide +kernel
theorem dX3_sameAs_12 : decode cX3_sameAs 12 = .ok (.aload_n 1, 1) := by decide +kernel
theorem dX3_sameAs_13 : decode cX3_sameAs 13 = .ok (.invokevirtual 62, 3) := by decide +kernel
theorem dX3_sameAs_16 : decode cX3_sameAs 16 = .ok (.ifCond .eq 7, 3) := by decide +kernel
theorem dX3_sameAs_19 : decode cX3_sameAs 19 = .ok (.iconst 1, 1) := by decide +kernel
theorem dX3_sameAs_20 : decode cX3_sameAs 20 = .ok (.goto 4, 3) := by decide +kernel
theorem dX3_sameAs_23 : decode cX3_sameAs 23 = .ok (.iconst 0, 1) := by decide +kernel
theorem dX3_sameAs_24 : decode cX3_sameAs 24 = .ok (.ireturn, 1) := by decide +kernel
set_option maxRecDepth 20000 in
theorem ggX3_joinVector_X3_joinFresh : GoodIn wsX3_joinVector wsX3_joinFresh := goodIn_r _ [11, 2, 1, 12, 13, 14, 15, 10, 16, 17, 18, 19, 20, 21, 22, 23, 24, 25, 26, 27, 28, 29, 30, 31, 32, 33, 34, 35, 36, 37, 38, 39, 40, 41] (by decide +kernel) (by decide +kernel)
set_option maxRecDepth 20000 in
theorem gX3_joinVector_X3_joinFresh : GoodIn wsX3_joinVector (wsV RX3 66 RX3 yX3_joinFresh wsX3_joinFresh) := goodIn_app (goodIn_of _ (by decide +kernel)) ggX3_joinVector_X3_joinFresh
theorem dX3_joinVector_0 : decode cX3_joinVector 0 = .ok (.aload_n 1, 1) := by decide +kernel
theorem dX3_joinVector_1 : decode cX3_joinVector 1 = .ok (.iload_n 2, 1) := by decide +kernel
theorem dX3_joinVector_2 : decode cX3_joinVector 2 = .ok (.aload_n 0, 1) := by decide +kernel
theorem dX3_joinVector_3 : decode cX3_joinVector 3 = .ok (.getfield 15, 3) := by decide +kernel
theorem dX3_joinVector_6 : decode cX3_joinVector 6 = .ok (.iconst 0, 1) := by decide +kernel
theorem dX3_joinVector_7 : decode cX3_joinVector 7 = .ok (.aload_n 0, 1) := by decide +kernel
theorem dX3_joinVector_8 : decode cX3_joinVector 8 = .ok (.getfield 18, 3) := by decide +kernel
theorem dX3_joinVector_11 : decode cX3_joinVector 11 = .ok (.getfield 38, 3) := by decide +kernel
theorem dX3_joinVector_14 : decode cX3_joinVector 14 = .ok (.invokestatic 26, 3) := by decide +kernel
theorem dX3_joinVector_17 : decode cX3_joinVector 17 = .ok (.aload_n 0, 1) := by decide +kernel
theorem dX3_joinVector_18 : decode cX3_joinVector 18 = .ok (.invokevirtual 66, 3) := by decide +kernel
theorem dX3_joinVector_21 : decode cX3_joinVector 21 = .ok (.return_, 1) := by decide +kernel
set_option maxRecDepth 20000 in
theorem ggX3_joinSpace_X3_isPivot : GoodIn wsX3_joinSpace wsX3_isPivot := goodIn_r _ [12, 13, 1, 35, 36, 37, 38, 39, 40, 41] (by decide +kernel) (by decide +kernel)
set_option maxRecDepth 20000 in
theorem gX3_joinSpace_X3_isPivot : GoodIn wsX3_joinSpace (wsV RX3 43 RX3 yX3_isPivot wsX3_isPivot) := goodIn_app (goodIn_of _ (by decide +kernel)) ggX3_joinSpace_X3_isPivot
set_option maxRecDepth 20000 in
theorem ggX3_joinSpace_X3_joinFresh : GoodIn wsX3_joinSpace wsX3_joinFresh := goodIn_r _ [17, 1, 3, 2, 18, 19, 20, 11, 21, 8, 9, 10, 12, 13, 22, 23, 24, 25, 26, 27, 28, 29, 30, 31, 32, 33, 34, 35, 36, 37, 38, 39, 40, 41] (by decide +kernel) (by decide +kernel)
set_option maxRecDepth 20000 in
theorem gX3_joinSpace_X3_joinFresh : GoodIn wsX3_joinSpace (wsV RX3 66 RX3 yX3_joinFresh wsX3_joinFresh) := goodIn_app (goodIn_of _ (by decide +kernel)) ggX3_joinSpace_X3_joinFresh
theorem dX3_joinSpace_0 : decode cX3_joinSpace 0 = .ok (.iconst 0, 1) := by decide +kernel
theorem dX3_joinSpace_1 : decode cX3_joinSpace 1 = .ok (.istore_n 2, 1) := by decide +kernel
theorem dX3_joinSpace_2 : decode cX3_joinSpace 2 = .ok (.iload_n 2, 1) := by decide +kernel
theorem dX3_joinSpace_3 : decode cX3_joinSpace 3 = .ok (.aload_n 0, 1) := by decide +kernel
theorem dX3_joinSpace_4 : decode cX3_joinSpace 4 = .ok (.getfield 18, 3) := by decide +kernel
theorem dX3_joinSpace_7 : decode cX3_joinSpace 7 = .ok (.getfield 38, 3) := by decide +kernel
theorem dX3_joinSpace_10 : decode cX3_joinSpace 10 = .ok (.if_icmp .ge 44, 3) := by decide +kernel
theorem dX3_joinSpace_13 : decode cX3_joinSpace 13 = .ok (.aload_n 1, 1) := by decide +kernel
theorem dX3_joinSpace_14 : decode cX3_joinSpace 14 = .ok (.iload_n 2, 1) := by decide +kernel
theorem dX3_joinSpace_15 : decode cX3_joinSpace 15 = .ok (.invokevirtual 43, 3) := by decide +kernel
theorem dX3_joinSpace_18 : decode cX3_joinSpace 18 = .ok (.ifCond .eq 30, 3) := by decide +kernel
theorem dX3_joinSpace_21 : decode cX3_joinSpace 21 = .ok (.aload_n 1, 1) := by decide +kernel
theorem dX3_joinSpace_22 : decode cX3_joinSpace 22 = .ok (.getfield 9, 3) := by decide +kernel
theorem dX3_joinSpace_25 : decode cX3_joinSpace 25 = .ok (.iload_n 2, 1) := by decide +kernel
theorem dX3_joinSpace_26 : decode cX3_joinSpace 26 = .ok (.bipush 6, 2) := by decide +kernel
theorem dX3_joinSpace_28 : decode cX3_joinSpace 28 = .ok (.imul, 1) := by decide +kernel
theorem dX3_joinSpace_29 : decode cX3_joinSpace 29 = .ok (.aload_n 0, 1) := by decide +kernel
theorem dX3_joinSpace_30 : decode cX3_joinSpace 30 = .ok (.getfield 15, 3) := by decide +kernel
theorem dX3_joinSpace_33 : decode cX3_joinSpace 33 = .ok (.iconst 0, 1) := by decide +kernel
theorem dX3_joinSpace_34 : decode cX3_joinSpace 34 = .ok (.aload_n 0, 1) := by decide +kernel
theorem dX3_joinSpace_35 : decode cX3_joinSpace 35 = .ok (.getfield 18, 3) := by decide +kernel
theorem dX3_joinSpace_38 : decode cX3_joinSpace 38 = .ok (.getfield 38, 3) := by decide +kernel
theorem dX3_joinSpace_41 : decode cX3_joinSpace 41 = .ok (.invokestatic 26, 3) := by decide +kernel
theorem dX3_joinSpace_44 : decode cX3_joinSpace 44 = .ok (.aload_n 0, 1) := by decide +kernel
theorem dX3_joinSpace_45 : decode cX3_joinSpace 45 = .ok (.invokevirtual 66, 3) := by decide +kernel
theorem dX3_joinSpace_48 : decode cX3_joinSpace 48 = .ok (.iinc 2 1, 3) := by decide +kernel
theorem dX3_joinSpace_51 : decode cX3_joinSpace 51 = .ok (.goto (-49), 3) := by decide +kernel
theorem dX3_joinSpace_54 : decode cX3_joinSpace 54 = .ok (.return_, 1) := by decide +kernel
set_option maxRecDepth 20000 in
theorem ggX3_joinFresh_X3_reduceFresh : GoodIn wsX3_joinFresh wsX3_reduceFresh := goodIn_r _ [8, 1, 2, 3, 9, 10, 11, 7, 12, 13, 14, 15, 16, 17, 18, 19, 27, 28, 29, 30, 31, 32, 33] (by decide +kernel) (by decide +kernel)
set_option maxRecDepth 20000 in
theorem gX3_joinFresh_X3_reduceFresh : GoodIn wsX3_joinFresh (wsV RX3 69 RX3 yX3_reduceFresh wsX3_reduceFresh) := goodIn_app (goodIn_of _ (by decide +kernel)) ggX3_joinFresh_X3_reduceFresh
set_option maxRecDepth 20000 in
theorem ggX3_joinFresh_X0_inverse : GoodIn wsX3_joinFresh wsX0_inverse := goodIn_r _ [22, 19, 31, 32, 33] (by decide +kernel) (by decide +kernel)
set_option maxRecDepth 20000 in
theorem gX3_joinFresh_X0_inverse_n72 : GoodIn wsX3_joinFresh (wsX0_inverse) := ggX3_joinFresh_X0_inverse
set_option maxRecDepth 20000 in
theorem ggX3_joinFresh_X3_takeRow : GoodIn wsX3_joinFresh wsX3_takeRow := goodIn_r _ [26, 1, 3, 2, 13, 27, 28, 29, 30, 31, 32, 33] (by decide +kernel) (by decide +kernel)
set_option maxRecDepth 20000 in
theorem gX3_joinFresh_X3_takeRow : GoodIn wsX3_joinFresh (wsV RX3 75 RX3 yX3_takeRow wsX3_takeRow) := goodIn_app (goodIn_of _ (by decide +kernel)) ggX3_joinFresh_X3_takeRow
set_option maxRecDepth 20000 in
theorem ggX3_joinFresh_X3_isPivot : GoodIn wsX3_joinFresh wsX3_isPivot := goodIn_r _ [12, 13, 1, 27, 28, 29, 30, 31, 32, 33] (by decide +kernel) (by decide +kernel)
set_option maxRecDepth 20000 in
theorem gX3_joinFresh_X3_isPivot : GoodIn wsX3_joinFresh (wsV RX3 43 RX3 yX3_isPivot wsX3_isPivot) := goodIn_app (goodIn_of _ (by decide +kernel)) ggX3_joinFresh_X3_isPivot
set_option maxRecDepth 20000 in
theorem ggX3_joinFresh_X0_addMultiple : GoodIn wsX3_joinFresh wsX0_addMultiple := goodIn_r _ [17, 18, 19, 31, 32, 33] (by decide +kernel) (by decide +kernel)
set_option maxRecDepth 20000 in
theorem gX3_joinFresh_X0_addMultiple_n79 : GoodIn wsX3_joinFresh (wsX0_addMultiple) := ggX3_joinFresh_X0_addMultiple
theorem dX3_joinFresh_0 : decode cX3_joinFresh 0 = .ok (.aload_n 0, 1) := by decide +kernel
theorem dX3_joinFresh_1 : decode cX3_joinFresh 1 = .ok (.invokevirtual 69, 3) := by decide +kernel
theorem dX3_joinFresh_4 : decode cX3_joinFresh 4 = .ok (.iconst 0, 1) := by decide +kernel
theorem dX3_joinFresh_5 : decode cX3_joinFresh 5 = .ok (.istore_n 1, 1) := by decide +kernel
theorem dX3_joinFresh_6 : decode cX3_joinFresh 6 = .ok (.iload_n 1, 1) := by decide +kernel
theorem dX3_joinFresh_7 : decode cX3_joinFresh 7 = .ok (.aload_n 0, 1) := by decide +kernel
theorem dX3_joinFresh_8 : decode cX3_joinFresh 8 = .ok (.getfield 18, 3) := by decide +kernel
theorem dX3_joinFresh_11 : decode cX3_joinFresh 11 = .ok (.getfield 38, 3) := by decide +kernel
theorem dX3_joinFresh_14 : decode cX3_joinFresh 14 = .ok (.if_icmp .ge 18, 3) := by decide +kernel
theorem dX3_joinFresh_17 : decode cX3_joinFresh 17 = .ok (.aload_n 0, 1) := by decide +kernel
theorem dX3_joinFresh_18 : decode cX3_joinFresh 18 = .ok (.getfield 15, 3) := by decide +kernel
theorem dX3_joinFresh_21 : decode cX3_joinFresh 21 = .ok (.iload_n 1, 1) := by decide +kernel
theorem dX3_joinFresh_22 : decode cX3_joinFresh 22 = .ok (.iaload, 1) := by decide +kernel
theorem dX3_joinFresh_23 : decode cX3_joinFresh 23 = .ok (.ifCond .ne 9, 3) := by decide +kernel
theorem dX3_joinFresh_26 : decode cX3_joinFresh 26 = .ok (.iinc 1 1, 3) := by decide +kernel
theorem dX3_joinFresh_29 : decode cX3_joinFresh 29 = .ok (.goto (-23), 3) := by decide +kernel
theorem dX3_joinFresh_32 : decode cX3_joinFresh 32 = .ok (.iload_n 1, 1) := by decide +kernel
theorem dX3_joinFresh_33 : decode cX3_joinFresh 33 = .ok (.aload_n 0, 1) := by decide +kernel
theorem dX3_joinFresh_34 : decode cX3_joinFresh 34 = .ok (.getfield 18, 3) := by decide +kernel
theorem dX3_joinFresh_37 : decode cX3_joinFresh 37 = .ok (.getfield 38, 3) := by decide +kernel
theorem dX3_joinFresh_40 : decode cX3_joinFresh 40 = .ok (.if_icmp .ne 4, 3) := by decide +kernel
theorem dX3_joinFresh_43 : decode cX3_joinFresh 43 = .ok (.return_, 1) := by decide +kernel
theorem dX3_joinFresh_44 : decode cX3_joinFresh 44 = .ok (.aload_n 0, 1) := by decide +kernel
theorem dX3_joinFresh_45 : decode cX3_joinFresh 45 = .ok (.iload_n 1, 1) := by decide +kernel
theorem dX3_joinFresh_46 : decode cX3_joinFresh 46 = .ok (.aload_n 0, 1) := by decide +kernel
theorem dX3_joinFresh_47 : decode cX3_joinFresh 47 = .ok (.getfield 18, 3) := by decide +kernel
theorem dX3_joinFresh_50 : decode cX3_joinFresh 50 = .ok (.aload_n 0, 1) := by decide +kernel
theorem dX3_joinFresh_51 : decode cX3_joinFresh 51 = .ok (.getfield 15, 3) := by decide +kernel
theorem dX3_joinFresh_54 : decode cX3_joinFresh 54 = .ok (.iload_n 1, 1) := by decide +kernel
theorem dX3_joinFresh_55 : decode cX3_joinFresh 55 = .ok (.iaload, 1) := by decide +kernel
theorem dX3_joinFresh_56 : decode cX3_joinFresh 56 = .ok (.invokevirtual 72, 3) := by decide +kernel
theorem dX3_joinFresh_59 : decode cX3_joinFresh 59 = .ok (.invokevirtual 75, 3) := by decide +kernel
theorem dX3_joinFresh_62 : decode cX3_joinFresh 62 = .ok (.iconst 0, 1) := by decide +kernel
theorem dX3_joinFresh_63 : decode cX3_joinFresh 63 = .ok (.istore_n 2, 1) := by decide +kernel
theorem dX3_joinFresh_64 : decode cX3_joinFresh 64 = .ok (.iload_n 2, 1) := by decide +kernel
theorem dX3_joinFresh_65 : decode cX3_joinFresh 65 = .ok (.iload_n 1, 1) := by decide +kernel
theorem dX3_joinFresh_66 : decode cX3_joinFresh 66 = .ok (.if_icmp .ge 65, 3) := by decide +kernel
theorem dX3_joinFresh_69 : decode cX3_joinFresh 69 = .ok (.aload_n 0, 1) := by decide +kernel
theorem dX3_joinFresh_70 : decode cX3_joinFresh 70 = .ok (.getfield 9, 3) := by decide +kernel
theorem dX3_joinFresh_73 : decode cX3_joinFresh 73 = .ok (.iload_n 2, 1) := by decide +kernel
theorem dX3_joinFresh_74 : decode cX3_joinFresh 74 = .ok (.bipush 6, 2) := by decide +kernel
theorem dX3_joinFresh_76 : decode cX3_joinFresh 76 = .ok (.imul, 1) := by decide +kernel
theorem dX3_joinFresh_77 : decode cX3_joinFresh 77 = .ok (.iload_n 1, 1) := by decide +kernel
theorem dX3_joinFresh_78 : decode cX3_joinFresh 78 = .ok (.iadd, 1) := by decide +kernel
theorem dX3_joinFresh_79 : decode cX3_joinFresh 79 = .ok (.iaload, 1) := by decide +kernel
theorem dX3_joinFresh_80 : decode cX3_joinFresh 80 = .ok (.istore_n 3, 1) := by decide +kernel
theorem dX3_joinFresh_81 : decode cX3_joinFresh 81 = .ok (.aload_n 0, 1) := by decide +kernel
theorem dX3_joinFresh_82 : decode cX3_joinFresh 82 = .ok (.iload_n 2, 1) := by decide +kernel
theorem dX3_joinFresh_83 : decode cX3_joinFresh 83 = .ok (.invokevirtual 43, 3) := by decide +kernel
theorem dX3_joinFresh_86 : decode cX3_joinFresh 86 = .ok (.ifCond .eq 39, 3) := by decide +kernel
theorem dX3_joinFresh_89 : decode cX3_joinFresh 89 = .ok (.iload_n 3, 1) := by decide +kernel
theorem dX3_joinFresh_90 : decode cX3_joinFresh 90 = .ok (.ifCond .eq 35, 3) := by decide +kernel
theorem dX3_joinFresh_93 : decode cX3_joinFresh 93 = .ok (.aload_n 0, 1) := by decide +kernel
theorem dX3_joinFresh_94 : decode cX3_joinFresh 94 = .ok (.getfield 18, 3) := by decide +kernel
theorem dX3_joinFresh_97 : decode cX3_joinFresh 97 = .ok (.aload_n 0, 1) := by decide +kernel
theorem dX3_joinFresh_98 : decode cX3_joinFresh 98 = .ok (.getfield 9, 3) := by decide +kernel
theorem dX3_joinFresh_101 : decode cX3_joinFresh 101 = .ok (.iload_n 2, 1) := by decide +kernel
theorem dX3_joinFresh_102 : decode cX3_joinFresh 102 = .ok (.bipush 6, 2) := by decide +kernel
theorem dX3_joinFresh_104 : decode cX3_joinFresh 104 = .ok (.imul, 1) := by decide +kernel
theorem dX3_joinFresh_105 : decode cX3_joinFresh 105 = .ok (.aload_n 0, 1) := by decide +kernel
theorem dX3_joinFresh_106 : decode cX3_joinFresh 106 = .ok (.getfield 9, 3) := by decide +kernel
theorem dX3_joinFresh_109 : decode cX3_joinFresh 109 = .ok (.iload_n 1, 1) := by decide +kernel
theorem dX3_joinFresh_110 : decode cX3_joinFresh 110 = .ok (.bipush 6, 2) := by decide +kernel
theorem dX3_joinFresh_112 : decode cX3_joinFresh 112 = .ok (.imul, 1) := by decide +kernel
theorem dX3_joinFresh_113 : decode cX3_joinFresh 113 = .ok (.aload_n 0, 1) := by decide +kernel
theorem dX3_joinFresh_114 : decode cX3_joinFresh 114 = .ok (.getfield 18, 3) := by decide +kernel
theorem dX3_joinFresh_117 : decode cX3_joinFresh 117 = .ok (.getfield 55, 3) := by decide +kernel
theorem dX3_joinFresh_120 : decode cX3_joinFresh 120 = .ok (.iload_n 3, 1) := by decide +kernel
theorem dX3_joinFresh_121 : decode cX3_joinFresh 121 = .ok (.isub, 1) := by decide +kernel
theorem dX3_joinFresh_122 : decode cX3_joinFresh 122 = .ok (.invokevirtual 79, 3) := by decide +kernel
theorem dX3_joinFresh_125 : decode cX3_joinFresh 125 = .ok (.iinc 2 1, 3) := by decide +kernel
theorem dX3_joinFresh_128 : decode cX3_joinFresh 128 = .ok (.goto (-64), 3) := by decide +kernel
theorem dX3_joinFresh_131 : decode cX3_joinFresh 131 = .ok (.return_, 1) := by decide +kernel
theorem dX3_takeRow_0 : decode cX3_takeRow 0 = .ok (.iconst 0, 1) := by decide +kernel
theorem dX3_takeRow_1 : decode cX3_takeRow 1 = .ok (.istore_n 3, 1) := by decide +kernel
theorem dX3_takeRow_2 : decode cX3_takeRow 2 = .ok (.iload_n 3, 1) := by decide +kernel
theorem dX3_takeRow_3 : decode cX3_takeRow 3 = .ok (.aload_n 0, 1) := by decide +kernel
theorem dX3_takeRow_4 : decode cX3_takeRow 4 = .ok (.getfield 18, 3) := by decide +kernel
theorem dX3_takeRow_7 : decode cX3_takeRow 7 = .ok (.getfield 38, 3) := by decide +kernel
theorem dX3_takeRow_10 : decode cX3_takeRow 10 = .ok (.if_icmp .ge 36, 3) := by decide +kernel
theorem dX3_takeRow_13 : decode cX3_takeRow 13 = .ok (.aload_n 0, 1) := by decide +kernel
theorem dX3_takeRow_14 : decode cX3_takeRow 14 = .ok (.getfield 9, 3) := by decide +kernel
theorem dX3_takeRow_17 : decode cX3_takeRow 17 = .ok (.iload_n 1, 1) := by decide +kernel
theorem dX3_takeRow_18 : decode cX3_takeRow 18 = .ok (.bipush 6, 2) := by decide +kernel
theorem dX3_takeRow_20 : decode cX3_takeRow 20 = .ok (.imul, 1) := by decide +kernel
theorem dX3_takeRow_21 : decode cX3_takeRow 21 = .ok (.iload_n 3, 1) := by decide +kernel
theorem dX3_takeRow_22 : decode cX3_takeRow 22 = .ok (.iadd, 1) := by decide +kernel
theorem dX3_takeRow_23 : decode cX3_takeRow 23 = .ok (.iload_n 2, 1) := by decide +kernel
theorem dX3_takeRow_24 : decode cX3_takeRow 24 = .ok (.aload_n 0, 1) := by decide +kernel
theorem dX3_takeRow_25 : decode cX3_takeRow 25 = .ok (.getfield 15, 3) := by decide +kernel
theorem dX3_takeRow_28 : decode cX3_takeRow 28 = .ok (.iload_n 3, 1) := by decide +kernel
theorem dX3_takeRow_29 : decode cX3_takeRow 29 = .ok (.iaload, 1) := by decide +kernel
theorem dX3_takeRow_30 : decode cX3_takeRow 30 = .ok (.imul, 1) := by decide +kernel
theorem dX3_takeRow_31 : decode cX3_takeRow 31 = .ok (.aload_n 0, 1) := by decide +kernel
theorem dX3_takeRow_32 : decode cX3_takeRow 32 = .ok (.getfield 18, 3) := by decide +kernel
theorem dX3_takeRow_35 : decode cX3_takeRow 35 = .ok (.getfield 55, 3) := by decide +kernel
theorem dX3_takeRow_38 : decode cX3_takeRow 38 = .ok (.irem, 1) := by decide +kernel
theorem dX3_takeRow_39 : decode cX3_takeRow 39 = .ok (.iastore, 1) := by decide +kernel
theorem dX3_takeRow_40 : decode cX3_takeRow 40 = .ok (.iinc 3 1, 3) := by decide +kernel
theorem dX3_takeRow_43 : decode cX3_takeRow 43 = .ok (.goto (-41), 3) := by decide +kernel
theorem dX3_takeRow_46 : decode cX3_takeRow 46 = .ok (.aload_n 0, 1) := by decide +kernel
theorem dX3_takeRow_47 : decode cX3_takeRow 47 = .ok (.dup, 1) := by decide +kernel
theorem dX3_takeRow_48 : decode cX3_takeRow 48 = .ok (.getfield 22, 3) := by decide +kernel
theorem dX3_takeRow_51 : decode cX3_takeRow 51 = .ok (.iconst 1, 1) := by decide +kernel
theorem dX3_takeRow_52 : decode cX3_takeRow 52 = .ok (.aload_n 0, 1) := by decide +kernel
theorem dX3_takeRow_53 : decode cX3_takeRow 53 = .ok (.getfield 18, 3) := by decide +kernel
theorem dX3_takeRow_56 : decode cX3_takeRow 56 = .ok (.getfield 38, 3) := by decide +kernel
theorem dX3_takeRow_59 : decode cX3_takeRow 59 = .ok (.iconst 1, 1) := by decide +kernel
theorem dX3_takeRow_60 : decode cX3_takeRow 60 = .ok (.isub, 1) := by decide +kernel
theorem dX3_takeRow_61 : decode cX3_takeRow 61 = .ok (.iload_n 1, 1) := by decide +kernel
theorem dX3_takeRow_62 : decode cX3_takeRow 62 = .ok (.isub, 1) := by decide +kernel
theorem dX3_takeRow_63 : decode cX3_takeRow 63 = .ok (.ishl, 1) := by decide +kernel
theorem dX3_takeRow_64 : decode cX3_takeRow 64 = .ok (.ior, 1) := by decide +kernel
theorem dX3_takeRow_65 : decode cX3_takeRow 65 = .ok (.putfield 22, 3) := by decide +kernel
theorem dX3_takeRow_68 : decode cX3_takeRow 68 = .ok (.return_, 1) := by decide +kernel
set_option maxRecDepth 20000 in
theorem ggX3_reduceFresh_X3_isPivot : GoodIn wsX3_reduceFresh wsX3_isPivot := goodIn_r _ [8, 9, 1, 16, 17, 18, 19, 20, 21, 22] (by decide +kernel) (by decide +kernel)
set_option maxRecDepth 20000 in
theorem gX3_reduceFresh_X3_isPivot : GoodIn wsX3_reduceFresh (wsV RX3 43 RX3 yX3_isPivot wsX3_isPivot) := goodIn_app (goodIn_of _ (by decide +kernel)) ggX3_reduceFresh_X3_isPivot
set_option maxRecDepth 20000 in
theorem ggX3_reduceFresh_X0_addMultiple : GoodIn wsX3_reduceFresh wsX0_addMultiple := goodIn_r _ [13, 14, 15, 20, 21, 22] (by decide +kernel) (by decide +kernel)
set_option maxRecDepth 20000 in
theorem gX3_reduceFresh_X0_addMultiple_n79 : GoodIn wsX3_reduceFresh (wsX0_addMultiple) := ggX3_reduceFresh_X0_addMultiple
theorem dX3_reduceFresh_0 : decode cX3_reduceFresh 0 = .ok (.iconst 0, 1) := by decide +kernel
theorem dX3_reduceFresh_1 : decode cX3_reduceFresh 1 = .ok (.istore_n 1, 1) := by decide +kernel
theorem dX3_reduceFresh_2 : decode cX3_reduceFresh 2 = .ok (.iload_n 1, 1) := by decide +kernel
theorem dX3_reduceFresh_3 : decode cX3_reduceFresh 3 = .ok (.aload_n 0, 1) := by decide +kernel
theorem dX3_reduceFresh_4 : decode cX3_reduceFresh 4 = .ok (.getfield 18, 3) := by decide +kernel
theorem dX3_reduceFresh_7 : decode cX3_reduceFresh 7 = .ok (.getfield 38, 3) := by decide +kernel
theorem dX3_reduceFresh_10 : decode cX3_reduceFresh 10 = .ok (.if_icmp .ge 60, 3) := by decide +kernel
theorem dX3_reduceFresh_13 : decode cX3_reduceFresh 13 = .ok (.aload_n 0, 1) := by decide +kernel
theorem dX3_reduceFresh_14 : decode cX3_reduceFresh 14 = .ok (.getfield 15, 3) := by decide +kernel
theorem dX3_reduceFresh_17 : decode cX3_reduceFresh 17 = .ok (.iload_n 1, 1) := by decide +kernel
theorem dX3_reduceFresh_18 : decode cX3_reduceFresh 18 = .ok (.iaload, 1) := by decide +kernel
theorem dX3_reduceFresh_19 : decode cX3_reduceFresh 19 = .ok (.ifCond .eq 45, 3) := by decide +kernel
theorem dX3_reduceFresh_22 : decode cX3_reduceFresh 22 = .ok (.aload_n 0, 1) := by decide +kernel
theorem dX3_reduceFresh_23 : decode cX3_reduceFresh 23 = .ok (.iload_n 1, 1) := by decide +kernel
theorem dX3_reduceFresh_24 : decode cX3_reduceFresh 24 = .ok (.invokevirtual 43, 3) := by decide +kernel
theorem dX3_reduceFresh_27 : decode cX3_reduceFresh 27 = .ok (.ifCond .eq 37, 3) := by decide +kernel
theorem dX3_reduceFresh_30 : decode cX3_reduceFresh 30 = .ok (.aload_n 0, 1) := by decide +kernel
theorem dX3_reduceFresh_31 : decode cX3_reduceFresh 31 = .ok (.getfield 18, 3) := by decide +kernel
theorem dX3_reduceFresh_34 : decode cX3_reduceFresh 34 = .ok (.aload_n 0, 1) := by decide +kernel
theorem dX3_reduceFresh_35 : decode cX3_reduceFresh 35 = .ok (.getfield 15, 3) := by decide +kernel
theorem dX3_reduceFresh_38 : decode cX3_reduceFresh 38 = .ok (.iconst 0, 1) := by decide +kernel
theorem dX3_reduceFresh_39 : decode cX3_reduceFresh 39 = .ok (.aload_n 0, 1) := by decide +kernel
theorem dX3_reduceFresh_40 : decode cX3_reduceFresh 40 = .ok (.getfield 9, 3) := by decide +kernel
theorem dX3_reduceFresh_43 : decode cX3_reduceFresh 43 = .ok (.iload_n 1, 1) := by decide +kernel
theorem dX3_reduceFresh_44 : decode cX3_reduceFresh 44 = .ok (.bipush 6, 2) := by decide +kernel
theorem dX3_reduceFresh_46 : decode cX3_reduceFresh 46 = .ok (.imul, 1) := by decide +kernel
theorem dX3_reduceFresh_47 : decode cX3_reduceFresh 47 = .ok (.aload_n 0, 1) := by decide +kernel
theorem dX3_reduceFresh_48 : decode cX3_reduceFresh 48 = .ok (.getfield 18, 3) := by decide +kernel
theorem dX3_reduceFresh_51 : decode cX3_reduceFresh 51 = .ok (.getfield 55, 3) := by decide +kernel
theorem dX3_reduceFresh_54 : decode cX3_reduceFresh 54 = .ok (.aload_n 0, 1) := by decide +kernel
theorem dX3_reduceFresh_55 : decode cX3_reduceFresh 55 = .ok (.getfield 15, 3) := by decide +kernel
theorem dX3_reduceFresh_58 : decode cX3_reduceFresh 58 = .ok (.iload_n 1, 1) := by decide +kernel
theorem dX3_reduceFresh_59 : decode cX3_reduceFresh 59 = .ok (.iaload, 1) := by decide +kernel
theorem dX3_reduceFresh_60 : decode cX3_reduceFresh 60 = .ok (.isub, 1) := by decide +kernel
theorem dX3_reduceFresh_61 : decode cX3_reduceFresh 61 = .ok (.invokevirtual 79, 3) := by decide +kernel
theorem dX3_reduceFresh_64 : decode cX3_reduceFresh 64 = .ok (.iinc 1 1, 3) := by decide +kernel
theorem dX3_reduceFresh_67 : decode cX3_reduceFresh 67 = .ok (.goto (-65), 3) := by decide +kernel
theorem dX3_reduceFresh_70 : decode cX3_reduceFresh 70 = .ok (.return_, 1) := by decide +kernel
set_option maxRecDepth 20000 in
theorem ggX3_becomeDual_X3_becomeZero : GoodIn wsX3_becomeDual wsX3_becomeZero := goodIn_r _ [8, 9, 39, 40, 41, 42] (by decide +kernel) (by decide +kernel)
set_option maxRecDepth 20000 in
theorem gX3_becomeDual_X3_becomeZero : GoodIn wsX3_becomeDual (wsV RX3 83 RX3 yX3_becomeZero wsX3_becomeZero) := goodIn_app (goodIn_of _ (by decide +kernel)) ggX3_becomeDual_X3_becomeZero
set_option maxRecDepth 20000 in
theorem ggX3_becomeDual_X3_isPivot : GoodIn wsX3_becomeDual wsX3_isPivot := goodIn_r _ [13, 9, 1, 39, 40, 41, 42, 43, 44, 45] (by decide +kernel) (by decide +kernel)
set_option maxRecDepth 20000 in
theorem gX3_becomeDual_X3_isPivot : GoodIn wsX3_becomeDual (wsV RX3 43 RX3 yX3_isPivot wsX3_isPivot) := goodIn_app (goodIn_of _ (by decide +kernel)) ggX3_becomeDual_X3_isPivot
set_option maxRecDepth 20000 in
theorem ggX3_becomeDual_J7_fill_53178 : GoodIn wsX3_becomeDual wsJ7_fill_53178 := goodIn_r _ [17] (by decide +kernel) (by decide +kernel)
set_option maxRecDepth 20000 in
theorem gX3_becomeDual_J7_fill_53178 : GoodIn wsX3_becomeDual (va_wsS RX3 86 yJ7_fill_53178 wsJ7_fill_53178) := goodIn_app (goodIn_of _ (by decide +kernel)) ggX3_becomeDual_J7_fill_53178
set_option maxRecDepth 20000 in
theorem ggX3_becomeDual_X3_joinFresh : GoodIn wsX3_becomeDual wsX3_joinFresh := goodIn_r _ [21, 1, 2, 3, 22, 23, 24, 7, 25, 10, 11, 12, 13, 9, 26, 27, 28, 29, 30, 31, 32, 33, 34, 35, 36, 37, 38, 39, 40, 41, 42, 43, 44, 45] (by decide +kernel) (by decide +kernel)
set_option maxRecDepth 20000 in
theorem gX3_becomeDual_X3_joinFresh : GoodIn wsX3_becomeDual (wsV RX3 66 RX3 yX3_joinFresh wsX3_joinFresh) := goodIn_app (goodIn_of _ (by decide +kernel)) ggX3_becomeDual_X3_joinFresh
theorem dX3_becomeDual_0 : decode cX3_becomeDual 0 = .ok (.aload_n 0, 1) := by decide +kernel
theorem dX3_becomeDual_1 : decode cX3_becomeDual 1 = .ok (.invokevirtual 83, 3) := by decide +kernel
theorem dX3_becomeDual_4 : decode cX3_becomeDual 4 = .ok (.iconst 0, 1) := by decide +kernel
theorem dX3_becomeDual_5 : decode cX3_becomeDual 5 = .ok (.istore_n 2, 1) := by decide +kernel
theorem dX3_becomeDual_6 : decode cX3_becomeDual 6 = .ok (.iload_n 2, 1) := by decide +kernel
theorem dX3_becomeDual_7 : decode cX3_becomeDual 7 = .ok (.aload_n 0, 1) := by decide +kernel
theorem dX3_becomeDual_8 : decode cX3_becomeDual 8 = .ok (.getfield 18, 3) := by decide +kernel
theorem dX3_becomeDual_11 : decode cX3_becomeDual 11 = .ok (.getfield 38, 3) := by decide +kernel
theorem dX3_becomeDual_14 : decode cX3_becomeDual 14 = .ok (.if_icmp .ge 90, 3) := by decide +kernel
theorem dX3_becomeDual_17 : decode cX3_becomeDual 17 = .ok (.aload_n 1, 1) := by decide +kernel
theorem dX3_becomeDual_18 : decode cX3_becomeDual 18 = .ok (.iload_n 2, 1) := by decide +kernel
theorem dX3_becomeDual_19 : decode cX3_becomeDual 19 = .ok (.invokevirtual 43, 3) := by decide +kernel
theorem dX3_becomeDual_22 : decode cX3_becomeDual 22 = .ok (.ifCond .ne 76, 3) := by decide +kernel
theorem dX3_becomeDual_25 : decode cX3_becomeDual 25 = .ok (.aload_n 0, 1) := by decide +kernel
theorem dX3_becomeDual_26 : decode cX3_becomeDual 26 = .ok (.getfield 15, 3) := by decide +kernel
theorem dX3_becomeDual_29 : decode cX3_becomeDual 29 = .ok (.iconst 0, 1) := by decide +kernel
theorem dX3_becomeDual_30 : decode cX3_becomeDual 30 = .ok (.invokestatic 86, 3) := by decide +kernel
theorem dX3_becomeDual_33 : decode cX3_becomeDual 33 = .ok (.aload_n 0, 1) := by decide +kernel
theorem dX3_becomeDual_34 : decode cX3_becomeDual 34 = .ok (.getfield 15, 3) := by decide +kernel
theorem dX3_becomeDual_37 : decode cX3_becomeDual 37 = .ok (.iload_n 2, 1) := by decide +kernel
theorem dX3_becomeDual_38 : decode cX3_becomeDual 38 = .ok (.iconst 1, 1) := by decide +kernel
theorem dX3_becomeDual_39 : decode cX3_becomeDual 39 = .ok (.iastore, 1) := by decide +kernel
theorem dX3_becomeDual_40 : decode cX3_becomeDual 40 = .ok (.iconst 0, 1) := by decide +kernel
theorem dX3_becomeDual_41 : decode cX3_becomeDual 41 = .ok (.istore_n 3, 1) := by decide +kernel
theorem dX3_becomeDual_42 : decode cX3_becomeDual 42 = .ok (.iload_n 3, 1) := by decide +kernel
theorem dX3_becomeDual_43 : decode cX3_becomeDual 43 = .ok (.iload_n 2, 1) := by decide +kernel
theorem dX3_becomeDual_44 : decode cX3_becomeDual 44 = .ok (.if_icmp .ge 50, 3) := by decide +kernel
theorem dX3_becomeDual_47 : decode cX3_becomeDual 47 = .ok (.aload_n 1, 1) := by decide +kernel
theorem dX3_becomeDual_48 : decode cX3_becomeDual 48 = .ok (.iload_n 3, 1) := by decide +kernel
theorem dX3_becomeDual_49 : decode cX3_becomeDual 49 = .ok (.invokevirtual 43, 3) := by decide +kernel
theorem dX3_becomeDual_52 : decode cX3_becomeDual 52 = .ok (.ifCond .eq 36, 3) := by decide +kernel
theorem dX3_becomeDual_55 : decode cX3_becomeDual 55 = .ok (.aload_n 0, 1) := by decide +kernel
theorem dX3_becomeDual_56 : decode cX3_becomeDual 56 = .ok (.getfield 15, 3) := by decide +kernel
theorem dX3_becomeDual_59 : decode cX3_becomeDual 59 = .ok (.iload_n 3, 1) := by decide +kernel
theorem dX3_becomeDual_60 : decode cX3_becomeDual 60 = .ok (.aload_n 0, 1) := by decide +kernel
theorem dX3_becomeDual_61 : decode cX3_becomeDual 61 = .ok (.getfield 18, 3) := by decide +kernel
theorem dX3_becomeDual_64 : decode cX3_becomeDual 64 = .ok (.getfield 55, 3) := by decide +kernel
theorem dX3_becomeDual_67 : decode cX3_becomeDual 67 = .ok (.aload_n 1, 1) := by decide +kernel
theorem dX3_becomeDual_68 : decode cX3_becomeDual 68 = .ok (.getfield 9, 3) := by decide +kernel
theorem dX3_becomeDual_71 : decode cX3_becomeDual 71 = .ok (.iload_n 3, 1) := by decide +kernel
theorem dX3_becomeDual_72 : decode cX3_becomeDual 72 = .ok (.bipush 6, 2) := by decide +kernel
theorem dX3_becomeDual_74 : decode cX3_becomeDual 74 = .ok (.imul, 1) := by decide +kernel
theorem dX3_becomeDual_75 : decode cX3_becomeDual 75 = .ok (.iload_n 2, 1) := by decide +kernel
theorem dX3_becomeDual_76 : decode cX3_becomeDual 76 = .ok (.iadd, 1) := by decide +kernel
theorem dX3_becomeDual_77 : decode cX3_becomeDual 77 = .ok (.iaload, 1) := by decide +kernel
theorem dX3_becomeDual_78 : decode cX3_becomeDual 78 = .ok (.isub, 1) := by decide +kernel
theorem dX3_becomeDual_79 : decode cX3_becomeDual 79 = .ok (.aload_n 0, 1) := by decide +kernel
theorem dX3_becomeDual_80 : decode cX3_becomeDual 80 = .ok (.getfield 18, 3) := by decide +kernel
theorem dX3_becomeDual_83 : decode cX3_becomeDual 83 = .ok (.getfield 55, 3) := by decide +kernel
theorem dX3_becomeDual_86 : decode cX3_becomeDual 86 = .ok (.irem, 1) := by decide +kernel
theorem dX3_becomeDual_87 : decode cX3_becomeDual 87 = .ok (.iastore, 1) := by decide +kernel
theorem dX3_becomeDual_88 : decode cX3_becomeDual 88 = .ok (.iinc 3 1, 3) := by decide +kernel
theorem dX3_becomeDual_91 : decode cX3_becomeDual 91 = .ok (.goto (-49), 3) := by decide +kernel
theorem dX3_becomeDual_94 : decode cX3_becomeDual 94 = .ok (.aload_n 0, 1) := by decide +kernel
theorem dX3_becomeDual_95 : decode cX3_becomeDual 95 = .ok (.invokevirtual 66, 3) := by decide +kernel
theorem dX3_becomeDual_98 : decode cX3_becomeDual 98 = .ok (.iinc 2 1, 3) := by decide +kernel
theorem dX3_becomeDual_101 : decode cX3_becomeDual 101 = .ok (.goto (-95), 3) := by decide +kernel
theorem dX3_becomeDual_104 : decode cX3_becomeDual 104 = .ok (.return_, 1) := by decide +kernel
set_option maxRecDepth 20000 in
theorem ggX3_distance_X3_copyFrom : GoodIn wsX3_distance wsX3_copyFrom := goodIn_r _ [5, 6, 7, 8, 9, 10, 11, 54, 55, 56, 57] (by decide +kernel) (by decide +kernel)
set_option maxRecDepth 20000 in
theorem gX3_distance_X3_copyFrom : GoodIn wsX3_distance (wsV RX3 92 RX3 yX3_copyFrom wsX3_copyFrom) := goodIn_app (goodIn_of _ (by decide +kernel)) ggX3_distance_X3_copyFrom
set_option maxRecDepth 20000 in
theorem ggX3_distance_X3_joinSpace : GoodIn wsX3_distance wsX3_joinSpace := goodIn_r _ [15, 16, 7, 17, 8, 9, 10, 11, 18, 19, 20, 4, 21, 6, 22, 23, 24, 25, 26, 27, 28, 29, 30, 31, 32, 33, 34, 35, 36, 37, 38, 39, 40, 41, 42, 54, 55, 56, 57, 58, 59, 60] (by decide +kernel) (by decide +kernel)
set_option maxRecDepth 20000 in
theorem gX3_distance_X3_joinSpace : GoodIn wsX3_distance (wsV RX3 96 RX3 yX3_joinSpace wsX3_joinSpace) := goodIn_app (goodIn_of _ (by decide +kernel)) ggX3_distance_X3_joinSpace
set_option maxRecDepth 20000 in
theorem ggX3_distance_X3_rank : GoodIn wsX3_distance wsX3_rank := goodIn_r _ [46, 6, 47, 48, 49, 50, 51, 52, 53, 54, 55, 56, 57] (by decide +kernel) (by decide +kernel)
set_option maxRecDepth 20000 in
theorem gX3_distance_X3_rank : GoodIn wsX3_distance (wsV RX3 99 RX3 yX3_rank wsX3_rank) := goodIn_app (goodIn_of _ (by decide +kernel)) ggX3_distance_X3_rank
theorem dX3_distance_0 : decode cX3_distance 0 = .ok (.aload_n 0, 1) := by decide +kernel
theorem dX3_distance_1 : decode cX3_distance 1 = .ok (.aload_n 1, 1) := by decide +kernel
theorem dX3_distance_2 : decode cX3_distance 2 = .ok (.invokevirtual 92, 3) := by decide +kernel
theorem dX3_distance_5 : decode cX3_distance 5 = .ok (.aload_n 0, 1) := by decide +kernel
theorem dX3_distance_6 : decode cX3_distance 6 = .ok (.aload_n 2, 1) := by decide +kernel
theorem dX3_distance_7 : decode cX3_distance 7 = .ok (.invokevirtual 96, 3) := by decide +kernel
theorem dX3_distance_10 : decode cX3_distance 10 = .ok (.iconst 2, 1) := by decide +kernel
theorem dX3_distance_11 : decode cX3_distance 11 = .ok (.aload_n 0, 1) := by decide +kernel
theorem dX3_distance_12 : decode cX3_distance 12 = .ok (.invokevirtual 99, 3) := by decide +kernel
theorem dX3_distance_15 : decode cX3_distance 15 = .ok (.imul, 1) := by decide +kernel
theorem dX3_distance_16 : decode cX3_distance 16 = .ok (.aload_n 1, 1) := by decide +kernel
theorem dX3_distance_17 : decode cX3_distance 17 = .ok (.invokevirtual 99, 3) := by decide +kernel
theorem dX3_distance_20 : decode cX3_distance 20 = .ok (.isub, 1) := by decide +kernel
theorem dX3_distance_21 : decode cX3_distance 21 = .ok (.aload_n 2, 1) := by decide +kernel
theorem dX3_distance_22 : decode cX3_distance 22 = .ok (.invokevirtual 99, 3) := by decide +kernel
theorem dX3_distance_25 : decode cX3_distance 25 = .ok (.isub, 1) := by decide +kernel
theorem dX3_distance_26 : decode cX3_distance 26 = .ok (.ireturn, 1) := by decide +kernel
theorem dX3_freeCells_0 : decode cX3_freeCells 0 = .ok (.iconst 0, 1) := by decide +kernel
theorem dX3_freeCells_1 : decode cX3_freeCells 1 = .ok (.istore_n 2, 1) := by decide +kernel
theorem dX3_freeCells_2 : decode cX3_freeCells 2 = .ok (.iconst 0, 1) := by decide +kernel
theorem dX3_freeCells_3 : decode cX3_freeCells 3 = .ok (.istore_n 3, 1) := by decide +kernel
theorem dX3_freeCells_4 : decode cX3_freeCells 4 = .ok (.iconst 0, 1) := by decide +kernel
theorem dX3_freeCells_5 : decode cX3_freeCells 5 = .ok (.istore 4, 2) := by decide +kernel
theorem dX3_freeCells_7 : decode cX3_freeCells 7 = .ok (.iload 4, 2) := by decide +kernel
theorem dX3_freeCells_9 : decode cX3_freeCells 9 = .ok (.aload_n 0, 1) := by decide +kernel
theorem dX3_freeCells_10 : decode cX3_freeCells 10 = .ok (.getfield 18, 3) := by decide +kernel
theorem dX3_freeCells_13 : decode cX3_freeCells 13 = .ok (.getfield 38, 3) := by decide +kernel
theorem dX3_freeCells_16 : decode cX3_freeCells 16 = .ok (.if_icmp .ge 29, 3) := by decide +kernel
theorem dX3_freeCells_19 : decode cX3_freeCells 19 = .ok (.iload_n 1, 1) := by decide +kernel
theorem dX3_freeCells_20 : decode cX3_freeCells 20 = .ok (.iload 4, 2) := by decide +kernel
theorem dX3_freeCells_22 : decode cX3_freeCells 22 = .ok (.ishr, 1) := by decide +kernel
theorem dX3_freeCells_23 : decode cX3_freeCells 23 = .ok (.iconst 1, 1) := by decide +kernel
theorem dX3_freeCells_24 : decode cX3_freeCells 24 = .ok (.iand, 1) := by decide +kernel
theorem dX3_freeCells_25 : decode cX3_freeCells 25 = .ok (.iconst 1, 1) := by decide +kernel
theorem dX3_freeCells_26 : decode cX3_freeCells 26 = .ok (.if_icmp .ne 10, 3) := by decide +kernel
theorem dX3_freeCells_29 : decode cX3_freeCells 29 = .ok (.iload_n 2, 1) := by decide +kernel
theorem dX3_freeCells_30 : decode cX3_freeCells 30 = .ok (.iload_n 3, 1) := by decide +kernel
theorem dX3_freeCells_31 : decode cX3_freeCells 31 = .ok (.iadd, 1) := by decide +kernel
theorem dX3_freeCells_32 : decode cX3_freeCells 32 = .ok (.istore_n 2, 1) := by decide +kernel
theorem dX3_freeCells_33 : decode cX3_freeCells 33 = .ok (.goto 6, 3) := by decide +kernel
theorem dX3_freeCells_36 : decode cX3_freeCells 36 = .ok (.iinc 3 1, 3) := by decide +kernel
theorem dX3_freeCells_39 : decode cX3_freeCells 39 = .ok (.iinc 4 1, 3) := by decide +kernel
theorem dX3_freeCells_42 : decode cX3_freeCells 42 = .ok (.goto (-35), 3) := by decide +kernel
theorem dX3_freeCells_45 : decode cX3_freeCells 45 = .ok (.iload_n 2, 1) := by decide +kernel
theorem dX3_freeCells_46 : decode cX3_freeCells 46 = .ok (.ireturn, 1) := by decide +kernel
set_option maxRecDepth 20000 in
theorem ggX3_ordinal_X3_rank : GoodIn wsX3_ordinal wsX3_rank := goodIn_r _ [7, 2, 8, 9, 10, 11, 12, 13, 14, 33, 34, 35, 36] (by decide +kernel) (by decide +kernel)
set_option maxRecDepth 20000 in
theorem gX3_ordinal_X3_rank : GoodIn wsX3_ordinal (wsV RX3 99 RX3 yX3_rank wsX3_rank) := goodIn_app (goodIn_of _ (by decide +kernel)) ggX3_ordinal_X3_rank
set_option maxRecDepth 20000 in
theorem ggX3_ordinal_J6_bitCount_0f7a4 : GoodIn wsX3_ordinal wsJ6_bitCount_0f7a4 := goodIn_r _ [11, 12, 13, 14] (by decide +kernel) (by decide +kernel)
set_option maxRecDepth 20000 in
theorem gX3_ordinal_J6_bitCount_0f7a4 : GoodIn wsX3_ordinal (va_wsS RX3 32 yJ6_bitCount_0f7a4 wsJ6_bitCount_0f7a4) := goodIn_app (goodIn_of _ (by decide +kernel)) ggX3_ordinal_J6_bitCount_0f7a4
set_option maxRecDepth 20000 in
theorem ggX3_ordinal_X3_freeCells : GoodIn wsX3_ordinal wsX3_freeCells := goodIn_r _ [18, 1, 33, 34, 35, 36, 37, 38, 39] (by decide +kernel) (by decide +kernel)
set_option maxRecDepth 20000 in
theorem gX3_ordinal_X3_freeCells : GoodIn wsX3_ordinal (wsV RX3 103 RX3 yX3_freeCells wsX3_freeCells) := goodIn_app (goodIn_of _ (by decide +kernel)) ggX3_ordinal_X3_freeCells
set_option maxRecDepth 20000 in
theorem ggX3_ordinal_X0_power : GoodIn wsX3_ordinal wsX0_power := goodIn_r _ [22, 23, 37, 38, 39] (by decide +kernel) (by decide +kernel)
set_option maxRecDepth 20000 in
theorem gX3_ordinal_X0_power_n106 : GoodIn wsX3_ordinal (wsX0_power) := ggX3_ordinal_X0_power
set_option maxRecDepth 20000 in
theorem ggX3_ordinal_X3_cellsValue : GoodIn wsX3_ordinal wsX3_cellsValue := goodIn_r _ [27, 1, 28, 29, 30, 31, 6, 32, 2, 33, 34, 35, 36, 37, 38, 39] (by decide +kernel) (by decide +kernel)
set_option maxRecDepth 20000 in
theorem gX3_ordinal_X3_cellsValue : GoodIn wsX3_ordinal (wsV RX3 109 RX3 yX3_cellsValue wsX3_cellsValue) := goodIn_app (goodIn_of _ (by decide +kernel)) ggX3_ordinal_X3_cellsValue
theorem dX3_ordinal_0 : decode cX3_ordinal 0 = .ok (.aload_n 0, 1) := by decide +kernel
theorem dX3_ordinal_1 : decode cX3_ordinal 1 = .ok (.invokevirtual 99, 3) := by decide +kernel
theorem dX3_ordinal_4 : decode cX3_ordinal 4 = .ok (.istore_n 1, 1) := by decide +kernel
theorem dX3_ordinal_5 : decode cX3_ordinal 5 = .ok (.iconst 0, 1) := by decide +kernel
theorem dX3_ordinal_6 : decode cX3_ordinal 6 = .ok (.istore_n 2, 1) := by decide +kernel
theorem dX3_ordinal_7 : decode cX3_ordinal 7 = .ok (.iconst 1, 1) := by decide +kernel
theorem dX3_ordinal_8 : decode cX3_ordinal 8 = .ok (.aload_n 0, 1) := by decide +kernel
theorem dX3_ordinal_9 : decode cX3_ordinal 9 = .ok (.getfield 18, 3) := by decide +kernel
theorem dX3_ordinal_12 : decode cX3_ordinal 12 = .ok (.getfield 38, 3) := by decide +kernel
theorem dX3_ordinal_15 : decode cX3_ordinal 15 = .ok (.ishl, 1) := by decide +kernel
theorem dX3_ordinal_16 : decode cX3_ordinal 16 = .ok (.iconst 1, 1) := by decide +kernel
theorem dX3_ordinal_17 : decode cX3_ordinal 17 = .ok (.isub, 1) := by decide +kernel
theorem dX3_ordinal_18 : decode cX3_ordinal 18 = .ok (.istore_n 3, 1) := by decide +kernel
theorem dX3_ordinal_19 : decode cX3_ordinal 19 = .ok (.iload_n 3, 1) := by decide +kernel
theorem dX3_ordinal_20 : decode cX3_ordinal 20 = .ok (.aload_n 0, 1) := by decide +kernel
theorem dX3_ordinal_21 : decode cX3_ordinal 21 = .ok (.getfield 22, 3) := by decide +kernel
theorem dX3_ordinal_24 : decode cX3_ordinal 24 = .ok (.if_icmp .le 32, 3) := by decide +kernel
theorem dX3_ordinal_27 : decode cX3_ordinal 27 = .ok (.iload_n 3, 1) := by decide +kernel
theorem dX3_ordinal_28 : decode cX3_ordinal 28 = .ok (.invokestatic 32, 3) := by decide +kernel
theorem dX3_ordinal_31 : decode cX3_ordinal 31 = .ok (.iload_n 1, 1) := by decide +kernel
theorem dX3_ordinal_32 : decode cX3_ordinal 32 = .ok (.if_icmp .ne 18, 3) := by decide +kernel
theorem dX3_ordinal_35 : decode cX3_ordinal 35 = .ok (.iload_n 2, 1) := by decide +kernel
theorem dX3_ordinal_36 : decode cX3_ordinal 36 = .ok (.aload_n 0, 1) := by decide +kernel
theorem dX3_ordinal_37 : decode cX3_ordinal 37 = .ok (.getfield 18, 3) := by decide +kernel
theorem dX3_ordinal_40 : decode cX3_ordinal 40 = .ok (.aload_n 0, 1) := by decide +kernel
theorem dX3_ordinal_41 : decode cX3_ordinal 41 = .ok (.iload_n 3, 1) := by decide +kernel
theorem dX3_ordinal_42 : decode cX3_ordinal 42 = .ok (.invokevirtual 103, 3) := by decide +kernel
theorem dX3_ordinal_45 : decode cX3_ordinal 45 = .ok (.invokevirtual 106, 3) := by decide +kernel
theorem dX3_ordinal_48 : decode cX3_ordinal 48 = .ok (.iadd, 1) := by decide +kernel
theorem dX3_ordinal_49 : decode cX3_ordinal 49 = .ok (.istore_n 2, 1) := by decide +kernel
theorem dX3_ordinal_50 : decode cX3_ordinal 50 = .ok (.iinc 3 (-1), 3) := by decide +kernel
theorem dX3_ordinal_53 : decode cX3_ordinal 53 = .ok (.goto (-34), 3) := by decide +kernel
theorem dX3_ordinal_56 : decode cX3_ordinal 56 = .ok (.iload_n 2, 1) := by decide +kernel
theorem dX3_ordinal_57 : decode cX3_ordinal 57 = .ok (.aload_n 0, 1) := by decide +kernel
theorem dX3_ordinal_58 : decode cX3_ordinal 58 = .ok (.invokevirtual 109, 3) := by decide +kernel
theorem dX3_ordinal_61 : decode cX3_ordinal 61 = .ok (.iadd, 1) := by decide +kernel
theorem dX3_ordinal_62 : decode cX3_ordinal 62 = .ok (.ireturn, 1) := by decide +kernel
set_option maxRecDepth 20000 in
theorem ggX3_cellsValue_X3_isPivot : GoodIn wsX3_cellsValue wsX3_isPivot := goodIn_r _ [7, 8, 1, 9, 10, 11, 12, 13, 14, 15] (by decide +kernel) (by decide +kernel)
set_option maxRecDepth 20000 in
theorem gX3_cellsValue_X3_isPivot : GoodIn wsX3_cellsValue (wsV RX3 43 RX3 yX3_isPivot wsX3_isPivot) := goodIn_app (goodIn_of _ (by decide +kernel)) ggX3_cellsValue_X3_isPivot
theorem dX3_cellsValue_0 : decode cX3_cellsValue 0 = .ok (.iconst 0, 1) := by decide +kernel
theorem dX3_cellsValue_1 : decode cX3_cellsValue 1 = .ok (.istore_n 1, 1) := by decide +kernel
theorem dX3_cellsValue_2 : decode cX3_cellsValue 2 = .ok (.iconst 0, 1) := by decide +kernel
theorem dX3_cellsValue_3 : decode cX3_cellsValue 3 = .ok (.istore_n 2, 1) := by decide +kernel
theorem dX3_cellsValue_4 : decode cX3_cellsValue 4 = .ok (.iload_n 2, 1) := by decide +kernel
theorem dX3_cellsValue_5 : decode cX3_cellsValue 5 = .ok (.aload_n 0, 1) := by decide +kernel
theorem dX3_cellsValue_6 : decode cX3_cellsValue 6 = .ok (.getfield 18, 3) := by decide +kernel
theorem dX3_cellsValue_9 : decode cX3_cellsValue 9 = .ok (.getfield 38, 3) := by decide +kernel
theorem dX3_cellsValue_12 : decode cX3_cellsValue 12 = .ok (.if_icmp .ge 68, 3) := by decide +kernel
theorem dX3_cellsValue_15 : decode cX3_cellsValue 15 = .ok (.aload_n 0, 1) := by decide +kernel
theorem dX3_cellsValue_16 : decode cX3_cellsValue 16 = .ok (.iload_n 2, 1) := by decide +kernel
theorem dX3_cellsValue_17 : decode cX3_cellsValue 17 = .ok (.invokevirtual 43, 3) := by decide +kernel
theorem dX3_cellsValue_20 : decode cX3_cellsValue 20 = .ok (.ifCond .eq 54, 3) := by decide +kernel
theorem dX3_cellsValue_23 : decode cX3_cellsValue 23 = .ok (.iload_n 2, 1) := by decide +kernel
theorem dX3_cellsValue_24 : decode cX3_cellsValue 24 = .ok (.iconst 1, 1) := by decide +kernel
theorem dX3_cellsValue_25 : decode cX3_cellsValue 25 = .ok (.iadd, 1) := by decide +kernel
theorem dX3_cellsValue_26 : decode cX3_cellsValue 26 = .ok (.istore_n 3, 1) := by decide +kernel
theorem dX3_cellsValue_27 : decode cX3_cellsValue 27 = .ok (.iload_n 3, 1) := by decide +kernel
theorem dX3_cellsValue_28 : decode cX3_cellsValue 28 = .ok (.aload_n 0, 1) := by decide +kernel
theorem dX3_cellsValue_29 : decode cX3_cellsValue 29 = .ok (.getfield 18, 3) := by decide +kernel
theorem dX3_cellsValue_32 : decode cX3_cellsValue 32 = .ok (.getfield 38, 3) := by decide +kernel
theorem dX3_cellsValue_35 : decode cX3_cellsValue 35 = .ok (.if_icmp .ge 39, 3) := by decide +kernel
theorem dX3_cellsValue_38 : decode cX3_cellsValue 38 = .ok (.aload_n 0, 1) := by decide +kernel
theorem dX3_cellsValue_39 : decode cX3_cellsValue 39 = .ok (.iload_n 3, 1) := by decide +kernel
theorem dX3_cellsValue_40 : decode cX3_cellsValue 40 = .ok (.invokevirtual 43, 3) := by decide +kernel
theorem dX3_cellsValue_43 : decode cX3_cellsValue 43 = .ok (.ifCond .ne 25, 3) := by decide +kernel
theorem dX3_cellsValue_46 : decode cX3_cellsValue 46 = .ok (.iload_n 1, 1) := by decide +kernel
theorem dX3_cellsValue_47 : decode cX3_cellsValue 47 = .ok (.aload_n 0, 1) := by decide +kernel
theorem dX3_cellsValue_48 : decode cX3_cellsValue 48 = .ok (.getfield 18, 3) := by decide +kernel
theorem dX3_cellsValue_51 : decode cX3_cellsValue 51 = .ok (.getfield 55, 3) := by decide +kernel
theorem dX3_cellsValue_54 : decode cX3_cellsValue 54 = .ok (.imul, 1) := by decide +kernel
theorem dX3_cellsValue_55 : decode cX3_cellsValue 55 = .ok (.aload_n 0, 1) := by decide +kernel
theorem dX3_cellsValue_56 : decode cX3_cellsValue 56 = .ok (.getfield 9, 3) := by decide +kernel
theorem dX3_cellsValue_59 : decode cX3_cellsValue 59 = .ok (.iload_n 2, 1) := by decide +kernel
theorem dX3_cellsValue_60 : decode cX3_cellsValue 60 = .ok (.bipush 6, 2) := by decide +kernel
theorem dX3_cellsValue_62 : decode cX3_cellsValue 62 = .ok (.imul, 1) := by decide +kernel
theorem dX3_cellsValue_63 : decode cX3_cellsValue 63 = .ok (.iload_n 3, 1) := by decide +kernel
theorem dX3_cellsValue_64 : decode cX3_cellsValue 64 = .ok (.iadd, 1) := by decide +kernel
theorem dX3_cellsValue_65 : decode cX3_cellsValue 65 = .ok (.iaload, 1) := by decide +kernel
theorem dX3_cellsValue_66 : decode cX3_cellsValue 66 = .ok (.iadd, 1) := by decide +kernel
theorem dX3_cellsValue_67 : decode cX3_cellsValue 67 = .ok (.istore_n 1, 1) := by decide +kernel
theorem dX3_cellsValue_68 : decode cX3_cellsValue 68 = .ok (.iinc 3 1, 3) := by decide +kernel
theorem dX3_cellsValue_71 : decode cX3_cellsValue 71 = .ok (.goto (-44), 3) := by decide +kernel
theorem dX3_cellsValue_74 : decode cX3_cellsValue 74 = .ok (.iinc 2 1, 3) := by decide +kernel
theorem dX3_cellsValue_77 : decode cX3_cellsValue 77 = .ok (.goto (-73), 3) := by decide +kernel
theorem dX3_cellsValue_80 : decode cX3_cellsValue 80 = .ok (.iload_n 1, 1) := by decide +kernel
theorem dX3_cellsValue_81 : decode cX3_cellsValue 81 = .ok (.ireturn, 1) := by decide +kernel
set_option maxRecDepth 20000 in
theorem ggX3_becomeOrdinal_J6_bitCount_0f7a4 : GoodIn wsX3_becomeOrdinal wsJ6_bitCount_0f7a4 := goodIn_r _ [6, 7, 8, 9] (by decide +kernel) (by decide +kernel)
set_option maxRecDepth 20000 in
theorem gX3_becomeOrdinal_J6_bitCount_0f7a4 : GoodIn wsX3_becomeOrdinal (va_wsS RX3 32 yJ6_bitCount_0f7a4 wsJ6_bitCount_0f7a4) := goodIn_app (goodIn_of _ (by decide +kernel)) ggX3_becomeOrdinal_J6_bitCount_0f7a4
set_option maxRecDepth 20000 in
theorem ggX3_becomeOrdinal_X3_freeCells : GoodIn wsX3_becomeOrdinal wsX3_freeCells := goodIn_r _ [14, 1, 33, 34, 35, 36, 37, 38, 39] (by decide +kernel) (by decide +kernel)
set_option maxRecDepth 20000 in
theorem gX3_becomeOrdinal_X3_freeCells : GoodIn wsX3_becomeOrdinal (wsV RX3 103 RX3 yX3_freeCells wsX3_freeCells) := goodIn_app (goodIn_of _ (by decide +kernel)) ggX3_becomeOrdinal_X3_freeCells
set_option maxRecDepth 20000 in
theorem ggX3_becomeOrdinal_X0_power : GoodIn wsX3_becomeOrdinal wsX0_power := goodIn_r _ [18, 19, 37, 38, 39] (by decide +kernel) (by decide +kernel)
set_option maxRecDepth 20000 in
theorem gX3_becomeOrdinal_X0_power_n106 : GoodIn wsX3_becomeOrdinal (wsX0_power) := ggX3_becomeOrdinal_X0_power
set_option maxRecDepth 20000 in
theorem ggX3_becomeOrdinal_X3_fillCells : GoodIn wsX3_becomeOrdinal wsX3_fillCells := goodIn_r _ [23, 24, 1, 25, 26, 27, 28, 29, 30, 31, 13, 32, 2, 33, 34, 35, 36, 37, 38, 39] (by decide +kernel) (by decide +kernel)
set_option maxRecDepth 20000 in
theorem gX3_becomeOrdinal_X3_fillCells : GoodIn wsX3_becomeOrdinal (wsV RX3 112 RX3 yX3_fillCells wsX3_fillCells) := goodIn_app (goodIn_of _ (by decide +kernel)) ggX3_becomeOrdinal_X3_fillCells
theorem dX3_becomeOrdinal_0 : decode cX3_becomeOrdinal 0 = .ok (.iload_n 2, 1) := by decide +kernel
theorem dX3_becomeOrdinal_1 : decode cX3_becomeOrdinal 1 = .ok (.istore_n 3, 1) := by decide +kernel
theorem dX3_becomeOrdinal_2 : decode cX3_becomeOrdinal 2 = .ok (.iconst 1, 1) := by decide +kernel
theorem dX3_becomeOrdinal_3 : decode cX3_becomeOrdinal 3 = .ok (.aload_n 0, 1) := by decide +kernel
theorem dX3_becomeOrdinal_4 : decode cX3_becomeOrdinal 4 = .ok (.getfield 18, 3) := by decide +kernel
theorem dX3_becomeOrdinal_7 : decode cX3_becomeOrdinal 7 = .ok (.getfield 38, 3) := by decide +kernel
theorem dX3_becomeOrdinal_10 : decode cX3_becomeOrdinal 10 = .ok (.ishl, 1) := by decide +kernel
theorem dX3_becomeOrdinal_11 : decode cX3_becomeOrdinal 11 = .ok (.iconst 1, 1) := by decide +kernel
theorem dX3_becomeOrdinal_12 : decode cX3_becomeOrdinal 12 = .ok (.isub, 1) := by decide +kernel
theorem dX3_becomeOrdinal_13 : decode cX3_becomeOrdinal 13 = .ok (.istore 4, 2) := by decide +kernel
theorem dX3_becomeOrdinal_15 : decode cX3_becomeOrdinal 15 = .ok (.iload 4, 2) := by decide +kernel
theorem dX3_becomeOrdinal_17 : decode cX3_becomeOrdinal 17 = .ok (.ifCond .lt 56, 3) := by decide +kernel
theorem dX3_becomeOrdinal_20 : decode cX3_becomeOrdinal 20 = .ok (.iload 4, 2) := by decide +kernel
theorem dX3_becomeOrdinal_22 : decode cX3_becomeOrdinal 22 = .ok (.invokestatic 32, 3) := by decide +kernel
theorem dX3_becomeOrdinal_25 : decode cX3_becomeOrdinal 25 = .ok (.iload_n 1, 1) := by decide +kernel
theorem dX3_becomeOrdinal_26 : decode cX3_becomeOrdinal 26 = .ok (.if_icmp .ne 41, 3) := by decide +kernel
theorem dX3_becomeOrdinal_29 : decode cX3_becomeOrdinal 29 = .ok (.aload_n 0, 1) := by decide +kernel
theorem dX3_becomeOrdinal_30 : decode cX3_becomeOrdinal 30 = .ok (.getfield 18, 3) := by decide +kernel
theorem dX3_becomeOrdinal_33 : decode cX3_becomeOrdinal 33 = .ok (.aload_n 0, 1) := by decide +kernel
theorem dX3_becomeOrdinal_34 : decode cX3_becomeOrdinal 34 = .ok (.iload 4, 2) := by decide +kernel
theorem dX3_becomeOrdinal_36 : decode cX3_becomeOrdinal 36 = .ok (.invokevirtual 103, 3) := by decide +kernel
theorem dX3_becomeOrdinal_39 : decode cX3_becomeOrdinal 39 = .ok (.invokevirtual 106, 3) := by decide +kernel
theorem dX3_becomeOrdinal_42 : decode cX3_becomeOrdinal 42 = .ok (.istore 5, 2) := by decide +kernel
theorem dX3_becomeOrdinal_44 : decode cX3_becomeOrdinal 44 = .ok (.iload_n 3, 1) := by decide +kernel
theorem dX3_becomeOrdinal_45 : decode cX3_becomeOrdinal 45 = .ok (.iload 5, 2) := by decide +kernel
theorem dX3_becomeOrdinal_47 : decode cX3_becomeOrdinal 47 = .ok (.if_icmp .ge 15, 3) := by decide +kernel
theorem dX3_becomeOrdinal_50 : decode cX3_becomeOrdinal 50 = .ok (.aload_n 0, 1) := by decide +kernel
theorem dX3_becomeOrdinal_51 : decode cX3_becomeOrdinal 51 = .ok (.iload 4, 2) := by decide +kernel
theorem dX3_becomeOrdinal_53 : decode cX3_becomeOrdinal 53 = .ok (.putfield 22, 3) := by decide +kernel
theorem dX3_becomeOrdinal_56 : decode cX3_becomeOrdinal 56 = .ok (.aload_n 0, 1) := by decide +kernel
theorem dX3_becomeOrdinal_57 : decode cX3_becomeOrdinal 57 = .ok (.iload_n 3, 1) := by decide +kernel
theorem dX3_becomeOrdinal_58 : decode cX3_becomeOrdinal 58 = .ok (.invokevirtual 112, 3) := by decide +kernel
theorem dX3_becomeOrdinal_61 : decode cX3_becomeOrdinal 61 = .ok (.return_, 1) := by decide +kernel
theorem dX3_becomeOrdinal_62 : decode cX3_becomeOrdinal 62 = .ok (.iload_n 3, 1) := by decide +kernel
theorem dX3_becomeOrdinal_63 : decode cX3_becomeOrdinal 63 = .ok (.iload 5, 2) := by decide +kernel
theorem dX3_becomeOrdinal_65 : decode cX3_becomeOrdinal 65 = .ok (.isub, 1) := by decide +kernel
theorem dX3_becomeOrdinal_66 : decode cX3_becomeOrdinal 66 = .ok (.istore_n 3, 1) := by decide +kernel
theorem dX3_becomeOrdinal_67 : decode cX3_becomeOrdinal 67 = .ok (.iinc 4 (-1), 3) := by decide +kernel
theorem dX3_becomeOrdinal_70 : decode cX3_becomeOrdinal 70 = .ok (.goto (-55), 3) := by decide +kernel
theorem dX3_becomeOrdinal_73 : decode cX3_becomeOrdinal 73 = .ok (.return_, 1) := by decide +kernel
set_option maxRecDepth 20000 in
theorem ggX3_fillCells_J7_fill_53178 : GoodIn wsX3_fillCells wsJ7_fill_53178 := goodIn_r _ [6] (by decide +kernel) (by decide +kernel)
set_option maxRecDepth 20000 in
theorem gX3_fillCells_J7_fill_53178 : GoodIn wsX3_fillCells (va_wsS RX3 86 yJ7_fill_53178 wsJ7_fill_53178) := goodIn_app (goodIn_of _ (by decide +kernel)) ggX3_fillCells_J7_fill_53178
set_option maxRecDepth 20000 in
theorem ggX3_fillCells_X3_isPivot : GoodIn wsX3_fillCells wsX3_isPivot := goodIn_r _ [11, 12, 2, 13, 14, 15, 16, 17, 18, 19] (by decide +kernel) (by decide +kernel)
set_option maxRecDepth 20000 in
theorem gX3_fillCells_X3_isPivot : GoodIn wsX3_fillCells (wsV RX3 43 RX3 yX3_isPivot wsX3_isPivot) := goodIn_app (goodIn_of _ (by decide +kernel)) ggX3_fillCells_X3_isPivot
theorem dX3_fillCells_0 : decode cX3_fillCells 0 = .ok (.iload_n 1, 1) := by decide +kernel
theorem dX3_fillCells_1 : decode cX3_fillCells 1 = .ok (.istore_n 2, 1) := by decide +kernel
theorem dX3_fillCells_2 : decode cX3_fillCells 2 = .ok (.aload_n 0, 1) := by decide +kernel
theorem dX3_fillCells_3 : decode cX3_fillCells 3 = .ok (.getfield 9, 3) := by decide +kernel
theorem dX3_fillCells_6 : decode cX3_fillCells 6 = .ok (.iconst 0, 1) := by decide +kernel
theorem dX3_fillCells_7 : decode cX3_fillCells 7 = .ok (.invokestatic 86, 3) := by decide +kernel
theorem dX3_fillCells_10 : decode cX3_fillCells 10 = .ok (.aload_n 0, 1) := by decide +kernel
theorem dX3_fillCells_11 : decode cX3_fillCells 11 = .ok (.getfield 18, 3) := by decide +kernel
theorem dX3_fillCells_14 : decode cX3_fillCells 14 = .ok (.getfield 38, 3) := by decide +kernel
theorem dX3_fillCells_17 : decode cX3_fillCells 17 = .ok (.iconst 1, 1) := by decide +kernel
theorem dX3_fillCells_18 : decode cX3_fillCells 18 = .ok (.isub, 1) := by decide +kernel
theorem dX3_fillCells_19 : decode cX3_fillCells 19 = .ok (.istore_n 3, 1) := by decide +kernel
theorem dX3_fillCells_20 : decode cX3_fillCells 20 = .ok (.iload_n 3, 1) := by decide +kernel
theorem dX3_fillCells_21 : decode cX3_fillCells 21 = .ok (.ifCond .lt 92, 3) := by decide +kernel
end
section
theorem dX3_fillCells_24 : decode cX3_fillCells 24 = .ok (.aload_n 0, 1) := by decide +kernel
theorem dX3_fillCells_25 : decode cX3_fillCells 25 = .ok (.iload_n 3, 1) := by decide +kernel
theorem dX3_fillCells_26 : decode cX3_fillCells 26 = .ok (.invokevirtual 43, 3) := by decide +kernel
theorem dX3_fillCells_29 : decode cX3_fillCells 29 = .ok (.ifCond .eq 78, 3) := by decide +kernel
theorem dX3_fillCells_32 : decode cX3_fillCells 32 = .ok (.aload_n 0, 1) := by decide +kernel
theorem dX3_fillCells_33 : decode cX3_fillCells 33 = .ok (.getfield 9, 3) := by decide +kernel
theorem dX3_fillCells_36 : decode cX3_fillCells 36 = .ok (.iload_n 3, 1) := by decide +kernel
theorem dX3_fillCells_37 : decode cX3_fillCells 37 = .ok (.bipush 6, 2) := by decide +kernel
theorem dX3_fillCells_39 : decode cX3_fillCells 39 = .ok (.imul, 1) := by decide +kernel
theorem dX3_fillCells_40 : decode cX3_fillCells 40 = .ok (.iload_n 3, 1) := by decide +kernel
theorem dX3_fillCells_41 : decode cX3_fillCells 41 = .ok (.iadd, 1) := by decide +kernel
theorem dX3_fillCells_42 : decode cX3_fillCells 42 = .ok (.iconst 1, 1) := by decide +kernel
theorem dX3_fillCells_43 : decode cX3_fillCells 43 = .ok (.iastore, 1) := by decide +kernel
theorem dX3_fillCells_44 : decode cX3_fillCells 44 = .ok (.aload_n 0, 1) := by decide +kernel
theorem dX3_fillCells_45 : decode cX3_fillCells 45 = .ok (.getfield 18, 3) := by decide +kernel
theorem dX3_fillCells_48 : decode cX3_fillCells 48 = .ok (.getfield 38, 3) := by decide +kernel
theorem dX3_fillCells_51 : decode cX3_fillCells 51 = .ok (.iconst 1, 1) := by decide +kernel
theorem dX3_fillCells_52 : decode cX3_fillCells 52 = .ok (.isub, 1) := by decide +kernel
theorem dX3_fillCells_53 : decode cX3_fillCells 53 = .ok (.istore 4, 2) := by decide +kernel
theorem dX3_fillCells_55 : decode cX3_fillCells 55 = .ok (.iload 4, 2) := by decide +kernel
theorem dX3_fillCells_57 : decode cX3_fillCells 57 = .ok (.iload_n 3, 1) := by decide +kernel
theorem dX3_fillCells_58 : decode cX3_fillCells 58 = .ok (.if_icmp .le 49, 3) := by decide +kernel
theorem dX3_fillCells_61 : decode cX3_fillCells 61 = .ok (.aload_n 0, 1) := by decide +kernel
theorem dX3_fillCells_62 : decode cX3_fillCells 62 = .ok (.iload 4, 2) := by decide +kernel
theorem dX3_fillCells_64 : decode cX3_fillCells 64 = .ok (.invokevirtual 43, 3) := by decide +kernel
theorem dX3_fillCells_67 : decode cX3_fillCells 67 = .ok (.ifCond .ne 34, 3) := by decide +kernel
theorem dX3_fillCells_70 : decode cX3_fillCells 70 = .ok (.aload_n 0, 1) := by decide +kernel
theorem dX3_fillCells_71 : decode cX3_fillCells 71 = .ok (.getfield 9, 3) := by decide +kernel
theorem dX3_fillCells_74 : decode cX3_fillCells 74 = .ok (.iload_n 3, 1) := by decide +kernel
theorem dX3_fillCells_75 : decode cX3_fillCells 75 = .ok (.bipush 6, 2) := by decide +kernel
theorem dX3_fillCells_77 : decode cX3_fillCells 77 = .ok (.imul, 1) := by decide +kernel
theorem dX3_fillCells_78 : decode cX3_fillCells 78 = .ok (.iload 4, 2) := by decide +kernel
theorem dX3_fillCells_80 : decode cX3_fillCells 80 = .ok (.iadd, 1) := by decide +kernel
theorem dX3_fillCells_81 : decode cX3_fillCells 81 = .ok (.iload_n 2, 1) := by decide +kernel
theorem dX3_fillCells_82 : decode cX3_fillCells 82 = .ok (.aload_n 0, 1) := by decide +kernel
theorem dX3_fillCells_83 : decode cX3_fillCells 83 = .ok (.getfield 18, 3) := by decide +kernel
theorem dX3_fillCells_86 : decode cX3_fillCells 86 = .ok (.getfield 55, 3) := by decide +kernel
theorem dX3_fillCells_89 : decode cX3_fillCells 89 = .ok (.irem, 1) := by decide +kernel
theorem dX3_fillCells_90 : decode cX3_fillCells 90 = .ok (.iastore, 1) := by decide +kernel
theorem dX3_fillCells_91 : decode cX3_fillCells 91 = .ok (.iload_n 2, 1) := by decide +kernel
theorem dX3_fillCells_92 : decode cX3_fillCells 92 = .ok (.aload_n 0, 1) := by decide +kernel
theorem dX3_fillCells_93 : decode cX3_fillCells 93 = .ok (.getfield 18, 3) := by decide +kernel
theorem dX3_fillCells_96 : decode cX3_fillCells 96 = .ok (.getfield 55, 3) := by decide +kernel
theorem dX3_fillCells_99 : decode cX3_fillCells 99 = .ok (.idiv, 1) := by decide +kernel
theorem dX3_fillCells_100 : decode cX3_fillCells 100 = .ok (.istore_n 2, 1) := by decide +kernel
theorem dX3_fillCells_101 : decode cX3_fillCells 101 = .ok (.iinc 4 (-1), 3) := by decide +kernel
theorem dX3_fillCells_104 : decode cX3_fillCells 104 = .ok (.goto (-49), 3) := by decide +kernel
theorem dX3_fillCells_107 : decode cX3_fillCells 107 = .ok (.iinc 3 (-1), 3) := by decide +kernel
theorem dX3_fillCells_110 : decode cX3_fillCells 110 = .ok (.goto (-90), 3) := by decide +kernel
theorem dX3_fillCells_113 : decode cX3_fillCells 113 = .ok (.return_, 1) := by decide +kernel
set_option maxRecDepth 20000 in
theorem ggX4_init_X0_init : GoodIn wsX4_init wsX0_init := goodIn_r _ [25, 26, 2, 3, 27, 28, 29, 6, 30, 31, 32, 33, 34, 35, 36, 37, 64, 65, 66] (by decide +kernel) (by decide +kernel)
set_option maxRecDepth 20000 in
theorem gX4_init_X0_init_n9 : GoodIn wsX4_init (wsX0_init) := ggX4_init_X0_init
set_option maxRecDepth 20000 in
theorem ggX4_init_X3_init : GoodIn wsX4_init wsX3_init := goodIn_r _ [39, 40, 2, 3, 22, 41, 42, 43, 76, 77, 78, 79] (by decide +kernel) (by decide +kernel)
set_option maxRecDepth 20000 in
theorem gX4_init_X3_init_n22 : GoodIn wsX4_init (wsX3_init) := ggX4_init_X3_init
set_option maxRecDepth 20000 in
theorem ggX4_init_X1_init : GoodIn wsX4_init wsX1_init := goodIn_r _ [45, 46, 2, 3, 47, 48, 10, 11, 49, 38, 39, 40, 22, 41, 42, 43, 80, 81, 82, 76, 77, 78, 79] (by decide +kernel) (by decide +kernel)
set_option maxRecDepth 20000 in
theorem gX4_init_X1_init_n27 : GoodIn wsX4_init (wsX1_init) := ggX4_init_X1_init
set_option maxRecDepth 20000 in
theorem ggX4_init_X2_init : GoodIn wsX4_init wsX2_init := goodIn_r _ [51, 52, 2, 3, 22, 53, 54, 55, 56, 57, 58, 18, 59, 60, 61, 62, 63, 83, 84, 85, 64, 65, 66] (by decide +kernel) (by decide +kernel)
set_option maxRecDepth 20000 in
theorem gX4_init_X2_init_n34 : GoodIn wsX4_init (wsX2_init) := ggX4_init_X2_init
theorem dX4_init_0 : decode cX4_init 0 = .ok (.aload_n 0, 1) := by decide +kernel
theorem dX4_init_1 : decode cX4_init 1 = .ok (.invokespecial 1, 3) := by decide +kernel
theorem dX4_init_4 : decode cX4_init 4 = .ok (.aload_n 0, 1) := by decide +kernel
theorem dX4_init_5 : decode cX4_init 5 = .ok (.new 7, 3) := by decide +kernel
theorem dX4_init_8 : decode cX4_init 8 = .ok (.dup, 1) := by decide +kernel
theorem dX4_init_9 : decode cX4_init 9 = .ok (.invokespecial 9, 3) := by decide +kernel
theorem dX4_init_12 : decode cX4_init 12 = .ok (.putfield 10, 3) := by decide +kernel
theorem dX4_init_15 : decode cX4_init 15 = .ok (.aload_n 0, 1) := by decide +kernel
theorem dX4_init_16 : decode cX4_init 16 = .ok (.bipush 12, 2) := by decide +kernel
theorem dX4_init_18 : decode cX4_init 18 = .ok (.anewarray 16, 3) := by decide +kernel
theorem dX4_init_21 : decode cX4_init 21 = .ok (.putfield 18, 3) := by decide +kernel
theorem dX4_init_24 : decode cX4_init 24 = .ok (.iconst 0, 1) := by decide +kernel
theorem dX4_init_25 : decode cX4_init 25 = .ok (.istore_n 1, 1) := by decide +kernel
theorem dX4_init_26 : decode cX4_init 26 = .ok (.iload_n 1, 1) := by decide +kernel
theorem dX4_init_27 : decode cX4_init 27 = .ok (.bipush 12, 2) := by decide +kernel
theorem dX4_init_29 : decode cX4_init 29 = .ok (.if_icmp .ge 26, 3) := by decide +kernel
theorem dX4_init_32 : decode cX4_init 32 = .ok (.aload_n 0, 1) := by decide +kernel
theorem dX4_init_33 : decode cX4_init 33 = .ok (.getfield 18, 3) := by decide +kernel
theorem dX4_init_36 : decode cX4_init 36 = .ok (.iload_n 1, 1) := by decide +kernel
theorem dX4_init_37 : decode cX4_init 37 = .ok (.new 16, 3) := by decide +kernel
theorem dX4_init_40 : decode cX4_init 40 = .ok (.dup, 1) := by decide +kernel
theorem dX4_init_41 : decode cX4_init 41 = .ok (.aload_n 0, 1) := by decide +kernel
theorem dX4_init_42 : decode cX4_init 42 = .ok (.getfield 10, 3) := by decide +kernel
theorem dX4_init_45 : decode cX4_init 45 = .ok (.invokespecial 22, 3) := by decide +kernel
theorem dX4_init_48 : decode cX4_init 48 = .ok (.aastore, 1) := by decide +kernel
theorem dX4_init_49 : decode cX4_init 49 = .ok (.iinc 1 1, 3) := by decide +kernel
theorem dX4_init_52 : decode cX4_init 52 = .ok (.goto (-26), 3) := by decide +kernel
theorem dX4_init_55 : decode cX4_init 55 = .ok (.aload_n 0, 1) := by decide +kernel
theorem dX4_init_56 : decode cX4_init 56 = .ok (.new 25, 3) := by decide +kernel
theorem dX4_init_59 : decode cX4_init 59 = .ok (.dup, 1) := by decide +kernel
theorem dX4_init_60 : decode cX4_init 60 = .ok (.aload_n 0, 1) := by decide +kernel
theorem dX4_init_61 : decode cX4_init 61 = .ok (.getfield 10, 3) := by decide +kernel
theorem dX4_init_64 : decode cX4_init 64 = .ok (.invokespecial 27, 3) := by decide +kernel
theorem dX4_init_67 : decode cX4_init 67 = .ok (.putfield 28, 3) := by decide +kernel
theorem dX4_init_70 : decode cX4_init 70 = .ok (.aload_n 0, 1) := by decide +kernel
theorem dX4_init_71 : decode cX4_init 71 = .ok (.new 32, 3) := by decide +kernel
theorem dX4_init_74 : decode cX4_init 74 = .ok (.dup, 1) := by decide +kernel
theorem dX4_init_75 : decode cX4_init 75 = .ok (.aload_n 0, 1) := by decide +kernel
theorem dX4_init_76 : decode cX4_init 76 = .ok (.getfield 10, 3) := by decide +kernel
theorem dX4_init_79 : decode cX4_init 79 = .ok (.invokespecial 34, 3) := by decide +kernel
theorem dX4_init_82 : decode cX4_init 82 = .ok (.putfield 35, 3) := by decide +kernel
theorem dX4_init_85 : decode cX4_init 85 = .ok (.aload_n 0, 1) := by decide +kernel
theorem dX4_init_86 : decode cX4_init 86 = .ok (.new 16, 3) := by decide +kernel
theorem dX4_init_89 : decode cX4_init 89 = .ok (.dup, 1) := by decide +kernel
theorem dX4_init_90 : decode cX4_init 90 = .ok (.aload_n 0, 1) := by decide +kernel
theorem dX4_init_91 : decode cX4_init 91 = .ok (.getfield 10, 3) := by decide +kernel
theorem dX4_init_94 : decode cX4_init 94 = .ok (.invokespecial 22, 3) := by decide +kernel
theorem dX4_init_97 : decode cX4_init 97 = .ok (.putfield 39, 3) := by decide +kernel
theorem dX4_init_100 : decode cX4_init 100 = .ok (.aload_n 0, 1) := by decide +kernel
theorem dX4_init_101 : decode cX4_init 101 = .ok (.new 16, 3) := by decide +kernel
theorem dX4_init_104 : decode cX4_init 104 = .ok (.dup, 1) := by decide +kernel
theorem dX4_init_105 : decode cX4_init 105 = .ok (.aload_n 0, 1) := by decide +kernel
theorem dX4_init_106 : decode cX4_init 106 = .ok (.getfield 10, 3) := by decide +kernel
theorem dX4_init_109 : decode cX4_init 109 = .ok (.invokespecial 22, 3) := by decide +kernel
theorem dX4_init_112 : decode cX4_init 112 = .ok (.putfield 43, 3) := by decide +kernel
theorem dX4_init_115 : decode cX4_init 115 = .ok (.aload_n 0, 1) := by decide +kernel
theorem dX4_init_116 : decode cX4_init 116 = .ok (.bipush 6, 2) := by decide +kernel
theorem dX4_init_118 : decode cX4_init 118 = .ok (.newarray .int, 2) := by decide +kernel
theorem dX4_init_120 : decode cX4_init 120 = .ok (.putfield 46, 3) := by decide +kernel
theorem dX4_init_123 : decode cX4_init 123 = .ok (.return_, 1) := by decide +kernel
set_option maxRecDepth 20000 in
theorem ggX4_field_X4_mostPlaces : GoodIn wsX4_field wsX4_mostPlaces := goodIn_r _ [8] (by decide +kernel) (by decide +kernel)
set_option maxRecDepth 20000 in
theorem gX4_field_X4_mostPlaces : GoodIn wsX4_field (va_wsS RX4 50 yX4_mostPlaces wsX4_mostPlaces) := goodIn_app (goodIn_of _ (by decide +kernel)) ggX4_field_X4_mostPlaces
set_option maxRecDepth 20000 in
theorem ggX4_field_X0_become : GoodIn wsX4_field wsX0_become := goodIn_r _ [12, 13, 14, 15, 16, 17, 18, 10, 19, 47, 48, 49] (by decide +kernel) (by decide +kernel)
set_option maxRecDepth 20000 in
theorem gX4_field_X0_become_n54 : GoodIn wsX4_field (wsX0_become) := ggX4_field_X0_become
set_option maxRecDepth 20000 in
theorem ggX4_field_X3_becomeZero : GoodIn wsX4_field wsX3_becomeZero := goodIn_r _ [23, 24, 50, 51, 52, 53] (by decide +kernel) (by decide +kernel)
set_option maxRecDepth 20000 in
theorem gX4_field_X3_becomeZero_n58 : GoodIn wsX4_field (wsX3_becomeZero) := ggX4_field_X3_becomeZero
set_option maxRecDepth 20000 in
theorem ggX4_field_X2_becomeIdentity : GoodIn wsX4_field wsX2_becomeIdentity := goodIn_r _ [28, 29, 30, 31, 32, 33, 34, 54, 55, 56, 47, 48, 49] (by decide +kernel) (by decide +kernel)
set_option maxRecDepth 20000 in
theorem gX4_field_X2_becomeIdentity_n65 : GoodIn wsX4_field (wsX2_becomeIdentity) := ggX4_field_X2_becomeIdentity
theorem dX4_field_0 : decode cX4_field 0 = .ok (.iload_n 2, 1) := by decide +kernel
theorem dX4_field_1 : decode cX4_field 1 = .ok (.iconst 1, 1) := by decide +kernel
theorem dX4_field_2 : decode cX4_field 2 = .ok (.if_icmp .lt 11, 3) := by decide +kernel
theorem dX4_field_5 : decode cX4_field 5 = .ok (.iload_n 2, 1) := by decide +kernel
theorem dX4_field_6 : decode cX4_field 6 = .ok (.iload_n 1, 1) := by decide +kernel
theorem dX4_field_7 : decode cX4_field 7 = .ok (.invokestatic 50, 3) := by decide +kernel
theorem dX4_field_10 : decode cX4_field 10 = .ok (.if_icmp .le 6, 3) := by decide +kernel
theorem dX4_field_13 : decode cX4_field 13 = .ok (.bipush (-102), 2) := by decide +kernel
theorem dX4_field_15 : decode cX4_field 15 = .ok (.ireturn, 1) := by decide +kernel
theorem dX4_field_16 : decode cX4_field 16 = .ok (.aload_n 0, 1) := by decide +kernel
theorem dX4_field_17 : decode cX4_field 17 = .ok (.getfield 10, 3) := by decide +kernel
theorem dX4_field_20 : decode cX4_field 20 = .ok (.iload_n 1, 1) := by decide +kernel
theorem dX4_field_21 : decode cX4_field 21 = .ok (.iload_n 2, 1) := by decide +kernel
theorem dX4_field_22 : decode cX4_field 22 = .ok (.invokevirtual 54, 3) := by decide +kernel
theorem dX4_field_25 : decode cX4_field 25 = .ok (.iconst 0, 1) := by decide +kernel
theorem dX4_field_26 : decode cX4_field 26 = .ok (.istore_n 3, 1) := by decide +kernel
theorem dX4_field_27 : decode cX4_field 27 = .ok (.iload_n 3, 1) := by decide +kernel
theorem dX4_field_28 : decode cX4_field 28 = .ok (.bipush 12, 2) := by decide +kernel
theorem dX4_field_30 : decode cX4_field 30 = .ok (.if_icmp .ge 18, 3) := by decide +kernel
theorem dX4_field_33 : decode cX4_field 33 = .ok (.aload_n 0, 1) := by decide +kernel
theorem dX4_field_34 : decode cX4_field 34 = .ok (.getfield 18, 3) := by decide +kernel
theorem dX4_field_37 : decode cX4_field 37 = .ok (.iload_n 3, 1) := by decide +kernel
theorem dX4_field_38 : decode cX4_field 38 = .ok (.aaload, 1) := by decide +kernel
theorem dX4_field_39 : decode cX4_field 39 = .ok (.invokevirtual 58, 3) := by decide +kernel
theorem dX4_field_42 : decode cX4_field 42 = .ok (.iinc 3 1, 3) := by decide +kernel
theorem dX4_field_45 : decode cX4_field 45 = .ok (.goto (-18), 3) := by decide +kernel
theorem dX4_field_48 : decode cX4_field 48 = .ok (.aload_n 0, 1) := by decide +kernel
theorem dX4_field_49 : decode cX4_field 49 = .ok (.getfield 28, 3) := by decide +kernel
theorem dX4_field_52 : decode cX4_field 52 = .ok (.iconst 0, 1) := by decide +kernel
theorem dX4_field_53 : decode cX4_field 53 = .ok (.putfield 61, 3) := by decide +kernel
theorem dX4_field_56 : decode cX4_field 56 = .ok (.aload_n 0, 1) := by decide +kernel
theorem dX4_field_57 : decode cX4_field 57 = .ok (.getfield 35, 3) := by decide +kernel
theorem dX4_field_60 : decode cX4_field 60 = .ok (.invokevirtual 65, 3) := by decide +kernel
theorem dX4_field_63 : decode cX4_field 63 = .ok (.aload_n 0, 1) := by decide +kernel
theorem dX4_field_64 : decode cX4_field 64 = .ok (.getfield 10, 3) := by decide +kernel
theorem dX4_field_67 : decode cX4_field 67 = .ok (.getfield 68, 3) := by decide +kernel
theorem dX4_field_70 : decode cX4_field 70 = .ok (.ireturn, 1) := by decide +kernel
set_option maxRecDepth 20000 in
theorem ggX4_plus_X0_isVector : GoodIn wsX4_plus wsX0_isVector := goodIn_r _ [5, 6, 21, 22, 23] (by decide +kernel) (by decide +kernel)
set_option maxRecDepth 20000 in
theorem gX4_plus_X0_isVector_n71 : GoodIn wsX4_plus (wsX0_isVector) := ggX4_plus_X0_isVector
set_option maxRecDepth 20000 in
theorem ggX4_plus_X0_sum : GoodIn wsX4_plus wsX0_sum := goodIn_r _ [9, 10, 11, 21, 22, 23] (by decide +kernel) (by decide +kernel)
set_option maxRecDepth 20000 in
theorem gX4_plus_X0_sum_n78 : GoodIn wsX4_plus (wsX0_sum) := ggX4_plus_X0_sum
theorem dX4_plus_0 : decode cX4_plus 0 = .ok (.aload_n 0, 1) := by decide +kernel
theorem dX4_plus_1 : decode cX4_plus 1 = .ok (.getfield 10, 3) := by decide +kernel
theorem dX4_plus_4 : decode cX4_plus 4 = .ok (.iload_n 1, 1) := by decide +kernel
theorem dX4_plus_5 : decode cX4_plus 5 = .ok (.invokevirtual 71, 3) := by decide +kernel
theorem dX4_plus_8 : decode cX4_plus 8 = .ok (.ifCond .eq 14, 3) := by decide +kernel
theorem dX4_plus_11 : decode cX4_plus 11 = .ok (.aload_n 0, 1) := by decide +kernel
theorem dX4_plus_12 : decode cX4_plus 12 = .ok (.getfield 10, 3) := by decide +kernel
theorem dX4_plus_15 : decode cX4_plus 15 = .ok (.iload_n 2, 1) := by decide +kernel
theorem dX4_plus_16 : decode cX4_plus 16 = .ok (.invokevirtual 71, 3) := by decide +kernel
theorem dX4_plus_19 : decode cX4_plus 19 = .ok (.ifCond .ne 6, 3) := by decide +kernel
theorem dX4_plus_22 : decode cX4_plus 22 = .ok (.bipush (-101), 2) := by decide +kernel
theorem dX4_plus_24 : decode cX4_plus 24 = .ok (.ireturn, 1) := by decide +kernel
theorem dX4_plus_25 : decode cX4_plus 25 = .ok (.iload_n 3, 1) := by decide +kernel
theorem dX4_plus_26 : decode cX4_plus 26 = .ok (.ifCond .lt 14, 3) := by decide +kernel
theorem dX4_plus_29 : decode cX4_plus 29 = .ok (.iload_n 3, 1) := by decide +kernel
theorem dX4_plus_30 : decode cX4_plus 30 = .ok (.aload_n 0, 1) := by decide +kernel
theorem dX4_plus_31 : decode cX4_plus 31 = .ok (.getfield 10, 3) := by decide +kernel
theorem dX4_plus_34 : decode cX4_plus 34 = .ok (.getfield 75, 3) := by decide +kernel
theorem dX4_plus_37 : decode cX4_plus 37 = .ok (.if_icmp .lt 6, 3) := by decide +kernel
theorem dX4_plus_40 : decode cX4_plus 40 = .ok (.bipush (-102), 2) := by decide +kernel
theorem dX4_plus_42 : decode cX4_plus 42 = .ok (.ireturn, 1) := by decide +kernel
theorem dX4_plus_43 : decode cX4_plus 43 = .ok (.aload_n 0, 1) := by decide +kernel
theorem dX4_plus_44 : decode cX4_plus 44 = .ok (.getfield 10, 3) := by decide +kernel
theorem dX4_plus_47 : decode cX4_plus 47 = .ok (.iload_n 1, 1) := by decide +kernel
theorem dX4_plus_48 : decode cX4_plus 48 = .ok (.iload_n 2, 1) := by decide +kernel
theorem dX4_plus_49 : decode cX4_plus 49 = .ok (.iload_n 3, 1) := by decide +kernel
theorem dX4_plus_50 : decode cX4_plus 50 = .ok (.invokevirtual 78, 3) := by decide +kernel
theorem dX4_plus_53 : decode cX4_plus 53 = .ok (.ireturn, 1) := by decide +kernel
set_option maxRecDepth 20000 in
theorem ggX4_times_X0_isVector : GoodIn wsX4_times wsX0_isVector := goodIn_r _ [5, 6, 21, 22, 23] (by decide +kernel) (by decide +kernel)
set_option maxRecDepth 20000 in
theorem gX4_times_X0_isVector_n71 : GoodIn wsX4_times (wsX0_isVector) := ggX4_times_X0_isVector
set_option maxRecDepth 20000 in
theorem ggX4_times_X0_product : GoodIn wsX4_times wsX0_product := goodIn_r _ [9, 10, 11, 21, 22, 23] (by decide +kernel) (by decide +kernel)
set_option maxRecDepth 20000 in
theorem gX4_times_X0_product_n82 : GoodIn wsX4_times (wsX0_product) := ggX4_times_X0_product
theorem dX4_times_0 : decode cX4_times 0 = .ok (.aload_n 0, 1) := by decide +kernel
theorem dX4_times_1 : decode cX4_times 1 = .ok (.getfield 10, 3) := by decide +kernel
theorem dX4_times_4 : decode cX4_times 4 = .ok (.iload_n 1, 1) := by decide +kernel
theorem dX4_times_5 : decode cX4_times 5 = .ok (.invokevirtual 71, 3) := by decide +kernel
theorem dX4_times_8 : decode cX4_times 8 = .ok (.ifCond .eq 14, 3) := by decide +kernel
theorem dX4_times_11 : decode cX4_times 11 = .ok (.aload_n 0, 1) := by decide +kernel
theorem dX4_times_12 : decode cX4_times 12 = .ok (.getfield 10, 3) := by decide +kernel
theorem dX4_times_15 : decode cX4_times 15 = .ok (.iload_n 2, 1) := by decide +kernel
theorem dX4_times_16 : decode cX4_times 16 = .ok (.invokevirtual 71, 3) := by decide +kernel
theorem dX4_times_19 : decode cX4_times 19 = .ok (.ifCond .ne 6, 3) := by decide +kernel
theorem dX4_times_22 : decode cX4_times 22 = .ok (.bipush (-101), 2) := by decide +kernel
theorem dX4_times_24 : decode cX4_times 24 = .ok (.ireturn, 1) := by decide +kernel
theorem dX4_times_25 : decode cX4_times 25 = .ok (.aload_n 0, 1) := by decide +kernel
theorem dX4_times_26 : decode cX4_times 26 = .ok (.getfield 10, 3) := by decide +kernel
theorem dX4_times_29 : decode cX4_times 29 = .ok (.iload_n 1, 1) := by decide +kernel
theorem dX4_times_30 : decode cX4_times 30 = .ok (.iload_n 2, 1) := by decide +kernel
theorem dX4_times_31 : decode cX4_times 31 = .ok (.invokevirtual 82, 3) := by decide +kernel
theorem dX4_times_34 : decode cX4_times 34 = .ok (.ireturn, 1) := by decide +kernel
set_option maxRecDepth 20000 in
theorem ggX4_add_X4_isSlot : GoodIn wsX4_add wsX4_isSlot := goodIn_r _ [7] (by decide +kernel) (by decide +kernel)
set_option maxRecDepth 20000 in
theorem gX4_add_X4_isSlot : GoodIn wsX4_add (va_wsS RX4 86 yX4_isSlot wsX4_isSlot) := goodIn_app (goodIn_of _ (by decide +kernel)) ggX4_add_X4_isSlot
set_option maxRecDepth 20000 in
theorem ggX4_add_X0_isVector : GoodIn wsX4_add wsX0_isVector := goodIn_r _ [11, 12, 71, 72, 73] (by decide +kernel) (by decide +kernel)
set_option maxRecDepth 20000 in
theorem gX4_add_X0_isVector_n71 : GoodIn wsX4_add (wsX0_isVector) := ggX4_add_X0_isVector
set_option maxRecDepth 20000 in
theorem ggX4_add_X0_spell : GoodIn wsX4_add wsX0_spell := goodIn_r _ [15, 16, 17, 71, 72, 73] (by decide +kernel) (by decide +kernel)
set_option maxRecDepth 20000 in
theorem gX4_add_X0_spell_n89 : GoodIn wsX4_add (wsX0_spell) := ggX4_add_X0_spell
set_option maxRecDepth 20000 in
theorem ggX4_add_X3_joinVector : GoodIn wsX4_add wsX3_joinVector := goodIn_r _ [21, 22, 23, 24, 25, 26, 27, 28, 29, 30, 19, 31, 32, 33, 34, 35, 36, 37, 38, 39, 40, 41, 42, 9, 43, 44, 16, 17, 45, 46, 47, 48, 49, 50, 51, 74, 75, 76, 77, 71, 72, 73] (by decide +kernel) (by decide +kernel)
set_option maxRecDepth 20000 in
theorem gX4_add_X3_joinVector_n93 : GoodIn wsX4_add (wsX3_joinVector) := ggX4_add_X3_joinVector
set_option maxRecDepth 20000 in
theorem ggX4_add_X3_rank : GoodIn wsX4_add wsX3_rank := goodIn_r _ [54, 41, 55, 56, 57, 58, 59, 60, 61, 74, 75, 76, 77] (by decide +kernel) (by decide +kernel)
set_option maxRecDepth 20000 in
theorem gX4_add_X3_rank_n97 : GoodIn wsX4_add (wsX3_rank) := ggX4_add_X3_rank
theorem dX4_add_0 : decode cX4_add 0 = .ok (.iload_n 1, 1) := by decide +kernel
theorem dX4_add_1 : decode cX4_add 1 = .ok (.invokestatic 86, 3) := by decide +kernel
theorem dX4_add_4 : decode cX4_add 4 = .ok (.ifCond .eq 14, 3) := by decide +kernel
theorem dX4_add_7 : decode cX4_add 7 = .ok (.aload_n 0, 1) := by decide +kernel
theorem dX4_add_8 : decode cX4_add 8 = .ok (.getfield 10, 3) := by decide +kernel
theorem dX4_add_11 : decode cX4_add 11 = .ok (.iload_n 2, 1) := by decide +kernel
theorem dX4_add_12 : decode cX4_add 12 = .ok (.invokevirtual 71, 3) := by decide +kernel
theorem dX4_add_15 : decode cX4_add 15 = .ok (.ifCond .ne 6, 3) := by decide +kernel
theorem dX4_add_18 : decode cX4_add 18 = .ok (.bipush (-101), 2) := by decide +kernel
theorem dX4_add_20 : decode cX4_add 20 = .ok (.ireturn, 1) := by decide +kernel
theorem dX4_add_21 : decode cX4_add 21 = .ok (.aload_n 0, 1) := by decide +kernel
theorem dX4_add_22 : decode cX4_add 22 = .ok (.getfield 10, 3) := by decide +kernel
theorem dX4_add_25 : decode cX4_add 25 = .ok (.iload_n 2, 1) := by decide +kernel
theorem dX4_add_26 : decode cX4_add 26 = .ok (.aload_n 0, 1) := by decide +kernel
theorem dX4_add_27 : decode cX4_add 27 = .ok (.getfield 46, 3) := by decide +kernel
theorem dX4_add_30 : decode cX4_add 30 = .ok (.iconst 0, 1) := by decide +kernel
theorem dX4_add_31 : decode cX4_add 31 = .ok (.invokevirtual 89, 3) := by decide +kernel
theorem dX4_add_34 : decode cX4_add 34 = .ok (.aload_n 0, 1) := by decide +kernel
theorem dX4_add_35 : decode cX4_add 35 = .ok (.getfield 18, 3) := by decide +kernel
theorem dX4_add_38 : decode cX4_add 38 = .ok (.iload_n 1, 1) := by decide +kernel
theorem dX4_add_39 : decode cX4_add 39 = .ok (.aaload, 1) := by decide +kernel
theorem dX4_add_40 : decode cX4_add 40 = .ok (.aload_n 0, 1) := by decide +kernel
theorem dX4_add_41 : decode cX4_add 41 = .ok (.getfield 46, 3) := by decide +kernel
theorem dX4_add_44 : decode cX4_add 44 = .ok (.iconst 0, 1) := by decide +kernel
theorem dX4_add_45 : decode cX4_add 45 = .ok (.invokevirtual 93, 3) := by decide +kernel
theorem dX4_add_48 : decode cX4_add 48 = .ok (.aload_n 0, 1) := by decide +kernel
theorem dX4_add_49 : decode cX4_add 49 = .ok (.getfield 18, 3) := by decide +kernel
theorem dX4_add_52 : decode cX4_add 52 = .ok (.iload_n 1, 1) := by decide +kernel
theorem dX4_add_53 : decode cX4_add 53 = .ok (.aaload, 1) := by decide +kernel
theorem dX4_add_54 : decode cX4_add 54 = .ok (.invokevirtual 97, 3) := by decide +kernel
theorem dX4_add_57 : decode cX4_add 57 = .ok (.ireturn, 1) := by decide +kernel
set_option maxRecDepth 20000 in
theorem ggX4_clear_X4_isSlot : GoodIn wsX4_clear wsX4_isSlot := goodIn_r _ [5] (by decide +kernel) (by decide +kernel)
set_option maxRecDepth 20000 in
theorem gX4_clear_X4_isSlot : GoodIn wsX4_clear (va_wsS RX4 86 yX4_isSlot wsX4_isSlot) := goodIn_app (goodIn_of _ (by decide +kernel)) ggX4_clear_X4_isSlot
set_option maxRecDepth 20000 in
theorem ggX4_clear_X3_rank : GoodIn wsX4_clear wsX3_rank := goodIn_r _ [9, 10, 11, 12, 13, 14, 15, 16, 17, 30, 31, 32, 33] (by decide +kernel) (by decide +kernel)
set_option maxRecDepth 20000 in
theorem gX4_clear_X3_rank_n97 : GoodIn wsX4_clear (wsX3_rank) := ggX4_clear_X3_rank
set_option maxRecDepth 20000 in
theorem ggX4_clear_X3_becomeZero : GoodIn wsX4_clear wsX3_becomeZero := goodIn_r _ [20, 10, 30, 31, 32, 33] (by decide +kernel) (by decide +kernel)
set_option maxRecDepth 20000 in
theorem gX4_clear_X3_becomeZero_n58 : GoodIn wsX4_clear (wsX3_becomeZero) := ggX4_clear_X3_becomeZero
theorem dX4_clear_0 : decode cX4_clear 0 = .ok (.iload_n 1, 1) := by decide +kernel
theorem dX4_clear_1 : decode cX4_clear 1 = .ok (.invokestatic 86, 3) := by decide +kernel
theorem dX4_clear_4 : decode cX4_clear 4 = .ok (.ifCond .ne 6, 3) := by decide +kernel
theorem dX4_clear_7 : decode cX4_clear 7 = .ok (.bipush (-101), 2) := by decide +kernel
theorem dX4_clear_9 : decode cX4_clear 9 = .ok (.ireturn, 1) := by decide +kernel
theorem dX4_clear_10 : decode cX4_clear 10 = .ok (.aload_n 0, 1) := by decide +kernel
theorem dX4_clear_11 : decode cX4_clear 11 = .ok (.getfield 18, 3) := by decide +kernel
theorem dX4_clear_14 : decode cX4_clear 14 = .ok (.iload_n 1, 1) := by decide +kernel
theorem dX4_clear_15 : decode cX4_clear 15 = .ok (.aaload, 1) := by decide +kernel
theorem dX4_clear_16 : decode cX4_clear 16 = .ok (.invokevirtual 97, 3) := by decide +kernel
theorem dX4_clear_19 : decode cX4_clear 19 = .ok (.istore_n 2, 1) := by decide +kernel
theorem dX4_clear_20 : decode cX4_clear 20 = .ok (.aload_n 0, 1) := by decide +kernel
theorem dX4_clear_21 : decode cX4_clear 21 = .ok (.getfield 18, 3) := by decide +kernel
theorem dX4_clear_24 : decode cX4_clear 24 = .ok (.iload_n 1, 1) := by decide +kernel
theorem dX4_clear_25 : decode cX4_clear 25 = .ok (.aaload, 1) := by decide +kernel
theorem dX4_clear_26 : decode cX4_clear 26 = .ok (.invokevirtual 58, 3) := by decide +kernel
theorem dX4_clear_29 : decode cX4_clear 29 = .ok (.iload_n 2, 1) := by decide +kernel
theorem dX4_clear_30 : decode cX4_clear 30 = .ok (.ireturn, 1) := by decide +kernel
set_option maxRecDepth 20000 in
theorem ggX4_dim_X4_isSlot : GoodIn wsX4_dim wsX4_isSlot := goodIn_r _ [5] (by decide +kernel) (by decide +kernel)
set_option maxRecDepth 20000 in
theorem gX4_dim_X4_isSlot : GoodIn wsX4_dim (va_wsS RX4 86 yX4_isSlot wsX4_isSlot) := goodIn_app (goodIn_of _ (by decide +kernel)) ggX4_dim_X4_isSlot
set_option maxRecDepth 20000 in
theorem ggX4_dim_X3_rank : GoodIn wsX4_dim wsX3_rank := goodIn_r _ [9, 10, 11, 12, 13, 14, 15, 16, 17, 27, 28, 29, 30] (by decide +kernel) (by decide +kernel)
set_option maxRecDepth 20000 in
theorem gX4_dim_X3_rank_n97 : GoodIn wsX4_dim (wsX3_rank) := ggX4_dim_X3_rank
theorem dX4_dim_0 : decode cX4_dim 0 = .ok (.iload_n 1, 1) := by decide +kernel
theorem dX4_dim_1 : decode cX4_dim 1 = .ok (.invokestatic 86, 3) := by decide +kernel
theorem dX4_dim_4 : decode cX4_dim 4 = .ok (.ifCond .eq 15, 3) := by decide +kernel
theorem dX4_dim_7 : decode cX4_dim 7 = .ok (.aload_n 0, 1) := by decide +kernel
theorem dX4_dim_8 : decode cX4_dim 8 = .ok (.getfield 18, 3) := by decide +kernel
theorem dX4_dim_11 : decode cX4_dim 11 = .ok (.iload_n 1, 1) := by decide +kernel
theorem dX4_dim_12 : decode cX4_dim 12 = .ok (.aaload, 1) := by decide +kernel
theorem dX4_dim_13 : decode cX4_dim 13 = .ok (.invokevirtual 97, 3) := by decide +kernel
theorem dX4_dim_16 : decode cX4_dim 16 = .ok (.goto 5, 3) := by decide +kernel
theorem dX4_dim_19 : decode cX4_dim 19 = .ok (.bipush (-101), 2) := by decide +kernel
theorem dX4_dim_21 : decode cX4_dim 21 = .ok (.ireturn, 1) := by decide +kernel
set_option maxRecDepth 20000 in
theorem ggX4_row_X4_isSlot : GoodIn wsX4_row wsX4_isSlot := goodIn_r _ [5] (by decide +kernel) (by decide +kernel)
set_option maxRecDepth 20000 in
theorem gX4_row_X4_isSlot : GoodIn wsX4_row (va_wsS RX4 86 yX4_isSlot wsX4_isSlot) := goodIn_app (goodIn_of _ (by decide +kernel)) ggX4_row_X4_isSlot
set_option maxRecDepth 20000 in
theorem ggX4_row_X3_rowNumber : GoodIn wsX4_row wsX3_rowNumber := goodIn_r _ [9, 10, 11, 12, 13, 14, 7, 15, 16, 17, 18, 19, 20, 21, 22, 32, 33, 34, 35, 36, 37, 38] (by decide +kernel) (by decide +kernel)
set_option maxRecDepth 20000 in
theorem gX4_row_X3_rowNumber_n101 : GoodIn wsX4_row (wsX3_rowNumber) := ggX4_row_X3_rowNumber
theorem dX4_row_0 : decode cX4_row 0 = .ok (.iload_n 1, 1) := by decide +kernel
theorem dX4_row_1 : decode cX4_row 1 = .ok (.invokestatic 86, 3) := by decide +kernel
theorem dX4_row_4 : decode cX4_row 4 = .ok (.ifCond .eq 16, 3) := by decide +kernel
theorem dX4_row_7 : decode cX4_row 7 = .ok (.aload_n 0, 1) := by decide +kernel
theorem dX4_row_8 : decode cX4_row 8 = .ok (.getfield 18, 3) := by decide +kernel
theorem dX4_row_11 : decode cX4_row 11 = .ok (.iload_n 1, 1) := by decide +kernel
theorem dX4_row_12 : decode cX4_row 12 = .ok (.aaload, 1) := by decide +kernel
theorem dX4_row_13 : decode cX4_row 13 = .ok (.iload_n 2, 1) := by decide +kernel
theorem dX4_row_14 : decode cX4_row 14 = .ok (.invokevirtual 101, 3) := by decide +kernel
theorem dX4_row_17 : decode cX4_row 17 = .ok (.goto 5, 3) := by decide +kernel
theorem dX4_row_20 : decode cX4_row 20 = .ok (.bipush (-101), 2) := by decide +kernel
theorem dX4_row_22 : decode cX4_row 22 = .ok (.ireturn, 1) := by decide +kernel
set_option maxRecDepth 20000 in
theorem ggX4_join_X4_isSlot : GoodIn wsX4_join wsX4_isSlot := goodIn_r _ [6] (by decide +kernel) (by decide +kernel)
set_option maxRecDepth 20000 in
theorem gX4_join_X4_isSlot : GoodIn wsX4_join (va_wsS RX4 86 yX4_isSlot wsX4_isSlot) := goodIn_app (goodIn_of _ (by decide +kernel)) ggX4_join_X4_isSlot
set_option maxRecDepth 20000 in
theorem ggX4_join_X3_copyFrom : GoodIn wsX4_join wsX3_copyFrom := goodIn_r _ [10, 11, 12, 13, 14, 15, 16, 70, 71, 72, 73] (by decide +kernel) (by decide +kernel)
set_option maxRecDepth 20000 in
theorem gX4_join_X3_copyFrom_n104 : GoodIn wsX4_join (wsX3_copyFrom) := ggX4_join_X3_copyFrom
set_option maxRecDepth 20000 in
theorem ggX4_join_X3_joinSpace : GoodIn wsX4_join wsX3_joinSpace := goodIn_r _ [19, 20, 12, 21, 13, 14, 15, 16, 22, 23, 24, 8, 25, 11, 26, 27, 28, 29, 30, 31, 32, 33, 34, 35, 36, 37, 38, 39, 40, 41, 42, 43, 44, 45, 46, 70, 71, 72, 73, 74, 75, 76] (by decide +kernel) (by decide +kernel)
set_option maxRecDepth 20000 in
theorem gX4_join_X3_joinSpace_n108 : GoodIn wsX4_join (wsX3_joinSpace) := ggX4_join_X3_joinSpace
set_option maxRecDepth 20000 in
theorem ggX4_join_X4_settle : GoodIn wsX4_join wsX4_settle := goodIn_r _ [50, 2, 7, 8, 9, 10, 11, 12, 13, 14, 15, 16, 51, 52, 53, 54, 55, 56, 57, 58, 59, 60, 61, 62, 63, 64, 65, 66, 67, 68, 69, 70, 71, 72, 73] (by decide +kernel) (by decide +kernel)
set_option maxRecDepth 20000 in
theorem gX4_join_X4_settle : GoodIn wsX4_join (wsV RX4 111 RX4 yX4_settle wsX4_settle) := goodIn_app (goodIn_of _ (by decide +kernel)) ggX4_join_X4_settle
theorem dX4_join_0 : decode cX4_join 0 = .ok (.iload_n 1, 1) := by decide +kernel
theorem dX4_join_1 : decode cX4_join 1 = .ok (.invokestatic 86, 3) := by decide +kernel
theorem dX4_join_4 : decode cX4_join 4 = .ok (.ifCond .eq 17, 3) := by decide +kernel
theorem dX4_join_7 : decode cX4_join 7 = .ok (.iload_n 2, 1) := by decide +kernel
theorem dX4_join_8 : decode cX4_join 8 = .ok (.invokestatic 86, 3) := by decide +kernel
theorem dX4_join_11 : decode cX4_join 11 = .ok (.ifCond .eq 10, 3) := by decide +kernel
theorem dX4_join_14 : decode cX4_join 14 = .ok (.iload_n 3, 1) := by decide +kernel
theorem dX4_join_15 : decode cX4_join 15 = .ok (.invokestatic 86, 3) := by decide +kernel
theorem dX4_join_18 : decode cX4_join 18 = .ok (.ifCond .ne 6, 3) := by decide +kernel
theorem dX4_join_21 : decode cX4_join 21 = .ok (.bipush (-101), 2) := by decide +kernel
theorem dX4_join_23 : decode cX4_join 23 = .ok (.ireturn, 1) := by decide +kernel
theorem dX4_join_24 : decode cX4_join 24 = .ok (.aload_n 0, 1) := by decide +kernel
theorem dX4_join_25 : decode cX4_join 25 = .ok (.getfield 39, 3) := by decide +kernel
theorem dX4_join_28 : decode cX4_join 28 = .ok (.aload_n 0, 1) := by decide +kernel
theorem dX4_join_29 : decode cX4_join 29 = .ok (.getfield 18, 3) := by decide +kernel
theorem dX4_join_32 : decode cX4_join 32 = .ok (.iload_n 1, 1) := by decide +kernel
theorem dX4_join_33 : decode cX4_join 33 = .ok (.aaload, 1) := by decide +kernel
theorem dX4_join_34 : decode cX4_join 34 = .ok (.invokevirtual 104, 3) := by decide +kernel
theorem dX4_join_37 : decode cX4_join 37 = .ok (.aload_n 0, 1) := by decide +kernel
theorem dX4_join_38 : decode cX4_join 38 = .ok (.getfield 39, 3) := by decide +kernel
theorem dX4_join_41 : decode cX4_join 41 = .ok (.aload_n 0, 1) := by decide +kernel
theorem dX4_join_42 : decode cX4_join 42 = .ok (.getfield 18, 3) := by decide +kernel
theorem dX4_join_45 : decode cX4_join 45 = .ok (.iload_n 2, 1) := by decide +kernel
theorem dX4_join_46 : decode cX4_join 46 = .ok (.aaload, 1) := by decide +kernel
theorem dX4_join_47 : decode cX4_join 47 = .ok (.invokevirtual 108, 3) := by decide +kernel
theorem dX4_join_50 : decode cX4_join 50 = .ok (.aload_n 0, 1) := by decide +kernel
theorem dX4_join_51 : decode cX4_join 51 = .ok (.aload_n 0, 1) := by decide +kernel
theorem dX4_join_52 : decode cX4_join 52 = .ok (.getfield 39, 3) := by decide +kernel
theorem dX4_join_55 : decode cX4_join 55 = .ok (.iload_n 3, 1) := by decide +kernel
theorem dX4_join_56 : decode cX4_join 56 = .ok (.invokevirtual 111, 3) := by decide +kernel
theorem dX4_join_59 : decode cX4_join 59 = .ok (.ireturn, 1) := by decide +kernel
set_option maxRecDepth 20000 in
theorem ggX4_meet_X4_isSlot : GoodIn wsX4_meet wsX4_isSlot := goodIn_r _ [7] (by decide +kernel) (by decide +kernel)
set_option maxRecDepth 20000 in
theorem gX4_meet_X4_isSlot : GoodIn wsX4_meet (va_wsS RX4 86 yX4_isSlot wsX4_isSlot) := goodIn_app (goodIn_of _ (by decide +kernel)) ggX4_meet_X4_isSlot
set_option maxRecDepth 20000 in
theorem ggX4_meet_X3_becomeDual : GoodIn wsX4_meet wsX3_becomeDual := goodIn_r _ [11, 12, 13, 14, 15, 16, 17, 9, 18, 19, 20, 21, 22, 23, 24, 25, 26, 27, 28, 29, 30, 31, 32, 33, 34, 35, 36, 37, 38, 39, 40, 41, 42, 43, 44, 45, 46, 47, 48, 82, 83, 84, 85, 86, 87, 88] (by decide +kernel) (by decide +kernel)
set_option maxRecDepth 20000 in
theorem gX4_meet_X3_becomeDual_n115 : GoodIn wsX4_meet (wsX3_becomeDual) := ggX4_meet_X3_becomeDual
set_option maxRecDepth 20000 in
theorem ggX4_meet_X3_joinSpace : GoodIn wsX4_meet wsX3_joinSpace := goodIn_r _ [51, 12, 14, 13, 52, 53, 54, 55, 20, 21, 22, 9, 23, 19, 28, 29, 30, 31, 32, 33, 34, 35, 36, 37, 38, 39, 40, 41, 42, 43, 44, 45, 46, 47, 48, 82, 83, 84, 85, 86, 87, 88] (by decide +kernel) (by decide +kernel)
set_option maxRecDepth 20000 in
theorem gX4_meet_X3_joinSpace_n108 : GoodIn wsX4_meet (wsX3_joinSpace) := ggX4_meet_X3_joinSpace
set_option maxRecDepth 20000 in
theorem ggX4_meet_X4_settle : GoodIn wsX4_meet wsX4_settle := goodIn_r _ [59, 2, 60, 9, 61, 62, 19, 14, 52, 53, 54, 55, 63, 64, 65, 66, 67, 68, 69, 70, 71, 72, 73, 74, 75, 76, 77, 78, 79, 80, 81, 82, 83, 84, 85] (by decide +kernel) (by decide +kernel)
set_option maxRecDepth 20000 in
theorem gX4_meet_X4_settle : GoodIn wsX4_meet (wsV RX4 111 RX4 yX4_settle wsX4_settle) := goodIn_app (goodIn_of _ (by decide +kernel)) ggX4_meet_X4_settle
theorem dX4_meet_0 : decode cX4_meet 0 = .ok (.iload_n 1, 1) := by decide +kernel
theorem dX4_meet_1 : decode cX4_meet 1 = .ok (.invokestatic 86, 3) := by decide +kernel
theorem dX4_meet_4 : decode cX4_meet 4 = .ok (.ifCond .eq 17, 3) := by decide +kernel
theorem dX4_meet_7 : decode cX4_meet 7 = .ok (.iload_n 2, 1) := by decide +kernel
theorem dX4_meet_8 : decode cX4_meet 8 = .ok (.invokestatic 86, 3) := by decide +kernel
theorem dX4_meet_11 : decode cX4_meet 11 = .ok (.ifCond .eq 10, 3) := by decide +kernel
theorem dX4_meet_14 : decode cX4_meet 14 = .ok (.iload_n 3, 1) := by decide +kernel
theorem dX4_meet_15 : decode cX4_meet 15 = .ok (.invokestatic 86, 3) := by decide +kernel
theorem dX4_meet_18 : decode cX4_meet 18 = .ok (.ifCond .ne 6, 3) := by decide +kernel
theorem dX4_meet_21 : decode cX4_meet 21 = .ok (.bipush (-101), 2) := by decide +kernel
theorem dX4_meet_23 : decode cX4_meet 23 = .ok (.ireturn, 1) := by decide +kernel
theorem dX4_meet_24 : decode cX4_meet 24 = .ok (.aload_n 0, 1) := by decide +kernel
theorem dX4_meet_25 : decode cX4_meet 25 = .ok (.getfield 39, 3) := by decide +kernel
theorem dX4_meet_28 : decode cX4_meet 28 = .ok (.aload_n 0, 1) := by decide +kernel
theorem dX4_meet_29 : decode cX4_meet 29 = .ok (.getfield 18, 3) := by decide +kernel
theorem dX4_meet_32 : decode cX4_meet 32 = .ok (.iload_n 1, 1) := by decide +kernel
theorem dX4_meet_33 : decode cX4_meet 33 = .ok (.aaload, 1) := by decide +kernel
theorem dX4_meet_34 : decode cX4_meet 34 = .ok (.invokevirtual 115, 3) := by decide +kernel
theorem dX4_meet_37 : decode cX4_meet 37 = .ok (.aload_n 0, 1) := by decide +kernel
theorem dX4_meet_38 : decode cX4_meet 38 = .ok (.getfield 43, 3) := by decide +kernel
theorem dX4_meet_41 : decode cX4_meet 41 = .ok (.aload_n 0, 1) := by decide +kernel
theorem dX4_meet_42 : decode cX4_meet 42 = .ok (.getfield 18, 3) := by decide +kernel
theorem dX4_meet_45 : decode cX4_meet 45 = .ok (.iload_n 2, 1) := by decide +kernel
theorem dX4_meet_46 : decode cX4_meet 46 = .ok (.aaload, 1) := by decide +kernel
theorem dX4_meet_47 : decode cX4_meet 47 = .ok (.invokevirtual 115, 3) := by decide +kernel
theorem dX4_meet_50 : decode cX4_meet 50 = .ok (.aload_n 0, 1) := by decide +kernel
theorem dX4_meet_51 : decode cX4_meet 51 = .ok (.getfield 43, 3) := by decide +kernel
theorem dX4_meet_54 : decode cX4_meet 54 = .ok (.aload_n 0, 1) := by decide +kernel
theorem dX4_meet_55 : decode cX4_meet 55 = .ok (.getfield 39, 3) := by decide +kernel
theorem dX4_meet_58 : decode cX4_meet 58 = .ok (.invokevirtual 108, 3) := by decide +kernel
theorem dX4_meet_61 : decode cX4_meet 61 = .ok (.aload_n 0, 1) := by decide +kernel
theorem dX4_meet_62 : decode cX4_meet 62 = .ok (.getfield 39, 3) := by decide +kernel
theorem dX4_meet_65 : decode cX4_meet 65 = .ok (.aload_n 0, 1) := by decide +kernel
theorem dX4_meet_66 : decode cX4_meet 66 = .ok (.getfield 43, 3) := by decide +kernel
theorem dX4_meet_69 : decode cX4_meet 69 = .ok (.invokevirtual 115, 3) := by decide +kernel
theorem dX4_meet_72 : decode cX4_meet 72 = .ok (.aload_n 0, 1) := by decide +kernel
theorem dX4_meet_73 : decode cX4_meet 73 = .ok (.aload_n 0, 1) := by decide +kernel
theorem dX4_meet_74 : decode cX4_meet 74 = .ok (.getfield 39, 3) := by decide +kernel
theorem dX4_meet_77 : decode cX4_meet 77 = .ok (.iload_n 3, 1) := by decide +kernel
theorem dX4_meet_78 : decode cX4_meet 78 = .ok (.invokevirtual 111, 3) := by decide +kernel
theorem dX4_meet_81 : decode cX4_meet 81 = .ok (.ireturn, 1) := by decide +kernel
set_option maxRecDepth 20000 in
theorem ggX4_dual_X4_isSlot : GoodIn wsX4_dual wsX4_isSlot := goodIn_r _ [6] (by decide +kernel) (by decide +kernel)
set_option maxRecDepth 20000 in
theorem gX4_dual_X4_isSlot : GoodIn wsX4_dual (va_wsS RX4 86 yX4_isSlot wsX4_isSlot) := goodIn_app (goodIn_of _ (by decide +kernel)) ggX4_dual_X4_isSlot
set_option maxRecDepth 20000 in
theorem ggX4_dual_X3_becomeDual : GoodIn wsX4_dual wsX3_becomeDual := goodIn_r _ [10, 11, 12, 13, 14, 15, 16, 8, 17, 18, 19, 20, 21, 22, 23, 24, 25, 26, 27, 28, 29, 30, 31, 32, 33, 34, 35, 36, 37, 38, 39, 40, 41, 42, 43, 44, 45, 46, 47, 78, 79, 80, 81, 82, 83, 84] (by decide +kernel) (by decide +kernel)
set_option maxRecDepth 20000 in
theorem gX4_dual_X3_becomeDual_n115 : GoodIn wsX4_dual (wsX3_becomeDual) := ggX4_dual_X3_becomeDual
set_option maxRecDepth 20000 in
theorem ggX4_dual_X4_settle : GoodIn wsX4_dual wsX4_settle := goodIn_r _ [51, 2, 52, 8, 53, 54, 18, 13, 55, 56, 57, 58, 59, 60, 61, 62, 63, 64, 65, 66, 67, 68, 69, 70, 71, 72, 73, 74, 75, 76, 77, 78, 79, 80, 81] (by decide +kernel) (by decide +kernel)
set_option maxRecDepth 20000 in
theorem gX4_dual_X4_settle : GoodIn wsX4_dual (wsV RX4 111 RX4 yX4_settle wsX4_settle) := goodIn_app (goodIn_of _ (by decide +kernel)) ggX4_dual_X4_settle
theorem dX4_dual_0 : decode cX4_dual 0 = .ok (.iload_n 1, 1) := by decide +kernel
theorem dX4_dual_1 : decode cX4_dual 1 = .ok (.invokestatic 86, 3) := by decide +kernel
theorem dX4_dual_4 : decode cX4_dual 4 = .ok (.ifCond .eq 10, 3) := by decide +kernel
theorem dX4_dual_7 : decode cX4_dual 7 = .ok (.iload_n 2, 1) := by decide +kernel
theorem dX4_dual_8 : decode cX4_dual 8 = .ok (.invokestatic 86, 3) := by decide +kernel
theorem dX4_dual_11 : decode cX4_dual 11 = .ok (.ifCond .ne 6, 3) := by decide +kernel
theorem dX4_dual_14 : decode cX4_dual 14 = .ok (.bipush (-101), 2) := by decide +kernel
theorem dX4_dual_16 : decode cX4_dual 16 = .ok (.ireturn, 1) := by decide +kernel
theorem dX4_dual_17 : decode cX4_dual 17 = .ok (.aload_n 0, 1) := by decide +kernel
theorem dX4_dual_18 : decode cX4_dual 18 = .ok (.getfield 39, 3) := by decide +kernel
theorem dX4_dual_21 : decode cX4_dual 21 = .ok (.aload_n 0, 1) := by decide +kernel
theorem dX4_dual_22 : decode cX4_dual 22 = .ok (.getfield 18, 3) := by decide +kernel
theorem dX4_dual_25 : decode cX4_dual 25 = .ok (.iload_n 1, 1) := by decide +kernel
theorem dX4_dual_26 : decode cX4_dual 26 = .ok (.aaload, 1) := by decide +kernel
theorem dX4_dual_27 : decode cX4_dual 27 = .ok (.invokevirtual 115, 3) := by decide +kernel
theorem dX4_dual_30 : decode cX4_dual 30 = .ok (.aload_n 0, 1) := by decide +kernel
theorem dX4_dual_31 : decode cX4_dual 31 = .ok (.aload_n 0, 1) := by decide +kernel
theorem dX4_dual_32 : decode cX4_dual 32 = .ok (.getfield 39, 3) := by decide +kernel
theorem dX4_dual_35 : decode cX4_dual 35 = .ok (.iload_n 2, 1) := by decide +kernel
theorem dX4_dual_36 : decode cX4_dual 36 = .ok (.invokevirtual 111, 3) := by decide +kernel
theorem dX4_dual_39 : decode cX4_dual 39 = .ok (.ireturn, 1) := by decide +kernel
set_option maxRecDepth 20000 in
theorem ggX4_has_X4_isSlot : GoodIn wsX4_has wsX4_isSlot := goodIn_r _ [7] (by decide +kernel) (by decide +kernel)
set_option maxRecDepth 20000 in
theorem gX4_has_X4_isSlot : GoodIn wsX4_has (va_wsS RX4 86 yX4_isSlot wsX4_isSlot) := goodIn_app (goodIn_of _ (by decide +kernel)) ggX4_has_X4_isSlot
set_option maxRecDepth 20000 in
theorem ggX4_has_X0_isVector : GoodIn wsX4_has wsX0_isVector := goodIn_r _ [11, 12, 42, 43, 44] (by decide +kernel) (by decide +kernel)
set_option maxRecDepth 20000 in
theorem gX4_has_X0_isVector_n71 : GoodIn wsX4_has (wsX0_isVector) := ggX4_has_X0_isVector
set_option maxRecDepth 20000 in
theorem ggX4_has_X0_spell : GoodIn wsX4_has wsX0_spell := goodIn_r _ [15, 16, 17, 42, 43, 44] (by decide +kernel) (by decide +kernel)
set_option maxRecDepth 20000 in
theorem gX4_has_X0_spell_n89 : GoodIn wsX4_has (wsX0_spell) := ggX4_has_X0_spell
set_option maxRecDepth 20000 in
theorem ggX4_has_X3_holds : GoodIn wsX4_has wsX3_holds := goodIn_r _ [21, 22, 23, 24, 25, 19, 26, 27, 28, 29, 30, 31, 32, 45, 46, 47, 48, 42, 43, 44] (by decide +kernel) (by decide +kernel)
set_option maxRecDepth 20000 in
theorem gX4_has_X3_holds_n118 : GoodIn wsX4_has (wsX3_holds) := ggX4_has_X3_holds
theorem dX4_has_0 : decode cX4_has 0 = .ok (.iload_n 1, 1) := by decide +kernel
theorem dX4_has_1 : decode cX4_has 1 = .ok (.invokestatic 86, 3) := by decide +kernel
theorem dX4_has_4 : decode cX4_has 4 = .ok (.ifCond .eq 14, 3) := by decide +kernel
theorem dX4_has_7 : decode cX4_has 7 = .ok (.aload_n 0, 1) := by decide +kernel
theorem dX4_has_8 : decode cX4_has 8 = .ok (.getfield 10, 3) := by decide +kernel
theorem dX4_has_11 : decode cX4_has 11 = .ok (.iload_n 2, 1) := by decide +kernel
theorem dX4_has_12 : decode cX4_has 12 = .ok (.invokevirtual 71, 3) := by decide +kernel
theorem dX4_has_15 : decode cX4_has 15 = .ok (.ifCond .ne 6, 3) := by decide +kernel
theorem dX4_has_18 : decode cX4_has 18 = .ok (.bipush (-101), 2) := by decide +kernel
theorem dX4_has_20 : decode cX4_has 20 = .ok (.ireturn, 1) := by decide +kernel
theorem dX4_has_21 : decode cX4_has 21 = .ok (.aload_n 0, 1) := by decide +kernel
theorem dX4_has_22 : decode cX4_has 22 = .ok (.getfield 10, 3) := by decide +kernel
theorem dX4_has_25 : decode cX4_has 25 = .ok (.iload_n 2, 1) := by decide +kernel
theorem dX4_has_26 : decode cX4_has 26 = .ok (.aload_n 0, 1) := by decide +kernel
theorem dX4_has_27 : decode cX4_has 27 = .ok (.getfield 46, 3) := by decide +kernel
theorem dX4_has_30 : decode cX4_has 30 = .ok (.iconst 0, 1) := by decide +kernel
theorem dX4_has_31 : decode cX4_has 31 = .ok (.invokevirtual 89, 3) := by decide +kernel
theorem dX4_has_34 : decode cX4_has 34 = .ok (.aload_n 0, 1) := by decide +kernel
theorem dX4_has_35 : decode cX4_has 35 = .ok (.getfield 18, 3) := by decide +kernel
theorem dX4_has_38 : decode cX4_has 38 = .ok (.iload_n 1, 1) := by decide +kernel
theorem dX4_has_39 : decode cX4_has 39 = .ok (.aaload, 1) := by decide +kernel
theorem dX4_has_40 : decode cX4_has 40 = .ok (.aload_n 0, 1) := by decide +kernel
theorem dX4_has_41 : decode cX4_has 41 = .ok (.getfield 46, 3) := by decide +kernel
theorem dX4_has_44 : decode cX4_has 44 = .ok (.iconst 0, 1) := by decide +kernel
theorem dX4_has_45 : decode cX4_has 45 = .ok (.invokevirtual 118, 3) := by decide +kernel
theorem dX4_has_48 : decode cX4_has 48 = .ok (.ifCond .eq 7, 3) := by decide +kernel
theorem dX4_has_51 : decode cX4_has 51 = .ok (.iconst 1, 1) := by decide +kernel
theorem dX4_has_52 : decode cX4_has 52 = .ok (.goto 4, 3) := by decide +kernel
theorem dX4_has_55 : decode cX4_has 55 = .ok (.iconst 0, 1) := by decide +kernel
theorem dX4_has_56 : decode cX4_has 56 = .ok (.ireturn, 1) := by decide +kernel
set_option maxRecDepth 20000 in
theorem ggX4_within_X4_isSlot : GoodIn wsX4_within wsX4_isSlot := goodIn_r _ [5] (by decide +kernel) (by decide +kernel)
set_option maxRecDepth 20000 in
theorem gX4_within_X4_isSlot : GoodIn wsX4_within (va_wsS RX4 86 yX4_isSlot wsX4_isSlot) := goodIn_app (goodIn_of _ (by decide +kernel)) ggX4_within_X4_isSlot
set_option maxRecDepth 20000 in
theorem ggX4_within_X3_liesIn : GoodIn wsX4_within wsX3_liesIn := goodIn_r _ [9, 10, 11, 12, 13, 14, 7, 15, 16, 17, 18, 19, 20, 21, 22, 23, 24, 34, 35, 36, 37, 38, 39, 40] (by decide +kernel) (by decide +kernel)
set_option maxRecDepth 20000 in
theorem gX4_within_X3_liesIn_n122 : GoodIn wsX4_within (wsX3_liesIn) := ggX4_within_X3_liesIn
theorem dX4_within_0 : decode cX4_within 0 = .ok (.iload_n 1, 1) := by decide +kernel
theorem dX4_within_1 : decode cX4_within 1 = .ok (.invokestatic 86, 3) := by decide +kernel
theorem dX4_within_4 : decode cX4_within 4 = .ok (.ifCond .eq 10, 3) := by decide +kernel
theorem dX4_within_7 : decode cX4_within 7 = .ok (.iload_n 2, 1) := by decide +kernel
theorem dX4_within_8 : decode cX4_within 8 = .ok (.invokestatic 86, 3) := by decide +kernel
theorem dX4_within_11 : decode cX4_within 11 = .ok (.ifCond .ne 6, 3) := by decide +kernel
theorem dX4_within_14 : decode cX4_within 14 = .ok (.bipush (-101), 2) := by decide +kernel
theorem dX4_within_16 : decode cX4_within 16 = .ok (.ireturn, 1) := by decide +kernel
theorem dX4_within_17 : decode cX4_within 17 = .ok (.aload_n 0, 1) := by decide +kernel
theorem dX4_within_18 : decode cX4_within 18 = .ok (.getfield 18, 3) := by decide +kernel
theorem dX4_within_21 : decode cX4_within 21 = .ok (.iload_n 1, 1) := by decide +kernel
theorem dX4_within_22 : decode cX4_within 22 = .ok (.aaload, 1) := by decide +kernel
theorem dX4_within_23 : decode cX4_within 23 = .ok (.aload_n 0, 1) := by decide +kernel
theorem dX4_within_24 : decode cX4_within 24 = .ok (.getfield 18, 3) := by decide +kernel
theorem dX4_within_27 : decode cX4_within 27 = .ok (.iload_n 2, 1) := by decide +kernel
theorem dX4_within_28 : decode cX4_within 28 = .ok (.aaload, 1) := by decide +kernel
theorem dX4_within_29 : decode cX4_within 29 = .ok (.invokevirtual 122, 3) := by decide +kernel
theorem dX4_within_32 : decode cX4_within 32 = .ok (.ifCond .eq 7, 3) := by decide +kernel
theorem dX4_within_35 : decode cX4_within 35 = .ok (.iconst 1, 1) := by decide +kernel
theorem dX4_within_36 : decode cX4_within 36 = .ok (.goto 4, 3) := by decide +kernel
theorem dX4_within_39 : decode cX4_within 39 = .ok (.iconst 0, 1) := by decide +kernel
theorem dX4_within_40 : decode cX4_within 40 = .ok (.ireturn, 1) := by decide +kernel
set_option maxRecDepth 20000 in
theorem ggX4_apart_X4_isSlot : GoodIn wsX4_apart wsX4_isSlot := goodIn_r _ [6] (by decide +kernel) (by decide +kernel)
set_option maxRecDepth 20000 in
theorem gX4_apart_X4_isSlot : GoodIn wsX4_apart (va_wsS RX4 86 yX4_isSlot wsX4_isSlot) := goodIn_app (goodIn_of _ (by decide +kernel)) ggX4_apart_X4_isSlot
set_option maxRecDepth 20000 in
theorem ggX4_apart_X3_distance : GoodIn wsX4_apart wsX3_distance := goodIn_r _ [10, 11, 12, 13, 8, 14, 15, 16, 17, 18, 19, 20, 21, 22, 23, 24, 25, 26, 27, 28, 29, 30, 31, 32, 33, 34, 35, 36, 37, 38, 39, 40, 41, 42, 43, 44, 45, 46, 47, 48, 49, 50, 51, 52, 53, 54, 55, 56, 57, 58, 59, 60, 61, 62, 72, 73, 74, 75, 76, 77, 78] (by decide +kernel) (by decide +kernel)
set_option maxRecDepth 20000 in
theorem gX4_apart_X3_distance_n126 : GoodIn wsX4_apart (wsX3_distance) := ggX4_apart_X3_distance
theorem dX4_apart_0 : decode cX4_apart 0 = .ok (.iload_n 1, 1) := by decide +kernel
theorem dX4_apart_1 : decode cX4_apart 1 = .ok (.invokestatic 86, 3) := by decide +kernel
theorem dX4_apart_4 : decode cX4_apart 4 = .ok (.ifCond .eq 10, 3) := by decide +kernel
theorem dX4_apart_7 : decode cX4_apart 7 = .ok (.iload_n 2, 1) := by decide +kernel
theorem dX4_apart_8 : decode cX4_apart 8 = .ok (.invokestatic 86, 3) := by decide +kernel
theorem dX4_apart_11 : decode cX4_apart 11 = .ok (.ifCond .ne 6, 3) := by decide +kernel
theorem dX4_apart_14 : decode cX4_apart 14 = .ok (.bipush (-101), 2) := by decide +kernel
theorem dX4_apart_16 : decode cX4_apart 16 = .ok (.ireturn, 1) := by decide +kernel
theorem dX4_apart_17 : decode cX4_apart 17 = .ok (.aload_n 0, 1) := by decide +kernel
theorem dX4_apart_18 : decode cX4_apart 18 = .ok (.getfield 39, 3) := by decide +kernel
theorem dX4_apart_21 : decode cX4_apart 21 = .ok (.aload_n 0, 1) := by decide +kernel
theorem dX4_apart_22 : decode cX4_apart 22 = .ok (.getfield 18, 3) := by decide +kernel
theorem dX4_apart_25 : decode cX4_apart 25 = .ok (.iload_n 1, 1) := by decide +kernel
theorem dX4_apart_26 : decode cX4_apart 26 = .ok (.aaload, 1) := by decide +kernel
theorem dX4_apart_27 : decode cX4_apart 27 = .ok (.aload_n 0, 1) := by decide +kernel
theorem dX4_apart_28 : decode cX4_apart 28 = .ok (.getfield 18, 3) := by decide +kernel
theorem dX4_apart_31 : decode cX4_apart 31 = .ok (.iload_n 2, 1) := by decide +kernel
theorem dX4_apart_32 : decode cX4_apart 32 = .ok (.aaload, 1) := by decide +kernel
theorem dX4_apart_33 : decode cX4_apart 33 = .ok (.invokevirtual 126, 3) := by decide +kernel
theorem dX4_apart_36 : decode cX4_apart 36 = .ok (.ireturn, 1) := by decide +kernel
set_option maxRecDepth 20000 in
theorem ggX4_number_X4_isSlot : GoodIn wsX4_number wsX4_isSlot := goodIn_r _ [5] (by decide +kernel) (by decide +kernel)
set_option maxRecDepth 20000 in
theorem gX4_number_X4_isSlot : GoodIn wsX4_number (va_wsS RX4 86 yX4_isSlot wsX4_isSlot) := goodIn_app (goodIn_of _ (by decide +kernel)) ggX4_number_X4_isSlot
set_option maxRecDepth 20000 in
theorem ggX4_number_X3_ordinal : GoodIn wsX4_number wsX3_ordinal := goodIn_r _ [9, 10, 11, 12, 13, 14, 7, 15, 16, 17, 18, 19, 20, 21, 22, 23, 24, 25, 26, 27, 28, 29, 30, 31, 32, 33, 34, 35, 36, 37, 38, 39, 40, 50, 51, 52, 53, 54, 55, 56] (by decide +kernel) (by decide +kernel)
set_option maxRecDepth 20000 in
theorem gX4_number_X3_ordinal_n130 : GoodIn wsX4_number (wsX3_ordinal) := ggX4_number_X3_ordinal
theorem dX4_number_0 : decode cX4_number 0 = .ok (.iload_n 1, 1) := by decide +kernel
theorem dX4_number_1 : decode cX4_number 1 = .ok (.invokestatic 86, 3) := by decide +kernel
theorem dX4_number_4 : decode cX4_number 4 = .ok (.ifCond .eq 15, 3) := by decide +kernel
theorem dX4_number_7 : decode cX4_number 7 = .ok (.aload_n 0, 1) := by decide +kernel
theorem dX4_number_8 : decode cX4_number 8 = .ok (.getfield 18, 3) := by decide +kernel
theorem dX4_number_11 : decode cX4_number 11 = .ok (.iload_n 1, 1) := by decide +kernel
theorem dX4_number_12 : decode cX4_number 12 = .ok (.aaload, 1) := by decide +kernel
theorem dX4_number_13 : decode cX4_number 13 = .ok (.invokevirtual 130, 3) := by decide +kernel
theorem dX4_number_16 : decode cX4_number 16 = .ok (.goto 5, 3) := by decide +kernel
theorem dX4_number_19 : decode cX4_number 19 = .ok (.bipush (-101), 2) := by decide +kernel
theorem dX4_number_21 : decode cX4_number 21 = .ok (.ireturn, 1) := by decide +kernel
set_option maxRecDepth 20000 in
theorem ggX4_numbered_X4_isSlot : GoodIn wsX4_numbered wsX4_isSlot := goodIn_r _ [6] (by decide +kernel) (by decide +kernel)
set_option maxRecDepth 20000 in
theorem gX4_numbered_X4_isSlot : GoodIn wsX4_numbered (va_wsS RX4 86 yX4_isSlot wsX4_isSlot) := goodIn_app (goodIn_of _ (by decide +kernel)) ggX4_numbered_X4_isSlot
set_option maxRecDepth 20000 in
theorem ggX4_numbered_X4_isDim : GoodIn wsX4_numbered wsX4_isDim := goodIn_r _ [10, 1, 50, 51, 52, 53, 54, 55, 56, 57, 58, 59, 60, 61] (by decide +kernel) (by decide +kernel)
set_option maxRecDepth 20000 in
theorem gX4_numbered_X4_isDim : GoodIn wsX4_numbered (wsV RX4 133 RX4 yX4_isDim wsX4_isDim) := goodIn_app (goodIn_of _ (by decide +kernel)) ggX4_numbered_X4_isDim
set_option maxRecDepth 20000 in
theorem ggX4_numbered_X0_spaces : GoodIn wsX4_numbered wsX0_spaces := goodIn_r _ [14, 15, 16, 17, 12, 18, 19, 59, 60, 61] (by decide +kernel) (by decide +kernel)
set_option maxRecDepth 20000 in
theorem gX4_numbered_X0_spaces_n139 : GoodIn wsX4_numbered (wsX0_spaces) := ggX4_numbered_X0_spaces
set_option maxRecDepth 20000 in
theorem ggX4_numbered_X3_becomeOrdinal : GoodIn wsX4_numbered wsX3_becomeOrdinal := goodIn_r _ [23, 24, 25, 26, 27, 28, 29, 30, 31, 32, 33, 34, 35, 21, 36, 16, 12, 17, 18, 19, 37, 38, 39, 40, 41, 42, 43, 44, 45, 46, 47, 48, 49, 62, 63, 64, 65, 59, 60, 61] (by decide +kernel) (by decide +kernel)
set_option maxRecDepth 20000 in
theorem gX4_numbered_X3_becomeOrdinal_n142 : GoodIn wsX4_numbered (wsX3_becomeOrdinal) := ggX4_numbered_X3_becomeOrdinal
theorem dX4_numbered_0 : decode cX4_numbered 0 = .ok (.iload_n 1, 1) := by decide +kernel
theorem dX4_numbered_1 : decode cX4_numbered 1 = .ok (.invokestatic 86, 3) := by decide +kernel
theorem dX4_numbered_4 : decode cX4_numbered 4 = .ok (.ifCond .ne 6, 3) := by decide +kernel
theorem dX4_numbered_7 : decode cX4_numbered 7 = .ok (.bipush (-101), 2) := by decide +kernel
theorem dX4_numbered_9 : decode cX4_numbered 9 = .ok (.ireturn, 1) := by decide +kernel
theorem dX4_numbered_10 : decode cX4_numbered 10 = .ok (.aload_n 0, 1) := by decide +kernel
theorem dX4_numbered_11 : decode cX4_numbered 11 = .ok (.iload_n 2, 1) := by decide +kernel
theorem dX4_numbered_12 : decode cX4_numbered 12 = .ok (.invokevirtual 133, 3) := by decide +kernel
theorem dX4_numbered_15 : decode cX4_numbered 15 = .ok (.ifCond .eq 26, 3) := by decide +kernel
theorem dX4_numbered_18 : decode cX4_numbered 18 = .ok (.iload_n 3, 1) := by decide +kernel
theorem dX4_numbered_19 : decode cX4_numbered 19 = .ok (.ifCond .lt 22, 3) := by decide +kernel
theorem dX4_numbered_22 : decode cX4_numbered 22 = .ok (.iload_n 3, 1) := by decide +kernel
theorem dX4_numbered_23 : decode cX4_numbered 23 = .ok (.aload_n 0, 1) := by decide +kernel
theorem dX4_numbered_24 : decode cX4_numbered 24 = .ok (.getfield 10, 3) := by decide +kernel
theorem dX4_numbered_27 : decode cX4_numbered 27 = .ok (.aload_n 0, 1) := by decide +kernel
theorem dX4_numbered_28 : decode cX4_numbered 28 = .ok (.getfield 10, 3) := by decide +kernel
theorem dX4_numbered_31 : decode cX4_numbered 31 = .ok (.getfield 136, 3) := by decide +kernel
theorem dX4_numbered_34 : decode cX4_numbered 34 = .ok (.iload_n 2, 1) := by decide +kernel
theorem dX4_numbered_35 : decode cX4_numbered 35 = .ok (.invokevirtual 139, 3) := by decide +kernel
theorem dX4_numbered_38 : decode cX4_numbered 38 = .ok (.if_icmp .lt 6, 3) := by decide +kernel
theorem dX4_numbered_41 : decode cX4_numbered 41 = .ok (.bipush (-102), 2) := by decide +kernel
theorem dX4_numbered_43 : decode cX4_numbered 43 = .ok (.ireturn, 1) := by decide +kernel
theorem dX4_numbered_44 : decode cX4_numbered 44 = .ok (.aload_n 0, 1) := by decide +kernel
theorem dX4_numbered_45 : decode cX4_numbered 45 = .ok (.getfield 18, 3) := by decide +kernel
theorem dX4_numbered_48 : decode cX4_numbered 48 = .ok (.iload_n 1, 1) := by decide +kernel
theorem dX4_numbered_49 : decode cX4_numbered 49 = .ok (.aaload, 1) := by decide +kernel
theorem dX4_numbered_50 : decode cX4_numbered 50 = .ok (.iload_n 2, 1) := by decide +kernel
theorem dX4_numbered_51 : decode cX4_numbered 51 = .ok (.iload_n 3, 1) := by decide +kernel
theorem dX4_numbered_52 : decode cX4_numbered 52 = .ok (.invokevirtual 142, 3) := by decide +kernel
theorem dX4_numbered_55 : decode cX4_numbered 55 = .ok (.iload_n 2, 1) := by decide +kernel
theorem dX4_numbered_56 : decode cX4_numbered 56 = .ok (.ireturn, 1) := by decide +kernel
set_option maxRecDepth 20000 in
theorem ggX4_many_X0_spaces : GoodIn wsX4_many wsX0_spaces := goodIn_r _ [5, 6, 7, 8, 3, 9, 10, 20, 21, 22] (by decide +kernel) (by decide +kernel)
set_option maxRecDepth 20000 in
theorem gX4_many_X0_spaces_n139 : GoodIn wsX4_many (wsX0_spaces) := ggX4_many_X0_spaces
theorem dX4_many_0 : decode cX4_many 0 = .ok (.aload_n 0, 1) := by decide +kernel
theorem dX4_many_1 : decode cX4_many 1 = .ok (.getfield 10, 3) := by decide +kernel
theorem dX4_many_4 : decode cX4_many 4 = .ok (.aload_n 0, 1) := by decide +kernel
theorem dX4_many_5 : decode cX4_many 5 = .ok (.getfield 10, 3) := by decide +kernel
theorem dX4_many_8 : decode cX4_many 8 = .ok (.getfield 136, 3) := by decide +kernel
theorem dX4_many_11 : decode cX4_many 11 = .ok (.iload_n 1, 1) := by decide +kernel
theorem dX4_many_12 : decode cX4_many 12 = .ok (.invokevirtual 139, 3) := by decide +kernel
theorem dX4_many_15 : decode cX4_many 15 = .ok (.ireturn, 1) := by decide +kernel
set_option maxRecDepth 20000 in
theorem ggX4_over_X4_isSlot : GoodIn wsX4_over wsX4_isSlot := goodIn_r _ [6] (by decide +kernel) (by decide +kernel)
set_option maxRecDepth 20000 in
theorem gX4_over_X4_isSlot : GoodIn wsX4_over (va_wsS RX4 86 yX4_isSlot wsX4_isSlot) := goodIn_app (goodIn_of _ (by decide +kernel)) ggX4_over_X4_isSlot
set_option maxRecDepth 20000 in
theorem ggX4_over_X4_isDim : GoodIn wsX4_over wsX4_isDim := goodIn_r _ [10, 2, 32, 33, 34, 35, 36, 37, 38, 39, 40, 41, 42, 43] (by decide +kernel) (by decide +kernel)
set_option maxRecDepth 20000 in
theorem gX4_over_X4_isDim : GoodIn wsX4_over (wsV RX4 133 RX4 yX4_isDim wsX4_isDim) := goodIn_app (goodIn_of _ (by decide +kernel)) ggX4_over_X4_isDim
set_option maxRecDepth 20000 in
theorem ggX4_over_X3_rank : GoodIn wsX4_over wsX3_rank := goodIn_r _ [14, 15, 16, 17, 18, 19, 20, 21, 22, 44, 45, 46, 47] (by decide +kernel) (by decide +kernel)
set_option maxRecDepth 20000 in
theorem gX4_over_X3_rank_n97 : GoodIn wsX4_over (wsX3_rank) := ggX4_over_X3_rank
set_option maxRecDepth 20000 in
theorem ggX4_over_X0_spaces : GoodIn wsX4_over wsX0_spaces := goodIn_r _ [26, 27, 28, 29, 24, 30, 31, 41, 42, 43] (by decide +kernel) (by decide +kernel)
set_option maxRecDepth 20000 in
theorem gX4_over_X0_spaces_n139 : GoodIn wsX4_over (wsX0_spaces) := ggX4_over_X0_spaces
theorem dX4_over_0 : decode cX4_over 0 = .ok (.iload_n 1, 1) := by decide +kernel
theorem dX4_over_1 : decode cX4_over 1 = .ok (.invokestatic 86, 3) := by decide +kernel
theorem dX4_over_4 : decode cX4_over 4 = .ok (.ifCond .ne 6, 3) := by decide +kernel
theorem dX4_over_7 : decode cX4_over 7 = .ok (.bipush (-101), 2) := by decide +kernel
theorem dX4_over_9 : decode cX4_over 9 = .ok (.ireturn, 1) := by decide +kernel
theorem dX4_over_10 : decode cX4_over 10 = .ok (.aload_n 0, 1) := by decide +kernel
theorem dX4_over_11 : decode cX4_over 11 = .ok (.iload_n 2, 1) := by decide +kernel
theorem dX4_over_12 : decode cX4_over 12 = .ok (.invokevirtual 133, 3) := by decide +kernel
theorem dX4_over_15 : decode cX4_over 15 = .ok (.ifCond .ne 5, 3) := by decide +kernel
theorem dX4_over_18 : decode cX4_over 18 = .ok (.iconst 0, 1) := by decide +kernel
theorem dX4_over_19 : decode cX4_over 19 = .ok (.ireturn, 1) := by decide +kernel
theorem dX4_over_20 : decode cX4_over 20 = .ok (.aload_n 0, 1) := by decide +kernel
theorem dX4_over_21 : decode cX4_over 21 = .ok (.getfield 18, 3) := by decide +kernel
theorem dX4_over_24 : decode cX4_over 24 = .ok (.iload_n 1, 1) := by decide +kernel
theorem dX4_over_25 : decode cX4_over 25 = .ok (.aaload, 1) := by decide +kernel
theorem dX4_over_26 : decode cX4_over 26 = .ok (.invokevirtual 97, 3) := by decide +kernel
theorem dX4_over_29 : decode cX4_over 29 = .ok (.istore_n 3, 1) := by decide +kernel
theorem dX4_over_30 : decode cX4_over 30 = .ok (.aload_n 0, 1) := by decide +kernel
theorem dX4_over_31 : decode cX4_over 31 = .ok (.getfield 10, 3) := by decide +kernel
theorem dX4_over_34 : decode cX4_over 34 = .ok (.aload_n 0, 1) := by decide +kernel
theorem dX4_over_35 : decode cX4_over 35 = .ok (.getfield 10, 3) := by decide +kernel
theorem dX4_over_38 : decode cX4_over 38 = .ok (.getfield 136, 3) := by decide +kernel
theorem dX4_over_41 : decode cX4_over 41 = .ok (.iload_n 3, 1) := by decide +kernel
theorem dX4_over_42 : decode cX4_over 42 = .ok (.isub, 1) := by decide +kernel
theorem dX4_over_43 : decode cX4_over 43 = .ok (.iload_n 2, 1) := by decide +kernel
theorem dX4_over_44 : decode cX4_over 44 = .ok (.iload_n 3, 1) := by decide +kernel
theorem dX4_over_45 : decode cX4_over 45 = .ok (.isub, 1) := by decide +kernel
theorem dX4_over_46 : decode cX4_over 46 = .ok (.invokevirtual 139, 3) := by decide +kernel
theorem dX4_over_49 : decode cX4_over 49 = .ok (.ireturn, 1) := by decide +kernel
set_option maxRecDepth 20000 in
theorem ggX4_meeting_X4_isSlot : GoodIn wsX4_meeting wsX4_isSlot := goodIn_r _ [6] (by decide +kernel) (by decide +kernel)
set_option maxRecDepth 20000 in
theorem gX4_meeting_X4_isSlot : GoodIn wsX4_meeting (va_wsS RX4 86 yX4_isSlot wsX4_isSlot) := goodIn_app (goodIn_of _ (by decide +kernel)) ggX4_meeting_X4_isSlot
set_option maxRecDepth 20000 in
theorem ggX4_meeting_X4_isDim : GoodIn wsX4_meeting wsX4_isDim := goodIn_r _ [10, 2, 32, 33, 34, 35, 36, 37, 38, 39, 40, 41, 42, 43] (by decide +kernel) (by decide +kernel)
set_option maxRecDepth 20000 in
theorem gX4_meeting_X4_isDim : GoodIn wsX4_meeting (wsV RX4 133 RX4 yX4_isDim wsX4_isDim) := goodIn_app (goodIn_of _ (by decide +kernel)) ggX4_meeting_X4_isDim
set_option maxRecDepth 20000 in
theorem ggX4_meeting_X3_rank : GoodIn wsX4_meeting wsX3_rank := goodIn_r _ [14, 15, 16, 17, 18, 19, 20, 21, 22, 44, 45, 46, 47] (by decide +kernel) (by decide +kernel)
set_option maxRecDepth 20000 in
theorem gX4_meeting_X3_rank_n97 : GoodIn wsX4_meeting (wsX3_rank) := ggX4_meeting_X3_rank
set_option maxRecDepth 20000 in
theorem ggX4_meeting_X0_spaces : GoodIn wsX4_meeting wsX0_spaces := goodIn_r _ [26, 27, 28, 29, 24, 30, 31, 41, 42, 43] (by decide +kernel) (by decide +kernel)
set_option maxRecDepth 20000 in
theorem gX4_meeting_X0_spaces_n139 : GoodIn wsX4_meeting (wsX0_spaces) := ggX4_meeting_X0_spaces
set_option maxRecDepth 20000 in
theorem ggX4_meeting_X0_power : GoodIn wsX4_meeting wsX0_power := goodIn_r _ [30, 31, 41, 42, 43] (by decide +kernel) (by decide +kernel)
set_option maxRecDepth 20000 in
theorem gX4_meeting_X0_power_n145 : GoodIn wsX4_meeting (wsX0_power) := ggX4_meeting_X0_power
theorem dX4_meeting_0 : decode cX4_meeting 0 = .ok (.iload_n 1, 1) := by decide +kernel
theorem dX4_meeting_1 : decode cX4_meeting 1 = .ok (.invokestatic 86, 3) := by decide +kernel
theorem dX4_meeting_4 : decode cX4_meeting 4 = .ok (.ifCond .ne 6, 3) := by decide +kernel
theorem dX4_meeting_7 : decode cX4_meeting 7 = .ok (.bipush (-101), 2) := by decide +kernel
theorem dX4_meeting_9 : decode cX4_meeting 9 = .ok (.ireturn, 1) := by decide +kernel
theorem dX4_meeting_10 : decode cX4_meeting 10 = .ok (.aload_n 0, 1) := by decide +kernel
theorem dX4_meeting_11 : decode cX4_meeting 11 = .ok (.iload_n 2, 1) := by decide +kernel
theorem dX4_meeting_12 : decode cX4_meeting 12 = .ok (.invokevirtual 133, 3) := by decide +kernel
theorem dX4_meeting_15 : decode cX4_meeting 15 = .ok (.ifCond .eq 11, 3) := by decide +kernel
theorem dX4_meeting_18 : decode cX4_meeting 18 = .ok (.aload_n 0, 1) := by decide +kernel
theorem dX4_meeting_19 : decode cX4_meeting 19 = .ok (.iload_n 3, 1) := by decide +kernel
theorem dX4_meeting_20 : decode cX4_meeting 20 = .ok (.invokevirtual 133, 3) := by decide +kernel
theorem dX4_meeting_23 : decode cX4_meeting 23 = .ok (.ifCond .ne 5, 3) := by decide +kernel
theorem dX4_meeting_26 : decode cX4_meeting 26 = .ok (.iconst 0, 1) := by decide +kernel
theorem dX4_meeting_27 : decode cX4_meeting 27 = .ok (.ireturn, 1) := by decide +kernel
theorem dX4_meeting_28 : decode cX4_meeting 28 = .ok (.aload_n 0, 1) := by decide +kernel
theorem dX4_meeting_29 : decode cX4_meeting 29 = .ok (.getfield 18, 3) := by decide +kernel
theorem dX4_meeting_32 : decode cX4_meeting 32 = .ok (.iload_n 1, 1) := by decide +kernel
theorem dX4_meeting_33 : decode cX4_meeting 33 = .ok (.aaload, 1) := by decide +kernel
theorem dX4_meeting_34 : decode cX4_meeting 34 = .ok (.invokevirtual 97, 3) := by decide +kernel
theorem dX4_meeting_37 : decode cX4_meeting 37 = .ok (.istore 4, 2) := by decide +kernel
theorem dX4_meeting_39 : decode cX4_meeting 39 = .ok (.aload_n 0, 1) := by decide +kernel
theorem dX4_meeting_40 : decode cX4_meeting 40 = .ok (.getfield 10, 3) := by decide +kernel
theorem dX4_meeting_43 : decode cX4_meeting 43 = .ok (.iload 4, 2) := by decide +kernel
theorem dX4_meeting_45 : decode cX4_meeting 45 = .ok (.iload_n 3, 1) := by decide +kernel
theorem dX4_meeting_46 : decode cX4_meeting 46 = .ok (.invokevirtual 139, 3) := by decide +kernel
theorem dX4_meeting_49 : decode cX4_meeting 49 = .ok (.aload_n 0, 1) := by decide +kernel
theorem dX4_meeting_50 : decode cX4_meeting 50 = .ok (.getfield 10, 3) := by decide +kernel
theorem dX4_meeting_53 : decode cX4_meeting 53 = .ok (.aload_n 0, 1) := by decide +kernel
theorem dX4_meeting_54 : decode cX4_meeting 54 = .ok (.getfield 10, 3) := by decide +kernel
theorem dX4_meeting_57 : decode cX4_meeting 57 = .ok (.getfield 136, 3) := by decide +kernel
theorem dX4_meeting_60 : decode cX4_meeting 60 = .ok (.iload 4, 2) := by decide +kernel
theorem dX4_meeting_62 : decode cX4_meeting 62 = .ok (.isub, 1) := by decide +kernel
theorem dX4_meeting_63 : decode cX4_meeting 63 = .ok (.iload_n 2, 1) := by decide +kernel
theorem dX4_meeting_64 : decode cX4_meeting 64 = .ok (.iload_n 3, 1) := by decide +kernel
theorem dX4_meeting_65 : decode cX4_meeting 65 = .ok (.isub, 1) := by decide +kernel
theorem dX4_meeting_66 : decode cX4_meeting 66 = .ok (.invokevirtual 139, 3) := by decide +kernel
theorem dX4_meeting_69 : decode cX4_meeting 69 = .ok (.imul, 1) := by decide +kernel
theorem dX4_meeting_70 : decode cX4_meeting 70 = .ok (.istore 5, 2) := by decide +kernel
theorem dX4_meeting_72 : decode cX4_meeting 72 = .ok (.iload 5, 2) := by decide +kernel
theorem dX4_meeting_74 : decode cX4_meeting 74 = .ok (.ifCond .ne 7, 3) := by decide +kernel
theorem dX4_meeting_77 : decode cX4_meeting 77 = .ok (.iconst 0, 1) := by decide +kernel
theorem dX4_meeting_78 : decode cX4_meeting 78 = .ok (.goto 21, 3) := by decide +kernel
theorem dX4_meeting_81 : decode cX4_meeting 81 = .ok (.iload 5, 2) := by decide +kernel
theorem dX4_meeting_83 : decode cX4_meeting 83 = .ok (.aload_n 0, 1) := by decide +kernel
theorem dX4_meeting_84 : decode cX4_meeting 84 = .ok (.getfield 10, 3) := by decide +kernel
theorem dX4_meeting_87 : decode cX4_meeting 87 = .ok (.iload 4, 2) := by decide +kernel
theorem dX4_meeting_89 : decode cX4_meeting 89 = .ok (.iload_n 3, 1) := by decide +kernel
theorem dX4_meeting_90 : decode cX4_meeting 90 = .ok (.isub, 1) := by decide +kernel
theorem dX4_meeting_91 : decode cX4_meeting 91 = .ok (.iload_n 2, 1) := by decide +kernel
theorem dX4_meeting_92 : decode cX4_meeting 92 = .ok (.iload_n 3, 1) := by decide +kernel
theorem dX4_meeting_93 : decode cX4_meeting 93 = .ok (.isub, 1) := by decide +kernel
theorem dX4_meeting_94 : decode cX4_meeting 94 = .ok (.imul, 1) := by decide +kernel
theorem dX4_meeting_95 : decode cX4_meeting 95 = .ok (.invokevirtual 145, 3) := by decide +kernel
theorem dX4_meeting_98 : decode cX4_meeting 98 = .ok (.imul, 1) := by decide +kernel
theorem dX4_meeting_99 : decode cX4_meeting 99 = .ok (.ireturn, 1) := by decide +kernel
set_option maxRecDepth 20000 in
theorem ggX4_put_X4_isSlot : GoodIn wsX4_put wsX4_isSlot := goodIn_r _ [6] (by decide +kernel) (by decide +kernel)
set_option maxRecDepth 20000 in
theorem gX4_put_X4_isSlot : GoodIn wsX4_put (va_wsS RX4 86 yX4_isSlot wsX4_isSlot) := goodIn_app (goodIn_of _ (by decide +kernel)) ggX4_put_X4_isSlot
set_option maxRecDepth 20000 in
theorem ggX4_put_X1_accept : GoodIn wsX4_put wsX1_accept := goodIn_r _ [10, 11, 12, 13, 14, 15, 16, 17, 18, 19, 20, 21, 22, 32, 33, 34, 35, 36, 37, 38] (by decide +kernel) (by decide +kernel)
set_option maxRecDepth 20000 in
theorem gX4_put_X1_accept_n148 : GoodIn wsX4_put (wsX1_accept) := ggX4_put_X1_accept
theorem dX4_put_0 : decode cX4_put 0 = .ok (.iload_n 1, 1) := by decide +kernel
theorem dX4_put_1 : decode cX4_put 1 = .ok (.invokestatic 86, 3) := by decide +kernel
theorem dX4_put_4 : decode cX4_put 4 = .ok (.ifCond .ne 6, 3) := by decide +kernel
theorem dX4_put_7 : decode cX4_put 7 = .ok (.bipush (-101), 2) := by decide +kernel
theorem dX4_put_9 : decode cX4_put 9 = .ok (.ireturn, 1) := by decide +kernel
theorem dX4_put_10 : decode cX4_put 10 = .ok (.aload_n 0, 1) := by decide +kernel
theorem dX4_put_11 : decode cX4_put 11 = .ok (.getfield 28, 3) := by decide +kernel
theorem dX4_put_14 : decode cX4_put 14 = .ok (.getfield 61, 3) := by decide +kernel
theorem dX4_put_17 : decode cX4_put 17 = .ok (.bipush 40, 2) := by decide +kernel
theorem dX4_put_19 : decode cX4_put 19 = .ok (.if_icmp .lt 6, 3) := by decide +kernel
theorem dX4_put_22 : decode cX4_put 22 = .ok (.bipush (-104), 2) := by decide +kernel
theorem dX4_put_24 : decode cX4_put 24 = .ok (.ireturn, 1) := by decide +kernel
theorem dX4_put_25 : decode cX4_put 25 = .ok (.aload_n 0, 1) := by decide +kernel
theorem dX4_put_26 : decode cX4_put 26 = .ok (.getfield 28, 3) := by decide +kernel
theorem dX4_put_29 : decode cX4_put 29 = .ok (.aload_n 0, 1) := by decide +kernel
theorem dX4_put_30 : decode cX4_put 30 = .ok (.getfield 18, 3) := by decide +kernel
theorem dX4_put_33 : decode cX4_put 33 = .ok (.iload_n 1, 1) := by decide +kernel
theorem dX4_put_34 : decode cX4_put 34 = .ok (.aaload, 1) := by decide +kernel
theorem dX4_put_35 : decode cX4_put 35 = .ok (.invokevirtual 148, 3) := by decide +kernel
theorem dX4_put_38 : decode cX4_put 38 = .ok (.aload_n 0, 1) := by decide +kernel
theorem dX4_put_39 : decode cX4_put 39 = .ok (.getfield 28, 3) := by decide +kernel
theorem dX4_put_42 : decode cX4_put 42 = .ok (.getfield 61, 3) := by decide +kernel
theorem dX4_put_45 : decode cX4_put 45 = .ok (.ireturn, 1) := by decide +kernel
theorem dX4_empty_0 : decode cX4_empty 0 = .ok (.aload_n 0, 1) := by decide +kernel
theorem dX4_empty_1 : decode cX4_empty 1 = .ok (.getfield 28, 3) := by decide +kernel
theorem dX4_empty_4 : decode cX4_empty 4 = .ok (.getfield 61, 3) := by decide +kernel
theorem dX4_empty_7 : decode cX4_empty 7 = .ok (.istore_n 1, 1) := by decide +kernel
theorem dX4_empty_8 : decode cX4_empty 8 = .ok (.aload_n 0, 1) := by decide +kernel
theorem dX4_empty_9 : decode cX4_empty 9 = .ok (.getfield 28, 3) := by decide +kernel
theorem dX4_empty_12 : decode cX4_empty 12 = .ok (.iconst 0, 1) := by decide +kernel
theorem dX4_empty_13 : decode cX4_empty 13 = .ok (.putfield 61, 3) := by decide +kernel
theorem dX4_empty_16 : decode cX4_empty 16 = .ok (.iload_n 1, 1) := by decide +kernel
theorem dX4_empty_17 : decode cX4_empty 17 = .ok (.ireturn, 1) := by decide +kernel
set_option maxRecDepth 20000 in
theorem ggX4_take_X4_isSlot : GoodIn wsX4_take wsX4_isSlot := goodIn_r _ [5] (by decide +kernel) (by decide +kernel)
set_option maxRecDepth 20000 in
theorem gX4_take_X4_isSlot : GoodIn wsX4_take (va_wsS RX4 86 yX4_isSlot wsX4_isSlot) := goodIn_app (goodIn_of _ (by decide +kernel)) ggX4_take_X4_isSlot
set_option maxRecDepth 20000 in
theorem ggX4_take_X4_settle : GoodIn wsX4_take wsX4_settle := goodIn_r _ [9, 10, 11, 12, 13, 14, 15, 16, 17, 18, 19, 20, 21, 22, 23, 24, 25, 26, 27, 28, 29, 30, 31, 32, 33, 34, 35, 36, 37, 38, 39, 43, 44, 45, 46] (by decide +kernel) (by decide +kernel)
set_option maxRecDepth 20000 in
theorem gX4_take_X4_settle : GoodIn wsX4_take (wsV RX4 111 RX4 yX4_settle wsX4_settle) := goodIn_app (goodIn_of _ (by decide +kernel)) ggX4_take_X4_settle
theorem dX4_take_0 : decode cX4_take 0 = .ok (.iload_n 1, 1) := by decide +kernel
theorem dX4_take_1 : decode cX4_take 1 = .ok (.invokestatic 86, 3) := by decide +kernel
theorem dX4_take_4 : decode cX4_take 4 = .ok (.ifCond .eq 18, 3) := by decide +kernel
theorem dX4_take_7 : decode cX4_take 7 = .ok (.iload_n 2, 1) := by decide +kernel
theorem dX4_take_8 : decode cX4_take 8 = .ok (.ifCond .lt 14, 3) := by decide +kernel
theorem dX4_take_11 : decode cX4_take 11 = .ok (.iload_n 2, 1) := by decide +kernel
theorem dX4_take_12 : decode cX4_take 12 = .ok (.aload_n 0, 1) := by decide +kernel
theorem dX4_take_13 : decode cX4_take 13 = .ok (.getfield 28, 3) := by decide +kernel
theorem dX4_take_16 : decode cX4_take 16 = .ok (.getfield 61, 3) := by decide +kernel
theorem dX4_take_19 : decode cX4_take 19 = .ok (.if_icmp .lt 6, 3) := by decide +kernel
theorem dX4_take_22 : decode cX4_take 22 = .ok (.bipush (-101), 2) := by decide +kernel
theorem dX4_take_24 : decode cX4_take 24 = .ok (.ireturn, 1) := by decide +kernel
theorem dX4_take_25 : decode cX4_take 25 = .ok (.aload_n 0, 1) := by decide +kernel
theorem dX4_take_26 : decode cX4_take 26 = .ok (.aload_n 0, 1) := by decide +kernel
theorem dX4_take_27 : decode cX4_take 27 = .ok (.getfield 28, 3) := by decide +kernel
theorem dX4_take_30 : decode cX4_take 30 = .ok (.getfield 151, 3) := by decide +kernel
theorem dX4_take_33 : decode cX4_take 33 = .ok (.iload_n 2, 1) := by decide +kernel
theorem dX4_take_34 : decode cX4_take 34 = .ok (.aaload, 1) := by decide +kernel
theorem dX4_take_35 : decode cX4_take 35 = .ok (.iload_n 1, 1) := by decide +kernel
theorem dX4_take_36 : decode cX4_take 36 = .ok (.invokevirtual 111, 3) := by decide +kernel
theorem dX4_take_39 : decode cX4_take 39 = .ok (.ireturn, 1) := by decide +kernel
set_option maxRecDepth 20000 in
theorem ggX4_least_X1_leastDistance : GoodIn wsX4_least wsX1_leastDistance := goodIn_r _ [5, 6, 7, 8, 9, 10, 11, 12, 13, 14, 15, 16, 17, 18, 19, 20, 21, 22, 23, 24, 25, 26, 27, 28, 29, 30, 31, 32, 33, 34, 35, 36, 37, 38, 39, 40, 41, 42, 43, 44, 45, 46, 47, 48, 49, 50, 51, 52, 53, 54, 55, 56, 57, 58, 59, 60, 61, 62, 63, 64, 74, 75, 76, 77, 78, 79, 80, 81, 82, 83] (by decide +kernel) (by decide +kernel)
set_option maxRecDepth 20000 in
theorem gX4_least_X1_leastDistance_n153 : GoodIn wsX4_least (wsX1_leastDistance) := ggX4_least_X1_leastDistance
theorem dX4_least_0 : decode cX4_least 0 = .ok (.aload_n 0, 1) := by decide +kernel
theorem dX4_least_1 : decode cX4_least 1 = .ok (.getfield 28, 3) := by decide +kernel
theorem dX4_least_4 : decode cX4_least 4 = .ok (.invokevirtual 153, 3) := by decide +kernel
theorem dX4_least_7 : decode cX4_least 7 = .ok (.ireturn, 1) := by decide +kernel
set_option maxRecDepth 20000 in
theorem ggX4_bare_X0_spell : GoodIn wsX4_bare wsX0_spell := goodIn_r _ [7, 8, 9, 40, 41, 42] (by decide +kernel) (by decide +kernel)
set_option maxRecDepth 20000 in
theorem gX4_bare_X0_spell_n89 : GoodIn wsX4_bare (wsX0_spell) := ggX4_bare_X0_spell
set_option maxRecDepth 20000 in
theorem ggX4_bare_X1_covers : GoodIn wsX4_bare wsX1_covers := goodIn_r _ [13, 14, 15, 16, 17, 18, 19, 20, 21, 22, 23, 24, 25, 26, 27, 28, 29, 30, 43, 44, 45, 46, 47, 48, 49, 40, 41, 42] (by decide +kernel) (by decide +kernel)
set_option maxRecDepth 20000 in
theorem gX4_bare_X1_covers_n156 : GoodIn wsX4_bare (wsX1_covers) := ggX4_bare_X1_covers
theorem dX4_bare_0 : decode cX4_bare 0 = .ok (.iconst 0, 1) := by decide +kernel
theorem dX4_bare_1 : decode cX4_bare 1 = .ok (.istore_n 1, 1) := by decide +kernel
theorem dX4_bare_2 : decode cX4_bare 2 = .ok (.iconst 0, 1) := by decide +kernel
theorem dX4_bare_3 : decode cX4_bare 3 = .ok (.istore_n 2, 1) := by decide +kernel
theorem dX4_bare_4 : decode cX4_bare 4 = .ok (.iload_n 2, 1) := by decide +kernel
theorem dX4_bare_5 : decode cX4_bare 5 = .ok (.aload_n 0, 1) := by decide +kernel
theorem dX4_bare_6 : decode cX4_bare 6 = .ok (.getfield 10, 3) := by decide +kernel
theorem dX4_bare_9 : decode cX4_bare 9 = .ok (.getfield 68, 3) := by decide +kernel
theorem dX4_bare_12 : decode cX4_bare 12 = .ok (.if_icmp .ge 39, 3) := by decide +kernel
theorem dX4_bare_15 : decode cX4_bare 15 = .ok (.aload_n 0, 1) := by decide +kernel
theorem dX4_bare_16 : decode cX4_bare 16 = .ok (.getfield 10, 3) := by decide +kernel
theorem dX4_bare_19 : decode cX4_bare 19 = .ok (.iload_n 2, 1) := by decide +kernel
theorem dX4_bare_20 : decode cX4_bare 20 = .ok (.aload_n 0, 1) := by decide +kernel
theorem dX4_bare_21 : decode cX4_bare 21 = .ok (.getfield 46, 3) := by decide +kernel
theorem dX4_bare_24 : decode cX4_bare 24 = .ok (.iconst 0, 1) := by decide +kernel
theorem dX4_bare_25 : decode cX4_bare 25 = .ok (.invokevirtual 89, 3) := by decide +kernel
theorem dX4_bare_28 : decode cX4_bare 28 = .ok (.aload_n 0, 1) := by decide +kernel
theorem dX4_bare_29 : decode cX4_bare 29 = .ok (.getfield 28, 3) := by decide +kernel
theorem dX4_bare_32 : decode cX4_bare 32 = .ok (.aload_n 0, 1) := by decide +kernel
theorem dX4_bare_33 : decode cX4_bare 33 = .ok (.getfield 46, 3) := by decide +kernel
theorem dX4_bare_36 : decode cX4_bare 36 = .ok (.invokevirtual 156, 3) := by decide +kernel
theorem dX4_bare_39 : decode cX4_bare 39 = .ok (.ifCond .ne 6, 3) := by decide +kernel
theorem dX4_bare_42 : decode cX4_bare 42 = .ok (.iinc 1 1, 3) := by decide +kernel
theorem dX4_bare_45 : decode cX4_bare 45 = .ok (.iinc 2 1, 3) := by decide +kernel
theorem dX4_bare_48 : decode cX4_bare 48 = .ok (.goto (-44), 3) := by decide +kernel
theorem dX4_bare_51 : decode cX4_bare 51 = .ok (.iload_n 1, 1) := by decide +kernel
theorem dX4_bare_52 : decode cX4_bare 52 = .ok (.ireturn, 1) := by decide +kernel
set_option maxRecDepth 20000 in
theorem ggX4_greedy_X4_isDim : GoodIn wsX4_greedy wsX4_isDim := goodIn_r _ [9, 3, 98, 99, 100, 101, 102, 103, 104, 105, 106, 110, 111, 112] (by decide +kernel) (by decide +kernel)
set_option maxRecDepth 20000 in
theorem gX4_greedy_X4_isDim : GoodIn wsX4_greedy (wsV RX4 133 RX4 yX4_isDim wsX4_isDim) := goodIn_app (goodIn_of _ (by decide +kernel)) ggX4_greedy_X4_isDim
set_option maxRecDepth 20000 in
theorem ggX4_greedy_X0_spaces : GoodIn wsX4_greedy wsX0_spaces := goodIn_r _ [13, 14, 15, 16, 11, 17, 18, 110, 111, 112] (by decide +kernel) (by decide +kernel)
set_option maxRecDepth 20000 in
theorem gX4_greedy_X0_spaces_n139 : GoodIn wsX4_greedy (wsX0_spaces) := ggX4_greedy_X0_spaces
set_option maxRecDepth 20000 in
theorem ggX4_greedy_X3_becomeOrdinal : GoodIn wsX4_greedy wsX3_becomeOrdinal := goodIn_r _ [22, 23, 24, 25, 26, 27, 28, 29, 30, 31, 32, 33, 34, 20, 35, 15, 11, 16, 17, 18, 36, 37, 38, 39, 40, 41, 42, 43, 44, 45, 46, 47, 48, 113, 114, 115, 116, 110, 111, 112] (by decide +kernel) (by decide +kernel)
set_option maxRecDepth 20000 in
theorem gX4_greedy_X3_becomeOrdinal_n142 : GoodIn wsX4_greedy (wsX3_becomeOrdinal) := ggX4_greedy_X3_becomeOrdinal
set_option maxRecDepth 20000 in
theorem ggX4_greedy_X1_allApart : GoodIn wsX4_greedy wsX1_allApart := goodIn_r _ [52, 53, 54, 55, 56, 20, 57, 58, 59, 60, 61, 62, 24, 40, 63, 64, 65, 66, 67, 68, 69, 70, 23, 71, 45, 46, 47, 48, 72, 73, 74, 75, 76, 77, 78, 79, 80, 11, 81, 82, 83, 18, 84, 85, 86, 87, 88, 89, 90, 91, 92, 93, 94, 25, 26, 27, 28, 29, 30, 31, 107, 108, 109, 113, 114, 115, 116, 110, 111, 112] (by decide +kernel) (by decide +kernel)
set_option maxRecDepth 20000 in
theorem gX4_greedy_X1_allApart_n163 : GoodIn wsX4_greedy (wsX1_allApart) := ggX4_greedy_X1_allApart
set_option maxRecDepth 20000 in
theorem ggX4_greedy_X1_accept : GoodIn wsX4_greedy wsX1_accept := goodIn_r _ [97, 53, 55, 60, 20, 61, 62, 24, 40, 63, 64, 65, 66, 107, 108, 109, 113, 114, 115, 116] (by decide +kernel) (by decide +kernel)
set_option maxRecDepth 20000 in
theorem gX4_greedy_X1_accept_n148 : GoodIn wsX4_greedy (wsX1_accept) := ggX4_greedy_X1_accept
theorem dX4_greedy_0 : decode cX4_greedy 0 = .ok (.aload_n 0, 1) := by decide +kernel
theorem dX4_greedy_1 : decode cX4_greedy 1 = .ok (.iload_n 1, 1) := by decide +kernel
theorem dX4_greedy_2 : decode cX4_greedy 2 = .ok (.invokevirtual 133, 3) := by decide +kernel
theorem dX4_greedy_5 : decode cX4_greedy 5 = .ok (.ifCond .eq 14, 3) := by decide +kernel
theorem dX4_greedy_8 : decode cX4_greedy 8 = .ok (.iload_n 2, 1) := by decide +kernel
theorem dX4_greedy_9 : decode cX4_greedy 9 = .ok (.iconst 1, 1) := by decide +kernel
theorem dX4_greedy_10 : decode cX4_greedy 10 = .ok (.if_icmp .lt 9, 3) := by decide +kernel
theorem dX4_greedy_13 : decode cX4_greedy 13 = .ok (.iload_n 2, 1) := by decide +kernel
theorem dX4_greedy_14 : decode cX4_greedy 14 = .ok (.bipush 12, 2) := by decide +kernel
theorem dX4_greedy_16 : decode cX4_greedy 16 = .ok (.if_icmp .le 6, 3) := by decide +kernel
theorem dX4_greedy_19 : decode cX4_greedy 19 = .ok (.bipush (-102), 2) := by decide +kernel
theorem dX4_greedy_21 : decode cX4_greedy 21 = .ok (.ireturn, 1) := by decide +kernel
theorem dX4_greedy_22 : decode cX4_greedy 22 = .ok (.aload_n 0, 1) := by decide +kernel
theorem dX4_greedy_23 : decode cX4_greedy 23 = .ok (.getfield 160, 3) := by decide +kernel
theorem dX4_greedy_26 : decode cX4_greedy 26 = .ok (.bipush 10, 2) := by decide +kernel
theorem dX4_greedy_28 : decode cX4_greedy 28 = .ok (.if_icmp .lt 6, 3) := by decide +kernel
theorem dX4_greedy_31 : decode cX4_greedy 31 = .ok (.bipush (-103), 2) := by decide +kernel
theorem dX4_greedy_33 : decode cX4_greedy 33 = .ok (.ireturn, 1) := by decide +kernel
theorem dX4_greedy_34 : decode cX4_greedy 34 = .ok (.aload_n 0, 1) := by decide +kernel
theorem dX4_greedy_35 : decode cX4_greedy 35 = .ok (.dup, 1) := by decide +kernel
theorem dX4_greedy_36 : decode cX4_greedy 36 = .ok (.getfield 160, 3) := by decide +kernel
theorem dX4_greedy_39 : decode cX4_greedy 39 = .ok (.iconst 1, 1) := by decide +kernel
theorem dX4_greedy_40 : decode cX4_greedy 40 = .ok (.iadd, 1) := by decide +kernel
theorem dX4_greedy_41 : decode cX4_greedy 41 = .ok (.putfield 160, 3) := by decide +kernel
theorem dX4_greedy_44 : decode cX4_greedy 44 = .ok (.aload_n 0, 1) := by decide +kernel
theorem dX4_greedy_45 : decode cX4_greedy 45 = .ok (.getfield 28, 3) := by decide +kernel
theorem dX4_greedy_48 : decode cX4_greedy 48 = .ok (.iconst 0, 1) := by decide +kernel
theorem dX4_greedy_49 : decode cX4_greedy 49 = .ok (.putfield 61, 3) := by decide +kernel
theorem dX4_greedy_52 : decode cX4_greedy 52 = .ok (.aload_n 0, 1) := by decide +kernel
theorem dX4_greedy_53 : decode cX4_greedy 53 = .ok (.getfield 10, 3) := by decide +kernel
theorem dX4_greedy_56 : decode cX4_greedy 56 = .ok (.aload_n 0, 1) := by decide +kernel
theorem dX4_greedy_57 : decode cX4_greedy 57 = .ok (.getfield 10, 3) := by decide +kernel
theorem dX4_greedy_60 : decode cX4_greedy 60 = .ok (.getfield 136, 3) := by decide +kernel
theorem dX4_greedy_63 : decode cX4_greedy 63 = .ok (.iload_n 1, 1) := by decide +kernel
theorem dX4_greedy_64 : decode cX4_greedy 64 = .ok (.invokevirtual 139, 3) := by decide +kernel
theorem dX4_greedy_67 : decode cX4_greedy 67 = .ok (.istore_n 3, 1) := by decide +kernel
theorem dX4_greedy_68 : decode cX4_greedy 68 = .ok (.iconst 0, 1) := by decide +kernel
theorem dX4_greedy_69 : decode cX4_greedy 69 = .ok (.istore 4, 2) := by decide +kernel
theorem dX4_greedy_71 : decode cX4_greedy 71 = .ok (.iload 4, 2) := by decide +kernel
theorem dX4_greedy_73 : decode cX4_greedy 73 = .ok (.iload_n 3, 1) := by decide +kernel
theorem dX4_greedy_74 : decode cX4_greedy 74 = .ok (.if_icmp .ge 57, 3) := by decide +kernel
theorem dX4_greedy_77 : decode cX4_greedy 77 = .ok (.aload_n 0, 1) := by decide +kernel
theorem dX4_greedy_78 : decode cX4_greedy 78 = .ok (.getfield 28, 3) := by decide +kernel
theorem dX4_greedy_81 : decode cX4_greedy 81 = .ok (.getfield 61, 3) := by decide +kernel
theorem dX4_greedy_84 : decode cX4_greedy 84 = .ok (.bipush 40, 2) := by decide +kernel
theorem dX4_greedy_86 : decode cX4_greedy 86 = .ok (.if_icmp .ge 45, 3) := by decide +kernel
theorem dX4_greedy_89 : decode cX4_greedy 89 = .ok (.aload_n 0, 1) := by decide +kernel
theorem dX4_greedy_90 : decode cX4_greedy 90 = .ok (.getfield 39, 3) := by decide +kernel
theorem dX4_greedy_93 : decode cX4_greedy 93 = .ok (.iload_n 1, 1) := by decide +kernel
theorem dX4_greedy_94 : decode cX4_greedy 94 = .ok (.iload 4, 2) := by decide +kernel
theorem dX4_greedy_96 : decode cX4_greedy 96 = .ok (.invokevirtual 142, 3) := by decide +kernel
theorem dX4_greedy_99 : decode cX4_greedy 99 = .ok (.aload_n 0, 1) := by decide +kernel
theorem dX4_greedy_100 : decode cX4_greedy 100 = .ok (.getfield 28, 3) := by decide +kernel
theorem dX4_greedy_103 : decode cX4_greedy 103 = .ok (.aload_n 0, 1) := by decide +kernel
theorem dX4_greedy_104 : decode cX4_greedy 104 = .ok (.getfield 39, 3) := by decide +kernel
theorem dX4_greedy_107 : decode cX4_greedy 107 = .ok (.iload_n 2, 1) := by decide +kernel
theorem dX4_greedy_108 : decode cX4_greedy 108 = .ok (.invokevirtual 163, 3) := by decide +kernel
theorem dX4_greedy_111 : decode cX4_greedy 111 = .ok (.ifCond .eq 14, 3) := by decide +kernel
theorem dX4_greedy_114 : decode cX4_greedy 114 = .ok (.aload_n 0, 1) := by decide +kernel
theorem dX4_greedy_115 : decode cX4_greedy 115 = .ok (.getfield 28, 3) := by decide +kernel
theorem dX4_greedy_118 : decode cX4_greedy 118 = .ok (.aload_n 0, 1) := by decide +kernel
theorem dX4_greedy_119 : decode cX4_greedy 119 = .ok (.getfield 39, 3) := by decide +kernel
theorem dX4_greedy_122 : decode cX4_greedy 122 = .ok (.invokevirtual 148, 3) := by decide +kernel
theorem dX4_greedy_125 : decode cX4_greedy 125 = .ok (.iinc 4 1, 3) := by decide +kernel
theorem dX4_greedy_128 : decode cX4_greedy 128 = .ok (.goto (-57), 3) := by decide +kernel
theorem dX4_greedy_131 : decode cX4_greedy 131 = .ok (.aload_n 0, 1) := by decide +kernel
theorem dX4_greedy_132 : decode cX4_greedy 132 = .ok (.getfield 28, 3) := by decide +kernel
theorem dX4_greedy_135 : decode cX4_greedy 135 = .ok (.getfield 61, 3) := by decide +kernel
theorem dX4_greedy_138 : decode cX4_greedy 138 = .ok (.ireturn, 1) := by decide +kernel
set_option maxRecDepth 20000 in
theorem ggX4_image_X0_isVector : GoodIn wsX4_image wsX0_isVector := goodIn_r _ [6, 7, 34, 35, 36] (by decide +kernel) (by decide +kernel)
set_option maxRecDepth 20000 in
theorem gX4_image_X0_isVector_n71 : GoodIn wsX4_image (wsX0_isVector) := ggX4_image_X0_isVector
set_option maxRecDepth 20000 in
theorem ggX4_image_X2_imageNumber : GoodIn wsX4_image wsX2_imageNumber := goodIn_r _ [11, 12, 13, 14, 4, 15, 16, 17, 18, 37, 38, 39, 34, 35, 36] (by decide +kernel) (by decide +kernel)
set_option maxRecDepth 20000 in
theorem gX4_image_X2_imageNumber_n167 : GoodIn wsX4_image (wsX2_imageNumber) := ggX4_image_X2_imageNumber
set_option maxRecDepth 20000 in
theorem ggX4_image_X2_setImage : GoodIn wsX4_image wsX2_setImage := goodIn_r _ [21, 12, 13, 22, 4, 23, 24, 17, 18, 37, 38, 39, 34, 35, 36] (by decide +kernel) (by decide +kernel)
set_option maxRecDepth 20000 in
theorem gX4_image_X2_setImage_n170 : GoodIn wsX4_image (wsX2_setImage) := ggX4_image_X2_setImage
theorem dX4_image_0 : decode cX4_image 0 = .ok (.iload_n 1, 1) := by decide +kernel
theorem dX4_image_1 : decode cX4_image 1 = .ok (.ifCond .lt 25, 3) := by decide +kernel
theorem dX4_image_4 : decode cX4_image 4 = .ok (.iload_n 1, 1) := by decide +kernel
theorem dX4_image_5 : decode cX4_image 5 = .ok (.aload_n 0, 1) := by decide +kernel
theorem dX4_image_6 : decode cX4_image 6 = .ok (.getfield 10, 3) := by decide +kernel
theorem dX4_image_9 : decode cX4_image 9 = .ok (.getfield 136, 3) := by decide +kernel
theorem dX4_image_12 : decode cX4_image 12 = .ok (.if_icmp .ge 14, 3) := by decide +kernel
theorem dX4_image_15 : decode cX4_image 15 = .ok (.aload_n 0, 1) := by decide +kernel
theorem dX4_image_16 : decode cX4_image 16 = .ok (.getfield 10, 3) := by decide +kernel
theorem dX4_image_19 : decode cX4_image 19 = .ok (.iload_n 2, 1) := by decide +kernel
theorem dX4_image_20 : decode cX4_image 20 = .ok (.invokevirtual 71, 3) := by decide +kernel
theorem dX4_image_23 : decode cX4_image 23 = .ok (.ifCond .ne 6, 3) := by decide +kernel
theorem dX4_image_26 : decode cX4_image 26 = .ok (.bipush (-101), 2) := by decide +kernel
theorem dX4_image_28 : decode cX4_image 28 = .ok (.ireturn, 1) := by decide +kernel
theorem dX4_image_29 : decode cX4_image 29 = .ok (.aload_n 0, 1) := by decide +kernel
theorem dX4_image_30 : decode cX4_image 30 = .ok (.getfield 35, 3) := by decide +kernel
theorem dX4_image_33 : decode cX4_image 33 = .ok (.iload_n 1, 1) := by decide +kernel
theorem dX4_image_34 : decode cX4_image 34 = .ok (.invokevirtual 167, 3) := by decide +kernel
theorem dX4_image_37 : decode cX4_image 37 = .ok (.istore_n 3, 1) := by decide +kernel
theorem dX4_image_38 : decode cX4_image 38 = .ok (.aload_n 0, 1) := by decide +kernel
theorem dX4_image_39 : decode cX4_image 39 = .ok (.getfield 35, 3) := by decide +kernel
theorem dX4_image_42 : decode cX4_image 42 = .ok (.iload_n 1, 1) := by decide +kernel
theorem dX4_image_43 : decode cX4_image 43 = .ok (.iload_n 2, 1) := by decide +kernel
theorem dX4_image_44 : decode cX4_image 44 = .ok (.invokevirtual 170, 3) := by decide +kernel
theorem dX4_image_47 : decode cX4_image 47 = .ok (.iload_n 3, 1) := by decide +kernel
theorem dX4_image_48 : decode cX4_image 48 = .ok (.ireturn, 1) := by decide +kernel
set_option maxRecDepth 20000 in
theorem ggX4_mapped_X0_isVector : GoodIn wsX4_mapped wsX0_isVector := goodIn_r _ [7, 8, 44, 45, 46] (by decide +kernel) (by decide +kernel)
set_option maxRecDepth 20000 in
theorem gX4_mapped_X0_isVector_n71 : GoodIn wsX4_mapped (wsX0_isVector) := ggX4_mapped_X0_isVector
set_option maxRecDepth 20000 in
theorem ggX4_mapped_X0_spell : GoodIn wsX4_mapped wsX0_spell := goodIn_r _ [11, 12, 13, 44, 45, 46] (by decide +kernel) (by decide +kernel)
set_option maxRecDepth 20000 in
theorem gX4_mapped_X0_spell_n89 : GoodIn wsX4_mapped (wsX0_spell) := ggX4_mapped_X0_spell
set_option maxRecDepth 20000 in
theorem ggX4_mapped_X2_apply : GoodIn wsX4_mapped wsX2_apply := goodIn_r _ [17, 18, 19, 20, 21, 22, 15, 23, 24, 25, 26, 27, 28, 29, 5, 30, 31, 12, 13, 32, 33, 34, 47, 48, 49, 44, 45, 46] (by decide +kernel) (by decide +kernel)
set_option maxRecDepth 20000 in
theorem gX4_mapped_X2_apply_n173 : GoodIn wsX4_mapped (wsX2_apply) := ggX4_mapped_X2_apply
theorem dX4_mapped_0 : decode cX4_mapped 0 = .ok (.aload_n 0, 1) := by decide +kernel
theorem dX4_mapped_1 : decode cX4_mapped 1 = .ok (.getfield 10, 3) := by decide +kernel
theorem dX4_mapped_4 : decode cX4_mapped 4 = .ok (.iload_n 1, 1) := by decide +kernel
theorem dX4_mapped_5 : decode cX4_mapped 5 = .ok (.invokevirtual 71, 3) := by decide +kernel
theorem dX4_mapped_8 : decode cX4_mapped 8 = .ok (.ifCond .ne 6, 3) := by decide +kernel
theorem dX4_mapped_11 : decode cX4_mapped 11 = .ok (.bipush (-101), 2) := by decide +kernel
theorem dX4_mapped_13 : decode cX4_mapped 13 = .ok (.ireturn, 1) := by decide +kernel
theorem dX4_mapped_14 : decode cX4_mapped 14 = .ok (.aload_n 0, 1) := by decide +kernel
theorem dX4_mapped_15 : decode cX4_mapped 15 = .ok (.getfield 10, 3) := by decide +kernel
theorem dX4_mapped_18 : decode cX4_mapped 18 = .ok (.iload_n 1, 1) := by decide +kernel
theorem dX4_mapped_19 : decode cX4_mapped 19 = .ok (.aload_n 0, 1) := by decide +kernel
theorem dX4_mapped_20 : decode cX4_mapped 20 = .ok (.getfield 46, 3) := by decide +kernel
theorem dX4_mapped_23 : decode cX4_mapped 23 = .ok (.iconst 0, 1) := by decide +kernel
theorem dX4_mapped_24 : decode cX4_mapped 24 = .ok (.invokevirtual 89, 3) := by decide +kernel
theorem dX4_mapped_27 : decode cX4_mapped 27 = .ok (.aload_n 0, 1) := by decide +kernel
theorem dX4_mapped_28 : decode cX4_mapped 28 = .ok (.getfield 35, 3) := by decide +kernel
theorem dX4_mapped_31 : decode cX4_mapped 31 = .ok (.aload_n 0, 1) := by decide +kernel
theorem dX4_mapped_32 : decode cX4_mapped 32 = .ok (.getfield 46, 3) := by decide +kernel
theorem dX4_mapped_35 : decode cX4_mapped 35 = .ok (.invokevirtual 173, 3) := by decide +kernel
theorem dX4_mapped_38 : decode cX4_mapped 38 = .ok (.ireturn, 1) := by decide +kernel
set_option maxRecDepth 20000 in
theorem ggX4_map_X4_isSlot : GoodIn wsX4_map wsX4_isSlot := goodIn_r _ [7] (by decide +kernel) (by decide +kernel)
set_option maxRecDepth 20000 in
theorem gX4_map_X4_isSlot : GoodIn wsX4_map (va_wsS RX4 86 yX4_isSlot wsX4_isSlot) := goodIn_app (goodIn_of _ (by decide +kernel)) ggX4_map_X4_isSlot
set_option maxRecDepth 20000 in
theorem ggX4_map_X2_applyToSpace : GoodIn wsX4_map wsX2_applyToSpace := goodIn_r _ [11, 12, 13, 14, 15, 16, 17, 18, 19, 20, 21, 22, 23, 24, 25, 9, 26, 27, 28, 29, 30, 31, 32, 33, 34, 35, 36, 37, 38, 39, 40, 41, 42, 43, 44, 45, 46, 47, 48, 49, 50, 51, 52, 53, 54, 55, 56, 57, 58, 59, 60, 61, 62, 89, 90, 91, 92, 93, 94, 95, 96, 97, 98] (by decide +kernel) (by decide +kernel)
set_option maxRecDepth 20000 in
theorem gX4_map_X2_applyToSpace_n177 : GoodIn wsX4_map (wsX2_applyToSpace) := ggX4_map_X2_applyToSpace
set_option maxRecDepth 20000 in
theorem ggX4_map_X4_settle : GoodIn wsX4_map wsX4_settle := goodIn_r _ [66, 2, 67, 15, 68, 69, 18, 50, 42, 43, 44, 45, 70, 71, 72, 73, 74, 75, 76, 77, 78, 79, 80, 81, 82, 83, 84, 85, 86, 87, 88, 95, 96, 97, 98] (by decide +kernel) (by decide +kernel)
set_option maxRecDepth 20000 in
theorem gX4_map_X4_settle : GoodIn wsX4_map (wsV RX4 111 RX4 yX4_settle wsX4_settle) := goodIn_app (goodIn_of _ (by decide +kernel)) ggX4_map_X4_settle
theorem dX4_map_0 : decode cX4_map 0 = .ok (.iload_n 1, 1) := by decide +kernel
theorem dX4_map_1 : decode cX4_map 1 = .ok (.invokestatic 86, 3) := by decide +kernel
theorem dX4_map_4 : decode cX4_map 4 = .ok (.ifCond .eq 10, 3) := by decide +kernel
theorem dX4_map_7 : decode cX4_map 7 = .ok (.iload_n 2, 1) := by decide +kernel
theorem dX4_map_8 : decode cX4_map 8 = .ok (.invokestatic 86, 3) := by decide +kernel
theorem dX4_map_11 : decode cX4_map 11 = .ok (.ifCond .ne 6, 3) := by decide +kernel
theorem dX4_map_14 : decode cX4_map 14 = .ok (.bipush (-101), 2) := by decide +kernel
theorem dX4_map_16 : decode cX4_map 16 = .ok (.ireturn, 1) := by decide +kernel
theorem dX4_map_17 : decode cX4_map 17 = .ok (.aload_n 0, 1) := by decide +kernel
theorem dX4_map_18 : decode cX4_map 18 = .ok (.getfield 35, 3) := by decide +kernel
theorem dX4_map_21 : decode cX4_map 21 = .ok (.aload_n 0, 1) := by decide +kernel
theorem dX4_map_22 : decode cX4_map 22 = .ok (.getfield 18, 3) := by decide +kernel
theorem dX4_map_25 : decode cX4_map 25 = .ok (.iload_n 1, 1) := by decide +kernel
theorem dX4_map_26 : decode cX4_map 26 = .ok (.aaload, 1) := by decide +kernel
theorem dX4_map_27 : decode cX4_map 27 = .ok (.aload_n 0, 1) := by decide +kernel
theorem dX4_map_28 : decode cX4_map 28 = .ok (.getfield 39, 3) := by decide +kernel
theorem dX4_map_31 : decode cX4_map 31 = .ok (.invokevirtual 177, 3) := by decide +kernel
theorem dX4_map_34 : decode cX4_map 34 = .ok (.aload_n 0, 1) := by decide +kernel
theorem dX4_map_35 : decode cX4_map 35 = .ok (.aload_n 0, 1) := by decide +kernel
theorem dX4_map_36 : decode cX4_map 36 = .ok (.getfield 39, 3) := by decide +kernel
theorem dX4_map_39 : decode cX4_map 39 = .ok (.iload_n 2, 1) := by decide +kernel
theorem dX4_map_40 : decode cX4_map 40 = .ok (.invokevirtual 111, 3) := by decide +kernel
theorem dX4_map_43 : decode cX4_map 43 = .ok (.ireturn, 1) := by decide +kernel
set_option maxRecDepth 20000 in
theorem ggX4_kernel_X4_isSlot : GoodIn wsX4_kernel wsX4_isSlot := goodIn_r _ [7] (by decide +kernel) (by decide +kernel)
set_option maxRecDepth 20000 in
theorem gX4_kernel_X4_isSlot : GoodIn wsX4_kernel (va_wsS RX4 86 yX4_isSlot wsX4_isSlot) := goodIn_app (goodIn_of _ (by decide +kernel)) ggX4_kernel_X4_isSlot
set_option maxRecDepth 20000 in
theorem ggX4_kernel_X2_columnSpace : GoodIn wsX4_kernel wsX2_columnSpace := goodIn_r _ [11, 12, 13, 14, 15, 16, 17, 18, 19, 20, 21, 22, 23, 24, 25, 26, 27, 28, 29, 30, 31, 32, 33, 34, 35, 36, 37, 38, 39, 40, 41, 42, 43, 44, 45, 46, 47, 48, 49, 50, 51, 52, 53, 54, 90, 91, 92, 93, 94, 95, 96, 97, 98, 99] (by decide +kernel) (by decide +kernel)
set_option maxRecDepth 20000 in
theorem gX4_kernel_X2_columnSpace_n181 : GoodIn wsX4_kernel (wsX2_columnSpace) := ggX4_kernel_X2_columnSpace
set_option maxRecDepth 20000 in
theorem ggX4_kernel_X3_becomeDual : GoodIn wsX4_kernel wsX3_becomeDual := goodIn_r _ [57, 24, 23, 33, 58, 15, 17, 16, 18, 19, 38, 39, 40, 41, 59, 60, 61, 62, 29, 30, 31, 32, 34, 35, 36, 37, 42, 43, 44, 45, 46, 47, 48, 49, 50, 51, 52, 53, 54, 96, 97, 98, 99, 93, 94, 95] (by decide +kernel) (by decide +kernel)
set_option maxRecDepth 20000 in
theorem gX4_kernel_X3_becomeDual_n115 : GoodIn wsX4_kernel (wsX3_becomeDual) := ggX4_kernel_X3_becomeDual
set_option maxRecDepth 20000 in
theorem ggX4_kernel_X4_settle : GoodIn wsX4_kernel wsX4_settle := goodIn_r _ [66, 67, 68, 16, 69, 70, 19, 33, 25, 26, 27, 28, 71, 72, 73, 74, 75, 76, 77, 78, 79, 80, 81, 82, 83, 84, 85, 86, 87, 88, 89, 96, 97, 98, 99] (by decide +kernel) (by decide +kernel)
set_option maxRecDepth 20000 in
theorem gX4_kernel_X4_settle : GoodIn wsX4_kernel (wsV RX4 111 RX4 yX4_settle wsX4_settle) := goodIn_app (goodIn_of _ (by decide +kernel)) ggX4_kernel_X4_settle
theorem dX4_kernel_0 : decode cX4_kernel 0 = .ok (.iload_n 1, 1) := by decide +kernel
theorem dX4_kernel_1 : decode cX4_kernel 1 = .ok (.invokestatic 86, 3) := by decide +kernel
theorem dX4_kernel_4 : decode cX4_kernel 4 = .ok (.ifCond .ne 6, 3) := by decide +kernel
theorem dX4_kernel_7 : decode cX4_kernel 7 = .ok (.bipush (-101), 2) := by decide +kernel
theorem dX4_kernel_9 : decode cX4_kernel 9 = .ok (.ireturn, 1) := by decide +kernel
theorem dX4_kernel_10 : decode cX4_kernel 10 = .ok (.aload_n 0, 1) := by decide +kernel
theorem dX4_kernel_11 : decode cX4_kernel 11 = .ok (.getfield 35, 3) := by decide +kernel
theorem dX4_kernel_14 : decode cX4_kernel 14 = .ok (.aload_n 0, 1) := by decide +kernel
theorem dX4_kernel_15 : decode cX4_kernel 15 = .ok (.getfield 43, 3) := by decide +kernel
theorem dX4_kernel_18 : decode cX4_kernel 18 = .ok (.invokevirtual 181, 3) := by decide +kernel
theorem dX4_kernel_21 : decode cX4_kernel 21 = .ok (.aload_n 0, 1) := by decide +kernel
theorem dX4_kernel_22 : decode cX4_kernel 22 = .ok (.getfield 39, 3) := by decide +kernel
theorem dX4_kernel_25 : decode cX4_kernel 25 = .ok (.aload_n 0, 1) := by decide +kernel
theorem dX4_kernel_26 : decode cX4_kernel 26 = .ok (.getfield 43, 3) := by decide +kernel
theorem dX4_kernel_29 : decode cX4_kernel 29 = .ok (.invokevirtual 115, 3) := by decide +kernel
theorem dX4_kernel_32 : decode cX4_kernel 32 = .ok (.aload_n 0, 1) := by decide +kernel
theorem dX4_kernel_33 : decode cX4_kernel 33 = .ok (.aload_n 0, 1) := by decide +kernel
theorem dX4_kernel_34 : decode cX4_kernel 34 = .ok (.getfield 39, 3) := by decide +kernel
theorem dX4_kernel_37 : decode cX4_kernel 37 = .ok (.iload_n 1, 1) := by decide +kernel
theorem dX4_kernel_38 : decode cX4_kernel 38 = .ok (.invokevirtual 111, 3) := by decide +kernel
theorem dX4_kernel_41 : decode cX4_kernel 41 = .ok (.ireturn, 1) := by decide +kernel
set_option maxRecDepth 20000 in
theorem ggX4_round_X4_isSlot : GoodIn wsX4_round wsX4_isSlot := goodIn_r _ [6] (by decide +kernel) (by decide +kernel)
set_option maxRecDepth 20000 in
theorem gX4_round_X4_isSlot : GoodIn wsX4_round (va_wsS RX4 86 yX4_isSlot wsX4_isSlot) := goodIn_app (goodIn_of _ (by decide +kernel)) ggX4_round_X4_isSlot
set_option maxRecDepth 20000 in
theorem ggX4_round_X4_timesTillAgain : GoodIn wsX4_round wsX4_timesTillAgain := goodIn_r _ [10, 11, 12, 13, 14, 15, 16, 17, 18, 19, 20, 21, 22, 23, 24, 25, 26, 27, 28, 29, 30, 31, 32, 33, 34, 35, 36, 37, 38, 39, 40, 41, 42, 43, 44, 45, 46, 47, 48, 49, 50, 51, 52, 53, 54, 55, 56, 57, 58, 59, 60, 61, 62, 63, 64, 65, 66, 67, 68, 69, 70, 71, 72, 73, 74, 75, 76, 77, 78, 79, 80, 81, 82, 83, 84, 85, 86, 87, 88, 89, 90, 91, 92, 93, 94, 95, 96, 97, 98, 99, 100, 101, 102, 103, 104, 105, 106, 107, 108, 109, 110, 111, 112, 113, 114, 115, 116, 117, 118, 119, 120] (by decide +kernel) (by decide +kernel)
set_option maxRecDepth 20000 in
theorem gX4_round_X4_timesTillAgain : GoodIn wsX4_round (wsV RX4 187 RX4 yX4_timesTillAgain wsX4_timesTillAgain) := goodIn_app (goodIn_of _ (by decide +kernel)) ggX4_round_X4_timesTillAgain
theorem dX4_round_0 : decode cX4_round 0 = .ok (.iload_n 1, 1) := by decide +kernel
theorem dX4_round_1 : decode cX4_round 1 = .ok (.invokestatic 86, 3) := by decide +kernel
theorem dX4_round_4 : decode cX4_round 4 = .ok (.ifCond .ne 6, 3) := by decide +kernel
theorem dX4_round_7 : decode cX4_round 7 = .ok (.bipush (-101), 2) := by decide +kernel
theorem dX4_round_9 : decode cX4_round 9 = .ok (.ireturn, 1) := by decide +kernel
theorem dX4_round_10 : decode cX4_round 10 = .ok (.aload_n 0, 1) := by decide +kernel
theorem dX4_round_11 : decode cX4_round 11 = .ok (.getfield 184, 3) := by decide +kernel
theorem dX4_round_14 : decode cX4_round 14 = .ok (.bipush 60, 2) := by decide +kernel
theorem dX4_round_16 : decode cX4_round 16 = .ok (.if_icmp .lt 6, 3) := by decide +kernel
theorem dX4_round_19 : decode cX4_round 19 = .ok (.bipush (-103), 2) := by decide +kernel
theorem dX4_round_21 : decode cX4_round 21 = .ok (.ireturn, 1) := by decide +kernel
theorem dX4_round_22 : decode cX4_round 22 = .ok (.aload_n 0, 1) := by decide +kernel
theorem dX4_round_23 : decode cX4_round 23 = .ok (.dup, 1) := by decide +kernel
theorem dX4_round_24 : decode cX4_round 24 = .ok (.getfield 184, 3) := by decide +kernel
theorem dX4_round_27 : decode cX4_round 27 = .ok (.iconst 1, 1) := by decide +kernel
theorem dX4_round_28 : decode cX4_round 28 = .ok (.iadd, 1) := by decide +kernel
theorem dX4_round_29 : decode cX4_round 29 = .ok (.putfield 184, 3) := by decide +kernel
theorem dX4_round_32 : decode cX4_round 32 = .ok (.aload_n 0, 1) := by decide +kernel
theorem dX4_round_33 : decode cX4_round 33 = .ok (.aload_n 0, 1) := by decide +kernel
theorem dX4_round_34 : decode cX4_round 34 = .ok (.getfield 18, 3) := by decide +kernel
theorem dX4_round_37 : decode cX4_round 37 = .ok (.iload_n 1, 1) := by decide +kernel
theorem dX4_round_38 : decode cX4_round 38 = .ok (.aaload, 1) := by decide +kernel
theorem dX4_round_39 : decode cX4_round 39 = .ok (.invokevirtual 187, 3) := by decide +kernel
theorem dX4_round_42 : decode cX4_round 42 = .ok (.ireturn, 1) := by decide +kernel
theorem dX4_told_0 : decode cX4_told 0 = .ok (.iload_n 1, 1) := by decide +kernel
theorem dX4_told_1 : decode cX4_told 1 = .ok (.tableswitch 81 0 5 #[39, 47, 55, 63, 71, 76], 39) := by decide +kernel
theorem dX4_told_40 : decode cX4_told 40 = .ok (.aload_n 0, 1) := by decide +kernel
theorem dX4_told_41 : decode cX4_told 41 = .ok (.getfield 10, 3) := by decide +kernel
theorem dX4_told_44 : decode cX4_told 44 = .ok (.getfield 75, 3) := by decide +kernel
theorem dX4_told_47 : decode cX4_told 47 = .ok (.ireturn, 1) := by decide +kernel
theorem dX4_told_48 : decode cX4_told 48 = .ok (.aload_n 0, 1) := by decide +kernel
theorem dX4_told_49 : decode cX4_told 49 = .ok (.getfield 10, 3) := by decide +kernel
theorem dX4_told_52 : decode cX4_told 52 = .ok (.getfield 136, 3) := by decide +kernel
theorem dX4_told_55 : decode cX4_told 55 = .ok (.ireturn, 1) := by decide +kernel
theorem dX4_told_56 : decode cX4_told 56 = .ok (.aload_n 0, 1) := by decide +kernel
theorem dX4_told_57 : decode cX4_told 57 = .ok (.getfield 10, 3) := by decide +kernel
theorem dX4_told_60 : decode cX4_told 60 = .ok (.getfield 68, 3) := by decide +kernel
theorem dX4_told_63 : decode cX4_told 63 = .ok (.ireturn, 1) := by decide +kernel
theorem dX4_told_64 : decode cX4_told 64 = .ok (.aload_n 0, 1) := by decide +kernel
theorem dX4_told_65 : decode cX4_told 65 = .ok (.getfield 28, 3) := by decide +kernel
theorem dX4_told_68 : decode cX4_told 68 = .ok (.getfield 61, 3) := by decide +kernel
theorem dX4_told_71 : decode cX4_told 71 = .ok (.ireturn, 1) := by decide +kernel
theorem dX4_told_72 : decode cX4_told 72 = .ok (.aload_n 0, 1) := by decide +kernel
theorem dX4_told_73 : decode cX4_told 73 = .ok (.getfield 160, 3) := by decide +kernel
theorem dX4_told_76 : decode cX4_told 76 = .ok (.ireturn, 1) := by decide +kernel
theorem dX4_told_77 : decode cX4_told 77 = .ok (.aload_n 0, 1) := by decide +kernel
theorem dX4_told_78 : decode cX4_told 78 = .ok (.getfield 184, 3) := by decide +kernel
theorem dX4_told_81 : decode cX4_told 81 = .ok (.ireturn, 1) := by decide +kernel
theorem dX4_told_82 : decode cX4_told 82 = .ok (.bipush (-102), 2) := by decide +kernel
theorem dX4_told_84 : decode cX4_told 84 = .ok (.ireturn, 1) := by decide +kernel
set_option maxRecDepth 20000 in
theorem ggX4_digest_X4_fold : GoodIn wsX4_digest wsX4_fold := goodIn_r _ [11, 12] (by decide +kernel) (by decide +kernel)
set_option maxRecDepth 20000 in
theorem gX4_digest_X4_fold : GoodIn wsX4_digest (va_wsS RX4 193 yX4_fold wsX4_fold) := goodIn_app (goodIn_of _ (by decide +kernel)) ggX4_digest_X4_fold
set_option maxRecDepth 20000 in
theorem ggX4_digest_X4_foldSpace : GoodIn wsX4_digest wsX4_foldSpace := goodIn_r _ [15, 16, 17, 18, 19, 20, 21, 22, 23, 24, 25, 26, 27, 8, 9, 10, 11, 12, 28, 29, 30, 31, 32, 33, 34, 35, 36, 37, 38, 39, 40, 41, 42, 64, 65, 66, 67, 58, 59, 60] (by decide +kernel) (by decide +kernel)
set_option maxRecDepth 20000 in
theorem gX4_digest_X4_foldSpace : GoodIn wsX4_digest (va_wsS RX4 197 yX4_foldSpace wsX4_foldSpace) := goodIn_app (goodIn_of _ (by decide +kernel)) ggX4_digest_X4_foldSpace
set_option maxRecDepth 20000 in
theorem ggX4_digest_X2_imageNumber : GoodIn wsX4_digest wsX2_imageNumber := goodIn_r _ [46, 47, 48, 37, 38, 39, 40, 41, 42, 68, 69, 70, 58, 59, 60] (by decide +kernel) (by decide +kernel)
set_option maxRecDepth 20000 in
theorem gX4_digest_X2_imageNumber_n167 : GoodIn wsX4_digest (wsX2_imageNumber) := ggX4_digest_X2_imageNumber
theorem dX4_digest_0 : decode cX4_digest 0 = .ok (.ldc2_w 191, 3) := by decide +kernel
theorem dX4_digest_3 : decode cX4_digest 3 = .ok (.aload_n 0, 1) := by decide +kernel
theorem dX4_digest_4 : decode cX4_digest 4 = .ok (.getfield 10, 3) := by decide +kernel
theorem dX4_digest_7 : decode cX4_digest 7 = .ok (.getfield 75, 3) := by decide +kernel
theorem dX4_digest_10 : decode cX4_digest 10 = .ok (.invokestatic 193, 3) := by decide +kernel
theorem dX4_digest_13 : decode cX4_digest 13 = .ok (.aload_n 0, 1) := by decide +kernel
theorem dX4_digest_14 : decode cX4_digest 14 = .ok (.getfield 10, 3) := by decide +kernel
theorem dX4_digest_17 : decode cX4_digest 17 = .ok (.getfield 136, 3) := by decide +kernel
theorem dX4_digest_20 : decode cX4_digest 20 = .ok (.invokestatic 193, 3) := by decide +kernel
theorem dX4_digest_23 : decode cX4_digest 23 = .ok (.lstore_n 1, 1) := by decide +kernel
theorem dX4_digest_24 : decode cX4_digest 24 = .ok (.iconst 0, 1) := by decide +kernel
theorem dX4_digest_25 : decode cX4_digest 25 = .ok (.istore_n 3, 1) := by decide +kernel
theorem dX4_digest_26 : decode cX4_digest 26 = .ok (.iload_n 3, 1) := by decide +kernel
theorem dX4_digest_27 : decode cX4_digest 27 = .ok (.bipush 12, 2) := by decide +kernel
theorem dX4_digest_29 : decode cX4_digest 29 = .ok (.if_icmp .ge 20, 3) := by decide +kernel
theorem dX4_digest_32 : decode cX4_digest 32 = .ok (.lload_n 1, 1) := by decide +kernel
theorem dX4_digest_33 : decode cX4_digest 33 = .ok (.aload_n 0, 1) := by decide +kernel
theorem dX4_digest_34 : decode cX4_digest 34 = .ok (.getfield 18, 3) := by decide +kernel
theorem dX4_digest_37 : decode cX4_digest 37 = .ok (.iload_n 3, 1) := by decide +kernel
theorem dX4_digest_38 : decode cX4_digest 38 = .ok (.aaload, 1) := by decide +kernel
theorem dX4_digest_39 : decode cX4_digest 39 = .ok (.invokestatic 197, 3) := by decide +kernel
theorem dX4_digest_42 : decode cX4_digest 42 = .ok (.lstore_n 1, 1) := by decide +kernel
theorem dX4_digest_43 : decode cX4_digest 43 = .ok (.iinc 3 1, 3) := by decide +kernel
theorem dX4_digest_46 : decode cX4_digest 46 = .ok (.goto (-20), 3) := by decide +kernel
theorem dX4_digest_49 : decode cX4_digest 49 = .ok (.iconst 0, 1) := by decide +kernel
theorem dX4_digest_50 : decode cX4_digest 50 = .ok (.istore_n 3, 1) := by decide +kernel
theorem dX4_digest_51 : decode cX4_digest 51 = .ok (.iload_n 3, 1) := by decide +kernel
theorem dX4_digest_52 : decode cX4_digest 52 = .ok (.aload_n 0, 1) := by decide +kernel
theorem dX4_digest_53 : decode cX4_digest 53 = .ok (.getfield 28, 3) := by decide +kernel
theorem dX4_digest_56 : decode cX4_digest 56 = .ok (.getfield 61, 3) := by decide +kernel
theorem dX4_digest_59 : decode cX4_digest 59 = .ok (.if_icmp .ge 23, 3) := by decide +kernel
theorem dX4_digest_62 : decode cX4_digest 62 = .ok (.lload_n 1, 1) := by decide +kernel
theorem dX4_digest_63 : decode cX4_digest 63 = .ok (.aload_n 0, 1) := by decide +kernel
theorem dX4_digest_64 : decode cX4_digest 64 = .ok (.getfield 28, 3) := by decide +kernel
theorem dX4_digest_67 : decode cX4_digest 67 = .ok (.getfield 151, 3) := by decide +kernel
theorem dX4_digest_70 : decode cX4_digest 70 = .ok (.iload_n 3, 1) := by decide +kernel
theorem dX4_digest_71 : decode cX4_digest 71 = .ok (.aaload, 1) := by decide +kernel
theorem dX4_digest_72 : decode cX4_digest 72 = .ok (.invokestatic 197, 3) := by decide +kernel
theorem dX4_digest_75 : decode cX4_digest 75 = .ok (.lstore_n 1, 1) := by decide +kernel
theorem dX4_digest_76 : decode cX4_digest 76 = .ok (.iinc 3 1, 3) := by decide +kernel
theorem dX4_digest_79 : decode cX4_digest 79 = .ok (.goto (-28), 3) := by decide +kernel
theorem dX4_digest_82 : decode cX4_digest 82 = .ok (.iconst 0, 1) := by decide +kernel
theorem dX4_digest_83 : decode cX4_digest 83 = .ok (.istore_n 3, 1) := by decide +kernel
theorem dX4_digest_84 : decode cX4_digest 84 = .ok (.iload_n 3, 1) := by decide +kernel
theorem dX4_digest_85 : decode cX4_digest 85 = .ok (.aload_n 0, 1) := by decide +kernel
theorem dX4_digest_86 : decode cX4_digest 86 = .ok (.getfield 10, 3) := by decide +kernel
theorem dX4_digest_89 : decode cX4_digest 89 = .ok (.getfield 136, 3) := by decide +kernel
theorem dX4_digest_92 : decode cX4_digest 92 = .ok (.if_icmp .ge 22, 3) := by decide +kernel
theorem dX4_digest_95 : decode cX4_digest 95 = .ok (.lload_n 1, 1) := by decide +kernel
theorem dX4_digest_96 : decode cX4_digest 96 = .ok (.aload_n 0, 1) := by decide +kernel
theorem dX4_digest_97 : decode cX4_digest 97 = .ok (.getfield 35, 3) := by decide +kernel
theorem dX4_digest_100 : decode cX4_digest 100 = .ok (.iload_n 3, 1) := by decide +kernel
theorem dX4_digest_101 : decode cX4_digest 101 = .ok (.invokevirtual 167, 3) := by decide +kernel
theorem dX4_digest_104 : decode cX4_digest 104 = .ok (.invokestatic 193, 3) := by decide +kernel
theorem dX4_digest_107 : decode cX4_digest 107 = .ok (.lstore_n 1, 1) := by decide +kernel
theorem dX4_digest_108 : decode cX4_digest 108 = .ok (.iinc 3 1, 3) := by decide +kernel
theorem dX4_digest_111 : decode cX4_digest 111 = .ok (.goto (-27), 3) := by decide +kernel
theorem dX4_digest_114 : decode cX4_digest 114 = .ok (.lload_n 1, 1) := by decide +kernel
theorem dX4_digest_115 : decode cX4_digest 115 = .ok (.aload_n 0, 1) := by decide +kernel
theorem dX4_digest_116 : decode cX4_digest 116 = .ok (.getfield 160, 3) := by decide +kernel
theorem dX4_digest_119 : decode cX4_digest 119 = .ok (.invokestatic 193, 3) := by decide +kernel
theorem dX4_digest_122 : decode cX4_digest 122 = .ok (.aload_n 0, 1) := by decide +kernel
theorem dX4_digest_123 : decode cX4_digest 123 = .ok (.getfield 184, 3) := by decide +kernel
theorem dX4_digest_126 : decode cX4_digest 126 = .ok (.invokestatic 193, 3) := by decide +kernel
theorem dX4_digest_129 : decode cX4_digest 129 = .ok (.lreturn, 1) := by decide +kernel
theorem dX4_mostPlaces_0 : decode cX4_mostPlaces 0 = .ok (.iload_n 0, 1) := by decide +kernel
theorem dX4_mostPlaces_1 : decode cX4_mostPlaces 1 = .ok (.tableswitch 38 2 5 #[31, 34, 38, 36], 31) := by decide +kernel
theorem dX4_mostPlaces_32 : decode cX4_mostPlaces 32 = .ok (.bipush 6, 2) := by decide +kernel
theorem dX4_mostPlaces_34 : decode cX4_mostPlaces 34 = .ok (.ireturn, 1) := by decide +kernel
theorem dX4_mostPlaces_35 : decode cX4_mostPlaces 35 = .ok (.iconst 5, 1) := by decide +kernel
theorem dX4_mostPlaces_36 : decode cX4_mostPlaces 36 = .ok (.ireturn, 1) := by decide +kernel
theorem dX4_mostPlaces_37 : decode cX4_mostPlaces 37 = .ok (.iconst 4, 1) := by decide +kernel
theorem dX4_mostPlaces_38 : decode cX4_mostPlaces 38 = .ok (.ireturn, 1) := by decide +kernel
theorem dX4_mostPlaces_39 : decode cX4_mostPlaces 39 = .ok (.iconst 0, 1) := by decide +kernel
theorem dX4_mostPlaces_40 : decode cX4_mostPlaces 40 = .ok (.ireturn, 1) := by decide +kernel
theorem dX4_isSlot_0 : decode cX4_isSlot 0 = .ok (.iload_n 0, 1) := by decide +kernel
theorem dX4_isSlot_1 : decode cX4_isSlot 1 = .ok (.ifCond .lt 13, 3) := by decide +kernel
theorem dX4_isSlot_4 : decode cX4_isSlot 4 = .ok (.iload_n 0, 1) := by decide +kernel
theorem dX4_isSlot_5 : decode cX4_isSlot 5 = .ok (.bipush 12, 2) := by decide +kernel
theorem dX4_isSlot_7 : decode cX4_isSlot 7 = .ok (.if_icmp .ge 7, 3) := by decide +kernel
theorem dX4_isSlot_10 : decode cX4_isSlot 10 = .ok (.iconst 1, 1) := by decide +kernel
theorem dX4_isSlot_11 : decode cX4_isSlot 11 = .ok (.goto 4, 3) := by decide +kernel
theorem dX4_isSlot_14 : decode cX4_isSlot 14 = .ok (.iconst 0, 1) := by decide +kernel
theorem dX4_isSlot_15 : decode cX4_isSlot 15 = .ok (.ireturn, 1) := by decide +kernel
theorem dX4_isDim_0 : decode cX4_isDim 0 = .ok (.iload_n 1, 1) := by decide +kernel
theorem dX4_isDim_1 : decode cX4_isDim 1 = .ok (.ifCond .lt 18, 3) := by decide +kernel
theorem dX4_isDim_4 : decode cX4_isDim 4 = .ok (.iload_n 1, 1) := by decide +kernel
theorem dX4_isDim_5 : decode cX4_isDim 5 = .ok (.aload_n 0, 1) := by decide +kernel
theorem dX4_isDim_6 : decode cX4_isDim 6 = .ok (.getfield 10, 3) := by decide +kernel
theorem dX4_isDim_9 : decode cX4_isDim 9 = .ok (.getfield 136, 3) := by decide +kernel
theorem dX4_isDim_12 : decode cX4_isDim 12 = .ok (.if_icmp .gt 7, 3) := by decide +kernel
theorem dX4_isDim_15 : decode cX4_isDim 15 = .ok (.iconst 1, 1) := by decide +kernel
theorem dX4_isDim_16 : decode cX4_isDim 16 = .ok (.goto 4, 3) := by decide +kernel
theorem dX4_isDim_19 : decode cX4_isDim 19 = .ok (.iconst 0, 1) := by decide +kernel
theorem dX4_isDim_20 : decode cX4_isDim 20 = .ok (.ireturn, 1) := by decide +kernel
set_option maxRecDepth 20000 in
theorem ggX4_settle_X3_copyFrom : GoodIn wsX4_settle wsX3_copyFrom := goodIn_r _ [5, 6, 7, 8, 9, 10, 11, 31, 32, 33, 34] (by decide +kernel) (by decide +kernel)
set_option maxRecDepth 20000 in
theorem gX4_settle_X3_copyFrom_n104 : GoodIn wsX4_settle (wsX3_copyFrom) := ggX4_settle_X3_copyFrom
set_option maxRecDepth 20000 in
theorem ggX4_settle_X3_rank : GoodIn wsX4_settle wsX3_rank := goodIn_r _ [14, 6, 15, 16, 17, 18, 19, 20, 21, 31, 32, 33, 34] (by decide +kernel) (by decide +kernel)
set_option maxRecDepth 20000 in
theorem gX4_settle_X3_rank_n97 : GoodIn wsX4_settle (wsX3_rank) := ggX4_settle_X3_rank
theorem dX4_settle_0 : decode cX4_settle 0 = .ok (.aload_n 0, 1) := by decide +kernel
theorem dX4_settle_1 : decode cX4_settle 1 = .ok (.getfield 18, 3) := by decide +kernel
theorem dX4_settle_4 : decode cX4_settle 4 = .ok (.iload_n 2, 1) := by decide +kernel
theorem dX4_settle_5 : decode cX4_settle 5 = .ok (.aaload, 1) := by decide +kernel
theorem dX4_settle_6 : decode cX4_settle 6 = .ok (.aload_n 1, 1) := by decide +kernel
theorem dX4_settle_7 : decode cX4_settle 7 = .ok (.invokevirtual 104, 3) := by decide +kernel
theorem dX4_settle_10 : decode cX4_settle 10 = .ok (.aload_n 1, 1) := by decide +kernel
theorem dX4_settle_11 : decode cX4_settle 11 = .ok (.invokevirtual 97, 3) := by decide +kernel
theorem dX4_settle_14 : decode cX4_settle 14 = .ok (.ireturn, 1) := by decide +kernel
set_option maxRecDepth 20000 in
theorem ggX4_timesTillAgain_X3_copyFrom : GoodIn wsX4_timesTillAgain wsX3_copyFrom := goodIn_r _ [12, 13, 14, 15, 16, 17, 18, 104, 105, 106, 107] (by decide +kernel) (by decide +kernel)
set_option maxRecDepth 20000 in
theorem gX4_timesTillAgain_X3_copyFrom_n104 : GoodIn wsX4_timesTillAgain (wsX3_copyFrom) := ggX4_timesTillAgain_X3_copyFrom
set_option maxRecDepth 20000 in
theorem ggX4_timesTillAgain_X2_applyToSpace : GoodIn wsX4_timesTillAgain wsX2_applyToSpace := goodIn_r _ [22, 23, 24, 25, 10, 26, 27, 13, 28, 29, 30, 31, 32, 33, 34, 20, 35, 36, 37, 38, 39, 40, 41, 42, 43, 44, 45, 46, 47, 48, 49, 50, 15, 16, 17, 18, 51, 52, 53, 54, 14, 55, 56, 57, 58, 59, 60, 61, 62, 63, 64, 65, 66, 108, 109, 110, 101, 102, 103, 104, 105, 106, 107] (by decide +kernel) (by decide +kernel)
set_option maxRecDepth 20000 in
theorem gX4_timesTillAgain_X2_applyToSpace_n177 : GoodIn wsX4_timesTillAgain (wsX2_applyToSpace) := ggX4_timesTillAgain_X2_applyToSpace
set_option maxRecDepth 20000 in
theorem ggX4_timesTillAgain_X3_rank : GoodIn wsX4_timesTillAgain wsX3_rank := goodIn_r _ [69, 13, 70, 71, 72, 73, 74, 75, 76, 104, 105, 106, 107] (by decide +kernel) (by decide +kernel)
set_option maxRecDepth 20000 in
theorem gX4_timesTillAgain_X3_rank_n97 : GoodIn wsX4_timesTillAgain (wsX3_rank) := ggX4_timesTillAgain_X3_rank
set_option maxRecDepth 20000 in
theorem ggX4_timesTillAgain_X3_sameAs : GoodIn wsX4_timesTillAgain wsX3_sameAs := goodIn_r _ [79, 13, 80, 81, 82, 10, 83, 31, 14, 59, 28, 29, 30, 84, 85, 86, 87, 88, 89, 90, 91, 104, 105, 106, 107, 101, 102, 103] (by decide +kernel) (by decide +kernel)
set_option maxRecDepth 20000 in
theorem gX4_timesTillAgain_X3_sameAs_n206 : GoodIn wsX4_timesTillAgain (wsX3_sameAs) := ggX4_timesTillAgain_X3_sameAs
theorem dX4_timesTillAgain_0 : decode cX4_timesTillAgain 0 = .ok (.sipush 3000, 3) := by decide +kernel
theorem dX4_timesTillAgain_3 : decode cX4_timesTillAgain 3 = .ok (.aload_n 0, 1) := by decide +kernel
theorem dX4_timesTillAgain_4 : decode cX4_timesTillAgain 4 = .ok (.getfield 10, 3) := by decide +kernel
theorem dX4_timesTillAgain_7 : decode cX4_timesTillAgain 7 = .ok (.getfield 68, 3) := by decide +kernel
theorem dX4_timesTillAgain_10 : decode cX4_timesTillAgain 10 = .ok (.invokestatic 201, 3) := by decide +kernel
theorem dX4_timesTillAgain_13 : decode cX4_timesTillAgain 13 = .ok (.istore_n 2, 1) := by decide +kernel
theorem dX4_timesTillAgain_14 : decode cX4_timesTillAgain 14 = .ok (.aload_n 0, 1) := by decide +kernel
theorem dX4_timesTillAgain_15 : decode cX4_timesTillAgain 15 = .ok (.getfield 43, 3) := by decide +kernel
theorem dX4_timesTillAgain_18 : decode cX4_timesTillAgain 18 = .ok (.aload_n 1, 1) := by decide +kernel
theorem dX4_timesTillAgain_19 : decode cX4_timesTillAgain 19 = .ok (.invokevirtual 104, 3) := by decide +kernel
theorem dX4_timesTillAgain_22 : decode cX4_timesTillAgain 22 = .ok (.iconst 1, 1) := by decide +kernel
theorem dX4_timesTillAgain_23 : decode cX4_timesTillAgain 23 = .ok (.istore_n 3, 1) := by decide +kernel
theorem dX4_timesTillAgain_24 : decode cX4_timesTillAgain 24 = .ok (.iload_n 3, 1) := by decide +kernel
theorem dX4_timesTillAgain_25 : decode cX4_timesTillAgain 25 = .ok (.iload_n 2, 1) := by decide +kernel
theorem dX4_timesTillAgain_26 : decode cX4_timesTillAgain 26 = .ok (.if_icmp .gt 64, 3) := by decide +kernel
theorem dX4_timesTillAgain_29 : decode cX4_timesTillAgain 29 = .ok (.aload_n 0, 1) := by decide +kernel
theorem dX4_timesTillAgain_30 : decode cX4_timesTillAgain 30 = .ok (.getfield 35, 3) := by decide +kernel
theorem dX4_timesTillAgain_33 : decode cX4_timesTillAgain 33 = .ok (.aload_n 0, 1) := by decide +kernel
theorem dX4_timesTillAgain_34 : decode cX4_timesTillAgain 34 = .ok (.getfield 43, 3) := by decide +kernel
theorem dX4_timesTillAgain_37 : decode cX4_timesTillAgain 37 = .ok (.aload_n 0, 1) := by decide +kernel
theorem dX4_timesTillAgain_38 : decode cX4_timesTillAgain 38 = .ok (.getfield 39, 3) := by decide +kernel
theorem dX4_timesTillAgain_41 : decode cX4_timesTillAgain 41 = .ok (.invokevirtual 177, 3) := by decide +kernel
theorem dX4_timesTillAgain_44 : decode cX4_timesTillAgain 44 = .ok (.aload_n 0, 1) := by decide +kernel
theorem dX4_timesTillAgain_45 : decode cX4_timesTillAgain 45 = .ok (.getfield 39, 3) := by decide +kernel
theorem dX4_timesTillAgain_48 : decode cX4_timesTillAgain 48 = .ok (.invokevirtual 97, 3) := by decide +kernel
theorem dX4_timesTillAgain_51 : decode cX4_timesTillAgain 51 = .ok (.aload_n 1, 1) := by decide +kernel
theorem dX4_timesTillAgain_52 : decode cX4_timesTillAgain 52 = .ok (.invokevirtual 97, 3) := by decide +kernel
theorem dX4_timesTillAgain_55 : decode cX4_timesTillAgain 55 = .ok (.if_icmp .ge 5, 3) := by decide +kernel
theorem dX4_timesTillAgain_58 : decode cX4_timesTillAgain 58 = .ok (.iconst (-1), 1) := by decide +kernel
theorem dX4_timesTillAgain_59 : decode cX4_timesTillAgain 59 = .ok (.ireturn, 1) := by decide +kernel
theorem dX4_timesTillAgain_60 : decode cX4_timesTillAgain 60 = .ok (.aload_n 0, 1) := by decide +kernel
theorem dX4_timesTillAgain_61 : decode cX4_timesTillAgain 61 = .ok (.getfield 39, 3) := by decide +kernel
theorem dX4_timesTillAgain_64 : decode cX4_timesTillAgain 64 = .ok (.aload_n 1, 1) := by decide +kernel
theorem dX4_timesTillAgain_65 : decode cX4_timesTillAgain 65 = .ok (.invokevirtual 206, 3) := by decide +kernel
theorem dX4_timesTillAgain_68 : decode cX4_timesTillAgain 68 = .ok (.ifCond .eq 5, 3) := by decide +kernel
theorem dX4_timesTillAgain_71 : decode cX4_timesTillAgain 71 = .ok (.iload_n 3, 1) := by decide +kernel
theorem dX4_timesTillAgain_72 : decode cX4_timesTillAgain 72 = .ok (.ireturn, 1) := by decide +kernel
theorem dX4_timesTillAgain_73 : decode cX4_timesTillAgain 73 = .ok (.aload_n 0, 1) := by decide +kernel
theorem dX4_timesTillAgain_74 : decode cX4_timesTillAgain 74 = .ok (.getfield 43, 3) := by decide +kernel
theorem dX4_timesTillAgain_77 : decode cX4_timesTillAgain 77 = .ok (.aload_n 0, 1) := by decide +kernel
theorem dX4_timesTillAgain_78 : decode cX4_timesTillAgain 78 = .ok (.getfield 39, 3) := by decide +kernel
theorem dX4_timesTillAgain_81 : decode cX4_timesTillAgain 81 = .ok (.invokevirtual 104, 3) := by decide +kernel
theorem dX4_timesTillAgain_84 : decode cX4_timesTillAgain 84 = .ok (.iinc 3 1, 3) := by decide +kernel
theorem dX4_timesTillAgain_87 : decode cX4_timesTillAgain 87 = .ok (.goto (-63), 3) := by decide +kernel
theorem dX4_timesTillAgain_90 : decode cX4_timesTillAgain 90 = .ok (.iconst (-1), 1) := by decide +kernel
theorem dX4_timesTillAgain_91 : decode cX4_timesTillAgain 91 = .ok (.ireturn, 1) := by decide +kernel
theorem dX4_fold_0 : decode cX4_fold 0 = .ok (.ldc2_w 209, 3) := by decide +kernel
theorem dX4_fold_3 : decode cX4_fold 3 = .ok (.lload_n 0, 1) := by decide +kernel
theorem dX4_fold_4 : decode cX4_fold 4 = .ok (.lmul, 1) := by decide +kernel
theorem dX4_fold_5 : decode cX4_fold 5 = .ok (.iload_n 2, 1) := by decide +kernel
theorem dX4_fold_6 : decode cX4_fold 6 = .ok (.i2l, 1) := by decide +kernel
theorem dX4_fold_7 : decode cX4_fold 7 = .ok (.ladd, 1) := by decide +kernel
theorem dX4_fold_8 : decode cX4_fold 8 = .ok (.lreturn, 1) := by decide +kernel
set_option maxRecDepth 20000 in
theorem ggX4_foldSpace_X3_rank : GoodIn wsX4_foldSpace wsX3_rank := goodIn_r _ [4, 5, 6, 7, 8, 9, 10, 11, 12, 33, 34, 35, 36] (by decide +kernel) (by decide +kernel)
set_option maxRecDepth 20000 in
theorem gX4_foldSpace_X3_rank_n97 : GoodIn wsX4_foldSpace (wsX3_rank) := ggX4_foldSpace_X3_rank
set_option maxRecDepth 20000 in
theorem ggX4_foldSpace_X4_fold : GoodIn wsX4_foldSpace wsX4_fold := goodIn_r _ [16, 17] (by decide +kernel) (by decide +kernel)
set_option maxRecDepth 20000 in
theorem gX4_foldSpace_X4_fold : GoodIn wsX4_foldSpace (va_wsS RX4 193 yX4_fold wsX4_fold) := goodIn_app (goodIn_of _ (by decide +kernel)) ggX4_foldSpace_X4_fold
set_option maxRecDepth 20000 in
theorem ggX4_foldSpace_X3_rowNumber : GoodIn wsX4_foldSpace wsX3_rowNumber := goodIn_r _ [20, 21, 22, 23, 24, 25, 2, 26, 5, 27, 28, 29, 30, 31, 32, 33, 34, 35, 36, 37, 38, 39] (by decide +kernel) (by decide +kernel)
set_option maxRecDepth 20000 in
theorem gX4_foldSpace_X3_rowNumber_n101 : GoodIn wsX4_foldSpace (wsX3_rowNumber) := ggX4_foldSpace_X3_rowNumber
theorem dX4_foldSpace_0 : decode cX4_foldSpace 0 = .ok (.aload_n 2, 1) := by decide +kernel
theorem dX4_foldSpace_1 : decode cX4_foldSpace 1 = .ok (.invokevirtual 97, 3) := by decide +kernel
theorem dX4_foldSpace_4 : decode cX4_foldSpace 4 = .ok (.istore_n 3, 1) := by decide +kernel
theorem dX4_foldSpace_5 : decode cX4_foldSpace 5 = .ok (.lload_n 0, 1) := by decide +kernel
theorem dX4_foldSpace_6 : decode cX4_foldSpace 6 = .ok (.iload_n 3, 1) := by decide +kernel
theorem dX4_foldSpace_7 : decode cX4_foldSpace 7 = .ok (.invokestatic 193, 3) := by decide +kernel
theorem dX4_foldSpace_10 : decode cX4_foldSpace 10 = .ok (.lstore 4, 2) := by decide +kernel
theorem dX4_foldSpace_12 : decode cX4_foldSpace 12 = .ok (.iconst 0, 1) := by decide +kernel
theorem dX4_foldSpace_13 : decode cX4_foldSpace 13 = .ok (.istore 6, 2) := by decide +kernel
theorem dX4_foldSpace_15 : decode cX4_foldSpace 15 = .ok (.iload 6, 2) := by decide +kernel
theorem dX4_foldSpace_17 : decode cX4_foldSpace 17 = .ok (.iload_n 3, 1) := by decide +kernel
theorem dX4_foldSpace_18 : decode cX4_foldSpace 18 = .ok (.if_icmp .ge 22, 3) := by decide +kernel
theorem dX4_foldSpace_21 : decode cX4_foldSpace 21 = .ok (.lload 4, 2) := by decide +kernel
theorem dX4_foldSpace_23 : decode cX4_foldSpace 23 = .ok (.aload_n 2, 1) := by decide +kernel
theorem dX4_foldSpace_24 : decode cX4_foldSpace 24 = .ok (.iload 6, 2) := by decide +kernel
theorem dX4_foldSpace_26 : decode cX4_foldSpace 26 = .ok (.invokevirtual 101, 3) := by decide +kernel
theorem dX4_foldSpace_29 : decode cX4_foldSpace 29 = .ok (.invokestatic 193, 3) := by decide +kernel
theorem dX4_foldSpace_32 : decode cX4_foldSpace 32 = .ok (.lstore 4, 2) := by decide +kernel
theorem dX4_foldSpace_34 : decode cX4_foldSpace 34 = .ok (.iinc 6 1, 3) := by decide +kernel
theorem dX4_foldSpace_37 : decode cX4_foldSpace 37 = .ok (.goto (-22), 3) := by decide +kernel
theorem dX4_foldSpace_40 : decode cX4_foldSpace 40 = .ok (.lload 4, 2) := by decide +kernel
theorem dX4_foldSpace_42 : decode cX4_foldSpace 42 = .ok (.lreturn, 1) := by decide +kernel
set_option maxRecDepth 20000 in
theorem ggX5_init_X5_begin : GoodIn wsX5_init wsX5_begin := goodIn_r _ [21, 15, 16, 22, 9, 23, 5, 24, 25, 20, 26, 27, 28, 29, 30, 31, 32, 33, 34, 35, 36, 37, 38, 39, 40, 41, 42] (by decide +kernel) (by decide +kernel)
set_option maxRecDepth 20000 in
theorem gX5_init_X5_begin : GoodIn wsX5_init (wsV RX5 45 RX5 yX5_begin wsX5_begin) := goodIn_app (goodIn_of _ (by decide +kernel)) ggX5_init_X5_begin
theorem dX5_init_0 : decode cX5_init 0 = .ok (.aload_n 0, 1) := by decide +kernel
theorem dX5_init_1 : decode cX5_init 1 = .ok (.invokespecial 1, 3) := by decide +kernel
theorem dX5_init_4 : decode cX5_init 4 = .ok (.aload_n 0, 1) := by decide +kernel
theorem dX5_init_5 : decode cX5_init 5 = .ok (.bipush 6, 2) := by decide +kernel
theorem dX5_init_7 : decode cX5_init 7 = .ok (.newarray .int, 2) := by decide +kernel
theorem dX5_init_9 : decode cX5_init 9 = .ok (.putfield 7, 3) := by decide +kernel
theorem dX5_init_12 : decode cX5_init 12 = .ok (.aload_n 0, 1) := by decide +kernel
theorem dX5_init_13 : decode cX5_init 13 = .ok (.bipush 24, 2) := by decide +kernel
theorem dX5_init_15 : decode cX5_init 15 = .ok (.newarray .int, 2) := by decide +kernel
theorem dX5_init_17 : decode cX5_init 17 = .ok (.putfield 13, 3) := by decide +kernel
theorem dX5_init_20 : decode cX5_init 20 = .ok (.aload_n 0, 1) := by decide +kernel
theorem dX5_init_21 : decode cX5_init 21 = .ok (.bipush 6, 2) := by decide +kernel
theorem dX5_init_23 : decode cX5_init 23 = .ok (.newarray .boolean, 2) := by decide +kernel
theorem dX5_init_25 : decode cX5_init 25 = .ok (.putfield 16, 3) := by decide +kernel
theorem dX5_init_28 : decode cX5_init 28 = .ok (.aload_n 0, 1) := by decide +kernel
theorem dX5_init_29 : decode cX5_init 29 = .ok (.bipush 12, 2) := by decide +kernel
theorem dX5_init_31 : decode cX5_init 31 = .ok (.newarray .int, 2) := by decide +kernel
theorem dX5_init_33 : decode cX5_init 33 = .ok (.putfield 20, 3) := by decide +kernel
theorem dX5_init_36 : decode cX5_init 36 = .ok (.aload_n 0, 1) := by decide +kernel
theorem dX5_init_37 : decode cX5_init 37 = .ok (.bipush 72, 2) := by decide +kernel
theorem dX5_init_39 : decode cX5_init 39 = .ok (.newarray .int, 2) := by decide +kernel
theorem dX5_init_41 : decode cX5_init 41 = .ok (.putfield 23, 3) := by decide +kernel
theorem dX5_init_44 : decode cX5_init 44 = .ok (.aload_n 0, 1) := by decide +kernel
theorem dX5_init_45 : decode cX5_init 45 = .ok (.bipush 6, 2) := by decide +kernel
theorem dX5_init_47 : decode cX5_init 47 = .ok (.newarray .int, 2) := by decide +kernel
theorem dX5_init_49 : decode cX5_init 49 = .ok (.putfield 26, 3) := by decide +kernel
theorem dX5_init_52 : decode cX5_init 52 = .ok (.aload_n 0, 1) := by decide +kernel
theorem dX5_init_53 : decode cX5_init 53 = .ok (.bipush 6, 2) := by decide +kernel
theorem dX5_init_55 : decode cX5_init 55 = .ok (.newarray .int, 2) := by decide +kernel
theorem dX5_init_57 : decode cX5_init 57 = .ok (.putfield 29, 3) := by decide +kernel
theorem dX5_init_60 : decode cX5_init 60 = .ok (.aload_n 0, 1) := by decide +kernel
theorem dX5_init_61 : decode cX5_init 61 = .ok (.bipush 40, 2) := by decide +kernel
theorem dX5_init_63 : decode cX5_init 63 = .ok (.newarray .int, 2) := by decide +kernel
theorem dX5_init_65 : decode cX5_init 65 = .ok (.putfield 32, 3) := by decide +kernel
theorem dX5_init_68 : decode cX5_init 68 = .ok (.aload_n 0, 1) := by decide +kernel
theorem dX5_init_69 : decode cX5_init 69 = .ok (.sipush 240, 3) := by decide +kernel
theorem dX5_init_72 : decode cX5_init 72 = .ok (.newarray .int, 2) := by decide +kernel
theorem dX5_init_74 : decode cX5_init 74 = .ok (.putfield 35, 3) := by decide +kernel
theorem dX5_init_77 : decode cX5_init 77 = .ok (.aload_n 0, 1) := by decide +kernel
theorem dX5_init_78 : decode cX5_init 78 = .ok (.iconst 2, 1) := by decide +kernel
theorem dX5_init_79 : decode cX5_init 79 = .ok (.putfield 38, 3) := by decide +kernel
theorem dX5_init_82 : decode cX5_init 82 = .ok (.aload_n 0, 1) := by decide +kernel
theorem dX5_init_83 : decode cX5_init 83 = .ok (.iconst 1, 1) := by decide +kernel
theorem dX5_init_84 : decode cX5_init 84 = .ok (.putfield 42, 3) := by decide +kernel
theorem dX5_init_87 : decode cX5_init 87 = .ok (.aload_n 0, 1) := by decide +kernel
theorem dX5_init_88 : decode cX5_init 88 = .ok (.invokevirtual 45, 3) := by decide +kernel
theorem dX5_init_91 : decode cX5_init 91 = .ok (.return_, 1) := by decide +kernel
theorem dX5_in_0 : decode cX5_in 0 = .ok (.lload_n 0, 1) := by decide +kernel
theorem dX5_in_1 : decode cX5_in 1 = .ok (.lload_n 2, 1) := by decide +kernel
theorem dX5_in_2 : decode cX5_in 2 = .ok (.lcmp, 1) := by decide +kernel
theorem dX5_in_3 : decode cX5_in 3 = .ok (.ifCond .lt 14, 3) := by decide +kernel
theorem dX5_in_6 : decode cX5_in 6 = .ok (.lload_n 0, 1) := by decide +kernel
theorem dX5_in_7 : decode cX5_in 7 = .ok (.lload 4, 2) := by decide +kernel
theorem dX5_in_9 : decode cX5_in 9 = .ok (.lcmp, 1) := by decide +kernel
theorem dX5_in_10 : decode cX5_in 10 = .ok (.ifCond .gt 7, 3) := by decide +kernel
theorem dX5_in_13 : decode cX5_in 13 = .ok (.iconst 1, 1) := by decide +kernel
theorem dX5_in_14 : decode cX5_in 14 = .ok (.goto 4, 3) := by decide +kernel
theorem dX5_in_17 : decode cX5_in 17 = .ok (.iconst 0, 1) := by decide +kernel
theorem dX5_in_18 : decode cX5_in 18 = .ok (.ireturn, 1) := by decide +kernel
theorem dX5_power_0 : decode cX5_power 0 = .ok (.iconst 1, 1) := by decide +kernel
theorem dX5_power_1 : decode cX5_power 1 = .ok (.istore_n 2, 1) := by decide +kernel
theorem dX5_power_2 : decode cX5_power 2 = .ok (.iconst 0, 1) := by decide +kernel
theorem dX5_power_3 : decode cX5_power 3 = .ok (.istore_n 3, 1) := by decide +kernel
theorem dX5_power_4 : decode cX5_power 4 = .ok (.iload_n 3, 1) := by decide +kernel
theorem dX5_power_5 : decode cX5_power 5 = .ok (.iload_n 1, 1) := by decide +kernel
theorem dX5_power_6 : decode cX5_power 6 = .ok (.if_icmp .ge 13, 3) := by decide +kernel
theorem dX5_power_9 : decode cX5_power 9 = .ok (.iload_n 2, 1) := by decide +kernel
theorem dX5_power_10 : decode cX5_power 10 = .ok (.iload_n 0, 1) := by decide +kernel
theorem dX5_power_11 : decode cX5_power 11 = .ok (.imul, 1) := by decide +kernel
theorem dX5_power_12 : decode cX5_power 12 = .ok (.istore_n 2, 1) := by decide +kernel
theorem dX5_power_13 : decode cX5_power 13 = .ok (.iinc 3 1, 3) := by decide +kernel
theorem dX5_power_16 : decode cX5_power 16 = .ok (.goto (-12), 3) := by decide +kernel
theorem dX5_power_19 : decode cX5_power 19 = .ok (.iload_n 2, 1) := by decide +kernel
theorem dX5_power_20 : decode cX5_power 20 = .ok (.ireturn, 1) := by decide +kernel
set_option maxRecDepth 20000 in
theorem ggX5_begin_X5_power : GoodIn wsX5_begin wsX5_power := goodIn_r _ [10] (by decide +kernel) (by decide +kernel)
set_option maxRecDepth 20000 in
theorem gX5_begin_X5_power : GoodIn wsX5_begin (va_wsS RX5 48 yX5_power wsX5_power) := goodIn_app (goodIn_of _ (by decide +kernel)) ggX5_begin_X5_power
theorem dX5_begin_0 : decode cX5_begin 0 = .ok (.aload_n 0, 1) := by decide +kernel
theorem dX5_begin_1 : decode cX5_begin 1 = .ok (.aload_n 0, 1) := by decide +kernel
theorem dX5_begin_2 : decode cX5_begin 2 = .ok (.getfield 38, 3) := by decide +kernel
theorem dX5_begin_5 : decode cX5_begin 5 = .ok (.aload_n 0, 1) := by decide +kernel
theorem dX5_begin_6 : decode cX5_begin 6 = .ok (.getfield 42, 3) := by decide +kernel
theorem dX5_begin_9 : decode cX5_begin 9 = .ok (.invokestatic 48, 3) := by decide +kernel
theorem dX5_begin_12 : decode cX5_begin 12 = .ok (.putfield 52, 3) := by decide +kernel
theorem dX5_begin_15 : decode cX5_begin 15 = .ok (.iconst 0, 1) := by decide +kernel
theorem dX5_begin_16 : decode cX5_begin 16 = .ok (.istore_n 1, 1) := by decide +kernel
theorem dX5_begin_17 : decode cX5_begin 17 = .ok (.iload_n 1, 1) := by decide +kernel
theorem dX5_begin_18 : decode cX5_begin 18 = .ok (.bipush 12, 2) := by decide +kernel
theorem dX5_begin_20 : decode cX5_begin 20 = .ok (.if_icmp .ge 16, 3) := by decide +kernel
theorem dX5_begin_23 : decode cX5_begin 23 = .ok (.aload_n 0, 1) := by decide +kernel
theorem dX5_begin_24 : decode cX5_begin 24 = .ok (.getfield 20, 3) := by decide +kernel
theorem dX5_begin_27 : decode cX5_begin 27 = .ok (.iload_n 1, 1) := by decide +kernel
theorem dX5_begin_28 : decode cX5_begin 28 = .ok (.iconst 0, 1) := by decide +kernel
theorem dX5_begin_29 : decode cX5_begin 29 = .ok (.iastore, 1) := by decide +kernel
theorem dX5_begin_30 : decode cX5_begin 30 = .ok (.iinc 1 1, 3) := by decide +kernel
theorem dX5_begin_33 : decode cX5_begin 33 = .ok (.goto (-16), 3) := by decide +kernel
theorem dX5_begin_36 : decode cX5_begin 36 = .ok (.aload_n 0, 1) := by decide +kernel
theorem dX5_begin_37 : decode cX5_begin 37 = .ok (.iconst 0, 1) := by decide +kernel
theorem dX5_begin_38 : decode cX5_begin 38 = .ok (.putfield 55, 3) := by decide +kernel
theorem dX5_begin_41 : decode cX5_begin 41 = .ok (.iconst 0, 1) := by decide +kernel
theorem dX5_begin_42 : decode cX5_begin 42 = .ok (.istore_n 1, 1) := by decide +kernel
theorem dX5_begin_43 : decode cX5_begin 43 = .ok (.iload_n 1, 1) := by decide +kernel
theorem dX5_begin_44 : decode cX5_begin 44 = .ok (.aload_n 0, 1) := by decide +kernel
theorem dX5_begin_45 : decode cX5_begin 45 = .ok (.getfield 42, 3) := by decide +kernel
theorem dX5_begin_48 : decode cX5_begin 48 = .ok (.if_icmp .ge 30, 3) := by decide +kernel
theorem dX5_begin_51 : decode cX5_begin 51 = .ok (.aload_n 0, 1) := by decide +kernel
theorem dX5_begin_52 : decode cX5_begin 52 = .ok (.getfield 7, 3) := by decide +kernel
theorem dX5_begin_55 : decode cX5_begin 55 = .ok (.iload_n 1, 1) := by decide +kernel
theorem dX5_begin_56 : decode cX5_begin 56 = .ok (.aload_n 0, 1) := by decide +kernel
theorem dX5_begin_57 : decode cX5_begin 57 = .ok (.getfield 38, 3) := by decide +kernel
theorem dX5_begin_60 : decode cX5_begin 60 = .ok (.aload_n 0, 1) := by decide +kernel
theorem dX5_begin_61 : decode cX5_begin 61 = .ok (.getfield 42, 3) := by decide +kernel
theorem dX5_begin_64 : decode cX5_begin 64 = .ok (.iconst 1, 1) := by decide +kernel
theorem dX5_begin_65 : decode cX5_begin 65 = .ok (.isub, 1) := by decide +kernel
theorem dX5_begin_66 : decode cX5_begin 66 = .ok (.iload_n 1, 1) := by decide +kernel
theorem dX5_begin_67 : decode cX5_begin 67 = .ok (.isub, 1) := by decide +kernel
theorem dX5_begin_68 : decode cX5_begin 68 = .ok (.invokestatic 48, 3) := by decide +kernel
theorem dX5_begin_71 : decode cX5_begin 71 = .ok (.iastore, 1) := by decide +kernel
theorem dX5_begin_72 : decode cX5_begin 72 = .ok (.iinc 1 1, 3) := by decide +kernel
theorem dX5_begin_75 : decode cX5_begin 75 = .ok (.goto (-32), 3) := by decide +kernel
theorem dX5_begin_78 : decode cX5_begin 78 = .ok (.return_, 1) := by decide +kernel
set_option maxRecDepth 20000 in
theorem ggX5_field_X5_in : GoodIn wsX5_field wsX5_in := goodIn_r _ [7] (by decide +kernel) (by decide +kernel)
set_option maxRecDepth 20000 in
theorem gX5_field_X5_in : GoodIn wsX5_field (va_wsS RX5 58 yX5_in wsX5_in) := goodIn_app (goodIn_of _ (by decide +kernel)) ggX5_field_X5_in
set_option maxRecDepth 20000 in
theorem ggX5_field_X5_begin : GoodIn wsX5_field wsX5_begin := goodIn_r _ [11, 1, 2, 3, 12, 13, 14, 15, 16, 6, 17, 18, 19, 20, 21, 22, 23, 24, 25, 26, 27, 28, 29, 30, 31, 32, 33] (by decide +kernel) (by decide +kernel)
set_option maxRecDepth 20000 in
theorem gX5_field_X5_begin : GoodIn wsX5_field (wsV RX5 45 RX5 yX5_begin wsX5_begin) := goodIn_app (goodIn_of _ (by decide +kernel)) ggX5_field_X5_begin
theorem dX5_field_0 : decode cX5_field 0 = .ok (.iload_n 1, 1) := by decide +kernel
theorem dX5_field_1 : decode cX5_field 1 = .ok (.iconst 2, 1) := by decide +kernel
theorem dX5_field_2 : decode cX5_field 2 = .ok (.if_icmp .ne 8, 3) := by decide +kernel
theorem dX5_field_5 : decode cX5_field 5 = .ok (.bipush 6, 2) := by decide +kernel
theorem dX5_field_7 : decode cX5_field 7 = .ok (.goto 22, 3) := by decide +kernel
theorem dX5_field_10 : decode cX5_field 10 = .ok (.iload_n 1, 1) := by decide +kernel
theorem dX5_field_11 : decode cX5_field 11 = .ok (.iconst 3, 1) := by decide +kernel
theorem dX5_field_12 : decode cX5_field 12 = .ok (.if_icmp .ne 7, 3) := by decide +kernel
theorem dX5_field_15 : decode cX5_field 15 = .ok (.iconst 5, 1) := by decide +kernel
theorem dX5_field_16 : decode cX5_field 16 = .ok (.goto 13, 3) := by decide +kernel
theorem dX5_field_19 : decode cX5_field 19 = .ok (.iload_n 1, 1) := by decide +kernel
theorem dX5_field_20 : decode cX5_field 20 = .ok (.iconst 5, 1) := by decide +kernel
theorem dX5_field_21 : decode cX5_field 21 = .ok (.if_icmp .ne 7, 3) := by decide +kernel
theorem dX5_field_24 : decode cX5_field 24 = .ok (.iconst 4, 1) := by decide +kernel
theorem dX5_field_25 : decode cX5_field 25 = .ok (.goto 4, 3) := by decide +kernel
theorem dX5_field_28 : decode cX5_field 28 = .ok (.iconst 0, 1) := by decide +kernel
theorem dX5_field_29 : decode cX5_field 29 = .ok (.istore_n 3, 1) := by decide +kernel
theorem dX5_field_30 : decode cX5_field 30 = .ok (.iload_n 2, 1) := by decide +kernel
theorem dX5_field_31 : decode cX5_field 31 = .ok (.i2l, 1) := by decide +kernel
theorem dX5_field_32 : decode cX5_field 32 = .ok (.lconst 1, 1) := by decide +kernel
theorem dX5_field_33 : decode cX5_field 33 = .ok (.iload_n 3, 1) := by decide +kernel
theorem dX5_field_34 : decode cX5_field 34 = .ok (.i2l, 1) := by decide +kernel
theorem dX5_field_35 : decode cX5_field 35 = .ok (.invokestatic 58, 3) := by decide +kernel
theorem dX5_field_38 : decode cX5_field 38 = .ok (.ifCond .ne 6, 3) := by decide +kernel
theorem dX5_field_41 : decode cX5_field 41 = .ok (.bipush (-102), 2) := by decide +kernel
theorem dX5_field_43 : decode cX5_field 43 = .ok (.ireturn, 1) := by decide +kernel
theorem dX5_field_44 : decode cX5_field 44 = .ok (.aload_n 0, 1) := by decide +kernel
theorem dX5_field_45 : decode cX5_field 45 = .ok (.iload_n 1, 1) := by decide +kernel
theorem dX5_field_46 : decode cX5_field 46 = .ok (.putfield 38, 3) := by decide +kernel
theorem dX5_field_49 : decode cX5_field 49 = .ok (.aload_n 0, 1) := by decide +kernel
theorem dX5_field_50 : decode cX5_field 50 = .ok (.iload_n 2, 1) := by decide +kernel
theorem dX5_field_51 : decode cX5_field 51 = .ok (.putfield 42, 3) := by decide +kernel
theorem dX5_field_54 : decode cX5_field 54 = .ok (.aload_n 0, 1) := by decide +kernel
theorem dX5_field_55 : decode cX5_field 55 = .ok (.invokevirtual 45, 3) := by decide +kernel
theorem dX5_field_58 : decode cX5_field 58 = .ok (.aload_n 0, 1) := by decide +kernel
theorem dX5_field_59 : decode cX5_field 59 = .ok (.getfield 52, 3) := by decide +kernel
theorem dX5_field_62 : decode cX5_field 62 = .ok (.ireturn, 1) := by decide +kernel
set_option maxRecDepth 20000 in
theorem ggX5_figure_X5_power : GoodIn wsX5_figure wsX5_power := goodIn_r _ [6] (by decide +kernel) (by decide +kernel)
set_option maxRecDepth 20000 in
theorem gX5_figure_X5_power : GoodIn wsX5_figure (va_wsS RX5 48 yX5_power wsX5_power) := goodIn_app (goodIn_of _ (by decide +kernel)) ggX5_figure_X5_power
theorem dX5_figure_0 : decode cX5_figure 0 = .ok (.iload_n 1, 1) := by decide +kernel
theorem dX5_figure_1 : decode cX5_figure 1 = .ok (.aload_n 0, 1) := by decide +kernel
theorem dX5_figure_2 : decode cX5_figure 2 = .ok (.getfield 38, 3) := by decide +kernel
theorem dX5_figure_5 : decode cX5_figure 5 = .ok (.aload_n 0, 1) := by decide +kernel
theorem dX5_figure_6 : decode cX5_figure 6 = .ok (.getfield 42, 3) := by decide +kernel
theorem dX5_figure_9 : decode cX5_figure 9 = .ok (.iconst 1, 1) := by decide +kernel
theorem dX5_figure_10 : decode cX5_figure 10 = .ok (.isub, 1) := by decide +kernel
theorem dX5_figure_11 : decode cX5_figure 11 = .ok (.iload_n 2, 1) := by decide +kernel
theorem dX5_figure_12 : decode cX5_figure 12 = .ok (.isub, 1) := by decide +kernel
theorem dX5_figure_13 : decode cX5_figure 13 = .ok (.invokestatic 48, 3) := by decide +kernel
theorem dX5_figure_16 : decode cX5_figure 16 = .ok (.idiv, 1) := by decide +kernel
theorem dX5_figure_17 : decode cX5_figure 17 = .ok (.aload_n 0, 1) := by decide +kernel
theorem dX5_figure_18 : decode cX5_figure 18 = .ok (.getfield 38, 3) := by decide +kernel
theorem dX5_figure_21 : decode cX5_figure 21 = .ok (.irem, 1) := by decide +kernel
theorem dX5_figure_22 : decode cX5_figure 22 = .ok (.ireturn, 1) := by decide +kernel
set_option maxRecDepth 20000 in
theorem ggX5_isVector_X5_in : GoodIn wsX5_isVector wsX5_in := goodIn_r _ [5] (by decide +kernel) (by decide +kernel)
set_option maxRecDepth 20000 in
theorem gX5_isVector_X5_in : GoodIn wsX5_isVector (va_wsS RX5 58 yX5_in wsX5_in) := goodIn_app (goodIn_of _ (by decide +kernel)) ggX5_isVector_X5_in
theorem dX5_isVector_0 : decode cX5_isVector 0 = .ok (.iload_n 1, 1) := by decide +kernel
theorem dX5_isVector_1 : decode cX5_isVector 1 = .ok (.i2l, 1) := by decide +kernel
theorem dX5_isVector_2 : decode cX5_isVector 2 = .ok (.lconst 0, 1) := by decide +kernel
theorem dX5_isVector_3 : decode cX5_isVector 3 = .ok (.aload_n 0, 1) := by decide +kernel
theorem dX5_isVector_4 : decode cX5_isVector 4 = .ok (.getfield 52, 3) := by decide +kernel
theorem dX5_isVector_7 : decode cX5_isVector 7 = .ok (.iconst 1, 1) := by decide +kernel
theorem dX5_isVector_8 : decode cX5_isVector 8 = .ok (.isub, 1) := by decide +kernel
theorem dX5_isVector_9 : decode cX5_isVector 9 = .ok (.i2l, 1) := by decide +kernel
theorem dX5_isVector_10 : decode cX5_isVector 10 = .ok (.invokestatic 58, 3) := by decide +kernel
theorem dX5_isVector_13 : decode cX5_isVector 13 = .ok (.ireturn, 1) := by decide +kernel
set_option maxRecDepth 20000 in
theorem ggX5_sum_X5_figure : GoodIn wsX5_sum wsX5_figure := goodIn_r _ [7, 2, 1, 8, 9, 6, 10, 11, 12, 13, 14, 15, 16, 17, 18, 19, 20, 21, 22, 23, 24, 25, 26] (by decide +kernel) (by decide +kernel)
set_option maxRecDepth 20000 in
theorem gX5_sum_X5_figure : GoodIn wsX5_sum (wsV RX5 62 RX5 yX5_figure wsX5_figure) := goodIn_app (goodIn_of _ (by decide +kernel)) ggX5_sum_X5_figure
theorem dX5_sum_0 : decode cX5_sum 0 = .ok (.iconst 0, 1) := by decide +kernel
theorem dX5_sum_1 : decode cX5_sum 1 = .ok (.istore 4, 2) := by decide +kernel
theorem dX5_sum_3 : decode cX5_sum 3 = .ok (.iconst 0, 1) := by decide +kernel
theorem dX5_sum_4 : decode cX5_sum 4 = .ok (.istore 5, 2) := by decide +kernel
theorem dX5_sum_6 : decode cX5_sum 6 = .ok (.iload 5, 2) := by decide +kernel
theorem dX5_sum_8 : decode cX5_sum 8 = .ok (.aload_n 0, 1) := by decide +kernel
theorem dX5_sum_9 : decode cX5_sum 9 = .ok (.getfield 42, 3) := by decide +kernel
theorem dX5_sum_12 : decode cX5_sum 12 = .ok (.if_icmp .ge 41, 3) := by decide +kernel
theorem dX5_sum_15 : decode cX5_sum 15 = .ok (.iload 4, 2) := by decide +kernel
theorem dX5_sum_17 : decode cX5_sum 17 = .ok (.aload_n 0, 1) := by decide +kernel
theorem dX5_sum_18 : decode cX5_sum 18 = .ok (.getfield 38, 3) := by decide +kernel
theorem dX5_sum_21 : decode cX5_sum 21 = .ok (.imul, 1) := by decide +kernel
theorem dX5_sum_22 : decode cX5_sum 22 = .ok (.aload_n 0, 1) := by decide +kernel
theorem dX5_sum_23 : decode cX5_sum 23 = .ok (.iload_n 1, 1) := by decide +kernel
theorem dX5_sum_24 : decode cX5_sum 24 = .ok (.iload 5, 2) := by decide +kernel
theorem dX5_sum_26 : decode cX5_sum 26 = .ok (.invokevirtual 62, 3) := by decide +kernel
theorem dX5_sum_29 : decode cX5_sum 29 = .ok (.iload_n 3, 1) := by decide +kernel
theorem dX5_sum_30 : decode cX5_sum 30 = .ok (.aload_n 0, 1) := by decide +kernel
theorem dX5_sum_31 : decode cX5_sum 31 = .ok (.iload_n 2, 1) := by decide +kernel
theorem dX5_sum_32 : decode cX5_sum 32 = .ok (.iload 5, 2) := by decide +kernel
theorem dX5_sum_34 : decode cX5_sum 34 = .ok (.invokevirtual 62, 3) := by decide +kernel
theorem dX5_sum_37 : decode cX5_sum 37 = .ok (.imul, 1) := by decide +kernel
theorem dX5_sum_38 : decode cX5_sum 38 = .ok (.iadd, 1) := by decide +kernel
theorem dX5_sum_39 : decode cX5_sum 39 = .ok (.aload_n 0, 1) := by decide +kernel
theorem dX5_sum_40 : decode cX5_sum 40 = .ok (.getfield 38, 3) := by decide +kernel
theorem dX5_sum_43 : decode cX5_sum 43 = .ok (.irem, 1) := by decide +kernel
theorem dX5_sum_44 : decode cX5_sum 44 = .ok (.iadd, 1) := by decide +kernel
theorem dX5_sum_45 : decode cX5_sum 45 = .ok (.istore 4, 2) := by decide +kernel
theorem dX5_sum_47 : decode cX5_sum 47 = .ok (.iinc 5 1, 3) := by decide +kernel
theorem dX5_sum_50 : decode cX5_sum 50 = .ok (.goto (-44), 3) := by decide +kernel
theorem dX5_sum_53 : decode cX5_sum 53 = .ok (.iload 4, 2) := by decide +kernel
theorem dX5_sum_55 : decode cX5_sum 55 = .ok (.ireturn, 1) := by decide +kernel
set_option maxRecDepth 20000 in
theorem ggX5_plus_X5_isVector : GoodIn wsX5_plus wsX5_isVector := goodIn_r _ [6, 7, 8, 9, 5, 10, 23, 24, 25, 26, 27, 28, 29, 30, 31, 32, 33, 34, 35, 36, 37, 38] (by decide +kernel) (by decide +kernel)
set_option maxRecDepth 20000 in
theorem gX5_plus_X5_isVector : GoodIn wsX5_plus (wsV RX5 65 RX5 yX5_isVector wsX5_isVector) := goodIn_app (goodIn_of _ (by decide +kernel)) ggX5_plus_X5_isVector
set_option maxRecDepth 20000 in
theorem ggX5_plus_X5_in : GoodIn wsX5_plus wsX5_in := goodIn_r _ [10] (by decide +kernel) (by decide +kernel)
set_option maxRecDepth 20000 in
theorem gX5_plus_X5_in : GoodIn wsX5_plus (va_wsS RX5 58 yX5_in wsX5_in) := goodIn_app (goodIn_of _ (by decide +kernel)) ggX5_plus_X5_in
set_option maxRecDepth 20000 in
theorem ggX5_plus_X5_sum : GoodIn wsX5_plus wsX5_sum := goodIn_r _ [14, 15, 1, 16, 17, 18, 5, 19, 20, 21, 22, 23, 24, 25, 26, 27, 28, 29, 30, 31, 32, 33, 34, 35, 36, 37, 38] (by decide +kernel) (by decide +kernel)
set_option maxRecDepth 20000 in
theorem gX5_plus_X5_sum : GoodIn wsX5_plus (wsV RX5 69 RX5 yX5_sum wsX5_sum) := goodIn_app (goodIn_of _ (by decide +kernel)) ggX5_plus_X5_sum
theorem dX5_plus_0 : decode cX5_plus 0 = .ok (.aload_n 0, 1) := by decide +kernel
theorem dX5_plus_1 : decode cX5_plus 1 = .ok (.iload_n 1, 1) := by decide +kernel
theorem dX5_plus_2 : decode cX5_plus 2 = .ok (.invokevirtual 65, 3) := by decide +kernel
theorem dX5_plus_5 : decode cX5_plus 5 = .ok (.ifCond .eq 11, 3) := by decide +kernel
theorem dX5_plus_8 : decode cX5_plus 8 = .ok (.aload_n 0, 1) := by decide +kernel
theorem dX5_plus_9 : decode cX5_plus 9 = .ok (.iload_n 2, 1) := by decide +kernel
theorem dX5_plus_10 : decode cX5_plus 10 = .ok (.invokevirtual 65, 3) := by decide +kernel
theorem dX5_plus_13 : decode cX5_plus 13 = .ok (.ifCond .ne 6, 3) := by decide +kernel
theorem dX5_plus_16 : decode cX5_plus 16 = .ok (.bipush (-101), 2) := by decide +kernel
theorem dX5_plus_18 : decode cX5_plus 18 = .ok (.ireturn, 1) := by decide +kernel
theorem dX5_plus_19 : decode cX5_plus 19 = .ok (.iload_n 3, 1) := by decide +kernel
theorem dX5_plus_20 : decode cX5_plus 20 = .ok (.i2l, 1) := by decide +kernel
theorem dX5_plus_21 : decode cX5_plus 21 = .ok (.lconst 0, 1) := by decide +kernel
theorem dX5_plus_22 : decode cX5_plus 22 = .ok (.aload_n 0, 1) := by decide +kernel
theorem dX5_plus_23 : decode cX5_plus 23 = .ok (.getfield 38, 3) := by decide +kernel
theorem dX5_plus_26 : decode cX5_plus 26 = .ok (.iconst 1, 1) := by decide +kernel
theorem dX5_plus_27 : decode cX5_plus 27 = .ok (.isub, 1) := by decide +kernel
theorem dX5_plus_28 : decode cX5_plus 28 = .ok (.i2l, 1) := by decide +kernel
theorem dX5_plus_29 : decode cX5_plus 29 = .ok (.invokestatic 58, 3) := by decide +kernel
theorem dX5_plus_32 : decode cX5_plus 32 = .ok (.ifCond .eq 13, 3) := by decide +kernel
theorem dX5_plus_35 : decode cX5_plus 35 = .ok (.aload_n 0, 1) := by decide +kernel
theorem dX5_plus_36 : decode cX5_plus 36 = .ok (.iload_n 1, 1) := by decide +kernel
theorem dX5_plus_37 : decode cX5_plus 37 = .ok (.iload_n 2, 1) := by decide +kernel
theorem dX5_plus_38 : decode cX5_plus 38 = .ok (.iload_n 3, 1) := by decide +kernel
theorem dX5_plus_39 : decode cX5_plus 39 = .ok (.invokevirtual 69, 3) := by decide +kernel
theorem dX5_plus_42 : decode cX5_plus 42 = .ok (.goto 5, 3) := by decide +kernel
theorem dX5_plus_45 : decode cX5_plus 45 = .ok (.bipush (-102), 2) := by decide +kernel
theorem dX5_plus_47 : decode cX5_plus 47 = .ok (.ireturn, 1) := by decide +kernel
set_option maxRecDepth 20000 in
theorem ggX5_product_X5_figure : GoodIn wsX5_product wsX5_figure := goodIn_r _ [7, 2, 1, 8, 9, 6, 10, 11, 12, 13, 14, 15, 16, 17, 18, 19, 20, 21, 22, 23, 24, 25, 26] (by decide +kernel) (by decide +kernel)
set_option maxRecDepth 20000 in
theorem gX5_product_X5_figure : GoodIn wsX5_product (wsV RX5 62 RX5 yX5_figure wsX5_figure) := goodIn_app (goodIn_of _ (by decide +kernel)) ggX5_product_X5_figure
theorem dX5_product_0 : decode cX5_product 0 = .ok (.iconst 0, 1) := by decide +kernel
theorem dX5_product_1 : decode cX5_product 1 = .ok (.istore_n 3, 1) := by decide +kernel
theorem dX5_product_2 : decode cX5_product 2 = .ok (.iconst 0, 1) := by decide +kernel
theorem dX5_product_3 : decode cX5_product 3 = .ok (.istore 4, 2) := by decide +kernel
theorem dX5_product_5 : decode cX5_product 5 = .ok (.iload 4, 2) := by decide +kernel
theorem dX5_product_7 : decode cX5_product 7 = .ok (.aload_n 0, 1) := by decide +kernel
theorem dX5_product_8 : decode cX5_product 8 = .ok (.getfield 42, 3) := by decide +kernel
theorem dX5_product_11 : decode cX5_product 11 = .ok (.if_icmp .ge 27, 3) := by decide +kernel
theorem dX5_product_14 : decode cX5_product 14 = .ok (.iload_n 3, 1) := by decide +kernel
theorem dX5_product_15 : decode cX5_product 15 = .ok (.aload_n 0, 1) := by decide +kernel
theorem dX5_product_16 : decode cX5_product 16 = .ok (.iload_n 1, 1) := by decide +kernel
theorem dX5_product_17 : decode cX5_product 17 = .ok (.iload 4, 2) := by decide +kernel
theorem dX5_product_19 : decode cX5_product 19 = .ok (.invokevirtual 62, 3) := by decide +kernel
theorem dX5_product_22 : decode cX5_product 22 = .ok (.aload_n 0, 1) := by decide +kernel
theorem dX5_product_23 : decode cX5_product 23 = .ok (.iload_n 2, 1) := by decide +kernel
theorem dX5_product_24 : decode cX5_product 24 = .ok (.iload 4, 2) := by decide +kernel
theorem dX5_product_26 : decode cX5_product 26 = .ok (.invokevirtual 62, 3) := by decide +kernel
theorem dX5_product_29 : decode cX5_product 29 = .ok (.imul, 1) := by decide +kernel
theorem dX5_product_30 : decode cX5_product 30 = .ok (.iadd, 1) := by decide +kernel
theorem dX5_product_31 : decode cX5_product 31 = .ok (.istore_n 3, 1) := by decide +kernel
theorem dX5_product_32 : decode cX5_product 32 = .ok (.iinc 4 1, 3) := by decide +kernel
theorem dX5_product_35 : decode cX5_product 35 = .ok (.goto (-30), 3) := by decide +kernel
theorem dX5_product_38 : decode cX5_product 38 = .ok (.iload_n 3, 1) := by decide +kernel
theorem dX5_product_39 : decode cX5_product 39 = .ok (.aload_n 0, 1) := by decide +kernel
theorem dX5_product_40 : decode cX5_product 40 = .ok (.getfield 38, 3) := by decide +kernel
theorem dX5_product_43 : decode cX5_product 43 = .ok (.irem, 1) := by decide +kernel
theorem dX5_product_44 : decode cX5_product 44 = .ok (.ireturn, 1) := by decide +kernel
set_option maxRecDepth 20000 in
theorem ggX5_times_X5_isVector : GoodIn wsX5_times wsX5_isVector := goodIn_r _ [5, 6, 7, 8, 4, 9, 23, 24, 25, 26, 27, 28, 29, 30, 31, 32, 33, 34, 35, 36, 37, 38] (by decide +kernel) (by decide +kernel)
set_option maxRecDepth 20000 in
theorem gX5_times_X5_isVector : GoodIn wsX5_times (wsV RX5 65 RX5 yX5_isVector wsX5_isVector) := goodIn_app (goodIn_of _ (by decide +kernel)) ggX5_times_X5_isVector
set_option maxRecDepth 20000 in
theorem ggX5_times_X5_product : GoodIn wsX5_times wsX5_product := goodIn_r _ [13, 14, 15, 16, 17, 18, 4, 19, 20, 21, 22, 23, 24, 25, 26, 27, 28, 29, 30, 31, 32, 33, 34, 35, 36, 37, 38] (by decide +kernel) (by decide +kernel)
set_option maxRecDepth 20000 in
theorem gX5_times_X5_product : GoodIn wsX5_times (wsV RX5 73 RX5 yX5_product wsX5_product) := goodIn_app (goodIn_of _ (by decide +kernel)) ggX5_times_X5_product
theorem dX5_times_0 : decode cX5_times 0 = .ok (.aload_n 0, 1) := by decide +kernel
theorem dX5_times_1 : decode cX5_times 1 = .ok (.iload_n 1, 1) := by decide +kernel
theorem dX5_times_2 : decode cX5_times 2 = .ok (.invokevirtual 65, 3) := by decide +kernel
theorem dX5_times_5 : decode cX5_times 5 = .ok (.ifCond .eq 20, 3) := by decide +kernel
theorem dX5_times_8 : decode cX5_times 8 = .ok (.aload_n 0, 1) := by decide +kernel
theorem dX5_times_9 : decode cX5_times 9 = .ok (.iload_n 2, 1) := by decide +kernel
theorem dX5_times_10 : decode cX5_times 10 = .ok (.invokevirtual 65, 3) := by decide +kernel
theorem dX5_times_13 : decode cX5_times 13 = .ok (.ifCond .eq 12, 3) := by decide +kernel
theorem dX5_times_16 : decode cX5_times 16 = .ok (.aload_n 0, 1) := by decide +kernel
theorem dX5_times_17 : decode cX5_times 17 = .ok (.iload_n 1, 1) := by decide +kernel
theorem dX5_times_18 : decode cX5_times 18 = .ok (.iload_n 2, 1) := by decide +kernel
theorem dX5_times_19 : decode cX5_times 19 = .ok (.invokevirtual 73, 3) := by decide +kernel
theorem dX5_times_22 : decode cX5_times 22 = .ok (.goto 5, 3) := by decide +kernel
theorem dX5_times_25 : decode cX5_times 25 = .ok (.bipush (-101), 2) := by decide +kernel
theorem dX5_times_27 : decode cX5_times 27 = .ok (.ireturn, 1) := by decide +kernel
set_option maxRecDepth 20000 in
theorem ggX5_settle_X5_figure : GoodIn wsX5_settle wsX5_figure := goodIn_r _ [9, 4, 1, 10, 11, 8, 12, 17, 18, 19, 20, 21, 22, 23, 24, 25, 26, 27, 28, 29, 30, 31, 32] (by decide +kernel) (by decide +kernel)
set_option maxRecDepth 20000 in
theorem gX5_settle_X5_figure : GoodIn wsX5_settle (wsV RX5 62 RX5 yX5_figure wsX5_figure) := goodIn_app (goodIn_of _ (by decide +kernel)) ggX5_settle_X5_figure
set_option maxRecDepth 20000 in
theorem ggX5_settle_X5_sum : GoodIn wsX5_settle wsX5_sum := goodIn_r _ [16, 1, 4, 5, 6, 7, 8, 9, 10, 11, 12, 17, 18, 19, 20, 21, 22, 23, 24, 25, 26, 27, 28, 29, 30, 31, 32] (by decide +kernel) (by decide +kernel)
set_option maxRecDepth 20000 in
theorem gX5_settle_X5_sum : GoodIn wsX5_settle (wsV RX5 69 RX5 yX5_sum wsX5_sum) := goodIn_app (goodIn_of _ (by decide +kernel)) ggX5_settle_X5_sum
theorem dX5_settle_0 : decode cX5_settle 0 = .ok (.iconst 0, 1) := by decide +kernel
theorem dX5_settle_1 : decode cX5_settle 1 = .ok (.istore_n 1, 1) := by decide +kernel
theorem dX5_settle_2 : decode cX5_settle 2 = .ok (.iconst 0, 1) := by decide +kernel
theorem dX5_settle_3 : decode cX5_settle 3 = .ok (.istore_n 2, 1) := by decide +kernel
theorem dX5_settle_4 : decode cX5_settle 4 = .ok (.iload_n 2, 1) := by decide +kernel
theorem dX5_settle_5 : decode cX5_settle 5 = .ok (.aload_n 0, 1) := by decide +kernel
theorem dX5_settle_6 : decode cX5_settle 6 = .ok (.getfield 42, 3) := by decide +kernel
theorem dX5_settle_9 : decode cX5_settle 9 = .ok (.if_icmp .ge 187, 3) := by decide +kernel
theorem dX5_settle_12 : decode cX5_settle 12 = .ok (.iload_n 1, 1) := by decide +kernel
theorem dX5_settle_13 : decode cX5_settle 13 = .ok (.istore_n 3, 1) := by decide +kernel
theorem dX5_settle_14 : decode cX5_settle 14 = .ok (.iload_n 3, 1) := by decide +kernel
theorem dX5_settle_15 : decode cX5_settle 15 = .ok (.aload_n 0, 1) := by decide +kernel
theorem dX5_settle_16 : decode cX5_settle 16 = .ok (.getfield 76, 3) := by decide +kernel
theorem dX5_settle_19 : decode cX5_settle 19 = .ok (.if_icmp .ge 23, 3) := by decide +kernel
theorem dX5_settle_22 : decode cX5_settle 22 = .ok (.aload_n 0, 1) := by decide +kernel
theorem dX5_settle_23 : decode cX5_settle 23 = .ok (.aload_n 0, 1) := by decide +kernel
theorem dX5_settle_24 : decode cX5_settle 24 = .ok (.getfield 13, 3) := by decide +kernel
theorem dX5_settle_27 : decode cX5_settle 27 = .ok (.iload_n 3, 1) := by decide +kernel
theorem dX5_settle_28 : decode cX5_settle 28 = .ok (.iaload, 1) := by decide +kernel
theorem dX5_settle_29 : decode cX5_settle 29 = .ok (.iload_n 2, 1) := by decide +kernel
theorem dX5_settle_30 : decode cX5_settle 30 = .ok (.invokevirtual 62, 3) := by decide +kernel
theorem dX5_settle_33 : decode cX5_settle 33 = .ok (.ifCond .ne 9, 3) := by decide +kernel
theorem dX5_settle_36 : decode cX5_settle 36 = .ok (.iinc 3 1, 3) := by decide +kernel
theorem dX5_settle_39 : decode cX5_settle 39 = .ok (.goto (-25), 3) := by decide +kernel
theorem dX5_settle_42 : decode cX5_settle 42 = .ok (.iload_n 3, 1) := by decide +kernel
theorem dX5_settle_43 : decode cX5_settle 43 = .ok (.aload_n 0, 1) := by decide +kernel
theorem dX5_settle_44 : decode cX5_settle 44 = .ok (.getfield 76, 3) := by decide +kernel
theorem dX5_settle_47 : decode cX5_settle 47 = .ok (.if_icmp .ge 143, 3) := by decide +kernel
end
section
theorem dX5_settle_50 : decode cX5_settle 50 = .ok (.aload_n 0, 1) := by decide +kernel
theorem dX5_settle_51 : decode cX5_settle 51 = .ok (.getfield 13, 3) := by decide +kernel
theorem dX5_settle_54 : decode cX5_settle 54 = .ok (.iload_n 3, 1) := by decide +kernel
theorem dX5_settle_55 : decode cX5_settle 55 = .ok (.iaload, 1) := by decide +kernel
theorem dX5_settle_56 : decode cX5_settle 56 = .ok (.istore 4, 2) := by decide +kernel
theorem dX5_settle_58 : decode cX5_settle 58 = .ok (.aload_n 0, 1) := by decide +kernel
theorem dX5_settle_59 : decode cX5_settle 59 = .ok (.getfield 13, 3) := by decide +kernel
theorem dX5_settle_62 : decode cX5_settle 62 = .ok (.iload_n 3, 1) := by decide +kernel
theorem dX5_settle_63 : decode cX5_settle 63 = .ok (.aload_n 0, 1) := by decide +kernel
theorem dX5_settle_64 : decode cX5_settle 64 = .ok (.getfield 13, 3) := by decide +kernel
theorem dX5_settle_67 : decode cX5_settle 67 = .ok (.iload_n 1, 1) := by decide +kernel
theorem dX5_settle_68 : decode cX5_settle 68 = .ok (.iaload, 1) := by decide +kernel
theorem dX5_settle_69 : decode cX5_settle 69 = .ok (.iastore, 1) := by decide +kernel
theorem dX5_settle_70 : decode cX5_settle 70 = .ok (.iconst 1, 1) := by decide +kernel
theorem dX5_settle_71 : decode cX5_settle 71 = .ok (.istore 5, 2) := by decide +kernel
theorem dX5_settle_73 : decode cX5_settle 73 = .ok (.iload 5, 2) := by decide +kernel
theorem dX5_settle_75 : decode cX5_settle 75 = .ok (.aload_n 0, 1) := by decide +kernel
theorem dX5_settle_76 : decode cX5_settle 76 = .ok (.iload 4, 2) := by decide +kernel
theorem dX5_settle_78 : decode cX5_settle 78 = .ok (.iload_n 2, 1) := by decide +kernel
theorem dX5_settle_79 : decode cX5_settle 79 = .ok (.invokevirtual 62, 3) := by decide +kernel
theorem dX5_settle_82 : decode cX5_settle 82 = .ok (.imul, 1) := by decide +kernel
theorem dX5_settle_83 : decode cX5_settle 83 = .ok (.aload_n 0, 1) := by decide +kernel
theorem dX5_settle_84 : decode cX5_settle 84 = .ok (.getfield 38, 3) := by decide +kernel
theorem dX5_settle_87 : decode cX5_settle 87 = .ok (.irem, 1) := by decide +kernel
theorem dX5_settle_88 : decode cX5_settle 88 = .ok (.iconst 1, 1) := by decide +kernel
theorem dX5_settle_89 : decode cX5_settle 89 = .ok (.if_icmp .eq 9, 3) := by decide +kernel
theorem dX5_settle_92 : decode cX5_settle 92 = .ok (.iinc 5 1, 3) := by decide +kernel
theorem dX5_settle_95 : decode cX5_settle 95 = .ok (.goto (-22), 3) := by decide +kernel
theorem dX5_settle_98 : decode cX5_settle 98 = .ok (.aload_n 0, 1) := by decide +kernel
theorem dX5_settle_99 : decode cX5_settle 99 = .ok (.iconst 0, 1) := by decide +kernel
theorem dX5_settle_100 : decode cX5_settle 100 = .ok (.iload 4, 2) := by decide +kernel
theorem dX5_settle_102 : decode cX5_settle 102 = .ok (.iload 5, 2) := by decide +kernel
theorem dX5_settle_104 : decode cX5_settle 104 = .ok (.invokevirtual 69, 3) := by decide +kernel
theorem dX5_settle_107 : decode cX5_settle 107 = .ok (.istore 4, 2) := by decide +kernel
theorem dX5_settle_109 : decode cX5_settle 109 = .ok (.aload_n 0, 1) := by decide +kernel
theorem dX5_settle_110 : decode cX5_settle 110 = .ok (.getfield 13, 3) := by decide +kernel
theorem dX5_settle_113 : decode cX5_settle 113 = .ok (.iload_n 1, 1) := by decide +kernel
theorem dX5_settle_114 : decode cX5_settle 114 = .ok (.iload 4, 2) := by decide +kernel
theorem dX5_settle_116 : decode cX5_settle 116 = .ok (.iastore, 1) := by decide +kernel
theorem dX5_settle_117 : decode cX5_settle 117 = .ok (.iconst 0, 1) := by decide +kernel
theorem dX5_settle_118 : decode cX5_settle 118 = .ok (.istore 6, 2) := by decide +kernel
theorem dX5_settle_120 : decode cX5_settle 120 = .ok (.iload 6, 2) := by decide +kernel
theorem dX5_settle_122 : decode cX5_settle 122 = .ok (.aload_n 0, 1) := by decide +kernel
theorem dX5_settle_123 : decode cX5_settle 123 = .ok (.getfield 76, 3) := by decide +kernel
theorem dX5_settle_126 : decode cX5_settle 126 = .ok (.if_icmp .ge 61, 3) := by decide +kernel
theorem dX5_settle_129 : decode cX5_settle 129 = .ok (.aload_n 0, 1) := by decide +kernel
theorem dX5_settle_130 : decode cX5_settle 130 = .ok (.aload_n 0, 1) := by decide +kernel
theorem dX5_settle_131 : decode cX5_settle 131 = .ok (.getfield 13, 3) := by decide +kernel
theorem dX5_settle_134 : decode cX5_settle 134 = .ok (.iload 6, 2) := by decide +kernel
theorem dX5_settle_136 : decode cX5_settle 136 = .ok (.iaload, 1) := by decide +kernel
theorem dX5_settle_137 : decode cX5_settle 137 = .ok (.iload_n 2, 1) := by decide +kernel
theorem dX5_settle_138 : decode cX5_settle 138 = .ok (.invokevirtual 62, 3) := by decide +kernel
theorem dX5_settle_141 : decode cX5_settle 141 = .ok (.istore 7, 2) := by decide +kernel
theorem dX5_settle_143 : decode cX5_settle 143 = .ok (.iload 6, 2) := by decide +kernel
theorem dX5_settle_145 : decode cX5_settle 145 = .ok (.iload_n 1, 1) := by decide +kernel
theorem dX5_settle_146 : decode cX5_settle 146 = .ok (.if_icmp .eq 35, 3) := by decide +kernel
theorem dX5_settle_149 : decode cX5_settle 149 = .ok (.iload 7, 2) := by decide +kernel
theorem dX5_settle_151 : decode cX5_settle 151 = .ok (.ifCond .eq 30, 3) := by decide +kernel
theorem dX5_settle_154 : decode cX5_settle 154 = .ok (.aload_n 0, 1) := by decide +kernel
theorem dX5_settle_155 : decode cX5_settle 155 = .ok (.getfield 13, 3) := by decide +kernel
theorem dX5_settle_158 : decode cX5_settle 158 = .ok (.iload 6, 2) := by decide +kernel
theorem dX5_settle_160 : decode cX5_settle 160 = .ok (.aload_n 0, 1) := by decide +kernel
theorem dX5_settle_161 : decode cX5_settle 161 = .ok (.aload_n 0, 1) := by decide +kernel
theorem dX5_settle_162 : decode cX5_settle 162 = .ok (.getfield 13, 3) := by decide +kernel
theorem dX5_settle_165 : decode cX5_settle 165 = .ok (.iload 6, 2) := by decide +kernel
theorem dX5_settle_167 : decode cX5_settle 167 = .ok (.iaload, 1) := by decide +kernel
theorem dX5_settle_168 : decode cX5_settle 168 = .ok (.iload 4, 2) := by decide +kernel
theorem dX5_settle_170 : decode cX5_settle 170 = .ok (.aload_n 0, 1) := by decide +kernel
theorem dX5_settle_171 : decode cX5_settle 171 = .ok (.getfield 38, 3) := by decide +kernel
theorem dX5_settle_174 : decode cX5_settle 174 = .ok (.iload 7, 2) := by decide +kernel
theorem dX5_settle_176 : decode cX5_settle 176 = .ok (.isub, 1) := by decide +kernel
theorem dX5_settle_177 : decode cX5_settle 177 = .ok (.invokevirtual 69, 3) := by decide +kernel
theorem dX5_settle_180 : decode cX5_settle 180 = .ok (.iastore, 1) := by decide +kernel
theorem dX5_settle_181 : decode cX5_settle 181 = .ok (.iinc 6 1, 3) := by decide +kernel
theorem dX5_settle_184 : decode cX5_settle 184 = .ok (.goto (-64), 3) := by decide +kernel
theorem dX5_settle_187 : decode cX5_settle 187 = .ok (.iinc 1 1, 3) := by decide +kernel
theorem dX5_settle_190 : decode cX5_settle 190 = .ok (.iinc 2 1, 3) := by decide +kernel
theorem dX5_settle_193 : decode cX5_settle 193 = .ok (.goto (-189), 3) := by decide +kernel
theorem dX5_settle_196 : decode cX5_settle 196 = .ok (.aload_n 0, 1) := by decide +kernel
theorem dX5_settle_197 : decode cX5_settle 197 = .ok (.iload_n 1, 1) := by decide +kernel
theorem dX5_settle_198 : decode cX5_settle 198 = .ok (.putfield 76, 3) := by decide +kernel
theorem dX5_settle_201 : decode cX5_settle 201 = .ok (.return_, 1) := by decide +kernel
set_option maxRecDepth 20000 in
theorem ggX5_pivot_X5_figure : GoodIn wsX5_pivot wsX5_figure := goodIn_r _ [5, 6, 7, 8, 9, 4, 10, 11, 12, 13, 14, 15, 16, 17, 18, 19, 20, 21, 22, 23, 24, 25, 26] (by decide +kernel) (by decide +kernel)
set_option maxRecDepth 20000 in
theorem gX5_pivot_X5_figure : GoodIn wsX5_pivot (wsV RX5 62 RX5 yX5_figure wsX5_figure) := goodIn_app (goodIn_of _ (by decide +kernel)) ggX5_pivot_X5_figure
theorem dX5_pivot_0 : decode cX5_pivot 0 = .ok (.iconst 0, 1) := by decide +kernel
theorem dX5_pivot_1 : decode cX5_pivot 1 = .ok (.istore_n 2, 1) := by decide +kernel
theorem dX5_pivot_2 : decode cX5_pivot 2 = .ok (.aload_n 0, 1) := by decide +kernel
theorem dX5_pivot_3 : decode cX5_pivot 3 = .ok (.iload_n 1, 1) := by decide +kernel
theorem dX5_pivot_4 : decode cX5_pivot 4 = .ok (.iload_n 2, 1) := by decide +kernel
theorem dX5_pivot_5 : decode cX5_pivot 5 = .ok (.invokevirtual 62, 3) := by decide +kernel
theorem dX5_pivot_8 : decode cX5_pivot 8 = .ok (.ifCond .ne 9, 3) := by decide +kernel
theorem dX5_pivot_11 : decode cX5_pivot 11 = .ok (.iinc 2 1, 3) := by decide +kernel
theorem dX5_pivot_14 : decode cX5_pivot 14 = .ok (.goto (-12), 3) := by decide +kernel
theorem dX5_pivot_17 : decode cX5_pivot 17 = .ok (.iload_n 2, 1) := by decide +kernel
theorem dX5_pivot_18 : decode cX5_pivot 18 = .ok (.ireturn, 1) := by decide +kernel
set_option maxRecDepth 20000 in
theorem ggX5_turn_X5_pivot : GoodIn wsX5_turn wsX5_pivot := goodIn_r _ [10, 11, 12, 13, 9, 14, 5, 4, 15, 16, 17, 26, 27, 28, 29, 30, 31, 32, 33, 34, 35, 36, 37, 38, 39, 40, 41] (by decide +kernel) (by decide +kernel)
set_option maxRecDepth 20000 in
theorem gX5_turn_X5_pivot : GoodIn wsX5_turn (wsV RX5 79 RX5 yX5_pivot wsX5_pivot) := goodIn_app (goodIn_of _ (by decide +kernel)) ggX5_turn_X5_pivot
set_option maxRecDepth 20000 in
theorem ggX5_turn_X5_power : GoodIn wsX5_turn wsX5_power := goodIn_r _ [17] (by decide +kernel) (by decide +kernel)
set_option maxRecDepth 20000 in
theorem gX5_turn_X5_power : GoodIn wsX5_turn (va_wsS RX5 48 yX5_power wsX5_power) := goodIn_app (goodIn_of _ (by decide +kernel)) ggX5_turn_X5_power
set_option maxRecDepth 20000 in
theorem ggX5_turn_X5_figure : GoodIn wsX5_turn wsX5_figure := goodIn_r _ [14, 5, 4, 15, 16, 9, 17, 26, 27, 28, 29, 30, 31, 32, 33, 34, 35, 36, 37, 38, 39, 40, 41] (by decide +kernel) (by decide +kernel)
set_option maxRecDepth 20000 in
theorem gX5_turn_X5_figure : GoodIn wsX5_turn (wsV RX5 62 RX5 yX5_figure wsX5_figure) := goodIn_app (goodIn_of _ (by decide +kernel)) ggX5_turn_X5_figure
set_option maxRecDepth 20000 in
theorem ggX5_turn_X5_settle : GoodIn wsX5_turn wsX5_settle := goodIn_r _ [21, 4, 1, 3, 5, 11, 12, 13, 9, 14, 15, 16, 17, 22, 23, 24, 25, 26, 27, 28, 29, 30, 31, 32, 33, 34, 35, 36, 37, 38, 39, 40, 41] (by decide +kernel) (by decide +kernel)
set_option maxRecDepth 20000 in
theorem gX5_turn_X5_settle : GoodIn wsX5_turn (wsV RX5 83 RX5 yX5_settle wsX5_settle) := goodIn_app (goodIn_of _ (by decide +kernel)) ggX5_turn_X5_settle
theorem dX5_turn_0 : decode cX5_turn 0 = .ok (.aload_n 0, 1) := by decide +kernel
theorem dX5_turn_1 : decode cX5_turn 1 = .ok (.getfield 76, 3) := by decide +kernel
theorem dX5_turn_4 : decode cX5_turn 4 = .ok (.istore_n 1, 1) := by decide +kernel
theorem dX5_turn_5 : decode cX5_turn 5 = .ok (.iconst 0, 1) := by decide +kernel
theorem dX5_turn_6 : decode cX5_turn 6 = .ok (.istore_n 2, 1) := by decide +kernel
theorem dX5_turn_7 : decode cX5_turn 7 = .ok (.iload_n 2, 1) := by decide +kernel
theorem dX5_turn_8 : decode cX5_turn 8 = .ok (.bipush 6, 2) := by decide +kernel
theorem dX5_turn_10 : decode cX5_turn 10 = .ok (.if_icmp .ge 16, 3) := by decide +kernel
theorem dX5_turn_13 : decode cX5_turn 13 = .ok (.aload_n 0, 1) := by decide +kernel
theorem dX5_turn_14 : decode cX5_turn 14 = .ok (.getfield 16, 3) := by decide +kernel
theorem dX5_turn_17 : decode cX5_turn 17 = .ok (.iload_n 2, 1) := by decide +kernel
theorem dX5_turn_18 : decode cX5_turn 18 = .ok (.iconst 0, 1) := by decide +kernel
theorem dX5_turn_19 : decode cX5_turn 19 = .ok (.bastore, 1) := by decide +kernel
theorem dX5_turn_20 : decode cX5_turn 20 = .ok (.iinc 2 1, 3) := by decide +kernel
theorem dX5_turn_23 : decode cX5_turn 23 = .ok (.goto (-16), 3) := by decide +kernel
theorem dX5_turn_26 : decode cX5_turn 26 = .ok (.iconst 0, 1) := by decide +kernel
theorem dX5_turn_27 : decode cX5_turn 27 = .ok (.istore_n 2, 1) := by decide +kernel
theorem dX5_turn_28 : decode cX5_turn 28 = .ok (.iload_n 2, 1) := by decide +kernel
theorem dX5_turn_29 : decode cX5_turn 29 = .ok (.iload_n 1, 1) := by decide +kernel
theorem dX5_turn_30 : decode cX5_turn 30 = .ok (.if_icmp .ge 25, 3) := by decide +kernel
theorem dX5_turn_33 : decode cX5_turn 33 = .ok (.aload_n 0, 1) := by decide +kernel
theorem dX5_turn_34 : decode cX5_turn 34 = .ok (.getfield 16, 3) := by decide +kernel
theorem dX5_turn_37 : decode cX5_turn 37 = .ok (.aload_n 0, 1) := by decide +kernel
theorem dX5_turn_38 : decode cX5_turn 38 = .ok (.aload_n 0, 1) := by decide +kernel
theorem dX5_turn_39 : decode cX5_turn 39 = .ok (.getfield 13, 3) := by decide +kernel
theorem dX5_turn_42 : decode cX5_turn 42 = .ok (.iload_n 2, 1) := by decide +kernel
theorem dX5_turn_43 : decode cX5_turn 43 = .ok (.iaload, 1) := by decide +kernel
theorem dX5_turn_44 : decode cX5_turn 44 = .ok (.invokevirtual 79, 3) := by decide +kernel
theorem dX5_turn_47 : decode cX5_turn 47 = .ok (.iconst 1, 1) := by decide +kernel
theorem dX5_turn_48 : decode cX5_turn 48 = .ok (.bastore, 1) := by decide +kernel
theorem dX5_turn_49 : decode cX5_turn 49 = .ok (.iinc 2 1, 3) := by decide +kernel
theorem dX5_turn_52 : decode cX5_turn 52 = .ok (.goto (-24), 3) := by decide +kernel
theorem dX5_turn_55 : decode cX5_turn 55 = .ok (.iload_n 1, 1) := by decide +kernel
theorem dX5_turn_56 : decode cX5_turn 56 = .ok (.istore_n 2, 1) := by decide +kernel
theorem dX5_turn_57 : decode cX5_turn 57 = .ok (.iconst 0, 1) := by decide +kernel
theorem dX5_turn_58 : decode cX5_turn 58 = .ok (.istore_n 3, 1) := by decide +kernel
theorem dX5_turn_59 : decode cX5_turn 59 = .ok (.iload_n 3, 1) := by decide +kernel
theorem dX5_turn_60 : decode cX5_turn 60 = .ok (.aload_n 0, 1) := by decide +kernel
theorem dX5_turn_61 : decode cX5_turn 61 = .ok (.getfield 42, 3) := by decide +kernel
theorem dX5_turn_64 : decode cX5_turn 64 = .ok (.if_icmp .ge 114, 3) := by decide +kernel
theorem dX5_turn_67 : decode cX5_turn 67 = .ok (.aload_n 0, 1) := by decide +kernel
theorem dX5_turn_68 : decode cX5_turn 68 = .ok (.getfield 16, 3) := by decide +kernel
theorem dX5_turn_71 : decode cX5_turn 71 = .ok (.iload_n 3, 1) := by decide +kernel
theorem dX5_turn_72 : decode cX5_turn 72 = .ok (.baload, 1) := by decide +kernel
theorem dX5_turn_73 : decode cX5_turn 73 = .ok (.ifCond .ne 99, 3) := by decide +kernel
theorem dX5_turn_76 : decode cX5_turn 76 = .ok (.aload_n 0, 1) := by decide +kernel
theorem dX5_turn_77 : decode cX5_turn 77 = .ok (.getfield 38, 3) := by decide +kernel
theorem dX5_turn_80 : decode cX5_turn 80 = .ok (.aload_n 0, 1) := by decide +kernel
theorem dX5_turn_81 : decode cX5_turn 81 = .ok (.getfield 42, 3) := by decide +kernel
theorem dX5_turn_84 : decode cX5_turn 84 = .ok (.iconst 1, 1) := by decide +kernel
theorem dX5_turn_85 : decode cX5_turn 85 = .ok (.isub, 1) := by decide +kernel
theorem dX5_turn_86 : decode cX5_turn 86 = .ok (.iload_n 3, 1) := by decide +kernel
theorem dX5_turn_87 : decode cX5_turn 87 = .ok (.isub, 1) := by decide +kernel
theorem dX5_turn_88 : decode cX5_turn 88 = .ok (.invokestatic 48, 3) := by decide +kernel
theorem dX5_turn_91 : decode cX5_turn 91 = .ok (.istore 4, 2) := by decide +kernel
theorem dX5_turn_93 : decode cX5_turn 93 = .ok (.iconst 0, 1) := by decide +kernel
theorem dX5_turn_94 : decode cX5_turn 94 = .ok (.istore 5, 2) := by decide +kernel
theorem dX5_turn_96 : decode cX5_turn 96 = .ok (.iload 5, 2) := by decide +kernel
theorem dX5_turn_98 : decode cX5_turn 98 = .ok (.iload_n 1, 1) := by decide +kernel
theorem dX5_turn_99 : decode cX5_turn 99 = .ok (.if_icmp .ge 62, 3) := by decide +kernel
theorem dX5_turn_102 : decode cX5_turn 102 = .ok (.iload 4, 2) := by decide +kernel
theorem dX5_turn_104 : decode cX5_turn 104 = .ok (.aload_n 0, 1) := by decide +kernel
theorem dX5_turn_105 : decode cX5_turn 105 = .ok (.getfield 38, 3) := by decide +kernel
theorem dX5_turn_108 : decode cX5_turn 108 = .ok (.aload_n 0, 1) := by decide +kernel
theorem dX5_turn_109 : decode cX5_turn 109 = .ok (.aload_n 0, 1) := by decide +kernel
theorem dX5_turn_110 : decode cX5_turn 110 = .ok (.getfield 13, 3) := by decide +kernel
theorem dX5_turn_113 : decode cX5_turn 113 = .ok (.iload 5, 2) := by decide +kernel
theorem dX5_turn_115 : decode cX5_turn 115 = .ok (.iaload, 1) := by decide +kernel
theorem dX5_turn_116 : decode cX5_turn 116 = .ok (.iload_n 3, 1) := by decide +kernel
theorem dX5_turn_117 : decode cX5_turn 117 = .ok (.invokevirtual 62, 3) := by decide +kernel
theorem dX5_turn_120 : decode cX5_turn 120 = .ok (.isub, 1) := by decide +kernel
theorem dX5_turn_121 : decode cX5_turn 121 = .ok (.aload_n 0, 1) := by decide +kernel
theorem dX5_turn_122 : decode cX5_turn 122 = .ok (.getfield 38, 3) := by decide +kernel
theorem dX5_turn_125 : decode cX5_turn 125 = .ok (.irem, 1) := by decide +kernel
theorem dX5_turn_126 : decode cX5_turn 126 = .ok (.aload_n 0, 1) := by decide +kernel
theorem dX5_turn_127 : decode cX5_turn 127 = .ok (.getfield 38, 3) := by decide +kernel
theorem dX5_turn_130 : decode cX5_turn 130 = .ok (.aload_n 0, 1) := by decide +kernel
theorem dX5_turn_131 : decode cX5_turn 131 = .ok (.getfield 42, 3) := by decide +kernel
theorem dX5_turn_134 : decode cX5_turn 134 = .ok (.iconst 1, 1) := by decide +kernel
theorem dX5_turn_135 : decode cX5_turn 135 = .ok (.isub, 1) := by decide +kernel
theorem dX5_turn_136 : decode cX5_turn 136 = .ok (.aload_n 0, 1) := by decide +kernel
theorem dX5_turn_137 : decode cX5_turn 137 = .ok (.aload_n 0, 1) := by decide +kernel
theorem dX5_turn_138 : decode cX5_turn 138 = .ok (.getfield 13, 3) := by decide +kernel
theorem dX5_turn_141 : decode cX5_turn 141 = .ok (.iload 5, 2) := by decide +kernel
theorem dX5_turn_143 : decode cX5_turn 143 = .ok (.iaload, 1) := by decide +kernel
theorem dX5_turn_144 : decode cX5_turn 144 = .ok (.invokevirtual 79, 3) := by decide +kernel
theorem dX5_turn_147 : decode cX5_turn 147 = .ok (.isub, 1) := by decide +kernel
theorem dX5_turn_148 : decode cX5_turn 148 = .ok (.invokestatic 48, 3) := by decide +kernel
theorem dX5_turn_151 : decode cX5_turn 151 = .ok (.imul, 1) := by decide +kernel
theorem dX5_turn_152 : decode cX5_turn 152 = .ok (.iadd, 1) := by decide +kernel
theorem dX5_turn_153 : decode cX5_turn 153 = .ok (.istore 4, 2) := by decide +kernel
theorem dX5_turn_155 : decode cX5_turn 155 = .ok (.iinc 5 1, 3) := by decide +kernel
theorem dX5_turn_158 : decode cX5_turn 158 = .ok (.goto (-62), 3) := by decide +kernel
theorem dX5_turn_161 : decode cX5_turn 161 = .ok (.aload_n 0, 1) := by decide +kernel
theorem dX5_turn_162 : decode cX5_turn 162 = .ok (.getfield 13, 3) := by decide +kernel
theorem dX5_turn_165 : decode cX5_turn 165 = .ok (.iload_n 2, 1) := by decide +kernel
theorem dX5_turn_166 : decode cX5_turn 166 = .ok (.iload 4, 2) := by decide +kernel
theorem dX5_turn_168 : decode cX5_turn 168 = .ok (.iastore, 1) := by decide +kernel
theorem dX5_turn_169 : decode cX5_turn 169 = .ok (.iinc 2 1, 3) := by decide +kernel
theorem dX5_turn_172 : decode cX5_turn 172 = .ok (.iinc 3 1, 3) := by decide +kernel
theorem dX5_turn_175 : decode cX5_turn 175 = .ok (.goto (-116), 3) := by decide +kernel
theorem dX5_turn_178 : decode cX5_turn 178 = .ok (.aload_n 0, 1) := by decide +kernel
theorem dX5_turn_179 : decode cX5_turn 179 = .ok (.iload_n 2, 1) := by decide +kernel
theorem dX5_turn_180 : decode cX5_turn 180 = .ok (.iload_n 1, 1) := by decide +kernel
theorem dX5_turn_181 : decode cX5_turn 181 = .ok (.isub, 1) := by decide +kernel
theorem dX5_turn_182 : decode cX5_turn 182 = .ok (.putfield 76, 3) := by decide +kernel
theorem dX5_turn_185 : decode cX5_turn 185 = .ok (.iconst 0, 1) := by decide +kernel
theorem dX5_turn_186 : decode cX5_turn 186 = .ok (.istore_n 3, 1) := by decide +kernel
theorem dX5_turn_187 : decode cX5_turn 187 = .ok (.iload_n 3, 1) := by decide +kernel
theorem dX5_turn_188 : decode cX5_turn 188 = .ok (.aload_n 0, 1) := by decide +kernel
theorem dX5_turn_189 : decode cX5_turn 189 = .ok (.getfield 76, 3) := by decide +kernel
theorem dX5_turn_192 : decode cX5_turn 192 = .ok (.if_icmp .ge 23, 3) := by decide +kernel
theorem dX5_turn_195 : decode cX5_turn 195 = .ok (.aload_n 0, 1) := by decide +kernel
theorem dX5_turn_196 : decode cX5_turn 196 = .ok (.getfield 13, 3) := by decide +kernel
theorem dX5_turn_199 : decode cX5_turn 199 = .ok (.iload_n 3, 1) := by decide +kernel
theorem dX5_turn_200 : decode cX5_turn 200 = .ok (.aload_n 0, 1) := by decide +kernel
theorem dX5_turn_201 : decode cX5_turn 201 = .ok (.getfield 13, 3) := by decide +kernel
theorem dX5_turn_204 : decode cX5_turn 204 = .ok (.iload_n 1, 1) := by decide +kernel
theorem dX5_turn_205 : decode cX5_turn 205 = .ok (.iload_n 3, 1) := by decide +kernel
theorem dX5_turn_206 : decode cX5_turn 206 = .ok (.iadd, 1) := by decide +kernel
theorem dX5_turn_207 : decode cX5_turn 207 = .ok (.iaload, 1) := by decide +kernel
theorem dX5_turn_208 : decode cX5_turn 208 = .ok (.iastore, 1) := by decide +kernel
theorem dX5_turn_209 : decode cX5_turn 209 = .ok (.iinc 3 1, 3) := by decide +kernel
theorem dX5_turn_212 : decode cX5_turn 212 = .ok (.goto (-25), 3) := by decide +kernel
theorem dX5_turn_215 : decode cX5_turn 215 = .ok (.aload_n 0, 1) := by decide +kernel
theorem dX5_turn_216 : decode cX5_turn 216 = .ok (.invokevirtual 83, 3) := by decide +kernel
theorem dX5_turn_219 : decode cX5_turn 219 = .ok (.return_, 1) := by decide +kernel
set_option maxRecDepth 20000 in
theorem ggX5_isSlot_X5_in : GoodIn wsX5_isSlot wsX5_in := goodIn_r _ [5] (by decide +kernel) (by decide +kernel)
set_option maxRecDepth 20000 in
theorem gX5_isSlot_X5_in : GoodIn wsX5_isSlot (va_wsS RX5 58 yX5_in wsX5_in) := goodIn_app (goodIn_of _ (by decide +kernel)) ggX5_isSlot_X5_in
theorem dX5_isSlot_0 : decode cX5_isSlot 0 = .ok (.iload_n 0, 1) := by decide +kernel
theorem dX5_isSlot_1 : decode cX5_isSlot 1 = .ok (.i2l, 1) := by decide +kernel
theorem dX5_isSlot_2 : decode cX5_isSlot 2 = .ok (.lconst 0, 1) := by decide +kernel
theorem dX5_isSlot_3 : decode cX5_isSlot 3 = .ok (.ldc2_w 86, 3) := by decide +kernel
theorem dX5_isSlot_6 : decode cX5_isSlot 6 = .ok (.invokestatic 58, 3) := by decide +kernel
theorem dX5_isSlot_9 : decode cX5_isSlot 9 = .ok (.ireturn, 1) := by decide +kernel
theorem dX5_load_0 : decode cX5_load 0 = .ok (.iconst 0, 1) := by decide +kernel
theorem dX5_load_1 : decode cX5_load 1 = .ok (.istore_n 2, 1) := by decide +kernel
theorem dX5_load_2 : decode cX5_load 2 = .ok (.iload_n 2, 1) := by decide +kernel
theorem dX5_load_3 : decode cX5_load 3 = .ok (.aload_n 0, 1) := by decide +kernel
theorem dX5_load_4 : decode cX5_load 4 = .ok (.getfield 20, 3) := by decide +kernel
theorem dX5_load_7 : decode cX5_load 7 = .ok (.iload_n 1, 1) := by decide +kernel
theorem dX5_load_8 : decode cX5_load 8 = .ok (.iaload, 1) := by decide +kernel
theorem dX5_load_9 : decode cX5_load 9 = .ok (.if_icmp .ge 39, 3) := by decide +kernel
theorem dX5_load_12 : decode cX5_load 12 = .ok (.aload_n 0, 1) := by decide +kernel
theorem dX5_load_13 : decode cX5_load 13 = .ok (.getfield 13, 3) := by decide +kernel
theorem dX5_load_16 : decode cX5_load 16 = .ok (.aload_n 0, 1) := by decide +kernel
theorem dX5_load_17 : decode cX5_load 17 = .ok (.getfield 76, 3) := by decide +kernel
theorem dX5_load_20 : decode cX5_load 20 = .ok (.aload_n 0, 1) := by decide +kernel
theorem dX5_load_21 : decode cX5_load 21 = .ok (.getfield 23, 3) := by decide +kernel
theorem dX5_load_24 : decode cX5_load 24 = .ok (.bipush 6, 2) := by decide +kernel
theorem dX5_load_26 : decode cX5_load 26 = .ok (.iload_n 1, 1) := by decide +kernel
theorem dX5_load_27 : decode cX5_load 27 = .ok (.imul, 1) := by decide +kernel
theorem dX5_load_28 : decode cX5_load 28 = .ok (.iload_n 2, 1) := by decide +kernel
theorem dX5_load_29 : decode cX5_load 29 = .ok (.iadd, 1) := by decide +kernel
theorem dX5_load_30 : decode cX5_load 30 = .ok (.iaload, 1) := by decide +kernel
theorem dX5_load_31 : decode cX5_load 31 = .ok (.iastore, 1) := by decide +kernel
theorem dX5_load_32 : decode cX5_load 32 = .ok (.aload_n 0, 1) := by decide +kernel
theorem dX5_load_33 : decode cX5_load 33 = .ok (.dup, 1) := by decide +kernel
theorem dX5_load_34 : decode cX5_load 34 = .ok (.getfield 76, 3) := by decide +kernel
theorem dX5_load_37 : decode cX5_load 37 = .ok (.iconst 1, 1) := by decide +kernel
theorem dX5_load_38 : decode cX5_load 38 = .ok (.iadd, 1) := by decide +kernel
theorem dX5_load_39 : decode cX5_load 39 = .ok (.putfield 76, 3) := by decide +kernel
theorem dX5_load_42 : decode cX5_load 42 = .ok (.iinc 2 1, 3) := by decide +kernel
theorem dX5_load_45 : decode cX5_load 45 = .ok (.goto (-43), 3) := by decide +kernel
theorem dX5_load_48 : decode cX5_load 48 = .ok (.return_, 1) := by decide +kernel
theorem dX5_save_0 : decode cX5_save 0 = .ok (.aload_n 0, 1) := by decide +kernel
theorem dX5_save_1 : decode cX5_save 1 = .ok (.getfield 20, 3) := by decide +kernel
theorem dX5_save_4 : decode cX5_save 4 = .ok (.iload_n 1, 1) := by decide +kernel
theorem dX5_save_5 : decode cX5_save 5 = .ok (.aload_n 0, 1) := by decide +kernel
theorem dX5_save_6 : decode cX5_save 6 = .ok (.getfield 76, 3) := by decide +kernel
theorem dX5_save_9 : decode cX5_save 9 = .ok (.iastore, 1) := by decide +kernel
theorem dX5_save_10 : decode cX5_save 10 = .ok (.iconst 0, 1) := by decide +kernel
theorem dX5_save_11 : decode cX5_save 11 = .ok (.istore_n 2, 1) := by decide +kernel
theorem dX5_save_12 : decode cX5_save 12 = .ok (.iload_n 2, 1) := by decide +kernel
theorem dX5_save_13 : decode cX5_save 13 = .ok (.aload_n 0, 1) := by decide +kernel
theorem dX5_save_14 : decode cX5_save 14 = .ok (.getfield 76, 3) := by decide +kernel
theorem dX5_save_17 : decode cX5_save 17 = .ok (.if_icmp .ge 26, 3) := by decide +kernel
theorem dX5_save_20 : decode cX5_save 20 = .ok (.aload_n 0, 1) := by decide +kernel
theorem dX5_save_21 : decode cX5_save 21 = .ok (.getfield 23, 3) := by decide +kernel
theorem dX5_save_24 : decode cX5_save 24 = .ok (.bipush 6, 2) := by decide +kernel
theorem dX5_save_26 : decode cX5_save 26 = .ok (.iload_n 1, 1) := by decide +kernel
theorem dX5_save_27 : decode cX5_save 27 = .ok (.imul, 1) := by decide +kernel
theorem dX5_save_28 : decode cX5_save 28 = .ok (.iload_n 2, 1) := by decide +kernel
theorem dX5_save_29 : decode cX5_save 29 = .ok (.iadd, 1) := by decide +kernel
theorem dX5_save_30 : decode cX5_save 30 = .ok (.aload_n 0, 1) := by decide +kernel
theorem dX5_save_31 : decode cX5_save 31 = .ok (.getfield 13, 3) := by decide +kernel
theorem dX5_save_34 : decode cX5_save 34 = .ok (.iload_n 2, 1) := by decide +kernel
theorem dX5_save_35 : decode cX5_save 35 = .ok (.iaload, 1) := by decide +kernel
theorem dX5_save_36 : decode cX5_save 36 = .ok (.iastore, 1) := by decide +kernel
theorem dX5_save_37 : decode cX5_save 37 = .ok (.iinc 2 1, 3) := by decide +kernel
theorem dX5_save_40 : decode cX5_save 40 = .ok (.goto (-28), 3) := by decide +kernel
theorem dX5_save_43 : decode cX5_save 43 = .ok (.aload_n 0, 1) := by decide +kernel
theorem dX5_save_44 : decode cX5_save 44 = .ok (.getfield 76, 3) := by decide +kernel
theorem dX5_save_47 : decode cX5_save 47 = .ok (.ireturn, 1) := by decide +kernel
set_option maxRecDepth 20000 in
theorem ggX5_add_X5_isSlot : GoodIn wsX5_add wsX5_isSlot := goodIn_r _ [6, 7, 8, 9, 5, 10] (by decide +kernel) (by decide +kernel)
set_option maxRecDepth 20000 in
theorem gX5_add_X5_isSlot : GoodIn wsX5_add (va_wsS RX5 88 yX5_isSlot wsX5_isSlot) := goodIn_app (goodIn_of _ (by decide +kernel)) ggX5_add_X5_isSlot
set_option maxRecDepth 20000 in
theorem ggX5_add_X5_isVector : GoodIn wsX5_add wsX5_isVector := goodIn_r _ [14, 15, 8, 9, 5, 10, 43, 44, 45, 46, 47, 48, 49, 50, 51, 52, 53, 54, 55, 56, 57, 58] (by decide +kernel) (by decide +kernel)
set_option maxRecDepth 20000 in
theorem gX5_add_X5_isVector : GoodIn wsX5_add (wsV RX5 65 RX5 yX5_isVector wsX5_isVector) := goodIn_app (goodIn_of _ (by decide +kernel)) ggX5_add_X5_isVector
set_option maxRecDepth 20000 in
theorem ggX5_add_X5_load : GoodIn wsX5_add wsX5_load := goodIn_r _ [19, 20, 2, 1, 21, 43, 44, 45, 46, 47, 48, 49, 50, 51, 52, 53, 54, 55, 56, 57, 58] (by decide +kernel) (by decide +kernel)
set_option maxRecDepth 20000 in
theorem gX5_add_X5_load : GoodIn wsX5_add (wsV RX5 91 RX5 yX5_load wsX5_load) := goodIn_app (goodIn_of _ (by decide +kernel)) ggX5_add_X5_load
set_option maxRecDepth 20000 in
theorem ggX5_add_X5_settle : GoodIn wsX5_add wsX5_settle := goodIn_r _ [25, 26, 1, 2, 27, 28, 29, 30, 5, 31, 32, 33, 34, 35, 36, 37, 38, 43, 44, 45, 46, 47, 48, 49, 50, 51, 52, 53, 54, 55, 56, 57, 58] (by decide +kernel) (by decide +kernel)
set_option maxRecDepth 20000 in
theorem gX5_add_X5_settle : GoodIn wsX5_add (wsV RX5 83 RX5 yX5_settle wsX5_settle) := goodIn_app (goodIn_of _ (by decide +kernel)) ggX5_add_X5_settle
set_option maxRecDepth 20000 in
theorem ggX5_add_X5_save : GoodIn wsX5_add wsX5_save := goodIn_r _ [42, 20, 1, 21, 2, 43, 44, 45, 46, 47, 48, 49, 50, 51, 52, 53, 54, 55, 56, 57, 58] (by decide +kernel) (by decide +kernel)
set_option maxRecDepth 20000 in
theorem gX5_add_X5_save : GoodIn wsX5_add (wsV RX5 95 RX5 yX5_save wsX5_save) := goodIn_app (goodIn_of _ (by decide +kernel)) ggX5_add_X5_save
theorem dX5_add_0 : decode cX5_add 0 = .ok (.iload_n 1, 1) := by decide +kernel
theorem dX5_add_1 : decode cX5_add 1 = .ok (.invokestatic 88, 3) := by decide +kernel
theorem dX5_add_4 : decode cX5_add 4 = .ok (.ifCond .eq 11, 3) := by decide +kernel
theorem dX5_add_7 : decode cX5_add 7 = .ok (.aload_n 0, 1) := by decide +kernel
theorem dX5_add_8 : decode cX5_add 8 = .ok (.iload_n 2, 1) := by decide +kernel
theorem dX5_add_9 : decode cX5_add 9 = .ok (.invokevirtual 65, 3) := by decide +kernel
theorem dX5_add_12 : decode cX5_add 12 = .ok (.ifCond .ne 6, 3) := by decide +kernel
theorem dX5_add_15 : decode cX5_add 15 = .ok (.bipush (-101), 2) := by decide +kernel
theorem dX5_add_17 : decode cX5_add 17 = .ok (.ireturn, 1) := by decide +kernel
theorem dX5_add_18 : decode cX5_add 18 = .ok (.aload_n 0, 1) := by decide +kernel
theorem dX5_add_19 : decode cX5_add 19 = .ok (.iconst 0, 1) := by decide +kernel
theorem dX5_add_20 : decode cX5_add 20 = .ok (.putfield 76, 3) := by decide +kernel
theorem dX5_add_23 : decode cX5_add 23 = .ok (.aload_n 0, 1) := by decide +kernel
theorem dX5_add_24 : decode cX5_add 24 = .ok (.iload_n 1, 1) := by decide +kernel
theorem dX5_add_25 : decode cX5_add 25 = .ok (.invokevirtual 91, 3) := by decide +kernel
theorem dX5_add_28 : decode cX5_add 28 = .ok (.aload_n 0, 1) := by decide +kernel
theorem dX5_add_29 : decode cX5_add 29 = .ok (.getfield 13, 3) := by decide +kernel
theorem dX5_add_32 : decode cX5_add 32 = .ok (.aload_n 0, 1) := by decide +kernel
theorem dX5_add_33 : decode cX5_add 33 = .ok (.getfield 76, 3) := by decide +kernel
theorem dX5_add_36 : decode cX5_add 36 = .ok (.iload_n 2, 1) := by decide +kernel
theorem dX5_add_37 : decode cX5_add 37 = .ok (.iastore, 1) := by decide +kernel
theorem dX5_add_38 : decode cX5_add 38 = .ok (.aload_n 0, 1) := by decide +kernel
theorem dX5_add_39 : decode cX5_add 39 = .ok (.dup, 1) := by decide +kernel
theorem dX5_add_40 : decode cX5_add 40 = .ok (.getfield 76, 3) := by decide +kernel
theorem dX5_add_43 : decode cX5_add 43 = .ok (.iconst 1, 1) := by decide +kernel
theorem dX5_add_44 : decode cX5_add 44 = .ok (.iadd, 1) := by decide +kernel
theorem dX5_add_45 : decode cX5_add 45 = .ok (.putfield 76, 3) := by decide +kernel
theorem dX5_add_48 : decode cX5_add 48 = .ok (.aload_n 0, 1) := by decide +kernel
theorem dX5_add_49 : decode cX5_add 49 = .ok (.invokevirtual 83, 3) := by decide +kernel
theorem dX5_add_52 : decode cX5_add 52 = .ok (.aload_n 0, 1) := by decide +kernel
theorem dX5_add_53 : decode cX5_add 53 = .ok (.iload_n 1, 1) := by decide +kernel
theorem dX5_add_54 : decode cX5_add 54 = .ok (.invokevirtual 95, 3) := by decide +kernel
theorem dX5_add_57 : decode cX5_add 57 = .ok (.ireturn, 1) := by decide +kernel
set_option maxRecDepth 20000 in
theorem ggX5_clear_X5_isSlot : GoodIn wsX5_clear wsX5_isSlot := goodIn_r _ [5, 6, 7, 8, 4, 9] (by decide +kernel) (by decide +kernel)
set_option maxRecDepth 20000 in
theorem gX5_clear_X5_isSlot : GoodIn wsX5_clear (va_wsS RX5 88 yX5_isSlot wsX5_isSlot) := goodIn_app (goodIn_of _ (by decide +kernel)) ggX5_clear_X5_isSlot
theorem dX5_clear_0 : decode cX5_clear 0 = .ok (.iload_n 1, 1) := by decide +kernel
theorem dX5_clear_1 : decode cX5_clear 1 = .ok (.invokestatic 88, 3) := by decide +kernel
theorem dX5_clear_4 : decode cX5_clear 4 = .ok (.ifCond .ne 6, 3) := by decide +kernel
theorem dX5_clear_7 : decode cX5_clear 7 = .ok (.bipush (-101), 2) := by decide +kernel
theorem dX5_clear_9 : decode cX5_clear 9 = .ok (.ireturn, 1) := by decide +kernel
theorem dX5_clear_10 : decode cX5_clear 10 = .ok (.aload_n 0, 1) := by decide +kernel
theorem dX5_clear_11 : decode cX5_clear 11 = .ok (.getfield 20, 3) := by decide +kernel
theorem dX5_clear_14 : decode cX5_clear 14 = .ok (.iload_n 1, 1) := by decide +kernel
theorem dX5_clear_15 : decode cX5_clear 15 = .ok (.iaload, 1) := by decide +kernel
theorem dX5_clear_16 : decode cX5_clear 16 = .ok (.istore_n 2, 1) := by decide +kernel
theorem dX5_clear_17 : decode cX5_clear 17 = .ok (.aload_n 0, 1) := by decide +kernel
theorem dX5_clear_18 : decode cX5_clear 18 = .ok (.getfield 20, 3) := by decide +kernel
theorem dX5_clear_21 : decode cX5_clear 21 = .ok (.iload_n 1, 1) := by decide +kernel
theorem dX5_clear_22 : decode cX5_clear 22 = .ok (.iconst 0, 1) := by decide +kernel
theorem dX5_clear_23 : decode cX5_clear 23 = .ok (.iastore, 1) := by decide +kernel
theorem dX5_clear_24 : decode cX5_clear 24 = .ok (.iload_n 2, 1) := by decide +kernel
theorem dX5_clear_25 : decode cX5_clear 25 = .ok (.ireturn, 1) := by decide +kernel
set_option maxRecDepth 20000 in
theorem ggX5_dim_X5_isSlot : GoodIn wsX5_dim wsX5_isSlot := goodIn_r _ [5, 6, 7, 8, 4, 9] (by decide +kernel) (by decide +kernel)
set_option maxRecDepth 20000 in
theorem gX5_dim_X5_isSlot : GoodIn wsX5_dim (va_wsS RX5 88 yX5_isSlot wsX5_isSlot) := goodIn_app (goodIn_of _ (by decide +kernel)) ggX5_dim_X5_isSlot
theorem dX5_dim_0 : decode cX5_dim 0 = .ok (.iload_n 1, 1) := by decide +kernel
theorem dX5_dim_1 : decode cX5_dim 1 = .ok (.invokestatic 88, 3) := by decide +kernel
theorem dX5_dim_4 : decode cX5_dim 4 = .ok (.ifCond .eq 12, 3) := by decide +kernel
theorem dX5_dim_7 : decode cX5_dim 7 = .ok (.aload_n 0, 1) := by decide +kernel
theorem dX5_dim_8 : decode cX5_dim 8 = .ok (.getfield 20, 3) := by decide +kernel
theorem dX5_dim_11 : decode cX5_dim 11 = .ok (.iload_n 1, 1) := by decide +kernel
theorem dX5_dim_12 : decode cX5_dim 12 = .ok (.iaload, 1) := by decide +kernel
theorem dX5_dim_13 : decode cX5_dim 13 = .ok (.goto 5, 3) := by decide +kernel
theorem dX5_dim_16 : decode cX5_dim 16 = .ok (.bipush (-101), 2) := by decide +kernel
theorem dX5_dim_18 : decode cX5_dim 18 = .ok (.ireturn, 1) := by decide +kernel
set_option maxRecDepth 20000 in
theorem ggX5_row_X5_isSlot : GoodIn wsX5_row wsX5_isSlot := goodIn_r _ [6, 7, 8, 9, 5, 10] (by decide +kernel) (by decide +kernel)
set_option maxRecDepth 20000 in
theorem gX5_row_X5_isSlot : GoodIn wsX5_row (va_wsS RX5 88 yX5_isSlot wsX5_isSlot) := goodIn_app (goodIn_of _ (by decide +kernel)) ggX5_row_X5_isSlot
set_option maxRecDepth 20000 in
theorem ggX5_row_X5_in : GoodIn wsX5_row wsX5_in := goodIn_r _ [10] (by decide +kernel) (by decide +kernel)
set_option maxRecDepth 20000 in
theorem gX5_row_X5_in : GoodIn wsX5_row (va_wsS RX5 58 yX5_in wsX5_in) := goodIn_app (goodIn_of _ (by decide +kernel)) ggX5_row_X5_in
theorem dX5_row_0 : decode cX5_row 0 = .ok (.iload_n 1, 1) := by decide +kernel
theorem dX5_row_1 : decode cX5_row 1 = .ok (.invokestatic 88, 3) := by decide +kernel
theorem dX5_row_4 : decode cX5_row 4 = .ok (.ifCond .ne 6, 3) := by decide +kernel
theorem dX5_row_7 : decode cX5_row 7 = .ok (.bipush (-101), 2) := by decide +kernel
theorem dX5_row_9 : decode cX5_row 9 = .ok (.ireturn, 1) := by decide +kernel
theorem dX5_row_10 : decode cX5_row 10 = .ok (.iload_n 2, 1) := by decide +kernel
theorem dX5_row_11 : decode cX5_row 11 = .ok (.i2l, 1) := by decide +kernel
theorem dX5_row_12 : decode cX5_row 12 = .ok (.lconst 0, 1) := by decide +kernel
theorem dX5_row_13 : decode cX5_row 13 = .ok (.aload_n 0, 1) := by decide +kernel
theorem dX5_row_14 : decode cX5_row 14 = .ok (.getfield 20, 3) := by decide +kernel
theorem dX5_row_17 : decode cX5_row 17 = .ok (.iload_n 1, 1) := by decide +kernel
theorem dX5_row_18 : decode cX5_row 18 = .ok (.iaload, 1) := by decide +kernel
theorem dX5_row_19 : decode cX5_row 19 = .ok (.iconst 1, 1) := by decide +kernel
theorem dX5_row_20 : decode cX5_row 20 = .ok (.isub, 1) := by decide +kernel
theorem dX5_row_21 : decode cX5_row 21 = .ok (.i2l, 1) := by decide +kernel
theorem dX5_row_22 : decode cX5_row 22 = .ok (.invokestatic 58, 3) := by decide +kernel
theorem dX5_row_25 : decode cX5_row 25 = .ok (.ifCond .eq 17, 3) := by decide +kernel
theorem dX5_row_28 : decode cX5_row 28 = .ok (.aload_n 0, 1) := by decide +kernel
theorem dX5_row_29 : decode cX5_row 29 = .ok (.getfield 23, 3) := by decide +kernel
theorem dX5_row_32 : decode cX5_row 32 = .ok (.bipush 6, 2) := by decide +kernel
theorem dX5_row_34 : decode cX5_row 34 = .ok (.iload_n 1, 1) := by decide +kernel
theorem dX5_row_35 : decode cX5_row 35 = .ok (.imul, 1) := by decide +kernel
theorem dX5_row_36 : decode cX5_row 36 = .ok (.iload_n 2, 1) := by decide +kernel
theorem dX5_row_37 : decode cX5_row 37 = .ok (.iadd, 1) := by decide +kernel
theorem dX5_row_38 : decode cX5_row 38 = .ok (.iaload, 1) := by decide +kernel
theorem dX5_row_39 : decode cX5_row 39 = .ok (.goto 4, 3) := by decide +kernel
theorem dX5_row_42 : decode cX5_row 42 = .ok (.iconst (-1), 1) := by decide +kernel
theorem dX5_row_43 : decode cX5_row 43 = .ok (.ireturn, 1) := by decide +kernel
set_option maxRecDepth 20000 in
theorem ggX5_areSlots_X5_isSlot : GoodIn wsX5_areSlots wsX5_isSlot := goodIn_r _ [4, 5, 6, 7, 3, 8] (by decide +kernel) (by decide +kernel)
set_option maxRecDepth 20000 in
theorem gX5_areSlots_X5_isSlot : GoodIn wsX5_areSlots (va_wsS RX5 88 yX5_isSlot wsX5_isSlot) := goodIn_app (goodIn_of _ (by decide +kernel)) ggX5_areSlots_X5_isSlot
theorem dX5_areSlots_0 : decode cX5_areSlots 0 = .ok (.iload_n 0, 1) := by decide +kernel
theorem dX5_areSlots_1 : decode cX5_areSlots 1 = .ok (.invokestatic 88, 3) := by decide +kernel
theorem dX5_areSlots_4 : decode cX5_areSlots 4 = .ok (.ifCond .eq 21, 3) := by decide +kernel
theorem dX5_areSlots_7 : decode cX5_areSlots 7 = .ok (.iload_n 1, 1) := by decide +kernel
theorem dX5_areSlots_8 : decode cX5_areSlots 8 = .ok (.invokestatic 88, 3) := by decide +kernel
theorem dX5_areSlots_11 : decode cX5_areSlots 11 = .ok (.ifCond .eq 14, 3) := by decide +kernel
theorem dX5_areSlots_14 : decode cX5_areSlots 14 = .ok (.iload_n 2, 1) := by decide +kernel
theorem dX5_areSlots_15 : decode cX5_areSlots 15 = .ok (.invokestatic 88, 3) := by decide +kernel
theorem dX5_areSlots_18 : decode cX5_areSlots 18 = .ok (.ifCond .eq 7, 3) := by decide +kernel
theorem dX5_areSlots_21 : decode cX5_areSlots 21 = .ok (.iconst 1, 1) := by decide +kernel
theorem dX5_areSlots_22 : decode cX5_areSlots 22 = .ok (.goto 4, 3) := by decide +kernel
theorem dX5_areSlots_25 : decode cX5_areSlots 25 = .ok (.iconst 0, 1) := by decide +kernel
theorem dX5_areSlots_26 : decode cX5_areSlots 26 = .ok (.ireturn, 1) := by decide +kernel
set_option maxRecDepth 20000 in
theorem ggX5_joined_X5_load : GoodIn wsX5_joined wsX5_load := goodIn_r _ [6, 7, 8, 1, 9, 27, 28, 29, 30, 31, 32, 33, 34, 35, 36, 37, 38, 39, 40, 41, 42] (by decide +kernel) (by decide +kernel)
set_option maxRecDepth 20000 in
theorem gX5_joined_X5_load : GoodIn wsX5_joined (wsV RX5 91 RX5 yX5_load wsX5_load) := goodIn_app (goodIn_of _ (by decide +kernel)) ggX5_joined_X5_load
set_option maxRecDepth 20000 in
theorem ggX5_joined_X5_settle : GoodIn wsX5_joined wsX5_settle := goodIn_r _ [13, 14, 1, 8, 15, 16, 17, 18, 5, 19, 20, 21, 22, 23, 24, 25, 26, 27, 28, 29, 30, 31, 32, 33, 34, 35, 36, 37, 38, 39, 40, 41, 42] (by decide +kernel) (by decide +kernel)
set_option maxRecDepth 20000 in
theorem gX5_joined_X5_settle : GoodIn wsX5_joined (wsV RX5 83 RX5 yX5_settle wsX5_settle) := goodIn_app (goodIn_of _ (by decide +kernel)) ggX5_joined_X5_settle
theorem dX5_joined_0 : decode cX5_joined 0 = .ok (.aload_n 0, 1) := by decide +kernel
theorem dX5_joined_1 : decode cX5_joined 1 = .ok (.iconst 0, 1) := by decide +kernel
theorem dX5_joined_2 : decode cX5_joined 2 = .ok (.putfield 76, 3) := by decide +kernel
theorem dX5_joined_5 : decode cX5_joined 5 = .ok (.aload_n 0, 1) := by decide +kernel
theorem dX5_joined_6 : decode cX5_joined 6 = .ok (.iload_n 1, 1) := by decide +kernel
theorem dX5_joined_7 : decode cX5_joined 7 = .ok (.invokevirtual 91, 3) := by decide +kernel
theorem dX5_joined_10 : decode cX5_joined 10 = .ok (.aload_n 0, 1) := by decide +kernel
theorem dX5_joined_11 : decode cX5_joined 11 = .ok (.iload_n 2, 1) := by decide +kernel
theorem dX5_joined_12 : decode cX5_joined 12 = .ok (.invokevirtual 91, 3) := by decide +kernel
theorem dX5_joined_15 : decode cX5_joined 15 = .ok (.aload_n 0, 1) := by decide +kernel
theorem dX5_joined_16 : decode cX5_joined 16 = .ok (.invokevirtual 83, 3) := by decide +kernel
theorem dX5_joined_19 : decode cX5_joined 19 = .ok (.aload_n 0, 1) := by decide +kernel
theorem dX5_joined_20 : decode cX5_joined 20 = .ok (.getfield 76, 3) := by decide +kernel
theorem dX5_joined_23 : decode cX5_joined 23 = .ok (.ireturn, 1) := by decide +kernel
set_option maxRecDepth 20000 in
theorem ggX5_join_X5_areSlots : GoodIn wsX5_join wsX5_areSlots := goodIn_r _ [4, 5, 6, 3, 7, 8, 9, 10, 11] (by decide +kernel) (by decide +kernel)
set_option maxRecDepth 20000 in
theorem gX5_join_X5_areSlots : GoodIn wsX5_join (va_wsS RX5 98 yX5_areSlots wsX5_areSlots) := goodIn_app (goodIn_of _ (by decide +kernel)) ggX5_join_X5_areSlots
set_option maxRecDepth 20000 in
theorem ggX5_join_X5_joined : GoodIn wsX5_join wsX5_joined := goodIn_r _ [15, 16, 17, 18, 19, 3, 20, 21, 22, 23, 24, 25, 26, 27, 28, 29, 30, 31, 32, 33, 34, 35, 36, 37, 38, 39, 40, 45, 46, 47, 48, 49, 50, 51, 52, 53, 54, 55, 56, 57, 58, 59, 60] (by decide +kernel) (by decide +kernel)
set_option maxRecDepth 20000 in
theorem gX5_join_X5_joined : GoodIn wsX5_join (wsV RX5 102 RX5 yX5_joined wsX5_joined) := goodIn_app (goodIn_of _ (by decide +kernel)) ggX5_join_X5_joined
set_option maxRecDepth 20000 in
theorem ggX5_join_X5_save : GoodIn wsX5_join wsX5_save := goodIn_r _ [44, 21, 16, 23, 22, 45, 46, 47, 48, 49, 50, 51, 52, 53, 54, 55, 56, 57, 58, 59, 60] (by decide +kernel) (by decide +kernel)
set_option maxRecDepth 20000 in
theorem gX5_join_X5_save : GoodIn wsX5_join (wsV RX5 95 RX5 yX5_save wsX5_save) := goodIn_app (goodIn_of _ (by decide +kernel)) ggX5_join_X5_save
theorem dX5_join_0 : decode cX5_join 0 = .ok (.iload_n 1, 1) := by decide +kernel
theorem dX5_join_1 : decode cX5_join 1 = .ok (.iload_n 2, 1) := by decide +kernel
theorem dX5_join_2 : decode cX5_join 2 = .ok (.iload_n 3, 1) := by decide +kernel
theorem dX5_join_3 : decode cX5_join 3 = .ok (.invokestatic 98, 3) := by decide +kernel
theorem dX5_join_6 : decode cX5_join 6 = .ok (.ifCond .ne 6, 3) := by decide +kernel
theorem dX5_join_9 : decode cX5_join 9 = .ok (.bipush (-101), 2) := by decide +kernel
theorem dX5_join_11 : decode cX5_join 11 = .ok (.ireturn, 1) := by decide +kernel
theorem dX5_join_12 : decode cX5_join 12 = .ok (.aload_n 0, 1) := by decide +kernel
theorem dX5_join_13 : decode cX5_join 13 = .ok (.iload_n 1, 1) := by decide +kernel
theorem dX5_join_14 : decode cX5_join 14 = .ok (.iload_n 2, 1) := by decide +kernel
theorem dX5_join_15 : decode cX5_join 15 = .ok (.invokevirtual 102, 3) := by decide +kernel
theorem dX5_join_18 : decode cX5_join 18 = .ok (.pop, 1) := by decide +kernel
theorem dX5_join_19 : decode cX5_join 19 = .ok (.aload_n 0, 1) := by decide +kernel
theorem dX5_join_20 : decode cX5_join 20 = .ok (.iload_n 3, 1) := by decide +kernel
theorem dX5_join_21 : decode cX5_join 21 = .ok (.invokevirtual 95, 3) := by decide +kernel
theorem dX5_join_24 : decode cX5_join 24 = .ok (.ireturn, 1) := by decide +kernel
set_option maxRecDepth 20000 in
theorem ggX5_meet_X5_areSlots : GoodIn wsX5_meet wsX5_areSlots := goodIn_r _ [7, 8, 9, 6, 10, 11, 12, 13, 14] (by decide +kernel) (by decide +kernel)
set_option maxRecDepth 20000 in
theorem gX5_meet_X5_areSlots : GoodIn wsX5_meet (va_wsS RX5 98 yX5_areSlots wsX5_areSlots) := goodIn_app (goodIn_of _ (by decide +kernel)) ggX5_meet_X5_areSlots
set_option maxRecDepth 20000 in
theorem ggX5_meet_X5_load : GoodIn wsX5_meet wsX5_load := goodIn_r _ [18, 19, 3, 1, 20, 51, 52, 53, 54, 55, 56, 57, 58, 59, 60, 61, 62, 63, 64, 65, 66] (by decide +kernel) (by decide +kernel)
set_option maxRecDepth 20000 in
theorem gX5_meet_X5_load : GoodIn wsX5_meet (wsV RX5 91 RX5 yX5_load wsX5_load) := goodIn_app (goodIn_of _ (by decide +kernel)) ggX5_meet_X5_load
set_option maxRecDepth 20000 in
theorem ggX5_meet_X5_turn : GoodIn wsX5_meet wsX5_turn := goodIn_r _ [24, 1, 25, 3, 26, 27, 28, 29, 30, 6, 31, 32, 33, 34, 35, 36, 37, 38, 39, 40, 41, 42, 43, 44, 45, 46, 51, 52, 53, 54, 55, 56, 57, 58, 59, 60, 61, 62, 63, 64, 65, 66] (by decide +kernel) (by decide +kernel)
set_option maxRecDepth 20000 in
theorem gX5_meet_X5_turn : GoodIn wsX5_meet (wsV RX5 105 RX5 yX5_turn wsX5_turn) := goodIn_app (goodIn_of _ (by decide +kernel)) ggX5_meet_X5_turn
set_option maxRecDepth 20000 in
theorem ggX5_meet_X5_settle : GoodIn wsX5_meet wsX5_settle := goodIn_r _ [42, 26, 1, 3, 27, 32, 33, 34, 6, 35, 36, 37, 38, 43, 44, 45, 46, 51, 52, 53, 54, 55, 56, 57, 58, 59, 60, 61, 62, 63, 64, 65, 66] (by decide +kernel) (by decide +kernel)
set_option maxRecDepth 20000 in
theorem gX5_meet_X5_settle : GoodIn wsX5_meet (wsV RX5 83 RX5 yX5_settle wsX5_settle) := goodIn_app (goodIn_of _ (by decide +kernel)) ggX5_meet_X5_settle
set_option maxRecDepth 20000 in
theorem ggX5_meet_X5_save : GoodIn wsX5_meet wsX5_save := goodIn_r _ [50, 19, 1, 20, 3, 51, 52, 53, 54, 55, 56, 57, 58, 59, 60, 61, 62, 63, 64, 65, 66] (by decide +kernel) (by decide +kernel)
set_option maxRecDepth 20000 in
theorem gX5_meet_X5_save : GoodIn wsX5_meet (wsV RX5 95 RX5 yX5_save wsX5_save) := goodIn_app (goodIn_of _ (by decide +kernel)) ggX5_meet_X5_save
theorem dX5_meet_0 : decode cX5_meet 0 = .ok (.iload_n 1, 1) := by decide +kernel
theorem dX5_meet_1 : decode cX5_meet 1 = .ok (.iload_n 2, 1) := by decide +kernel
theorem dX5_meet_2 : decode cX5_meet 2 = .ok (.iload_n 3, 1) := by decide +kernel
theorem dX5_meet_3 : decode cX5_meet 3 = .ok (.invokestatic 98, 3) := by decide +kernel
theorem dX5_meet_6 : decode cX5_meet 6 = .ok (.ifCond .ne 6, 3) := by decide +kernel
theorem dX5_meet_9 : decode cX5_meet 9 = .ok (.bipush (-101), 2) := by decide +kernel
theorem dX5_meet_11 : decode cX5_meet 11 = .ok (.ireturn, 1) := by decide +kernel
theorem dX5_meet_12 : decode cX5_meet 12 = .ok (.aload_n 0, 1) := by decide +kernel
theorem dX5_meet_13 : decode cX5_meet 13 = .ok (.iconst 0, 1) := by decide +kernel
theorem dX5_meet_14 : decode cX5_meet 14 = .ok (.putfield 76, 3) := by decide +kernel
theorem dX5_meet_17 : decode cX5_meet 17 = .ok (.aload_n 0, 1) := by decide +kernel
theorem dX5_meet_18 : decode cX5_meet 18 = .ok (.iload_n 1, 1) := by decide +kernel
theorem dX5_meet_19 : decode cX5_meet 19 = .ok (.invokevirtual 91, 3) := by decide +kernel
theorem dX5_meet_22 : decode cX5_meet 22 = .ok (.aload_n 0, 1) := by decide +kernel
theorem dX5_meet_23 : decode cX5_meet 23 = .ok (.invokevirtual 105, 3) := by decide +kernel
theorem dX5_meet_26 : decode cX5_meet 26 = .ok (.aload_n 0, 1) := by decide +kernel
theorem dX5_meet_27 : decode cX5_meet 27 = .ok (.getfield 76, 3) := by decide +kernel
theorem dX5_meet_30 : decode cX5_meet 30 = .ok (.istore 4, 2) := by decide +kernel
theorem dX5_meet_32 : decode cX5_meet 32 = .ok (.iconst 0, 1) := by decide +kernel
theorem dX5_meet_33 : decode cX5_meet 33 = .ok (.istore 5, 2) := by decide +kernel
theorem dX5_meet_35 : decode cX5_meet 35 = .ok (.iload 5, 2) := by decide +kernel
theorem dX5_meet_37 : decode cX5_meet 37 = .ok (.iload 4, 2) := by decide +kernel
theorem dX5_meet_39 : decode cX5_meet 39 = .ok (.if_icmp .ge 23, 3) := by decide +kernel
theorem dX5_meet_42 : decode cX5_meet 42 = .ok (.aload_n 0, 1) := by decide +kernel
theorem dX5_meet_43 : decode cX5_meet 43 = .ok (.getfield 26, 3) := by decide +kernel
theorem dX5_meet_46 : decode cX5_meet 46 = .ok (.iload 5, 2) := by decide +kernel
theorem dX5_meet_48 : decode cX5_meet 48 = .ok (.aload_n 0, 1) := by decide +kernel
theorem dX5_meet_49 : decode cX5_meet 49 = .ok (.getfield 13, 3) := by decide +kernel
theorem dX5_meet_52 : decode cX5_meet 52 = .ok (.iload 5, 2) := by decide +kernel
theorem dX5_meet_54 : decode cX5_meet 54 = .ok (.iaload, 1) := by decide +kernel
theorem dX5_meet_55 : decode cX5_meet 55 = .ok (.iastore, 1) := by decide +kernel
theorem dX5_meet_56 : decode cX5_meet 56 = .ok (.iinc 5 1, 3) := by decide +kernel
theorem dX5_meet_59 : decode cX5_meet 59 = .ok (.goto (-24), 3) := by decide +kernel
theorem dX5_meet_62 : decode cX5_meet 62 = .ok (.aload_n 0, 1) := by decide +kernel
theorem dX5_meet_63 : decode cX5_meet 63 = .ok (.iconst 0, 1) := by decide +kernel
theorem dX5_meet_64 : decode cX5_meet 64 = .ok (.putfield 76, 3) := by decide +kernel
theorem dX5_meet_67 : decode cX5_meet 67 = .ok (.aload_n 0, 1) := by decide +kernel
theorem dX5_meet_68 : decode cX5_meet 68 = .ok (.iload_n 2, 1) := by decide +kernel
theorem dX5_meet_69 : decode cX5_meet 69 = .ok (.invokevirtual 91, 3) := by decide +kernel
theorem dX5_meet_72 : decode cX5_meet 72 = .ok (.aload_n 0, 1) := by decide +kernel
theorem dX5_meet_73 : decode cX5_meet 73 = .ok (.invokevirtual 105, 3) := by decide +kernel
theorem dX5_meet_76 : decode cX5_meet 76 = .ok (.iconst 0, 1) := by decide +kernel
theorem dX5_meet_77 : decode cX5_meet 77 = .ok (.istore 5, 2) := by decide +kernel
theorem dX5_meet_79 : decode cX5_meet 79 = .ok (.iload 5, 2) := by decide +kernel
theorem dX5_meet_81 : decode cX5_meet 81 = .ok (.iload 4, 2) := by decide +kernel
theorem dX5_meet_83 : decode cX5_meet 83 = .ok (.if_icmp .ge 35, 3) := by decide +kernel
theorem dX5_meet_86 : decode cX5_meet 86 = .ok (.aload_n 0, 1) := by decide +kernel
theorem dX5_meet_87 : decode cX5_meet 87 = .ok (.getfield 13, 3) := by decide +kernel
theorem dX5_meet_90 : decode cX5_meet 90 = .ok (.aload_n 0, 1) := by decide +kernel
theorem dX5_meet_91 : decode cX5_meet 91 = .ok (.getfield 76, 3) := by decide +kernel
theorem dX5_meet_94 : decode cX5_meet 94 = .ok (.aload_n 0, 1) := by decide +kernel
theorem dX5_meet_95 : decode cX5_meet 95 = .ok (.getfield 26, 3) := by decide +kernel
theorem dX5_meet_98 : decode cX5_meet 98 = .ok (.iload 5, 2) := by decide +kernel
theorem dX5_meet_100 : decode cX5_meet 100 = .ok (.iaload, 1) := by decide +kernel
theorem dX5_meet_101 : decode cX5_meet 101 = .ok (.iastore, 1) := by decide +kernel
theorem dX5_meet_102 : decode cX5_meet 102 = .ok (.aload_n 0, 1) := by decide +kernel
theorem dX5_meet_103 : decode cX5_meet 103 = .ok (.dup, 1) := by decide +kernel
theorem dX5_meet_104 : decode cX5_meet 104 = .ok (.getfield 76, 3) := by decide +kernel
theorem dX5_meet_107 : decode cX5_meet 107 = .ok (.iconst 1, 1) := by decide +kernel
theorem dX5_meet_108 : decode cX5_meet 108 = .ok (.iadd, 1) := by decide +kernel
theorem dX5_meet_109 : decode cX5_meet 109 = .ok (.putfield 76, 3) := by decide +kernel
theorem dX5_meet_112 : decode cX5_meet 112 = .ok (.iinc 5 1, 3) := by decide +kernel
theorem dX5_meet_115 : decode cX5_meet 115 = .ok (.goto (-36), 3) := by decide +kernel
theorem dX5_meet_118 : decode cX5_meet 118 = .ok (.aload_n 0, 1) := by decide +kernel
theorem dX5_meet_119 : decode cX5_meet 119 = .ok (.invokevirtual 83, 3) := by decide +kernel
theorem dX5_meet_122 : decode cX5_meet 122 = .ok (.aload_n 0, 1) := by decide +kernel
theorem dX5_meet_123 : decode cX5_meet 123 = .ok (.invokevirtual 105, 3) := by decide +kernel
theorem dX5_meet_126 : decode cX5_meet 126 = .ok (.aload_n 0, 1) := by decide +kernel
theorem dX5_meet_127 : decode cX5_meet 127 = .ok (.iload_n 3, 1) := by decide +kernel
theorem dX5_meet_128 : decode cX5_meet 128 = .ok (.invokevirtual 95, 3) := by decide +kernel
theorem dX5_meet_131 : decode cX5_meet 131 = .ok (.ireturn, 1) := by decide +kernel
set_option maxRecDepth 20000 in
theorem ggX5_dual_X5_areSlots : GoodIn wsX5_dual wsX5_areSlots := goodIn_r _ [5, 6, 7, 4, 8, 9, 10, 11, 12] (by decide +kernel) (by decide +kernel)
set_option maxRecDepth 20000 in
theorem gX5_dual_X5_areSlots : GoodIn wsX5_dual (va_wsS RX5 98 yX5_areSlots wsX5_areSlots) := goodIn_app (goodIn_of _ (by decide +kernel)) ggX5_dual_X5_areSlots
set_option maxRecDepth 20000 in
theorem ggX5_dual_X5_load : GoodIn wsX5_dual wsX5_load := goodIn_r _ [16, 17, 18, 1, 19, 50, 51, 52, 53, 54, 55, 56, 57, 58, 59, 60, 61, 62, 63, 64, 65] (by decide +kernel) (by decide +kernel)
set_option maxRecDepth 20000 in
theorem gX5_dual_X5_load : GoodIn wsX5_dual (wsV RX5 91 RX5 yX5_load wsX5_load) := goodIn_app (goodIn_of _ (by decide +kernel)) ggX5_dual_X5_load
set_option maxRecDepth 20000 in
theorem ggX5_dual_X5_turn : GoodIn wsX5_dual wsX5_turn := goodIn_r _ [23, 1, 24, 18, 25, 26, 27, 28, 29, 4, 30, 31, 32, 33, 34, 35, 36, 37, 38, 39, 40, 41, 42, 43, 44, 45, 50, 51, 52, 53, 54, 55, 56, 57, 58, 59, 60, 61, 62, 63, 64, 65] (by decide +kernel) (by decide +kernel)
set_option maxRecDepth 20000 in
theorem gX5_dual_X5_turn : GoodIn wsX5_dual (wsV RX5 105 RX5 yX5_turn wsX5_turn) := goodIn_app (goodIn_of _ (by decide +kernel)) ggX5_dual_X5_turn
set_option maxRecDepth 20000 in
theorem ggX5_dual_X5_save : GoodIn wsX5_dual wsX5_save := goodIn_r _ [49, 17, 1, 19, 18, 50, 51, 52, 53, 54, 55, 56, 57, 58, 59, 60, 61, 62, 63, 64, 65] (by decide +kernel) (by decide +kernel)
set_option maxRecDepth 20000 in
theorem gX5_dual_X5_save : GoodIn wsX5_dual (wsV RX5 95 RX5 yX5_save wsX5_save) := goodIn_app (goodIn_of _ (by decide +kernel)) ggX5_dual_X5_save
theorem dX5_dual_0 : decode cX5_dual 0 = .ok (.iload_n 1, 1) := by decide +kernel
theorem dX5_dual_1 : decode cX5_dual 1 = .ok (.iload_n 1, 1) := by decide +kernel
theorem dX5_dual_2 : decode cX5_dual 2 = .ok (.iload_n 2, 1) := by decide +kernel
theorem dX5_dual_3 : decode cX5_dual 3 = .ok (.invokestatic 98, 3) := by decide +kernel
theorem dX5_dual_6 : decode cX5_dual 6 = .ok (.ifCond .ne 6, 3) := by decide +kernel
theorem dX5_dual_9 : decode cX5_dual 9 = .ok (.bipush (-101), 2) := by decide +kernel
theorem dX5_dual_11 : decode cX5_dual 11 = .ok (.ireturn, 1) := by decide +kernel
theorem dX5_dual_12 : decode cX5_dual 12 = .ok (.aload_n 0, 1) := by decide +kernel
theorem dX5_dual_13 : decode cX5_dual 13 = .ok (.iconst 0, 1) := by decide +kernel
theorem dX5_dual_14 : decode cX5_dual 14 = .ok (.putfield 76, 3) := by decide +kernel
theorem dX5_dual_17 : decode cX5_dual 17 = .ok (.aload_n 0, 1) := by decide +kernel
theorem dX5_dual_18 : decode cX5_dual 18 = .ok (.iload_n 1, 1) := by decide +kernel
theorem dX5_dual_19 : decode cX5_dual 19 = .ok (.invokevirtual 91, 3) := by decide +kernel
theorem dX5_dual_22 : decode cX5_dual 22 = .ok (.aload_n 0, 1) := by decide +kernel
theorem dX5_dual_23 : decode cX5_dual 23 = .ok (.invokevirtual 105, 3) := by decide +kernel
theorem dX5_dual_26 : decode cX5_dual 26 = .ok (.aload_n 0, 1) := by decide +kernel
theorem dX5_dual_27 : decode cX5_dual 27 = .ok (.iload_n 2, 1) := by decide +kernel
theorem dX5_dual_28 : decode cX5_dual 28 = .ok (.invokevirtual 95, 3) := by decide +kernel
theorem dX5_dual_31 : decode cX5_dual 31 = .ok (.ireturn, 1) := by decide +kernel
set_option maxRecDepth 20000 in
theorem ggX5_holds_X5_pivot : GoodIn wsX5_holds wsX5_pivot := goodIn_r _ [8, 9, 10, 11, 7, 12, 3, 13, 14, 15, 16, 21, 22, 23, 24, 25, 26, 27, 28, 29, 30, 31, 32, 33, 34, 35, 36] (by decide +kernel) (by decide +kernel)
set_option maxRecDepth 20000 in
theorem gX5_holds_X5_pivot : GoodIn wsX5_holds (wsV RX5 79 RX5 yX5_pivot wsX5_pivot) := goodIn_app (goodIn_of _ (by decide +kernel)) ggX5_holds_X5_pivot
set_option maxRecDepth 20000 in
theorem ggX5_holds_X5_figure : GoodIn wsX5_holds wsX5_figure := goodIn_r _ [12, 3, 13, 14, 15, 7, 16, 21, 22, 23, 24, 25, 26, 27, 28, 29, 30, 31, 32, 33, 34, 35, 36] (by decide +kernel) (by decide +kernel)
set_option maxRecDepth 20000 in
theorem gX5_holds_X5_figure : GoodIn wsX5_holds (wsV RX5 62 RX5 yX5_figure wsX5_figure) := goodIn_app (goodIn_of _ (by decide +kernel)) ggX5_holds_X5_figure
set_option maxRecDepth 20000 in
theorem ggX5_holds_X5_sum : GoodIn wsX5_holds wsX5_sum := goodIn_r _ [20, 13, 3, 9, 10, 11, 7, 12, 14, 15, 16, 21, 22, 23, 24, 25, 26, 27, 28, 29, 30, 31, 32, 33, 34, 35, 36] (by decide +kernel) (by decide +kernel)
set_option maxRecDepth 20000 in
theorem gX5_holds_X5_sum : GoodIn wsX5_holds (wsV RX5 69 RX5 yX5_sum wsX5_sum) := goodIn_app (goodIn_of _ (by decide +kernel)) ggX5_holds_X5_sum
theorem dX5_holds_0 : decode cX5_holds 0 = .ok (.iload_n 2, 1) := by decide +kernel
theorem dX5_holds_1 : decode cX5_holds 1 = .ok (.istore_n 3, 1) := by decide +kernel
theorem dX5_holds_2 : decode cX5_holds 2 = .ok (.iconst 0, 1) := by decide +kernel
theorem dX5_holds_3 : decode cX5_holds 3 = .ok (.istore 4, 2) := by decide +kernel
theorem dX5_holds_5 : decode cX5_holds 5 = .ok (.iload 4, 2) := by decide +kernel
theorem dX5_holds_7 : decode cX5_holds 7 = .ok (.aload_n 0, 1) := by decide +kernel
theorem dX5_holds_8 : decode cX5_holds 8 = .ok (.getfield 20, 3) := by decide +kernel
theorem dX5_holds_11 : decode cX5_holds 11 = .ok (.iload_n 1, 1) := by decide +kernel
theorem dX5_holds_12 : decode cX5_holds 12 = .ok (.iaload, 1) := by decide +kernel
theorem dX5_holds_13 : decode cX5_holds 13 = .ok (.if_icmp .ge 62, 3) := by decide +kernel
theorem dX5_holds_16 : decode cX5_holds 16 = .ok (.aload_n 0, 1) := by decide +kernel
theorem dX5_holds_17 : decode cX5_holds 17 = .ok (.iload_n 3, 1) := by decide +kernel
theorem dX5_holds_18 : decode cX5_holds 18 = .ok (.aload_n 0, 1) := by decide +kernel
theorem dX5_holds_19 : decode cX5_holds 19 = .ok (.aload_n 0, 1) := by decide +kernel
theorem dX5_holds_20 : decode cX5_holds 20 = .ok (.getfield 23, 3) := by decide +kernel
theorem dX5_holds_23 : decode cX5_holds 23 = .ok (.bipush 6, 2) := by decide +kernel
theorem dX5_holds_25 : decode cX5_holds 25 = .ok (.iload_n 1, 1) := by decide +kernel
theorem dX5_holds_26 : decode cX5_holds 26 = .ok (.imul, 1) := by decide +kernel
theorem dX5_holds_27 : decode cX5_holds 27 = .ok (.iload 4, 2) := by decide +kernel
theorem dX5_holds_29 : decode cX5_holds 29 = .ok (.iadd, 1) := by decide +kernel
theorem dX5_holds_30 : decode cX5_holds 30 = .ok (.iaload, 1) := by decide +kernel
theorem dX5_holds_31 : decode cX5_holds 31 = .ok (.invokevirtual 79, 3) := by decide +kernel
theorem dX5_holds_34 : decode cX5_holds 34 = .ok (.invokevirtual 62, 3) := by decide +kernel
theorem dX5_holds_37 : decode cX5_holds 37 = .ok (.istore 5, 2) := by decide +kernel
theorem dX5_holds_39 : decode cX5_holds 39 = .ok (.aload_n 0, 1) := by decide +kernel
theorem dX5_holds_40 : decode cX5_holds 40 = .ok (.iload_n 3, 1) := by decide +kernel
theorem dX5_holds_41 : decode cX5_holds 41 = .ok (.aload_n 0, 1) := by decide +kernel
theorem dX5_holds_42 : decode cX5_holds 42 = .ok (.getfield 23, 3) := by decide +kernel
theorem dX5_holds_45 : decode cX5_holds 45 = .ok (.bipush 6, 2) := by decide +kernel
theorem dX5_holds_47 : decode cX5_holds 47 = .ok (.iload_n 1, 1) := by decide +kernel
theorem dX5_holds_48 : decode cX5_holds 48 = .ok (.imul, 1) := by decide +kernel
theorem dX5_holds_49 : decode cX5_holds 49 = .ok (.iload 4, 2) := by decide +kernel
theorem dX5_holds_51 : decode cX5_holds 51 = .ok (.iadd, 1) := by decide +kernel
theorem dX5_holds_52 : decode cX5_holds 52 = .ok (.iaload, 1) := by decide +kernel
theorem dX5_holds_53 : decode cX5_holds 53 = .ok (.aload_n 0, 1) := by decide +kernel
theorem dX5_holds_54 : decode cX5_holds 54 = .ok (.getfield 38, 3) := by decide +kernel
theorem dX5_holds_57 : decode cX5_holds 57 = .ok (.iload 5, 2) := by decide +kernel
theorem dX5_holds_59 : decode cX5_holds 59 = .ok (.isub, 1) := by decide +kernel
theorem dX5_holds_60 : decode cX5_holds 60 = .ok (.aload_n 0, 1) := by decide +kernel
theorem dX5_holds_61 : decode cX5_holds 61 = .ok (.getfield 38, 3) := by decide +kernel
theorem dX5_holds_64 : decode cX5_holds 64 = .ok (.irem, 1) := by decide +kernel
theorem dX5_holds_65 : decode cX5_holds 65 = .ok (.invokevirtual 69, 3) := by decide +kernel
theorem dX5_holds_68 : decode cX5_holds 68 = .ok (.istore_n 3, 1) := by decide +kernel
theorem dX5_holds_69 : decode cX5_holds 69 = .ok (.iinc 4 1, 3) := by decide +kernel
theorem dX5_holds_72 : decode cX5_holds 72 = .ok (.goto (-67), 3) := by decide +kernel
theorem dX5_holds_75 : decode cX5_holds 75 = .ok (.iload_n 3, 1) := by decide +kernel
theorem dX5_holds_76 : decode cX5_holds 76 = .ok (.ifCond .ne 7, 3) := by decide +kernel
theorem dX5_holds_79 : decode cX5_holds 79 = .ok (.iconst 1, 1) := by decide +kernel
theorem dX5_holds_80 : decode cX5_holds 80 = .ok (.goto 4, 3) := by decide +kernel
theorem dX5_holds_83 : decode cX5_holds 83 = .ok (.iconst 0, 1) := by decide +kernel
theorem dX5_holds_84 : decode cX5_holds 84 = .ok (.ireturn, 1) := by decide +kernel
set_option maxRecDepth 20000 in
theorem ggX5_has_X5_isSlot : GoodIn wsX5_has wsX5_isSlot := goodIn_r _ [4, 5, 6, 7, 3, 8] (by decide +kernel) (by decide +kernel)
set_option maxRecDepth 20000 in
theorem gX5_has_X5_isSlot : GoodIn wsX5_has (va_wsS RX5 88 yX5_isSlot wsX5_isSlot) := goodIn_app (goodIn_of _ (by decide +kernel)) ggX5_has_X5_isSlot
set_option maxRecDepth 20000 in
theorem ggX5_has_X5_isVector : GoodIn wsX5_has wsX5_isVector := goodIn_r _ [12, 13, 6, 7, 3, 8, 37, 38, 39, 40, 41, 42, 43, 44, 45, 46, 47, 48, 49, 50, 51, 52] (by decide +kernel) (by decide +kernel)
set_option maxRecDepth 20000 in
theorem gX5_has_X5_isVector : GoodIn wsX5_has (wsV RX5 65 RX5 yX5_isVector wsX5_isVector) := goodIn_app (goodIn_of _ (by decide +kernel)) ggX5_has_X5_isVector
set_option maxRecDepth 20000 in
theorem ggX5_has_X5_holds : GoodIn wsX5_has wsX5_holds := goodIn_r _ [17, 18, 19, 20, 21, 22, 23, 3, 24, 25, 26, 27, 28, 29, 30, 31, 32, 33, 34, 35, 36, 37, 38, 39, 40, 41, 42, 43, 44, 45, 46, 47, 48, 49, 50, 51, 52] (by decide +kernel) (by decide +kernel)
set_option maxRecDepth 20000 in
theorem gX5_has_X5_holds : GoodIn wsX5_has (wsV RX5 108 RX5 yX5_holds wsX5_holds) := goodIn_app (goodIn_of _ (by decide +kernel)) ggX5_has_X5_holds
theorem dX5_has_0 : decode cX5_has 0 = .ok (.iload_n 1, 1) := by decide +kernel
theorem dX5_has_1 : decode cX5_has 1 = .ok (.invokestatic 88, 3) := by decide +kernel
theorem dX5_has_4 : decode cX5_has 4 = .ok (.ifCond .eq 11, 3) := by decide +kernel
theorem dX5_has_7 : decode cX5_has 7 = .ok (.aload_n 0, 1) := by decide +kernel
theorem dX5_has_8 : decode cX5_has 8 = .ok (.iload_n 2, 1) := by decide +kernel
theorem dX5_has_9 : decode cX5_has 9 = .ok (.invokevirtual 65, 3) := by decide +kernel
theorem dX5_has_12 : decode cX5_has 12 = .ok (.ifCond .ne 8, 3) := by decide +kernel
theorem dX5_has_15 : decode cX5_has 15 = .ok (.bipush (-101), 2) := by decide +kernel
theorem dX5_has_17 : decode cX5_has 17 = .ok (.goto 17, 3) := by decide +kernel
theorem dX5_has_20 : decode cX5_has 20 = .ok (.aload_n 0, 1) := by decide +kernel
theorem dX5_has_21 : decode cX5_has 21 = .ok (.iload_n 1, 1) := by decide +kernel
theorem dX5_has_22 : decode cX5_has 22 = .ok (.iload_n 2, 1) := by decide +kernel
theorem dX5_has_23 : decode cX5_has 23 = .ok (.invokevirtual 108, 3) := by decide +kernel
theorem dX5_has_26 : decode cX5_has 26 = .ok (.ifCond .eq 7, 3) := by decide +kernel
theorem dX5_has_29 : decode cX5_has 29 = .ok (.iconst 1, 1) := by decide +kernel
theorem dX5_has_30 : decode cX5_has 30 = .ok (.goto 4, 3) := by decide +kernel
theorem dX5_has_33 : decode cX5_has 33 = .ok (.iconst 0, 1) := by decide +kernel
theorem dX5_has_34 : decode cX5_has 34 = .ok (.ireturn, 1) := by decide +kernel
set_option maxRecDepth 20000 in
theorem ggX5_within_X5_isSlot : GoodIn wsX5_within wsX5_isSlot := goodIn_r _ [6, 7, 8, 9, 5, 10] (by decide +kernel) (by decide +kernel)
set_option maxRecDepth 20000 in
theorem gX5_within_X5_isSlot : GoodIn wsX5_within (va_wsS RX5 88 yX5_isSlot wsX5_isSlot) := goodIn_app (goodIn_of _ (by decide +kernel)) ggX5_within_X5_isSlot
set_option maxRecDepth 20000 in
theorem ggX5_within_X5_holds : GoodIn wsX5_within wsX5_holds := goodIn_r _ [14, 1, 2, 15, 16, 17, 18, 5, 19, 20, 21, 22, 23, 24, 25, 26, 27, 28, 29, 30, 31, 32, 33, 34, 35, 36, 37, 38, 39, 40, 41, 42, 43, 44, 45, 46, 47] (by decide +kernel) (by decide +kernel)
set_option maxRecDepth 20000 in
theorem gX5_within_X5_holds : GoodIn wsX5_within (wsV RX5 108 RX5 yX5_holds wsX5_holds) := goodIn_app (goodIn_of _ (by decide +kernel)) ggX5_within_X5_holds
theorem dX5_within_0 : decode cX5_within 0 = .ok (.iload_n 1, 1) := by decide +kernel
theorem dX5_within_1 : decode cX5_within 1 = .ok (.invokestatic 88, 3) := by decide +kernel
theorem dX5_within_4 : decode cX5_within 4 = .ok (.ifCond .eq 10, 3) := by decide +kernel
theorem dX5_within_7 : decode cX5_within 7 = .ok (.iload_n 2, 1) := by decide +kernel
theorem dX5_within_8 : decode cX5_within 8 = .ok (.invokestatic 88, 3) := by decide +kernel
theorem dX5_within_11 : decode cX5_within 11 = .ok (.ifCond .ne 6, 3) := by decide +kernel
theorem dX5_within_14 : decode cX5_within 14 = .ok (.bipush (-101), 2) := by decide +kernel
theorem dX5_within_16 : decode cX5_within 16 = .ok (.ireturn, 1) := by decide +kernel
theorem dX5_within_17 : decode cX5_within 17 = .ok (.iconst 1, 1) := by decide +kernel
theorem dX5_within_18 : decode cX5_within 18 = .ok (.istore_n 3, 1) := by decide +kernel
theorem dX5_within_19 : decode cX5_within 19 = .ok (.iconst 0, 1) := by decide +kernel
theorem dX5_within_20 : decode cX5_within 20 = .ok (.istore 4, 2) := by decide +kernel
theorem dX5_within_22 : decode cX5_within 22 = .ok (.iload 4, 2) := by decide +kernel
theorem dX5_within_24 : decode cX5_within 24 = .ok (.aload_n 0, 1) := by decide +kernel
theorem dX5_within_25 : decode cX5_within 25 = .ok (.getfield 20, 3) := by decide +kernel
theorem dX5_within_28 : decode cX5_within 28 = .ok (.iload_n 1, 1) := by decide +kernel
theorem dX5_within_29 : decode cX5_within 29 = .ok (.iaload, 1) := by decide +kernel
theorem dX5_within_30 : decode cX5_within 30 = .ok (.if_icmp .ge 39, 3) := by decide +kernel
theorem dX5_within_33 : decode cX5_within 33 = .ok (.iload_n 3, 1) := by decide +kernel
theorem dX5_within_34 : decode cX5_within 34 = .ok (.ifCond .eq 27, 3) := by decide +kernel
theorem dX5_within_37 : decode cX5_within 37 = .ok (.aload_n 0, 1) := by decide +kernel
theorem dX5_within_38 : decode cX5_within 38 = .ok (.iload_n 2, 1) := by decide +kernel
theorem dX5_within_39 : decode cX5_within 39 = .ok (.aload_n 0, 1) := by decide +kernel
theorem dX5_within_40 : decode cX5_within 40 = .ok (.getfield 23, 3) := by decide +kernel
theorem dX5_within_43 : decode cX5_within 43 = .ok (.bipush 6, 2) := by decide +kernel
theorem dX5_within_45 : decode cX5_within 45 = .ok (.iload_n 1, 1) := by decide +kernel
theorem dX5_within_46 : decode cX5_within 46 = .ok (.imul, 1) := by decide +kernel
theorem dX5_within_47 : decode cX5_within 47 = .ok (.iload 4, 2) := by decide +kernel
theorem dX5_within_49 : decode cX5_within 49 = .ok (.iadd, 1) := by decide +kernel
theorem dX5_within_50 : decode cX5_within 50 = .ok (.iaload, 1) := by decide +kernel
theorem dX5_within_51 : decode cX5_within 51 = .ok (.invokevirtual 108, 3) := by decide +kernel
theorem dX5_within_54 : decode cX5_within 54 = .ok (.ifCond .eq 7, 3) := by decide +kernel
theorem dX5_within_57 : decode cX5_within 57 = .ok (.iconst 1, 1) := by decide +kernel
theorem dX5_within_58 : decode cX5_within 58 = .ok (.goto 4, 3) := by decide +kernel
theorem dX5_within_61 : decode cX5_within 61 = .ok (.iconst 0, 1) := by decide +kernel
theorem dX5_within_62 : decode cX5_within 62 = .ok (.istore_n 3, 1) := by decide +kernel
theorem dX5_within_63 : decode cX5_within 63 = .ok (.iinc 4 1, 3) := by decide +kernel
theorem dX5_within_66 : decode cX5_within 66 = .ok (.goto (-44), 3) := by decide +kernel
theorem dX5_within_69 : decode cX5_within 69 = .ok (.iload_n 3, 1) := by decide +kernel
theorem dX5_within_70 : decode cX5_within 70 = .ok (.ifCond .eq 7, 3) := by decide +kernel
theorem dX5_within_73 : decode cX5_within 73 = .ok (.iconst 1, 1) := by decide +kernel
theorem dX5_within_74 : decode cX5_within 74 = .ok (.goto 4, 3) := by decide +kernel
theorem dX5_within_77 : decode cX5_within 77 = .ok (.iconst 0, 1) := by decide +kernel
theorem dX5_within_78 : decode cX5_within 78 = .ok (.ireturn, 1) := by decide +kernel
set_option maxRecDepth 20000 in
theorem ggX5_apart_X5_isSlot : GoodIn wsX5_apart wsX5_isSlot := goodIn_r _ [5, 6, 7, 8, 4, 9] (by decide +kernel) (by decide +kernel)
set_option maxRecDepth 20000 in
theorem gX5_apart_X5_isSlot : GoodIn wsX5_apart (va_wsS RX5 88 yX5_isSlot wsX5_isSlot) := goodIn_app (goodIn_of _ (by decide +kernel)) ggX5_apart_X5_isSlot
set_option maxRecDepth 20000 in
theorem ggX5_apart_X5_joined : GoodIn wsX5_apart wsX5_joined := goodIn_r _ [13, 14, 15, 16, 17, 4, 18, 1, 19, 20, 21, 22, 23, 24, 25, 26, 27, 28, 29, 30, 31, 32, 33, 34, 35, 36, 37, 38, 39, 40, 41, 42, 43, 44, 45, 46, 47, 48, 49, 50, 51, 52, 53] (by decide +kernel) (by decide +kernel)
set_option maxRecDepth 20000 in
theorem gX5_apart_X5_joined : GoodIn wsX5_apart (wsV RX5 102 RX5 yX5_joined wsX5_joined) := goodIn_app (goodIn_of _ (by decide +kernel)) ggX5_apart_X5_joined
theorem dX5_apart_0 : decode cX5_apart 0 = .ok (.iload_n 1, 1) := by decide +kernel
theorem dX5_apart_1 : decode cX5_apart 1 = .ok (.invokestatic 88, 3) := by decide +kernel
theorem dX5_apart_4 : decode cX5_apart 4 = .ok (.ifCond .eq 35, 3) := by decide +kernel
theorem dX5_apart_7 : decode cX5_apart 7 = .ok (.iload_n 2, 1) := by decide +kernel
theorem dX5_apart_8 : decode cX5_apart 8 = .ok (.invokestatic 88, 3) := by decide +kernel
theorem dX5_apart_11 : decode cX5_apart 11 = .ok (.ifCond .eq 28, 3) := by decide +kernel
theorem dX5_apart_14 : decode cX5_apart 14 = .ok (.iconst 2, 1) := by decide +kernel
theorem dX5_apart_15 : decode cX5_apart 15 = .ok (.aload_n 0, 1) := by decide +kernel
theorem dX5_apart_16 : decode cX5_apart 16 = .ok (.iload_n 1, 1) := by decide +kernel
theorem dX5_apart_17 : decode cX5_apart 17 = .ok (.iload_n 2, 1) := by decide +kernel
theorem dX5_apart_18 : decode cX5_apart 18 = .ok (.invokevirtual 102, 3) := by decide +kernel
theorem dX5_apart_21 : decode cX5_apart 21 = .ok (.imul, 1) := by decide +kernel
theorem dX5_apart_22 : decode cX5_apart 22 = .ok (.aload_n 0, 1) := by decide +kernel
theorem dX5_apart_23 : decode cX5_apart 23 = .ok (.getfield 20, 3) := by decide +kernel
theorem dX5_apart_26 : decode cX5_apart 26 = .ok (.iload_n 1, 1) := by decide +kernel
theorem dX5_apart_27 : decode cX5_apart 27 = .ok (.iaload, 1) := by decide +kernel
theorem dX5_apart_28 : decode cX5_apart 28 = .ok (.isub, 1) := by decide +kernel
theorem dX5_apart_29 : decode cX5_apart 29 = .ok (.aload_n 0, 1) := by decide +kernel
theorem dX5_apart_30 : decode cX5_apart 30 = .ok (.getfield 20, 3) := by decide +kernel
theorem dX5_apart_33 : decode cX5_apart 33 = .ok (.iload_n 2, 1) := by decide +kernel
theorem dX5_apart_34 : decode cX5_apart 34 = .ok (.iaload, 1) := by decide +kernel
theorem dX5_apart_35 : decode cX5_apart 35 = .ok (.isub, 1) := by decide +kernel
theorem dX5_apart_36 : decode cX5_apart 36 = .ok (.goto 5, 3) := by decide +kernel
theorem dX5_apart_39 : decode cX5_apart 39 = .ok (.bipush (-101), 2) := by decide +kernel
theorem dX5_apart_41 : decode cX5_apart 41 = .ok (.ireturn, 1) := by decide +kernel
set_option maxRecDepth 20000 in
theorem ggX5_gauss_X5_in : GoodIn wsX5_gauss wsX5_in := goodIn_r _ [5] (by decide +kernel) (by decide +kernel)
set_option maxRecDepth 20000 in
theorem gX5_gauss_X5_in : GoodIn wsX5_gauss (va_wsS RX5 58 yX5_in wsX5_in) := goodIn_app (goodIn_of _ (by decide +kernel)) ggX5_gauss_X5_in
set_option maxRecDepth 20000 in
theorem ggX5_gauss_X5_power : GoodIn wsX5_gauss wsX5_power := goodIn_r _ [8] (by decide +kernel) (by decide +kernel)
set_option maxRecDepth 20000 in
theorem gX5_gauss_X5_power : GoodIn wsX5_gauss (va_wsS RX5 48 yX5_power wsX5_power) := goodIn_app (goodIn_of _ (by decide +kernel)) ggX5_gauss_X5_power
theorem dX5_gauss_0 : decode cX5_gauss 0 = .ok (.iload_n 2, 1) := by decide +kernel
theorem dX5_gauss_1 : decode cX5_gauss 1 = .ok (.i2l, 1) := by decide +kernel
theorem dX5_gauss_2 : decode cX5_gauss 2 = .ok (.lconst 0, 1) := by decide +kernel
theorem dX5_gauss_3 : decode cX5_gauss 3 = .ok (.iload_n 1, 1) := by decide +kernel
theorem dX5_gauss_4 : decode cX5_gauss 4 = .ok (.i2l, 1) := by decide +kernel
theorem dX5_gauss_5 : decode cX5_gauss 5 = .ok (.invokestatic 58, 3) := by decide +kernel
theorem dX5_gauss_8 : decode cX5_gauss 8 = .ok (.ifCond .ne 5, 3) := by decide +kernel
theorem dX5_gauss_11 : decode cX5_gauss 11 = .ok (.iconst 0, 1) := by decide +kernel
theorem dX5_gauss_12 : decode cX5_gauss 12 = .ok (.ireturn, 1) := by decide +kernel
theorem dX5_gauss_13 : decode cX5_gauss 13 = .ok (.lconst 1, 1) := by decide +kernel
theorem dX5_gauss_14 : decode cX5_gauss 14 = .ok (.lstore_n 3, 1) := by decide +kernel
theorem dX5_gauss_15 : decode cX5_gauss 15 = .ok (.lconst 1, 1) := by decide +kernel
theorem dX5_gauss_16 : decode cX5_gauss 16 = .ok (.lstore 5, 2) := by decide +kernel
theorem dX5_gauss_18 : decode cX5_gauss 18 = .ok (.iconst 0, 1) := by decide +kernel
theorem dX5_gauss_19 : decode cX5_gauss 19 = .ok (.istore 7, 2) := by decide +kernel
theorem dX5_gauss_21 : decode cX5_gauss 21 = .ok (.iload 7, 2) := by decide +kernel
theorem dX5_gauss_23 : decode cX5_gauss 23 = .ok (.iload_n 2, 1) := by decide +kernel
theorem dX5_gauss_24 : decode cX5_gauss 24 = .ok (.if_icmp .ge 45, 3) := by decide +kernel
theorem dX5_gauss_27 : decode cX5_gauss 27 = .ok (.lload_n 3, 1) := by decide +kernel
theorem dX5_gauss_28 : decode cX5_gauss 28 = .ok (.aload_n 0, 1) := by decide +kernel
theorem dX5_gauss_29 : decode cX5_gauss 29 = .ok (.getfield 38, 3) := by decide +kernel
theorem dX5_gauss_32 : decode cX5_gauss 32 = .ok (.iload_n 1, 1) := by decide +kernel
theorem dX5_gauss_33 : decode cX5_gauss 33 = .ok (.iload 7, 2) := by decide +kernel
theorem dX5_gauss_35 : decode cX5_gauss 35 = .ok (.isub, 1) := by decide +kernel
theorem dX5_gauss_36 : decode cX5_gauss 36 = .ok (.invokestatic 48, 3) := by decide +kernel
theorem dX5_gauss_39 : decode cX5_gauss 39 = .ok (.iconst 1, 1) := by decide +kernel
theorem dX5_gauss_40 : decode cX5_gauss 40 = .ok (.isub, 1) := by decide +kernel
theorem dX5_gauss_41 : decode cX5_gauss 41 = .ok (.i2l, 1) := by decide +kernel
theorem dX5_gauss_42 : decode cX5_gauss 42 = .ok (.lmul, 1) := by decide +kernel
theorem dX5_gauss_43 : decode cX5_gauss 43 = .ok (.lstore_n 3, 1) := by decide +kernel
theorem dX5_gauss_44 : decode cX5_gauss 44 = .ok (.lload 5, 2) := by decide +kernel
theorem dX5_gauss_46 : decode cX5_gauss 46 = .ok (.aload_n 0, 1) := by decide +kernel
theorem dX5_gauss_47 : decode cX5_gauss 47 = .ok (.getfield 38, 3) := by decide +kernel
theorem dX5_gauss_50 : decode cX5_gauss 50 = .ok (.iload 7, 2) := by decide +kernel
theorem dX5_gauss_52 : decode cX5_gauss 52 = .ok (.iconst 1, 1) := by decide +kernel
theorem dX5_gauss_53 : decode cX5_gauss 53 = .ok (.iadd, 1) := by decide +kernel
theorem dX5_gauss_54 : decode cX5_gauss 54 = .ok (.invokestatic 48, 3) := by decide +kernel
theorem dX5_gauss_57 : decode cX5_gauss 57 = .ok (.iconst 1, 1) := by decide +kernel
theorem dX5_gauss_58 : decode cX5_gauss 58 = .ok (.isub, 1) := by decide +kernel
theorem dX5_gauss_59 : decode cX5_gauss 59 = .ok (.i2l, 1) := by decide +kernel
theorem dX5_gauss_60 : decode cX5_gauss 60 = .ok (.lmul, 1) := by decide +kernel
theorem dX5_gauss_61 : decode cX5_gauss 61 = .ok (.lstore 5, 2) := by decide +kernel
theorem dX5_gauss_63 : decode cX5_gauss 63 = .ok (.iinc 7 1, 3) := by decide +kernel
theorem dX5_gauss_66 : decode cX5_gauss 66 = .ok (.goto (-45), 3) := by decide +kernel
theorem dX5_gauss_69 : decode cX5_gauss 69 = .ok (.lload_n 3, 1) := by decide +kernel
theorem dX5_gauss_70 : decode cX5_gauss 70 = .ok (.lload 5, 2) := by decide +kernel
theorem dX5_gauss_72 : decode cX5_gauss 72 = .ok (.ldiv, 1) := by decide +kernel
theorem dX5_gauss_73 : decode cX5_gauss 73 = .ok (.l2i, 1) := by decide +kernel
theorem dX5_gauss_74 : decode cX5_gauss 74 = .ok (.ireturn, 1) := by decide +kernel
set_option maxRecDepth 20000 in
theorem ggX5_many_X5_gauss : GoodIn wsX5_many wsX5_gauss := goodIn_r _ [6, 7, 8, 9, 5, 10, 11, 12, 13, 14, 15, 16, 17, 18, 19, 20, 21, 22, 23, 24, 25, 26, 27, 28, 29] (by decide +kernel) (by decide +kernel)
set_option maxRecDepth 20000 in
theorem gX5_many_X5_gauss : GoodIn wsX5_many (wsV RX5 112 RX5 yX5_gauss wsX5_gauss) := goodIn_app (goodIn_of _ (by decide +kernel)) ggX5_many_X5_gauss
theorem dX5_many_0 : decode cX5_many 0 = .ok (.aload_n 0, 1) := by decide +kernel
theorem dX5_many_1 : decode cX5_many 1 = .ok (.aload_n 0, 1) := by decide +kernel
theorem dX5_many_2 : decode cX5_many 2 = .ok (.getfield 42, 3) := by decide +kernel
theorem dX5_many_5 : decode cX5_many 5 = .ok (.iload_n 1, 1) := by decide +kernel
theorem dX5_many_6 : decode cX5_many 6 = .ok (.invokevirtual 112, 3) := by decide +kernel
theorem dX5_many_9 : decode cX5_many 9 = .ok (.ireturn, 1) := by decide +kernel
theorem dX5_free_0 : decode cX5_free 0 = .ok (.iconst 0, 1) := by decide +kernel
theorem dX5_free_1 : decode cX5_free 1 = .ok (.istore_n 2, 1) := by decide +kernel
theorem dX5_free_2 : decode cX5_free 2 = .ok (.iconst 0, 1) := by decide +kernel
theorem dX5_free_3 : decode cX5_free 3 = .ok (.istore_n 3, 1) := by decide +kernel
theorem dX5_free_4 : decode cX5_free 4 = .ok (.iload_n 3, 1) := by decide +kernel
theorem dX5_free_5 : decode cX5_free 5 = .ok (.iload_n 1, 1) := by decide +kernel
theorem dX5_free_6 : decode cX5_free 6 = .ok (.if_icmp .ge 31, 3) := by decide +kernel
theorem dX5_free_9 : decode cX5_free 9 = .ok (.iload_n 2, 1) := by decide +kernel
theorem dX5_free_10 : decode cX5_free 10 = .ok (.aload_n 0, 1) := by decide +kernel
theorem dX5_free_11 : decode cX5_free 11 = .ok (.getfield 42, 3) := by decide +kernel
theorem dX5_free_14 : decode cX5_free 14 = .ok (.iconst 1, 1) := by decide +kernel
theorem dX5_free_15 : decode cX5_free 15 = .ok (.isub, 1) := by decide +kernel
theorem dX5_free_16 : decode cX5_free 16 = .ok (.aload_n 0, 1) := by decide +kernel
theorem dX5_free_17 : decode cX5_free 17 = .ok (.getfield 29, 3) := by decide +kernel
theorem dX5_free_20 : decode cX5_free 20 = .ok (.iload_n 3, 1) := by decide +kernel
theorem dX5_free_21 : decode cX5_free 21 = .ok (.iaload, 1) := by decide +kernel
theorem dX5_free_22 : decode cX5_free 22 = .ok (.isub, 1) := by decide +kernel
theorem dX5_free_23 : decode cX5_free 23 = .ok (.iload_n 1, 1) := by decide +kernel
theorem dX5_free_24 : decode cX5_free 24 = .ok (.iconst 1, 1) := by decide +kernel
theorem dX5_free_25 : decode cX5_free 25 = .ok (.isub, 1) := by decide +kernel
theorem dX5_free_26 : decode cX5_free 26 = .ok (.iload_n 3, 1) := by decide +kernel
theorem dX5_free_27 : decode cX5_free 27 = .ok (.isub, 1) := by decide +kernel
theorem dX5_free_28 : decode cX5_free 28 = .ok (.isub, 1) := by decide +kernel
theorem dX5_free_29 : decode cX5_free 29 = .ok (.iadd, 1) := by decide +kernel
theorem dX5_free_30 : decode cX5_free 30 = .ok (.istore_n 2, 1) := by decide +kernel
theorem dX5_free_31 : decode cX5_free 31 = .ok (.iinc 3 1, 3) := by decide +kernel
theorem dX5_free_34 : decode cX5_free 34 = .ok (.goto (-30), 3) := by decide +kernel
theorem dX5_free_37 : decode cX5_free 37 = .ok (.iload_n 2, 1) := by decide +kernel
theorem dX5_free_38 : decode cX5_free 38 = .ok (.ireturn, 1) := by decide +kernel
theorem dX5_goOn_0 : decode cX5_goOn 0 = .ok (.iload_n 1, 1) := by decide +kernel
theorem dX5_goOn_1 : decode cX5_goOn 1 = .ok (.iconst 1, 1) := by decide +kernel
theorem dX5_goOn_2 : decode cX5_goOn 2 = .ok (.isub, 1) := by decide +kernel
theorem dX5_goOn_3 : decode cX5_goOn 3 = .ok (.istore_n 2, 1) := by decide +kernel
theorem dX5_goOn_4 : decode cX5_goOn 4 = .ok (.iload_n 2, 1) := by decide +kernel
theorem dX5_goOn_5 : decode cX5_goOn 5 = .ok (.ifCond .lt 26, 3) := by decide +kernel
theorem dX5_goOn_8 : decode cX5_goOn 8 = .ok (.aload_n 0, 1) := by decide +kernel
theorem dX5_goOn_9 : decode cX5_goOn 9 = .ok (.getfield 29, 3) := by decide +kernel
theorem dX5_goOn_12 : decode cX5_goOn 12 = .ok (.iload_n 2, 1) := by decide +kernel
theorem dX5_goOn_13 : decode cX5_goOn 13 = .ok (.iaload, 1) := by decide +kernel
theorem dX5_goOn_14 : decode cX5_goOn 14 = .ok (.aload_n 0, 1) := by decide +kernel
theorem dX5_goOn_15 : decode cX5_goOn 15 = .ok (.getfield 42, 3) := by decide +kernel
theorem dX5_goOn_18 : decode cX5_goOn 18 = .ok (.iload_n 1, 1) := by decide +kernel
theorem dX5_goOn_19 : decode cX5_goOn 19 = .ok (.isub, 1) := by decide +kernel
theorem dX5_goOn_20 : decode cX5_goOn 20 = .ok (.iload_n 2, 1) := by decide +kernel
theorem dX5_goOn_21 : decode cX5_goOn 21 = .ok (.iadd, 1) := by decide +kernel
theorem dX5_goOn_22 : decode cX5_goOn 22 = .ok (.if_icmp .ne 9, 3) := by decide +kernel
theorem dX5_goOn_25 : decode cX5_goOn 25 = .ok (.iinc 2 (-1), 3) := by decide +kernel
theorem dX5_goOn_28 : decode cX5_goOn 28 = .ok (.goto (-24), 3) := by decide +kernel
theorem dX5_goOn_31 : decode cX5_goOn 31 = .ok (.iload_n 2, 1) := by decide +kernel
theorem dX5_goOn_32 : decode cX5_goOn 32 = .ok (.ifCond .ge 5, 3) := by decide +kernel
theorem dX5_goOn_35 : decode cX5_goOn 35 = .ok (.iconst 0, 1) := by decide +kernel
theorem dX5_goOn_36 : decode cX5_goOn 36 = .ok (.ireturn, 1) := by decide +kernel
theorem dX5_goOn_37 : decode cX5_goOn 37 = .ok (.aload_n 0, 1) := by decide +kernel
theorem dX5_goOn_38 : decode cX5_goOn 38 = .ok (.getfield 29, 3) := by decide +kernel
theorem dX5_goOn_41 : decode cX5_goOn 41 = .ok (.iload_n 2, 1) := by decide +kernel
theorem dX5_goOn_42 : decode cX5_goOn 42 = .ok (.dup2, 1) := by decide +kernel
theorem dX5_goOn_43 : decode cX5_goOn 43 = .ok (.iaload, 1) := by decide +kernel
theorem dX5_goOn_44 : decode cX5_goOn 44 = .ok (.iconst 1, 1) := by decide +kernel
theorem dX5_goOn_45 : decode cX5_goOn 45 = .ok (.iadd, 1) := by decide +kernel
theorem dX5_goOn_46 : decode cX5_goOn 46 = .ok (.iastore, 1) := by decide +kernel
theorem dX5_goOn_47 : decode cX5_goOn 47 = .ok (.iload_n 2, 1) := by decide +kernel
theorem dX5_goOn_48 : decode cX5_goOn 48 = .ok (.iconst 1, 1) := by decide +kernel
theorem dX5_goOn_49 : decode cX5_goOn 49 = .ok (.iadd, 1) := by decide +kernel
theorem dX5_goOn_50 : decode cX5_goOn 50 = .ok (.istore_n 3, 1) := by decide +kernel
theorem dX5_goOn_51 : decode cX5_goOn 51 = .ok (.iload_n 3, 1) := by decide +kernel
theorem dX5_goOn_52 : decode cX5_goOn 52 = .ok (.iload_n 1, 1) := by decide +kernel
theorem dX5_goOn_53 : decode cX5_goOn 53 = .ok (.if_icmp .ge 25, 3) := by decide +kernel
theorem dX5_goOn_56 : decode cX5_goOn 56 = .ok (.aload_n 0, 1) := by decide +kernel
theorem dX5_goOn_57 : decode cX5_goOn 57 = .ok (.getfield 29, 3) := by decide +kernel
theorem dX5_goOn_60 : decode cX5_goOn 60 = .ok (.iload_n 3, 1) := by decide +kernel
theorem dX5_goOn_61 : decode cX5_goOn 61 = .ok (.aload_n 0, 1) := by decide +kernel
theorem dX5_goOn_62 : decode cX5_goOn 62 = .ok (.getfield 29, 3) := by decide +kernel
theorem dX5_goOn_65 : decode cX5_goOn 65 = .ok (.iload_n 3, 1) := by decide +kernel
theorem dX5_goOn_66 : decode cX5_goOn 66 = .ok (.iconst 1, 1) := by decide +kernel
theorem dX5_goOn_67 : decode cX5_goOn 67 = .ok (.isub, 1) := by decide +kernel
theorem dX5_goOn_68 : decode cX5_goOn 68 = .ok (.iaload, 1) := by decide +kernel
theorem dX5_goOn_69 : decode cX5_goOn 69 = .ok (.iconst 1, 1) := by decide +kernel
theorem dX5_goOn_70 : decode cX5_goOn 70 = .ok (.iadd, 1) := by decide +kernel
theorem dX5_goOn_71 : decode cX5_goOn 71 = .ok (.iastore, 1) := by decide +kernel
theorem dX5_goOn_72 : decode cX5_goOn 72 = .ok (.iinc 3 1, 3) := by decide +kernel
theorem dX5_goOn_75 : decode cX5_goOn 75 = .ok (.goto (-24), 3) := by decide +kernel
theorem dX5_goOn_78 : decode cX5_goOn 78 = .ok (.iconst 1, 1) := by decide +kernel
theorem dX5_goOn_79 : decode cX5_goOn 79 = .ok (.ireturn, 1) := by decide +kernel
theorem dX5_firstPivots_0 : decode cX5_firstPivots 0 = .ok (.iconst 0, 1) := by decide +kernel
theorem dX5_firstPivots_1 : decode cX5_firstPivots 1 = .ok (.istore_n 2, 1) := by decide +kernel
theorem dX5_firstPivots_2 : decode cX5_firstPivots 2 = .ok (.iload_n 2, 1) := by decide +kernel
theorem dX5_firstPivots_3 : decode cX5_firstPivots 3 = .ok (.iload_n 1, 1) := by decide +kernel
theorem dX5_firstPivots_4 : decode cX5_firstPivots 4 = .ok (.if_icmp .ge 16, 3) := by decide +kernel
theorem dX5_firstPivots_7 : decode cX5_firstPivots 7 = .ok (.aload_n 0, 1) := by decide +kernel
theorem dX5_firstPivots_8 : decode cX5_firstPivots 8 = .ok (.getfield 29, 3) := by decide +kernel
theorem dX5_firstPivots_11 : decode cX5_firstPivots 11 = .ok (.iload_n 2, 1) := by decide +kernel
theorem dX5_firstPivots_12 : decode cX5_firstPivots 12 = .ok (.iload_n 2, 1) := by decide +kernel
theorem dX5_firstPivots_13 : decode cX5_firstPivots 13 = .ok (.iastore, 1) := by decide +kernel
theorem dX5_firstPivots_14 : decode cX5_firstPivots 14 = .ok (.iinc 2 1, 3) := by decide +kernel
theorem dX5_firstPivots_17 : decode cX5_firstPivots 17 = .ok (.goto (-15), 3) := by decide +kernel
theorem dX5_firstPivots_20 : decode cX5_firstPivots 20 = .ok (.return_, 1) := by decide +kernel
theorem dX5_isFree_0 : decode cX5_isFree 0 = .ok (.iload_n 3, 1) := by decide +kernel
theorem dX5_isFree_1 : decode cX5_isFree 1 = .ok (.aload_n 0, 1) := by decide +kernel
theorem dX5_isFree_2 : decode cX5_isFree 2 = .ok (.getfield 29, 3) := by decide +kernel
theorem dX5_isFree_5 : decode cX5_isFree 5 = .ok (.iload_n 2, 1) := by decide +kernel
theorem dX5_isFree_6 : decode cX5_isFree 6 = .ok (.iaload, 1) := by decide +kernel
theorem dX5_isFree_7 : decode cX5_isFree 7 = .ok (.if_icmp .le 7, 3) := by decide +kernel
theorem dX5_isFree_10 : decode cX5_isFree 10 = .ok (.iconst 1, 1) := by decide +kernel
theorem dX5_isFree_11 : decode cX5_isFree 11 = .ok (.goto 4, 3) := by decide +kernel
theorem dX5_isFree_14 : decode cX5_isFree 14 = .ok (.iconst 0, 1) := by decide +kernel
theorem dX5_isFree_15 : decode cX5_isFree 15 = .ok (.istore 4, 2) := by decide +kernel
theorem dX5_isFree_17 : decode cX5_isFree 17 = .ok (.iconst 0, 1) := by decide +kernel
theorem dX5_isFree_18 : decode cX5_isFree 18 = .ok (.istore 5, 2) := by decide +kernel
theorem dX5_isFree_20 : decode cX5_isFree 20 = .ok (.iload 5, 2) := by decide +kernel
theorem dX5_isFree_22 : decode cX5_isFree 22 = .ok (.iload_n 1, 1) := by decide +kernel
theorem dX5_isFree_23 : decode cX5_isFree 23 = .ok (.if_icmp .ge 32, 3) := by decide +kernel
theorem dX5_isFree_26 : decode cX5_isFree 26 = .ok (.iload 4, 2) := by decide +kernel
theorem dX5_isFree_28 : decode cX5_isFree 28 = .ok (.ifCond .eq 18, 3) := by decide +kernel
theorem dX5_isFree_31 : decode cX5_isFree 31 = .ok (.aload_n 0, 1) := by decide +kernel
theorem dX5_isFree_32 : decode cX5_isFree 32 = .ok (.getfield 29, 3) := by decide +kernel
theorem dX5_isFree_35 : decode cX5_isFree 35 = .ok (.iload 5, 2) := by decide +kernel
theorem dX5_isFree_37 : decode cX5_isFree 37 = .ok (.iaload, 1) := by decide +kernel
theorem dX5_isFree_38 : decode cX5_isFree 38 = .ok (.iload_n 3, 1) := by decide +kernel
theorem dX5_isFree_39 : decode cX5_isFree 39 = .ok (.if_icmp .eq 7, 3) := by decide +kernel
theorem dX5_isFree_42 : decode cX5_isFree 42 = .ok (.iconst 1, 1) := by decide +kernel
theorem dX5_isFree_43 : decode cX5_isFree 43 = .ok (.goto 4, 3) := by decide +kernel
theorem dX5_isFree_46 : decode cX5_isFree 46 = .ok (.iconst 0, 1) := by decide +kernel
theorem dX5_isFree_47 : decode cX5_isFree 47 = .ok (.istore 4, 2) := by decide +kernel
theorem dX5_isFree_49 : decode cX5_isFree 49 = .ok (.iinc 5 1, 3) := by decide +kernel
theorem dX5_isFree_52 : decode cX5_isFree 52 = .ok (.goto (-32), 3) := by decide +kernel
theorem dX5_isFree_55 : decode cX5_isFree 55 = .ok (.iload 4, 2) := by decide +kernel
theorem dX5_isFree_57 : decode cX5_isFree 57 = .ok (.ireturn, 1) := by decide +kernel
set_option maxRecDepth 20000 in
theorem ggX5_number_X5_isSlot : GoodIn wsX5_number wsX5_isSlot := goodIn_r _ [9, 10, 11, 12, 8, 13] (by decide +kernel) (by decide +kernel)
set_option maxRecDepth 20000 in
theorem gX5_number_X5_isSlot : GoodIn wsX5_number (va_wsS RX5 88 yX5_isSlot wsX5_isSlot) := goodIn_app (goodIn_of _ (by decide +kernel)) ggX5_number_X5_isSlot
set_option maxRecDepth 20000 in
theorem ggX5_number_X5_firstPivots : GoodIn wsX5_number wsX5_firstPivots := goodIn_r _ [17, 2, 41, 42, 43, 44, 45, 46, 47, 48, 49, 50, 51, 52, 53, 54, 55, 56] (by decide +kernel) (by decide +kernel)
set_option maxRecDepth 20000 in
theorem gX5_number_X5_firstPivots : GoodIn wsX5_number (wsV RX5 115 RX5 yX5_firstPivots wsX5_firstPivots) := goodIn_app (goodIn_of _ (by decide +kernel)) ggX5_number_X5_firstPivots
set_option maxRecDepth 20000 in
theorem ggX5_number_X5_pivot : GoodIn wsX5_number wsX5_pivot := goodIn_r _ [21, 22, 23, 24, 8, 25, 4, 5, 26, 27, 28, 41, 42, 43, 44, 45, 46, 47, 48, 49, 50, 51, 52, 53, 54, 55, 56] (by decide +kernel) (by decide +kernel)
set_option maxRecDepth 20000 in
theorem gX5_number_X5_pivot : GoodIn wsX5_number (wsV RX5 79 RX5 yX5_pivot wsX5_pivot) := goodIn_app (goodIn_of _ (by decide +kernel)) ggX5_number_X5_pivot
set_option maxRecDepth 20000 in
theorem ggX5_number_X5_free : GoodIn wsX5_number wsX5_free := goodIn_r _ [32, 5, 2, 41, 42, 43, 44, 45, 46, 47, 48, 49, 50, 51, 52, 53, 54, 55, 56] (by decide +kernel) (by decide +kernel)
set_option maxRecDepth 20000 in
theorem gX5_number_X5_free : GoodIn wsX5_number (wsV RX5 118 RX5 yX5_free wsX5_free) := goodIn_app (goodIn_of _ (by decide +kernel)) ggX5_number_X5_free
set_option maxRecDepth 20000 in
theorem ggX5_number_X5_power : GoodIn wsX5_number wsX5_power := goodIn_r _ [28] (by decide +kernel) (by decide +kernel)
set_option maxRecDepth 20000 in
theorem gX5_number_X5_power : GoodIn wsX5_number (va_wsS RX5 48 yX5_power wsX5_power) := goodIn_app (goodIn_of _ (by decide +kernel)) ggX5_number_X5_power
set_option maxRecDepth 20000 in
theorem ggX5_number_X5_goOn : GoodIn wsX5_number wsX5_goOn := goodIn_r _ [36, 2, 5, 41, 42, 43, 44, 45, 46, 47, 48, 49, 50, 51, 52, 53, 54, 55, 56] (by decide +kernel) (by decide +kernel)
set_option maxRecDepth 20000 in
theorem gX5_number_X5_goOn : GoodIn wsX5_number (wsV RX5 121 RX5 yX5_goOn wsX5_goOn) := goodIn_app (goodIn_of _ (by decide +kernel)) ggX5_number_X5_goOn
set_option maxRecDepth 20000 in
theorem ggX5_number_X5_isFree : GoodIn wsX5_number wsX5_isFree := goodIn_r _ [40, 2, 41, 42, 43, 44, 45, 46, 47, 48, 49, 50, 51, 52, 53, 54, 55, 56] (by decide +kernel) (by decide +kernel)
set_option maxRecDepth 20000 in
theorem gX5_number_X5_isFree : GoodIn wsX5_number (wsV RX5 124 RX5 yX5_isFree wsX5_isFree) := goodIn_app (goodIn_of _ (by decide +kernel)) ggX5_number_X5_isFree
set_option maxRecDepth 20000 in
theorem ggX5_number_X5_figure : GoodIn wsX5_number wsX5_figure := goodIn_r _ [25, 4, 5, 26, 27, 8, 28, 41, 42, 43, 44, 45, 46, 47, 48, 49, 50, 51, 52, 53, 54, 55, 56] (by decide +kernel) (by decide +kernel)
set_option maxRecDepth 20000 in
theorem gX5_number_X5_figure : GoodIn wsX5_number (wsV RX5 62 RX5 yX5_figure wsX5_figure) := goodIn_app (goodIn_of _ (by decide +kernel)) ggX5_number_X5_figure
theorem dX5_number_0 : decode cX5_number 0 = .ok (.iload_n 1, 1) := by decide +kernel
theorem dX5_number_1 : decode cX5_number 1 = .ok (.invokestatic 88, 3) := by decide +kernel
theorem dX5_number_4 : decode cX5_number 4 = .ok (.ifCond .ne 6, 3) := by decide +kernel
theorem dX5_number_7 : decode cX5_number 7 = .ok (.bipush (-101), 2) := by decide +kernel
theorem dX5_number_9 : decode cX5_number 9 = .ok (.ireturn, 1) := by decide +kernel
theorem dX5_number_10 : decode cX5_number 10 = .ok (.aload_n 0, 1) := by decide +kernel
theorem dX5_number_11 : decode cX5_number 11 = .ok (.getfield 20, 3) := by decide +kernel
theorem dX5_number_14 : decode cX5_number 14 = .ok (.iload_n 1, 1) := by decide +kernel
theorem dX5_number_15 : decode cX5_number 15 = .ok (.iaload, 1) := by decide +kernel
theorem dX5_number_16 : decode cX5_number 16 = .ok (.istore_n 2, 1) := by decide +kernel
theorem dX5_number_17 : decode cX5_number 17 = .ok (.aload_n 0, 1) := by decide +kernel
theorem dX5_number_18 : decode cX5_number 18 = .ok (.iload_n 2, 1) := by decide +kernel
theorem dX5_number_19 : decode cX5_number 19 = .ok (.invokevirtual 115, 3) := by decide +kernel
theorem dX5_number_22 : decode cX5_number 22 = .ok (.iconst 0, 1) := by decide +kernel
theorem dX5_number_23 : decode cX5_number 23 = .ok (.istore_n 3, 1) := by decide +kernel
theorem dX5_number_24 : decode cX5_number 24 = .ok (.iconst 0, 1) := by decide +kernel
theorem dX5_number_25 : decode cX5_number 25 = .ok (.istore 4, 2) := by decide +kernel
theorem dX5_number_27 : decode cX5_number 27 = .ok (.iload 4, 2) := by decide +kernel
theorem dX5_number_29 : decode cX5_number 29 = .ok (.ifCond .ne 88, 3) := by decide +kernel
theorem dX5_number_32 : decode cX5_number 32 = .ok (.iconst 1, 1) := by decide +kernel
theorem dX5_number_33 : decode cX5_number 33 = .ok (.istore 4, 2) := by decide +kernel
theorem dX5_number_35 : decode cX5_number 35 = .ok (.iconst 0, 1) := by decide +kernel
theorem dX5_number_36 : decode cX5_number 36 = .ok (.istore 5, 2) := by decide +kernel
theorem dX5_number_38 : decode cX5_number 38 = .ok (.iload 5, 2) := by decide +kernel
theorem dX5_number_40 : decode cX5_number 40 = .ok (.iload_n 2, 1) := by decide +kernel
theorem dX5_number_41 : decode cX5_number 41 = .ok (.if_icmp .ge 47, 3) := by decide +kernel
theorem dX5_number_44 : decode cX5_number 44 = .ok (.iload 4, 2) := by decide +kernel
theorem dX5_number_46 : decode cX5_number 46 = .ok (.ifCond .eq 33, 3) := by decide +kernel
theorem dX5_number_49 : decode cX5_number 49 = .ok (.aload_n 0, 1) := by decide +kernel
theorem dX5_number_50 : decode cX5_number 50 = .ok (.getfield 29, 3) := by decide +kernel
theorem dX5_number_53 : decode cX5_number 53 = .ok (.iload 5, 2) := by decide +kernel
theorem dX5_number_55 : decode cX5_number 55 = .ok (.iaload, 1) := by decide +kernel
theorem dX5_number_56 : decode cX5_number 56 = .ok (.aload_n 0, 1) := by decide +kernel
theorem dX5_number_57 : decode cX5_number 57 = .ok (.aload_n 0, 1) := by decide +kernel
theorem dX5_number_58 : decode cX5_number 58 = .ok (.getfield 23, 3) := by decide +kernel
theorem dX5_number_61 : decode cX5_number 61 = .ok (.bipush 6, 2) := by decide +kernel
theorem dX5_number_63 : decode cX5_number 63 = .ok (.iload_n 1, 1) := by decide +kernel
theorem dX5_number_64 : decode cX5_number 64 = .ok (.imul, 1) := by decide +kernel
theorem dX5_number_65 : decode cX5_number 65 = .ok (.iload 5, 2) := by decide +kernel
theorem dX5_number_67 : decode cX5_number 67 = .ok (.iadd, 1) := by decide +kernel
theorem dX5_number_68 : decode cX5_number 68 = .ok (.iaload, 1) := by decide +kernel
theorem dX5_number_69 : decode cX5_number 69 = .ok (.invokevirtual 79, 3) := by decide +kernel
theorem dX5_number_72 : decode cX5_number 72 = .ok (.if_icmp .ne 7, 3) := by decide +kernel
theorem dX5_number_75 : decode cX5_number 75 = .ok (.iconst 1, 1) := by decide +kernel
theorem dX5_number_76 : decode cX5_number 76 = .ok (.goto 4, 3) := by decide +kernel
theorem dX5_number_79 : decode cX5_number 79 = .ok (.iconst 0, 1) := by decide +kernel
theorem dX5_number_80 : decode cX5_number 80 = .ok (.istore 4, 2) := by decide +kernel
theorem dX5_number_82 : decode cX5_number 82 = .ok (.iinc 5 1, 3) := by decide +kernel
theorem dX5_number_85 : decode cX5_number 85 = .ok (.goto (-47), 3) := by decide +kernel
theorem dX5_number_88 : decode cX5_number 88 = .ok (.iload 4, 2) := by decide +kernel
theorem dX5_number_90 : decode cX5_number 90 = .ok (.ifCond .ne (-63), 3) := by decide +kernel
theorem dX5_number_93 : decode cX5_number 93 = .ok (.iload_n 3, 1) := by decide +kernel
theorem dX5_number_94 : decode cX5_number 94 = .ok (.aload_n 0, 1) := by decide +kernel
theorem dX5_number_95 : decode cX5_number 95 = .ok (.getfield 38, 3) := by decide +kernel
theorem dX5_number_98 : decode cX5_number 98 = .ok (.aload_n 0, 1) := by decide +kernel
theorem dX5_number_99 : decode cX5_number 99 = .ok (.iload_n 2, 1) := by decide +kernel
theorem dX5_number_100 : decode cX5_number 100 = .ok (.invokevirtual 118, 3) := by decide +kernel
theorem dX5_number_103 : decode cX5_number 103 = .ok (.invokestatic 48, 3) := by decide +kernel
theorem dX5_number_106 : decode cX5_number 106 = .ok (.iadd, 1) := by decide +kernel
theorem dX5_number_107 : decode cX5_number 107 = .ok (.istore_n 3, 1) := by decide +kernel
theorem dX5_number_108 : decode cX5_number 108 = .ok (.aload_n 0, 1) := by decide +kernel
theorem dX5_number_109 : decode cX5_number 109 = .ok (.iload_n 2, 1) := by decide +kernel
theorem dX5_number_110 : decode cX5_number 110 = .ok (.invokevirtual 121, 3) := by decide +kernel
theorem dX5_number_113 : decode cX5_number 113 = .ok (.pop, 1) := by decide +kernel
theorem dX5_number_114 : decode cX5_number 114 = .ok (.goto (-87), 3) := by decide +kernel
theorem dX5_number_117 : decode cX5_number 117 = .ok (.iconst 0, 1) := by decide +kernel
theorem dX5_number_118 : decode cX5_number 118 = .ok (.istore 5, 2) := by decide +kernel
theorem dX5_number_120 : decode cX5_number 120 = .ok (.iconst 0, 1) := by decide +kernel
theorem dX5_number_121 : decode cX5_number 121 = .ok (.istore 6, 2) := by decide +kernel
theorem dX5_number_123 : decode cX5_number 123 = .ok (.iload 6, 2) := by decide +kernel
theorem dX5_number_125 : decode cX5_number 125 = .ok (.iload_n 2, 1) := by decide +kernel
theorem dX5_number_126 : decode cX5_number 126 = .ok (.if_icmp .ge 67, 3) := by decide +kernel
theorem dX5_number_129 : decode cX5_number 129 = .ok (.iconst 0, 1) := by decide +kernel
theorem dX5_number_130 : decode cX5_number 130 = .ok (.istore 7, 2) := by decide +kernel
theorem dX5_number_132 : decode cX5_number 132 = .ok (.iload 7, 2) := by decide +kernel
theorem dX5_number_134 : decode cX5_number 134 = .ok (.aload_n 0, 1) := by decide +kernel
theorem dX5_number_135 : decode cX5_number 135 = .ok (.getfield 42, 3) := by decide +kernel
theorem dX5_number_138 : decode cX5_number 138 = .ok (.if_icmp .ge 49, 3) := by decide +kernel
theorem dX5_number_141 : decode cX5_number 141 = .ok (.aload_n 0, 1) := by decide +kernel
theorem dX5_number_142 : decode cX5_number 142 = .ok (.iload_n 2, 1) := by decide +kernel
theorem dX5_number_143 : decode cX5_number 143 = .ok (.iload 6, 2) := by decide +kernel
theorem dX5_number_145 : decode cX5_number 145 = .ok (.iload 7, 2) := by decide +kernel
theorem dX5_number_147 : decode cX5_number 147 = .ok (.invokevirtual 124, 3) := by decide +kernel
theorem dX5_number_150 : decode cX5_number 150 = .ok (.ifCond .eq 31, 3) := by decide +kernel
theorem dX5_number_153 : decode cX5_number 153 = .ok (.iload 5, 2) := by decide +kernel
theorem dX5_number_155 : decode cX5_number 155 = .ok (.aload_n 0, 1) := by decide +kernel
theorem dX5_number_156 : decode cX5_number 156 = .ok (.getfield 38, 3) := by decide +kernel
theorem dX5_number_159 : decode cX5_number 159 = .ok (.imul, 1) := by decide +kernel
theorem dX5_number_160 : decode cX5_number 160 = .ok (.aload_n 0, 1) := by decide +kernel
theorem dX5_number_161 : decode cX5_number 161 = .ok (.aload_n 0, 1) := by decide +kernel
theorem dX5_number_162 : decode cX5_number 162 = .ok (.getfield 23, 3) := by decide +kernel
theorem dX5_number_165 : decode cX5_number 165 = .ok (.bipush 6, 2) := by decide +kernel
theorem dX5_number_167 : decode cX5_number 167 = .ok (.iload_n 1, 1) := by decide +kernel
theorem dX5_number_168 : decode cX5_number 168 = .ok (.imul, 1) := by decide +kernel
theorem dX5_number_169 : decode cX5_number 169 = .ok (.iload 6, 2) := by decide +kernel
theorem dX5_number_171 : decode cX5_number 171 = .ok (.iadd, 1) := by decide +kernel
theorem dX5_number_172 : decode cX5_number 172 = .ok (.iaload, 1) := by decide +kernel
theorem dX5_number_173 : decode cX5_number 173 = .ok (.iload 7, 2) := by decide +kernel
theorem dX5_number_175 : decode cX5_number 175 = .ok (.invokevirtual 62, 3) := by decide +kernel
theorem dX5_number_178 : decode cX5_number 178 = .ok (.iadd, 1) := by decide +kernel
theorem dX5_number_179 : decode cX5_number 179 = .ok (.istore 5, 2) := by decide +kernel
theorem dX5_number_181 : decode cX5_number 181 = .ok (.iinc 7 1, 3) := by decide +kernel
theorem dX5_number_184 : decode cX5_number 184 = .ok (.goto (-52), 3) := by decide +kernel
theorem dX5_number_187 : decode cX5_number 187 = .ok (.iinc 6 1, 3) := by decide +kernel
theorem dX5_number_190 : decode cX5_number 190 = .ok (.goto (-67), 3) := by decide +kernel
theorem dX5_number_193 : decode cX5_number 193 = .ok (.iload_n 3, 1) := by decide +kernel
theorem dX5_number_194 : decode cX5_number 194 = .ok (.iload 5, 2) := by decide +kernel
theorem dX5_number_196 : decode cX5_number 196 = .ok (.iadd, 1) := by decide +kernel
theorem dX5_number_197 : decode cX5_number 197 = .ok (.ireturn, 1) := by decide +kernel
set_option maxRecDepth 20000 in
theorem ggX5_lay_X5_firstPivots : GoodIn wsX5_lay wsX5_firstPivots := goodIn_r _ [10, 4, 26, 27, 28, 29, 30, 31, 32, 33, 34, 35, 36, 37, 38, 39, 40, 41] (by decide +kernel) (by decide +kernel)
set_option maxRecDepth 20000 in
theorem gX5_lay_X5_firstPivots : GoodIn wsX5_lay (wsV RX5 115 RX5 yX5_firstPivots wsX5_firstPivots) := goodIn_app (goodIn_of _ (by decide +kernel)) ggX5_lay_X5_firstPivots
set_option maxRecDepth 20000 in
theorem ggX5_lay_X5_free : GoodIn wsX5_lay wsX5_free := goodIn_r _ [14, 3, 4, 26, 27, 28, 29, 30, 31, 32, 33, 34, 35, 36, 37, 38, 39, 40, 41] (by decide +kernel) (by decide +kernel)
set_option maxRecDepth 20000 in
theorem gX5_lay_X5_free : GoodIn wsX5_lay (wsV RX5 118 RX5 yX5_free wsX5_free) := goodIn_app (goodIn_of _ (by decide +kernel)) ggX5_lay_X5_free
set_option maxRecDepth 20000 in
theorem ggX5_lay_X5_power : GoodIn wsX5_lay wsX5_power := goodIn_r _ [17] (by decide +kernel) (by decide +kernel)
set_option maxRecDepth 20000 in
theorem gX5_lay_X5_power : GoodIn wsX5_lay (va_wsS RX5 48 yX5_power wsX5_power) := goodIn_app (goodIn_of _ (by decide +kernel)) ggX5_lay_X5_power
set_option maxRecDepth 20000 in
theorem ggX5_lay_X5_goOn : GoodIn wsX5_lay wsX5_goOn := goodIn_r _ [21, 4, 3, 26, 27, 28, 29, 30, 31, 32, 33, 34, 35, 36, 37, 38, 39, 40, 41] (by decide +kernel) (by decide +kernel)
set_option maxRecDepth 20000 in
theorem gX5_lay_X5_goOn : GoodIn wsX5_lay (wsV RX5 121 RX5 yX5_goOn wsX5_goOn) := goodIn_app (goodIn_of _ (by decide +kernel)) ggX5_lay_X5_goOn
set_option maxRecDepth 20000 in
theorem ggX5_lay_X5_isFree : GoodIn wsX5_lay wsX5_isFree := goodIn_r _ [25, 4, 26, 27, 28, 29, 30, 31, 32, 33, 34, 35, 36, 37, 38, 39, 40, 41] (by decide +kernel) (by decide +kernel)
set_option maxRecDepth 20000 in
theorem gX5_lay_X5_isFree : GoodIn wsX5_lay (wsV RX5 124 RX5 yX5_isFree wsX5_isFree) := goodIn_app (goodIn_of _ (by decide +kernel)) ggX5_lay_X5_isFree
theorem dX5_lay_0 : decode cX5_lay 0 = .ok (.aload_n 0, 1) := by decide +kernel
theorem dX5_lay_1 : decode cX5_lay 1 = .ok (.iload_n 1, 1) := by decide +kernel
theorem dX5_lay_2 : decode cX5_lay 2 = .ok (.invokevirtual 115, 3) := by decide +kernel
theorem dX5_lay_5 : decode cX5_lay 5 = .ok (.iload_n 2, 1) := by decide +kernel
theorem dX5_lay_6 : decode cX5_lay 6 = .ok (.istore_n 3, 1) := by decide +kernel
theorem dX5_lay_7 : decode cX5_lay 7 = .ok (.iload_n 3, 1) := by decide +kernel
theorem dX5_lay_8 : decode cX5_lay 8 = .ok (.aload_n 0, 1) := by decide +kernel
theorem dX5_lay_9 : decode cX5_lay 9 = .ok (.getfield 38, 3) := by decide +kernel
theorem dX5_lay_12 : decode cX5_lay 12 = .ok (.aload_n 0, 1) := by decide +kernel
theorem dX5_lay_13 : decode cX5_lay 13 = .ok (.iload_n 1, 1) := by decide +kernel
theorem dX5_lay_14 : decode cX5_lay 14 = .ok (.invokevirtual 118, 3) := by decide +kernel
theorem dX5_lay_17 : decode cX5_lay 17 = .ok (.invokestatic 48, 3) := by decide +kernel
theorem dX5_lay_20 : decode cX5_lay 20 = .ok (.if_icmp .lt 27, 3) := by decide +kernel
theorem dX5_lay_23 : decode cX5_lay 23 = .ok (.iload_n 3, 1) := by decide +kernel
theorem dX5_lay_24 : decode cX5_lay 24 = .ok (.aload_n 0, 1) := by decide +kernel
theorem dX5_lay_25 : decode cX5_lay 25 = .ok (.getfield 38, 3) := by decide +kernel
theorem dX5_lay_28 : decode cX5_lay 28 = .ok (.aload_n 0, 1) := by decide +kernel
theorem dX5_lay_29 : decode cX5_lay 29 = .ok (.iload_n 1, 1) := by decide +kernel
theorem dX5_lay_30 : decode cX5_lay 30 = .ok (.invokevirtual 118, 3) := by decide +kernel
theorem dX5_lay_33 : decode cX5_lay 33 = .ok (.invokestatic 48, 3) := by decide +kernel
theorem dX5_lay_36 : decode cX5_lay 36 = .ok (.isub, 1) := by decide +kernel
theorem dX5_lay_37 : decode cX5_lay 37 = .ok (.istore_n 3, 1) := by decide +kernel
theorem dX5_lay_38 : decode cX5_lay 38 = .ok (.aload_n 0, 1) := by decide +kernel
theorem dX5_lay_39 : decode cX5_lay 39 = .ok (.iload_n 1, 1) := by decide +kernel
theorem dX5_lay_40 : decode cX5_lay 40 = .ok (.invokevirtual 121, 3) := by decide +kernel
theorem dX5_lay_43 : decode cX5_lay 43 = .ok (.pop, 1) := by decide +kernel
theorem dX5_lay_44 : decode cX5_lay 44 = .ok (.goto (-37), 3) := by decide +kernel
theorem dX5_lay_47 : decode cX5_lay 47 = .ok (.aload_n 0, 1) := by decide +kernel
theorem dX5_lay_48 : decode cX5_lay 48 = .ok (.getfield 38, 3) := by decide +kernel
theorem dX5_lay_51 : decode cX5_lay 51 = .ok (.aload_n 0, 1) := by decide +kernel
theorem dX5_lay_52 : decode cX5_lay 52 = .ok (.iload_n 1, 1) := by decide +kernel
theorem dX5_lay_53 : decode cX5_lay 53 = .ok (.invokevirtual 118, 3) := by decide +kernel
theorem dX5_lay_56 : decode cX5_lay 56 = .ok (.invokestatic 48, 3) := by decide +kernel
theorem dX5_lay_59 : decode cX5_lay 59 = .ok (.istore 4, 2) := by decide +kernel
theorem dX5_lay_61 : decode cX5_lay 61 = .ok (.aload_n 0, 1) := by decide +kernel
theorem dX5_lay_62 : decode cX5_lay 62 = .ok (.iload_n 1, 1) := by decide +kernel
theorem dX5_lay_63 : decode cX5_lay 63 = .ok (.putfield 76, 3) := by decide +kernel
theorem dX5_lay_66 : decode cX5_lay 66 = .ok (.iconst 0, 1) := by decide +kernel
theorem dX5_lay_67 : decode cX5_lay 67 = .ok (.istore 5, 2) := by decide +kernel
theorem dX5_lay_69 : decode cX5_lay 69 = .ok (.iload 5, 2) := by decide +kernel
theorem dX5_lay_71 : decode cX5_lay 71 = .ok (.iload_n 1, 1) := by decide +kernel
theorem dX5_lay_72 : decode cX5_lay 72 = .ok (.if_icmp .ge 111, 3) := by decide +kernel
theorem dX5_lay_75 : decode cX5_lay 75 = .ok (.aload_n 0, 1) := by decide +kernel
theorem dX5_lay_76 : decode cX5_lay 76 = .ok (.getfield 38, 3) := by decide +kernel
theorem dX5_lay_79 : decode cX5_lay 79 = .ok (.aload_n 0, 1) := by decide +kernel
theorem dX5_lay_80 : decode cX5_lay 80 = .ok (.getfield 42, 3) := by decide +kernel
theorem dX5_lay_83 : decode cX5_lay 83 = .ok (.iconst 1, 1) := by decide +kernel
theorem dX5_lay_84 : decode cX5_lay 84 = .ok (.isub, 1) := by decide +kernel
theorem dX5_lay_85 : decode cX5_lay 85 = .ok (.aload_n 0, 1) := by decide +kernel
theorem dX5_lay_86 : decode cX5_lay 86 = .ok (.getfield 29, 3) := by decide +kernel
theorem dX5_lay_89 : decode cX5_lay 89 = .ok (.iload 5, 2) := by decide +kernel
theorem dX5_lay_91 : decode cX5_lay 91 = .ok (.iaload, 1) := by decide +kernel
theorem dX5_lay_92 : decode cX5_lay 92 = .ok (.isub, 1) := by decide +kernel
theorem dX5_lay_93 : decode cX5_lay 93 = .ok (.invokestatic 48, 3) := by decide +kernel
theorem dX5_lay_96 : decode cX5_lay 96 = .ok (.istore 6, 2) := by decide +kernel
theorem dX5_lay_98 : decode cX5_lay 98 = .ok (.iconst 0, 1) := by decide +kernel
theorem dX5_lay_99 : decode cX5_lay 99 = .ok (.istore 7, 2) := by decide +kernel
theorem dX5_lay_101 : decode cX5_lay 101 = .ok (.iload 7, 2) := by decide +kernel
theorem dX5_lay_103 : decode cX5_lay 103 = .ok (.aload_n 0, 1) := by decide +kernel
theorem dX5_lay_104 : decode cX5_lay 104 = .ok (.getfield 42, 3) := by decide +kernel
theorem dX5_lay_107 : decode cX5_lay 107 = .ok (.if_icmp .ge 61, 3) := by decide +kernel
theorem dX5_lay_110 : decode cX5_lay 110 = .ok (.aload_n 0, 1) := by decide +kernel
theorem dX5_lay_111 : decode cX5_lay 111 = .ok (.iload_n 1, 1) := by decide +kernel
theorem dX5_lay_112 : decode cX5_lay 112 = .ok (.iload 5, 2) := by decide +kernel
theorem dX5_lay_114 : decode cX5_lay 114 = .ok (.iload 7, 2) := by decide +kernel
theorem dX5_lay_116 : decode cX5_lay 116 = .ok (.invokevirtual 124, 3) := by decide +kernel
theorem dX5_lay_119 : decode cX5_lay 119 = .ok (.ifCond .eq 43, 3) := by decide +kernel
theorem dX5_lay_122 : decode cX5_lay 122 = .ok (.iload 4, 2) := by decide +kernel
theorem dX5_lay_124 : decode cX5_lay 124 = .ok (.aload_n 0, 1) := by decide +kernel
theorem dX5_lay_125 : decode cX5_lay 125 = .ok (.getfield 38, 3) := by decide +kernel
theorem dX5_lay_128 : decode cX5_lay 128 = .ok (.idiv, 1) := by decide +kernel
theorem dX5_lay_129 : decode cX5_lay 129 = .ok (.istore 4, 2) := by decide +kernel
theorem dX5_lay_131 : decode cX5_lay 131 = .ok (.iload 6, 2) := by decide +kernel
theorem dX5_lay_133 : decode cX5_lay 133 = .ok (.iload_n 3, 1) := by decide +kernel
theorem dX5_lay_134 : decode cX5_lay 134 = .ok (.iload 4, 2) := by decide +kernel
theorem dX5_lay_136 : decode cX5_lay 136 = .ok (.idiv, 1) := by decide +kernel
theorem dX5_lay_137 : decode cX5_lay 137 = .ok (.aload_n 0, 1) := by decide +kernel
theorem dX5_lay_138 : decode cX5_lay 138 = .ok (.getfield 38, 3) := by decide +kernel
theorem dX5_lay_141 : decode cX5_lay 141 = .ok (.irem, 1) := by decide +kernel
theorem dX5_lay_142 : decode cX5_lay 142 = .ok (.aload_n 0, 1) := by decide +kernel
theorem dX5_lay_143 : decode cX5_lay 143 = .ok (.getfield 38, 3) := by decide +kernel
theorem dX5_lay_146 : decode cX5_lay 146 = .ok (.aload_n 0, 1) := by decide +kernel
theorem dX5_lay_147 : decode cX5_lay 147 = .ok (.getfield 42, 3) := by decide +kernel
theorem dX5_lay_150 : decode cX5_lay 150 = .ok (.iconst 1, 1) := by decide +kernel
theorem dX5_lay_151 : decode cX5_lay 151 = .ok (.isub, 1) := by decide +kernel
theorem dX5_lay_152 : decode cX5_lay 152 = .ok (.iload 7, 2) := by decide +kernel
theorem dX5_lay_154 : decode cX5_lay 154 = .ok (.isub, 1) := by decide +kernel
theorem dX5_lay_155 : decode cX5_lay 155 = .ok (.invokestatic 48, 3) := by decide +kernel
theorem dX5_lay_158 : decode cX5_lay 158 = .ok (.imul, 1) := by decide +kernel
theorem dX5_lay_159 : decode cX5_lay 159 = .ok (.iadd, 1) := by decide +kernel
theorem dX5_lay_160 : decode cX5_lay 160 = .ok (.istore 6, 2) := by decide +kernel
theorem dX5_lay_162 : decode cX5_lay 162 = .ok (.iinc 7 1, 3) := by decide +kernel
theorem dX5_lay_165 : decode cX5_lay 165 = .ok (.goto (-64), 3) := by decide +kernel
theorem dX5_lay_168 : decode cX5_lay 168 = .ok (.aload_n 0, 1) := by decide +kernel
theorem dX5_lay_169 : decode cX5_lay 169 = .ok (.getfield 13, 3) := by decide +kernel
theorem dX5_lay_172 : decode cX5_lay 172 = .ok (.iload 5, 2) := by decide +kernel
theorem dX5_lay_174 : decode cX5_lay 174 = .ok (.iload 6, 2) := by decide +kernel
theorem dX5_lay_176 : decode cX5_lay 176 = .ok (.iastore, 1) := by decide +kernel
theorem dX5_lay_177 : decode cX5_lay 177 = .ok (.iinc 5 1, 3) := by decide +kernel
theorem dX5_lay_180 : decode cX5_lay 180 = .ok (.goto (-111), 3) := by decide +kernel
theorem dX5_lay_183 : decode cX5_lay 183 = .ok (.return_, 1) := by decide +kernel
set_option maxRecDepth 20000 in
theorem ggX5_numbered_X5_isSlot : GoodIn wsX5_numbered wsX5_isSlot := goodIn_r _ [5, 6, 7, 8, 4, 9] (by decide +kernel) (by decide +kernel)
set_option maxRecDepth 20000 in
theorem gX5_numbered_X5_isSlot : GoodIn wsX5_numbered (va_wsS RX5 88 yX5_isSlot wsX5_isSlot) := goodIn_app (goodIn_of _ (by decide +kernel)) ggX5_numbered_X5_isSlot
set_option maxRecDepth 20000 in
theorem ggX5_numbered_X5_in : GoodIn wsX5_numbered wsX5_in := goodIn_r _ [9] (by decide +kernel) (by decide +kernel)
set_option maxRecDepth 20000 in
theorem gX5_numbered_X5_in : GoodIn wsX5_numbered (va_wsS RX5 58 yX5_in wsX5_in) := goodIn_app (goodIn_of _ (by decide +kernel)) ggX5_numbered_X5_in
set_option maxRecDepth 20000 in
theorem ggX5_numbered_X5_gauss : GoodIn wsX5_numbered wsX5_gauss := goodIn_r _ [13, 14, 7, 8, 4, 9, 15, 16, 17, 47, 48, 49, 50, 51, 52, 53, 54, 55, 56, 57, 58, 59, 60, 61, 62] (by decide +kernel) (by decide +kernel)
set_option maxRecDepth 20000 in
theorem gX5_numbered_X5_gauss : GoodIn wsX5_numbered (wsV RX5 112 RX5 yX5_gauss wsX5_gauss) := goodIn_app (goodIn_of _ (by decide +kernel)) ggX5_numbered_X5_gauss
set_option maxRecDepth 20000 in
theorem ggX5_numbered_X5_lay : GoodIn wsX5_numbered wsX5_lay := goodIn_r _ [21, 14, 22, 1, 23, 24, 25, 26, 27, 4, 28, 29, 30, 31, 32, 15, 16, 17, 33, 34, 35, 36, 37, 38, 39, 40, 47, 48, 49, 50, 51, 52, 53, 54, 55, 56, 57, 58, 59, 60, 61, 62] (by decide +kernel) (by decide +kernel)
set_option maxRecDepth 20000 in
theorem gX5_numbered_X5_lay : GoodIn wsX5_numbered (wsV RX5 127 RX5 yX5_lay wsX5_lay) := goodIn_app (goodIn_of _ (by decide +kernel)) ggX5_numbered_X5_lay
set_option maxRecDepth 20000 in
theorem ggX5_numbered_X5_save : GoodIn wsX5_numbered wsX5_save := goodIn_r _ [44, 45, 22, 46, 24, 47, 48, 49, 50, 51, 52, 53, 54, 55, 56, 57, 58, 59, 60, 61, 62] (by decide +kernel) (by decide +kernel)
set_option maxRecDepth 20000 in
theorem gX5_numbered_X5_save : GoodIn wsX5_numbered (wsV RX5 95 RX5 yX5_save wsX5_save) := goodIn_app (goodIn_of _ (by decide +kernel)) ggX5_numbered_X5_save
theorem dX5_numbered_0 : decode cX5_numbered 0 = .ok (.iload_n 1, 1) := by decide +kernel
theorem dX5_numbered_1 : decode cX5_numbered 1 = .ok (.invokestatic 88, 3) := by decide +kernel
theorem dX5_numbered_4 : decode cX5_numbered 4 = .ok (.ifCond .ne 6, 3) := by decide +kernel
theorem dX5_numbered_7 : decode cX5_numbered 7 = .ok (.bipush (-101), 2) := by decide +kernel
theorem dX5_numbered_9 : decode cX5_numbered 9 = .ok (.ireturn, 1) := by decide +kernel
theorem dX5_numbered_10 : decode cX5_numbered 10 = .ok (.iload_n 2, 1) := by decide +kernel
theorem dX5_numbered_11 : decode cX5_numbered 11 = .ok (.i2l, 1) := by decide +kernel
theorem dX5_numbered_12 : decode cX5_numbered 12 = .ok (.lconst 0, 1) := by decide +kernel
theorem dX5_numbered_13 : decode cX5_numbered 13 = .ok (.aload_n 0, 1) := by decide +kernel
theorem dX5_numbered_14 : decode cX5_numbered 14 = .ok (.getfield 42, 3) := by decide +kernel
theorem dX5_numbered_17 : decode cX5_numbered 17 = .ok (.i2l, 1) := by decide +kernel
theorem dX5_numbered_18 : decode cX5_numbered 18 = .ok (.invokestatic 58, 3) := by decide +kernel
theorem dX5_numbered_21 : decode cX5_numbered 21 = .ok (.ifCond .eq 24, 3) := by decide +kernel
theorem dX5_numbered_24 : decode cX5_numbered 24 = .ok (.iload_n 3, 1) := by decide +kernel
theorem dX5_numbered_25 : decode cX5_numbered 25 = .ok (.i2l, 1) := by decide +kernel
theorem dX5_numbered_26 : decode cX5_numbered 26 = .ok (.lconst 0, 1) := by decide +kernel
theorem dX5_numbered_27 : decode cX5_numbered 27 = .ok (.aload_n 0, 1) := by decide +kernel
theorem dX5_numbered_28 : decode cX5_numbered 28 = .ok (.aload_n 0, 1) := by decide +kernel
theorem dX5_numbered_29 : decode cX5_numbered 29 = .ok (.getfield 42, 3) := by decide +kernel
theorem dX5_numbered_32 : decode cX5_numbered 32 = .ok (.iload_n 2, 1) := by decide +kernel
theorem dX5_numbered_33 : decode cX5_numbered 33 = .ok (.invokevirtual 112, 3) := by decide +kernel
theorem dX5_numbered_36 : decode cX5_numbered 36 = .ok (.iconst 1, 1) := by decide +kernel
theorem dX5_numbered_37 : decode cX5_numbered 37 = .ok (.isub, 1) := by decide +kernel
theorem dX5_numbered_38 : decode cX5_numbered 38 = .ok (.i2l, 1) := by decide +kernel
theorem dX5_numbered_39 : decode cX5_numbered 39 = .ok (.invokestatic 58, 3) := by decide +kernel
theorem dX5_numbered_42 : decode cX5_numbered 42 = .ok (.ifCond .ne 6, 3) := by decide +kernel
theorem dX5_numbered_45 : decode cX5_numbered 45 = .ok (.bipush (-102), 2) := by decide +kernel
theorem dX5_numbered_47 : decode cX5_numbered 47 = .ok (.ireturn, 1) := by decide +kernel
theorem dX5_numbered_48 : decode cX5_numbered 48 = .ok (.aload_n 0, 1) := by decide +kernel
theorem dX5_numbered_49 : decode cX5_numbered 49 = .ok (.iload_n 2, 1) := by decide +kernel
theorem dX5_numbered_50 : decode cX5_numbered 50 = .ok (.iload_n 3, 1) := by decide +kernel
theorem dX5_numbered_51 : decode cX5_numbered 51 = .ok (.invokevirtual 127, 3) := by decide +kernel
theorem dX5_numbered_54 : decode cX5_numbered 54 = .ok (.aload_n 0, 1) := by decide +kernel
theorem dX5_numbered_55 : decode cX5_numbered 55 = .ok (.iload_n 1, 1) := by decide +kernel
theorem dX5_numbered_56 : decode cX5_numbered 56 = .ok (.invokevirtual 95, 3) := by decide +kernel
theorem dX5_numbered_59 : decode cX5_numbered 59 = .ok (.ireturn, 1) := by decide +kernel
set_option maxRecDepth 20000 in
theorem ggX5_over_X5_isSlot : GoodIn wsX5_over wsX5_isSlot := goodIn_r _ [6, 7, 8, 9, 5, 10] (by decide +kernel) (by decide +kernel)
set_option maxRecDepth 20000 in
theorem gX5_over_X5_isSlot : GoodIn wsX5_over (va_wsS RX5 88 yX5_isSlot wsX5_isSlot) := goodIn_app (goodIn_of _ (by decide +kernel)) ggX5_over_X5_isSlot
set_option maxRecDepth 20000 in
theorem ggX5_over_X5_in : GoodIn wsX5_over wsX5_in := goodIn_r _ [10] (by decide +kernel) (by decide +kernel)
set_option maxRecDepth 20000 in
theorem gX5_over_X5_in : GoodIn wsX5_over (va_wsS RX5 58 yX5_in wsX5_in) := goodIn_app (goodIn_of _ (by decide +kernel)) ggX5_over_X5_in
set_option maxRecDepth 20000 in
theorem ggX5_over_X5_gauss : GoodIn wsX5_over wsX5_gauss := goodIn_r _ [14, 15, 8, 9, 5, 10, 16, 17, 18, 19, 20, 21, 22, 23, 24, 25, 26, 27, 28, 29, 30, 31, 32, 33, 34] (by decide +kernel) (by decide +kernel)
set_option maxRecDepth 20000 in
theorem gX5_over_X5_gauss : GoodIn wsX5_over (wsV RX5 112 RX5 yX5_gauss wsX5_gauss) := goodIn_app (goodIn_of _ (by decide +kernel)) ggX5_over_X5_gauss
theorem dX5_over_0 : decode cX5_over 0 = .ok (.iload_n 1, 1) := by decide +kernel
theorem dX5_over_1 : decode cX5_over 1 = .ok (.invokestatic 88, 3) := by decide +kernel
theorem dX5_over_4 : decode cX5_over 4 = .ok (.ifCond .ne 6, 3) := by decide +kernel
theorem dX5_over_7 : decode cX5_over 7 = .ok (.bipush (-101), 2) := by decide +kernel
theorem dX5_over_9 : decode cX5_over 9 = .ok (.ireturn, 1) := by decide +kernel
theorem dX5_over_10 : decode cX5_over 10 = .ok (.iload_n 2, 1) := by decide +kernel
theorem dX5_over_11 : decode cX5_over 11 = .ok (.i2l, 1) := by decide +kernel
theorem dX5_over_12 : decode cX5_over 12 = .ok (.aload_n 0, 1) := by decide +kernel
theorem dX5_over_13 : decode cX5_over 13 = .ok (.getfield 20, 3) := by decide +kernel
theorem dX5_over_16 : decode cX5_over 16 = .ok (.iload_n 1, 1) := by decide +kernel
theorem dX5_over_17 : decode cX5_over 17 = .ok (.iaload, 1) := by decide +kernel
theorem dX5_over_18 : decode cX5_over 18 = .ok (.i2l, 1) := by decide +kernel
theorem dX5_over_19 : decode cX5_over 19 = .ok (.aload_n 0, 1) := by decide +kernel
theorem dX5_over_20 : decode cX5_over 20 = .ok (.getfield 42, 3) := by decide +kernel
theorem dX5_over_23 : decode cX5_over 23 = .ok (.i2l, 1) := by decide +kernel
theorem dX5_over_24 : decode cX5_over 24 = .ok (.invokestatic 58, 3) := by decide +kernel
theorem dX5_over_27 : decode cX5_over 27 = .ok (.ifCond .eq 29, 3) := by decide +kernel
theorem dX5_over_30 : decode cX5_over 30 = .ok (.aload_n 0, 1) := by decide +kernel
theorem dX5_over_31 : decode cX5_over 31 = .ok (.aload_n 0, 1) := by decide +kernel
theorem dX5_over_32 : decode cX5_over 32 = .ok (.getfield 42, 3) := by decide +kernel
theorem dX5_over_35 : decode cX5_over 35 = .ok (.aload_n 0, 1) := by decide +kernel
theorem dX5_over_36 : decode cX5_over 36 = .ok (.getfield 20, 3) := by decide +kernel
theorem dX5_over_39 : decode cX5_over 39 = .ok (.iload_n 1, 1) := by decide +kernel
theorem dX5_over_40 : decode cX5_over 40 = .ok (.iaload, 1) := by decide +kernel
theorem dX5_over_41 : decode cX5_over 41 = .ok (.isub, 1) := by decide +kernel
theorem dX5_over_42 : decode cX5_over 42 = .ok (.iload_n 2, 1) := by decide +kernel
theorem dX5_over_43 : decode cX5_over 43 = .ok (.aload_n 0, 1) := by decide +kernel
theorem dX5_over_44 : decode cX5_over 44 = .ok (.getfield 20, 3) := by decide +kernel
theorem dX5_over_47 : decode cX5_over 47 = .ok (.iload_n 1, 1) := by decide +kernel
theorem dX5_over_48 : decode cX5_over 48 = .ok (.iaload, 1) := by decide +kernel
theorem dX5_over_49 : decode cX5_over 49 = .ok (.isub, 1) := by decide +kernel
theorem dX5_over_50 : decode cX5_over 50 = .ok (.invokevirtual 112, 3) := by decide +kernel
theorem dX5_over_53 : decode cX5_over 53 = .ok (.goto 4, 3) := by decide +kernel
theorem dX5_over_56 : decode cX5_over 56 = .ok (.iconst 0, 1) := by decide +kernel
theorem dX5_over_57 : decode cX5_over 57 = .ok (.ireturn, 1) := by decide +kernel
set_option maxRecDepth 20000 in
theorem ggX5_meeting_X5_isSlot : GoodIn wsX5_meeting wsX5_isSlot := goodIn_r _ [7, 8, 9, 10, 6, 11] (by decide +kernel) (by decide +kernel)
set_option maxRecDepth 20000 in
theorem gX5_meeting_X5_isSlot : GoodIn wsX5_meeting (va_wsS RX5 88 yX5_isSlot wsX5_isSlot) := goodIn_app (goodIn_of _ (by decide +kernel)) ggX5_meeting_X5_isSlot
set_option maxRecDepth 20000 in
theorem ggX5_meeting_X5_in : GoodIn wsX5_meeting wsX5_in := goodIn_r _ [11] (by decide +kernel) (by decide +kernel)
set_option maxRecDepth 20000 in
theorem gX5_meeting_X5_in : GoodIn wsX5_meeting (va_wsS RX5 58 yX5_in wsX5_in) := goodIn_app (goodIn_of _ (by decide +kernel)) ggX5_meeting_X5_in
set_option maxRecDepth 20000 in
theorem ggX5_meeting_X5_gauss : GoodIn wsX5_meeting wsX5_gauss := goodIn_r _ [15, 3, 9, 10, 6, 11, 16, 17, 18, 19, 20, 21, 22, 23, 24, 25, 26, 27, 28, 29, 30, 31, 32, 33, 34] (by decide +kernel) (by decide +kernel)
set_option maxRecDepth 20000 in
theorem gX5_meeting_X5_gauss : GoodIn wsX5_meeting (wsV RX5 112 RX5 yX5_gauss wsX5_gauss) := goodIn_app (goodIn_of _ (by decide +kernel)) ggX5_meeting_X5_gauss
set_option maxRecDepth 20000 in
theorem ggX5_meeting_X5_power : GoodIn wsX5_meeting wsX5_power := goodIn_r _ [18] (by decide +kernel) (by decide +kernel)
set_option maxRecDepth 20000 in
theorem gX5_meeting_X5_power : GoodIn wsX5_meeting (va_wsS RX5 48 yX5_power wsX5_power) := goodIn_app (goodIn_of _ (by decide +kernel)) ggX5_meeting_X5_power
theorem dX5_meeting_0 : decode cX5_meeting 0 = .ok (.iload_n 1, 1) := by decide +kernel
theorem dX5_meeting_1 : decode cX5_meeting 1 = .ok (.invokestatic 88, 3) := by decide +kernel
theorem dX5_meeting_4 : decode cX5_meeting 4 = .ok (.ifCond .ne 6, 3) := by decide +kernel
theorem dX5_meeting_7 : decode cX5_meeting 7 = .ok (.bipush (-101), 2) := by decide +kernel
theorem dX5_meeting_9 : decode cX5_meeting 9 = .ok (.ireturn, 1) := by decide +kernel
theorem dX5_meeting_10 : decode cX5_meeting 10 = .ok (.aload_n 0, 1) := by decide +kernel
theorem dX5_meeting_11 : decode cX5_meeting 11 = .ok (.getfield 20, 3) := by decide +kernel
theorem dX5_meeting_14 : decode cX5_meeting 14 = .ok (.iload_n 1, 1) := by decide +kernel
theorem dX5_meeting_15 : decode cX5_meeting 15 = .ok (.iaload, 1) := by decide +kernel
theorem dX5_meeting_16 : decode cX5_meeting 16 = .ok (.istore 4, 2) := by decide +kernel
theorem dX5_meeting_18 : decode cX5_meeting 18 = .ok (.iload_n 2, 1) := by decide +kernel
theorem dX5_meeting_19 : decode cX5_meeting 19 = .ok (.i2l, 1) := by decide +kernel
theorem dX5_meeting_20 : decode cX5_meeting 20 = .ok (.lconst 0, 1) := by decide +kernel
theorem dX5_meeting_21 : decode cX5_meeting 21 = .ok (.aload_n 0, 1) := by decide +kernel
theorem dX5_meeting_22 : decode cX5_meeting 22 = .ok (.getfield 42, 3) := by decide +kernel
theorem dX5_meeting_25 : decode cX5_meeting 25 = .ok (.i2l, 1) := by decide +kernel
theorem dX5_meeting_26 : decode cX5_meeting 26 = .ok (.invokestatic 58, 3) := by decide +kernel
theorem dX5_meeting_29 : decode cX5_meeting 29 = .ok (.ifCond .eq 20, 3) := by decide +kernel
theorem dX5_meeting_32 : decode cX5_meeting 32 = .ok (.iload_n 3, 1) := by decide +kernel
theorem dX5_meeting_33 : decode cX5_meeting 33 = .ok (.i2l, 1) := by decide +kernel
theorem dX5_meeting_34 : decode cX5_meeting 34 = .ok (.lconst 0, 1) := by decide +kernel
theorem dX5_meeting_35 : decode cX5_meeting 35 = .ok (.iload_n 2, 1) := by decide +kernel
theorem dX5_meeting_36 : decode cX5_meeting 36 = .ok (.i2l, 1) := by decide +kernel
theorem dX5_meeting_37 : decode cX5_meeting 37 = .ok (.invokestatic 58, 3) := by decide +kernel
theorem dX5_meeting_40 : decode cX5_meeting 40 = .ok (.ifCond .eq 9, 3) := by decide +kernel
theorem dX5_meeting_43 : decode cX5_meeting 43 = .ok (.iload_n 3, 1) := by decide +kernel
theorem dX5_meeting_44 : decode cX5_meeting 44 = .ok (.iload 4, 2) := by decide +kernel
theorem dX5_meeting_46 : decode cX5_meeting 46 = .ok (.if_icmp .le 5, 3) := by decide +kernel
theorem dX5_meeting_49 : decode cX5_meeting 49 = .ok (.iconst 0, 1) := by decide +kernel
theorem dX5_meeting_50 : decode cX5_meeting 50 = .ok (.ireturn, 1) := by decide +kernel
theorem dX5_meeting_51 : decode cX5_meeting 51 = .ok (.aload_n 0, 1) := by decide +kernel
theorem dX5_meeting_52 : decode cX5_meeting 52 = .ok (.aload_n 0, 1) := by decide +kernel
theorem dX5_meeting_53 : decode cX5_meeting 53 = .ok (.getfield 42, 3) := by decide +kernel
theorem dX5_meeting_56 : decode cX5_meeting 56 = .ok (.iload 4, 2) := by decide +kernel
theorem dX5_meeting_58 : decode cX5_meeting 58 = .ok (.isub, 1) := by decide +kernel
theorem dX5_meeting_59 : decode cX5_meeting 59 = .ok (.iload_n 2, 1) := by decide +kernel
theorem dX5_meeting_60 : decode cX5_meeting 60 = .ok (.iload_n 3, 1) := by decide +kernel
theorem dX5_meeting_61 : decode cX5_meeting 61 = .ok (.isub, 1) := by decide +kernel
theorem dX5_meeting_62 : decode cX5_meeting 62 = .ok (.invokevirtual 112, 3) := by decide +kernel
theorem dX5_meeting_65 : decode cX5_meeting 65 = .ok (.istore 5, 2) := by decide +kernel
theorem dX5_meeting_67 : decode cX5_meeting 67 = .ok (.iload 5, 2) := by decide +kernel
theorem dX5_meeting_69 : decode cX5_meeting 69 = .ok (.ifCond .ne 7, 3) := by decide +kernel
theorem dX5_meeting_72 : decode cX5_meeting 72 = .ok (.iconst 0, 1) := by decide +kernel
theorem dX5_meeting_73 : decode cX5_meeting 73 = .ok (.goto 29, 3) := by decide +kernel
theorem dX5_meeting_76 : decode cX5_meeting 76 = .ok (.aload_n 0, 1) := by decide +kernel
theorem dX5_meeting_77 : decode cX5_meeting 77 = .ok (.iload 4, 2) := by decide +kernel
theorem dX5_meeting_79 : decode cX5_meeting 79 = .ok (.iload_n 3, 1) := by decide +kernel
theorem dX5_meeting_80 : decode cX5_meeting 80 = .ok (.invokevirtual 112, 3) := by decide +kernel
theorem dX5_meeting_83 : decode cX5_meeting 83 = .ok (.iload 5, 2) := by decide +kernel
theorem dX5_meeting_85 : decode cX5_meeting 85 = .ok (.imul, 1) := by decide +kernel
theorem dX5_meeting_86 : decode cX5_meeting 86 = .ok (.aload_n 0, 1) := by decide +kernel
theorem dX5_meeting_87 : decode cX5_meeting 87 = .ok (.getfield 38, 3) := by decide +kernel
theorem dX5_meeting_90 : decode cX5_meeting 90 = .ok (.iload 4, 2) := by decide +kernel
theorem dX5_meeting_92 : decode cX5_meeting 92 = .ok (.iload_n 3, 1) := by decide +kernel
theorem dX5_meeting_93 : decode cX5_meeting 93 = .ok (.isub, 1) := by decide +kernel
theorem dX5_meeting_94 : decode cX5_meeting 94 = .ok (.iload_n 2, 1) := by decide +kernel
theorem dX5_meeting_95 : decode cX5_meeting 95 = .ok (.iload_n 3, 1) := by decide +kernel
theorem dX5_meeting_96 : decode cX5_meeting 96 = .ok (.isub, 1) := by decide +kernel
theorem dX5_meeting_97 : decode cX5_meeting 97 = .ok (.imul, 1) := by decide +kernel
theorem dX5_meeting_98 : decode cX5_meeting 98 = .ok (.invokestatic 48, 3) := by decide +kernel
theorem dX5_meeting_101 : decode cX5_meeting 101 = .ok (.imul, 1) := by decide +kernel
theorem dX5_meeting_102 : decode cX5_meeting 102 = .ok (.ireturn, 1) := by decide +kernel
theorem dX5_toHeap_0 : decode cX5_toHeap 0 = .ok (.aload_n 0, 1) := by decide +kernel
theorem dX5_toHeap_1 : decode cX5_toHeap 1 = .ok (.getfield 32, 3) := by decide +kernel
theorem dX5_toHeap_4 : decode cX5_toHeap 4 = .ok (.aload_n 0, 1) := by decide +kernel
theorem dX5_toHeap_5 : decode cX5_toHeap 5 = .ok (.getfield 55, 3) := by decide +kernel
theorem dX5_toHeap_8 : decode cX5_toHeap 8 = .ok (.aload_n 0, 1) := by decide +kernel
theorem dX5_toHeap_9 : decode cX5_toHeap 9 = .ok (.getfield 76, 3) := by decide +kernel
theorem dX5_toHeap_12 : decode cX5_toHeap 12 = .ok (.iastore, 1) := by decide +kernel
theorem dX5_toHeap_13 : decode cX5_toHeap 13 = .ok (.iconst 0, 1) := by decide +kernel
theorem dX5_toHeap_14 : decode cX5_toHeap 14 = .ok (.istore_n 1, 1) := by decide +kernel
theorem dX5_toHeap_15 : decode cX5_toHeap 15 = .ok (.iload_n 1, 1) := by decide +kernel
theorem dX5_toHeap_16 : decode cX5_toHeap 16 = .ok (.aload_n 0, 1) := by decide +kernel
theorem dX5_toHeap_17 : decode cX5_toHeap 17 = .ok (.getfield 76, 3) := by decide +kernel
theorem dX5_toHeap_20 : decode cX5_toHeap 20 = .ok (.if_icmp .ge 29, 3) := by decide +kernel
theorem dX5_toHeap_23 : decode cX5_toHeap 23 = .ok (.aload_n 0, 1) := by decide +kernel
theorem dX5_toHeap_24 : decode cX5_toHeap 24 = .ok (.getfield 35, 3) := by decide +kernel
theorem dX5_toHeap_27 : decode cX5_toHeap 27 = .ok (.bipush 6, 2) := by decide +kernel
theorem dX5_toHeap_29 : decode cX5_toHeap 29 = .ok (.aload_n 0, 1) := by decide +kernel
theorem dX5_toHeap_30 : decode cX5_toHeap 30 = .ok (.getfield 55, 3) := by decide +kernel
theorem dX5_toHeap_33 : decode cX5_toHeap 33 = .ok (.imul, 1) := by decide +kernel
theorem dX5_toHeap_34 : decode cX5_toHeap 34 = .ok (.iload_n 1, 1) := by decide +kernel
theorem dX5_toHeap_35 : decode cX5_toHeap 35 = .ok (.iadd, 1) := by decide +kernel
theorem dX5_toHeap_36 : decode cX5_toHeap 36 = .ok (.aload_n 0, 1) := by decide +kernel
theorem dX5_toHeap_37 : decode cX5_toHeap 37 = .ok (.getfield 13, 3) := by decide +kernel
theorem dX5_toHeap_40 : decode cX5_toHeap 40 = .ok (.iload_n 1, 1) := by decide +kernel
theorem dX5_toHeap_41 : decode cX5_toHeap 41 = .ok (.iaload, 1) := by decide +kernel
theorem dX5_toHeap_42 : decode cX5_toHeap 42 = .ok (.iastore, 1) := by decide +kernel
theorem dX5_toHeap_43 : decode cX5_toHeap 43 = .ok (.iinc 1 1, 3) := by decide +kernel
theorem dX5_toHeap_46 : decode cX5_toHeap 46 = .ok (.goto (-31), 3) := by decide +kernel
theorem dX5_toHeap_49 : decode cX5_toHeap 49 = .ok (.aload_n 0, 1) := by decide +kernel
theorem dX5_toHeap_50 : decode cX5_toHeap 50 = .ok (.dup, 1) := by decide +kernel
theorem dX5_toHeap_51 : decode cX5_toHeap 51 = .ok (.getfield 55, 3) := by decide +kernel
theorem dX5_toHeap_54 : decode cX5_toHeap 54 = .ok (.iconst 1, 1) := by decide +kernel
theorem dX5_toHeap_55 : decode cX5_toHeap 55 = .ok (.iadd, 1) := by decide +kernel
theorem dX5_toHeap_56 : decode cX5_toHeap 56 = .ok (.putfield 55, 3) := by decide +kernel
theorem dX5_toHeap_59 : decode cX5_toHeap 59 = .ok (.return_, 1) := by decide +kernel
theorem dX5_loadHeap_0 : decode cX5_loadHeap 0 = .ok (.iconst 0, 1) := by decide +kernel
theorem dX5_loadHeap_1 : decode cX5_loadHeap 1 = .ok (.istore_n 2, 1) := by decide +kernel
theorem dX5_loadHeap_2 : decode cX5_loadHeap 2 = .ok (.iload_n 2, 1) := by decide +kernel
theorem dX5_loadHeap_3 : decode cX5_loadHeap 3 = .ok (.aload_n 0, 1) := by decide +kernel
theorem dX5_loadHeap_4 : decode cX5_loadHeap 4 = .ok (.getfield 32, 3) := by decide +kernel
theorem dX5_loadHeap_7 : decode cX5_loadHeap 7 = .ok (.iload_n 1, 1) := by decide +kernel
theorem dX5_loadHeap_8 : decode cX5_loadHeap 8 = .ok (.iaload, 1) := by decide +kernel
theorem dX5_loadHeap_9 : decode cX5_loadHeap 9 = .ok (.if_icmp .ge 39, 3) := by decide +kernel
theorem dX5_loadHeap_12 : decode cX5_loadHeap 12 = .ok (.aload_n 0, 1) := by decide +kernel
theorem dX5_loadHeap_13 : decode cX5_loadHeap 13 = .ok (.getfield 13, 3) := by decide +kernel
theorem dX5_loadHeap_16 : decode cX5_loadHeap 16 = .ok (.aload_n 0, 1) := by decide +kernel
theorem dX5_loadHeap_17 : decode cX5_loadHeap 17 = .ok (.getfield 76, 3) := by decide +kernel
theorem dX5_loadHeap_20 : decode cX5_loadHeap 20 = .ok (.aload_n 0, 1) := by decide +kernel
theorem dX5_loadHeap_21 : decode cX5_loadHeap 21 = .ok (.getfield 35, 3) := by decide +kernel
theorem dX5_loadHeap_24 : decode cX5_loadHeap 24 = .ok (.bipush 6, 2) := by decide +kernel
theorem dX5_loadHeap_26 : decode cX5_loadHeap 26 = .ok (.iload_n 1, 1) := by decide +kernel
theorem dX5_loadHeap_27 : decode cX5_loadHeap 27 = .ok (.imul, 1) := by decide +kernel
theorem dX5_loadHeap_28 : decode cX5_loadHeap 28 = .ok (.iload_n 2, 1) := by decide +kernel
theorem dX5_loadHeap_29 : decode cX5_loadHeap 29 = .ok (.iadd, 1) := by decide +kernel
theorem dX5_loadHeap_30 : decode cX5_loadHeap 30 = .ok (.iaload, 1) := by decide +kernel
theorem dX5_loadHeap_31 : decode cX5_loadHeap 31 = .ok (.iastore, 1) := by decide +kernel
theorem dX5_loadHeap_32 : decode cX5_loadHeap 32 = .ok (.aload_n 0, 1) := by decide +kernel
theorem dX5_loadHeap_33 : decode cX5_loadHeap 33 = .ok (.dup, 1) := by decide +kernel
theorem dX5_loadHeap_34 : decode cX5_loadHeap 34 = .ok (.getfield 76, 3) := by decide +kernel
theorem dX5_loadHeap_37 : decode cX5_loadHeap 37 = .ok (.iconst 1, 1) := by decide +kernel
theorem dX5_loadHeap_38 : decode cX5_loadHeap 38 = .ok (.iadd, 1) := by decide +kernel
theorem dX5_loadHeap_39 : decode cX5_loadHeap 39 = .ok (.putfield 76, 3) := by decide +kernel
theorem dX5_loadHeap_42 : decode cX5_loadHeap 42 = .ok (.iinc 2 1, 3) := by decide +kernel
theorem dX5_loadHeap_45 : decode cX5_loadHeap 45 = .ok (.goto (-43), 3) := by decide +kernel
theorem dX5_loadHeap_48 : decode cX5_loadHeap 48 = .ok (.return_, 1) := by decide +kernel
set_option maxRecDepth 20000 in
theorem ggX5_put_X5_isSlot : GoodIn wsX5_put wsX5_isSlot := goodIn_r _ [6, 7, 8, 9, 5, 10] (by decide +kernel) (by decide +kernel)
set_option maxRecDepth 20000 in
theorem gX5_put_X5_isSlot : GoodIn wsX5_put (va_wsS RX5 88 yX5_isSlot wsX5_isSlot) := goodIn_app (goodIn_of _ (by decide +kernel)) ggX5_put_X5_isSlot
set_option maxRecDepth 20000 in
theorem ggX5_put_X5_load : GoodIn wsX5_put wsX5_load := goodIn_r _ [14, 15, 16, 2, 17, 24, 25, 26, 27, 28, 29, 30, 31, 32, 33, 34, 35, 36, 37, 38, 39] (by decide +kernel) (by decide +kernel)
set_option maxRecDepth 20000 in
theorem gX5_put_X5_load : GoodIn wsX5_put (wsV RX5 91 RX5 yX5_load wsX5_load) := goodIn_app (goodIn_of _ (by decide +kernel)) ggX5_put_X5_load
set_option maxRecDepth 20000 in
theorem ggX5_put_X5_toHeap : GoodIn wsX5_put wsX5_toHeap := goodIn_r _ [21, 22, 1, 2, 23, 16, 24, 25, 26, 27, 28, 29, 30, 31, 32, 33, 34, 35, 36, 37, 38, 39] (by decide +kernel) (by decide +kernel)
set_option maxRecDepth 20000 in
theorem gX5_put_X5_toHeap : GoodIn wsX5_put (wsV RX5 131 RX5 yX5_toHeap wsX5_toHeap) := goodIn_app (goodIn_of _ (by decide +kernel)) ggX5_put_X5_toHeap
theorem dX5_put_0 : decode cX5_put 0 = .ok (.iload_n 1, 1) := by decide +kernel
theorem dX5_put_1 : decode cX5_put 1 = .ok (.invokestatic 88, 3) := by decide +kernel
theorem dX5_put_4 : decode cX5_put 4 = .ok (.ifCond .ne 6, 3) := by decide +kernel
theorem dX5_put_7 : decode cX5_put 7 = .ok (.bipush (-101), 2) := by decide +kernel
theorem dX5_put_9 : decode cX5_put 9 = .ok (.ireturn, 1) := by decide +kernel
theorem dX5_put_10 : decode cX5_put 10 = .ok (.aload_n 0, 1) := by decide +kernel
theorem dX5_put_11 : decode cX5_put 11 = .ok (.getfield 55, 3) := by decide +kernel
theorem dX5_put_14 : decode cX5_put 14 = .ok (.bipush 40, 2) := by decide +kernel
theorem dX5_put_16 : decode cX5_put 16 = .ok (.if_icmp .ne 6, 3) := by decide +kernel
theorem dX5_put_19 : decode cX5_put 19 = .ok (.bipush (-104), 2) := by decide +kernel
theorem dX5_put_21 : decode cX5_put 21 = .ok (.ireturn, 1) := by decide +kernel
theorem dX5_put_22 : decode cX5_put 22 = .ok (.aload_n 0, 1) := by decide +kernel
theorem dX5_put_23 : decode cX5_put 23 = .ok (.iconst 0, 1) := by decide +kernel
theorem dX5_put_24 : decode cX5_put 24 = .ok (.putfield 76, 3) := by decide +kernel
theorem dX5_put_27 : decode cX5_put 27 = .ok (.aload_n 0, 1) := by decide +kernel
theorem dX5_put_28 : decode cX5_put 28 = .ok (.iload_n 1, 1) := by decide +kernel
theorem dX5_put_29 : decode cX5_put 29 = .ok (.invokevirtual 91, 3) := by decide +kernel
theorem dX5_put_32 : decode cX5_put 32 = .ok (.aload_n 0, 1) := by decide +kernel
theorem dX5_put_33 : decode cX5_put 33 = .ok (.invokevirtual 131, 3) := by decide +kernel
theorem dX5_put_36 : decode cX5_put 36 = .ok (.aload_n 0, 1) := by decide +kernel
theorem dX5_put_37 : decode cX5_put 37 = .ok (.getfield 55, 3) := by decide +kernel
theorem dX5_put_40 : decode cX5_put 40 = .ok (.ireturn, 1) := by decide +kernel
theorem dX5_empty_0 : decode cX5_empty 0 = .ok (.aload_n 0, 1) := by decide +kernel
theorem dX5_empty_1 : decode cX5_empty 1 = .ok (.getfield 55, 3) := by decide +kernel
theorem dX5_empty_4 : decode cX5_empty 4 = .ok (.istore_n 1, 1) := by decide +kernel
theorem dX5_empty_5 : decode cX5_empty 5 = .ok (.aload_n 0, 1) := by decide +kernel
theorem dX5_empty_6 : decode cX5_empty 6 = .ok (.iconst 0, 1) := by decide +kernel
theorem dX5_empty_7 : decode cX5_empty 7 = .ok (.putfield 55, 3) := by decide +kernel
theorem dX5_empty_10 : decode cX5_empty 10 = .ok (.iload_n 1, 1) := by decide +kernel
theorem dX5_empty_11 : decode cX5_empty 11 = .ok (.ireturn, 1) := by decide +kernel
set_option maxRecDepth 20000 in
theorem ggX5_take_X5_isSlot : GoodIn wsX5_take wsX5_isSlot := goodIn_r _ [6, 7, 8, 9, 5, 10] (by decide +kernel) (by decide +kernel)
set_option maxRecDepth 20000 in
theorem gX5_take_X5_isSlot : GoodIn wsX5_take (va_wsS RX5 88 yX5_isSlot wsX5_isSlot) := goodIn_app (goodIn_of _ (by decide +kernel)) ggX5_take_X5_isSlot
set_option maxRecDepth 20000 in
theorem ggX5_take_X5_in : GoodIn wsX5_take wsX5_in := goodIn_r _ [10] (by decide +kernel) (by decide +kernel)
set_option maxRecDepth 20000 in
theorem gX5_take_X5_in : GoodIn wsX5_take (va_wsS RX5 58 yX5_in wsX5_in) := goodIn_app (goodIn_of _ (by decide +kernel)) ggX5_take_X5_in
set_option maxRecDepth 20000 in
theorem ggX5_take_X5_loadHeap : GoodIn wsX5_take wsX5_loadHeap := goodIn_r _ [14, 15, 16, 2, 17, 24, 25, 26, 27, 28, 29, 30, 31, 32, 33, 34, 35, 36, 37, 38, 39] (by decide +kernel) (by decide +kernel)
set_option maxRecDepth 20000 in
theorem gX5_take_X5_loadHeap : GoodIn wsX5_take (wsV RX5 134 RX5 yX5_loadHeap wsX5_loadHeap) := goodIn_app (goodIn_of _ (by decide +kernel)) ggX5_take_X5_loadHeap
set_option maxRecDepth 20000 in
theorem ggX5_take_X5_save : GoodIn wsX5_take wsX5_save := goodIn_r _ [21, 22, 2, 23, 16, 24, 25, 26, 27, 28, 29, 30, 31, 32, 33, 34, 35, 36, 37, 38, 39] (by decide +kernel) (by decide +kernel)
set_option maxRecDepth 20000 in
theorem gX5_take_X5_save : GoodIn wsX5_take (wsV RX5 95 RX5 yX5_save wsX5_save) := goodIn_app (goodIn_of _ (by decide +kernel)) ggX5_take_X5_save
theorem dX5_take_0 : decode cX5_take 0 = .ok (.iload_n 1, 1) := by decide +kernel
theorem dX5_take_1 : decode cX5_take 1 = .ok (.invokestatic 88, 3) := by decide +kernel
theorem dX5_take_4 : decode cX5_take 4 = .ok (.ifCond .eq 19, 3) := by decide +kernel
theorem dX5_take_7 : decode cX5_take 7 = .ok (.iload_n 2, 1) := by decide +kernel
theorem dX5_take_8 : decode cX5_take 8 = .ok (.i2l, 1) := by decide +kernel
theorem dX5_take_9 : decode cX5_take 9 = .ok (.lconst 0, 1) := by decide +kernel
theorem dX5_take_10 : decode cX5_take 10 = .ok (.aload_n 0, 1) := by decide +kernel
theorem dX5_take_11 : decode cX5_take 11 = .ok (.getfield 55, 3) := by decide +kernel
theorem dX5_take_14 : decode cX5_take 14 = .ok (.iconst 1, 1) := by decide +kernel
theorem dX5_take_15 : decode cX5_take 15 = .ok (.isub, 1) := by decide +kernel
theorem dX5_take_16 : decode cX5_take 16 = .ok (.i2l, 1) := by decide +kernel
theorem dX5_take_17 : decode cX5_take 17 = .ok (.invokestatic 58, 3) := by decide +kernel
theorem dX5_take_20 : decode cX5_take 20 = .ok (.ifCond .ne 6, 3) := by decide +kernel
theorem dX5_take_23 : decode cX5_take 23 = .ok (.bipush (-101), 2) := by decide +kernel
theorem dX5_take_25 : decode cX5_take 25 = .ok (.ireturn, 1) := by decide +kernel
theorem dX5_take_26 : decode cX5_take 26 = .ok (.aload_n 0, 1) := by decide +kernel
theorem dX5_take_27 : decode cX5_take 27 = .ok (.iconst 0, 1) := by decide +kernel
theorem dX5_take_28 : decode cX5_take 28 = .ok (.putfield 76, 3) := by decide +kernel
theorem dX5_take_31 : decode cX5_take 31 = .ok (.aload_n 0, 1) := by decide +kernel
theorem dX5_take_32 : decode cX5_take 32 = .ok (.iload_n 2, 1) := by decide +kernel
theorem dX5_take_33 : decode cX5_take 33 = .ok (.invokevirtual 134, 3) := by decide +kernel
theorem dX5_take_36 : decode cX5_take 36 = .ok (.aload_n 0, 1) := by decide +kernel
theorem dX5_take_37 : decode cX5_take 37 = .ok (.iload_n 1, 1) := by decide +kernel
theorem dX5_take_38 : decode cX5_take 38 = .ok (.invokevirtual 95, 3) := by decide +kernel
theorem dX5_take_41 : decode cX5_take 41 = .ok (.ireturn, 1) := by decide +kernel
set_option maxRecDepth 20000 in
theorem ggX5_least_X5_loadHeap : GoodIn wsX5_least wsX5_loadHeap := goodIn_r _ [8, 3, 9, 2, 10, 28, 29, 30, 31, 32, 33, 34, 35, 36, 37, 38, 39, 40, 41, 42, 43] (by decide +kernel) (by decide +kernel)
set_option maxRecDepth 20000 in
theorem gX5_least_X5_loadHeap : GoodIn wsX5_least (wsV RX5 134 RX5 yX5_loadHeap wsX5_loadHeap) := goodIn_app (goodIn_of _ (by decide +kernel)) ggX5_least_X5_loadHeap
set_option maxRecDepth 20000 in
theorem ggX5_least_X5_settle : GoodIn wsX5_least wsX5_settle := goodIn_r _ [14, 15, 2, 9, 16, 17, 18, 19, 7, 20, 21, 22, 23, 24, 25, 26, 27, 28, 29, 30, 31, 32, 33, 34, 35, 36, 37, 38, 39, 40, 41, 42, 43] (by decide +kernel) (by decide +kernel)
set_option maxRecDepth 20000 in
theorem gX5_least_X5_settle : GoodIn wsX5_least (wsV RX5 83 RX5 yX5_settle wsX5_settle) := goodIn_app (goodIn_of _ (by decide +kernel)) ggX5_least_X5_settle
theorem dX5_least_0 : decode cX5_least 0 = .ok (.iconst (-1), 1) := by decide +kernel
theorem dX5_least_1 : decode cX5_least 1 = .ok (.istore_n 1, 1) := by decide +kernel
theorem dX5_least_2 : decode cX5_least 2 = .ok (.iconst 0, 1) := by decide +kernel
theorem dX5_least_3 : decode cX5_least 3 = .ok (.istore_n 2, 1) := by decide +kernel
theorem dX5_least_4 : decode cX5_least 4 = .ok (.iload_n 2, 1) := by decide +kernel
theorem dX5_least_5 : decode cX5_least 5 = .ok (.aload_n 0, 1) := by decide +kernel
theorem dX5_least_6 : decode cX5_least 6 = .ok (.getfield 55, 3) := by decide +kernel
theorem dX5_least_9 : decode cX5_least 9 = .ok (.if_icmp .ge 81, 3) := by decide +kernel
theorem dX5_least_12 : decode cX5_least 12 = .ok (.iconst 0, 1) := by decide +kernel
theorem dX5_least_13 : decode cX5_least 13 = .ok (.istore_n 3, 1) := by decide +kernel
theorem dX5_least_14 : decode cX5_least 14 = .ok (.iload_n 3, 1) := by decide +kernel
theorem dX5_least_15 : decode cX5_least 15 = .ok (.iload_n 2, 1) := by decide +kernel
theorem dX5_least_16 : decode cX5_least 16 = .ok (.if_icmp .ge 68, 3) := by decide +kernel
theorem dX5_least_19 : decode cX5_least 19 = .ok (.aload_n 0, 1) := by decide +kernel
theorem dX5_least_20 : decode cX5_least 20 = .ok (.iconst 0, 1) := by decide +kernel
theorem dX5_least_21 : decode cX5_least 21 = .ok (.putfield 76, 3) := by decide +kernel
theorem dX5_least_24 : decode cX5_least 24 = .ok (.aload_n 0, 1) := by decide +kernel
theorem dX5_least_25 : decode cX5_least 25 = .ok (.iload_n 2, 1) := by decide +kernel
theorem dX5_least_26 : decode cX5_least 26 = .ok (.invokevirtual 134, 3) := by decide +kernel
theorem dX5_least_29 : decode cX5_least 29 = .ok (.aload_n 0, 1) := by decide +kernel
theorem dX5_least_30 : decode cX5_least 30 = .ok (.iload_n 3, 1) := by decide +kernel
theorem dX5_least_31 : decode cX5_least 31 = .ok (.invokevirtual 134, 3) := by decide +kernel
theorem dX5_least_34 : decode cX5_least 34 = .ok (.aload_n 0, 1) := by decide +kernel
theorem dX5_least_35 : decode cX5_least 35 = .ok (.invokevirtual 83, 3) := by decide +kernel
theorem dX5_least_38 : decode cX5_least 38 = .ok (.iconst 2, 1) := by decide +kernel
theorem dX5_least_39 : decode cX5_least 39 = .ok (.aload_n 0, 1) := by decide +kernel
theorem dX5_least_40 : decode cX5_least 40 = .ok (.getfield 76, 3) := by decide +kernel
theorem dX5_least_43 : decode cX5_least 43 = .ok (.imul, 1) := by decide +kernel
theorem dX5_least_44 : decode cX5_least 44 = .ok (.aload_n 0, 1) := by decide +kernel
theorem dX5_least_45 : decode cX5_least 45 = .ok (.getfield 32, 3) := by decide +kernel
theorem dX5_least_48 : decode cX5_least 48 = .ok (.iload_n 2, 1) := by decide +kernel
theorem dX5_least_49 : decode cX5_least 49 = .ok (.iaload, 1) := by decide +kernel
theorem dX5_least_50 : decode cX5_least 50 = .ok (.isub, 1) := by decide +kernel
theorem dX5_least_51 : decode cX5_least 51 = .ok (.aload_n 0, 1) := by decide +kernel
theorem dX5_least_52 : decode cX5_least 52 = .ok (.getfield 32, 3) := by decide +kernel
theorem dX5_least_55 : decode cX5_least 55 = .ok (.iload_n 3, 1) := by decide +kernel
theorem dX5_least_56 : decode cX5_least 56 = .ok (.iaload, 1) := by decide +kernel
theorem dX5_least_57 : decode cX5_least 57 = .ok (.isub, 1) := by decide +kernel
theorem dX5_least_58 : decode cX5_least 58 = .ok (.istore 4, 2) := by decide +kernel
theorem dX5_least_60 : decode cX5_least 60 = .ok (.iload_n 1, 1) := by decide +kernel
theorem dX5_least_61 : decode cX5_least 61 = .ok (.iconst (-1), 1) := by decide +kernel
theorem dX5_least_62 : decode cX5_least 62 = .ok (.if_icmp .eq 9, 3) := by decide +kernel
theorem dX5_least_65 : decode cX5_least 65 = .ok (.iload 4, 2) := by decide +kernel
theorem dX5_least_67 : decode cX5_least 67 = .ok (.iload_n 1, 1) := by decide +kernel
theorem dX5_least_68 : decode cX5_least 68 = .ok (.if_icmp .ge 8, 3) := by decide +kernel
theorem dX5_least_71 : decode cX5_least 71 = .ok (.iload 4, 2) := by decide +kernel
theorem dX5_least_73 : decode cX5_least 73 = .ok (.goto 4, 3) := by decide +kernel
theorem dX5_least_76 : decode cX5_least 76 = .ok (.iload_n 1, 1) := by decide +kernel
theorem dX5_least_77 : decode cX5_least 77 = .ok (.istore_n 1, 1) := by decide +kernel
theorem dX5_least_78 : decode cX5_least 78 = .ok (.iinc 3 1, 3) := by decide +kernel
theorem dX5_least_81 : decode cX5_least 81 = .ok (.goto (-67), 3) := by decide +kernel
theorem dX5_least_84 : decode cX5_least 84 = .ok (.iinc 2 1, 3) := by decide +kernel
theorem dX5_least_87 : decode cX5_least 87 = .ok (.goto (-83), 3) := by decide +kernel
theorem dX5_least_90 : decode cX5_least 90 = .ok (.iload_n 1, 1) := by decide +kernel
theorem dX5_least_91 : decode cX5_least 91 = .ok (.ireturn, 1) := by decide +kernel
set_option maxRecDepth 20000 in
theorem ggX5_bare_X5_pivot : GoodIn wsX5_bare wsX5_pivot := goodIn_r _ [10, 11, 12, 13, 9, 14, 5, 15, 16, 17, 18, 23, 24, 25, 26, 27, 28, 29, 30, 31, 32, 33, 34, 35, 36, 37, 38] (by decide +kernel) (by decide +kernel)
set_option maxRecDepth 20000 in
theorem gX5_bare_X5_pivot : GoodIn wsX5_bare (wsV RX5 79 RX5 yX5_pivot wsX5_pivot) := goodIn_app (goodIn_of _ (by decide +kernel)) ggX5_bare_X5_pivot
set_option maxRecDepth 20000 in
theorem ggX5_bare_X5_figure : GoodIn wsX5_bare wsX5_figure := goodIn_r _ [14, 5, 15, 16, 17, 9, 18, 23, 24, 25, 26, 27, 28, 29, 30, 31, 32, 33, 34, 35, 36, 37, 38] (by decide +kernel) (by decide +kernel)
set_option maxRecDepth 20000 in
theorem gX5_bare_X5_figure : GoodIn wsX5_bare (wsV RX5 62 RX5 yX5_figure wsX5_figure) := goodIn_app (goodIn_of _ (by decide +kernel)) ggX5_bare_X5_figure
set_option maxRecDepth 20000 in
theorem ggX5_bare_X5_sum : GoodIn wsX5_bare wsX5_sum := goodIn_r _ [22, 15, 5, 11, 12, 13, 9, 14, 16, 17, 18, 23, 24, 25, 26, 27, 28, 29, 30, 31, 32, 33, 34, 35, 36, 37, 38] (by decide +kernel) (by decide +kernel)
set_option maxRecDepth 20000 in
theorem gX5_bare_X5_sum : GoodIn wsX5_bare (wsV RX5 69 RX5 yX5_sum wsX5_sum) := goodIn_app (goodIn_of _ (by decide +kernel)) ggX5_bare_X5_sum
theorem dX5_bare_0 : decode cX5_bare 0 = .ok (.iconst 0, 1) := by decide +kernel
theorem dX5_bare_1 : decode cX5_bare 1 = .ok (.istore_n 1, 1) := by decide +kernel
theorem dX5_bare_2 : decode cX5_bare 2 = .ok (.iconst 0, 1) := by decide +kernel
theorem dX5_bare_3 : decode cX5_bare 3 = .ok (.istore_n 2, 1) := by decide +kernel
theorem dX5_bare_4 : decode cX5_bare 4 = .ok (.iload_n 2, 1) := by decide +kernel
theorem dX5_bare_5 : decode cX5_bare 5 = .ok (.aload_n 0, 1) := by decide +kernel
theorem dX5_bare_6 : decode cX5_bare 6 = .ok (.getfield 52, 3) := by decide +kernel
theorem dX5_bare_9 : decode cX5_bare 9 = .ok (.if_icmp .ge 127, 3) := by decide +kernel
theorem dX5_bare_12 : decode cX5_bare 12 = .ok (.iconst 1, 1) := by decide +kernel
theorem dX5_bare_13 : decode cX5_bare 13 = .ok (.istore_n 3, 1) := by decide +kernel
theorem dX5_bare_14 : decode cX5_bare 14 = .ok (.iconst 0, 1) := by decide +kernel
theorem dX5_bare_15 : decode cX5_bare 15 = .ok (.istore 4, 2) := by decide +kernel
theorem dX5_bare_17 : decode cX5_bare 17 = .ok (.iload 4, 2) := by decide +kernel
theorem dX5_bare_19 : decode cX5_bare 19 = .ok (.aload_n 0, 1) := by decide +kernel
theorem dX5_bare_20 : decode cX5_bare 20 = .ok (.getfield 55, 3) := by decide +kernel
theorem dX5_bare_23 : decode cX5_bare 23 = .ok (.if_icmp .ge 95, 3) := by decide +kernel
theorem dX5_bare_26 : decode cX5_bare 26 = .ok (.iload_n 3, 1) := by decide +kernel
theorem dX5_bare_27 : decode cX5_bare 27 = .ok (.ifCond .eq 91, 3) := by decide +kernel
theorem dX5_bare_30 : decode cX5_bare 30 = .ok (.iload_n 2, 1) := by decide +kernel
theorem dX5_bare_31 : decode cX5_bare 31 = .ok (.istore 5, 2) := by decide +kernel
theorem dX5_bare_33 : decode cX5_bare 33 = .ok (.iconst 0, 1) := by decide +kernel
theorem dX5_bare_34 : decode cX5_bare 34 = .ok (.istore 6, 2) := by decide +kernel
theorem dX5_bare_36 : decode cX5_bare 36 = .ok (.iload 6, 2) := by decide +kernel
theorem dX5_bare_38 : decode cX5_bare 38 = .ok (.aload_n 0, 1) := by decide +kernel
theorem dX5_bare_39 : decode cX5_bare 39 = .ok (.getfield 32, 3) := by decide +kernel
theorem dX5_bare_42 : decode cX5_bare 42 = .ok (.iload 4, 2) := by decide +kernel
theorem dX5_bare_44 : decode cX5_bare 44 = .ok (.iaload, 1) := by decide +kernel
theorem dX5_bare_45 : decode cX5_bare 45 = .ok (.if_icmp .ge 56, 3) := by decide +kernel
theorem dX5_bare_48 : decode cX5_bare 48 = .ok (.aload_n 0, 1) := by decide +kernel
theorem dX5_bare_49 : decode cX5_bare 49 = .ok (.getfield 35, 3) := by decide +kernel
theorem dX5_bare_52 : decode cX5_bare 52 = .ok (.bipush 6, 2) := by decide +kernel
theorem dX5_bare_54 : decode cX5_bare 54 = .ok (.iload 4, 2) := by decide +kernel
theorem dX5_bare_56 : decode cX5_bare 56 = .ok (.imul, 1) := by decide +kernel
theorem dX5_bare_57 : decode cX5_bare 57 = .ok (.iload 6, 2) := by decide +kernel
theorem dX5_bare_59 : decode cX5_bare 59 = .ok (.iadd, 1) := by decide +kernel
theorem dX5_bare_60 : decode cX5_bare 60 = .ok (.iaload, 1) := by decide +kernel
theorem dX5_bare_61 : decode cX5_bare 61 = .ok (.istore 7, 2) := by decide +kernel
theorem dX5_bare_63 : decode cX5_bare 63 = .ok (.aload_n 0, 1) := by decide +kernel
theorem dX5_bare_64 : decode cX5_bare 64 = .ok (.iload 5, 2) := by decide +kernel
theorem dX5_bare_66 : decode cX5_bare 66 = .ok (.iload 7, 2) := by decide +kernel
theorem dX5_bare_68 : decode cX5_bare 68 = .ok (.aload_n 0, 1) := by decide +kernel
theorem dX5_bare_69 : decode cX5_bare 69 = .ok (.getfield 38, 3) := by decide +kernel
theorem dX5_bare_72 : decode cX5_bare 72 = .ok (.aload_n 0, 1) := by decide +kernel
theorem dX5_bare_73 : decode cX5_bare 73 = .ok (.iload 5, 2) := by decide +kernel
theorem dX5_bare_75 : decode cX5_bare 75 = .ok (.aload_n 0, 1) := by decide +kernel
theorem dX5_bare_76 : decode cX5_bare 76 = .ok (.iload 7, 2) := by decide +kernel
theorem dX5_bare_78 : decode cX5_bare 78 = .ok (.invokevirtual 79, 3) := by decide +kernel
theorem dX5_bare_81 : decode cX5_bare 81 = .ok (.invokevirtual 62, 3) := by decide +kernel
theorem dX5_bare_84 : decode cX5_bare 84 = .ok (.isub, 1) := by decide +kernel
theorem dX5_bare_85 : decode cX5_bare 85 = .ok (.aload_n 0, 1) := by decide +kernel
theorem dX5_bare_86 : decode cX5_bare 86 = .ok (.getfield 38, 3) := by decide +kernel
theorem dX5_bare_89 : decode cX5_bare 89 = .ok (.irem, 1) := by decide +kernel
theorem dX5_bare_90 : decode cX5_bare 90 = .ok (.invokevirtual 69, 3) := by decide +kernel
theorem dX5_bare_93 : decode cX5_bare 93 = .ok (.istore 5, 2) := by decide +kernel
theorem dX5_bare_95 : decode cX5_bare 95 = .ok (.iinc 6 1, 3) := by decide +kernel
theorem dX5_bare_98 : decode cX5_bare 98 = .ok (.goto (-62), 3) := by decide +kernel
theorem dX5_bare_101 : decode cX5_bare 101 = .ok (.iload 5, 2) := by decide +kernel
theorem dX5_bare_103 : decode cX5_bare 103 = .ok (.ifCond .eq 7, 3) := by decide +kernel
theorem dX5_bare_106 : decode cX5_bare 106 = .ok (.iconst 1, 1) := by decide +kernel
theorem dX5_bare_107 : decode cX5_bare 107 = .ok (.goto 4, 3) := by decide +kernel
theorem dX5_bare_110 : decode cX5_bare 110 = .ok (.iconst 0, 1) := by decide +kernel
theorem dX5_bare_111 : decode cX5_bare 111 = .ok (.istore_n 3, 1) := by decide +kernel
theorem dX5_bare_112 : decode cX5_bare 112 = .ok (.iinc 4 1, 3) := by decide +kernel
theorem dX5_bare_115 : decode cX5_bare 115 = .ok (.goto (-98), 3) := by decide +kernel
theorem dX5_bare_118 : decode cX5_bare 118 = .ok (.iload_n 1, 1) := by decide +kernel
theorem dX5_bare_119 : decode cX5_bare 119 = .ok (.iload_n 3, 1) := by decide +kernel
theorem dX5_bare_120 : decode cX5_bare 120 = .ok (.ifCond .eq 7, 3) := by decide +kernel
theorem dX5_bare_123 : decode cX5_bare 123 = .ok (.iconst 1, 1) := by decide +kernel
theorem dX5_bare_124 : decode cX5_bare 124 = .ok (.goto 4, 3) := by decide +kernel
theorem dX5_bare_127 : decode cX5_bare 127 = .ok (.iconst 0, 1) := by decide +kernel
theorem dX5_bare_128 : decode cX5_bare 128 = .ok (.iadd, 1) := by decide +kernel
theorem dX5_bare_129 : decode cX5_bare 129 = .ok (.istore_n 1, 1) := by decide +kernel
theorem dX5_bare_130 : decode cX5_bare 130 = .ok (.iinc 2 1, 3) := by decide +kernel
theorem dX5_bare_133 : decode cX5_bare 133 = .ok (.goto (-129), 3) := by decide +kernel
theorem dX5_bare_136 : decode cX5_bare 136 = .ok (.iload_n 1, 1) := by decide +kernel
theorem dX5_bare_137 : decode cX5_bare 137 = .ok (.ireturn, 1) := by decide +kernel
set_option maxRecDepth 20000 in
theorem ggX5_greedy_X5_in : GoodIn wsX5_greedy wsX5_in := goodIn_r _ [9] (by decide +kernel) (by decide +kernel)
set_option maxRecDepth 20000 in
theorem gX5_greedy_X5_in : GoodIn wsX5_greedy (va_wsS RX5 58 yX5_in wsX5_in) := goodIn_app (goodIn_of _ (by decide +kernel)) ggX5_greedy_X5_in
set_option maxRecDepth 20000 in
theorem ggX5_greedy_X5_gauss : GoodIn wsX5_greedy wsX5_gauss := goodIn_r _ [13, 14, 6, 7, 8, 9, 15, 16, 17, 62, 63, 64, 65, 66, 67, 68, 69, 70, 71, 72, 73, 74, 75, 76, 77] (by decide +kernel) (by decide +kernel)
set_option maxRecDepth 20000 in
theorem gX5_greedy_X5_gauss : GoodIn wsX5_greedy (wsV RX5 112 RX5 yX5_gauss wsX5_gauss) := goodIn_app (goodIn_of _ (by decide +kernel)) ggX5_greedy_X5_gauss
set_option maxRecDepth 20000 in
theorem ggX5_greedy_X5_lay : GoodIn wsX5_greedy wsX5_lay := goodIn_r _ [21, 14, 5, 1, 22, 23, 24, 25, 26, 8, 27, 28, 29, 30, 31, 15, 16, 17, 32, 33, 34, 35, 36, 37, 38, 39, 62, 63, 64, 65, 66, 67, 68, 69, 70, 71, 72, 73, 74, 75, 76, 77] (by decide +kernel) (by decide +kernel)
set_option maxRecDepth 20000 in
theorem gX5_greedy_X5_lay : GoodIn wsX5_greedy (wsV RX5 127 RX5 yX5_lay wsX5_lay) := goodIn_app (goodIn_of _ (by decide +kernel)) ggX5_greedy_X5_lay
set_option maxRecDepth 20000 in
theorem ggX5_greedy_X5_loadHeap : GoodIn wsX5_greedy wsX5_loadHeap := goodIn_r _ [43, 44, 23, 5, 45, 62, 63, 64, 65, 66, 67, 68, 69, 70, 71, 72, 73, 74, 75, 76, 77] (by decide +kernel) (by decide +kernel)
set_option maxRecDepth 20000 in
theorem gX5_greedy_X5_loadHeap : GoodIn wsX5_greedy (wsV RX5 134 RX5 yX5_loadHeap wsX5_loadHeap) := goodIn_app (goodIn_of _ (by decide +kernel)) ggX5_greedy_X5_loadHeap
set_option maxRecDepth 20000 in
theorem ggX5_greedy_X5_settle : GoodIn wsX5_greedy wsX5_settle := goodIn_r _ [49, 1, 5, 23, 14, 50, 51, 52, 8, 53, 15, 16, 17, 54, 55, 56, 57, 62, 63, 64, 65, 66, 67, 68, 69, 70, 71, 72, 73, 74, 75, 76, 77] (by decide +kernel) (by decide +kernel)
set_option maxRecDepth 20000 in
theorem gX5_greedy_X5_settle : GoodIn wsX5_greedy (wsV RX5 83 RX5 yX5_settle wsX5_settle) := goodIn_app (goodIn_of _ (by decide +kernel)) ggX5_greedy_X5_settle
set_option maxRecDepth 20000 in
theorem ggX5_greedy_X5_toHeap : GoodIn wsX5_greedy wsX5_toHeap := goodIn_r _ [61, 44, 4, 5, 45, 23, 62, 63, 64, 65, 66, 67, 68, 69, 70, 71, 72, 73, 74, 75, 76, 77] (by decide +kernel) (by decide +kernel)
set_option maxRecDepth 20000 in
theorem gX5_greedy_X5_toHeap : GoodIn wsX5_greedy (wsV RX5 131 RX5 yX5_toHeap wsX5_toHeap) := goodIn_app (goodIn_of _ (by decide +kernel)) ggX5_greedy_X5_toHeap
theorem dX5_greedy_0 : decode cX5_greedy 0 = .ok (.iload_n 1, 1) := by decide +kernel
theorem dX5_greedy_1 : decode cX5_greedy 1 = .ok (.i2l, 1) := by decide +kernel
theorem dX5_greedy_2 : decode cX5_greedy 2 = .ok (.lconst 0, 1) := by decide +kernel
theorem dX5_greedy_3 : decode cX5_greedy 3 = .ok (.aload_n 0, 1) := by decide +kernel
theorem dX5_greedy_4 : decode cX5_greedy 4 = .ok (.getfield 42, 3) := by decide +kernel
theorem dX5_greedy_7 : decode cX5_greedy 7 = .ok (.i2l, 1) := by decide +kernel
theorem dX5_greedy_8 : decode cX5_greedy 8 = .ok (.invokestatic 58, 3) := by decide +kernel
theorem dX5_greedy_11 : decode cX5_greedy 11 = .ok (.ifCond .eq 15, 3) := by decide +kernel
theorem dX5_greedy_14 : decode cX5_greedy 14 = .ok (.iload_n 2, 1) := by decide +kernel
theorem dX5_greedy_15 : decode cX5_greedy 15 = .ok (.i2l, 1) := by decide +kernel
theorem dX5_greedy_16 : decode cX5_greedy 16 = .ok (.lconst 1, 1) := by decide +kernel
theorem dX5_greedy_17 : decode cX5_greedy 17 = .ok (.ldc2_w 137, 3) := by decide +kernel
theorem dX5_greedy_20 : decode cX5_greedy 20 = .ok (.invokestatic 58, 3) := by decide +kernel
theorem dX5_greedy_23 : decode cX5_greedy 23 = .ok (.ifCond .ne 6, 3) := by decide +kernel
theorem dX5_greedy_26 : decode cX5_greedy 26 = .ok (.bipush (-102), 2) := by decide +kernel
theorem dX5_greedy_28 : decode cX5_greedy 28 = .ok (.ireturn, 1) := by decide +kernel
theorem dX5_greedy_29 : decode cX5_greedy 29 = .ok (.aload_n 0, 1) := by decide +kernel
theorem dX5_greedy_30 : decode cX5_greedy 30 = .ok (.getfield 139, 3) := by decide +kernel
theorem dX5_greedy_33 : decode cX5_greedy 33 = .ok (.bipush 10, 2) := by decide +kernel
theorem dX5_greedy_35 : decode cX5_greedy 35 = .ok (.if_icmp .ne 6, 3) := by decide +kernel
theorem dX5_greedy_38 : decode cX5_greedy 38 = .ok (.bipush (-103), 2) := by decide +kernel
theorem dX5_greedy_40 : decode cX5_greedy 40 = .ok (.ireturn, 1) := by decide +kernel
theorem dX5_greedy_41 : decode cX5_greedy 41 = .ok (.aload_n 0, 1) := by decide +kernel
theorem dX5_greedy_42 : decode cX5_greedy 42 = .ok (.dup, 1) := by decide +kernel
theorem dX5_greedy_43 : decode cX5_greedy 43 = .ok (.getfield 139, 3) := by decide +kernel
theorem dX5_greedy_46 : decode cX5_greedy 46 = .ok (.iconst 1, 1) := by decide +kernel
theorem dX5_greedy_47 : decode cX5_greedy 47 = .ok (.iadd, 1) := by decide +kernel
theorem dX5_greedy_48 : decode cX5_greedy 48 = .ok (.putfield 139, 3) := by decide +kernel
theorem dX5_greedy_51 : decode cX5_greedy 51 = .ok (.aload_n 0, 1) := by decide +kernel
theorem dX5_greedy_52 : decode cX5_greedy 52 = .ok (.iconst 0, 1) := by decide +kernel
theorem dX5_greedy_53 : decode cX5_greedy 53 = .ok (.putfield 55, 3) := by decide +kernel
theorem dX5_greedy_56 : decode cX5_greedy 56 = .ok (.aload_n 0, 1) := by decide +kernel
theorem dX5_greedy_57 : decode cX5_greedy 57 = .ok (.aload_n 0, 1) := by decide +kernel
theorem dX5_greedy_58 : decode cX5_greedy 58 = .ok (.getfield 42, 3) := by decide +kernel
theorem dX5_greedy_61 : decode cX5_greedy 61 = .ok (.iload_n 1, 1) := by decide +kernel
theorem dX5_greedy_62 : decode cX5_greedy 62 = .ok (.invokevirtual 112, 3) := by decide +kernel
end
section
theorem dX5_greedy_65 : decode cX5_greedy 65 = .ok (.istore_n 3, 1) := by decide +kernel
theorem dX5_greedy_66 : decode cX5_greedy 66 = .ok (.iconst 0, 1) := by decide +kernel
theorem dX5_greedy_67 : decode cX5_greedy 67 = .ok (.istore 4, 2) := by decide +kernel
theorem dX5_greedy_69 : decode cX5_greedy 69 = .ok (.iload 4, 2) := by decide +kernel
theorem dX5_greedy_71 : decode cX5_greedy 71 = .ok (.iload_n 3, 1) := by decide +kernel
theorem dX5_greedy_72 : decode cX5_greedy 72 = .ok (.if_icmp .ge 98, 3) := by decide +kernel
theorem dX5_greedy_75 : decode cX5_greedy 75 = .ok (.aload_n 0, 1) := by decide +kernel
theorem dX5_greedy_76 : decode cX5_greedy 76 = .ok (.getfield 55, 3) := by decide +kernel
theorem dX5_greedy_79 : decode cX5_greedy 79 = .ok (.bipush 40, 2) := by decide +kernel
theorem dX5_greedy_81 : decode cX5_greedy 81 = .ok (.if_icmp .ge 89, 3) := by decide +kernel
theorem dX5_greedy_84 : decode cX5_greedy 84 = .ok (.iconst 1, 1) := by decide +kernel
theorem dX5_greedy_85 : decode cX5_greedy 85 = .ok (.istore 5, 2) := by decide +kernel
theorem dX5_greedy_87 : decode cX5_greedy 87 = .ok (.iconst 0, 1) := by decide +kernel
theorem dX5_greedy_88 : decode cX5_greedy 88 = .ok (.istore 6, 2) := by decide +kernel
theorem dX5_greedy_90 : decode cX5_greedy 90 = .ok (.iload 6, 2) := by decide +kernel
theorem dX5_greedy_92 : decode cX5_greedy 92 = .ok (.aload_n 0, 1) := by decide +kernel
theorem dX5_greedy_93 : decode cX5_greedy 93 = .ok (.getfield 55, 3) := by decide +kernel
theorem dX5_greedy_96 : decode cX5_greedy 96 = .ok (.if_icmp .ge 52, 3) := by decide +kernel
theorem dX5_greedy_99 : decode cX5_greedy 99 = .ok (.iload 5, 2) := by decide +kernel
theorem dX5_greedy_101 : decode cX5_greedy 101 = .ok (.ifCond .eq 47, 3) := by decide +kernel
theorem dX5_greedy_104 : decode cX5_greedy 104 = .ok (.aload_n 0, 1) := by decide +kernel
theorem dX5_greedy_105 : decode cX5_greedy 105 = .ok (.iload_n 1, 1) := by decide +kernel
theorem dX5_greedy_106 : decode cX5_greedy 106 = .ok (.iload 4, 2) := by decide +kernel
theorem dX5_greedy_108 : decode cX5_greedy 108 = .ok (.invokevirtual 127, 3) := by decide +kernel
theorem dX5_greedy_111 : decode cX5_greedy 111 = .ok (.aload_n 0, 1) := by decide +kernel
theorem dX5_greedy_112 : decode cX5_greedy 112 = .ok (.iload 6, 2) := by decide +kernel
theorem dX5_greedy_114 : decode cX5_greedy 114 = .ok (.invokevirtual 134, 3) := by decide +kernel
theorem dX5_greedy_117 : decode cX5_greedy 117 = .ok (.aload_n 0, 1) := by decide +kernel
theorem dX5_greedy_118 : decode cX5_greedy 118 = .ok (.invokevirtual 83, 3) := by decide +kernel
theorem dX5_greedy_121 : decode cX5_greedy 121 = .ok (.iconst 2, 1) := by decide +kernel
theorem dX5_greedy_122 : decode cX5_greedy 122 = .ok (.aload_n 0, 1) := by decide +kernel
theorem dX5_greedy_123 : decode cX5_greedy 123 = .ok (.getfield 76, 3) := by decide +kernel
theorem dX5_greedy_126 : decode cX5_greedy 126 = .ok (.imul, 1) := by decide +kernel
theorem dX5_greedy_127 : decode cX5_greedy 127 = .ok (.iconst 2, 1) := by decide +kernel
theorem dX5_greedy_128 : decode cX5_greedy 128 = .ok (.iload_n 1, 1) := by decide +kernel
theorem dX5_greedy_129 : decode cX5_greedy 129 = .ok (.imul, 1) := by decide +kernel
theorem dX5_greedy_130 : decode cX5_greedy 130 = .ok (.isub, 1) := by decide +kernel
theorem dX5_greedy_131 : decode cX5_greedy 131 = .ok (.iload_n 2, 1) := by decide +kernel
theorem dX5_greedy_132 : decode cX5_greedy 132 = .ok (.if_icmp .lt 7, 3) := by decide +kernel
theorem dX5_greedy_135 : decode cX5_greedy 135 = .ok (.iconst 1, 1) := by decide +kernel
theorem dX5_greedy_136 : decode cX5_greedy 136 = .ok (.goto 4, 3) := by decide +kernel
theorem dX5_greedy_139 : decode cX5_greedy 139 = .ok (.iconst 0, 1) := by decide +kernel
theorem dX5_greedy_140 : decode cX5_greedy 140 = .ok (.istore 5, 2) := by decide +kernel
theorem dX5_greedy_142 : decode cX5_greedy 142 = .ok (.iinc 6 1, 3) := by decide +kernel
theorem dX5_greedy_145 : decode cX5_greedy 145 = .ok (.goto (-55), 3) := by decide +kernel
theorem dX5_greedy_148 : decode cX5_greedy 148 = .ok (.iload 5, 2) := by decide +kernel
theorem dX5_greedy_150 : decode cX5_greedy 150 = .ok (.ifCond .eq 14, 3) := by decide +kernel
theorem dX5_greedy_153 : decode cX5_greedy 153 = .ok (.aload_n 0, 1) := by decide +kernel
theorem dX5_greedy_154 : decode cX5_greedy 154 = .ok (.iload_n 1, 1) := by decide +kernel
theorem dX5_greedy_155 : decode cX5_greedy 155 = .ok (.iload 4, 2) := by decide +kernel
theorem dX5_greedy_157 : decode cX5_greedy 157 = .ok (.invokevirtual 127, 3) := by decide +kernel
theorem dX5_greedy_160 : decode cX5_greedy 160 = .ok (.aload_n 0, 1) := by decide +kernel
theorem dX5_greedy_161 : decode cX5_greedy 161 = .ok (.invokevirtual 131, 3) := by decide +kernel
theorem dX5_greedy_164 : decode cX5_greedy 164 = .ok (.iinc 4 1, 3) := by decide +kernel
theorem dX5_greedy_167 : decode cX5_greedy 167 = .ok (.goto (-98), 3) := by decide +kernel
theorem dX5_greedy_170 : decode cX5_greedy 170 = .ok (.aload_n 0, 1) := by decide +kernel
theorem dX5_greedy_171 : decode cX5_greedy 171 = .ok (.getfield 55, 3) := by decide +kernel
theorem dX5_greedy_174 : decode cX5_greedy 174 = .ok (.ireturn, 1) := by decide +kernel
set_option maxRecDepth 20000 in
theorem ggX5_image_X5_in : GoodIn wsX5_image wsX5_in := goodIn_r _ [6] (by decide +kernel) (by decide +kernel)
set_option maxRecDepth 20000 in
theorem gX5_image_X5_in : GoodIn wsX5_image (va_wsS RX5 58 yX5_in wsX5_in) := goodIn_app (goodIn_of _ (by decide +kernel)) ggX5_image_X5_in
set_option maxRecDepth 20000 in
theorem ggX5_image_X5_isVector : GoodIn wsX5_image wsX5_isVector := goodIn_r _ [10, 11, 3, 4, 5, 6, 12, 13, 14, 15, 16, 17, 18, 19, 20, 21, 22, 23, 24, 25, 26, 27] (by decide +kernel) (by decide +kernel)
set_option maxRecDepth 20000 in
theorem gX5_image_X5_isVector : GoodIn wsX5_image (wsV RX5 65 RX5 yX5_isVector wsX5_isVector) := goodIn_app (goodIn_of _ (by decide +kernel)) ggX5_image_X5_isVector
theorem dX5_image_0 : decode cX5_image 0 = .ok (.iload_n 1, 1) := by decide +kernel
theorem dX5_image_1 : decode cX5_image 1 = .ok (.i2l, 1) := by decide +kernel
theorem dX5_image_2 : decode cX5_image 2 = .ok (.lconst 0, 1) := by decide +kernel
theorem dX5_image_3 : decode cX5_image 3 = .ok (.aload_n 0, 1) := by decide +kernel
theorem dX5_image_4 : decode cX5_image 4 = .ok (.getfield 42, 3) := by decide +kernel
theorem dX5_image_7 : decode cX5_image 7 = .ok (.iconst 1, 1) := by decide +kernel
theorem dX5_image_8 : decode cX5_image 8 = .ok (.isub, 1) := by decide +kernel
theorem dX5_image_9 : decode cX5_image 9 = .ok (.i2l, 1) := by decide +kernel
theorem dX5_image_10 : decode cX5_image 10 = .ok (.invokestatic 58, 3) := by decide +kernel
theorem dX5_image_13 : decode cX5_image 13 = .ok (.ifCond .eq 11, 3) := by decide +kernel
theorem dX5_image_16 : decode cX5_image 16 = .ok (.aload_n 0, 1) := by decide +kernel
theorem dX5_image_17 : decode cX5_image 17 = .ok (.iload_n 2, 1) := by decide +kernel
theorem dX5_image_18 : decode cX5_image 18 = .ok (.invokevirtual 65, 3) := by decide +kernel
theorem dX5_image_21 : decode cX5_image 21 = .ok (.ifCond .ne 6, 3) := by decide +kernel
theorem dX5_image_24 : decode cX5_image 24 = .ok (.bipush (-101), 2) := by decide +kernel
theorem dX5_image_26 : decode cX5_image 26 = .ok (.ireturn, 1) := by decide +kernel
theorem dX5_image_27 : decode cX5_image 27 = .ok (.aload_n 0, 1) := by decide +kernel
theorem dX5_image_28 : decode cX5_image 28 = .ok (.getfield 7, 3) := by decide +kernel
theorem dX5_image_31 : decode cX5_image 31 = .ok (.iload_n 1, 1) := by decide +kernel
theorem dX5_image_32 : decode cX5_image 32 = .ok (.iaload, 1) := by decide +kernel
theorem dX5_image_33 : decode cX5_image 33 = .ok (.istore_n 3, 1) := by decide +kernel
theorem dX5_image_34 : decode cX5_image 34 = .ok (.aload_n 0, 1) := by decide +kernel
theorem dX5_image_35 : decode cX5_image 35 = .ok (.getfield 7, 3) := by decide +kernel
theorem dX5_image_38 : decode cX5_image 38 = .ok (.iload_n 1, 1) := by decide +kernel
theorem dX5_image_39 : decode cX5_image 39 = .ok (.iload_n 2, 1) := by decide +kernel
theorem dX5_image_40 : decode cX5_image 40 = .ok (.iastore, 1) := by decide +kernel
theorem dX5_image_41 : decode cX5_image 41 = .ok (.iload_n 3, 1) := by decide +kernel
theorem dX5_image_42 : decode cX5_image 42 = .ok (.ireturn, 1) := by decide +kernel
set_option maxRecDepth 20000 in
theorem ggX5_mappedOf_X5_figure : GoodIn wsX5_mappedOf wsX5_figure := goodIn_r _ [7, 8, 1, 9, 10, 6, 11, 16, 17, 18, 19, 20, 21, 22, 23, 24, 25, 26, 27, 28, 29, 30, 31] (by decide +kernel) (by decide +kernel)
set_option maxRecDepth 20000 in
theorem gX5_mappedOf_X5_figure : GoodIn wsX5_mappedOf (wsV RX5 62 RX5 yX5_figure wsX5_figure) := goodIn_app (goodIn_of _ (by decide +kernel)) ggX5_mappedOf_X5_figure
set_option maxRecDepth 20000 in
theorem ggX5_mappedOf_X5_sum : GoodIn wsX5_mappedOf wsX5_sum := goodIn_r _ [15, 1, 8, 3, 4, 5, 6, 7, 9, 10, 11, 16, 17, 18, 19, 20, 21, 22, 23, 24, 25, 26, 27, 28, 29, 30, 31] (by decide +kernel) (by decide +kernel)
set_option maxRecDepth 20000 in
theorem gX5_mappedOf_X5_sum : GoodIn wsX5_mappedOf (wsV RX5 69 RX5 yX5_sum wsX5_sum) := goodIn_app (goodIn_of _ (by decide +kernel)) ggX5_mappedOf_X5_sum
theorem dX5_mappedOf_0 : decode cX5_mappedOf 0 = .ok (.iconst 0, 1) := by decide +kernel
theorem dX5_mappedOf_1 : decode cX5_mappedOf 1 = .ok (.istore_n 2, 1) := by decide +kernel
theorem dX5_mappedOf_2 : decode cX5_mappedOf 2 = .ok (.iconst 0, 1) := by decide +kernel
theorem dX5_mappedOf_3 : decode cX5_mappedOf 3 = .ok (.istore_n 3, 1) := by decide +kernel
theorem dX5_mappedOf_4 : decode cX5_mappedOf 4 = .ok (.iload_n 3, 1) := by decide +kernel
theorem dX5_mappedOf_5 : decode cX5_mappedOf 5 = .ok (.aload_n 0, 1) := by decide +kernel
theorem dX5_mappedOf_6 : decode cX5_mappedOf 6 = .ok (.getfield 42, 3) := by decide +kernel
theorem dX5_mappedOf_9 : decode cX5_mappedOf 9 = .ok (.if_icmp .ge 27, 3) := by decide +kernel
theorem dX5_mappedOf_12 : decode cX5_mappedOf 12 = .ok (.aload_n 0, 1) := by decide +kernel
theorem dX5_mappedOf_13 : decode cX5_mappedOf 13 = .ok (.iload_n 2, 1) := by decide +kernel
theorem dX5_mappedOf_14 : decode cX5_mappedOf 14 = .ok (.aload_n 0, 1) := by decide +kernel
theorem dX5_mappedOf_15 : decode cX5_mappedOf 15 = .ok (.getfield 7, 3) := by decide +kernel
theorem dX5_mappedOf_18 : decode cX5_mappedOf 18 = .ok (.iload_n 3, 1) := by decide +kernel
theorem dX5_mappedOf_19 : decode cX5_mappedOf 19 = .ok (.iaload, 1) := by decide +kernel
theorem dX5_mappedOf_20 : decode cX5_mappedOf 20 = .ok (.aload_n 0, 1) := by decide +kernel
theorem dX5_mappedOf_21 : decode cX5_mappedOf 21 = .ok (.iload_n 1, 1) := by decide +kernel
theorem dX5_mappedOf_22 : decode cX5_mappedOf 22 = .ok (.iload_n 3, 1) := by decide +kernel
theorem dX5_mappedOf_23 : decode cX5_mappedOf 23 = .ok (.invokevirtual 62, 3) := by decide +kernel
theorem dX5_mappedOf_26 : decode cX5_mappedOf 26 = .ok (.invokevirtual 69, 3) := by decide +kernel
theorem dX5_mappedOf_29 : decode cX5_mappedOf 29 = .ok (.istore_n 2, 1) := by decide +kernel
theorem dX5_mappedOf_30 : decode cX5_mappedOf 30 = .ok (.iinc 3 1, 3) := by decide +kernel
theorem dX5_mappedOf_33 : decode cX5_mappedOf 33 = .ok (.goto (-29), 3) := by decide +kernel
theorem dX5_mappedOf_36 : decode cX5_mappedOf 36 = .ok (.iload_n 2, 1) := by decide +kernel
theorem dX5_mappedOf_37 : decode cX5_mappedOf 37 = .ok (.ireturn, 1) := by decide +kernel
set_option maxRecDepth 20000 in
theorem ggX5_mapped_X5_isVector : GoodIn wsX5_mapped wsX5_isVector := goodIn_r _ [5, 6, 7, 8, 4, 9, 28, 29, 30, 31, 32, 33, 34, 35, 36, 37, 38, 39, 40, 41, 42, 43] (by decide +kernel) (by decide +kernel)
set_option maxRecDepth 20000 in
theorem gX5_mapped_X5_isVector : GoodIn wsX5_mapped (wsV RX5 65 RX5 yX5_isVector wsX5_isVector) := goodIn_app (goodIn_of _ (by decide +kernel)) ggX5_mapped_X5_isVector
set_option maxRecDepth 20000 in
theorem ggX5_mapped_X5_mappedOf : GoodIn wsX5_mapped wsX5_mappedOf := goodIn_r _ [13, 14, 15, 16, 17, 18, 4, 19, 20, 21, 22, 23, 24, 25, 26, 27, 28, 29, 30, 31, 32, 33, 34, 35, 36, 37, 38, 39, 40, 41, 42, 43] (by decide +kernel) (by decide +kernel)
set_option maxRecDepth 20000 in
theorem gX5_mapped_X5_mappedOf : GoodIn wsX5_mapped (wsV RX5 142 RX5 yX5_mappedOf wsX5_mappedOf) := goodIn_app (goodIn_of _ (by decide +kernel)) ggX5_mapped_X5_mappedOf
theorem dX5_mapped_0 : decode cX5_mapped 0 = .ok (.aload_n 0, 1) := by decide +kernel
theorem dX5_mapped_1 : decode cX5_mapped 1 = .ok (.iload_n 1, 1) := by decide +kernel
theorem dX5_mapped_2 : decode cX5_mapped 2 = .ok (.invokevirtual 65, 3) := by decide +kernel
theorem dX5_mapped_5 : decode cX5_mapped 5 = .ok (.ifCond .eq 11, 3) := by decide +kernel
theorem dX5_mapped_8 : decode cX5_mapped 8 = .ok (.aload_n 0, 1) := by decide +kernel
theorem dX5_mapped_9 : decode cX5_mapped 9 = .ok (.iload_n 1, 1) := by decide +kernel
theorem dX5_mapped_10 : decode cX5_mapped 10 = .ok (.invokevirtual 142, 3) := by decide +kernel
theorem dX5_mapped_13 : decode cX5_mapped 13 = .ok (.goto 5, 3) := by decide +kernel
theorem dX5_mapped_16 : decode cX5_mapped 16 = .ok (.bipush (-101), 2) := by decide +kernel
theorem dX5_mapped_18 : decode cX5_mapped 18 = .ok (.ireturn, 1) := by decide +kernel
set_option maxRecDepth 20000 in
theorem ggX5_map_X5_areSlots : GoodIn wsX5_map wsX5_areSlots := goodIn_r _ [5, 6, 7, 4, 8, 9, 10, 11, 12] (by decide +kernel) (by decide +kernel)
set_option maxRecDepth 20000 in
theorem gX5_map_X5_areSlots : GoodIn wsX5_map (va_wsS RX5 98 yX5_areSlots wsX5_areSlots) := goodIn_app (goodIn_of _ (by decide +kernel)) ggX5_map_X5_areSlots
set_option maxRecDepth 20000 in
theorem ggX5_map_X5_load : GoodIn wsX5_map wsX5_load := goodIn_r _ [16, 17, 18, 1, 19, 50, 51, 52, 53, 54, 55, 56, 57, 58, 59, 60, 61, 62, 63, 64, 65] (by decide +kernel) (by decide +kernel)
set_option maxRecDepth 20000 in
theorem gX5_map_X5_load : GoodIn wsX5_map (wsV RX5 91 RX5 yX5_load wsX5_load) := goodIn_app (goodIn_of _ (by decide +kernel)) ggX5_map_X5_load
set_option maxRecDepth 20000 in
theorem ggX5_map_X5_step : GoodIn wsX5_map wsX5_step := goodIn_r _ [23, 1, 18, 24, 25, 26, 4, 27, 28, 29, 30, 31, 32, 33, 34, 35, 36, 37, 38, 39, 40, 41, 42, 43, 44, 45, 50, 51, 52, 53, 54, 55, 56, 57, 58, 59, 60, 61, 62, 63, 64, 65] (by decide +kernel) (by decide +kernel)
set_option maxRecDepth 20000 in
theorem gX5_map_X5_step : GoodIn wsX5_map (wsV RX5 145 RX5 yX5_step wsX5_step) := goodIn_app (goodIn_of _ (by decide +kernel)) ggX5_map_X5_step
set_option maxRecDepth 20000 in
theorem ggX5_map_X5_save : GoodIn wsX5_map wsX5_save := goodIn_r _ [49, 17, 1, 19, 18, 50, 51, 52, 53, 54, 55, 56, 57, 58, 59, 60, 61, 62, 63, 64, 65] (by decide +kernel) (by decide +kernel)
set_option maxRecDepth 20000 in
theorem gX5_map_X5_save : GoodIn wsX5_map (wsV RX5 95 RX5 yX5_save wsX5_save) := goodIn_app (goodIn_of _ (by decide +kernel)) ggX5_map_X5_save
theorem dX5_map_0 : decode cX5_map 0 = .ok (.iload_n 1, 1) := by decide +kernel
theorem dX5_map_1 : decode cX5_map 1 = .ok (.iload_n 1, 1) := by decide +kernel
theorem dX5_map_2 : decode cX5_map 2 = .ok (.iload_n 2, 1) := by decide +kernel
theorem dX5_map_3 : decode cX5_map 3 = .ok (.invokestatic 98, 3) := by decide +kernel
theorem dX5_map_6 : decode cX5_map 6 = .ok (.ifCond .ne 6, 3) := by decide +kernel
theorem dX5_map_9 : decode cX5_map 9 = .ok (.bipush (-101), 2) := by decide +kernel
theorem dX5_map_11 : decode cX5_map 11 = .ok (.ireturn, 1) := by decide +kernel
theorem dX5_map_12 : decode cX5_map 12 = .ok (.aload_n 0, 1) := by decide +kernel
theorem dX5_map_13 : decode cX5_map 13 = .ok (.iconst 0, 1) := by decide +kernel
theorem dX5_map_14 : decode cX5_map 14 = .ok (.putfield 76, 3) := by decide +kernel
theorem dX5_map_17 : decode cX5_map 17 = .ok (.aload_n 0, 1) := by decide +kernel
theorem dX5_map_18 : decode cX5_map 18 = .ok (.iload_n 1, 1) := by decide +kernel
theorem dX5_map_19 : decode cX5_map 19 = .ok (.invokevirtual 91, 3) := by decide +kernel
theorem dX5_map_22 : decode cX5_map 22 = .ok (.aload_n 0, 1) := by decide +kernel
theorem dX5_map_23 : decode cX5_map 23 = .ok (.invokevirtual 145, 3) := by decide +kernel
theorem dX5_map_26 : decode cX5_map 26 = .ok (.aload_n 0, 1) := by decide +kernel
theorem dX5_map_27 : decode cX5_map 27 = .ok (.iload_n 2, 1) := by decide +kernel
theorem dX5_map_28 : decode cX5_map 28 = .ok (.invokevirtual 95, 3) := by decide +kernel
theorem dX5_map_31 : decode cX5_map 31 = .ok (.ireturn, 1) := by decide +kernel
set_option maxRecDepth 20000 in
theorem ggX5_step_X5_mappedOf : GoodIn wsX5_step wsX5_mappedOf := goodIn_r _ [7, 8, 9, 10, 11, 12, 6, 13, 14, 15, 16, 17, 18, 19, 20, 21, 26, 27, 28, 29, 30, 31, 32, 33, 34, 35, 36, 37, 38, 39, 40, 41] (by decide +kernel) (by decide +kernel)
set_option maxRecDepth 20000 in
theorem gX5_step_X5_mappedOf : GoodIn wsX5_step (wsV RX5 142 RX5 yX5_mappedOf wsX5_mappedOf) := goodIn_app (goodIn_of _ (by decide +kernel)) ggX5_step_X5_mappedOf
set_option maxRecDepth 20000 in
theorem ggX5_step_X5_settle : GoodIn wsX5_step wsX5_settle := goodIn_r _ [25, 8, 1, 2, 14, 10, 11, 12, 6, 13, 15, 16, 17, 18, 19, 20, 21, 26, 27, 28, 29, 30, 31, 32, 33, 34, 35, 36, 37, 38, 39, 40, 41] (by decide +kernel) (by decide +kernel)
set_option maxRecDepth 20000 in
theorem gX5_step_X5_settle : GoodIn wsX5_step (wsV RX5 83 RX5 yX5_settle wsX5_settle) := goodIn_app (goodIn_of _ (by decide +kernel)) ggX5_step_X5_settle
theorem dX5_step_0 : decode cX5_step 0 = .ok (.iconst 0, 1) := by decide +kernel
theorem dX5_step_1 : decode cX5_step 1 = .ok (.istore_n 1, 1) := by decide +kernel
theorem dX5_step_2 : decode cX5_step 2 = .ok (.iload_n 1, 1) := by decide +kernel
theorem dX5_step_3 : decode cX5_step 3 = .ok (.aload_n 0, 1) := by decide +kernel
theorem dX5_step_4 : decode cX5_step 4 = .ok (.getfield 76, 3) := by decide +kernel
theorem dX5_step_7 : decode cX5_step 7 = .ok (.if_icmp .ge 25, 3) := by decide +kernel
theorem dX5_step_10 : decode cX5_step 10 = .ok (.aload_n 0, 1) := by decide +kernel
theorem dX5_step_11 : decode cX5_step 11 = .ok (.getfield 13, 3) := by decide +kernel
theorem dX5_step_14 : decode cX5_step 14 = .ok (.iload_n 1, 1) := by decide +kernel
theorem dX5_step_15 : decode cX5_step 15 = .ok (.aload_n 0, 1) := by decide +kernel
theorem dX5_step_16 : decode cX5_step 16 = .ok (.aload_n 0, 1) := by decide +kernel
theorem dX5_step_17 : decode cX5_step 17 = .ok (.getfield 13, 3) := by decide +kernel
theorem dX5_step_20 : decode cX5_step 20 = .ok (.iload_n 1, 1) := by decide +kernel
theorem dX5_step_21 : decode cX5_step 21 = .ok (.iaload, 1) := by decide +kernel
theorem dX5_step_22 : decode cX5_step 22 = .ok (.invokevirtual 142, 3) := by decide +kernel
theorem dX5_step_25 : decode cX5_step 25 = .ok (.iastore, 1) := by decide +kernel
theorem dX5_step_26 : decode cX5_step 26 = .ok (.iinc 1 1, 3) := by decide +kernel
theorem dX5_step_29 : decode cX5_step 29 = .ok (.goto (-27), 3) := by decide +kernel
theorem dX5_step_32 : decode cX5_step 32 = .ok (.aload_n 0, 1) := by decide +kernel
theorem dX5_step_33 : decode cX5_step 33 = .ok (.invokevirtual 83, 3) := by decide +kernel
theorem dX5_step_36 : decode cX5_step 36 = .ok (.return_, 1) := by decide +kernel
set_option maxRecDepth 20000 in
theorem ggX5_kernel_X5_isSlot : GoodIn wsX5_kernel wsX5_isSlot := goodIn_r _ [9, 10, 11, 12, 8, 13] (by decide +kernel) (by decide +kernel)
set_option maxRecDepth 20000 in
theorem gX5_kernel_X5_isSlot : GoodIn wsX5_kernel (va_wsS RX5 88 yX5_isSlot wsX5_isSlot) := goodIn_app (goodIn_of _ (by decide +kernel)) ggX5_kernel_X5_isSlot
set_option maxRecDepth 20000 in
theorem ggX5_kernel_X5_figure : GoodIn wsX5_kernel wsX5_figure := goodIn_r _ [17, 3, 1, 18, 19, 8, 20, 44, 45, 46, 47, 48, 49, 50, 51, 52, 53, 54, 55, 56, 57, 58, 59] (by decide +kernel) (by decide +kernel)
set_option maxRecDepth 20000 in
theorem gX5_kernel_X5_figure : GoodIn wsX5_kernel (wsV RX5 62 RX5 yX5_figure wsX5_figure) := goodIn_app (goodIn_of _ (by decide +kernel)) ggX5_kernel_X5_figure
set_option maxRecDepth 20000 in
theorem ggX5_kernel_X5_settle : GoodIn wsX5_kernel wsX5_settle := goodIn_r _ [24, 1, 2, 5, 3, 14, 15, 16, 8, 17, 18, 19, 20, 25, 26, 27, 28, 44, 45, 46, 47, 48, 49, 50, 51, 52, 53, 54, 55, 56, 57, 58, 59] (by decide +kernel) (by decide +kernel)
set_option maxRecDepth 20000 in
theorem gX5_kernel_X5_settle : GoodIn wsX5_kernel (wsV RX5 83 RX5 yX5_settle wsX5_settle) := goodIn_app (goodIn_of _ (by decide +kernel)) ggX5_kernel_X5_settle
set_option maxRecDepth 20000 in
theorem ggX5_kernel_X5_turn : GoodIn wsX5_kernel wsX5_turn := goodIn_r _ [32, 2, 33, 5, 1, 3, 34, 35, 36, 8, 37, 14, 15, 16, 17, 18, 19, 20, 21, 22, 23, 24, 25, 26, 27, 28, 44, 45, 46, 47, 48, 49, 50, 51, 52, 53, 54, 55, 56, 57, 58, 59] (by decide +kernel) (by decide +kernel)
set_option maxRecDepth 20000 in
theorem gX5_kernel_X5_turn : GoodIn wsX5_kernel (wsV RX5 105 RX5 yX5_turn wsX5_turn) := goodIn_app (goodIn_of _ (by decide +kernel)) ggX5_kernel_X5_turn
set_option maxRecDepth 20000 in
theorem ggX5_kernel_X5_save : GoodIn wsX5_kernel wsX5_save := goodIn_r _ [41, 42, 2, 43, 5, 44, 45, 46, 47, 48, 49, 50, 51, 52, 53, 54, 55, 56, 57, 58, 59] (by decide +kernel) (by decide +kernel)
set_option maxRecDepth 20000 in
theorem gX5_kernel_X5_save : GoodIn wsX5_kernel (wsV RX5 95 RX5 yX5_save wsX5_save) := goodIn_app (goodIn_of _ (by decide +kernel)) ggX5_kernel_X5_save
theorem dX5_kernel_0 : decode cX5_kernel 0 = .ok (.iload_n 1, 1) := by decide +kernel
theorem dX5_kernel_1 : decode cX5_kernel 1 = .ok (.invokestatic 88, 3) := by decide +kernel
theorem dX5_kernel_4 : decode cX5_kernel 4 = .ok (.ifCond .ne 6, 3) := by decide +kernel
theorem dX5_kernel_7 : decode cX5_kernel 7 = .ok (.bipush (-101), 2) := by decide +kernel
theorem dX5_kernel_9 : decode cX5_kernel 9 = .ok (.ireturn, 1) := by decide +kernel
theorem dX5_kernel_10 : decode cX5_kernel 10 = .ok (.aload_n 0, 1) := by decide +kernel
theorem dX5_kernel_11 : decode cX5_kernel 11 = .ok (.aload_n 0, 1) := by decide +kernel
theorem dX5_kernel_12 : decode cX5_kernel 12 = .ok (.getfield 42, 3) := by decide +kernel
theorem dX5_kernel_15 : decode cX5_kernel 15 = .ok (.putfield 76, 3) := by decide +kernel
theorem dX5_kernel_18 : decode cX5_kernel 18 = .ok (.iconst 0, 1) := by decide +kernel
theorem dX5_kernel_19 : decode cX5_kernel 19 = .ok (.istore_n 2, 1) := by decide +kernel
theorem dX5_kernel_20 : decode cX5_kernel 20 = .ok (.iload_n 2, 1) := by decide +kernel
theorem dX5_kernel_21 : decode cX5_kernel 21 = .ok (.aload_n 0, 1) := by decide +kernel
theorem dX5_kernel_22 : decode cX5_kernel 22 = .ok (.getfield 42, 3) := by decide +kernel
theorem dX5_kernel_25 : decode cX5_kernel 25 = .ok (.if_icmp .ge 56, 3) := by decide +kernel
theorem dX5_kernel_28 : decode cX5_kernel 28 = .ok (.iconst 0, 1) := by decide +kernel
theorem dX5_kernel_29 : decode cX5_kernel 29 = .ok (.istore_n 3, 1) := by decide +kernel
theorem dX5_kernel_30 : decode cX5_kernel 30 = .ok (.iconst 0, 1) := by decide +kernel
theorem dX5_kernel_31 : decode cX5_kernel 31 = .ok (.istore 4, 2) := by decide +kernel
theorem dX5_kernel_33 : decode cX5_kernel 33 = .ok (.iload 4, 2) := by decide +kernel
theorem dX5_kernel_35 : decode cX5_kernel 35 = .ok (.aload_n 0, 1) := by decide +kernel
theorem dX5_kernel_36 : decode cX5_kernel 36 = .ok (.getfield 42, 3) := by decide +kernel
theorem dX5_kernel_39 : decode cX5_kernel 39 = .ok (.if_icmp .ge 29, 3) := by decide +kernel
theorem dX5_kernel_42 : decode cX5_kernel 42 = .ok (.iload_n 3, 1) := by decide +kernel
theorem dX5_kernel_43 : decode cX5_kernel 43 = .ok (.aload_n 0, 1) := by decide +kernel
theorem dX5_kernel_44 : decode cX5_kernel 44 = .ok (.getfield 38, 3) := by decide +kernel
theorem dX5_kernel_47 : decode cX5_kernel 47 = .ok (.imul, 1) := by decide +kernel
theorem dX5_kernel_48 : decode cX5_kernel 48 = .ok (.aload_n 0, 1) := by decide +kernel
theorem dX5_kernel_49 : decode cX5_kernel 49 = .ok (.aload_n 0, 1) := by decide +kernel
theorem dX5_kernel_50 : decode cX5_kernel 50 = .ok (.getfield 7, 3) := by decide +kernel
theorem dX5_kernel_53 : decode cX5_kernel 53 = .ok (.iload 4, 2) := by decide +kernel
theorem dX5_kernel_55 : decode cX5_kernel 55 = .ok (.iaload, 1) := by decide +kernel
theorem dX5_kernel_56 : decode cX5_kernel 56 = .ok (.iload_n 2, 1) := by decide +kernel
theorem dX5_kernel_57 : decode cX5_kernel 57 = .ok (.invokevirtual 62, 3) := by decide +kernel
theorem dX5_kernel_60 : decode cX5_kernel 60 = .ok (.iadd, 1) := by decide +kernel
theorem dX5_kernel_61 : decode cX5_kernel 61 = .ok (.istore_n 3, 1) := by decide +kernel
theorem dX5_kernel_62 : decode cX5_kernel 62 = .ok (.iinc 4 1, 3) := by decide +kernel
theorem dX5_kernel_65 : decode cX5_kernel 65 = .ok (.goto (-32), 3) := by decide +kernel
theorem dX5_kernel_68 : decode cX5_kernel 68 = .ok (.aload_n 0, 1) := by decide +kernel
theorem dX5_kernel_69 : decode cX5_kernel 69 = .ok (.getfield 13, 3) := by decide +kernel
theorem dX5_kernel_72 : decode cX5_kernel 72 = .ok (.iload_n 2, 1) := by decide +kernel
theorem dX5_kernel_73 : decode cX5_kernel 73 = .ok (.iload_n 3, 1) := by decide +kernel
theorem dX5_kernel_74 : decode cX5_kernel 74 = .ok (.iastore, 1) := by decide +kernel
theorem dX5_kernel_75 : decode cX5_kernel 75 = .ok (.iinc 2 1, 3) := by decide +kernel
theorem dX5_kernel_78 : decode cX5_kernel 78 = .ok (.goto (-58), 3) := by decide +kernel
theorem dX5_kernel_81 : decode cX5_kernel 81 = .ok (.aload_n 0, 1) := by decide +kernel
theorem dX5_kernel_82 : decode cX5_kernel 82 = .ok (.invokevirtual 83, 3) := by decide +kernel
theorem dX5_kernel_85 : decode cX5_kernel 85 = .ok (.aload_n 0, 1) := by decide +kernel
theorem dX5_kernel_86 : decode cX5_kernel 86 = .ok (.invokevirtual 105, 3) := by decide +kernel
theorem dX5_kernel_89 : decode cX5_kernel 89 = .ok (.aload_n 0, 1) := by decide +kernel
theorem dX5_kernel_90 : decode cX5_kernel 90 = .ok (.iload_n 1, 1) := by decide +kernel
theorem dX5_kernel_91 : decode cX5_kernel 91 = .ok (.invokevirtual 95, 3) := by decide +kernel
theorem dX5_kernel_94 : decode cX5_kernel 94 = .ok (.ireturn, 1) := by decide +kernel
set_option maxRecDepth 20000 in
theorem ggX5_round_X5_isSlot : GoodIn wsX5_round wsX5_isSlot := goodIn_r _ [9, 10, 11, 12, 8, 13] (by decide +kernel) (by decide +kernel)
set_option maxRecDepth 20000 in
theorem gX5_round_X5_isSlot : GoodIn wsX5_round (va_wsS RX5 88 yX5_isSlot wsX5_isSlot) := goodIn_app (goodIn_of _ (by decide +kernel)) ggX5_round_X5_isSlot
set_option maxRecDepth 20000 in
theorem ggX5_round_X5_load : GoodIn wsX5_round wsX5_load := goodIn_r _ [17, 3, 4, 2, 5, 44, 45, 46, 47, 48, 49, 50, 51, 52, 53, 54, 55, 56, 57, 58, 59] (by decide +kernel) (by decide +kernel)
set_option maxRecDepth 20000 in
theorem gX5_round_X5_load : GoodIn wsX5_round (wsV RX5 91 RX5 yX5_load wsX5_load) := goodIn_app (goodIn_of _ (by decide +kernel)) ggX5_round_X5_load
set_option maxRecDepth 20000 in
theorem ggX5_round_X5_step : GoodIn wsX5_round wsX5_step := goodIn_r _ [21, 2, 4, 22, 23, 24, 8, 25, 26, 27, 28, 29, 30, 31, 32, 33, 34, 35, 36, 37, 38, 39, 40, 41, 42, 43, 44, 45, 46, 47, 48, 49, 50, 51, 52, 53, 54, 55, 56, 57, 58, 59] (by decide +kernel) (by decide +kernel)
set_option maxRecDepth 20000 in
theorem gX5_round_X5_step : GoodIn wsX5_round (wsV RX5 145 RX5 yX5_step wsX5_step) := goodIn_app (goodIn_of _ (by decide +kernel)) ggX5_round_X5_step
theorem dX5_round_0 : decode cX5_round 0 = .ok (.iload_n 1, 1) := by decide +kernel
theorem dX5_round_1 : decode cX5_round 1 = .ok (.invokestatic 88, 3) := by decide +kernel
theorem dX5_round_4 : decode cX5_round 4 = .ok (.ifCond .ne 6, 3) := by decide +kernel
theorem dX5_round_7 : decode cX5_round 7 = .ok (.bipush (-101), 2) := by decide +kernel
theorem dX5_round_9 : decode cX5_round 9 = .ok (.ireturn, 1) := by decide +kernel
theorem dX5_round_10 : decode cX5_round 10 = .ok (.aload_n 0, 1) := by decide +kernel
theorem dX5_round_11 : decode cX5_round 11 = .ok (.getfield 148, 3) := by decide +kernel
theorem dX5_round_14 : decode cX5_round 14 = .ok (.bipush 60, 2) := by decide +kernel
theorem dX5_round_16 : decode cX5_round 16 = .ok (.if_icmp .ne 6, 3) := by decide +kernel
theorem dX5_round_19 : decode cX5_round 19 = .ok (.bipush (-103), 2) := by decide +kernel
theorem dX5_round_21 : decode cX5_round 21 = .ok (.ireturn, 1) := by decide +kernel
theorem dX5_round_22 : decode cX5_round 22 = .ok (.aload_n 0, 1) := by decide +kernel
theorem dX5_round_23 : decode cX5_round 23 = .ok (.dup, 1) := by decide +kernel
theorem dX5_round_24 : decode cX5_round 24 = .ok (.getfield 148, 3) := by decide +kernel
theorem dX5_round_27 : decode cX5_round 27 = .ok (.iconst 1, 1) := by decide +kernel
theorem dX5_round_28 : decode cX5_round 28 = .ok (.iadd, 1) := by decide +kernel
theorem dX5_round_29 : decode cX5_round 29 = .ok (.putfield 148, 3) := by decide +kernel
theorem dX5_round_32 : decode cX5_round 32 = .ok (.aload_n 0, 1) := by decide +kernel
theorem dX5_round_33 : decode cX5_round 33 = .ok (.iconst 0, 1) := by decide +kernel
theorem dX5_round_34 : decode cX5_round 34 = .ok (.putfield 76, 3) := by decide +kernel
theorem dX5_round_37 : decode cX5_round 37 = .ok (.aload_n 0, 1) := by decide +kernel
theorem dX5_round_38 : decode cX5_round 38 = .ok (.iload_n 1, 1) := by decide +kernel
theorem dX5_round_39 : decode cX5_round 39 = .ok (.invokevirtual 91, 3) := by decide +kernel
theorem dX5_round_42 : decode cX5_round 42 = .ok (.iconst 1, 1) := by decide +kernel
theorem dX5_round_43 : decode cX5_round 43 = .ok (.istore_n 2, 1) := by decide +kernel
theorem dX5_round_44 : decode cX5_round 44 = .ok (.iload_n 2, 1) := by decide +kernel
theorem dX5_round_45 : decode cX5_round 45 = .ok (.sipush 3000, 3) := by decide +kernel
theorem dX5_round_48 : decode cX5_round 48 = .ok (.if_icmp .gt 88, 3) := by decide +kernel
theorem dX5_round_51 : decode cX5_round 51 = .ok (.aload_n 0, 1) := by decide +kernel
theorem dX5_round_52 : decode cX5_round 52 = .ok (.invokevirtual 145, 3) := by decide +kernel
theorem dX5_round_55 : decode cX5_round 55 = .ok (.aload_n 0, 1) := by decide +kernel
theorem dX5_round_56 : decode cX5_round 56 = .ok (.getfield 76, 3) := by decide +kernel
theorem dX5_round_59 : decode cX5_round 59 = .ok (.aload_n 0, 1) := by decide +kernel
theorem dX5_round_60 : decode cX5_round 60 = .ok (.getfield 20, 3) := by decide +kernel
theorem dX5_round_63 : decode cX5_round 63 = .ok (.iload_n 1, 1) := by decide +kernel
theorem dX5_round_64 : decode cX5_round 64 = .ok (.iaload, 1) := by decide +kernel
theorem dX5_round_65 : decode cX5_round 65 = .ok (.if_icmp .ne 7, 3) := by decide +kernel
theorem dX5_round_68 : decode cX5_round 68 = .ok (.iconst 1, 1) := by decide +kernel
theorem dX5_round_69 : decode cX5_round 69 = .ok (.goto 4, 3) := by decide +kernel
theorem dX5_round_72 : decode cX5_round 72 = .ok (.iconst 0, 1) := by decide +kernel
theorem dX5_round_73 : decode cX5_round 73 = .ok (.istore_n 3, 1) := by decide +kernel
theorem dX5_round_74 : decode cX5_round 74 = .ok (.iconst 0, 1) := by decide +kernel
theorem dX5_round_75 : decode cX5_round 75 = .ok (.istore 4, 2) := by decide +kernel
theorem dX5_round_77 : decode cX5_round 77 = .ok (.iload 4, 2) := by decide +kernel
theorem dX5_round_79 : decode cX5_round 79 = .ok (.aload_n 0, 1) := by decide +kernel
theorem dX5_round_80 : decode cX5_round 80 = .ok (.getfield 76, 3) := by decide +kernel
theorem dX5_round_83 : decode cX5_round 83 = .ok (.if_icmp .ge 41, 3) := by decide +kernel
theorem dX5_round_86 : decode cX5_round 86 = .ok (.iload_n 3, 1) := by decide +kernel
theorem dX5_round_87 : decode cX5_round 87 = .ok (.ifCond .eq 37, 3) := by decide +kernel
theorem dX5_round_90 : decode cX5_round 90 = .ok (.aload_n 0, 1) := by decide +kernel
theorem dX5_round_91 : decode cX5_round 91 = .ok (.getfield 13, 3) := by decide +kernel
theorem dX5_round_94 : decode cX5_round 94 = .ok (.iload 4, 2) := by decide +kernel
theorem dX5_round_96 : decode cX5_round 96 = .ok (.iaload, 1) := by decide +kernel
theorem dX5_round_97 : decode cX5_round 97 = .ok (.aload_n 0, 1) := by decide +kernel
theorem dX5_round_98 : decode cX5_round 98 = .ok (.getfield 23, 3) := by decide +kernel
theorem dX5_round_101 : decode cX5_round 101 = .ok (.bipush 6, 2) := by decide +kernel
theorem dX5_round_103 : decode cX5_round 103 = .ok (.iload_n 1, 1) := by decide +kernel
theorem dX5_round_104 : decode cX5_round 104 = .ok (.imul, 1) := by decide +kernel
theorem dX5_round_105 : decode cX5_round 105 = .ok (.iload 4, 2) := by decide +kernel
theorem dX5_round_107 : decode cX5_round 107 = .ok (.iadd, 1) := by decide +kernel
theorem dX5_round_108 : decode cX5_round 108 = .ok (.iaload, 1) := by decide +kernel
theorem dX5_round_109 : decode cX5_round 109 = .ok (.if_icmp .ne 7, 3) := by decide +kernel
theorem dX5_round_112 : decode cX5_round 112 = .ok (.iconst 1, 1) := by decide +kernel
theorem dX5_round_113 : decode cX5_round 113 = .ok (.goto 4, 3) := by decide +kernel
theorem dX5_round_116 : decode cX5_round 116 = .ok (.iconst 0, 1) := by decide +kernel
theorem dX5_round_117 : decode cX5_round 117 = .ok (.istore_n 3, 1) := by decide +kernel
theorem dX5_round_118 : decode cX5_round 118 = .ok (.iinc 4 1, 3) := by decide +kernel
theorem dX5_round_121 : decode cX5_round 121 = .ok (.goto (-44), 3) := by decide +kernel
theorem dX5_round_124 : decode cX5_round 124 = .ok (.iload_n 3, 1) := by decide +kernel
theorem dX5_round_125 : decode cX5_round 125 = .ok (.ifCond .eq 5, 3) := by decide +kernel
theorem dX5_round_128 : decode cX5_round 128 = .ok (.iload_n 2, 1) := by decide +kernel
theorem dX5_round_129 : decode cX5_round 129 = .ok (.ireturn, 1) := by decide +kernel
theorem dX5_round_130 : decode cX5_round 130 = .ok (.iinc 2 1, 3) := by decide +kernel
theorem dX5_round_133 : decode cX5_round 133 = .ok (.goto (-89), 3) := by decide +kernel
theorem dX5_round_136 : decode cX5_round 136 = .ok (.iconst (-1), 1) := by decide +kernel
theorem dX5_round_137 : decode cX5_round 137 = .ok (.ireturn, 1) := by decide +kernel
theorem dX5_told_0 : decode cX5_told 0 = .ok (.iload_n 1, 1) := by decide +kernel
theorem dX5_told_1 : decode cX5_told 1 = .ok (.tableswitch 69 0 5 #[39, 44, 49, 54, 59, 64], 39) := by decide +kernel
theorem dX5_told_40 : decode cX5_told 40 = .ok (.aload_n 0, 1) := by decide +kernel
theorem dX5_told_41 : decode cX5_told 41 = .ok (.getfield 38, 3) := by decide +kernel
theorem dX5_told_44 : decode cX5_told 44 = .ok (.ireturn, 1) := by decide +kernel
theorem dX5_told_45 : decode cX5_told 45 = .ok (.aload_n 0, 1) := by decide +kernel
theorem dX5_told_46 : decode cX5_told 46 = .ok (.getfield 42, 3) := by decide +kernel
theorem dX5_told_49 : decode cX5_told 49 = .ok (.ireturn, 1) := by decide +kernel
theorem dX5_told_50 : decode cX5_told 50 = .ok (.aload_n 0, 1) := by decide +kernel
theorem dX5_told_51 : decode cX5_told 51 = .ok (.getfield 52, 3) := by decide +kernel
theorem dX5_told_54 : decode cX5_told 54 = .ok (.ireturn, 1) := by decide +kernel
theorem dX5_told_55 : decode cX5_told 55 = .ok (.aload_n 0, 1) := by decide +kernel
theorem dX5_told_56 : decode cX5_told 56 = .ok (.getfield 55, 3) := by decide +kernel
theorem dX5_told_59 : decode cX5_told 59 = .ok (.ireturn, 1) := by decide +kernel
theorem dX5_told_60 : decode cX5_told 60 = .ok (.aload_n 0, 1) := by decide +kernel
theorem dX5_told_61 : decode cX5_told 61 = .ok (.getfield 139, 3) := by decide +kernel
theorem dX5_told_64 : decode cX5_told 64 = .ok (.ireturn, 1) := by decide +kernel
theorem dX5_told_65 : decode cX5_told 65 = .ok (.aload_n 0, 1) := by decide +kernel
theorem dX5_told_66 : decode cX5_told 66 = .ok (.getfield 148, 3) := by decide +kernel
theorem dX5_told_69 : decode cX5_told 69 = .ok (.ireturn, 1) := by decide +kernel
theorem dX5_told_70 : decode cX5_told 70 = .ok (.bipush (-102), 2) := by decide +kernel
theorem dX5_told_72 : decode cX5_told 72 = .ok (.ireturn, 1) := by decide +kernel
theorem dX5_digest_0 : decode cX5_digest 0 = .ok (.ldc2_w 151, 3) := by decide +kernel
theorem dX5_digest_3 : decode cX5_digest 3 = .ok (.lstore_n 1, 1) := by decide +kernel
theorem dX5_digest_4 : decode cX5_digest 4 = .ok (.ldc2_w 153, 3) := by decide +kernel
theorem dX5_digest_7 : decode cX5_digest 7 = .ok (.lload_n 1, 1) := by decide +kernel
theorem dX5_digest_8 : decode cX5_digest 8 = .ok (.lmul, 1) := by decide +kernel
theorem dX5_digest_9 : decode cX5_digest 9 = .ok (.aload_n 0, 1) := by decide +kernel
theorem dX5_digest_10 : decode cX5_digest 10 = .ok (.getfield 38, 3) := by decide +kernel
theorem dX5_digest_13 : decode cX5_digest 13 = .ok (.i2l, 1) := by decide +kernel
theorem dX5_digest_14 : decode cX5_digest 14 = .ok (.ladd, 1) := by decide +kernel
theorem dX5_digest_15 : decode cX5_digest 15 = .ok (.lstore_n 1, 1) := by decide +kernel
theorem dX5_digest_16 : decode cX5_digest 16 = .ok (.ldc2_w 153, 3) := by decide +kernel
theorem dX5_digest_19 : decode cX5_digest 19 = .ok (.lload_n 1, 1) := by decide +kernel
theorem dX5_digest_20 : decode cX5_digest 20 = .ok (.lmul, 1) := by decide +kernel
theorem dX5_digest_21 : decode cX5_digest 21 = .ok (.aload_n 0, 1) := by decide +kernel
theorem dX5_digest_22 : decode cX5_digest 22 = .ok (.getfield 42, 3) := by decide +kernel
theorem dX5_digest_25 : decode cX5_digest 25 = .ok (.i2l, 1) := by decide +kernel
theorem dX5_digest_26 : decode cX5_digest 26 = .ok (.ladd, 1) := by decide +kernel
theorem dX5_digest_27 : decode cX5_digest 27 = .ok (.lstore_n 1, 1) := by decide +kernel
theorem dX5_digest_28 : decode cX5_digest 28 = .ok (.iconst 0, 1) := by decide +kernel
theorem dX5_digest_29 : decode cX5_digest 29 = .ok (.istore_n 3, 1) := by decide +kernel
theorem dX5_digest_30 : decode cX5_digest 30 = .ok (.iload_n 3, 1) := by decide +kernel
theorem dX5_digest_31 : decode cX5_digest 31 = .ok (.bipush 12, 2) := by decide +kernel
theorem dX5_digest_33 : decode cX5_digest 33 = .ok (.if_icmp .ge 63, 3) := by decide +kernel
theorem dX5_digest_36 : decode cX5_digest 36 = .ok (.ldc2_w 153, 3) := by decide +kernel
theorem dX5_digest_39 : decode cX5_digest 39 = .ok (.lload_n 1, 1) := by decide +kernel
theorem dX5_digest_40 : decode cX5_digest 40 = .ok (.lmul, 1) := by decide +kernel
theorem dX5_digest_41 : decode cX5_digest 41 = .ok (.aload_n 0, 1) := by decide +kernel
theorem dX5_digest_42 : decode cX5_digest 42 = .ok (.getfield 20, 3) := by decide +kernel
theorem dX5_digest_45 : decode cX5_digest 45 = .ok (.iload_n 3, 1) := by decide +kernel
theorem dX5_digest_46 : decode cX5_digest 46 = .ok (.iaload, 1) := by decide +kernel
theorem dX5_digest_47 : decode cX5_digest 47 = .ok (.i2l, 1) := by decide +kernel
theorem dX5_digest_48 : decode cX5_digest 48 = .ok (.ladd, 1) := by decide +kernel
theorem dX5_digest_49 : decode cX5_digest 49 = .ok (.lstore_n 1, 1) := by decide +kernel
theorem dX5_digest_50 : decode cX5_digest 50 = .ok (.iconst 0, 1) := by decide +kernel
theorem dX5_digest_51 : decode cX5_digest 51 = .ok (.istore 4, 2) := by decide +kernel
theorem dX5_digest_53 : decode cX5_digest 53 = .ok (.iload 4, 2) := by decide +kernel
theorem dX5_digest_55 : decode cX5_digest 55 = .ok (.aload_n 0, 1) := by decide +kernel
theorem dX5_digest_56 : decode cX5_digest 56 = .ok (.getfield 20, 3) := by decide +kernel
theorem dX5_digest_59 : decode cX5_digest 59 = .ok (.iload_n 3, 1) := by decide +kernel
theorem dX5_digest_60 : decode cX5_digest 60 = .ok (.iaload, 1) := by decide +kernel
theorem dX5_digest_61 : decode cX5_digest 61 = .ok (.if_icmp .ge 29, 3) := by decide +kernel
theorem dX5_digest_64 : decode cX5_digest 64 = .ok (.ldc2_w 153, 3) := by decide +kernel
theorem dX5_digest_67 : decode cX5_digest 67 = .ok (.lload_n 1, 1) := by decide +kernel
theorem dX5_digest_68 : decode cX5_digest 68 = .ok (.lmul, 1) := by decide +kernel
theorem dX5_digest_69 : decode cX5_digest 69 = .ok (.aload_n 0, 1) := by decide +kernel
theorem dX5_digest_70 : decode cX5_digest 70 = .ok (.getfield 23, 3) := by decide +kernel
theorem dX5_digest_73 : decode cX5_digest 73 = .ok (.bipush 6, 2) := by decide +kernel
theorem dX5_digest_75 : decode cX5_digest 75 = .ok (.iload_n 3, 1) := by decide +kernel
theorem dX5_digest_76 : decode cX5_digest 76 = .ok (.imul, 1) := by decide +kernel
theorem dX5_digest_77 : decode cX5_digest 77 = .ok (.iload 4, 2) := by decide +kernel
theorem dX5_digest_79 : decode cX5_digest 79 = .ok (.iadd, 1) := by decide +kernel
theorem dX5_digest_80 : decode cX5_digest 80 = .ok (.iaload, 1) := by decide +kernel
theorem dX5_digest_81 : decode cX5_digest 81 = .ok (.i2l, 1) := by decide +kernel
theorem dX5_digest_82 : decode cX5_digest 82 = .ok (.ladd, 1) := by decide +kernel
theorem dX5_digest_83 : decode cX5_digest 83 = .ok (.lstore_n 1, 1) := by decide +kernel
theorem dX5_digest_84 : decode cX5_digest 84 = .ok (.iinc 4 1, 3) := by decide +kernel
theorem dX5_digest_87 : decode cX5_digest 87 = .ok (.goto (-34), 3) := by decide +kernel
theorem dX5_digest_90 : decode cX5_digest 90 = .ok (.iinc 3 1, 3) := by decide +kernel
theorem dX5_digest_93 : decode cX5_digest 93 = .ok (.goto (-63), 3) := by decide +kernel
theorem dX5_digest_96 : decode cX5_digest 96 = .ok (.iconst 0, 1) := by decide +kernel
theorem dX5_digest_97 : decode cX5_digest 97 = .ok (.istore_n 3, 1) := by decide +kernel
theorem dX5_digest_98 : decode cX5_digest 98 = .ok (.iload_n 3, 1) := by decide +kernel
theorem dX5_digest_99 : decode cX5_digest 99 = .ok (.aload_n 0, 1) := by decide +kernel
theorem dX5_digest_100 : decode cX5_digest 100 = .ok (.getfield 55, 3) := by decide +kernel
theorem dX5_digest_103 : decode cX5_digest 103 = .ok (.if_icmp .ge 63, 3) := by decide +kernel
theorem dX5_digest_106 : decode cX5_digest 106 = .ok (.ldc2_w 153, 3) := by decide +kernel
theorem dX5_digest_109 : decode cX5_digest 109 = .ok (.lload_n 1, 1) := by decide +kernel
theorem dX5_digest_110 : decode cX5_digest 110 = .ok (.lmul, 1) := by decide +kernel
theorem dX5_digest_111 : decode cX5_digest 111 = .ok (.aload_n 0, 1) := by decide +kernel
theorem dX5_digest_112 : decode cX5_digest 112 = .ok (.getfield 32, 3) := by decide +kernel
theorem dX5_digest_115 : decode cX5_digest 115 = .ok (.iload_n 3, 1) := by decide +kernel
theorem dX5_digest_116 : decode cX5_digest 116 = .ok (.iaload, 1) := by decide +kernel
theorem dX5_digest_117 : decode cX5_digest 117 = .ok (.i2l, 1) := by decide +kernel
theorem dX5_digest_118 : decode cX5_digest 118 = .ok (.ladd, 1) := by decide +kernel
theorem dX5_digest_119 : decode cX5_digest 119 = .ok (.lstore_n 1, 1) := by decide +kernel
theorem dX5_digest_120 : decode cX5_digest 120 = .ok (.iconst 0, 1) := by decide +kernel
theorem dX5_digest_121 : decode cX5_digest 121 = .ok (.istore 4, 2) := by decide +kernel
theorem dX5_digest_123 : decode cX5_digest 123 = .ok (.iload 4, 2) := by decide +kernel
theorem dX5_digest_125 : decode cX5_digest 125 = .ok (.aload_n 0, 1) := by decide +kernel
theorem dX5_digest_126 : decode cX5_digest 126 = .ok (.getfield 32, 3) := by decide +kernel
theorem dX5_digest_129 : decode cX5_digest 129 = .ok (.iload_n 3, 1) := by decide +kernel
theorem dX5_digest_130 : decode cX5_digest 130 = .ok (.iaload, 1) := by decide +kernel
theorem dX5_digest_131 : decode cX5_digest 131 = .ok (.if_icmp .ge 29, 3) := by decide +kernel
theorem dX5_digest_134 : decode cX5_digest 134 = .ok (.ldc2_w 153, 3) := by decide +kernel
theorem dX5_digest_137 : decode cX5_digest 137 = .ok (.lload_n 1, 1) := by decide +kernel
theorem dX5_digest_138 : decode cX5_digest 138 = .ok (.lmul, 1) := by decide +kernel
theorem dX5_digest_139 : decode cX5_digest 139 = .ok (.aload_n 0, 1) := by decide +kernel
theorem dX5_digest_140 : decode cX5_digest 140 = .ok (.getfield 35, 3) := by decide +kernel
theorem dX5_digest_143 : decode cX5_digest 143 = .ok (.bipush 6, 2) := by decide +kernel
theorem dX5_digest_145 : decode cX5_digest 145 = .ok (.iload_n 3, 1) := by decide +kernel
theorem dX5_digest_146 : decode cX5_digest 146 = .ok (.imul, 1) := by decide +kernel
theorem dX5_digest_147 : decode cX5_digest 147 = .ok (.iload 4, 2) := by decide +kernel
theorem dX5_digest_149 : decode cX5_digest 149 = .ok (.iadd, 1) := by decide +kernel
theorem dX5_digest_150 : decode cX5_digest 150 = .ok (.iaload, 1) := by decide +kernel
theorem dX5_digest_151 : decode cX5_digest 151 = .ok (.i2l, 1) := by decide +kernel
theorem dX5_digest_152 : decode cX5_digest 152 = .ok (.ladd, 1) := by decide +kernel
theorem dX5_digest_153 : decode cX5_digest 153 = .ok (.lstore_n 1, 1) := by decide +kernel
theorem dX5_digest_154 : decode cX5_digest 154 = .ok (.iinc 4 1, 3) := by decide +kernel
theorem dX5_digest_157 : decode cX5_digest 157 = .ok (.goto (-34), 3) := by decide +kernel
theorem dX5_digest_160 : decode cX5_digest 160 = .ok (.iinc 3 1, 3) := by decide +kernel
theorem dX5_digest_163 : decode cX5_digest 163 = .ok (.goto (-65), 3) := by decide +kernel
theorem dX5_digest_166 : decode cX5_digest 166 = .ok (.iconst 0, 1) := by decide +kernel
theorem dX5_digest_167 : decode cX5_digest 167 = .ok (.istore_n 3, 1) := by decide +kernel
theorem dX5_digest_168 : decode cX5_digest 168 = .ok (.iload_n 3, 1) := by decide +kernel
theorem dX5_digest_169 : decode cX5_digest 169 = .ok (.aload_n 0, 1) := by decide +kernel
theorem dX5_digest_170 : decode cX5_digest 170 = .ok (.getfield 42, 3) := by decide +kernel
theorem dX5_digest_173 : decode cX5_digest 173 = .ok (.if_icmp .ge 23, 3) := by decide +kernel
theorem dX5_digest_176 : decode cX5_digest 176 = .ok (.ldc2_w 153, 3) := by decide +kernel
theorem dX5_digest_179 : decode cX5_digest 179 = .ok (.lload_n 1, 1) := by decide +kernel
theorem dX5_digest_180 : decode cX5_digest 180 = .ok (.lmul, 1) := by decide +kernel
theorem dX5_digest_181 : decode cX5_digest 181 = .ok (.aload_n 0, 1) := by decide +kernel
theorem dX5_digest_182 : decode cX5_digest 182 = .ok (.getfield 7, 3) := by decide +kernel
theorem dX5_digest_185 : decode cX5_digest 185 = .ok (.iload_n 3, 1) := by decide +kernel
theorem dX5_digest_186 : decode cX5_digest 186 = .ok (.iaload, 1) := by decide +kernel
theorem dX5_digest_187 : decode cX5_digest 187 = .ok (.i2l, 1) := by decide +kernel
theorem dX5_digest_188 : decode cX5_digest 188 = .ok (.ladd, 1) := by decide +kernel
theorem dX5_digest_189 : decode cX5_digest 189 = .ok (.lstore_n 1, 1) := by decide +kernel
theorem dX5_digest_190 : decode cX5_digest 190 = .ok (.iinc 3 1, 3) := by decide +kernel
theorem dX5_digest_193 : decode cX5_digest 193 = .ok (.goto (-25), 3) := by decide +kernel
theorem dX5_digest_196 : decode cX5_digest 196 = .ok (.ldc2_w 153, 3) := by decide +kernel
theorem dX5_digest_199 : decode cX5_digest 199 = .ok (.lload_n 1, 1) := by decide +kernel
theorem dX5_digest_200 : decode cX5_digest 200 = .ok (.lmul, 1) := by decide +kernel
theorem dX5_digest_201 : decode cX5_digest 201 = .ok (.aload_n 0, 1) := by decide +kernel
theorem dX5_digest_202 : decode cX5_digest 202 = .ok (.getfield 139, 3) := by decide +kernel
theorem dX5_digest_205 : decode cX5_digest 205 = .ok (.i2l, 1) := by decide +kernel
theorem dX5_digest_206 : decode cX5_digest 206 = .ok (.ladd, 1) := by decide +kernel
theorem dX5_digest_207 : decode cX5_digest 207 = .ok (.lstore_n 1, 1) := by decide +kernel
theorem dX5_digest_208 : decode cX5_digest 208 = .ok (.ldc2_w 153, 3) := by decide +kernel
theorem dX5_digest_211 : decode cX5_digest 211 = .ok (.lload_n 1, 1) := by decide +kernel
theorem dX5_digest_212 : decode cX5_digest 212 = .ok (.lmul, 1) := by decide +kernel
theorem dX5_digest_213 : decode cX5_digest 213 = .ok (.aload_n 0, 1) := by decide +kernel
theorem dX5_digest_214 : decode cX5_digest 214 = .ok (.getfield 148, 3) := by decide +kernel
theorem dX5_digest_217 : decode cX5_digest 217 = .ok (.i2l, 1) := by decide +kernel
theorem dX5_digest_218 : decode cX5_digest 218 = .ok (.ladd, 1) := by decide +kernel
theorem dX5_digest_219 : decode cX5_digest 219 = .ok (.lreturn, 1) := by decide +kernel
theorem dJ6_bitCount_0f7a4_0 : decode cJ6_bitCount_0f7a4 0 = .ok (.iload_n 0, 1) := by decide +kernel
theorem dJ6_bitCount_0f7a4_1 : decode cJ6_bitCount_0f7a4 1 = .ok (.iload_n 0, 1) := by decide +kernel
theorem dJ6_bitCount_0f7a4_2 : decode cJ6_bitCount_0f7a4 2 = .ok (.iconst 1, 1) := by decide +kernel
theorem dJ6_bitCount_0f7a4_3 : decode cJ6_bitCount_0f7a4 3 = .ok (.iushr, 1) := by decide +kernel
theorem dJ6_bitCount_0f7a4_4 : decode cJ6_bitCount_0f7a4 4 = .ok (.ldc_w 265, 3) := by decide +kernel
theorem dJ6_bitCount_0f7a4_7 : decode cJ6_bitCount_0f7a4 7 = .ok (.iand, 1) := by decide +kernel
theorem dJ6_bitCount_0f7a4_8 : decode cJ6_bitCount_0f7a4 8 = .ok (.isub, 1) := by decide +kernel
theorem dJ6_bitCount_0f7a4_9 : decode cJ6_bitCount_0f7a4 9 = .ok (.istore_n 0, 1) := by decide +kernel
theorem dJ6_bitCount_0f7a4_10 : decode cJ6_bitCount_0f7a4 10 = .ok (.iload_n 0, 1) := by decide +kernel
theorem dJ6_bitCount_0f7a4_11 : decode cJ6_bitCount_0f7a4 11 = .ok (.ldc_w 266, 3) := by decide +kernel
theorem dJ6_bitCount_0f7a4_14 : decode cJ6_bitCount_0f7a4 14 = .ok (.iand, 1) := by decide +kernel
theorem dJ6_bitCount_0f7a4_15 : decode cJ6_bitCount_0f7a4 15 = .ok (.iload_n 0, 1) := by decide +kernel
theorem dJ6_bitCount_0f7a4_16 : decode cJ6_bitCount_0f7a4 16 = .ok (.iconst 2, 1) := by decide +kernel
theorem dJ6_bitCount_0f7a4_17 : decode cJ6_bitCount_0f7a4 17 = .ok (.iushr, 1) := by decide +kernel
theorem dJ6_bitCount_0f7a4_18 : decode cJ6_bitCount_0f7a4 18 = .ok (.ldc_w 266, 3) := by decide +kernel
theorem dJ6_bitCount_0f7a4_21 : decode cJ6_bitCount_0f7a4 21 = .ok (.iand, 1) := by decide +kernel
theorem dJ6_bitCount_0f7a4_22 : decode cJ6_bitCount_0f7a4 22 = .ok (.iadd, 1) := by decide +kernel
theorem dJ6_bitCount_0f7a4_23 : decode cJ6_bitCount_0f7a4 23 = .ok (.istore_n 0, 1) := by decide +kernel
theorem dJ6_bitCount_0f7a4_24 : decode cJ6_bitCount_0f7a4 24 = .ok (.iload_n 0, 1) := by decide +kernel
theorem dJ6_bitCount_0f7a4_25 : decode cJ6_bitCount_0f7a4 25 = .ok (.iload_n 0, 1) := by decide +kernel
theorem dJ6_bitCount_0f7a4_26 : decode cJ6_bitCount_0f7a4 26 = .ok (.iconst 4, 1) := by decide +kernel
theorem dJ6_bitCount_0f7a4_27 : decode cJ6_bitCount_0f7a4 27 = .ok (.iushr, 1) := by decide +kernel
theorem dJ6_bitCount_0f7a4_28 : decode cJ6_bitCount_0f7a4 28 = .ok (.iadd, 1) := by decide +kernel
theorem dJ6_bitCount_0f7a4_29 : decode cJ6_bitCount_0f7a4 29 = .ok (.ldc_w 267, 3) := by decide +kernel
theorem dJ6_bitCount_0f7a4_32 : decode cJ6_bitCount_0f7a4 32 = .ok (.iand, 1) := by decide +kernel
theorem dJ6_bitCount_0f7a4_33 : decode cJ6_bitCount_0f7a4 33 = .ok (.istore_n 0, 1) := by decide +kernel
theorem dJ6_bitCount_0f7a4_34 : decode cJ6_bitCount_0f7a4 34 = .ok (.iload_n 0, 1) := by decide +kernel
theorem dJ6_bitCount_0f7a4_35 : decode cJ6_bitCount_0f7a4 35 = .ok (.iload_n 0, 1) := by decide +kernel
theorem dJ6_bitCount_0f7a4_36 : decode cJ6_bitCount_0f7a4 36 = .ok (.bipush 8, 2) := by decide +kernel
theorem dJ6_bitCount_0f7a4_38 : decode cJ6_bitCount_0f7a4 38 = .ok (.iushr, 1) := by decide +kernel
theorem dJ6_bitCount_0f7a4_39 : decode cJ6_bitCount_0f7a4 39 = .ok (.iadd, 1) := by decide +kernel
theorem dJ6_bitCount_0f7a4_40 : decode cJ6_bitCount_0f7a4 40 = .ok (.istore_n 0, 1) := by decide +kernel
theorem dJ6_bitCount_0f7a4_41 : decode cJ6_bitCount_0f7a4 41 = .ok (.iload_n 0, 1) := by decide +kernel
theorem dJ6_bitCount_0f7a4_42 : decode cJ6_bitCount_0f7a4 42 = .ok (.iload_n 0, 1) := by decide +kernel
theorem dJ6_bitCount_0f7a4_43 : decode cJ6_bitCount_0f7a4 43 = .ok (.bipush 16, 2) := by decide +kernel
theorem dJ6_bitCount_0f7a4_45 : decode cJ6_bitCount_0f7a4 45 = .ok (.iushr, 1) := by decide +kernel
theorem dJ6_bitCount_0f7a4_46 : decode cJ6_bitCount_0f7a4 46 = .ok (.iadd, 1) := by decide +kernel
theorem dJ6_bitCount_0f7a4_47 : decode cJ6_bitCount_0f7a4 47 = .ok (.istore_n 0, 1) := by decide +kernel
theorem dJ6_bitCount_0f7a4_48 : decode cJ6_bitCount_0f7a4 48 = .ok (.iload_n 0, 1) := by decide +kernel
theorem dJ6_bitCount_0f7a4_49 : decode cJ6_bitCount_0f7a4 49 = .ok (.bipush 63, 2) := by decide +kernel
theorem dJ6_bitCount_0f7a4_51 : decode cJ6_bitCount_0f7a4 51 = .ok (.iand, 1) := by decide +kernel
theorem dJ6_bitCount_0f7a4_52 : decode cJ6_bitCount_0f7a4 52 = .ok (.ireturn, 1) := by decide +kernel
theorem dJ9_min_7cf53_0 : decode cJ9_min_7cf53 0 = .ok (.iload_n 0, 1) := by decide +kernel
theorem dJ9_min_7cf53_1 : decode cJ9_min_7cf53 1 = .ok (.iload_n 1, 1) := by decide +kernel
theorem dJ9_min_7cf53_2 : decode cJ9_min_7cf53 2 = .ok (.if_icmp .gt 7, 3) := by decide +kernel
theorem dJ9_min_7cf53_5 : decode cJ9_min_7cf53 5 = .ok (.iload_n 0, 1) := by decide +kernel
theorem dJ9_min_7cf53_6 : decode cJ9_min_7cf53 6 = .ok (.goto 4, 3) := by decide +kernel
theorem dJ9_min_7cf53_9 : decode cJ9_min_7cf53 9 = .ok (.iload_n 1, 1) := by decide +kernel
theorem dJ9_min_7cf53_10 : decode cJ9_min_7cf53 10 = .ok (.ireturn, 1) := by decide +kernel
theorem dJ7_fill_53178_0 : decode cJ7_fill_53178 0 = .ok (.iconst 0, 1) := by decide +kernel
theorem dJ7_fill_53178_1 : decode cJ7_fill_53178 1 = .ok (.istore_n 2, 1) := by decide +kernel
theorem dJ7_fill_53178_2 : decode cJ7_fill_53178 2 = .ok (.aload_n 0, 1) := by decide +kernel
theorem dJ7_fill_53178_3 : decode cJ7_fill_53178 3 = .ok (.arraylength, 1) := by decide +kernel
theorem dJ7_fill_53178_4 : decode cJ7_fill_53178 4 = .ok (.istore_n 3, 1) := by decide +kernel
theorem dJ7_fill_53178_5 : decode cJ7_fill_53178 5 = .ok (.iload_n 2, 1) := by decide +kernel
theorem dJ7_fill_53178_6 : decode cJ7_fill_53178 6 = .ok (.iload_n 3, 1) := by decide +kernel
theorem dJ7_fill_53178_7 : decode cJ7_fill_53178 7 = .ok (.if_icmp .ge 13, 3) := by decide +kernel
theorem dJ7_fill_53178_10 : decode cJ7_fill_53178 10 = .ok (.aload_n 0, 1) := by decide +kernel
theorem dJ7_fill_53178_11 : decode cJ7_fill_53178 11 = .ok (.iload_n 2, 1) := by decide +kernel
theorem dJ7_fill_53178_12 : decode cJ7_fill_53178 12 = .ok (.iload_n 1, 1) := by decide +kernel
theorem dJ7_fill_53178_13 : decode cJ7_fill_53178 13 = .ok (.iastore, 1) := by decide +kernel
theorem dJ7_fill_53178_14 : decode cJ7_fill_53178 14 = .ok (.iinc 2 1, 3) := by decide +kernel
theorem dJ7_fill_53178_17 : decode cJ7_fill_53178 17 = .ok (.goto (-12), 3) := by decide +kernel
theorem dJ7_fill_53178_20 : decode cJ7_fill_53178 20 = .ok (.return_, 1) := by decide +kernel
set_option maxRecDepth 20000 in
theorem ggL_law_X4_init : GoodIn wsL_law wsX4_init := goodIn_r _ [8, 9, 10, 11, 12, 13, 14, 15, 16, 17, 18, 19, 20, 21, 22, 23, 24, 25, 26, 27, 28, 29, 30, 31, 32, 33, 34, 35, 36, 37, 38, 39, 40, 41, 42, 43, 44, 45, 46, 47, 48, 49, 50, 51, 52, 53, 54, 55, 56, 57, 58, 59, 60, 61, 62, 63, 64, 65, 66, 67, 68, 69, 70, 71, 648, 649, 650, 623, 624, 625, 626, 627, 628, 629, 630, 631, 651, 652, 653, 654, 655, 656, 657, 658, 659, 660] (by decide +kernel) (by decide +kernel)
set_option maxRecDepth 20000 in
theorem gL_law_X4_init : GoodIn wsL_law (wsX4_init) := ggL_law_X4_init
set_option maxRecDepth 20000 in
theorem ggL_law_X5_init : GoodIn wsL_law wsX5_init := goodIn_r _ [74, 75, 10, 11, 30, 76, 77, 78, 79, 80, 81, 82, 83, 84, 85, 86, 87, 88, 89, 90, 5, 91, 92, 93, 94, 95, 96, 632, 633, 634, 635, 636, 637, 638, 639, 640, 641, 642, 643, 644, 645, 646, 647] (by decide +kernel) (by decide +kernel)
set_option maxRecDepth 20000 in
theorem gL_law_X5_init : GoodIn wsL_law (wsX5_init) := ggL_law_X5_init
set_option maxRecDepth 20000 in
theorem ggL_law_X4_field : GoodIn wsL_law wsX4_field := goodIn_r _ [100, 15, 17, 23, 27, 101, 102, 2, 103, 36, 14, 37, 38, 39, 40, 41, 42, 43, 44, 45, 104, 19, 105, 106, 107, 65, 26, 66, 67, 61, 63, 68, 69, 70, 71, 623, 624, 625, 626, 627, 628, 629, 630, 631, 655, 656, 657, 648, 649, 650, 651, 652, 653, 654, 658, 659, 660] (by decide +kernel) (by decide +kernel)
set_option maxRecDepth 20000 in
theorem gL_law_X4_field : GoodIn wsL_law (wsV RL 13 RX4 yX4_field wsX4_field) := goodIn_app (goodIn_of _ (by decide +kernel)) ggL_law_X4_field
set_option maxRecDepth 20000 in
theorem ggL_law_X5_field : GoodIn wsL_law wsX5_field := goodIn_r _ [111, 86, 87, 92, 112, 113, 5, 114, 88, 89, 90, 91, 80, 93, 76, 94, 95, 96, 632, 633, 634, 635, 636, 637, 638, 639, 640, 641, 642, 643, 644, 645, 646, 647] (by decide +kernel) (by decide +kernel)
set_option maxRecDepth 20000 in
theorem gL_law_X5_field : GoodIn wsL_law (wsV RL 17 RX5 yX5_field wsX5_field) := goodIn_app (goodIn_of _ (by decide +kernel)) ggL_law_X5_field
set_option maxRecDepth 20000 in
theorem ggL_law_X4_plus : GoodIn wsL_law wsX4_plus := goodIn_r _ [118, 15, 119, 14, 120, 121, 41, 122, 123, 124, 40, 39, 623, 624, 625, 626, 627, 628, 629, 630, 631, 648, 649, 650] (by decide +kernel) (by decide +kernel)
set_option maxRecDepth 20000 in
theorem gL_law_X4_plus : GoodIn wsL_law (wsV RL 18 RX4 yX4_plus wsX4_plus) := goodIn_app (goodIn_of _ (by decide +kernel)) ggL_law_X4_plus
set_option maxRecDepth 20000 in
theorem ggL_law_X5_plus : GoodIn wsL_law wsX5_plus := goodIn_r _ [128, 86, 129, 130, 131, 5, 132, 92, 112, 113, 114, 133, 134, 135, 136, 87, 137, 138, 139, 140, 94, 95, 96, 632, 633, 634, 635, 636, 637, 638, 639, 640, 641, 642, 643, 644, 645, 646, 647] (by decide +kernel) (by decide +kernel)
set_option maxRecDepth 20000 in
theorem gL_law_X5_plus : GoodIn wsL_law (wsV RL 22 RX5 yX5_plus wsX5_plus) := goodIn_app (goodIn_of _ (by decide +kernel)) ggL_law_X5_plus
set_option maxRecDepth 20000 in
theorem ggL_law_X4_times : GoodIn wsL_law wsX4_times := goodIn_r _ [144, 15, 119, 14, 120, 121, 41, 145, 146, 147, 40, 39, 623, 624, 625, 626, 627, 628, 629, 630, 631, 648, 649, 650] (by decide +kernel) (by decide +kernel)
set_option maxRecDepth 20000 in
theorem gL_law_X4_times : GoodIn wsL_law (wsV RL 23 RX4 yX4_times wsX4_times) := goodIn_app (goodIn_of _ (by decide +kernel)) ggL_law_X4_times
set_option maxRecDepth 20000 in
theorem ggL_law_X5_times : GoodIn wsL_law wsX5_times := goodIn_r _ [151, 129, 130, 131, 5, 132, 92, 112, 113, 114, 152, 153, 154, 155, 87, 86, 137, 138, 139, 140, 94, 95, 96, 632, 633, 634, 635, 636, 637, 638, 639, 640, 641, 642, 643, 644, 645, 646, 647] (by decide +kernel) (by decide +kernel)
set_option maxRecDepth 20000 in
theorem gL_law_X5_times : GoodIn wsL_law (wsV RL 26 RX5 yX5_times wsX5_times) := goodIn_app (goodIn_of _ (by decide +kernel)) ggL_law_X5_times
set_option maxRecDepth 20000 in
theorem ggL_law_X4_add : GoodIn wsL_law wsX4_add := goodIn_r _ [159, 15, 31, 17, 160, 161, 2, 162, 119, 14, 120, 121, 41, 163, 164, 165, 40, 39, 166, 19, 167, 168, 50, 51, 169, 170, 171, 172, 173, 174, 175, 176, 49, 177, 178, 179, 180, 181, 182, 183, 184, 107, 185, 186, 187, 188, 189, 190, 191, 192, 193, 194, 195, 196, 197, 198, 199, 200, 201, 202, 203, 204, 623, 624, 625, 626, 627, 628, 629, 630, 631, 648, 649, 650, 651, 652, 653, 654] (by decide +kernel) (by decide +kernel)
set_option maxRecDepth 20000 in
theorem gL_law_X4_add : GoodIn wsL_law (wsV RL 27 RX4 yX4_add wsX4_add) := goodIn_app (goodIn_of _ (by decide +kernel)) ggL_law_X4_add
set_option maxRecDepth 20000 in
theorem ggL_law_X5_add : GoodIn wsL_law wsX5_add := goodIn_r _ [208, 209, 77, 210, 211, 5, 212, 213, 112, 113, 114, 129, 130, 131, 132, 92, 214, 215, 216, 217, 80, 81, 218, 219, 220, 221, 87, 86, 137, 138, 139, 140, 94, 95, 96, 133, 134, 135, 136, 222, 223, 224, 225, 632, 633, 634, 635, 636, 637, 638, 639, 640, 641, 642, 643, 644, 645, 646, 647] (by decide +kernel) (by decide +kernel)
set_option maxRecDepth 20000 in
theorem gL_law_X5_add : GoodIn wsL_law (wsV RL 30 RX5 yX5_add wsX5_add) := goodIn_app (goodIn_of _ (by decide +kernel)) ggL_law_X5_add
set_option maxRecDepth 20000 in
theorem ggL_law_X4_clear : GoodIn wsL_law wsX4_clear := goodIn_r _ [229, 17, 160, 161, 2, 162, 195, 19, 196, 197, 107, 198, 199, 200, 201, 202, 203, 204, 104, 105, 106, 623, 624, 625, 626, 627, 628, 629, 630, 631, 651, 652, 653, 654] (by decide +kernel) (by decide +kernel)
set_option maxRecDepth 20000 in
theorem gL_law_X4_clear : GoodIn wsL_law (wsV RL 31 RX4 yX4_clear wsX4_clear) := goodIn_app (goodIn_of _ (by decide +kernel)) ggL_law_X4_clear
set_option maxRecDepth 20000 in
theorem ggL_law_X5_clear : GoodIn wsL_law wsX5_clear := goodIn_r _ [233, 80, 210, 211, 5, 212, 213, 112, 113, 114, 632, 633, 634, 635, 636, 637, 638, 639, 640, 641, 642, 643, 644, 645, 646, 647] (by decide +kernel) (by decide +kernel)
set_option maxRecDepth 20000 in
theorem gL_law_X5_clear : GoodIn wsL_law (wsV RL 35 RX5 yX5_clear wsX5_clear) := goodIn_app (goodIn_of _ (by decide +kernel)) ggL_law_X5_clear
set_option maxRecDepth 20000 in
theorem ggL_law_X4_dim : GoodIn wsL_law wsX4_dim := goodIn_r _ [237, 17, 160, 161, 2, 162, 195, 19, 196, 197, 107, 198, 199, 200, 201, 202, 203, 204, 623, 624, 625, 626, 627, 628, 629, 630, 631, 651, 652, 653, 654] (by decide +kernel) (by decide +kernel)
set_option maxRecDepth 20000 in
theorem gL_law_X4_dim : GoodIn wsL_law (wsV RL 36 RX4 yX4_dim wsX4_dim) := goodIn_app (goodIn_of _ (by decide +kernel)) ggL_law_X4_dim
set_option maxRecDepth 20000 in
theorem ggL_law_X5_dim : GoodIn wsL_law wsX5_dim := goodIn_r _ [241, 80, 210, 211, 5, 212, 213, 112, 113, 114, 632, 633, 634, 635, 636, 637, 638, 639, 640, 641, 642, 643, 644, 645, 646, 647] (by decide +kernel) (by decide +kernel)
set_option maxRecDepth 20000 in
theorem gL_law_X5_dim : GoodIn wsL_law (wsV RL 39 RX5 yX5_dim wsX5_dim) := goodIn_app (goodIn_of _ (by decide +kernel)) ggL_law_X5_dim
set_option maxRecDepth 20000 in
theorem ggL_law_X4_row : GoodIn wsL_law wsX4_row := goodIn_r _ [245, 17, 160, 161, 2, 162, 246, 19, 247, 248, 51, 49, 181, 182, 183, 184, 107, 249, 14, 250, 251, 40, 39, 623, 624, 625, 626, 627, 628, 629, 630, 631, 651, 652, 653, 654, 648, 649, 650] (by decide +kernel) (by decide +kernel)
set_option maxRecDepth 20000 in
theorem gL_law_X4_row : GoodIn wsL_law (wsV RL 40 RX4 yX4_row wsX4_row) := goodIn_app (goodIn_of _ (by decide +kernel)) ggL_law_X4_row
set_option maxRecDepth 20000 in
theorem ggL_law_X5_row : GoodIn wsL_law wsX5_row := goodIn_r _ [255, 80, 81, 210, 211, 5, 212, 213, 112, 113, 114, 632, 633, 634, 635, 636, 637, 638, 639, 640, 641, 642, 643, 644, 645, 646, 647] (by decide +kernel) (by decide +kernel)
set_option maxRecDepth 20000 in
theorem gL_law_X5_row : GoodIn wsL_law (wsV RL 43 RX5 yX5_row wsX5_row) := goodIn_app (goodIn_of _ (by decide +kernel)) ggL_law_X5_row
set_option maxRecDepth 20000 in
theorem ggL_law_X4_join : GoodIn wsL_law wsX4_join := goodIn_r _ [259, 28, 17, 160, 161, 2, 162, 260, 19, 261, 262, 107, 49, 169, 170, 171, 172, 263, 264, 265, 51, 50, 181, 182, 183, 184, 173, 174, 175, 176, 177, 178, 179, 180, 185, 14, 186, 187, 40, 39, 188, 189, 190, 191, 192, 193, 194, 266, 267, 268, 269, 195, 196, 197, 198, 199, 200, 201, 202, 203, 204, 623, 624, 625, 626, 627, 628, 629, 630, 631, 651, 652, 653, 654, 648, 649, 650] (by decide +kernel) (by decide +kernel)
set_option maxRecDepth 20000 in
theorem gL_law_X4_join : GoodIn wsL_law (wsV RL 44 RX4 yX4_join wsX4_join) := goodIn_app (goodIn_of _ (by decide +kernel)) ggL_law_X4_join
set_option maxRecDepth 20000 in
theorem ggL_law_X5_join : GoodIn wsL_law wsX5_join := goodIn_r _ [273, 274, 275, 5, 276, 210, 211, 212, 213, 112, 113, 114, 277, 278, 279, 280, 209, 214, 215, 216, 217, 80, 77, 81, 218, 219, 220, 221, 87, 86, 137, 138, 139, 140, 94, 95, 96, 133, 134, 135, 136, 222, 223, 224, 225, 632, 633, 634, 635, 636, 637, 638, 639, 640, 641, 642, 643, 644, 645, 646, 647] (by decide +kernel) (by decide +kernel)
set_option maxRecDepth 20000 in
theorem gL_law_X5_join : GoodIn wsL_law (wsV RL 47 RX5 yX5_join wsX5_join) := goodIn_app (goodIn_of _ (by decide +kernel)) ggL_law_X5_join
set_option maxRecDepth 20000 in
theorem ggL_law_X4_meet : GoodIn wsL_law wsX4_meet := goodIn_r _ [284, 28, 17, 29, 160, 161, 2, 162, 285, 19, 286, 287, 51, 50, 49, 288, 104, 105, 106, 107, 181, 182, 183, 184, 289, 69, 70, 71, 173, 174, 175, 176, 177, 178, 179, 180, 185, 14, 186, 187, 40, 39, 188, 189, 190, 191, 192, 193, 194, 263, 264, 265, 169, 170, 171, 172, 266, 267, 268, 269, 260, 261, 262, 195, 196, 197, 198, 199, 200, 201, 202, 203, 204, 623, 624, 625, 626, 627, 628, 629, 630, 631, 651, 652, 653, 654, 648, 649, 650] (by decide +kernel) (by decide +kernel)
set_option maxRecDepth 20000 in
theorem gL_law_X4_meet : GoodIn wsL_law (wsV RL 48 RX4 yX4_meet wsX4_meet) := goodIn_app (goodIn_of _ (by decide +kernel)) ggL_law_X4_meet
set_option maxRecDepth 20000 in
theorem ggL_law_X5_meet : GoodIn wsL_law wsX5_meet := goodIn_r _ [293, 209, 82, 77, 274, 275, 5, 276, 210, 211, 212, 213, 112, 113, 114, 214, 215, 216, 217, 80, 81, 294, 295, 296, 297, 79, 87, 86, 298, 299, 300, 301, 137, 138, 139, 140, 94, 95, 96, 218, 219, 220, 221, 133, 134, 135, 136, 222, 223, 224, 225, 632, 633, 634, 635, 636, 637, 638, 639, 640, 641, 642, 643, 644, 645, 646, 647] (by decide +kernel) (by decide +kernel)
set_option maxRecDepth 20000 in
theorem gL_law_X5_meet : GoodIn wsL_law (wsV RL 51 RX5 yX5_meet wsX5_meet) := goodIn_app (goodIn_of _ (by decide +kernel)) ggL_law_X5_meet
set_option maxRecDepth 20000 in
theorem ggL_law_X4_dual : GoodIn wsL_law wsX4_dual := goodIn_r _ [305, 28, 17, 160, 161, 2, 162, 285, 19, 286, 287, 51, 50, 49, 288, 104, 105, 106, 107, 181, 182, 183, 184, 289, 69, 70, 71, 173, 174, 175, 176, 177, 178, 179, 180, 185, 14, 186, 187, 40, 39, 188, 189, 190, 191, 192, 193, 194, 266, 267, 268, 269, 260, 261, 262, 169, 170, 171, 172, 195, 196, 197, 198, 199, 200, 201, 202, 203, 204, 623, 624, 625, 626, 627, 628, 629, 630, 631, 651, 652, 653, 654, 648, 649, 650] (by decide +kernel) (by decide +kernel)
set_option maxRecDepth 20000 in
theorem gL_law_X4_dual : GoodIn wsL_law (wsV RL 52 RX4 yX4_dual wsX4_dual) := goodIn_app (goodIn_of _ (by decide +kernel)) ggL_law_X4_dual
set_option maxRecDepth 20000 in
theorem ggL_law_X5_dual : GoodIn wsL_law wsX5_dual := goodIn_r _ [309, 209, 274, 275, 5, 276, 210, 211, 212, 213, 112, 113, 114, 214, 215, 216, 217, 80, 77, 81, 294, 295, 296, 297, 79, 87, 86, 298, 299, 300, 301, 137, 138, 139, 140, 94, 95, 96, 218, 219, 220, 221, 133, 134, 135, 136, 222, 223, 224, 225, 632, 633, 634, 635, 636, 637, 638, 639, 640, 641, 642, 643, 644, 645, 646, 647] (by decide +kernel) (by decide +kernel)
set_option maxRecDepth 20000 in
theorem gL_law_X5_dual : GoodIn wsL_law (wsV RL 55 RX5 yX5_dual wsX5_dual) := goodIn_app (goodIn_of _ (by decide +kernel)) ggL_law_X5_dual
set_option maxRecDepth 20000 in
theorem ggL_law_X4_has : GoodIn wsL_law wsX4_has := goodIn_r _ [313, 15, 31, 17, 160, 161, 2, 162, 119, 14, 120, 121, 41, 163, 164, 165, 40, 39, 314, 19, 315, 316, 51, 181, 182, 183, 184, 107, 317, 318, 319, 320, 49, 623, 624, 625, 626, 627, 628, 629, 630, 631, 648, 649, 650, 651, 652, 653, 654] (by decide +kernel) (by decide +kernel)
set_option maxRecDepth 20000 in
theorem gL_law_X4_has : GoodIn wsL_law (wsV RL 56 RX4 yX4_has wsX4_has) := goodIn_app (goodIn_of _ (by decide +kernel)) ggL_law_X4_has
set_option maxRecDepth 20000 in
theorem ggL_law_X5_has : GoodIn wsL_law wsX5_has := goodIn_r _ [324, 210, 211, 5, 212, 213, 112, 113, 114, 129, 130, 131, 132, 92, 325, 326, 327, 328, 80, 81, 86, 298, 299, 300, 301, 137, 138, 139, 140, 87, 94, 95, 96, 133, 134, 135, 136, 632, 633, 634, 635, 636, 637, 638, 639, 640, 641, 642, 643, 644, 645, 646, 647] (by decide +kernel) (by decide +kernel)
set_option maxRecDepth 20000 in
theorem gL_law_X5_has : GoodIn wsL_law (wsV RL 59 RX5 yX5_has wsX5_has) := goodIn_app (goodIn_of _ (by decide +kernel)) ggL_law_X5_has
set_option maxRecDepth 20000 in
theorem ggL_law_X4_within : GoodIn wsL_law wsX4_within := goodIn_r _ [332, 17, 160, 161, 2, 162, 333, 19, 334, 335, 51, 49, 181, 182, 183, 184, 107, 336, 314, 315, 316, 317, 318, 319, 320, 623, 624, 625, 626, 627, 628, 629, 630, 631, 651, 652, 653, 654, 648, 649, 650] (by decide +kernel) (by decide +kernel)
set_option maxRecDepth 20000 in
theorem gL_law_X4_within : GoodIn wsL_law (wsV RL 60 RX4 yX4_within wsX4_within) := goodIn_app (goodIn_of _ (by decide +kernel)) ggL_law_X4_within
set_option maxRecDepth 20000 in
theorem ggL_law_X5_within : GoodIn wsL_law wsX5_within := goodIn_r _ [340, 80, 81, 210, 211, 5, 212, 213, 112, 113, 114, 325, 326, 327, 328, 86, 298, 299, 300, 301, 137, 138, 139, 140, 87, 94, 95, 96, 133, 134, 135, 136, 632, 633, 634, 635, 636, 637, 638, 639, 640, 641, 642, 643, 644, 645, 646, 647] (by decide +kernel) (by decide +kernel)
set_option maxRecDepth 20000 in
theorem gL_law_X5_within : GoodIn wsL_law (wsV RL 63 RX5 yX5_within wsX5_within) := goodIn_app (goodIn_of _ (by decide +kernel)) ggL_law_X5_within
set_option maxRecDepth 20000 in
theorem ggL_law_X4_apart : GoodIn wsL_law wsX4_apart := goodIn_r _ [344, 28, 17, 160, 161, 2, 162, 345, 19, 346, 347, 348, 260, 261, 262, 107, 49, 169, 170, 171, 172, 349, 263, 264, 265, 51, 50, 181, 182, 183, 184, 173, 174, 175, 176, 177, 178, 179, 180, 185, 14, 186, 187, 40, 39, 188, 189, 190, 191, 192, 193, 194, 350, 195, 196, 197, 198, 199, 200, 201, 202, 203, 204, 623, 624, 625, 626, 627, 628, 629, 630, 631, 651, 652, 653, 654, 648, 649, 650] (by decide +kernel) (by decide +kernel)
set_option maxRecDepth 20000 in
theorem gL_law_X4_apart : GoodIn wsL_law (wsV RL 64 RX4 yX4_apart wsX4_apart) := goodIn_app (goodIn_of _ (by decide +kernel)) ggL_law_X4_apart
set_option maxRecDepth 20000 in
theorem ggL_law_X5_apart : GoodIn wsL_law wsX5_apart := goodIn_r _ [354, 80, 210, 211, 5, 212, 213, 112, 113, 114, 277, 278, 279, 280, 209, 214, 215, 216, 217, 77, 81, 218, 219, 220, 221, 87, 86, 137, 138, 139, 140, 94, 95, 96, 133, 134, 135, 136, 632, 633, 634, 635, 636, 637, 638, 639, 640, 641, 642, 643, 644, 645, 646, 647] (by decide +kernel) (by decide +kernel)
set_option maxRecDepth 20000 in
theorem gL_law_X5_apart : GoodIn wsL_law (wsV RL 67 RX5 yX5_apart wsX5_apart) := goodIn_app (goodIn_of _ (by decide +kernel)) ggL_law_X5_apart
set_option maxRecDepth 20000 in
theorem ggL_law_X4_number : GoodIn wsL_law wsX4_number := goodIn_r _ [358, 17, 160, 161, 2, 162, 359, 19, 360, 361, 51, 107, 350, 195, 196, 197, 198, 199, 200, 201, 202, 203, 204, 362, 363, 364, 365, 43, 14, 44, 45, 39, 366, 367, 368, 369, 49, 181, 182, 183, 184, 623, 624, 625, 626, 627, 628, 629, 630, 631, 651, 652, 653, 654, 648, 649, 650] (by decide +kernel) (by decide +kernel)
set_option maxRecDepth 20000 in
theorem gL_law_X4_number : GoodIn wsL_law (wsV RL 68 RX4 yX4_number wsX4_number) := goodIn_app (goodIn_of _ (by decide +kernel)) ggL_law_X4_number
set_option maxRecDepth 20000 in
theorem ggL_law_X5_number : GoodIn wsL_law wsX5_number := goodIn_r _ [373, 80, 83, 81, 86, 87, 210, 211, 5, 212, 213, 112, 113, 114, 374, 375, 376, 377, 298, 299, 300, 301, 137, 138, 139, 140, 94, 95, 96, 378, 379, 380, 381, 382, 383, 384, 385, 386, 387, 388, 389, 632, 633, 634, 635, 636, 637, 638, 639, 640, 641, 642, 643, 644, 645, 646, 647] (by decide +kernel) (by decide +kernel)
set_option maxRecDepth 20000 in
theorem gL_law_X5_number : GoodIn wsL_law (wsV RL 71 RX5 yX5_number wsX5_number) := goodIn_app (goodIn_of _ (by decide +kernel)) ggL_law_X5_number
set_option maxRecDepth 20000 in
theorem ggL_law_X4_numbered : GoodIn wsL_law wsX4_numbered := goodIn_r _ [393, 15, 17, 160, 161, 2, 162, 394, 395, 396, 397, 398, 14, 399, 400, 42, 43, 44, 45, 39, 401, 19, 402, 403, 51, 107, 198, 199, 200, 201, 202, 203, 204, 362, 363, 364, 365, 404, 405, 406, 407, 49, 289, 69, 70, 71, 181, 182, 183, 184, 623, 624, 625, 626, 627, 628, 629, 630, 631, 648, 649, 650, 651, 652, 653, 654] (by decide +kernel) (by decide +kernel)
set_option maxRecDepth 20000 in
theorem gL_law_X4_numbered : GoodIn wsL_law (wsV RL 72 RX4 yX4_numbered wsX4_numbered) := goodIn_app (goodIn_of _ (by decide +kernel)) ggL_law_X4_numbered
set_option maxRecDepth 20000 in
theorem ggL_law_X5_numbered : GoodIn wsL_law wsX5_numbered := goodIn_r _ [411, 87, 210, 211, 5, 212, 213, 112, 113, 114, 412, 413, 414, 415, 86, 94, 95, 96, 416, 417, 418, 419, 209, 83, 77, 374, 375, 376, 377, 378, 379, 380, 381, 382, 383, 384, 385, 386, 387, 388, 389, 222, 223, 224, 225, 80, 81, 632, 633, 634, 635, 636, 637, 638, 639, 640, 641, 642, 643, 644, 645, 646, 647] (by decide +kernel) (by decide +kernel)
set_option maxRecDepth 20000 in
theorem gL_law_X5_numbered : GoodIn wsL_law (wsV RL 75 RX5 yX5_numbered wsX5_numbered) := goodIn_app (goodIn_of _ (by decide +kernel)) ggL_law_X5_numbered
set_option maxRecDepth 20000 in
theorem ggL_law_X4_many : GoodIn wsL_law wsX4_many := goodIn_r _ [423, 15, 398, 14, 399, 400, 42, 43, 44, 45, 39, 623, 624, 625, 626, 627, 628, 629, 630, 631, 648, 649, 650] (by decide +kernel) (by decide +kernel)
set_option maxRecDepth 20000 in
theorem gL_law_X4_many : GoodIn wsL_law (wsV RL 76 RX4 yX4_many wsX4_many) := goodIn_app (goodIn_of _ (by decide +kernel)) ggL_law_X4_many
set_option maxRecDepth 20000 in
theorem ggL_law_X5_many : GoodIn wsL_law wsX5_many := goodIn_r _ [427, 87, 412, 413, 414, 5, 415, 86, 112, 113, 114, 94, 95, 96, 632, 633, 634, 635, 636, 637, 638, 639, 640, 641, 642, 643, 644, 645, 646, 647] (by decide +kernel) (by decide +kernel)
set_option maxRecDepth 20000 in
theorem gL_law_X5_many : GoodIn wsL_law (wsV RL 79 RX5 yX5_many wsX5_many) := goodIn_app (goodIn_of _ (by decide +kernel)) ggL_law_X5_many
set_option maxRecDepth 20000 in
theorem ggL_law_X4_over : GoodIn wsL_law wsX4_over := goodIn_r _ [431, 17, 15, 160, 161, 2, 162, 394, 395, 396, 397, 195, 19, 196, 197, 107, 198, 199, 200, 201, 202, 203, 204, 398, 14, 399, 400, 42, 43, 44, 45, 39, 623, 624, 625, 626, 627, 628, 629, 630, 631, 648, 649, 650, 651, 652, 653, 654] (by decide +kernel) (by decide +kernel)
set_option maxRecDepth 20000 in
theorem gL_law_X4_over : GoodIn wsL_law (wsV RL 80 RX4 yX4_over wsX4_over) := goodIn_app (goodIn_of _ (by decide +kernel)) ggL_law_X4_over
set_option maxRecDepth 20000 in
theorem ggL_law_X5_over : GoodIn wsL_law wsX5_over := goodIn_r _ [435, 80, 87, 210, 211, 5, 212, 213, 112, 113, 114, 412, 413, 414, 415, 86, 94, 95, 96, 632, 633, 634, 635, 636, 637, 638, 639, 640, 641, 642, 643, 644, 645, 646, 647] (by decide +kernel) (by decide +kernel)
set_option maxRecDepth 20000 in
theorem gL_law_X5_over : GoodIn wsL_law (wsV RL 83 RX5 yX5_over wsX5_over) := goodIn_app (goodIn_of _ (by decide +kernel)) ggL_law_X5_over
set_option maxRecDepth 20000 in
theorem ggL_law_X4_meeting : GoodIn wsL_law wsX4_meeting := goodIn_r _ [439, 17, 15, 160, 161, 2, 162, 394, 395, 396, 397, 195, 19, 196, 197, 107, 198, 199, 200, 201, 202, 203, 204, 398, 14, 399, 400, 42, 43, 44, 45, 39, 623, 624, 625, 626, 627, 628, 629, 630, 631, 648, 649, 650, 651, 652, 653, 654] (by decide +kernel) (by decide +kernel)
set_option maxRecDepth 20000 in
theorem gL_law_X4_meeting : GoodIn wsL_law (wsV RL 84 RX4 yX4_meeting wsX4_meeting) := goodIn_app (goodIn_of _ (by decide +kernel)) ggL_law_X4_meeting
set_option maxRecDepth 20000 in
theorem ggL_law_X5_meeting : GoodIn wsL_law wsX5_meeting := goodIn_r _ [443, 80, 87, 86, 210, 211, 5, 212, 213, 112, 113, 114, 412, 413, 414, 415, 94, 95, 96, 632, 633, 634, 635, 636, 637, 638, 639, 640, 641, 642, 643, 644, 645, 646, 647] (by decide +kernel) (by decide +kernel)
set_option maxRecDepth 20000 in
theorem gL_law_X5_meeting : GoodIn wsL_law (wsV RL 87 RX5 yX5_meeting wsX5_meeting) := goodIn_app (goodIn_of _ (by decide +kernel)) ggL_law_X5_meeting
set_option maxRecDepth 20000 in
theorem ggL_law_X4_put : GoodIn wsL_law wsX4_put := goodIn_r _ [447, 23, 17, 160, 161, 2, 162, 448, 22, 449, 450, 451, 56, 260, 19, 261, 262, 107, 49, 169, 170, 171, 172, 623, 624, 625, 626, 627, 628, 629, 630, 631, 655, 656, 657, 651, 652, 653, 654] (by decide +kernel) (by decide +kernel)
set_option maxRecDepth 20000 in
theorem gL_law_X4_put : GoodIn wsL_law (wsV RL 88 RX4 yX4_put wsX4_put) := goodIn_app (goodIn_of _ (by decide +kernel)) ggL_law_X4_put
set_option maxRecDepth 20000 in
theorem ggL_law_X5_put : GoodIn wsL_law wsX5_put := goodIn_r _ [455, 93, 209, 210, 211, 5, 212, 213, 112, 113, 114, 214, 215, 216, 217, 80, 77, 81, 456, 457, 458, 459, 84, 85, 632, 633, 634, 635, 636, 637, 638, 639, 640, 641, 642, 643, 644, 645, 646, 647] (by decide +kernel) (by decide +kernel)
set_option maxRecDepth 20000 in
theorem gL_law_X5_put : GoodIn wsL_law (wsV RL 91 RX5 yX5_put wsX5_put) := goodIn_app (goodIn_of _ (by decide +kernel)) ggL_law_X5_put
set_option maxRecDepth 20000 in
theorem ggL_law_X4_empty : GoodIn wsL_law wsX4_empty := goodIn_r _ [463, 23, 623, 624, 625, 626, 627, 628, 629, 630, 631, 655, 656, 657] (by decide +kernel) (by decide +kernel)
set_option maxRecDepth 20000 in
theorem gL_law_X4_empty : GoodIn wsL_law (wsV RL 92 RX4 yX4_empty wsX4_empty) := goodIn_app (goodIn_of _ (by decide +kernel)) ggL_law_X4_empty
set_option maxRecDepth 20000 in
theorem ggL_law_X5_empty : GoodIn wsL_law wsX5_empty := goodIn_r _ [467, 93, 632, 633, 634, 635, 636, 637, 638, 639, 640, 641, 642, 643, 644, 645, 646, 647] (by decide +kernel) (by decide +kernel)
set_option maxRecDepth 20000 in
theorem gL_law_X5_empty : GoodIn wsL_law (wsV RL 96 RX5 yX5_empty wsX5_empty) := goodIn_app (goodIn_of _ (by decide +kernel)) ggL_law_X5_empty
set_option maxRecDepth 20000 in
theorem ggL_law_X4_take : GoodIn wsL_law wsX4_take := goodIn_r _ [471, 23, 160, 161, 2, 162, 266, 267, 268, 269, 17, 260, 19, 261, 262, 107, 49, 169, 170, 171, 172, 195, 196, 197, 198, 199, 200, 201, 202, 203, 204, 623, 624, 625, 626, 627, 628, 629, 630, 631, 655, 656, 657, 651, 652, 653, 654] (by decide +kernel) (by decide +kernel)
set_option maxRecDepth 20000 in
theorem gL_law_X4_take : GoodIn wsL_law (wsV RL 97 RX4 yX4_take wsX4_take) := goodIn_app (goodIn_of _ (by decide +kernel)) ggL_law_X4_take
set_option maxRecDepth 20000 in
theorem ggL_law_X5_take : GoodIn wsL_law wsX5_take := goodIn_r _ [475, 93, 209, 210, 211, 5, 212, 213, 112, 113, 114, 476, 477, 478, 479, 84, 77, 85, 222, 223, 224, 225, 80, 81, 632, 633, 634, 635, 636, 637, 638, 639, 640, 641, 642, 643, 644, 645, 646, 647] (by decide +kernel) (by decide +kernel)
set_option maxRecDepth 20000 in
theorem gL_law_X5_take : GoodIn wsL_law (wsV RL 100 RX5 yX5_take wsX5_take) := goodIn_app (goodIn_of _ (by decide +kernel)) ggL_law_X5_take
set_option maxRecDepth 20000 in
theorem ggL_law_X4_least : GoodIn wsL_law wsX4_least := goodIn_r _ [483, 23, 484, 22, 485, 486, 451, 57, 56, 345, 19, 346, 347, 348, 260, 261, 262, 107, 49, 169, 170, 171, 172, 349, 263, 264, 265, 51, 50, 181, 182, 183, 184, 173, 174, 175, 176, 177, 178, 179, 180, 185, 14, 186, 187, 40, 39, 188, 189, 190, 191, 192, 193, 194, 350, 195, 196, 197, 198, 199, 200, 201, 202, 203, 204, 623, 624, 625, 626, 627, 628, 629, 630, 631, 655, 656, 657, 651, 652, 653, 654, 648, 649, 650] (by decide +kernel) (by decide +kernel)
set_option maxRecDepth 20000 in
theorem gL_law_X4_least : GoodIn wsL_law (wsV RL 101 RX4 yX4_least wsX4_least) := goodIn_app (goodIn_of _ (by decide +kernel)) ggL_law_X4_least
set_option maxRecDepth 20000 in
theorem ggL_law_X5_least : GoodIn wsL_law wsX5_least := goodIn_r _ [490, 93, 209, 84, 476, 477, 478, 5, 479, 77, 85, 218, 219, 220, 221, 87, 86, 137, 138, 139, 140, 94, 95, 96, 133, 134, 135, 136, 632, 633, 634, 635, 636, 637, 638, 639, 640, 641, 642, 643, 644, 645, 646, 647] (by decide +kernel) (by decide +kernel)
set_option maxRecDepth 20000 in
theorem gL_law_X5_least : GoodIn wsL_law (wsV RL 104 RX5 yX5_least wsX5_least) := goodIn_app (goodIn_of _ (by decide +kernel)) ggL_law_X5_least
set_option maxRecDepth 20000 in
theorem ggL_law_X4_bare : GoodIn wsL_law wsX4_bare := goodIn_r _ [494, 15, 31, 23, 163, 14, 164, 165, 40, 39, 495, 22, 496, 497, 451, 56, 314, 19, 315, 316, 51, 181, 182, 183, 184, 107, 317, 318, 319, 320, 49, 623, 624, 625, 626, 627, 628, 629, 630, 631, 648, 649, 650, 655, 656, 657, 651, 652, 653, 654] (by decide +kernel) (by decide +kernel)
set_option maxRecDepth 20000 in
theorem gL_law_X4_bare : GoodIn wsL_law (wsV RL 105 RX4 yX4_bare wsX4_bare) := goodIn_app (goodIn_of _ (by decide +kernel)) ggL_law_X4_bare
set_option maxRecDepth 20000 in
theorem ggL_law_X5_bare : GoodIn wsL_law wsX5_bare := goodIn_r _ [501, 92, 93, 84, 85, 86, 298, 299, 300, 5, 301, 137, 138, 139, 140, 87, 94, 95, 96, 133, 134, 135, 136, 632, 633, 634, 635, 636, 637, 638, 639, 640, 641, 642, 643, 644, 645, 646, 647] (by decide +kernel) (by decide +kernel)
set_option maxRecDepth 20000 in
theorem gL_law_X5_bare : GoodIn wsL_law (wsV RL 108 RX5 yX5_bare wsX5_bare) := goodIn_app (goodIn_of _ (by decide +kernel)) ggL_law_X5_bare
set_option maxRecDepth 20000 in
theorem ggL_law_X4_greedy : GoodIn wsL_law wsX4_greedy := goodIn_r _ [505, 506, 23, 15, 28, 394, 395, 396, 2, 397, 398, 14, 399, 400, 42, 43, 44, 45, 39, 401, 19, 402, 403, 51, 107, 198, 199, 200, 201, 202, 203, 204, 362, 363, 364, 365, 404, 405, 406, 407, 49, 289, 69, 70, 71, 181, 182, 183, 184, 507, 22, 508, 509, 451, 57, 56, 345, 346, 347, 348, 260, 261, 262, 169, 170, 171, 172, 349, 263, 264, 265, 50, 173, 174, 175, 176, 177, 178, 179, 180, 185, 186, 187, 40, 188, 189, 190, 191, 192, 193, 194, 350, 195, 196, 197, 448, 449, 450, 623, 624, 625, 626, 627, 628, 629, 630, 631, 655, 656, 657, 648, 649, 650, 651, 652, 653, 654] (by decide +kernel) (by decide +kernel)
set_option maxRecDepth 20000 in
theorem gL_law_X4_greedy : GoodIn wsL_law (wsV RL 109 RX4 yX4_greedy wsX4_greedy) := goodIn_app (goodIn_of _ (by decide +kernel)) ggL_law_X4_greedy
set_option maxRecDepth 20000 in
theorem ggL_law_X5_greedy : GoodIn wsL_law wsX5_greedy := goodIn_r _ [513, 87, 514, 515, 93, 209, 112, 113, 5, 114, 412, 413, 414, 415, 86, 94, 95, 96, 416, 417, 418, 419, 83, 77, 374, 375, 376, 377, 378, 379, 380, 381, 382, 383, 384, 385, 386, 387, 388, 389, 476, 477, 478, 479, 84, 85, 218, 219, 220, 221, 137, 138, 139, 140, 133, 134, 135, 136, 456, 457, 458, 459, 632, 633, 634, 635, 636, 637, 638, 639, 640, 641, 642, 643, 644, 645, 646, 647] (by decide +kernel) (by decide +kernel)
set_option maxRecDepth 20000 in
theorem gL_law_X5_greedy : GoodIn wsL_law (wsV RL 112 RX5 yX5_greedy wsX5_greedy) := goodIn_app (goodIn_of _ (by decide +kernel)) ggL_law_X5_greedy
set_option maxRecDepth 20000 in
theorem ggL_law_X4_image : GoodIn wsL_law wsX4_image := goodIn_r _ [519, 15, 27, 119, 14, 120, 121, 41, 520, 26, 521, 522, 63, 61, 249, 250, 251, 40, 39, 523, 524, 525, 163, 164, 165, 623, 624, 625, 626, 627, 628, 629, 630, 631, 648, 649, 650, 658, 659, 660] (by decide +kernel) (by decide +kernel)
set_option maxRecDepth 20000 in
theorem gL_law_X4_image : GoodIn wsL_law (wsV RL 113 RX4 yX4_image wsX4_image) := goodIn_app (goodIn_of _ (by decide +kernel)) ggL_law_X4_image
set_option maxRecDepth 20000 in
theorem ggL_law_X5_image : GoodIn wsL_law wsX5_image := goodIn_r _ [529, 87, 76, 112, 113, 5, 114, 129, 130, 131, 132, 92, 632, 633, 634, 635, 636, 637, 638, 639, 640, 641, 642, 643, 644, 645, 646, 647] (by decide +kernel) (by decide +kernel)
set_option maxRecDepth 20000 in
theorem gL_law_X5_image : GoodIn wsL_law (wsV RL 116 RX5 yX5_image wsX5_image) := goodIn_app (goodIn_of _ (by decide +kernel)) ggL_law_X5_image
set_option maxRecDepth 20000 in
theorem ggL_law_X4_mapped : GoodIn wsL_law wsX4_mapped := goodIn_r _ [533, 15, 31, 27, 119, 14, 120, 121, 41, 163, 164, 165, 40, 39, 534, 26, 535, 536, 63, 62, 537, 538, 539, 540, 61, 68, 69, 70, 71, 185, 186, 187, 249, 250, 251, 623, 624, 625, 626, 627, 628, 629, 630, 631, 648, 649, 650, 658, 659, 660] (by decide +kernel) (by decide +kernel)
set_option maxRecDepth 20000 in
theorem gL_law_X4_mapped : GoodIn wsL_law (wsV RL 117 RX4 yX4_mapped wsX4_mapped) := goodIn_app (goodIn_of _ (by decide +kernel)) ggL_law_X4_mapped
set_option maxRecDepth 20000 in
theorem ggL_law_X5_mapped : GoodIn wsL_law wsX5_mapped := goodIn_r _ [544, 129, 130, 131, 5, 132, 92, 112, 113, 114, 545, 546, 547, 548, 87, 76, 137, 138, 139, 140, 86, 94, 95, 96, 133, 134, 135, 136, 632, 633, 634, 635, 636, 637, 638, 639, 640, 641, 642, 643, 644, 645, 646, 647] (by decide +kernel) (by decide +kernel)
set_option maxRecDepth 20000 in
theorem gL_law_X5_mapped : GoodIn wsL_law (wsV RL 120 RX5 yX5_mapped wsX5_mapped) := goodIn_app (goodIn_of _ (by decide +kernel)) ggL_law_X5_mapped
set_option maxRecDepth 20000 in
theorem ggL_law_X4_map : GoodIn wsL_law wsX4_map := goodIn_r _ [552, 27, 17, 28, 160, 161, 2, 162, 553, 26, 554, 555, 63, 62, 104, 19, 105, 106, 107, 182, 183, 184, 51, 537, 538, 539, 540, 61, 68, 69, 70, 71, 185, 14, 186, 187, 40, 39, 166, 167, 168, 50, 169, 170, 171, 172, 173, 174, 175, 176, 49, 177, 178, 179, 180, 181, 188, 189, 190, 191, 192, 193, 194, 266, 267, 268, 269, 260, 261, 262, 195, 196, 197, 198, 199, 200, 201, 202, 203, 204, 623, 624, 625, 626, 627, 628, 629, 630, 631, 658, 659, 660, 648, 649, 650, 651, 652, 653, 654] (by decide +kernel) (by decide +kernel)
set_option maxRecDepth 20000 in
theorem gL_law_X4_map : GoodIn wsL_law (wsV RL 121 RX4 yX4_map wsX4_map) := goodIn_app (goodIn_of _ (by decide +kernel)) ggL_law_X4_map
set_option maxRecDepth 20000 in
theorem ggL_law_X5_map : GoodIn wsL_law wsX5_map := goodIn_r _ [559, 209, 274, 275, 5, 276, 210, 211, 212, 213, 112, 113, 114, 214, 215, 216, 217, 80, 77, 81, 560, 561, 562, 563, 545, 546, 547, 548, 87, 76, 137, 138, 139, 140, 86, 94, 95, 96, 133, 134, 135, 136, 218, 219, 220, 221, 222, 223, 224, 225, 632, 633, 634, 635, 636, 637, 638, 639, 640, 641, 642, 643, 644, 645, 646, 647] (by decide +kernel) (by decide +kernel)
set_option maxRecDepth 20000 in
theorem gL_law_X5_map : GoodIn wsL_law (wsV RL 124 RX5 yX5_map wsX5_map) := goodIn_app (goodIn_of _ (by decide +kernel)) ggL_law_X5_map
set_option maxRecDepth 20000 in
theorem ggL_law_X4_kernel : GoodIn wsL_law wsX4_kernel := goodIn_r _ [567, 27, 29, 28, 160, 161, 2, 162, 568, 26, 569, 570, 63, 62, 61, 104, 19, 105, 106, 107, 166, 167, 168, 50, 51, 169, 170, 171, 172, 173, 174, 175, 176, 49, 177, 178, 179, 180, 181, 182, 183, 184, 185, 14, 186, 187, 40, 39, 188, 189, 190, 191, 192, 193, 194, 285, 286, 287, 288, 289, 69, 70, 71, 266, 267, 268, 269, 17, 260, 261, 262, 195, 196, 197, 198, 199, 200, 201, 202, 203, 204, 623, 624, 625, 626, 627, 628, 629, 630, 631, 658, 659, 660, 648, 649, 650, 651, 652, 653, 654] (by decide +kernel) (by decide +kernel)
set_option maxRecDepth 20000 in
theorem gL_law_X4_kernel : GoodIn wsL_law (wsV RL 125 RX4 yX4_kernel wsX4_kernel) := goodIn_app (goodIn_of _ (by decide +kernel)) ggL_law_X4_kernel
set_option maxRecDepth 20000 in
theorem ggL_law_X5_kernel : GoodIn wsL_law wsX5_kernel := goodIn_r _ [574, 87, 209, 86, 76, 77, 210, 211, 5, 212, 213, 112, 113, 114, 137, 138, 139, 140, 94, 95, 96, 218, 219, 220, 221, 133, 134, 135, 136, 294, 295, 296, 297, 79, 298, 299, 300, 301, 222, 223, 224, 225, 80, 81, 632, 633, 634, 635, 636, 637, 638, 639, 640, 641, 642, 643, 644, 645, 646, 647] (by decide +kernel) (by decide +kernel)
set_option maxRecDepth 20000 in
theorem gL_law_X5_kernel : GoodIn wsL_law (wsV RL 128 RX5 yX5_kernel wsX5_kernel) := goodIn_app (goodIn_of _ (by decide +kernel)) ggL_law_X5_kernel
set_option maxRecDepth 20000 in
theorem ggL_law_X4_round : GoodIn wsL_law wsX4_round := goodIn_r _ [578, 579, 17, 160, 161, 2, 162, 580, 581, 582, 583, 15, 584, 585, 586, 587, 29, 27, 28, 260, 19, 261, 262, 107, 49, 169, 170, 171, 172, 553, 26, 554, 555, 63, 62, 104, 105, 106, 182, 183, 184, 51, 537, 538, 539, 540, 61, 68, 69, 70, 71, 185, 14, 186, 187, 40, 39, 166, 167, 168, 50, 173, 174, 175, 176, 177, 178, 179, 180, 181, 188, 189, 190, 191, 192, 193, 194, 195, 196, 197, 198, 199, 200, 201, 202, 203, 204, 588, 589, 590, 591, 333, 334, 335, 336, 314, 315, 316, 317, 318, 319, 320, 623, 624, 625, 626, 627, 628, 629, 630, 631, 648, 649, 650, 651, 652, 653, 654, 658, 659, 660] (by decide +kernel) (by decide +kernel)
set_option maxRecDepth 20000 in
theorem gL_law_X4_round : GoodIn wsL_law (wsV RL 129 RX4 yX4_round wsX4_round) := goodIn_app (goodIn_of _ (by decide +kernel)) ggL_law_X4_round
set_option maxRecDepth 20000 in
theorem ggL_law_X5_round : GoodIn wsL_law wsX5_round := goodIn_r _ [595, 596, 209, 80, 77, 81, 210, 211, 5, 212, 213, 112, 113, 114, 214, 215, 216, 217, 560, 561, 562, 563, 545, 546, 547, 548, 87, 76, 137, 138, 139, 140, 86, 94, 95, 96, 133, 134, 135, 136, 218, 219, 220, 221, 632, 633, 634, 635, 636, 637, 638, 639, 640, 641, 642, 643, 644, 645, 646, 647] (by decide +kernel) (by decide +kernel)
set_option maxRecDepth 20000 in
theorem gL_law_X5_round : GoodIn wsL_law (wsV RL 132 RX5 yX5_round wsX5_round) := goodIn_app (goodIn_of _ (by decide +kernel)) ggL_law_X5_round
set_option maxRecDepth 20000 in
theorem ggL_law_X4_told : GoodIn wsL_law wsX4_told := goodIn_r _ [600, 15, 23, 506, 579, 623, 624, 625, 626, 627, 628, 629, 630, 631, 648, 649, 650, 655, 656, 657] (by decide +kernel) (by decide +kernel)
set_option maxRecDepth 20000 in
theorem gL_law_X4_told : GoodIn wsL_law (wsV RL 133 RX4 yX4_told wsX4_told) := goodIn_app (goodIn_of _ (by decide +kernel)) ggL_law_X4_told
set_option maxRecDepth 20000 in
theorem ggL_law_X5_told : GoodIn wsL_law wsX5_told := goodIn_r _ [604, 86, 87, 92, 93, 515, 596, 632, 633, 634, 635, 636, 637, 638, 639, 640, 641, 642, 643, 644, 645, 646, 647] (by decide +kernel) (by decide +kernel)
set_option maxRecDepth 20000 in
theorem gL_law_X5_told : GoodIn wsL_law (wsV RL 136 RX5 yX5_told wsX5_told) := goodIn_app (goodIn_of _ (by decide +kernel)) ggL_law_X5_told
set_option maxRecDepth 20000 in
theorem ggL_law_X4_digest : GoodIn wsL_law wsX4_digest := goodIn_r _ [608, 609, 15, 17, 23, 27, 506, 579, 610, 611, 2, 612, 613, 614, 615, 616, 195, 19, 196, 197, 107, 198, 199, 200, 201, 202, 203, 204, 246, 247, 248, 51, 49, 181, 182, 183, 184, 249, 14, 250, 251, 40, 39, 520, 26, 521, 522, 63, 61, 623, 624, 625, 626, 627, 628, 629, 630, 631, 648, 649, 650, 655, 656, 657, 651, 652, 653, 654, 658, 659, 660] (by decide +kernel) (by decide +kernel)
set_option maxRecDepth 20000 in
theorem gL_law_X4_digest : GoodIn wsL_law (wsV RL 137 RX4 yX4_digest wsX4_digest) := goodIn_app (goodIn_of _ (by decide +kernel)) ggL_law_X4_digest
set_option maxRecDepth 20000 in
theorem ggL_law_X5_digest : GoodIn wsL_law wsX5_digest := goodIn_r _ [620, 621, 622, 86, 87, 80, 81, 93, 84, 85, 76, 515, 596, 632, 633, 634, 635, 636, 637, 638, 639, 640, 641, 642, 643, 644, 645, 646, 647] (by decide +kernel) (by decide +kernel)
set_option maxRecDepth 20000 in
theorem gL_law_X5_digest : GoodIn wsL_law (wsV RL 141 RX5 yX5_digest wsX5_digest) := goodIn_app (goodIn_of _ (by decide +kernel)) ggL_law_X5_digest
theorem dL_law_0 : decode cL_law 0 = .ok (.new 7, 3) := by decide +kernel
theorem dL_law_3 : decode cL_law 3 = .ok (.dup, 1) := by decide +kernel
theorem dL_law_4 : decode cL_law 4 = .ok (.invokespecial 9, 3) := by decide +kernel
theorem dL_law_7 : decode cL_law 7 = .ok (.astore_n 1, 1) := by decide +kernel
theorem dL_law_8 : decode cL_law 8 = .ok (.new 10, 3) := by decide +kernel
theorem dL_law_11 : decode cL_law 11 = .ok (.dup, 1) := by decide +kernel
theorem dL_law_12 : decode cL_law 12 = .ok (.invokespecial 12, 3) := by decide +kernel
theorem dL_law_15 : decode cL_law 15 = .ok (.astore_n 2, 1) := by decide +kernel
theorem dL_law_16 : decode cL_law 16 = .ok (.iconst 0, 1) := by decide +kernel
theorem dL_law_17 : decode cL_law 17 = .ok (.istore_n 3, 1) := by decide +kernel
theorem dL_law_18 : decode cL_law 18 = .ok (.iload_n 3, 1) := by decide +kernel
theorem dL_law_19 : decode cL_law 19 = .ok (.aload_n 0, 1) := by decide +kernel
theorem dL_law_20 : decode cL_law 20 = .ok (.arraylength, 1) := by decide +kernel
theorem dL_law_21 : decode cL_law 21 = .ok (.iconst 4, 1) := by decide +kernel
theorem dL_law_22 : decode cL_law 22 = .ok (.isub, 1) := by decide +kernel
theorem dL_law_23 : decode cL_law 23 = .ok (.if_icmp .gt 1059, 3) := by decide +kernel
theorem dL_law_26 : decode cL_law 26 = .ok (.aload_n 0, 1) := by decide +kernel
theorem dL_law_27 : decode cL_law 27 = .ok (.iload_n 3, 1) := by decide +kernel
theorem dL_law_28 : decode cL_law 28 = .ok (.iaload, 1) := by decide +kernel
theorem dL_law_29 : decode cL_law 29 = .ok (.bipush 31, 2) := by decide +kernel
theorem dL_law_31 : decode cL_law 31 = .ok (.iand, 1) := by decide +kernel
theorem dL_law_32 : decode cL_law 32 = .ok (.tableswitch 1044 0 30 #[140, 173, 216, 249, 282, 305, 328, 361, 404, 447, 480, 513, 546, 579, 602, 645, 668, 701, 744, 767, 780, 813, 826, 839, 872, 905, 928, 961, 984, 1007, 1030], 140) := by decide +kernel
theorem dL_law_172 : decode cL_law 172 = .ok (.aload_n 1, 1) := by decide +kernel
theorem dL_law_173 : decode cL_law 173 = .ok (.aload_n 0, 1) := by decide +kernel
theorem dL_law_174 : decode cL_law 174 = .ok (.iload_n 3, 1) := by decide +kernel
theorem dL_law_175 : decode cL_law 175 = .ok (.iconst 1, 1) := by decide +kernel
theorem dL_law_176 : decode cL_law 176 = .ok (.iadd, 1) := by decide +kernel
theorem dL_law_177 : decode cL_law 177 = .ok (.iaload, 1) := by decide +kernel
theorem dL_law_178 : decode cL_law 178 = .ok (.aload_n 0, 1) := by decide +kernel
theorem dL_law_179 : decode cL_law 179 = .ok (.iload_n 3, 1) := by decide +kernel
theorem dL_law_180 : decode cL_law 180 = .ok (.iconst 2, 1) := by decide +kernel
theorem dL_law_181 : decode cL_law 181 = .ok (.iadd, 1) := by decide +kernel
theorem dL_law_182 : decode cL_law 182 = .ok (.iaload, 1) := by decide +kernel
theorem dL_law_183 : decode cL_law 183 = .ok (.invokevirtual 13, 3) := by decide +kernel
theorem dL_law_186 : decode cL_law 186 = .ok (.aload_n 2, 1) := by decide +kernel
theorem dL_law_187 : decode cL_law 187 = .ok (.aload_n 0, 1) := by decide +kernel
theorem dL_law_188 : decode cL_law 188 = .ok (.iload_n 3, 1) := by decide +kernel
theorem dL_law_189 : decode cL_law 189 = .ok (.iconst 1, 1) := by decide +kernel
theorem dL_law_190 : decode cL_law 190 = .ok (.iadd, 1) := by decide +kernel
theorem dL_law_191 : decode cL_law 191 = .ok (.iaload, 1) := by decide +kernel
theorem dL_law_192 : decode cL_law 192 = .ok (.aload_n 0, 1) := by decide +kernel
theorem dL_law_193 : decode cL_law 193 = .ok (.iload_n 3, 1) := by decide +kernel
theorem dL_law_194 : decode cL_law 194 = .ok (.iconst 2, 1) := by decide +kernel
theorem dL_law_195 : decode cL_law 195 = .ok (.iadd, 1) := by decide +kernel
theorem dL_law_196 : decode cL_law 196 = .ok (.iaload, 1) := by decide +kernel
theorem dL_law_197 : decode cL_law 197 = .ok (.invokevirtual 17, 3) := by decide +kernel
theorem dL_law_200 : decode cL_law 200 = .ok (.if_icmp .eq 876, 3) := by decide +kernel
theorem dL_law_203 : decode cL_law 203 = .ok (.iconst 0, 1) := by decide +kernel
theorem dL_law_204 : decode cL_law 204 = .ok (.ireturn, 1) := by decide +kernel
theorem dL_law_205 : decode cL_law 205 = .ok (.aload_n 1, 1) := by decide +kernel
theorem dL_law_206 : decode cL_law 206 = .ok (.aload_n 0, 1) := by decide +kernel
theorem dL_law_207 : decode cL_law 207 = .ok (.iload_n 3, 1) := by decide +kernel
theorem dL_law_208 : decode cL_law 208 = .ok (.iconst 1, 1) := by decide +kernel
theorem dL_law_209 : decode cL_law 209 = .ok (.iadd, 1) := by decide +kernel
theorem dL_law_210 : decode cL_law 210 = .ok (.iaload, 1) := by decide +kernel
theorem dL_law_211 : decode cL_law 211 = .ok (.aload_n 0, 1) := by decide +kernel
theorem dL_law_212 : decode cL_law 212 = .ok (.iload_n 3, 1) := by decide +kernel
theorem dL_law_213 : decode cL_law 213 = .ok (.iconst 2, 1) := by decide +kernel
theorem dL_law_214 : decode cL_law 214 = .ok (.iadd, 1) := by decide +kernel
theorem dL_law_215 : decode cL_law 215 = .ok (.iaload, 1) := by decide +kernel
theorem dL_law_216 : decode cL_law 216 = .ok (.aload_n 0, 1) := by decide +kernel
theorem dL_law_217 : decode cL_law 217 = .ok (.iload_n 3, 1) := by decide +kernel
theorem dL_law_218 : decode cL_law 218 = .ok (.iconst 3, 1) := by decide +kernel
theorem dL_law_219 : decode cL_law 219 = .ok (.iadd, 1) := by decide +kernel
theorem dL_law_220 : decode cL_law 220 = .ok (.iaload, 1) := by decide +kernel
theorem dL_law_221 : decode cL_law 221 = .ok (.invokevirtual 18, 3) := by decide +kernel
theorem dL_law_224 : decode cL_law 224 = .ok (.aload_n 2, 1) := by decide +kernel
theorem dL_law_225 : decode cL_law 225 = .ok (.aload_n 0, 1) := by decide +kernel
theorem dL_law_226 : decode cL_law 226 = .ok (.iload_n 3, 1) := by decide +kernel
theorem dL_law_227 : decode cL_law 227 = .ok (.iconst 1, 1) := by decide +kernel
theorem dL_law_228 : decode cL_law 228 = .ok (.iadd, 1) := by decide +kernel
theorem dL_law_229 : decode cL_law 229 = .ok (.iaload, 1) := by decide +kernel
theorem dL_law_230 : decode cL_law 230 = .ok (.aload_n 0, 1) := by decide +kernel
theorem dL_law_231 : decode cL_law 231 = .ok (.iload_n 3, 1) := by decide +kernel
theorem dL_law_232 : decode cL_law 232 = .ok (.iconst 2, 1) := by decide +kernel
theorem dL_law_233 : decode cL_law 233 = .ok (.iadd, 1) := by decide +kernel
theorem dL_law_234 : decode cL_law 234 = .ok (.iaload, 1) := by decide +kernel
theorem dL_law_235 : decode cL_law 235 = .ok (.aload_n 0, 1) := by decide +kernel
theorem dL_law_236 : decode cL_law 236 = .ok (.iload_n 3, 1) := by decide +kernel
theorem dL_law_237 : decode cL_law 237 = .ok (.iconst 3, 1) := by decide +kernel
theorem dL_law_238 : decode cL_law 238 = .ok (.iadd, 1) := by decide +kernel
theorem dL_law_239 : decode cL_law 239 = .ok (.iaload, 1) := by decide +kernel
theorem dL_law_240 : decode cL_law 240 = .ok (.invokevirtual 22, 3) := by decide +kernel
theorem dL_law_243 : decode cL_law 243 = .ok (.if_icmp .eq 833, 3) := by decide +kernel
theorem dL_law_246 : decode cL_law 246 = .ok (.iconst 0, 1) := by decide +kernel
theorem dL_law_247 : decode cL_law 247 = .ok (.ireturn, 1) := by decide +kernel
theorem dL_law_248 : decode cL_law 248 = .ok (.aload_n 1, 1) := by decide +kernel
theorem dL_law_249 : decode cL_law 249 = .ok (.aload_n 0, 1) := by decide +kernel
theorem dL_law_250 : decode cL_law 250 = .ok (.iload_n 3, 1) := by decide +kernel
theorem dL_law_251 : decode cL_law 251 = .ok (.iconst 1, 1) := by decide +kernel
theorem dL_law_252 : decode cL_law 252 = .ok (.iadd, 1) := by decide +kernel
theorem dL_law_253 : decode cL_law 253 = .ok (.iaload, 1) := by decide +kernel
theorem dL_law_254 : decode cL_law 254 = .ok (.aload_n 0, 1) := by decide +kernel
theorem dL_law_255 : decode cL_law 255 = .ok (.iload_n 3, 1) := by decide +kernel
theorem dL_law_256 : decode cL_law 256 = .ok (.iconst 2, 1) := by decide +kernel
theorem dL_law_257 : decode cL_law 257 = .ok (.iadd, 1) := by decide +kernel
theorem dL_law_258 : decode cL_law 258 = .ok (.iaload, 1) := by decide +kernel
theorem dL_law_259 : decode cL_law 259 = .ok (.invokevirtual 23, 3) := by decide +kernel
theorem dL_law_262 : decode cL_law 262 = .ok (.aload_n 2, 1) := by decide +kernel
theorem dL_law_263 : decode cL_law 263 = .ok (.aload_n 0, 1) := by decide +kernel
theorem dL_law_264 : decode cL_law 264 = .ok (.iload_n 3, 1) := by decide +kernel
theorem dL_law_265 : decode cL_law 265 = .ok (.iconst 1, 1) := by decide +kernel
theorem dL_law_266 : decode cL_law 266 = .ok (.iadd, 1) := by decide +kernel
theorem dL_law_267 : decode cL_law 267 = .ok (.iaload, 1) := by decide +kernel
theorem dL_law_268 : decode cL_law 268 = .ok (.aload_n 0, 1) := by decide +kernel
theorem dL_law_269 : decode cL_law 269 = .ok (.iload_n 3, 1) := by decide +kernel
theorem dL_law_270 : decode cL_law 270 = .ok (.iconst 2, 1) := by decide +kernel
theorem dL_law_271 : decode cL_law 271 = .ok (.iadd, 1) := by decide +kernel
theorem dL_law_272 : decode cL_law 272 = .ok (.iaload, 1) := by decide +kernel
theorem dL_law_273 : decode cL_law 273 = .ok (.invokevirtual 26, 3) := by decide +kernel
theorem dL_law_276 : decode cL_law 276 = .ok (.if_icmp .eq 800, 3) := by decide +kernel
theorem dL_law_279 : decode cL_law 279 = .ok (.iconst 0, 1) := by decide +kernel
theorem dL_law_280 : decode cL_law 280 = .ok (.ireturn, 1) := by decide +kernel
theorem dL_law_281 : decode cL_law 281 = .ok (.aload_n 1, 1) := by decide +kernel
theorem dL_law_282 : decode cL_law 282 = .ok (.aload_n 0, 1) := by decide +kernel
theorem dL_law_283 : decode cL_law 283 = .ok (.iload_n 3, 1) := by decide +kernel
theorem dL_law_284 : decode cL_law 284 = .ok (.iconst 1, 1) := by decide +kernel
theorem dL_law_285 : decode cL_law 285 = .ok (.iadd, 1) := by decide +kernel
theorem dL_law_286 : decode cL_law 286 = .ok (.iaload, 1) := by decide +kernel
theorem dL_law_287 : decode cL_law 287 = .ok (.aload_n 0, 1) := by decide +kernel
theorem dL_law_288 : decode cL_law 288 = .ok (.iload_n 3, 1) := by decide +kernel
theorem dL_law_289 : decode cL_law 289 = .ok (.iconst 2, 1) := by decide +kernel
theorem dL_law_290 : decode cL_law 290 = .ok (.iadd, 1) := by decide +kernel
theorem dL_law_291 : decode cL_law 291 = .ok (.iaload, 1) := by decide +kernel
theorem dL_law_292 : decode cL_law 292 = .ok (.invokevirtual 27, 3) := by decide +kernel
theorem dL_law_295 : decode cL_law 295 = .ok (.aload_n 2, 1) := by decide +kernel
theorem dL_law_296 : decode cL_law 296 = .ok (.aload_n 0, 1) := by decide +kernel
theorem dL_law_297 : decode cL_law 297 = .ok (.iload_n 3, 1) := by decide +kernel
theorem dL_law_298 : decode cL_law 298 = .ok (.iconst 1, 1) := by decide +kernel
theorem dL_law_299 : decode cL_law 299 = .ok (.iadd, 1) := by decide +kernel
theorem dL_law_300 : decode cL_law 300 = .ok (.iaload, 1) := by decide +kernel
theorem dL_law_301 : decode cL_law 301 = .ok (.aload_n 0, 1) := by decide +kernel
theorem dL_law_302 : decode cL_law 302 = .ok (.iload_n 3, 1) := by decide +kernel
theorem dL_law_303 : decode cL_law 303 = .ok (.iconst 2, 1) := by decide +kernel
theorem dL_law_304 : decode cL_law 304 = .ok (.iadd, 1) := by decide +kernel
theorem dL_law_305 : decode cL_law 305 = .ok (.iaload, 1) := by decide +kernel
theorem dL_law_306 : decode cL_law 306 = .ok (.invokevirtual 30, 3) := by decide +kernel
theorem dL_law_309 : decode cL_law 309 = .ok (.if_icmp .eq 767, 3) := by decide +kernel
theorem dL_law_312 : decode cL_law 312 = .ok (.iconst 0, 1) := by decide +kernel
theorem dL_law_313 : decode cL_law 313 = .ok (.ireturn, 1) := by decide +kernel
theorem dL_law_314 : decode cL_law 314 = .ok (.aload_n 1, 1) := by decide +kernel
theorem dL_law_315 : decode cL_law 315 = .ok (.aload_n 0, 1) := by decide +kernel
theorem dL_law_316 : decode cL_law 316 = .ok (.iload_n 3, 1) := by decide +kernel
theorem dL_law_317 : decode cL_law 317 = .ok (.iconst 1, 1) := by decide +kernel
theorem dL_law_318 : decode cL_law 318 = .ok (.iadd, 1) := by decide +kernel
theorem dL_law_319 : decode cL_law 319 = .ok (.iaload, 1) := by decide +kernel
theorem dL_law_320 : decode cL_law 320 = .ok (.invokevirtual 31, 3) := by decide +kernel
theorem dL_law_323 : decode cL_law 323 = .ok (.aload_n 2, 1) := by decide +kernel
theorem dL_law_324 : decode cL_law 324 = .ok (.aload_n 0, 1) := by decide +kernel
theorem dL_law_325 : decode cL_law 325 = .ok (.iload_n 3, 1) := by decide +kernel
theorem dL_law_326 : decode cL_law 326 = .ok (.iconst 1, 1) := by decide +kernel
theorem dL_law_327 : decode cL_law 327 = .ok (.iadd, 1) := by decide +kernel
theorem dL_law_328 : decode cL_law 328 = .ok (.iaload, 1) := by decide +kernel
theorem dL_law_329 : decode cL_law 329 = .ok (.invokevirtual 35, 3) := by decide +kernel
theorem dL_law_332 : decode cL_law 332 = .ok (.if_icmp .eq 744, 3) := by decide +kernel
theorem dL_law_335 : decode cL_law 335 = .ok (.iconst 0, 1) := by decide +kernel
theorem dL_law_336 : decode cL_law 336 = .ok (.ireturn, 1) := by decide +kernel
theorem dL_law_337 : decode cL_law 337 = .ok (.aload_n 1, 1) := by decide +kernel
theorem dL_law_338 : decode cL_law 338 = .ok (.aload_n 0, 1) := by decide +kernel
theorem dL_law_339 : decode cL_law 339 = .ok (.iload_n 3, 1) := by decide +kernel
theorem dL_law_340 : decode cL_law 340 = .ok (.iconst 1, 1) := by decide +kernel
theorem dL_law_341 : decode cL_law 341 = .ok (.iadd, 1) := by decide +kernel
theorem dL_law_342 : decode cL_law 342 = .ok (.iaload, 1) := by decide +kernel
theorem dL_law_343 : decode cL_law 343 = .ok (.invokevirtual 36, 3) := by decide +kernel
theorem dL_law_346 : decode cL_law 346 = .ok (.aload_n 2, 1) := by decide +kernel
theorem dL_law_347 : decode cL_law 347 = .ok (.aload_n 0, 1) := by decide +kernel
theorem dL_law_348 : decode cL_law 348 = .ok (.iload_n 3, 1) := by decide +kernel
theorem dL_law_349 : decode cL_law 349 = .ok (.iconst 1, 1) := by decide +kernel
theorem dL_law_350 : decode cL_law 350 = .ok (.iadd, 1) := by decide +kernel
theorem dL_law_351 : decode cL_law 351 = .ok (.iaload, 1) := by decide +kernel
theorem dL_law_352 : decode cL_law 352 = .ok (.invokevirtual 39, 3) := by decide +kernel
theorem dL_law_355 : decode cL_law 355 = .ok (.if_icmp .eq 721, 3) := by decide +kernel
theorem dL_law_358 : decode cL_law 358 = .ok (.iconst 0, 1) := by decide +kernel
theorem dL_law_359 : decode cL_law 359 = .ok (.ireturn, 1) := by decide +kernel
theorem dL_law_360 : decode cL_law 360 = .ok (.aload_n 1, 1) := by decide +kernel
theorem dL_law_361 : decode cL_law 361 = .ok (.aload_n 0, 1) := by decide +kernel
theorem dL_law_362 : decode cL_law 362 = .ok (.iload_n 3, 1) := by decide +kernel
theorem dL_law_363 : decode cL_law 363 = .ok (.iconst 1, 1) := by decide +kernel
theorem dL_law_364 : decode cL_law 364 = .ok (.iadd, 1) := by decide +kernel
theorem dL_law_365 : decode cL_law 365 = .ok (.iaload, 1) := by decide +kernel
theorem dL_law_366 : decode cL_law 366 = .ok (.aload_n 0, 1) := by decide +kernel
theorem dL_law_367 : decode cL_law 367 = .ok (.iload_n 3, 1) := by decide +kernel
theorem dL_law_368 : decode cL_law 368 = .ok (.iconst 2, 1) := by decide +kernel
theorem dL_law_369 : decode cL_law 369 = .ok (.iadd, 1) := by decide +kernel
theorem dL_law_370 : decode cL_law 370 = .ok (.iaload, 1) := by decide +kernel
theorem dL_law_371 : decode cL_law 371 = .ok (.invokevirtual 40, 3) := by decide +kernel
theorem dL_law_374 : decode cL_law 374 = .ok (.aload_n 2, 1) := by decide +kernel
theorem dL_law_375 : decode cL_law 375 = .ok (.aload_n 0, 1) := by decide +kernel
theorem dL_law_376 : decode cL_law 376 = .ok (.iload_n 3, 1) := by decide +kernel
theorem dL_law_377 : decode cL_law 377 = .ok (.iconst 1, 1) := by decide +kernel
theorem dL_law_378 : decode cL_law 378 = .ok (.iadd, 1) := by decide +kernel
theorem dL_law_379 : decode cL_law 379 = .ok (.iaload, 1) := by decide +kernel
theorem dL_law_380 : decode cL_law 380 = .ok (.aload_n 0, 1) := by decide +kernel
theorem dL_law_381 : decode cL_law 381 = .ok (.iload_n 3, 1) := by decide +kernel
theorem dL_law_382 : decode cL_law 382 = .ok (.iconst 2, 1) := by decide +kernel
theorem dL_law_383 : decode cL_law 383 = .ok (.iadd, 1) := by decide +kernel
theorem dL_law_384 : decode cL_law 384 = .ok (.iaload, 1) := by decide +kernel
theorem dL_law_385 : decode cL_law 385 = .ok (.invokevirtual 43, 3) := by decide +kernel
theorem dL_law_388 : decode cL_law 388 = .ok (.if_icmp .eq 688, 3) := by decide +kernel
theorem dL_law_391 : decode cL_law 391 = .ok (.iconst 0, 1) := by decide +kernel
theorem dL_law_392 : decode cL_law 392 = .ok (.ireturn, 1) := by decide +kernel
theorem dL_law_393 : decode cL_law 393 = .ok (.aload_n 1, 1) := by decide +kernel
theorem dL_law_394 : decode cL_law 394 = .ok (.aload_n 0, 1) := by decide +kernel
theorem dL_law_395 : decode cL_law 395 = .ok (.iload_n 3, 1) := by decide +kernel
theorem dL_law_396 : decode cL_law 396 = .ok (.iconst 1, 1) := by decide +kernel
theorem dL_law_397 : decode cL_law 397 = .ok (.iadd, 1) := by decide +kernel
theorem dL_law_398 : decode cL_law 398 = .ok (.iaload, 1) := by decide +kernel
theorem dL_law_399 : decode cL_law 399 = .ok (.aload_n 0, 1) := by decide +kernel
theorem dL_law_400 : decode cL_law 400 = .ok (.iload_n 3, 1) := by decide +kernel
theorem dL_law_401 : decode cL_law 401 = .ok (.iconst 2, 1) := by decide +kernel
theorem dL_law_402 : decode cL_law 402 = .ok (.iadd, 1) := by decide +kernel
theorem dL_law_403 : decode cL_law 403 = .ok (.iaload, 1) := by decide +kernel
theorem dL_law_404 : decode cL_law 404 = .ok (.aload_n 0, 1) := by decide +kernel
theorem dL_law_405 : decode cL_law 405 = .ok (.iload_n 3, 1) := by decide +kernel
theorem dL_law_406 : decode cL_law 406 = .ok (.iconst 3, 1) := by decide +kernel
theorem dL_law_407 : decode cL_law 407 = .ok (.iadd, 1) := by decide +kernel
theorem dL_law_408 : decode cL_law 408 = .ok (.iaload, 1) := by decide +kernel
theorem dL_law_409 : decode cL_law 409 = .ok (.invokevirtual 44, 3) := by decide +kernel
theorem dL_law_412 : decode cL_law 412 = .ok (.aload_n 2, 1) := by decide +kernel
theorem dL_law_413 : decode cL_law 413 = .ok (.aload_n 0, 1) := by decide +kernel
theorem dL_law_414 : decode cL_law 414 = .ok (.iload_n 3, 1) := by decide +kernel
theorem dL_law_415 : decode cL_law 415 = .ok (.iconst 1, 1) := by decide +kernel
theorem dL_law_416 : decode cL_law 416 = .ok (.iadd, 1) := by decide +kernel
theorem dL_law_417 : decode cL_law 417 = .ok (.iaload, 1) := by decide +kernel
theorem dL_law_418 : decode cL_law 418 = .ok (.aload_n 0, 1) := by decide +kernel
theorem dL_law_419 : decode cL_law 419 = .ok (.iload_n 3, 1) := by decide +kernel
theorem dL_law_420 : decode cL_law 420 = .ok (.iconst 2, 1) := by decide +kernel
theorem dL_law_421 : decode cL_law 421 = .ok (.iadd, 1) := by decide +kernel
theorem dL_law_422 : decode cL_law 422 = .ok (.iaload, 1) := by decide +kernel
theorem dL_law_423 : decode cL_law 423 = .ok (.aload_n 0, 1) := by decide +kernel
theorem dL_law_424 : decode cL_law 424 = .ok (.iload_n 3, 1) := by decide +kernel
theorem dL_law_425 : decode cL_law 425 = .ok (.iconst 3, 1) := by decide +kernel
theorem dL_law_426 : decode cL_law 426 = .ok (.iadd, 1) := by decide +kernel
theorem dL_law_427 : decode cL_law 427 = .ok (.iaload, 1) := by decide +kernel
theorem dL_law_428 : decode cL_law 428 = .ok (.invokevirtual 47, 3) := by decide +kernel
theorem dL_law_431 : decode cL_law 431 = .ok (.if_icmp .eq 645, 3) := by decide +kernel
theorem dL_law_434 : decode cL_law 434 = .ok (.iconst 0, 1) := by decide +kernel
theorem dL_law_435 : decode cL_law 435 = .ok (.ireturn, 1) := by decide +kernel
theorem dL_law_436 : decode cL_law 436 = .ok (.aload_n 1, 1) := by decide +kernel
theorem dL_law_437 : decode cL_law 437 = .ok (.aload_n 0, 1) := by decide +kernel
theorem dL_law_438 : decode cL_law 438 = .ok (.iload_n 3, 1) := by decide +kernel
theorem dL_law_439 : decode cL_law 439 = .ok (.iconst 1, 1) := by decide +kernel
theorem dL_law_440 : decode cL_law 440 = .ok (.iadd, 1) := by decide +kernel
theorem dL_law_441 : decode cL_law 441 = .ok (.iaload, 1) := by decide +kernel
theorem dL_law_442 : decode cL_law 442 = .ok (.aload_n 0, 1) := by decide +kernel
theorem dL_law_443 : decode cL_law 443 = .ok (.iload_n 3, 1) := by decide +kernel
theorem dL_law_444 : decode cL_law 444 = .ok (.iconst 2, 1) := by decide +kernel
theorem dL_law_445 : decode cL_law 445 = .ok (.iadd, 1) := by decide +kernel
theorem dL_law_446 : decode cL_law 446 = .ok (.iaload, 1) := by decide +kernel
theorem dL_law_447 : decode cL_law 447 = .ok (.aload_n 0, 1) := by decide +kernel
theorem dL_law_448 : decode cL_law 448 = .ok (.iload_n 3, 1) := by decide +kernel
theorem dL_law_449 : decode cL_law 449 = .ok (.iconst 3, 1) := by decide +kernel
theorem dL_law_450 : decode cL_law 450 = .ok (.iadd, 1) := by decide +kernel
theorem dL_law_451 : decode cL_law 451 = .ok (.iaload, 1) := by decide +kernel
theorem dL_law_452 : decode cL_law 452 = .ok (.invokevirtual 48, 3) := by decide +kernel
theorem dL_law_455 : decode cL_law 455 = .ok (.aload_n 2, 1) := by decide +kernel
theorem dL_law_456 : decode cL_law 456 = .ok (.aload_n 0, 1) := by decide +kernel
theorem dL_law_457 : decode cL_law 457 = .ok (.iload_n 3, 1) := by decide +kernel
theorem dL_law_458 : decode cL_law 458 = .ok (.iconst 1, 1) := by decide +kernel
theorem dL_law_459 : decode cL_law 459 = .ok (.iadd, 1) := by decide +kernel
theorem dL_law_460 : decode cL_law 460 = .ok (.iaload, 1) := by decide +kernel
theorem dL_law_461 : decode cL_law 461 = .ok (.aload_n 0, 1) := by decide +kernel
theorem dL_law_462 : decode cL_law 462 = .ok (.iload_n 3, 1) := by decide +kernel
theorem dL_law_463 : decode cL_law 463 = .ok (.iconst 2, 1) := by decide +kernel
theorem dL_law_464 : decode cL_law 464 = .ok (.iadd, 1) := by decide +kernel
theorem dL_law_465 : decode cL_law 465 = .ok (.iaload, 1) := by decide +kernel
theorem dL_law_466 : decode cL_law 466 = .ok (.aload_n 0, 1) := by decide +kernel
theorem dL_law_467 : decode cL_law 467 = .ok (.iload_n 3, 1) := by decide +kernel
theorem dL_law_468 : decode cL_law 468 = .ok (.iconst 3, 1) := by decide +kernel
theorem dL_law_469 : decode cL_law 469 = .ok (.iadd, 1) := by decide +kernel
theorem dL_law_470 : decode cL_law 470 = .ok (.iaload, 1) := by decide +kernel
theorem dL_law_471 : decode cL_law 471 = .ok (.invokevirtual 51, 3) := by decide +kernel
theorem dL_law_474 : decode cL_law 474 = .ok (.if_icmp .eq 602, 3) := by decide +kernel
theorem dL_law_477 : decode cL_law 477 = .ok (.iconst 0, 1) := by decide +kernel
theorem dL_law_478 : decode cL_law 478 = .ok (.ireturn, 1) := by decide +kernel
theorem dL_law_479 : decode cL_law 479 = .ok (.aload_n 1, 1) := by decide +kernel
theorem dL_law_480 : decode cL_law 480 = .ok (.aload_n 0, 1) := by decide +kernel
theorem dL_law_481 : decode cL_law 481 = .ok (.iload_n 3, 1) := by decide +kernel
theorem dL_law_482 : decode cL_law 482 = .ok (.iconst 1, 1) := by decide +kernel
theorem dL_law_483 : decode cL_law 483 = .ok (.iadd, 1) := by decide +kernel
theorem dL_law_484 : decode cL_law 484 = .ok (.iaload, 1) := by decide +kernel
theorem dL_law_485 : decode cL_law 485 = .ok (.aload_n 0, 1) := by decide +kernel
theorem dL_law_486 : decode cL_law 486 = .ok (.iload_n 3, 1) := by decide +kernel
theorem dL_law_487 : decode cL_law 487 = .ok (.iconst 2, 1) := by decide +kernel
theorem dL_law_488 : decode cL_law 488 = .ok (.iadd, 1) := by decide +kernel
theorem dL_law_489 : decode cL_law 489 = .ok (.iaload, 1) := by decide +kernel
theorem dL_law_490 : decode cL_law 490 = .ok (.invokevirtual 52, 3) := by decide +kernel
theorem dL_law_493 : decode cL_law 493 = .ok (.aload_n 2, 1) := by decide +kernel
theorem dL_law_494 : decode cL_law 494 = .ok (.aload_n 0, 1) := by decide +kernel
theorem dL_law_495 : decode cL_law 495 = .ok (.iload_n 3, 1) := by decide +kernel
theorem dL_law_496 : decode cL_law 496 = .ok (.iconst 1, 1) := by decide +kernel
theorem dL_law_497 : decode cL_law 497 = .ok (.iadd, 1) := by decide +kernel
theorem dL_law_498 : decode cL_law 498 = .ok (.iaload, 1) := by decide +kernel
theorem dL_law_499 : decode cL_law 499 = .ok (.aload_n 0, 1) := by decide +kernel
theorem dL_law_500 : decode cL_law 500 = .ok (.iload_n 3, 1) := by decide +kernel
theorem dL_law_501 : decode cL_law 501 = .ok (.iconst 2, 1) := by decide +kernel
theorem dL_law_502 : decode cL_law 502 = .ok (.iadd, 1) := by decide +kernel
theorem dL_law_503 : decode cL_law 503 = .ok (.iaload, 1) := by decide +kernel
theorem dL_law_504 : decode cL_law 504 = .ok (.invokevirtual 55, 3) := by decide +kernel
theorem dL_law_507 : decode cL_law 507 = .ok (.if_icmp .eq 569, 3) := by decide +kernel
theorem dL_law_510 : decode cL_law 510 = .ok (.iconst 0, 1) := by decide +kernel
theorem dL_law_511 : decode cL_law 511 = .ok (.ireturn, 1) := by decide +kernel
theorem dL_law_512 : decode cL_law 512 = .ok (.aload_n 1, 1) := by decide +kernel
theorem dL_law_513 : decode cL_law 513 = .ok (.aload_n 0, 1) := by decide +kernel
theorem dL_law_514 : decode cL_law 514 = .ok (.iload_n 3, 1) := by decide +kernel
theorem dL_law_515 : decode cL_law 515 = .ok (.iconst 1, 1) := by decide +kernel
theorem dL_law_516 : decode cL_law 516 = .ok (.iadd, 1) := by decide +kernel
theorem dL_law_517 : decode cL_law 517 = .ok (.iaload, 1) := by decide +kernel
theorem dL_law_518 : decode cL_law 518 = .ok (.aload_n 0, 1) := by decide +kernel
theorem dL_law_519 : decode cL_law 519 = .ok (.iload_n 3, 1) := by decide +kernel
theorem dL_law_520 : decode cL_law 520 = .ok (.iconst 2, 1) := by decide +kernel
theorem dL_law_521 : decode cL_law 521 = .ok (.iadd, 1) := by decide +kernel
theorem dL_law_522 : decode cL_law 522 = .ok (.iaload, 1) := by decide +kernel
theorem dL_law_523 : decode cL_law 523 = .ok (.invokevirtual 56, 3) := by decide +kernel
theorem dL_law_526 : decode cL_law 526 = .ok (.aload_n 2, 1) := by decide +kernel
theorem dL_law_527 : decode cL_law 527 = .ok (.aload_n 0, 1) := by decide +kernel
theorem dL_law_528 : decode cL_law 528 = .ok (.iload_n 3, 1) := by decide +kernel
theorem dL_law_529 : decode cL_law 529 = .ok (.iconst 1, 1) := by decide +kernel
theorem dL_law_530 : decode cL_law 530 = .ok (.iadd, 1) := by decide +kernel
theorem dL_law_531 : decode cL_law 531 = .ok (.iaload, 1) := by decide +kernel
theorem dL_law_532 : decode cL_law 532 = .ok (.aload_n 0, 1) := by decide +kernel
theorem dL_law_533 : decode cL_law 533 = .ok (.iload_n 3, 1) := by decide +kernel
theorem dL_law_534 : decode cL_law 534 = .ok (.iconst 2, 1) := by decide +kernel
theorem dL_law_535 : decode cL_law 535 = .ok (.iadd, 1) := by decide +kernel
theorem dL_law_536 : decode cL_law 536 = .ok (.iaload, 1) := by decide +kernel
theorem dL_law_537 : decode cL_law 537 = .ok (.invokevirtual 59, 3) := by decide +kernel
theorem dL_law_540 : decode cL_law 540 = .ok (.if_icmp .eq 536, 3) := by decide +kernel
theorem dL_law_543 : decode cL_law 543 = .ok (.iconst 0, 1) := by decide +kernel
theorem dL_law_544 : decode cL_law 544 = .ok (.ireturn, 1) := by decide +kernel
theorem dL_law_545 : decode cL_law 545 = .ok (.aload_n 1, 1) := by decide +kernel
theorem dL_law_546 : decode cL_law 546 = .ok (.aload_n 0, 1) := by decide +kernel
theorem dL_law_547 : decode cL_law 547 = .ok (.iload_n 3, 1) := by decide +kernel
theorem dL_law_548 : decode cL_law 548 = .ok (.iconst 1, 1) := by decide +kernel
theorem dL_law_549 : decode cL_law 549 = .ok (.iadd, 1) := by decide +kernel
theorem dL_law_550 : decode cL_law 550 = .ok (.iaload, 1) := by decide +kernel
theorem dL_law_551 : decode cL_law 551 = .ok (.aload_n 0, 1) := by decide +kernel
theorem dL_law_552 : decode cL_law 552 = .ok (.iload_n 3, 1) := by decide +kernel
theorem dL_law_553 : decode cL_law 553 = .ok (.iconst 2, 1) := by decide +kernel
theorem dL_law_554 : decode cL_law 554 = .ok (.iadd, 1) := by decide +kernel
theorem dL_law_555 : decode cL_law 555 = .ok (.iaload, 1) := by decide +kernel
theorem dL_law_556 : decode cL_law 556 = .ok (.invokevirtual 60, 3) := by decide +kernel
theorem dL_law_559 : decode cL_law 559 = .ok (.aload_n 2, 1) := by decide +kernel
theorem dL_law_560 : decode cL_law 560 = .ok (.aload_n 0, 1) := by decide +kernel
theorem dL_law_561 : decode cL_law 561 = .ok (.iload_n 3, 1) := by decide +kernel
theorem dL_law_562 : decode cL_law 562 = .ok (.iconst 1, 1) := by decide +kernel
theorem dL_law_563 : decode cL_law 563 = .ok (.iadd, 1) := by decide +kernel
theorem dL_law_564 : decode cL_law 564 = .ok (.iaload, 1) := by decide +kernel
theorem dL_law_565 : decode cL_law 565 = .ok (.aload_n 0, 1) := by decide +kernel
theorem dL_law_566 : decode cL_law 566 = .ok (.iload_n 3, 1) := by decide +kernel
theorem dL_law_567 : decode cL_law 567 = .ok (.iconst 2, 1) := by decide +kernel
theorem dL_law_568 : decode cL_law 568 = .ok (.iadd, 1) := by decide +kernel
theorem dL_law_569 : decode cL_law 569 = .ok (.iaload, 1) := by decide +kernel
theorem dL_law_570 : decode cL_law 570 = .ok (.invokevirtual 63, 3) := by decide +kernel
theorem dL_law_573 : decode cL_law 573 = .ok (.if_icmp .eq 503, 3) := by decide +kernel
theorem dL_law_576 : decode cL_law 576 = .ok (.iconst 0, 1) := by decide +kernel
theorem dL_law_577 : decode cL_law 577 = .ok (.ireturn, 1) := by decide +kernel
theorem dL_law_578 : decode cL_law 578 = .ok (.aload_n 1, 1) := by decide +kernel
theorem dL_law_579 : decode cL_law 579 = .ok (.aload_n 0, 1) := by decide +kernel
theorem dL_law_580 : decode cL_law 580 = .ok (.iload_n 3, 1) := by decide +kernel
theorem dL_law_581 : decode cL_law 581 = .ok (.iconst 1, 1) := by decide +kernel
theorem dL_law_582 : decode cL_law 582 = .ok (.iadd, 1) := by decide +kernel
theorem dL_law_583 : decode cL_law 583 = .ok (.iaload, 1) := by decide +kernel
theorem dL_law_584 : decode cL_law 584 = .ok (.aload_n 0, 1) := by decide +kernel
theorem dL_law_585 : decode cL_law 585 = .ok (.iload_n 3, 1) := by decide +kernel
theorem dL_law_586 : decode cL_law 586 = .ok (.iconst 2, 1) := by decide +kernel
theorem dL_law_587 : decode cL_law 587 = .ok (.iadd, 1) := by decide +kernel
theorem dL_law_588 : decode cL_law 588 = .ok (.iaload, 1) := by decide +kernel
theorem dL_law_589 : decode cL_law 589 = .ok (.invokevirtual 64, 3) := by decide +kernel
theorem dL_law_592 : decode cL_law 592 = .ok (.aload_n 2, 1) := by decide +kernel
theorem dL_law_593 : decode cL_law 593 = .ok (.aload_n 0, 1) := by decide +kernel
theorem dL_law_594 : decode cL_law 594 = .ok (.iload_n 3, 1) := by decide +kernel
theorem dL_law_595 : decode cL_law 595 = .ok (.iconst 1, 1) := by decide +kernel
theorem dL_law_596 : decode cL_law 596 = .ok (.iadd, 1) := by decide +kernel
theorem dL_law_597 : decode cL_law 597 = .ok (.iaload, 1) := by decide +kernel
theorem dL_law_598 : decode cL_law 598 = .ok (.aload_n 0, 1) := by decide +kernel
theorem dL_law_599 : decode cL_law 599 = .ok (.iload_n 3, 1) := by decide +kernel
theorem dL_law_600 : decode cL_law 600 = .ok (.iconst 2, 1) := by decide +kernel
theorem dL_law_601 : decode cL_law 601 = .ok (.iadd, 1) := by decide +kernel
theorem dL_law_602 : decode cL_law 602 = .ok (.iaload, 1) := by decide +kernel
theorem dL_law_603 : decode cL_law 603 = .ok (.invokevirtual 67, 3) := by decide +kernel
theorem dL_law_606 : decode cL_law 606 = .ok (.if_icmp .eq 470, 3) := by decide +kernel
theorem dL_law_609 : decode cL_law 609 = .ok (.iconst 0, 1) := by decide +kernel
theorem dL_law_610 : decode cL_law 610 = .ok (.ireturn, 1) := by decide +kernel
theorem dL_law_611 : decode cL_law 611 = .ok (.aload_n 1, 1) := by decide +kernel
theorem dL_law_612 : decode cL_law 612 = .ok (.aload_n 0, 1) := by decide +kernel
theorem dL_law_613 : decode cL_law 613 = .ok (.iload_n 3, 1) := by decide +kernel
theorem dL_law_614 : decode cL_law 614 = .ok (.iconst 1, 1) := by decide +kernel
theorem dL_law_615 : decode cL_law 615 = .ok (.iadd, 1) := by decide +kernel
theorem dL_law_616 : decode cL_law 616 = .ok (.iaload, 1) := by decide +kernel
theorem dL_law_617 : decode cL_law 617 = .ok (.invokevirtual 68, 3) := by decide +kernel
theorem dL_law_620 : decode cL_law 620 = .ok (.aload_n 2, 1) := by decide +kernel
theorem dL_law_621 : decode cL_law 621 = .ok (.aload_n 0, 1) := by decide +kernel
theorem dL_law_622 : decode cL_law 622 = .ok (.iload_n 3, 1) := by decide +kernel
theorem dL_law_623 : decode cL_law 623 = .ok (.iconst 1, 1) := by decide +kernel
theorem dL_law_624 : decode cL_law 624 = .ok (.iadd, 1) := by decide +kernel
theorem dL_law_625 : decode cL_law 625 = .ok (.iaload, 1) := by decide +kernel
theorem dL_law_626 : decode cL_law 626 = .ok (.invokevirtual 71, 3) := by decide +kernel
theorem dL_law_629 : decode cL_law 629 = .ok (.if_icmp .eq 447, 3) := by decide +kernel
theorem dL_law_632 : decode cL_law 632 = .ok (.iconst 0, 1) := by decide +kernel
theorem dL_law_633 : decode cL_law 633 = .ok (.ireturn, 1) := by decide +kernel
theorem dL_law_634 : decode cL_law 634 = .ok (.aload_n 1, 1) := by decide +kernel
theorem dL_law_635 : decode cL_law 635 = .ok (.aload_n 0, 1) := by decide +kernel
theorem dL_law_636 : decode cL_law 636 = .ok (.iload_n 3, 1) := by decide +kernel
theorem dL_law_637 : decode cL_law 637 = .ok (.iconst 1, 1) := by decide +kernel
theorem dL_law_638 : decode cL_law 638 = .ok (.iadd, 1) := by decide +kernel
theorem dL_law_639 : decode cL_law 639 = .ok (.iaload, 1) := by decide +kernel
theorem dL_law_640 : decode cL_law 640 = .ok (.aload_n 0, 1) := by decide +kernel
theorem dL_law_641 : decode cL_law 641 = .ok (.iload_n 3, 1) := by decide +kernel
theorem dL_law_642 : decode cL_law 642 = .ok (.iconst 2, 1) := by decide +kernel
theorem dL_law_643 : decode cL_law 643 = .ok (.iadd, 1) := by decide +kernel
theorem dL_law_644 : decode cL_law 644 = .ok (.iaload, 1) := by decide +kernel
theorem dL_law_645 : decode cL_law 645 = .ok (.aload_n 0, 1) := by decide +kernel
theorem dL_law_646 : decode cL_law 646 = .ok (.iload_n 3, 1) := by decide +kernel
theorem dL_law_647 : decode cL_law 647 = .ok (.iconst 3, 1) := by decide +kernel
theorem dL_law_648 : decode cL_law 648 = .ok (.iadd, 1) := by decide +kernel
theorem dL_law_649 : decode cL_law 649 = .ok (.iaload, 1) := by decide +kernel
theorem dL_law_650 : decode cL_law 650 = .ok (.invokevirtual 72, 3) := by decide +kernel
theorem dL_law_653 : decode cL_law 653 = .ok (.aload_n 2, 1) := by decide +kernel
theorem dL_law_654 : decode cL_law 654 = .ok (.aload_n 0, 1) := by decide +kernel
theorem dL_law_655 : decode cL_law 655 = .ok (.iload_n 3, 1) := by decide +kernel
theorem dL_law_656 : decode cL_law 656 = .ok (.iconst 1, 1) := by decide +kernel
theorem dL_law_657 : decode cL_law 657 = .ok (.iadd, 1) := by decide +kernel
theorem dL_law_658 : decode cL_law 658 = .ok (.iaload, 1) := by decide +kernel
theorem dL_law_659 : decode cL_law 659 = .ok (.aload_n 0, 1) := by decide +kernel
theorem dL_law_660 : decode cL_law 660 = .ok (.iload_n 3, 1) := by decide +kernel
theorem dL_law_661 : decode cL_law 661 = .ok (.iconst 2, 1) := by decide +kernel
theorem dL_law_662 : decode cL_law 662 = .ok (.iadd, 1) := by decide +kernel
theorem dL_law_663 : decode cL_law 663 = .ok (.iaload, 1) := by decide +kernel
theorem dL_law_664 : decode cL_law 664 = .ok (.aload_n 0, 1) := by decide +kernel
theorem dL_law_665 : decode cL_law 665 = .ok (.iload_n 3, 1) := by decide +kernel
theorem dL_law_666 : decode cL_law 666 = .ok (.iconst 3, 1) := by decide +kernel
theorem dL_law_667 : decode cL_law 667 = .ok (.iadd, 1) := by decide +kernel
theorem dL_law_668 : decode cL_law 668 = .ok (.iaload, 1) := by decide +kernel
theorem dL_law_669 : decode cL_law 669 = .ok (.invokevirtual 75, 3) := by decide +kernel
theorem dL_law_672 : decode cL_law 672 = .ok (.if_icmp .eq 404, 3) := by decide +kernel
theorem dL_law_675 : decode cL_law 675 = .ok (.iconst 0, 1) := by decide +kernel
theorem dL_law_676 : decode cL_law 676 = .ok (.ireturn, 1) := by decide +kernel
theorem dL_law_677 : decode cL_law 677 = .ok (.aload_n 1, 1) := by decide +kernel
theorem dL_law_678 : decode cL_law 678 = .ok (.aload_n 0, 1) := by decide +kernel
theorem dL_law_679 : decode cL_law 679 = .ok (.iload_n 3, 1) := by decide +kernel
theorem dL_law_680 : decode cL_law 680 = .ok (.iconst 1, 1) := by decide +kernel
theorem dL_law_681 : decode cL_law 681 = .ok (.iadd, 1) := by decide +kernel
theorem dL_law_682 : decode cL_law 682 = .ok (.iaload, 1) := by decide +kernel
theorem dL_law_683 : decode cL_law 683 = .ok (.invokevirtual 76, 3) := by decide +kernel
theorem dL_law_686 : decode cL_law 686 = .ok (.aload_n 2, 1) := by decide +kernel
theorem dL_law_687 : decode cL_law 687 = .ok (.aload_n 0, 1) := by decide +kernel
theorem dL_law_688 : decode cL_law 688 = .ok (.iload_n 3, 1) := by decide +kernel
theorem dL_law_689 : decode cL_law 689 = .ok (.iconst 1, 1) := by decide +kernel
theorem dL_law_690 : decode cL_law 690 = .ok (.iadd, 1) := by decide +kernel
theorem dL_law_691 : decode cL_law 691 = .ok (.iaload, 1) := by decide +kernel
theorem dL_law_692 : decode cL_law 692 = .ok (.invokevirtual 79, 3) := by decide +kernel
theorem dL_law_695 : decode cL_law 695 = .ok (.if_icmp .eq 381, 3) := by decide +kernel
theorem dL_law_698 : decode cL_law 698 = .ok (.iconst 0, 1) := by decide +kernel
theorem dL_law_699 : decode cL_law 699 = .ok (.ireturn, 1) := by decide +kernel
theorem dL_law_700 : decode cL_law 700 = .ok (.aload_n 1, 1) := by decide +kernel
theorem dL_law_701 : decode cL_law 701 = .ok (.aload_n 0, 1) := by decide +kernel
theorem dL_law_702 : decode cL_law 702 = .ok (.iload_n 3, 1) := by decide +kernel
theorem dL_law_703 : decode cL_law 703 = .ok (.iconst 1, 1) := by decide +kernel
theorem dL_law_704 : decode cL_law 704 = .ok (.iadd, 1) := by decide +kernel
theorem dL_law_705 : decode cL_law 705 = .ok (.iaload, 1) := by decide +kernel
theorem dL_law_706 : decode cL_law 706 = .ok (.aload_n 0, 1) := by decide +kernel
theorem dL_law_707 : decode cL_law 707 = .ok (.iload_n 3, 1) := by decide +kernel
theorem dL_law_708 : decode cL_law 708 = .ok (.iconst 2, 1) := by decide +kernel
theorem dL_law_709 : decode cL_law 709 = .ok (.iadd, 1) := by decide +kernel
theorem dL_law_710 : decode cL_law 710 = .ok (.iaload, 1) := by decide +kernel
theorem dL_law_711 : decode cL_law 711 = .ok (.invokevirtual 80, 3) := by decide +kernel
theorem dL_law_714 : decode cL_law 714 = .ok (.aload_n 2, 1) := by decide +kernel
theorem dL_law_715 : decode cL_law 715 = .ok (.aload_n 0, 1) := by decide +kernel
theorem dL_law_716 : decode cL_law 716 = .ok (.iload_n 3, 1) := by decide +kernel
theorem dL_law_717 : decode cL_law 717 = .ok (.iconst 1, 1) := by decide +kernel
theorem dL_law_718 : decode cL_law 718 = .ok (.iadd, 1) := by decide +kernel
theorem dL_law_719 : decode cL_law 719 = .ok (.iaload, 1) := by decide +kernel
theorem dL_law_720 : decode cL_law 720 = .ok (.aload_n 0, 1) := by decide +kernel
theorem dL_law_721 : decode cL_law 721 = .ok (.iload_n 3, 1) := by decide +kernel
theorem dL_law_722 : decode cL_law 722 = .ok (.iconst 2, 1) := by decide +kernel
theorem dL_law_723 : decode cL_law 723 = .ok (.iadd, 1) := by decide +kernel
theorem dL_law_724 : decode cL_law 724 = .ok (.iaload, 1) := by decide +kernel
theorem dL_law_725 : decode cL_law 725 = .ok (.invokevirtual 83, 3) := by decide +kernel
theorem dL_law_728 : decode cL_law 728 = .ok (.if_icmp .eq 348, 3) := by decide +kernel
theorem dL_law_731 : decode cL_law 731 = .ok (.iconst 0, 1) := by decide +kernel
theorem dL_law_732 : decode cL_law 732 = .ok (.ireturn, 1) := by decide +kernel
theorem dL_law_733 : decode cL_law 733 = .ok (.aload_n 1, 1) := by decide +kernel
theorem dL_law_734 : decode cL_law 734 = .ok (.aload_n 0, 1) := by decide +kernel
theorem dL_law_735 : decode cL_law 735 = .ok (.iload_n 3, 1) := by decide +kernel
theorem dL_law_736 : decode cL_law 736 = .ok (.iconst 1, 1) := by decide +kernel
theorem dL_law_737 : decode cL_law 737 = .ok (.iadd, 1) := by decide +kernel
theorem dL_law_738 : decode cL_law 738 = .ok (.iaload, 1) := by decide +kernel
theorem dL_law_739 : decode cL_law 739 = .ok (.aload_n 0, 1) := by decide +kernel
theorem dL_law_740 : decode cL_law 740 = .ok (.iload_n 3, 1) := by decide +kernel
theorem dL_law_741 : decode cL_law 741 = .ok (.iconst 2, 1) := by decide +kernel
theorem dL_law_742 : decode cL_law 742 = .ok (.iadd, 1) := by decide +kernel
theorem dL_law_743 : decode cL_law 743 = .ok (.iaload, 1) := by decide +kernel
theorem dL_law_744 : decode cL_law 744 = .ok (.aload_n 0, 1) := by decide +kernel
theorem dL_law_745 : decode cL_law 745 = .ok (.iload_n 3, 1) := by decide +kernel
theorem dL_law_746 : decode cL_law 746 = .ok (.iconst 3, 1) := by decide +kernel
theorem dL_law_747 : decode cL_law 747 = .ok (.iadd, 1) := by decide +kernel
theorem dL_law_748 : decode cL_law 748 = .ok (.iaload, 1) := by decide +kernel
theorem dL_law_749 : decode cL_law 749 = .ok (.invokevirtual 84, 3) := by decide +kernel
theorem dL_law_752 : decode cL_law 752 = .ok (.aload_n 2, 1) := by decide +kernel
theorem dL_law_753 : decode cL_law 753 = .ok (.aload_n 0, 1) := by decide +kernel
theorem dL_law_754 : decode cL_law 754 = .ok (.iload_n 3, 1) := by decide +kernel
theorem dL_law_755 : decode cL_law 755 = .ok (.iconst 1, 1) := by decide +kernel
theorem dL_law_756 : decode cL_law 756 = .ok (.iadd, 1) := by decide +kernel
theorem dL_law_757 : decode cL_law 757 = .ok (.iaload, 1) := by decide +kernel
theorem dL_law_758 : decode cL_law 758 = .ok (.aload_n 0, 1) := by decide +kernel
theorem dL_law_759 : decode cL_law 759 = .ok (.iload_n 3, 1) := by decide +kernel
theorem dL_law_760 : decode cL_law 760 = .ok (.iconst 2, 1) := by decide +kernel
theorem dL_law_761 : decode cL_law 761 = .ok (.iadd, 1) := by decide +kernel
theorem dL_law_762 : decode cL_law 762 = .ok (.iaload, 1) := by decide +kernel
theorem dL_law_763 : decode cL_law 763 = .ok (.aload_n 0, 1) := by decide +kernel
theorem dL_law_764 : decode cL_law 764 = .ok (.iload_n 3, 1) := by decide +kernel
theorem dL_law_765 : decode cL_law 765 = .ok (.iconst 3, 1) := by decide +kernel
theorem dL_law_766 : decode cL_law 766 = .ok (.iadd, 1) := by decide +kernel
theorem dL_law_767 : decode cL_law 767 = .ok (.iaload, 1) := by decide +kernel
theorem dL_law_768 : decode cL_law 768 = .ok (.invokevirtual 87, 3) := by decide +kernel
theorem dL_law_771 : decode cL_law 771 = .ok (.if_icmp .eq 305, 3) := by decide +kernel
theorem dL_law_774 : decode cL_law 774 = .ok (.iconst 0, 1) := by decide +kernel
theorem dL_law_775 : decode cL_law 775 = .ok (.ireturn, 1) := by decide +kernel
theorem dL_law_776 : decode cL_law 776 = .ok (.aload_n 1, 1) := by decide +kernel
theorem dL_law_777 : decode cL_law 777 = .ok (.aload_n 0, 1) := by decide +kernel
theorem dL_law_778 : decode cL_law 778 = .ok (.iload_n 3, 1) := by decide +kernel
theorem dL_law_779 : decode cL_law 779 = .ok (.iconst 1, 1) := by decide +kernel
theorem dL_law_780 : decode cL_law 780 = .ok (.iadd, 1) := by decide +kernel
theorem dL_law_781 : decode cL_law 781 = .ok (.iaload, 1) := by decide +kernel
theorem dL_law_782 : decode cL_law 782 = .ok (.invokevirtual 88, 3) := by decide +kernel
theorem dL_law_785 : decode cL_law 785 = .ok (.aload_n 2, 1) := by decide +kernel
theorem dL_law_786 : decode cL_law 786 = .ok (.aload_n 0, 1) := by decide +kernel
theorem dL_law_787 : decode cL_law 787 = .ok (.iload_n 3, 1) := by decide +kernel
theorem dL_law_788 : decode cL_law 788 = .ok (.iconst 1, 1) := by decide +kernel
theorem dL_law_789 : decode cL_law 789 = .ok (.iadd, 1) := by decide +kernel
theorem dL_law_790 : decode cL_law 790 = .ok (.iaload, 1) := by decide +kernel
theorem dL_law_791 : decode cL_law 791 = .ok (.invokevirtual 91, 3) := by decide +kernel
theorem dL_law_794 : decode cL_law 794 = .ok (.if_icmp .eq 282, 3) := by decide +kernel
theorem dL_law_797 : decode cL_law 797 = .ok (.iconst 0, 1) := by decide +kernel
theorem dL_law_798 : decode cL_law 798 = .ok (.ireturn, 1) := by decide +kernel
theorem dL_law_799 : decode cL_law 799 = .ok (.aload_n 1, 1) := by decide +kernel
theorem dL_law_800 : decode cL_law 800 = .ok (.invokevirtual 92, 3) := by decide +kernel
theorem dL_law_803 : decode cL_law 803 = .ok (.aload_n 2, 1) := by decide +kernel
theorem dL_law_804 : decode cL_law 804 = .ok (.invokevirtual 96, 3) := by decide +kernel
theorem dL_law_807 : decode cL_law 807 = .ok (.if_icmp .eq 269, 3) := by decide +kernel
theorem dL_law_810 : decode cL_law 810 = .ok (.iconst 0, 1) := by decide +kernel
theorem dL_law_811 : decode cL_law 811 = .ok (.ireturn, 1) := by decide +kernel
theorem dL_law_812 : decode cL_law 812 = .ok (.aload_n 1, 1) := by decide +kernel
theorem dL_law_813 : decode cL_law 813 = .ok (.aload_n 0, 1) := by decide +kernel
theorem dL_law_814 : decode cL_law 814 = .ok (.iload_n 3, 1) := by decide +kernel
theorem dL_law_815 : decode cL_law 815 = .ok (.iconst 1, 1) := by decide +kernel
theorem dL_law_816 : decode cL_law 816 = .ok (.iadd, 1) := by decide +kernel
theorem dL_law_817 : decode cL_law 817 = .ok (.iaload, 1) := by decide +kernel
theorem dL_law_818 : decode cL_law 818 = .ok (.aload_n 0, 1) := by decide +kernel
theorem dL_law_819 : decode cL_law 819 = .ok (.iload_n 3, 1) := by decide +kernel
theorem dL_law_820 : decode cL_law 820 = .ok (.iconst 2, 1) := by decide +kernel
theorem dL_law_821 : decode cL_law 821 = .ok (.iadd, 1) := by decide +kernel
theorem dL_law_822 : decode cL_law 822 = .ok (.iaload, 1) := by decide +kernel
theorem dL_law_823 : decode cL_law 823 = .ok (.invokevirtual 97, 3) := by decide +kernel
theorem dL_law_826 : decode cL_law 826 = .ok (.aload_n 2, 1) := by decide +kernel
theorem dL_law_827 : decode cL_law 827 = .ok (.aload_n 0, 1) := by decide +kernel
theorem dL_law_828 : decode cL_law 828 = .ok (.iload_n 3, 1) := by decide +kernel
theorem dL_law_829 : decode cL_law 829 = .ok (.iconst 1, 1) := by decide +kernel
theorem dL_law_830 : decode cL_law 830 = .ok (.iadd, 1) := by decide +kernel
theorem dL_law_831 : decode cL_law 831 = .ok (.iaload, 1) := by decide +kernel
theorem dL_law_832 : decode cL_law 832 = .ok (.aload_n 0, 1) := by decide +kernel
theorem dL_law_833 : decode cL_law 833 = .ok (.iload_n 3, 1) := by decide +kernel
theorem dL_law_834 : decode cL_law 834 = .ok (.iconst 2, 1) := by decide +kernel
theorem dL_law_835 : decode cL_law 835 = .ok (.iadd, 1) := by decide +kernel
theorem dL_law_836 : decode cL_law 836 = .ok (.iaload, 1) := by decide +kernel
theorem dL_law_837 : decode cL_law 837 = .ok (.invokevirtual 100, 3) := by decide +kernel
theorem dL_law_840 : decode cL_law 840 = .ok (.if_icmp .eq 236, 3) := by decide +kernel
theorem dL_law_843 : decode cL_law 843 = .ok (.iconst 0, 1) := by decide +kernel
theorem dL_law_844 : decode cL_law 844 = .ok (.ireturn, 1) := by decide +kernel
theorem dL_law_845 : decode cL_law 845 = .ok (.aload_n 1, 1) := by decide +kernel
theorem dL_law_846 : decode cL_law 846 = .ok (.invokevirtual 101, 3) := by decide +kernel
theorem dL_law_849 : decode cL_law 849 = .ok (.aload_n 2, 1) := by decide +kernel
theorem dL_law_850 : decode cL_law 850 = .ok (.invokevirtual 104, 3) := by decide +kernel
theorem dL_law_853 : decode cL_law 853 = .ok (.if_icmp .eq 223, 3) := by decide +kernel
theorem dL_law_856 : decode cL_law 856 = .ok (.iconst 0, 1) := by decide +kernel
theorem dL_law_857 : decode cL_law 857 = .ok (.ireturn, 1) := by decide +kernel
theorem dL_law_858 : decode cL_law 858 = .ok (.aload_n 1, 1) := by decide +kernel
theorem dL_law_859 : decode cL_law 859 = .ok (.invokevirtual 105, 3) := by decide +kernel
theorem dL_law_862 : decode cL_law 862 = .ok (.aload_n 2, 1) := by decide +kernel
theorem dL_law_863 : decode cL_law 863 = .ok (.invokevirtual 108, 3) := by decide +kernel
theorem dL_law_866 : decode cL_law 866 = .ok (.if_icmp .eq 210, 3) := by decide +kernel
theorem dL_law_869 : decode cL_law 869 = .ok (.iconst 0, 1) := by decide +kernel
theorem dL_law_870 : decode cL_law 870 = .ok (.ireturn, 1) := by decide +kernel
theorem dL_law_871 : decode cL_law 871 = .ok (.aload_n 1, 1) := by decide +kernel
theorem dL_law_872 : decode cL_law 872 = .ok (.aload_n 0, 1) := by decide +kernel
theorem dL_law_873 : decode cL_law 873 = .ok (.iload_n 3, 1) := by decide +kernel
theorem dL_law_874 : decode cL_law 874 = .ok (.iconst 1, 1) := by decide +kernel
theorem dL_law_875 : decode cL_law 875 = .ok (.iadd, 1) := by decide +kernel
theorem dL_law_876 : decode cL_law 876 = .ok (.iaload, 1) := by decide +kernel
theorem dL_law_877 : decode cL_law 877 = .ok (.aload_n 0, 1) := by decide +kernel
theorem dL_law_878 : decode cL_law 878 = .ok (.iload_n 3, 1) := by decide +kernel
theorem dL_law_879 : decode cL_law 879 = .ok (.iconst 2, 1) := by decide +kernel
theorem dL_law_880 : decode cL_law 880 = .ok (.iadd, 1) := by decide +kernel
theorem dL_law_881 : decode cL_law 881 = .ok (.iaload, 1) := by decide +kernel
theorem dL_law_882 : decode cL_law 882 = .ok (.invokevirtual 109, 3) := by decide +kernel
theorem dL_law_885 : decode cL_law 885 = .ok (.aload_n 2, 1) := by decide +kernel
theorem dL_law_886 : decode cL_law 886 = .ok (.aload_n 0, 1) := by decide +kernel
theorem dL_law_887 : decode cL_law 887 = .ok (.iload_n 3, 1) := by decide +kernel
theorem dL_law_888 : decode cL_law 888 = .ok (.iconst 1, 1) := by decide +kernel
theorem dL_law_889 : decode cL_law 889 = .ok (.iadd, 1) := by decide +kernel
theorem dL_law_890 : decode cL_law 890 = .ok (.iaload, 1) := by decide +kernel
theorem dL_law_891 : decode cL_law 891 = .ok (.aload_n 0, 1) := by decide +kernel
theorem dL_law_892 : decode cL_law 892 = .ok (.iload_n 3, 1) := by decide +kernel
theorem dL_law_893 : decode cL_law 893 = .ok (.iconst 2, 1) := by decide +kernel
theorem dL_law_894 : decode cL_law 894 = .ok (.iadd, 1) := by decide +kernel
theorem dL_law_895 : decode cL_law 895 = .ok (.iaload, 1) := by decide +kernel
theorem dL_law_896 : decode cL_law 896 = .ok (.invokevirtual 112, 3) := by decide +kernel
theorem dL_law_899 : decode cL_law 899 = .ok (.if_icmp .eq 177, 3) := by decide +kernel
theorem dL_law_902 : decode cL_law 902 = .ok (.iconst 0, 1) := by decide +kernel
theorem dL_law_903 : decode cL_law 903 = .ok (.ireturn, 1) := by decide +kernel
theorem dL_law_904 : decode cL_law 904 = .ok (.aload_n 1, 1) := by decide +kernel
theorem dL_law_905 : decode cL_law 905 = .ok (.aload_n 0, 1) := by decide +kernel
theorem dL_law_906 : decode cL_law 906 = .ok (.iload_n 3, 1) := by decide +kernel
theorem dL_law_907 : decode cL_law 907 = .ok (.iconst 1, 1) := by decide +kernel
theorem dL_law_908 : decode cL_law 908 = .ok (.iadd, 1) := by decide +kernel
theorem dL_law_909 : decode cL_law 909 = .ok (.iaload, 1) := by decide +kernel
theorem dL_law_910 : decode cL_law 910 = .ok (.aload_n 0, 1) := by decide +kernel
theorem dL_law_911 : decode cL_law 911 = .ok (.iload_n 3, 1) := by decide +kernel
theorem dL_law_912 : decode cL_law 912 = .ok (.iconst 2, 1) := by decide +kernel
theorem dL_law_913 : decode cL_law 913 = .ok (.iadd, 1) := by decide +kernel
theorem dL_law_914 : decode cL_law 914 = .ok (.iaload, 1) := by decide +kernel
theorem dL_law_915 : decode cL_law 915 = .ok (.invokevirtual 113, 3) := by decide +kernel
theorem dL_law_918 : decode cL_law 918 = .ok (.aload_n 2, 1) := by decide +kernel
theorem dL_law_919 : decode cL_law 919 = .ok (.aload_n 0, 1) := by decide +kernel
theorem dL_law_920 : decode cL_law 920 = .ok (.iload_n 3, 1) := by decide +kernel
theorem dL_law_921 : decode cL_law 921 = .ok (.iconst 1, 1) := by decide +kernel
theorem dL_law_922 : decode cL_law 922 = .ok (.iadd, 1) := by decide +kernel
theorem dL_law_923 : decode cL_law 923 = .ok (.iaload, 1) := by decide +kernel
theorem dL_law_924 : decode cL_law 924 = .ok (.aload_n 0, 1) := by decide +kernel
theorem dL_law_925 : decode cL_law 925 = .ok (.iload_n 3, 1) := by decide +kernel
theorem dL_law_926 : decode cL_law 926 = .ok (.iconst 2, 1) := by decide +kernel
theorem dL_law_927 : decode cL_law 927 = .ok (.iadd, 1) := by decide +kernel
theorem dL_law_928 : decode cL_law 928 = .ok (.iaload, 1) := by decide +kernel
theorem dL_law_929 : decode cL_law 929 = .ok (.invokevirtual 116, 3) := by decide +kernel
theorem dL_law_932 : decode cL_law 932 = .ok (.if_icmp .eq 144, 3) := by decide +kernel
theorem dL_law_935 : decode cL_law 935 = .ok (.iconst 0, 1) := by decide +kernel
theorem dL_law_936 : decode cL_law 936 = .ok (.ireturn, 1) := by decide +kernel
theorem dL_law_937 : decode cL_law 937 = .ok (.aload_n 1, 1) := by decide +kernel
theorem dL_law_938 : decode cL_law 938 = .ok (.aload_n 0, 1) := by decide +kernel
theorem dL_law_939 : decode cL_law 939 = .ok (.iload_n 3, 1) := by decide +kernel
theorem dL_law_940 : decode cL_law 940 = .ok (.iconst 1, 1) := by decide +kernel
theorem dL_law_941 : decode cL_law 941 = .ok (.iadd, 1) := by decide +kernel
theorem dL_law_942 : decode cL_law 942 = .ok (.iaload, 1) := by decide +kernel
theorem dL_law_943 : decode cL_law 943 = .ok (.invokevirtual 117, 3) := by decide +kernel
theorem dL_law_946 : decode cL_law 946 = .ok (.aload_n 2, 1) := by decide +kernel
theorem dL_law_947 : decode cL_law 947 = .ok (.aload_n 0, 1) := by decide +kernel
theorem dL_law_948 : decode cL_law 948 = .ok (.iload_n 3, 1) := by decide +kernel
theorem dL_law_949 : decode cL_law 949 = .ok (.iconst 1, 1) := by decide +kernel
theorem dL_law_950 : decode cL_law 950 = .ok (.iadd, 1) := by decide +kernel
theorem dL_law_951 : decode cL_law 951 = .ok (.iaload, 1) := by decide +kernel
theorem dL_law_952 : decode cL_law 952 = .ok (.invokevirtual 120, 3) := by decide +kernel
theorem dL_law_955 : decode cL_law 955 = .ok (.if_icmp .eq 121, 3) := by decide +kernel
theorem dL_law_958 : decode cL_law 958 = .ok (.iconst 0, 1) := by decide +kernel
theorem dL_law_959 : decode cL_law 959 = .ok (.ireturn, 1) := by decide +kernel
theorem dL_law_960 : decode cL_law 960 = .ok (.aload_n 1, 1) := by decide +kernel
theorem dL_law_961 : decode cL_law 961 = .ok (.aload_n 0, 1) := by decide +kernel
theorem dL_law_962 : decode cL_law 962 = .ok (.iload_n 3, 1) := by decide +kernel
theorem dL_law_963 : decode cL_law 963 = .ok (.iconst 1, 1) := by decide +kernel
theorem dL_law_964 : decode cL_law 964 = .ok (.iadd, 1) := by decide +kernel
theorem dL_law_965 : decode cL_law 965 = .ok (.iaload, 1) := by decide +kernel
theorem dL_law_966 : decode cL_law 966 = .ok (.aload_n 0, 1) := by decide +kernel
theorem dL_law_967 : decode cL_law 967 = .ok (.iload_n 3, 1) := by decide +kernel
theorem dL_law_968 : decode cL_law 968 = .ok (.iconst 2, 1) := by decide +kernel
theorem dL_law_969 : decode cL_law 969 = .ok (.iadd, 1) := by decide +kernel
theorem dL_law_970 : decode cL_law 970 = .ok (.iaload, 1) := by decide +kernel
theorem dL_law_971 : decode cL_law 971 = .ok (.invokevirtual 121, 3) := by decide +kernel
theorem dL_law_974 : decode cL_law 974 = .ok (.aload_n 2, 1) := by decide +kernel
theorem dL_law_975 : decode cL_law 975 = .ok (.aload_n 0, 1) := by decide +kernel
theorem dL_law_976 : decode cL_law 976 = .ok (.iload_n 3, 1) := by decide +kernel
theorem dL_law_977 : decode cL_law 977 = .ok (.iconst 1, 1) := by decide +kernel
theorem dL_law_978 : decode cL_law 978 = .ok (.iadd, 1) := by decide +kernel
theorem dL_law_979 : decode cL_law 979 = .ok (.iaload, 1) := by decide +kernel
theorem dL_law_980 : decode cL_law 980 = .ok (.aload_n 0, 1) := by decide +kernel
theorem dL_law_981 : decode cL_law 981 = .ok (.iload_n 3, 1) := by decide +kernel
theorem dL_law_982 : decode cL_law 982 = .ok (.iconst 2, 1) := by decide +kernel
theorem dL_law_983 : decode cL_law 983 = .ok (.iadd, 1) := by decide +kernel
theorem dL_law_984 : decode cL_law 984 = .ok (.iaload, 1) := by decide +kernel
theorem dL_law_985 : decode cL_law 985 = .ok (.invokevirtual 124, 3) := by decide +kernel
theorem dL_law_988 : decode cL_law 988 = .ok (.if_icmp .eq 88, 3) := by decide +kernel
theorem dL_law_991 : decode cL_law 991 = .ok (.iconst 0, 1) := by decide +kernel
theorem dL_law_992 : decode cL_law 992 = .ok (.ireturn, 1) := by decide +kernel
theorem dL_law_993 : decode cL_law 993 = .ok (.aload_n 1, 1) := by decide +kernel
theorem dL_law_994 : decode cL_law 994 = .ok (.aload_n 0, 1) := by decide +kernel
theorem dL_law_995 : decode cL_law 995 = .ok (.iload_n 3, 1) := by decide +kernel
theorem dL_law_996 : decode cL_law 996 = .ok (.iconst 1, 1) := by decide +kernel
theorem dL_law_997 : decode cL_law 997 = .ok (.iadd, 1) := by decide +kernel
theorem dL_law_998 : decode cL_law 998 = .ok (.iaload, 1) := by decide +kernel
theorem dL_law_999 : decode cL_law 999 = .ok (.invokevirtual 125, 3) := by decide +kernel
theorem dL_law_1002 : decode cL_law 1002 = .ok (.aload_n 2, 1) := by decide +kernel
theorem dL_law_1003 : decode cL_law 1003 = .ok (.aload_n 0, 1) := by decide +kernel
theorem dL_law_1004 : decode cL_law 1004 = .ok (.iload_n 3, 1) := by decide +kernel
theorem dL_law_1005 : decode cL_law 1005 = .ok (.iconst 1, 1) := by decide +kernel
theorem dL_law_1006 : decode cL_law 1006 = .ok (.iadd, 1) := by decide +kernel
theorem dL_law_1007 : decode cL_law 1007 = .ok (.iaload, 1) := by decide +kernel
theorem dL_law_1008 : decode cL_law 1008 = .ok (.invokevirtual 128, 3) := by decide +kernel
theorem dL_law_1011 : decode cL_law 1011 = .ok (.if_icmp .eq 65, 3) := by decide +kernel
theorem dL_law_1014 : decode cL_law 1014 = .ok (.iconst 0, 1) := by decide +kernel
theorem dL_law_1015 : decode cL_law 1015 = .ok (.ireturn, 1) := by decide +kernel
theorem dL_law_1016 : decode cL_law 1016 = .ok (.aload_n 1, 1) := by decide +kernel
theorem dL_law_1017 : decode cL_law 1017 = .ok (.aload_n 0, 1) := by decide +kernel
theorem dL_law_1018 : decode cL_law 1018 = .ok (.iload_n 3, 1) := by decide +kernel
theorem dL_law_1019 : decode cL_law 1019 = .ok (.iconst 1, 1) := by decide +kernel
theorem dL_law_1020 : decode cL_law 1020 = .ok (.iadd, 1) := by decide +kernel
theorem dL_law_1021 : decode cL_law 1021 = .ok (.iaload, 1) := by decide +kernel
theorem dL_law_1022 : decode cL_law 1022 = .ok (.invokevirtual 129, 3) := by decide +kernel
theorem dL_law_1025 : decode cL_law 1025 = .ok (.aload_n 2, 1) := by decide +kernel
theorem dL_law_1026 : decode cL_law 1026 = .ok (.aload_n 0, 1) := by decide +kernel
theorem dL_law_1027 : decode cL_law 1027 = .ok (.iload_n 3, 1) := by decide +kernel
theorem dL_law_1028 : decode cL_law 1028 = .ok (.iconst 1, 1) := by decide +kernel
theorem dL_law_1029 : decode cL_law 1029 = .ok (.iadd, 1) := by decide +kernel
theorem dL_law_1030 : decode cL_law 1030 = .ok (.iaload, 1) := by decide +kernel
theorem dL_law_1031 : decode cL_law 1031 = .ok (.invokevirtual 132, 3) := by decide +kernel
theorem dL_law_1034 : decode cL_law 1034 = .ok (.if_icmp .eq 42, 3) := by decide +kernel
theorem dL_law_1037 : decode cL_law 1037 = .ok (.iconst 0, 1) := by decide +kernel
theorem dL_law_1038 : decode cL_law 1038 = .ok (.ireturn, 1) := by decide +kernel
theorem dL_law_1039 : decode cL_law 1039 = .ok (.aload_n 1, 1) := by decide +kernel
theorem dL_law_1040 : decode cL_law 1040 = .ok (.aload_n 0, 1) := by decide +kernel
theorem dL_law_1041 : decode cL_law 1041 = .ok (.iload_n 3, 1) := by decide +kernel
theorem dL_law_1042 : decode cL_law 1042 = .ok (.iconst 1, 1) := by decide +kernel
theorem dL_law_1043 : decode cL_law 1043 = .ok (.iadd, 1) := by decide +kernel
theorem dL_law_1044 : decode cL_law 1044 = .ok (.iaload, 1) := by decide +kernel
theorem dL_law_1045 : decode cL_law 1045 = .ok (.invokevirtual 133, 3) := by decide +kernel
theorem dL_law_1048 : decode cL_law 1048 = .ok (.aload_n 2, 1) := by decide +kernel
theorem dL_law_1049 : decode cL_law 1049 = .ok (.aload_n 0, 1) := by decide +kernel
theorem dL_law_1050 : decode cL_law 1050 = .ok (.iload_n 3, 1) := by decide +kernel
theorem dL_law_1051 : decode cL_law 1051 = .ok (.iconst 1, 1) := by decide +kernel
theorem dL_law_1052 : decode cL_law 1052 = .ok (.iadd, 1) := by decide +kernel
theorem dL_law_1053 : decode cL_law 1053 = .ok (.iaload, 1) := by decide +kernel
theorem dL_law_1054 : decode cL_law 1054 = .ok (.invokevirtual 136, 3) := by decide +kernel
theorem dL_law_1057 : decode cL_law 1057 = .ok (.if_icmp .eq 19, 3) := by decide +kernel
theorem dL_law_1060 : decode cL_law 1060 = .ok (.iconst 0, 1) := by decide +kernel
theorem dL_law_1061 : decode cL_law 1061 = .ok (.ireturn, 1) := by decide +kernel
theorem dL_law_1062 : decode cL_law 1062 = .ok (.aload_n 1, 1) := by decide +kernel
theorem dL_law_1063 : decode cL_law 1063 = .ok (.invokevirtual 137, 3) := by decide +kernel
theorem dL_law_1066 : decode cL_law 1066 = .ok (.aload_n 2, 1) := by decide +kernel
theorem dL_law_1067 : decode cL_law 1067 = .ok (.invokevirtual 141, 3) := by decide +kernel
theorem dL_law_1070 : decode cL_law 1070 = .ok (.lcmp, 1) := by decide +kernel
theorem dL_law_1071 : decode cL_law 1071 = .ok (.ifCond .eq 5, 3) := by decide +kernel
theorem dL_law_1074 : decode cL_law 1074 = .ok (.iconst 0, 1) := by decide +kernel
theorem dL_law_1075 : decode cL_law 1075 = .ok (.ireturn, 1) := by decide +kernel
theorem dL_law_1076 : decode cL_law 1076 = .ok (.iinc 3 4, 3) := by decide +kernel
theorem dL_law_1079 : decode cL_law 1079 = .ok (.goto (-1061), 3) := by decide +kernel
theorem dL_law_1082 : decode cL_law 1082 = .ok (.iconst 1, 1) := by decide +kernel
theorem dL_law_1083 : decode cL_law 1083 = .ok (.ireturn, 1) := by decide +kernel
abbrev vwCl : List vw_C := [(RX0, TX0, 3), (RX1, TX1, 3), (RX2, TX2, 3), (RX3, TX3, 4), (RX4, TX4, 9), (RX5, TX5, 16)]
end
section
abbrev ss_S : Type := Nat → Nat → Int32
def sA (σ : ss_S) (a : Nat) (f : Nat → Int32) : ss_S := fun i => if i = a then f else σ i
def u2 (σ : ss_S) (a k : Nat) (x : Int32) : ss_S := sA σ a (upd (σ a) k x)
theorem sA_same (σ : ss_S) (a : Nat) (f : Nat → Int32) : sA σ a f a = f := by simp [sA]
theorem sA_ne (σ : ss_S) {a i : Nat} (f : Nat → Int32) (h : i ≠ a) : sA σ a f i = σ i := by simp [sA, h]
abbrev ss_CE : Type := Nat → (Nat → Int32) → va_E
def ss_ws (N : Nat) (L : Nat → Nat) (ce : ss_CE) (σ : ss_S) : va_W := (List.range N).map (fun i => (L i, ce i (σ i)))
theorem ss_len (N : Nat) (L : Nat → Nat) (ce : ss_CE) (σ : ss_S) : (ss_ws N L ce σ).length = N := by simp [ss_ws]
theorem ss_look {N : Nat} {L : Nat → Nat} {ce : ss_CE} {σ : ss_S} {wr : va_W} {o : Nat} (h : o < N) : (ss_ws N L ce σ ++ wr)[o]? = some (L o, ce o (σ o)) := by
  rw [List.getElem?_append_left (by rw [ss_len]; exact h)]
  simp [ss_ws, h]
theorem ss_set {N : Nat} {L : Nat → Nat} {ce : ss_CE} {σ : ss_S} {wr : va_W} {o : Nat} (h : o < N) (f : Nat → Int32) : (ss_ws N L ce σ ++ wr).set o (L o, ce o f) = ss_ws N L ce (sA σ o f) ++ wr := by
  rw [List.set_append_left _ _ (by rw [ss_len]; exact h)]
  congr 1
  apply List.ext_getElem?
  intro i
  by_cases hi : i = o
  · subst hi
    rw [List.getElem?_set_self (by rw [ss_len]; exact h)]
    simp [ss_ws, h, sA]
  · rw [List.getElem?_set_ne (Ne.symm hi)]
    by_cases hN : i < N
    · simp [ss_ws, sA, hi, hN]
    · simp [ss_ws, hN]
def ss_isN (w : Cond) : Bool := match w with
  | .fieldLinkNest _ _ _ _ _ _ => true
  | .methodLinkNest _ _ _ _ => true
  | _ => false
def ss_nw : List Cond := [.methodLinkNest RX4 9 yX0_init RX4, .fieldLinkNest RX4 75 "SmallSpaces$Frame" "q" "I" RX4, .fieldLinkNest RX3 55 "SmallSpaces$Frame" "q" "I" RX4, .fieldLinkNest RX2 31 "SmallSpaces$Frame" "n" "I" RX4, .fieldLinkNest RX3 38 "SmallSpaces$Frame" "n" "I" RX4, .fieldLinkNest RX4 136 "SmallSpaces$Frame" "n" "I" RX4, .fieldLinkNest RX4 68 "SmallSpaces$Frame" "vectors" "I" RX4, .methodLinkNest RX4 22 yX3_init RX4, .fieldLinkNest RX2 61 "SmallSpaces$Space" "cells" "[I" RX4, .methodLinkNest RX4 27 yX1_init RX4, .methodLinkNest RX1 17 yX3_init RX4, .fieldLinkNest RX4 151 "SmallSpaces$Heap" "spaces" "[LSmallSpaces$Space;" RX4, .fieldLinkNest RX4 61 "SmallSpaces$Heap" "size" "I" RX4, .methodLinkNest RX4 34 yX2_init RX4, .methodLinkNest RX4 54 yX0_become RX4, .methodLinkNest RX4 58 yX3_becomeZero RX4, .methodLinkNest RX4 65 yX2_becomeIdentity RX4, .methodLinkNest RX4 71 yX0_isVector RX4, .methodLinkNest RX4 78 yX0_sum RX4, .methodLinkNest RX4 82 yX0_product RX4, .methodLinkNest RX4 89 yX0_spell RX4, .methodLinkNest RX4 93 yX3_joinVector RX4, .methodLinkNest RX3 79 yX0_addMultiple RX4, .methodLinkNest RX3 72 yX0_inverse RX4, .methodLinkNest RX4 97 yX3_rank RX4, .methodLinkNest RX4 101 yX3_rowNumber RX4, .methodLinkNest RX3 47 yX0_vectorNumber RX4, .methodLinkNest RX4 104 yX3_copyFrom RX4, .methodLinkNest RX4 108 yX3_joinSpace RX4, .methodLinkNest RX4 115 yX3_becomeDual RX4, .methodLinkNest RX4 118 yX3_holds RX4, .methodLinkNest RX4 122 yX3_liesIn RX4, .methodLinkNest RX4 126 yX3_distance RX4, .methodLinkNest RX4 130 yX3_ordinal RX4, .methodLinkNest RX3 106 yX0_power RX4, .methodLinkNest RX4 139 yX0_spaces RX4, .methodLinkNest RX4 142 yX3_becomeOrdinal RX4, .methodLinkNest RX4 145 yX0_power RX4, .methodLinkNest RX4 148 yX1_accept RX4, .methodLinkNest RX1 28 yX3_copyFrom RX4, .methodLinkNest RX4 153 yX1_leastDistance RX4, .methodLinkNest RX1 32 yX3_distance RX4, .methodLinkNest RX4 156 yX1_covers RX4, .methodLinkNest RX1 36 yX3_holds RX4, .methodLinkNest RX4 163 yX1_allApart RX4, .methodLinkNest RX4 167 yX2_imageNumber RX4, .methodLinkNest RX2 37 yX0_vectorNumber RX4, .methodLinkNest RX4 170 yX2_setImage RX4, .methodLinkNest RX2 41 yX0_spell RX4, .methodLinkNest RX4 173 yX2_apply RX4, .methodLinkNest RX2 48 yX0_addMultiple RX4, .methodLinkNest RX4 177 yX2_applyToSpace RX4, .methodLinkNest RX2 52 yX3_becomeZero RX4, .methodLinkNest RX2 57 yX3_isPivot RX4, .methodLinkNest RX2 62 yX3_joinVector RX4, .methodLinkNest RX4 181 yX2_columnSpace RX4, .methodLinkNest RX4 206 yX3_sameAs RX4]
def ss_NW (U : State) : Prop := ∀ w ∈ ss_nw, va_Nw w U
theorem ss_nw_is : ∀ w ∈ ss_nw, ss_isN w = true := by decide +kernel
theorem ss_isN_warm {w : Cond} (h : ss_isN w = true) {s U : State} (hW : s.WarmedH U.vm) (hZ : va_Nw w s) : va_Nw w U := by
  cases w with
  | fieldLinkNest a i b n d h => exact va_Nw.warmF hW hZ
  | methodLinkNest a i x h => exact va_Nw.warmM hW hZ
  | _ => cases h
theorem ss_isN_tab {w : Cond} (h : ss_isN w = true) : w.onTables = true := by
  cases w with
  | fieldLinkNest a i b n d h => rfl
  | methodLinkNest a i x h => rfl
  | _ => cases h
theorem ss_NW.warm {s U : State} (hW : s.WarmedH U.vm) (h : ss_NW s) : ss_NW U := fun w hw => ss_isN_warm (ss_nw_is w hw) hW (h w hw)
theorem ss_NW.same {s U : State} (hv : s.vm = U.vm) (h : ss_NW s) : ss_NW U := fun w hw => va_Nw.same (ss_isN_tab (ss_nw_is w hw)) hv (h w hw)
theorem ss_NW.use {s : State} {args : Array Value} (h : ss_NW s) {w : Cond} (hw : w ∈ ss_nw) : w.before args s = true := va_Nw.use (ss_isN_tab (ss_nw_is w hw)) (h w hw)
theorem ss_NW.of {s : State} {args : Array Value} (h : ∀ w ∈ ss_nw, w.before args s = true) : ss_NW s := fun w hw => va_Nw.of (ss_isN_tab (ss_nw_is w hw)) (h w hw)
abbrev ss_E : Type := va_G × (Nat → Prop) × Nat × (Nat → Nat) × ss_CE × va_W × List (ClassId × FieldType)
def ss_C (E : ss_E) (σ : ss_S) (s : State) (H : Heap) (locs : List Loc) : Prop :=
  va_P E.1 vwCl (ss_ws E.2.2.1 E.2.2.2.1 E.2.2.2.2.1 σ ++ E.2.2.2.2.2.1) H ∧ va_D E.2.1 (ss_ws E.2.2.1 E.2.2.2.1 E.2.2.2.2.1 σ ++ E.2.2.2.2.2.1) ∧ va_S E.2.1 s.heap H locs
def ss_pre (E : ss_E) (av : List Value) (σ : ss_S) (P : Prop) : Array Value → State → Prop :=
  va_Pc av (fun U => (va_P E.1 vwCl (ss_ws E.2.2.1 E.2.2.2.1 E.2.2.2.2.1 σ ++ E.2.2.2.2.2.1) U.heap ∧ va_D E.2.1 (ss_ws E.2.2.1 E.2.2.2.1 E.2.2.2.2.1 σ ++ E.2.2.2.2.2.1)) ∧ va_K E.1 vwCl E.2.2.2.2.2.2 U ∧ ss_NW U ∧ P)
def ss_B (E : ss_E) (σ : ss_S) (t : State) : Prop :=
  va_P E.1 vwCl (ss_ws E.2.2.1 E.2.2.2.1 E.2.2.2.2.1 σ ++ E.2.2.2.2.2.1) t.heap ∧ va_D E.2.1 (ss_ws E.2.2.1 E.2.2.2.1 E.2.2.2.2.1 σ ++ E.2.2.2.2.2.1)
def ss_MI (l : Launch) (y : MethodName) (ws : List Cond) (rm : Room) (E : ss_E) (av : List Value) (σ : ss_S) (wp : (Int32 → ss_S → Prop) → Prop) : Prop :=
  ∀ post : Int32 → ss_S → Prop, Met l y ws rm (ss_pre E av σ (wp post)) (va_Qi post (ss_B E) E.2.1) 0 0 E.2.1
def ss_ML (l : Launch) (y : MethodName) (ws : List Cond) (rm : Room) (E : ss_E) (av : List Value) (σ : ss_S) (wp : (Int64 → ss_S → Prop) → Prop) : Prop :=
  ∀ post : Int64 → ss_S → Prop, Met l y ws rm (ss_pre E av σ (wp post)) (va_Ql post (ss_B E) E.2.1) 0 0 E.2.1
def ss_MV (l : Launch) (y : MethodName) (ws : List Cond) (rm : Room) (E : ss_E) (av : List Value) (σ : ss_S) (wp : (ss_S → Prop) → Prop) : Prop :=
  ∀ post : ss_S → Prop, Met l y ws rm (ss_pre E av σ (wp post)) (va_Qv post (ss_B E) E.2.1) 0 0 E.2.1
theorem ss_blind (E : ss_E) (av : List Value) (σ : ss_S) (P : Prop) : FrameBlind (ss_pre E av σ P) := by
  intro a U g mk q
  obtain ⟨q0, ⟨q1, q2⟩, q3, q4, q5⟩ := q
  exact ⟨q0, ⟨q1, q2⟩, va_K.moved (u := U) (U := U.calling g mk a) (Vm.Alike.refl U.vm) q3, ss_NW.same (s := U) (U := U.calling g mk a) rfl q4, q5⟩
def ss_F (p : Program) (R : Room) (s : State) (m : MethodId) (args : Array Value) (meth : Method) (c : Code) (E : ss_E) (cc : ByteArray) (nL : Nat) (ws : List Cond) (own : String) (ret : Option FieldType) (rm : Room) : Prop :=
  (p.tables.exec = Jvm.exec ∧ c.code = cc ∧ c.maxLocals = nL ∧ s.vm.findClass own = some m.cls ∧ ∀ w ∈ ws, w.before args s = true) ∧ meth.sig.returnType = ret ∧ meth.locks = false ∧ (rm.frames ≤ R.frames ∧ rm.locals ≤ R.locals) ∧ va_K E.1 vwCl E.2.2.2.2.2.2 s ∧ ss_NW s
section
variable {p : Program} {l : Launch} {e : Env} {R : Room} {s : State} {m : MethodId} {args : Array Value} {below : List Frame} {meth : Method} {c : Code} {H : Heap} {locs : List Loc} {cells slots : Nat} {Q : State → Prop}
variable {cc : ByteArray} {pc nL : Nat} {ls : Array Slot} {rest : List Value} {E : ss_E} {σ : ss_S} {Ts : List Cond} {own : String} {ret : Option FieldType} {rm : Room}
theorem ss_iret {post : Int32 → ss_S → Prop} {v : Int32} (F : ss_F p R s m args meth c E cc nL Ts own (some .int) rm) (hC : ss_C E σ s H locs) (hp : post v σ) (hdg : decode cc pc = .ok (.ireturn, 1)) : W p l e R s m args below meth c H locs 0 0 (MQ below (va_Qi post (ss_B E) E.2.1) args s 0 0 E.2.1) (F0 m pc ls [.int v]) :=
  W.iret F.1.1 F.1.2.1 F.2.1 (fun t ht hW => ⟨⟨v, σ, rfl, hp, by rw [ht]; exact hC.1, hC.2.1⟩, hC.2.2.F ht⟩) hC.2.2.2.2 hdg F.2.2.1
theorem ss_zret {post : Int32 → ss_S → Prop} {v : Int32} (F : ss_F p R s m args meth c E cc nL Ts own (some .boolean) rm) (hC : ss_C E σ s H locs) (hn : narrow .boolean (.int v) = .int v) (hp : post v σ) (hdg : decode cc pc = .ok (.ireturn, 1)) : W p l e R s m args below meth c H locs 0 0 (MQ below (va_Qi post (ss_B E) E.2.1) args s 0 0 E.2.1) (F0 m pc ls [.int v]) :=
  W.zret F.1.1 F.1.2.1 F.2.1 hn (fun t ht hW => ⟨⟨v, σ, rfl, hp, by rw [ht]; exact hC.1, hC.2.1⟩, hC.2.2.F ht⟩) hC.2.2.2.2 hdg F.2.2.1
theorem ss_lret {post : Int64 → ss_S → Prop} {v : Int64} (F : ss_F p R s m args meth c E cc nL Ts own (some .long) rm) (hC : ss_C E σ s H locs) (hp : post v σ) (hdg : decode cc pc = .ok (.lreturn, 1)) : W p l e R s m args below meth c H locs 0 0 (MQ below (va_Ql post (ss_B E) E.2.1) args s 0 0 E.2.1) (F0 m pc ls [.long v]) :=
  W.lret F.1.1 F.1.2.1 F.2.1 (fun t ht hW => ⟨⟨v, σ, rfl, hp, by rw [ht]; exact hC.1, hC.2.1⟩, hC.2.2.F ht⟩) hC.2.2.2.2 hdg F.2.2.1
theorem ss_vret {post : ss_S → Prop} (F : ss_F p R s m args meth c E cc nL Ts own none rm) (hC : ss_C E σ s H locs) (hp : post σ) (hdg : decode cc pc = .ok (.return_, 1)) : W p l e R s m args below meth c H locs 0 0 (MQ below (va_Qv post (ss_B E) E.2.1) args s 0 0 E.2.1) (F0 m pc ls []) :=
  W.vret F.1.1 F.1.2.1 F.2.1 (fun t ht hW => ⟨⟨σ, rfl, hp, by rw [ht]; exact hC.1, hC.2.1⟩, hC.2.2.F ht⟩) hC.2.2.2.2 hdg F.2.2.1
theorem ss_get (F : ss_F p R s m args meth c E cc nL Ts own ret rm) (hC : ss_C E σ s H locs) (o : Nat) {C : String} {T : u_T} {N ci index : Nat} (hin : ∀ w ∈ u_ws C T N, w ∈ Ts) (ho : o < E.2.2.1) {fs : List Value} (he : E.2.2.2.2.1 o (σ o) = .inr (ci, fs)) (hc : vwCl[ci]? = some (C, T, N)) (k : Nat) (hk : k < N) (hlink : (Cond.fieldLink own index (T k).1 (T k).2.1 (T k).2.2.1).before args s = true) {v : Value} (hv : fs[k]? = some v) (hdg : decode cc pc = .ok (.getfield index, 3))
    (kk : W p l e R s m args below meth c H locs cells slots Q (F0 m (pc + 3) ls (v :: rest))) : W p l e R s m args below meth c H locs cells slots Q (F0 m pc ls (.ref (E.2.2.2.1 o) :: rest)) :=
  va_get (D := E.1) (cl := vwCl) (ws := ss_ws E.2.2.1 E.2.2.2.1 E.2.2.2.2.1 σ ++ E.2.2.2.2.2.1) (ci := ci) (fs := fs) (C := C) (T := T) (N := N) F.1.1 F.1.2.1 F.1.2.2.2.2 hin F.1.2.2.2.1 F.2.2.2.2.1 hC.1 o (by rw [ss_look ho, he]) hc k hk hlink (fun _ h => h) hv hdg kk
theorem ss_getN (F : ss_F p R s m args meth c E cc nL Ts own ret rm) (hC : ss_C E σ s H locs) (o : Nat) {C host : String} {T : u_T} {N ci index : Nat} (hin : ∀ w ∈ u_ws C T N, w ∈ Ts) (ho : o < E.2.2.1) {fs : List Value} (he : E.2.2.2.2.1 o (σ o) = .inr (ci, fs)) (hc : vwCl[ci]? = some (C, T, N)) (k : Nat) (hk : k < N) (hlink : Cond.fieldLinkNest own index (T k).1 (T k).2.1 (T k).2.2.1 host ∈ ss_nw) {v : Value} (hv : fs[k]? = some v) (hdg : decode cc pc = .ok (.getfield index, 3))
    (kk : W p l e R s m args below meth c H locs cells slots Q (F0 m (pc + 3) ls (v :: rest))) : W p l e R s m args below meth c H locs cells slots Q (F0 m pc ls (.ref (E.2.2.2.1 o) :: rest)) :=
  va_getN (D := E.1) (cl := vwCl) (ws := ss_ws E.2.2.1 E.2.2.2.1 E.2.2.2.2.1 σ ++ E.2.2.2.2.2.1) (ci := ci) (fs := fs) (C := C) (T := T) (N := N) F.1.1 F.1.2.1 F.1.2.2.2.2 hin F.1.2.2.2.1 F.2.2.2.2.1 hC.1 o (by rw [ss_look ho, he]) hc k hk (F.2.2.2.2.2.use hlink) (fun _ h => h) hv hdg kk
theorem ss_put (F : ss_F p R s m args meth c E cc nL Ts own ret rm) (hC : ss_C E σ s H locs) (o : Nat) {C : String} {T : u_T} {N ci index : Nat} (ty0 : Nat → FieldType) (hty : ∀ k, k < N → parseFieldDescriptor (T k).2.2.1 = some (ty0 k)) (hnm : ∀ a, a < N → ∀ b, b < N → a ≠ b → (T a).2.1 ≠ (T b).2.1) (hin : ∀ w ∈ u_ws C T N, w ∈ Ts) (ho : o < E.2.2.1) {fs : List Value} (he : E.2.2.2.2.1 o (σ o) = .inr (ci, fs)) (hc : vwCl[ci]? = some (C, T, N)) (k : Nat) (hk : k < N) (hlink : (Cond.fieldLink own index (T k).1 (T k).2.1 (T k).2.2.1).before args s = true) (hfin : (T k).2.2.2 = false) (hd : parseFieldDescriptor (T k).2.2.1 = some .int) (hl : k < fs.length) {x : Int32} (he2 : E.2.2.2.2.1 o (upd (σ o) k x) = .inr (ci, fs.set k (.int x))) (hdg : decode cc pc = .ok (.putfield index, 3))
    (kk : ∀ (H1 : Heap) (locs1 : List Loc), ss_C E (u2 σ o k x) s H1 locs1 → W p l e R s m args below meth c H1 locs1 cells slots Q (F0 m (pc + 3) ls rest)) : W p l e R s m args below meth c H locs cells slots Q (F0 m pc ls (.int x :: .ref (E.2.2.2.1 o) :: rest)) := by
  refine va_put (D := E.1) (cl := vwCl) (ws := ss_ws E.2.2.1 E.2.2.2.1 E.2.2.2.2.1 σ ++ E.2.2.2.2.2.1) (A := E.2.1) (ci := ci) (fs := fs) (C := C) (T := T) (N := N) (ty := .int) (v := .int x) F.1.1 F.1.2.1 F.1.2.2.2.2 hin ty0 hty hnm F.1.2.2.2.1 F.2.2.2.2.1 hC.1 hC.2.1 hC.2.2 o (by rw [ss_look ho, he]) hc k hk hlink (fun _ h => h) hfin hd rfl rfl hl hdg (fun H1 locs1 hP hD hS => kk H1 locs1 ?_)
  rw [← he2, ss_set ho] at hP hD
  exact ⟨hP, hD, hS⟩
theorem ss_putN (F : ss_F p R s m args meth c E cc nL Ts own ret rm) (hC : ss_C E σ s H locs) (o : Nat) {C host : String} {T : u_T} {N ci index : Nat} (ty0 : Nat → FieldType) (hty : ∀ k, k < N → parseFieldDescriptor (T k).2.2.1 = some (ty0 k)) (hnm : ∀ a, a < N → ∀ b, b < N → a ≠ b → (T a).2.1 ≠ (T b).2.1) (hin : ∀ w ∈ u_ws C T N, w ∈ Ts) (ho : o < E.2.2.1) {fs : List Value} (he : E.2.2.2.2.1 o (σ o) = .inr (ci, fs)) (hc : vwCl[ci]? = some (C, T, N)) (k : Nat) (hk : k < N) (hlink : Cond.fieldLinkNest own index (T k).1 (T k).2.1 (T k).2.2.1 host ∈ ss_nw) (hfin : (T k).2.2.2 = false) (hd : parseFieldDescriptor (T k).2.2.1 = some .int) (hl : k < fs.length) {x : Int32} (he2 : E.2.2.2.2.1 o (upd (σ o) k x) = .inr (ci, fs.set k (.int x))) (hdg : decode cc pc = .ok (.putfield index, 3))
    (kk : ∀ (H1 : Heap) (locs1 : List Loc), ss_C E (u2 σ o k x) s H1 locs1 → W p l e R s m args below meth c H1 locs1 cells slots Q (F0 m (pc + 3) ls rest)) : W p l e R s m args below meth c H locs cells slots Q (F0 m pc ls (.int x :: .ref (E.2.2.2.1 o) :: rest)) := by
  refine va_putN (D := E.1) (cl := vwCl) (ws := ss_ws E.2.2.1 E.2.2.2.1 E.2.2.2.2.1 σ ++ E.2.2.2.2.2.1) (A := E.2.1) (ci := ci) (fs := fs) (C := C) (T := T) (N := N) (ty := .int) (v := .int x) F.1.1 F.1.2.1 F.1.2.2.2.2 hin ty0 hty hnm F.1.2.2.2.1 F.2.2.2.2.1 hC.1 hC.2.1 hC.2.2 o (by rw [ss_look ho, he]) hc k hk (F.2.2.2.2.2.use hlink) (fun _ h => h) hfin hd rfl rfl hl hdg (fun H1 locs1 hP hD hS => kk H1 locs1 ?_)
  rw [← he2, ss_set ho] at hP hD
  exact ⟨hP, hD, hS⟩
theorem ss_iald (F : ss_F p R s m args meth c E cc nL Ts own ret rm) (hC : ss_C E σ s H locs) (o : Nat) (t0 : Nat) (ho : o < E.2.2.1) {cA : ClassId} {n : Nat} (he : ∀ f, E.2.2.2.2.1 o f = .inl (cA, n, .inl f)) (ht : E.2.2.2.2.2.2[t0]? = some (cA, .int)) {i : Int32} (hin : vp_in i n) (hdg : decode cc pc = .ok (.iaload, 1))
    (kk : W p l e R s m args below meth c H locs cells slots Q (F0 m (pc + 1) ls (.int (σ o i.toNatClampNeg) :: rest))) : W p l e R s m args below meth c H locs cells slots Q (F0 m pc ls (.int i :: .ref (E.2.2.2.1 o) :: rest)) :=
  va_iald (D := E.1) (cl := vwCl) (ws := ss_ws E.2.2.1 E.2.2.2.1 E.2.2.2.2.1 σ ++ E.2.2.2.2.2.1) (f := σ o) F.1.1 F.1.2.1 F.2.2.2.2.1 hC.1 o t0 (by rw [ss_look ho, he]) ht hin hdg kk
theorem ss_zald (F : ss_F p R s m args meth c E cc nL Ts own ret rm) (hC : ss_C E σ s H locs) (o : Nat) (t0 : Nat) (ho : o < E.2.2.1) {cA : ClassId} {n : Nat} (he : ∀ f, E.2.2.2.2.1 o f = .inl (cA, n, .inl f)) (ht : E.2.2.2.2.2.2[t0]? = some (cA, .boolean)) {i : Int32} (hin : vp_in i n) (hdg : decode cc pc = .ok (.baload, 1))
    (kk : W p l e R s m args below meth c H locs cells slots Q (F0 m (pc + 1) ls (.int (σ o i.toNatClampNeg) :: rest))) : W p l e R s m args below meth c H locs cells slots Q (F0 m pc ls (.int i :: .ref (E.2.2.2.1 o) :: rest)) :=
  va_zald (D := E.1) (cl := vwCl) (ws := ss_ws E.2.2.1 E.2.2.2.1 E.2.2.2.2.1 σ ++ E.2.2.2.2.2.1) (f := σ o) F.1.1 F.1.2.1 F.2.2.2.2.1 hC.1 o t0 (by rw [ss_look ho, he]) ht hin hdg kk
theorem ss_iast (F : ss_F p R s m args meth c E cc nL Ts own ret rm) (hC : ss_C E σ s H locs) (o : Nat) (t0 : Nat) (ho : o < E.2.2.1) {cA : ClassId} {n : Nat} (he : ∀ f, E.2.2.2.2.1 o f = .inl (cA, n, .inl f)) (ht : E.2.2.2.2.2.2[t0]? = some (cA, .int)) {i x : Int32} (hin : vp_in i n) (hdg : decode cc pc = .ok (.iastore, 1))
    (kk : ∀ (H1 : Heap) (locs1 : List Loc), ss_C E (u2 σ o i.toNatClampNeg x) s H1 locs1 → W p l e R s m args below meth c H1 locs1 cells slots Q (F0 m (pc + 1) ls rest)) : W p l e R s m args below meth c H locs cells slots Q (F0 m pc ls (.int x :: .int i :: .ref (E.2.2.2.1 o) :: rest)) := by
  refine va_iast (D := E.1) (cl := vwCl) (ws := ss_ws E.2.2.1 E.2.2.2.1 E.2.2.2.2.1 σ ++ E.2.2.2.2.2.1) (A := E.2.1) (f := σ o) F.1.1 F.1.2.1 F.2.2.2.2.1 hC.1 hC.2.1 hC.2.2 o t0 (by rw [ss_look ho, he]) ht hin hdg (fun H1 locs1 hP hD hS => kk H1 locs1 ?_)
  rw [← he, ss_set ho] at hP hD
  exact ⟨hP, hD, hS⟩
theorem ss_zast (F : ss_F p R s m args meth c E cc nL Ts own ret rm) (hC : ss_C E σ s H locs) (o : Nat) (t0 : Nat) (ho : o < E.2.2.1) {cA : ClassId} {n : Nat} (he : ∀ f, E.2.2.2.2.1 o f = .inl (cA, n, .inl f)) (ht : E.2.2.2.2.2.2[t0]? = some (cA, .boolean)) {i x : Int32} (hin : vp_in i n) (hdg : decode cc pc = .ok (.bastore, 1))
    (kk : ∀ (H1 : Heap) (locs1 : List Loc), ss_C E (u2 σ o i.toNatClampNeg (vp_nar .boolean x)) s H1 locs1 → W p l e R s m args below meth c H1 locs1 cells slots Q (F0 m (pc + 1) ls rest)) : W p l e R s m args below meth c H locs cells slots Q (F0 m pc ls (.int x :: .int i :: .ref (E.2.2.2.1 o) :: rest)) := by
  refine va_zast (D := E.1) (cl := vwCl) (ws := ss_ws E.2.2.1 E.2.2.2.1 E.2.2.2.2.1 σ ++ E.2.2.2.2.2.1) (A := E.2.1) (f := σ o) F.1.1 F.1.2.1 F.2.2.2.2.1 hC.1 hC.2.1 hC.2.2 o t0 (by rw [ss_look ho, he]) ht hin hdg (fun H1 locs1 hP hD hS => kk H1 locs1 ?_)
  rw [← he, ss_set ho] at hP hD
  exact ⟨hP, hD, hS⟩
theorem ss_alen (F : ss_F p R s m args meth c E cc nL Ts own ret rm) (hC : ss_C E σ s H locs) (o : Nat) (t0 : Nat) (ho : o < E.2.2.1) {cA : ClassId} {n : Nat} (he : ∀ f, E.2.2.2.2.1 o f = .inl (cA, n, .inl f)) (ht : E.2.2.2.2.2.2[t0]? = some (cA, .int)) (hdg : decode cc pc = .ok (.arraylength, 1))
    (kk : W p l e R s m args below meth c H locs cells slots Q (F0 m (pc + 1) ls (.int (Int32.ofNat n) :: rest))) : W p l e R s m args below meth c H locs cells slots Q (F0 m pc ls (.ref (E.2.2.2.1 o) :: rest)) :=
  va_alen (D := E.1) (cl := vwCl) (ws := ss_ws E.2.2.1 E.2.2.2.1 E.2.2.2.2.1 σ ++ E.2.2.2.2.2.1) (x := (n, .inl (σ o))) F.1.1 F.1.2.1 F.2.2.2.2.1 hC.1 o t0 (by rw [ss_look ho, he]) ht rfl hdg kk
theorem ss_aald (F : ss_F p R s m args meth c E cc nL Ts own ret rm) (hC : ss_C E σ s H locs) (o : Nat) (t0 : Nat) (ho : o < E.2.2.1) {cA : ClassId} {n : Nat} {C : String} {f : Nat → Option Nat} (he : E.2.2.2.2.1 o (σ o) = .inl (cA, n, .inr (.inr (.inr (.inr f))))) (ht : E.2.2.2.2.2.2[t0]? = some (cA, .object C)) {i : Int32} (hin : vp_in i n) {v : Nat} (hv : f i.toNatClampNeg = some v) (hdg : decode cc pc = .ok (.aaload, 1))
    (kk : W p l e R s m args below meth c H locs cells slots Q (F0 m (pc + 1) ls (.ref v :: rest))) : W p l e R s m args below meth c H locs cells slots Q (F0 m pc ls (.int i :: .ref (E.2.2.2.1 o) :: rest)) :=
  va_aldq (D := E.1) (cl := vwCl) (ws := ss_ws E.2.2.1 E.2.2.2.1 E.2.2.2.2.1 σ ++ E.2.2.2.2.2.1) (f := f) F.1.1 F.1.2.1 F.2.2.2.2.1 hC.1 o t0 (by rw [ss_look ho, he]) ht hin hdg (by rw [hv]; exact kk)
theorem ss_copy (F : ss_F p R s m args meth c E cc nL Ts own ret rm) (hC : ss_C E σ s H locs) (hsz : ls.size = nL) {index : Nat} (hlink : (Cond.methodLink own index arraycopyName).before args s = true) (hnat : (Cond.native arraycopyName).before args s = true) (hstat : (Cond.static arraycopyName).before args s = true) (hini : (Cond.initialized "java/lang/System").before args s = true) (o0 o1 t0 : Nat) (ho0 : o0 < E.2.2.1) (ho1 : o1 < E.2.2.1) {cA : ClassId} {n0 n1 : Nat} (he0 : ∀ f, E.2.2.2.2.1 o0 f = .inl (cA, n0, .inl f)) (he1 : ∀ f, E.2.2.2.2.1 o1 f = .inl (cA, n1, .inl f)) (ht : E.2.2.2.2.2.2[t0]? = some (cA, .int)) {sp dp n : Int32} (h1 : ¬ sp < 0) (h2 : ¬ dp < 0) (h3 : ¬ n < 0) (h4 : sp.toNatClampNeg + n.toNatClampNeg ≤ n0) (h5 : dp.toNatClampNeg + n.toNatClampNeg ≤ n1) (hframes : 1 ≤ rm.frames) (hlocals : (rest.map fun v => v.category).sum + (nativeFrameWords "java/lang/System" "arraycopy" 5 + 11) ≤ rm.locals) (hdg : decode cc pc = .ok (.invokestatic index, 3))
    (kk : ∀ (H1 : Heap) (locs1 : List Loc), ss_C E (sA σ o1 (va_cpy (σ o0) (σ o1) sp.toNatClampNeg dp.toNatClampNeg n.toNatClampNeg)) s H1 locs1 → W p l e R s m args below meth c H1 locs1 cells slots Q (F0 m (pc + 3) ls rest)) : W p l e R s m args below meth c H locs cells slots Q (F0 m pc ls (.int n :: .int dp :: .ref (E.2.2.2.1 o1) :: .int sp :: .ref (E.2.2.2.1 o0) :: rest)) := by
  refine va_copyi (D := E.1) (cl := vwCl) (ws := ss_ws E.2.2.1 E.2.2.2.1 E.2.2.2.2.1 σ ++ E.2.2.2.2.2.1) (A := E.2.1) (f := σ o0) (g := σ o1) (ty := .int) F.1.1 F.1.2.1 (by rw [hsz]; exact F.1.2.2.1) F.1.2.2.2.1 hlink hnat hstat hini F.2.2.2.2.1 hC.1 hC.2.1 hC.2.2 o0 o1 t0 t0 (by rw [ss_look ho0, he0]) (by rw [ss_look ho1, he1]) ht ht rfl h1 h2 h3 h4 h5 (fun _ _ => rfl) (Nat.le_trans hframes F.2.2.2.1.1) (Nat.le_trans hlocals F.2.2.2.1.2) hdg (fun H1 locs1 hP hD hS => kk H1 locs1 ?_)
  rw [← he1, ss_set ho1] at hP hD
  exact ⟨hP, hD, hS⟩
end
section
variable {p : Program} {l : Launch} {e : Env} {R : Room} {s : State} {m : MethodId} {args : Array Value} {below : List Frame} {meth : Method} {c : Code} {H : Heap} {locs : List Loc} {cells slots : Nat} {Q : State → Prop}
variable {cc : ByteArray} {pc nL : Nat} {ls : Array Slot} {rest : List Value} {E : ss_E} {σ : ss_S} {Ts : List Cond} {own : String} {ret : Option FieldType} {rm : Room}
variable {y : MethodName} {bytes : ByteArray} {maxL n index : Nat} {ret' : Option FieldType} {ws ws' : List Cond} {rm' : Room} {st As : List Value}
theorem ss_preV {C : String} {b : Nat} {P : Prop} (hK : va_K E.1 vwCl E.2.2.2.2.2.2 s) (hN : ss_NW s) (hC : ss_C E σ s H locs) (hrec : ∃ cellB : Cell, H[b]? = some cellB ∧ cellB.vm.isStatics = false ∧ s.vm.findClass C = some cellB.cls) (hp : P) : PreV s H C b (ss_pre E (.ref b :: As) σ P) As :=
  ⟨ss_blind E _ σ P, hrec, fun U hU hW => ⟨rfl, ⟨by rw [hU]; exact hC.1, hC.2.1⟩, va_K.moved hW.alike hK, ss_NW.warm hW hN, hp⟩⟩
theorem ss_preS {P : Prop} (hK : va_K E.1 vwCl E.2.2.2.2.2.2 s) (hN : ss_NW s) (hC : ss_C E σ s H locs) (hp : P) : PreS s H (ss_pre E As σ P) As :=
  ⟨ss_blind E _ σ P, fun U hU hW => ⟨rfl, ⟨by rw [hU]; exact hC.1, hC.2.1⟩, va_K.moved hW.alike hK, ss_NW.warm hW hN, hp⟩⟩
theorem ss_rec (hK : va_K E.1 vwCl E.2.2.2.2.2.2 s) (hC : ss_C E σ s H locs) (o : Nat) {C : String} {T : u_T} {N ci : Nat} (ho : o < E.2.2.1) {fs : List Value} (he : E.2.2.2.2.1 o (σ o) = .inr (ci, fs)) (hc : vwCl[ci]? = some (C, T, N)) : ∃ cellB : Cell, H[E.2.2.2.1 o]? = some cellB ∧ cellB.vm.isStatics = false ∧ s.vm.findClass C = some cellB.cls :=
  va_recv (q0 := o) (ci := ci) (fs := fs) hK hC.1 hc (by rw [ss_look ho, he])
theorem ss_kv {a : Array Value} {post : ss_S → Prop} {st0 : List Value} (hr : va_Run p l e R s m args below meth c H locs cells slots 0 0 (F0 m pc ls st0) rest (va_Qv post (ss_B E) E.2.1 a) E.2.1) (hC : ss_C E σ s H locs)
    (kk : ∀ (σ' : ss_S) (H1 : Heap) (locs1 : List Loc), ss_C E σ' s H1 locs1 → post σ' → W p l e R s m args below meth c H1 locs1 cells slots Q (F0 m (pc + 3) ls rest)) : W p l e R s m args below meth c H locs cells slots Q (F0 m pc ls st0) := by
  refine va_callv hr hC.2.2 (fun q _ h => h) (fun q h => h) (fun u t H1 locs1 ht hvm hw hB hz1 hk1 hS => ?_)
  exact kk u H1 locs1 ⟨by rw [← ht]; exact hB.1, hB.2, hS⟩ hw
theorem ss_ki {a : Array Value} {post : Int32 → ss_S → Prop} {st0 : List Value} (hr : va_Run p l e R s m args below meth c H locs cells slots 0 0 (F0 m pc ls st0) rest (va_Qi post (ss_B E) E.2.1 a) E.2.1) (hC : ss_C E σ s H locs)
    (kk : ∀ (r : Int32) (σ' : ss_S) (H1 : Heap) (locs1 : List Loc), ss_C E σ' s H1 locs1 → post r σ' → W p l e R s m args below meth c H1 locs1 cells slots Q (F0 m (pc + 3) ls (.int r :: rest))) : W p l e R s m args below meth c H locs cells slots Q (F0 m pc ls st0) := by
  refine va_calli hr hC.2.2 (fun q _ h => h) (fun q h => h) (fun r u t H1 locs1 ht hvm hw hB hz1 hk1 hS => ?_)
  exact kk r u H1 locs1 ⟨by rw [← ht]; exact hB.1, hB.2, hS⟩ hw
theorem ss_kl {a : Array Value} {post : Int64 → ss_S → Prop} {st0 : List Value} (hr : va_Run p l e R s m args below meth c H locs cells slots 0 0 (F0 m pc ls st0) rest (va_Ql post (ss_B E) E.2.1 a) E.2.1) (hC : ss_C E σ s H locs)
    (kk : ∀ (r : Int64) (σ' : ss_S) (H1 : Heap) (locs1 : List Loc), ss_C E σ' s H1 locs1 → post r σ' → W p l e R s m args below meth c H1 locs1 cells slots Q (F0 m (pc + 3) ls (.long r :: rest))) : W p l e R s m args below meth c H locs cells slots Q (F0 m pc ls st0) := by
  refine va_calll hr hC.2.2 (fun q _ h => h) (fun q h => h) (fun r u t H1 locs1 ht hvm hw hB hz1 hk1 hS => ?_)
  exact kk r u H1 locs1 ⟨by rw [← ht]; exact hB.1, hB.2, hS⟩ hw
abbrev ss_dV (y : MethodName) (n : Nat) : Prop := y.cls ≠ "java/lang/invoke/MethodHandle" ∧ y.cls ≠ "java/lang/invoke/VarHandle" ∧ (parseMethodDescriptor y.desc).map (fun d => d.parameters.length) = some n
theorem ss_rV {C : String} {b : Nat} {Pc : Array Value → State → Prop} {Qc : Array Value → State → Outcome → State → Prop} {free : Addr → Prop} (F : ss_F p R s m args meth c E cc nL Ts own ret rm) (hM : Met l y ws rm' Pc Qc 0 0 free) (hG : GoodIn Ts (wsV own index C y ws)) (hw : ws = Cond.code y bytes maxL ret' :: ws') (hrm : rm'.cells = 0 ∧ rm'.slots = 0) (hd : y.cls = C ∧ ss_dV y n) (hR : rm'.frames + 1 ≤ rm.frames ∧ 8 + (maxL + 11) + rm'.locals ≤ rm.locals) (hp : PreV s H C b Pc As) (hn : As.length = n) (hsz : ls.size = nL) (hst : st = As.reverse ++ .ref b :: rest) (hW : (rest.map fun v => v.category).sum ≤ 8) (hdg : decode cc pc = .ok (.invokevirtual index, 3)) (hf : cells ≤ R.cells ∧ slots ≤ R.slots) :
    va_Run p l e R s m args below meth c H locs cells slots 0 0 (F0 m pc ls st) rest (Qc (Value.ref b :: As).toArray) free :=
  va_runV F.1 hM (cwV n F.1.2.2.2.2 hG hw hrm.1 hrm.2 hd ⟨Nat.le_trans hR.1 F.2.2.2.1.1, Nat.le_trans hR.2 F.2.2.2.1.2⟩) hp rfl hn hsz hst (lv_room hW) hdg hf
theorem ss_rVN {C host : String} {b : Nat} {Pc : Array Value → State → Prop} {Qc : Array Value → State → Outcome → State → Prop} {free : Addr → Prop} (F : ss_F p R s m args meth c E cc nL Ts own ret rm) (hM : Met l y ws rm' Pc Qc 0 0 free) (hG : GoodIn Ts ws) (hw : ws = Cond.code y bytes maxL ret' :: ws') (hrm : rm'.cells = 0 ∧ rm'.slots = 0) (hd : ss_dV y n) (hl : Cond.methodLinkNest own index y host ∈ ss_nw) (hini : Cond.initialized y.cls ∈ Ts ∧ Cond.instanceMethod y ∈ Ts ∧ Cond.selects C y y ∈ Ts) (hR : rm'.frames + 1 ≤ rm.frames ∧ 8 + (maxL + 11) + rm'.locals ≤ rm.locals) (hp : PreV s H C b Pc As) (hn : As.length = n) (hsz : ls.size = nL) (hst : st = As.reverse ++ .ref b :: rest) (hW : (rest.map fun v => v.category).sum ≤ 8) (hdg : decode cc pc = .ok (.invokevirtual index, 3)) (hf : cells ≤ R.cells ∧ slots ≤ R.slots) :
    va_Run p l e R s m args below meth c H locs cells slots 0 0 (F0 m pc ls st) rest (Qc (Value.ref b :: As).toArray) free :=
  va_runVN F.1 hM ⟨va_cnB n F.1.2.2.2.2 hG hw hrm.1 hrm.2 (F.2.2.2.2.2 _ hl) (F.1.2.2.2.2 _ hini.1) hd ⟨Nat.le_trans hR.1 F.2.2.2.1.1, Nat.le_trans hR.2 F.2.2.2.1.2⟩, F.1.2.2.2.2 _ hini.2.1, F.1.2.2.2.2 _ hini.2.2⟩ hp rfl hn hsz hst (lv_room hW) hdg hf
theorem ss_rS {Pc : Array Value → State → Prop} {Qc : Array Value → State → Outcome → State → Prop} {free : Addr → Prop} (F : ss_F p R s m args meth c E cc nL Ts own ret rm) (hM : Met l y ws rm' Pc Qc 0 0 free) (hG : GoodIn Ts (va_wsS own index y ws)) (hw : ws = Cond.code y bytes maxL ret' :: ws') (hrm : rm'.cells = 0 ∧ rm'.slots = 0) (hd : ss_dV y n) (hR : rm'.frames + 1 ≤ rm.frames ∧ 8 + (maxL + 11) + rm'.locals ≤ rm.locals) (hp : PreS s H Pc As) (hn : As.length = n) (hsz : ls.size = nL) (hst : st = As.reverse ++ rest) (hW : (rest.map fun v => v.category).sum ≤ 8) (hdg : decode cc pc = .ok (.invokestatic index, 3)) (hf : cells ≤ R.cells ∧ slots ≤ R.slots) :
    va_Run p l e R s m args below meth c H locs cells slots 0 0 (F0 m pc ls st) rest (Qc As.toArray) free :=
  va_runS F.1 hM (va_cwS n F.1.2.2.2.2 hG hw hrm.1 hrm.2 hd ⟨Nat.le_trans hR.1 F.2.2.2.1.1, Nat.le_trans hR.2 F.2.2.2.1.2⟩) hp rfl hn hsz hst (lv_room hW) hdg hf
end
section
variable {p : Program} {l : Launch} {e : Env} {R : Room} {s : State} {m : MethodId} {args : Array Value} {below : List Frame} {meth : Method} {c : Code} {H : Heap} {locs : List Loc} {cells slots : Nat} {Q : State → Prop}
variable {cc : ByteArray} {pc nL : Nat} {ls : Array Slot} {rest : List Value} {E : ss_E} {Ts : List Cond} {own : String} {ret : Option FieldType} {rm : Room}
theorem ss_min (F : ss_F p R s m args meth c E cc nL Ts own ret rm) (hsz : ls.size = nL) {index : Nat} (hlink : (Cond.methodLink own index Lib.Math.min.name).before args s = true) (hstat : (Cond.static Lib.Math.min.name).before args s = true) (hini : (Cond.initialized "java/lang/Math").before args s = true) (hcode : (Cond.code Lib.Math.min.name Lib.Math.min.code 2 (some .int)).before args s = true) (hframes : 1 ≤ rm.frames) (hlocals : (rest.map fun v => v.category).sum + 13 ≤ rm.locals) {x y : Int32} (hdg : decode cc pc = .ok (.invokestatic index, 3))
    (kk : W p l e R s m args below meth c H locs 0 0 Q (F0 m (pc + 3) ls (.int (if y < x then y else x) :: rest))) : W p l e R s m args below meth c H locs 0 0 Q (F0 m pc ls (.int y :: .int x :: rest)) :=
  va_mmin F.1.1 F.1.2.1 (by rw [hsz]; exact F.1.2.2.1) F.1.2.2.2.1 hlink hstat hini hcode (Nat.le_trans hframes F.2.2.2.1.1) (Nat.le_trans hlocals F.2.2.2.1.2) (Nat.zero_le _) (Nat.zero_le _) hdg kk
end
theorem ss_swOut {x : Int32} (lo hi : Int) (hlo : -2147483648 ≤ lo) (hhi : hi < 2147483648) (h : ∀ k : Int, lo ≤ k → k ≤ hi → ¬ x = Int32.ofInt k) : x.toInt < lo ∨ hi < x.toInt := by
  rcases Int.lt_or_le x.toInt lo with q | q
  · exact Or.inl q
  · rcases Int.lt_or_le hi x.toInt with r | r
    · exact Or.inr r
    · exact absurd (Int32.ofInt_toInt x).symm (h x.toInt q r)
def ss_I0 : Room := { frames := 0, cells := 0, slots := 0, locals := 0 }
theorem ss_lvE (vs : List Value) {n : Nat} (h : (lg_sl vs).length ≤ n) {m : MethodId} {P : JFrame → Prop} (k : ∀ ls : Array Slot, lv_has ls n (lv_args 0 vs) → P (F0 m 0 ls [])) : P (entryFrame m vs.toArray n) := by
  rw [lg_entry_eq]
  exact k _ (lv_entry vs h)
theorem ss_MI.of {l : Launch} {y : MethodName} {rm : Room} {E : ss_E} {av : List Value} {σ : ss_S} {wp : (Int32 → ss_S → Prop) → Prop} {cc : ByteArray} {nL : Nat} {ret : Option FieldType} {ws ws' : List Cond} {own : String} (hy : plainName y.cls = true) (ho : own = y.cls) (hws : ws = Cond.code y cc nL ret :: ws') (hl : (lg_sl av).length ≤ nL)
    (body : ∀ (post : Int32 → ss_S → Prop) (p : Program) (e : Env) (R : Room) (s : State) (m : MethodId) (below : List Frame) (meth : Method) (c : Code) (H : Heap) (locs : List Loc) (ls : Array Slot), ss_F p R s m av.toArray meth c E cc nL ws own ret rm → ss_C E σ s H locs → lv_has ls nL (lv_args 0 av) → wp post → W p l e R s m av.toArray below meth c H locs 0 0 (MQ below (va_Qi post (ss_B E) E.2.1) av.toArray s 0 0 E.2.1) (F0 m 0 ls [])) :
    ss_MI l y ws rm E av σ wp := by
  intro post
  refine Met.ofW (cc := cc) (maxL := nL) (ret := ret) hy hws ?_
  intro p e s m args below meth c s₁ B hml hv
  obtain ⟨rfl, ⟨hP, hD⟩, hK, hN, hw⟩ := hv
  refine ss_lvE av hl (fun ls hls => body post p e _ s m below meth c s.heap [] ls ?_ ⟨hP, hD, va_S.rf⟩ hls hw)
  exact ⟨⟨B.exec, B.bytes, hml, by rw [ho]; exact findClass_of_methodNamed B.named, atoms_spec (ws := ws) B.pre⟩, B.returns, B.notSynchronized, ⟨Nat.le_refl _, Nat.le_refl _⟩, hK, hN⟩
theorem ss_ML.of {l : Launch} {y : MethodName} {rm : Room} {E : ss_E} {av : List Value} {σ : ss_S} {wp : (Int64 → ss_S → Prop) → Prop} {cc : ByteArray} {nL : Nat} {ret : Option FieldType} {ws ws' : List Cond} {own : String} (hy : plainName y.cls = true) (ho : own = y.cls) (hws : ws = Cond.code y cc nL ret :: ws') (hl : (lg_sl av).length ≤ nL)
    (body : ∀ (post : Int64 → ss_S → Prop) (p : Program) (e : Env) (R : Room) (s : State) (m : MethodId) (below : List Frame) (meth : Method) (c : Code) (H : Heap) (locs : List Loc) (ls : Array Slot), ss_F p R s m av.toArray meth c E cc nL ws own ret rm → ss_C E σ s H locs → lv_has ls nL (lv_args 0 av) → wp post → W p l e R s m av.toArray below meth c H locs 0 0 (MQ below (va_Ql post (ss_B E) E.2.1) av.toArray s 0 0 E.2.1) (F0 m 0 ls [])) :
    ss_ML l y ws rm E av σ wp := by
  intro post
  refine Met.ofW (cc := cc) (maxL := nL) (ret := ret) hy hws ?_
  intro p e s m args below meth c s₁ B hml hv
  obtain ⟨rfl, ⟨hP, hD⟩, hK, hN, hw⟩ := hv
  refine ss_lvE av hl (fun ls hls => body post p e _ s m below meth c s.heap [] ls ?_ ⟨hP, hD, va_S.rf⟩ hls hw)
  exact ⟨⟨B.exec, B.bytes, hml, by rw [ho]; exact findClass_of_methodNamed B.named, atoms_spec (ws := ws) B.pre⟩, B.returns, B.notSynchronized, ⟨Nat.le_refl _, Nat.le_refl _⟩, hK, hN⟩
theorem ss_MV.of {l : Launch} {y : MethodName} {rm : Room} {E : ss_E} {av : List Value} {σ : ss_S} {wp : (ss_S → Prop) → Prop} {cc : ByteArray} {nL : Nat} {ret : Option FieldType} {ws ws' : List Cond} {own : String} (hy : plainName y.cls = true) (ho : own = y.cls) (hws : ws = Cond.code y cc nL ret :: ws') (hl : (lg_sl av).length ≤ nL)
    (body : ∀ (post : ss_S → Prop) (p : Program) (e : Env) (R : Room) (s : State) (m : MethodId) (below : List Frame) (meth : Method) (c : Code) (H : Heap) (locs : List Loc) (ls : Array Slot), ss_F p R s m av.toArray meth c E cc nL ws own ret rm → ss_C E σ s H locs → lv_has ls nL (lv_args 0 av) → wp post → W p l e R s m av.toArray below meth c H locs 0 0 (MQ below (va_Qv post (ss_B E) E.2.1) av.toArray s 0 0 E.2.1) (F0 m 0 ls [])) :
    ss_MV l y ws rm E av σ wp := by
  intro post
  refine Met.ofW (cc := cc) (maxL := nL) (ret := ret) hy hws ?_
  intro p e s m args below meth c s₁ B hml hv
  obtain ⟨rfl, ⟨hP, hD⟩, hK, hN, hw⟩ := hv
  refine ss_lvE av hl (fun ls hls => body post p e _ s m below meth c s.heap [] ls ?_ ⟨hP, hD, va_S.rf⟩ hls hw)
  exact ⟨⟨B.exec, B.bytes, hml, by rw [ho]; exact findClass_of_methodNamed B.named, atoms_spec (ws := ws) B.pre⟩, B.returns, B.notSynchronized, ⟨Nat.le_refl _, Nat.le_refl _⟩, hK, hN⟩
def ss_ceC (L : Nat → Nat) (cI cS : ClassId) : ss_CE := fun i f => match i with
  | 0 => .inr (4, [.ref (L 1), .ref (L 2), .ref (L 3), .ref (L 5), .ref (L 168), .ref (L 171), .ref (L 6), .int (f 7), .int (f 8)])
  | 1 => .inr (0, [.int (f 0), .int (f 1), .int (f 2)])
  | 2 => .inl (cS, 12, .inr (.inr (.inr (.inr (fun k => some (L (9 + 3 * k)))))))
  | 3 => .inr (1, [.ref (L 4), .ref (L 165), .int (f 2)])
  | 4 => .inl (cS, 40, .inr (.inr (.inr (.inr (fun k => some (L (45 + 3 * k)))))))
  | 5 => .inr (2, [.ref (L 1), .ref (L 7), .ref (L 8)])
  | 6 => .inl (cI, 6, .inl f)
  | 7 => .inl (cI, 36, .inl f)
  | 8 => .inl (cI, 6, .inl f)
  | j + 9 => if j % 3 = 0 then .inr (3, [.ref (L 1), .ref (L (j + 10)), .ref (L (j + 11)), .int (f 3)]) else if j % 3 = 1 then .inl (cI, 36, .inl f) else .inl (cI, 6, .inl f)
def ss_ceM (L : Nat → Nat) (cI cZ : ClassId) : ss_CE := fun i f => match i with
  | 0 => .inr (5, [.int (f 0), .int (f 1), .int (f 2), .ref (L 1), .int (f 4), .int (f 5), .ref (L 2), .int (f 7), .ref (L 3), .ref (L 4), .ref (L 5), .ref (L 6), .ref (L 7), .int (f 13), .ref (L 8), .ref (L 9)])
  | 1 => .inl (cI, 6, .inl f)
  | 2 => .inl (cI, 24, .inl f)
  | 3 => .inl (cZ, 6, .inl f)
  | 4 => .inl (cI, 12, .inl f)
  | 5 => .inl (cI, 72, .inl f)
  | 6 => .inl (cI, 6, .inl f)
  | 7 => .inl (cI, 6, .inl f)
  | 8 => .inl (cI, 40, .inl f)
  | _ => .inl (cI, 240, .inl f)
abbrev ss_tys (cI cZ cS : ClassId) : List (ClassId × FieldType) := [(cI, .int), (cZ, .boolean), (cS, .object "SmallSpaces$Space")]
abbrev ss_EC (D : va_G) (A : Nat → Prop) (L : Nat → Nat) (wr : va_W) (cI cZ cS : ClassId) : ss_E := (D, A, 174, L, ss_ceC L cI cS, wr, ss_tys cI cZ cS)
abbrev ss_EM (D : va_G) (A : Nat → Prop) (L : Nat → Nat) (wr : va_W) (cI cZ cS : ClassId) : ss_E := (D, A, 10, L, ss_ceM L cI cZ, wr, ss_tys cI cZ cS)
def isSp (s : Nat) : Prop := 9 ≤ s ∧ s < 174 ∧ s % 3 = 0
def isAr (a : Nat) : Prop := a = 6 ∨ (7 ≤ a ∧ a < 174 ∧ a % 3 ≠ 0)
def lenC (a : Nat) : Nat := if a % 3 = 1 then 36 else 6
theorem isSp.lt {s : Nat} (h : isSp s) : s < 174 := h.2.1
theorem isAr.lt {s : Nat} (h : isAr s) : s < 174 := by rcases h with h | h <;> omega
theorem isSp.cells {s : Nat} (h : isSp s) : isAr (s + 1) := by obtain ⟨h1, h2, h3⟩ := h; right; omega
theorem isSp.fresh {s : Nat} (h : isSp s) : isAr (s + 2) := by obtain ⟨h1, h2, h3⟩ := h; right; omega
theorem isSp.lenCells {s : Nat} (h : isSp s) : lenC (s + 1) = 36 := by obtain ⟨h1, h2, h3⟩ := h; unfold lenC; rw [if_pos (by omega)]
theorem isSp.lenFresh {s : Nat} (h : isSp s) : lenC (s + 2) = 6 := by obtain ⟨h1, h2, h3⟩ := h; unfold lenC; rw [if_neg (by omega)]
theorem ceC_sp {L : Nat → Nat} {cI cS : ClassId} {s : Nat} (h : isSp s) (f : Nat → Int32) : ss_ceC L cI cS s f = .inr (3, [.ref (L 1), .ref (L (s + 1)), .ref (L (s + 2)), .int (f 3)]) := by
  obtain ⟨h1, h2, h3⟩ := h
  obtain ⟨j, rfl⟩ : ∃ j, s = j + 9 := ⟨s - 9, by omega⟩
  show (if j % 3 = 0 then _ else _) = _
  rw [if_pos (by omega)]
theorem ceC_ar {L : Nat → Nat} {cI cS : ClassId} {a : Nat} (h : isAr a) (f : Nat → Int32) : ss_ceC L cI cS a f = .inl (cI, lenC a, .inl f) := by
  rcases h with rfl | ⟨h1, h2, h3⟩
  · rfl
  · by_cases h7 : a = 7
    · subst h7; rfl
    · by_cases h8 : a = 8
      · subst h8; rfl
      · obtain ⟨j, rfl⟩ : ∃ j, a = j + 9 := ⟨a - 9, by omega⟩
        show (if j % 3 = 0 then _ else _) = _
        rw [if_neg (by omega)]
        by_cases h : j % 3 = 1
        · rw [if_pos h, lenC, if_pos (by omega)]
        · rw [if_neg h, lenC, if_neg (by omega)]
theorem isSp_slot {t : Int32} (h : vp_in t 12) : isSp (9 + 3 * t.toNatClampNeg) := by
  have : t.toNatClampNeg < 12 := by unfold vp_in at h; omega
  exact ⟨by omega, by omega, by omega⟩
theorem isSp_heap {t : Int32} (h : vp_in t 40) : isSp (45 + 3 * t.toNatClampNeg) := by
  have : t.toNatClampNeg < 40 := by unfold vp_in at h; omega
  exact ⟨by omega, by omega, by omega⟩
theorem isSp_165 : isSp 165 := by unfold isSp; omega
theorem isSp_168 : isSp 168 := by unfold isSp; omega
theorem isSp_171 : isSp 171 := by unfold isSp; omega
theorem isAr_6 : isAr 6 := by unfold isAr; omega
theorem isAr_7 : isAr 7 := by unfold isAr; omega
theorem isAr_8 : isAr 8 := by unfold isAr; omega
end
