set_option maxRecDepth 20000 in
theorem inwsL_law_r1 : GoodIn lw_tbl wsL_law_r1 := goodIn_p _ [82, 85] (by decide +kernel) (by decide +kernel)
set_option maxRecDepth 20000 in
theorem inwsL_law_r2 : GoodIn lw_tbl wsL_law_r2 := goodIn_p _ [90, 95, 99, 121] (by decide +kernel) (by decide +kernel)
set_option maxRecDepth 20000 in
theorem inwsL_law_r3 : GoodIn lw_tbl wsL_law_r3 := goodIn_p _ [142, 162, 167, 170] (by decide +kernel) (by decide +kernel)
set_option maxRecDepth 20000 in
theorem inwsL_law_r4 : GoodIn lw_tbl wsL_law_r4 := goodIn_p _ [551, 556] (by decide +kernel) (by decide +kernel)
set_option maxRecDepth 20000 in
theorem inwsL_law_r5 : GoodIn lw_tbl wsL_law_r5 := goodIn_p _ [559, 212, 215, 220, 613, 616, 225] (by decide +kernel) (by decide +kernel)
set_option maxRecDepth 20000 in
theorem inwsL_law_r6 : GoodIn lw_tbl wsL_law_r6 := goodIn_p _ [229, 233, 620, 624, 628, 632] (by decide +kernel) (by decide +kernel)
set_option maxRecDepth 20000 in
theorem inwsL_law_r7 : GoodIn lw_tbl wsL_law_r7 := goodIn_p _ [237, 241, 636, 640, 245, 248, 252] (by decide +kernel) (by decide +kernel)
set_option maxRecDepth 20000 in
theorem inwsL_law_r8 : GoodIn lw_tbl wsL_law_r8 := goodIn_p _ [256, 263, 267, 271, 275, 279] (by decide +kernel) (by decide +kernel)
set_option maxRecDepth 20000 in
theorem inwsL_law_r9 : GoodIn lw_tbl wsL_law_r9 := goodIn_p _ [283, 287, 290, 644, 647] (by decide +kernel) (by decide +kernel)
set_option maxRecDepth 20000 in
theorem inwsL_law_r10 : GoodIn lw_tbl wsL_law_r10 := goodIn_p _ [652, 656, 660, 297, 664, 301] (by decide +kernel) (by decide +kernel)
set_option maxRecDepth 20000 in
theorem inwsL_law_r11 : GoodIn lw_tbl wsL_law_r11 := goodIn_p _ [668, 305, 309, 313, 672, 317, 321] (by decide +kernel) (by decide +kernel)
set_option maxRecDepth 20000 in
theorem inwsL_law_r12 : GoodIn lw_tbl wsL_law_r12 := goodIn_p _ [325, 329, 676, 679, 683, 333, 337] (by decide +kernel) (by decide +kernel)
set_option maxRecDepth 20000 in
theorem inwsL_law_r13 : GoodIn lw_tbl wsL_law_r13 := goodIn_p _ [687, 691, 695, 343, 699] (by decide +kernel) (by decide +kernel)
set_option maxRecDepth 20000 in
theorem inwsL_law_r14 : GoodIn lw_tbl wsL_law_r14 := goodIn_p _ [347, 351, 355, 703, 707, 359, 363] (by decide +kernel) (by decide +kernel)
set_option maxRecDepth 20000 in
theorem inwsL_law_r15 : GoodIn lw_tbl wsL_law_r15 := goodIn_p _ [711, 368, 372, 715, 379] (by decide +kernel) (by decide +kernel)
set_option maxRecDepth 20000 in
theorem inwsL_law_r16 : GoodIn lw_tbl wsL_law_r16 := goodIn_p _ [383, 387, 392, 727, 731, 735] (by decide +kernel) (by decide +kernel)
set_option maxRecDepth 20000 in
theorem inwsL_law_r17 : GoodIn lw_tbl wsL_law_r17 := goodIn_p _ [739, 743, 396, 400, 404, 408, 412] (by decide +kernel) (by decide +kernel)
set_option maxRecDepth 20000 in
theorem inwsL_law_r18 : GoodIn lw_tbl wsL_law_r18 := goodIn_p _ [747, 723, 751, 416, 719, 420] (by decide +kernel) (by decide +kernel)
set_option maxRecDepth 20000 in
theorem inwsL_law_r19 : GoodIn lw_tbl wsL_law_r19 := goodIn_p _ [755, 424, 759, 429, 433, 763] (by decide +kernel) (by decide +kernel)
set_option maxRecDepth 20000 in
theorem inwsL_law_r20 : GoodIn lw_tbl wsL_law_r20 := goodIn_p _ [767, 438, 771, 442, 775, 779] (by decide +kernel) (by decide +kernel)
set_option maxRecDepth 20000 in
theorem inwsL_law_r21 : GoodIn lw_tbl wsL_law_r21 := goodIn_p _ [446, 450, 783, 455, 459, 787] (by decide +kernel) (by decide +kernel)
set_option maxRecDepth 20000 in
theorem inwsL_law_r22 : GoodIn lw_tbl wsL_law_r22 := goodIn_p _ [464, 468, 791, 472, 476, 481] (by decide +kernel) (by decide +kernel)
set_option maxRecDepth 20000 in
theorem inwsL_law_r23 : GoodIn lw_tbl wsL_law_r23 := goodIn_p _ [796, 486, 490, 494, 800, 804] (by decide +kernel) (by decide +kernel)
set_option maxRecDepth 20000 in
theorem inwsL_law_r24 : GoodIn lw_tbl wsL_law_r24 := goodIn_p _ [499, 503, 808, 812, 510, 514, 816] (by decide +kernel) (by decide +kernel)
set_option maxRecDepth 20000 in
theorem inwsL_law_r25 : GoodIn lw_tbl wsL_law_r25 := goodIn_p _ [518, 522, 525, 529, 820] (by decide +kernel) (by decide +kernel)
set_option maxRecDepth 20000 in
theorem inwsL_law_r26 : GoodIn lw_tbl wsL_law_r26 := goodIn_p _ [534, 824, 538, 542, 546, 828] (by decide +kernel) (by decide +kernel)
theorem inwsX00 : ∀ w ∈ wsX00, w ∈ lw_tbl := by decide +kernel
theorem inwsX10 : ∀ w ∈ wsX10, w ∈ lw_tbl := by decide +kernel
theorem inwsX20 : ∀ w ∈ wsX20, w ∈ lw_tbl := by decide +kernel
theorem inwsX30 : ∀ w ∈ wsX30, w ∈ lw_tbl := by decide +kernel
theorem inwsX40 : ∀ w ∈ wsX40, w ∈ lw_tbl := by decide +kernel
theorem inwsX50 : ∀ w ∈ wsX50, w ∈ lw_tbl := by decide +kernel
theorem ss_nw_in : ∀ w ∈ ss_nw, w ∈ lw_tbl := by decide +kernel
