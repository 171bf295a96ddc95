theorem dX3_fillCells_24 : decode cX3_fillCells 24 = .ok (.aload_n 0, 1) := by decide +kernel
theorem dX3_fillCells_25 : decode cX3_fillCells 25 = .ok (.iload_n 3, 1) := by decide +kernel
theorem dX3_fillCells_26 : decode cX3_fillCells 26 = .ok (.invokevirtual 43, 3) := by decide +kernel
theorem dX3_fillCells_29 : decode cX3_fillCells 29 = .ok (.ifCond .eq 78, 3) := by decide +kernel
theorem dX3_fillCells_32 : decode cX3_fillCells 32 = .ok (.aload_n 0, 1) := by decide +kernel
theorem dX3_fillCells_33 : decode cX3_fillCells 33 = .ok (.getfield 9, 3) := by decide +kernel
theorem dX3_fillCells_36 : decode cX3_fillCells 36 = .ok (.iload_n 3, 1) := by decide +kernel
theorem dX3_fillCells_37 : decode cX3_fillCells 37 = .ok (.bipush 6, 2) := by decide +kernel
theorem dX3_fillCells_39 : decode cX3_fillCells 39 = .ok (.imul, 1) := by decide +kernel
theorem dX3_fillCells_40 : decode cX3_fillCells 40 = .ok (.iload_n 3, 1) := by decide +kernel
theorem dX3_fillCells_41 : decode cX3_fillCells 41 = .ok (.iadd, 1) := by decide +kernel
theorem dX3_fillCells_42 : decode cX3_fillCells 42 = .ok (.iconst 1, 1) := by decide +kernel
theorem dX3_fillCells_43 : decode cX3_fillCells 43 = .ok (.iastore, 1) := by decide +kernel
theorem dX3_fillCells_44 : decode cX3_fillCells 44 = .ok (.aload_n 0, 1) := by decide +kernel
theorem dX3_fillCells_45 : decode cX3_fillCells 45 = .ok (.getfield 18, 3) := by decide +kernel
theorem dX3_fillCells_48 : decode cX3_fillCells 48 = .ok (.getfield 38, 3) := by decide +kernel
theorem dX3_fillCells_51 : decode cX3_fillCells 51 = .ok (.iconst 1, 1) := by decide +kernel
theorem dX3_fillCells_52 : decode cX3_fillCells 52 = .ok (.isub, 1) := by decide +kernel
theorem dX3_fillCells_53 : decode cX3_fillCells 53 = .ok (.istore 4, 2) := by decide +kernel
theorem dX3_fillCells_55 : decode cX3_fillCells 55 = .ok (.iload 4, 2) := by decide +kernel
theorem dX3_fillCells_57 : decode cX3_fillCells 57 = .ok (.iload_n 3, 1) := by decide +kernel
theorem dX3_fillCells_58 : decode cX3_fillCells 58 = .ok (.if_icmp .le 49, 3) := by decide +kernel
theorem dX3_fillCells_61 : decode cX3_fillCells 61 = .ok (.aload_n 0, 1) := by decide +kernel
theorem dX3_fillCells_62 : decode cX3_fillCells 62 = .ok (.iload 4, 2) := by decide +kernel
theorem dX3_fillCells_64 : decode cX3_fillCells 64 = .ok (.invokevirtual 43, 3) := by decide +kernel
theorem dX3_fillCells_67 : decode cX3_fillCells 67 = .ok (.ifCond .ne 34, 3) := by decide +kernel
theorem dX3_fillCells_70 : decode cX3_fillCells 70 = .ok (.aload_n 0, 1) := by decide +kernel
theorem dX3_fillCells_71 : decode cX3_fillCells 71 = .ok (.getfield 9, 3) := by decide +kernel
theorem dX3_fillCells_74 : decode cX3_fillCells 74 = .ok (.iload_n 3, 1) := by decide +kernel
theorem dX3_fillCells_75 : decode cX3_fillCells 75 = .ok (.bipush 6, 2) := by decide +kernel
theorem dX3_fillCells_77 : decode cX3_fillCells 77 = .ok (.imul, 1) := by decide +kernel
theorem dX3_fillCells_78 : decode cX3_fillCells 78 = .ok (.iload 4, 2) := by decide +kernel
theorem dX3_fillCells_80 : decode cX3_fillCells 80 = .ok (.iadd, 1) := by decide +kernel
theorem dX3_fillCells_81 : decode cX3_fillCells 81 = .ok (.iload_n 2, 1) := by decide +kernel
theorem dX3_fillCells_82 : decode cX3_fillCells 82 = .ok (.aload_n 0, 1) := by decide +kernel
theorem dX3_fillCells_83 : decode cX3_fillCells 83 = .ok (.getfield 18, 3) := by decide +kernel
theorem dX3_fillCells_86 : decode cX3_fillCells 86 = .ok (.getfield 55, 3) := by decide +kernel
theorem dX3_fillCells_89 : decode cX3_fillCells 89 = .ok (.irem, 1) := by decide +kernel
theorem dX3_fillCells_90 : decode cX3_fillCells 90 = .ok (.iastore, 1) := by decide +kernel
theorem dX3_fillCells_91 : decode cX3_fillCells 91 = .ok (.iload_n 2, 1) := by decide +kernel
theorem dX3_fillCells_92 : decode cX3_fillCells 92 = .ok (.aload_n 0, 1) := by decide +kernel
theorem dX3_fillCells_93 : decode cX3_fillCells 93 = .ok (.getfield 18, 3) := by decide +kernel
theorem dX3_fillCells_96 : decode cX3_fillCells 96 = .ok (.getfield 55, 3) := by decide +kernel
theorem dX3_fillCells_99 : decode cX3_fillCells 99 = .ok (.idiv, 1) := by decide +kernel
theorem dX3_fillCells_100 : decode cX3_fillCells 100 = .ok (.istore_n 2, 1) := by decide +kernel
theorem dX3_fillCells_101 : decode cX3_fillCells 101 = .ok (.iinc 4 (-1), 3) := by decide +kernel
theorem dX3_fillCells_104 : decode cX3_fillCells 104 = .ok (.goto (-49), 3) := by decide +kernel
theorem dX3_fillCells_107 : decode cX3_fillCells 107 = .ok (.iinc 3 (-1), 3) := by decide +kernel
theorem dX3_fillCells_110 : decode cX3_fillCells 110 = .ok (.goto (-90), 3) := by decide +kernel
theorem dX3_fillCells_113 : decode cX3_fillCells 113 = .ok (.return_, 1) := by decide +kernel
set_option maxRecDepth 20000 in
theorem ggX4_init_X0_init : GoodIn wsX4_init wsX0_init := goodIn_r _ [25, 26, 2, 3, 27, 28, 29, 6, 30, 31, 32, 33, 34, 35, 36, 37, 64, 65, 66] (by decide +kernel) (by decide +kernel)
set_option maxRecDepth 20000 in
theorem gX4_init_X0_init_n9 : GoodIn wsX4_init (wsX0_init) := ggX4_init_X0_init
set_option maxRecDepth 20000 in
theorem ggX4_init_X3_init : GoodIn wsX4_init wsX3_init := goodIn_r _ [39, 40, 2, 3, 22, 41, 42, 43, 76, 77, 78, 79] (by decide +kernel) (by decide +kernel)
set_option maxRecDepth 20000 in
theorem gX4_init_X3_init_n22 : GoodIn wsX4_init (wsX3_init) := ggX4_init_X3_init
set_option maxRecDepth 20000 in
theorem ggX4_init_X1_init : GoodIn wsX4_init wsX1_init := goodIn_r _ [45, 46, 2, 3, 47, 48, 10, 11, 49, 38, 39, 40, 22, 41, 42, 43, 80, 81, 82, 76, 77, 78, 79] (by decide +kernel) (by decide +kernel)
set_option maxRecDepth 20000 in
theorem gX4_init_X1_init_n27 : GoodIn wsX4_init (wsX1_init) := ggX4_init_X1_init
set_option maxRecDepth 20000 in
theorem ggX4_init_X2_init : GoodIn wsX4_init wsX2_init := goodIn_r _ [51, 52, 2, 3, 22, 53, 54, 55, 56, 57, 58, 18, 59, 60, 61, 62, 63, 83, 84, 85, 64, 65, 66] (by decide +kernel) (by decide +kernel)
set_option maxRecDepth 20000 in
theorem gX4_init_X2_init_n34 : GoodIn wsX4_init (wsX2_init) := ggX4_init_X2_init
theorem dX4_init_0 : decode cX4_init 0 = .ok (.aload_n 0, 1) := by decide +kernel
theorem dX4_init_1 : decode cX4_init 1 = .ok (.invokespecial 1, 3) := by decide +kernel
theorem dX4_init_4 : decode cX4_init 4 = .ok (.aload_n 0, 1) := by decide +kernel
theorem dX4_init_5 : decode cX4_init 5 = .ok (.new 7, 3) := by decide +kernel
theorem dX4_init_8 : decode cX4_init 8 = .ok (.dup, 1) := by decide +kernel
theorem dX4_init_9 : decode cX4_init 9 = .ok (.invokespecial 9, 3) := by decide +kernel
theorem dX4_init_12 : decode cX4_init 12 = .ok (.putfield 10, 3) := by decide +kernel
theorem dX4_init_15 : decode cX4_init 15 = .ok (.aload_n 0, 1) := by decide +kernel
theorem dX4_init_16 : decode cX4_init 16 = .ok (.bipush 12, 2) := by decide +kernel
theorem dX4_init_18 : decode cX4_init 18 = .ok (.anewarray 16, 3) := by decide +kernel
theorem dX4_init_21 : decode cX4_init 21 = .ok (.putfield 18, 3) := by decide +kernel
theorem dX4_init_24 : decode cX4_init 24 = .ok (.iconst 0, 1) := by decide +kernel
theorem dX4_init_25 : decode cX4_init 25 = .ok (.istore_n 1, 1) := by decide +kernel
theorem dX4_init_26 : decode cX4_init 26 = .ok (.iload_n 1, 1) := by decide +kernel
theorem dX4_init_27 : decode cX4_init 27 = .ok (.bipush 12, 2) := by decide +kernel
theorem dX4_init_29 : decode cX4_init 29 = .ok (.if_icmp .ge 26, 3) := by decide +kernel
theorem dX4_init_32 : decode cX4_init 32 = .ok (.aload_n 0, 1) := by decide +kernel
theorem dX4_init_33 : decode cX4_init 33 = .ok (.getfield 18, 3) := by decide +kernel
theorem dX4_init_36 : decode cX4_init 36 = .ok (.iload_n 1, 1) := by decide +kernel
theorem dX4_init_37 : decode cX4_init 37 = .ok (.new 16, 3) := by decide +kernel
theorem dX4_init_40 : decode cX4_init 40 = .ok (.dup, 1) := by decide +kernel
theorem dX4_init_41 : decode cX4_init 41 = .ok (.aload_n 0, 1) := by decide +kernel
theorem dX4_init_42 : decode cX4_init 42 = .ok (.getfield 10, 3) := by decide +kernel
theorem dX4_init_45 : decode cX4_init 45 = .ok (.invokespecial 22, 3) := by decide +kernel
theorem dX4_init_48 : decode cX4_init 48 = .ok (.aastore, 1) := by decide +kernel
theorem dX4_init_49 : decode cX4_init 49 = .ok (.iinc 1 1, 3) := by decide +kernel
theorem dX4_init_52 : decode cX4_init 52 = .ok (.goto (-26), 3) := by decide +kernel
theorem dX4_init_55 : decode cX4_init 55 = .ok (.aload_n 0, 1) := by decide +kernel
theorem dX4_init_56 : decode cX4_init 56 = .ok (.new 25, 3) := by decide +kernel
theorem dX4_init_59 : decode cX4_init 59 = .ok (.dup, 1) := by decide +kernel
theorem dX4_init_60 : decode cX4_init 60 = .ok (.aload_n 0, 1) := by decide +kernel
theorem dX4_init_61 : decode cX4_init 61 = .ok (.getfield 10, 3) := by decide +kernel
theorem dX4_init_64 : decode cX4_init 64 = .ok (.invokespecial 27, 3) := by decide +kernel
theorem dX4_init_67 : decode cX4_init 67 = .ok (.putfield 28, 3) := by decide +kernel
theorem dX4_init_70 : decode cX4_init 70 = .ok (.aload_n 0, 1) := by decide +kernel
theorem dX4_init_71 : decode cX4_init 71 = .ok (.new 32, 3) := by decide +kernel
theorem dX4_init_74 : decode cX4_init 74 = .ok (.dup, 1) := by decide +kernel
theorem dX4_init_75 : decode cX4_init 75 = .ok (.aload_n 0, 1) := by decide +kernel
theorem dX4_init_76 : decode cX4_init 76 = .ok (.getfield 10, 3) := by decide +kernel
theorem dX4_init_79 : decode cX4_init 79 = .ok (.invokespecial 34, 3) := by decide +kernel
theorem dX4_init_82 : decode cX4_init 82 = .ok (.putfield 35, 3) := by decide +kernel
theorem dX4_init_85 : decode cX4_init 85 = .ok (.aload_n 0, 1) := by decide +kernel
theorem dX4_init_86 : decode cX4_init 86 = .ok (.new 16, 3) := by decide +kernel
theorem dX4_init_89 : decode cX4_init 89 = .ok (.dup, 1) := by decide +kernel
theorem dX4_init_90 : decode cX4_init 90 = .ok (.aload_n 0, 1) := by decide +kernel
theorem dX4_init_91 : decode cX4_init 91 = .ok (.getfield 10, 3) := by decide +kernel
theorem dX4_init_94 : decode cX4_init 94 = .ok (.invokespecial 22, 3) := by decide +kernel
theorem dX4_init_97 : decode cX4_init 97 = .ok (.putfield 39, 3) := by decide +kernel
theorem dX4_init_100 : decode cX4_init 100 = .ok (.aload_n 0, 1) := by decide +kernel
theorem dX4_init_101 : decode cX4_init 101 = .ok (.new 16, 3) := by decide +kernel
theorem dX4_init_104 : decode cX4_init 104 = .ok (.dup, 1) := by decide +kernel
theorem dX4_init_105 : decode cX4_init 105 = .ok (.aload_n 0, 1) := by decide +kernel
theorem dX4_init_106 : decode cX4_init 106 = .ok (.getfield 10, 3) := by decide +kernel
theorem dX4_init_109 : decode cX4_init 109 = .ok (.invokespecial 22, 3) := by decide +kernel
theorem dX4_init_112 : decode cX4_init 112 = .ok (.putfield 43, 3) := by decide +kernel
theorem dX4_init_115 : decode cX4_init 115 = .ok (.aload_n 0, 1) := by decide +kernel
theorem dX4_init_116 : decode cX4_init 116 = .ok (.bipush 6, 2) := by decide +kernel
theorem dX4_init_118 : decode cX4_init 118 = .ok (.newarray .int, 2) := by decide +kernel
theorem dX4_init_120 : decode cX4_init 120 = .ok (.putfield 46, 3) := by decide +kernel
theorem dX4_init_123 : decode cX4_init 123 = .ok (.return_, 1) := by decide +kernel
set_option maxRecDepth 20000 in
theorem ggX4_field_X4_mostPlaces : GoodIn wsX4_field wsX4_mostPlaces := goodIn_r _ [8] (by decide +kernel) (by decide +kernel)
set_option maxRecDepth 20000 in
theorem gX4_field_X4_mostPlaces : GoodIn wsX4_field (va_wsS RX4 50 yX4_mostPlaces wsX4_mostPlaces) := goodIn_app (goodIn_of _ (by decide +kernel)) ggX4_field_X4_mostPlaces
set_option maxRecDepth 20000 in
theorem ggX4_field_X0_become : GoodIn wsX4_field wsX0_become := goodIn_r _ [12, 13, 14, 15, 16, 17, 18, 10, 19, 47, 48, 49] (by decide +kernel) (by decide +kernel)
set_option maxRecDepth 20000 in
theorem gX4_field_X0_become_n54 : GoodIn wsX4_field (wsX0_become) := ggX4_field_X0_become
set_option maxRecDepth 20000 in
theorem ggX4_field_X3_becomeZero : GoodIn wsX4_field wsX3_becomeZero := goodIn_r _ [23, 24, 50, 51, 52, 53] (by decide +kernel) (by decide +kernel)
set_option maxRecDepth 20000 in
theorem gX4_field_X3_becomeZero_n58 : GoodIn wsX4_field (wsX3_becomeZero) := ggX4_field_X3_becomeZero
set_option maxRecDepth 20000 in
theorem ggX4_field_X2_becomeIdentity : GoodIn wsX4_field wsX2_becomeIdentity := goodIn_r _ [28, 29, 30, 31, 32, 33, 34, 54, 55, 56, 47, 48, 49] (by decide +kernel) (by decide +kernel)
set_option maxRecDepth 20000 in
theorem gX4_field_X2_becomeIdentity_n65 : GoodIn wsX4_field (wsX2_becomeIdentity) := ggX4_field_X2_becomeIdentity
theorem dX4_field_0 : decode cX4_field 0 = .ok (.iload_n 2, 1) := by decide +kernel
theorem dX4_field_1 : decode cX4_field 1 = .ok (.iconst 1, 1) := by decide +kernel
theorem dX4_field_2 : decode cX4_field 2 = .ok (.if_icmp .lt 11, 3) := by decide +kernel
theorem dX4_field_5 : decode cX4_field 5 = .ok (.iload_n 2, 1) := by decide +kernel
theorem dX4_field_6 : decode cX4_field 6 = .ok (.iload_n 1, 1) := by decide +kernel
theorem dX4_field_7 : decode cX4_field 7 = .ok (.invokestatic 50, 3) := by decide +kernel
theorem dX4_field_10 : decode cX4_field 10 = .ok (.if_icmp .le 6, 3) := by decide +kernel
theorem dX4_field_13 : decode cX4_field 13 = .ok (.bipush (-102), 2) := by decide +kernel
theorem dX4_field_15 : decode cX4_field 15 = .ok (.ireturn, 1) := by decide +kernel
theorem dX4_field_16 : decode cX4_field 16 = .ok (.aload_n 0, 1) := by decide +kernel
theorem dX4_field_17 : decode cX4_field 17 = .ok (.getfield 10, 3) := by decide +kernel
theorem dX4_field_20 : decode cX4_field 20 = .ok (.iload_n 1, 1) := by decide +kernel
theorem dX4_field_21 : decode cX4_field 21 = .ok (.iload_n 2, 1) := by decide +kernel
theorem dX4_field_22 : decode cX4_field 22 = .ok (.invokevirtual 54, 3) := by decide +kernel
theorem dX4_field_25 : decode cX4_field 25 = .ok (.iconst 0, 1) := by decide +kernel
theorem dX4_field_26 : decode cX4_field 26 = .ok (.istore_n 3, 1) := by decide +kernel
theorem dX4_field_27 : decode cX4_field 27 = .ok (.iload_n 3, 1) := by decide +kernel
theorem dX4_field_28 : decode cX4_field 28 = .ok (.bipush 12, 2) := by decide +kernel
theorem dX4_field_30 : decode cX4_field 30 = .ok (.if_icmp .ge 18, 3) := by decide +kernel
theorem dX4_field_33 : decode cX4_field 33 = .ok (.aload_n 0, 1) := by decide +kernel
theorem dX4_field_34 : decode cX4_field 34 = .ok (.getfield 18, 3) := by decide +kernel
theorem dX4_field_37 : decode cX4_field 37 = .ok (.iload_n 3, 1) := by decide +kernel
theorem dX4_field_38 : decode cX4_field 38 = .ok (.aaload, 1) := by decide +kernel
theorem dX4_field_39 : decode cX4_field 39 = .ok (.invokevirtual 58, 3) := by decide +kernel
theorem dX4_field_42 : decode cX4_field 42 = .ok (.iinc 3 1, 3) := by decide +kernel
theorem dX4_field_45 : decode cX4_field 45 = .ok (.goto (-18), 3) := by decide +kernel
theorem dX4_field_48 : decode cX4_field 48 = .ok (.aload_n 0, 1) := by decide +kernel
theorem dX4_field_49 : decode cX4_field 49 = .ok (.getfield 28, 3) := by decide +kernel
theorem dX4_field_52 : decode cX4_field 52 = .ok (.iconst 0, 1) := by decide +kernel
theorem dX4_field_53 : decode cX4_field 53 = .ok (.putfield 61, 3) := by decide +kernel
theorem dX4_field_56 : decode cX4_field 56 = .ok (.aload_n 0, 1) := by decide +kernel
theorem dX4_field_57 : decode cX4_field 57 = .ok (.getfield 35, 3) := by decide +kernel
theorem dX4_field_60 : decode cX4_field 60 = .ok (.invokevirtual 65, 3) := by decide +kernel
theorem dX4_field_63 : decode cX4_field 63 = .ok (.aload_n 0, 1) := by decide +kernel
theorem dX4_field_64 : decode cX4_field 64 = .ok (.getfield 10, 3) := by decide +kernel
theorem dX4_field_67 : decode cX4_field 67 = .ok (.getfield 68, 3) := by decide +kernel
theorem dX4_field_70 : decode cX4_field 70 = .ok (.ireturn, 1) := by decide +kernel
set_option maxRecDepth 20000 in
theorem ggX4_plus_X0_isVector : GoodIn wsX4_plus wsX0_isVector := goodIn_r _ [5, 6, 21, 22, 23] (by decide +kernel) (by decide +kernel)
set_option maxRecDepth 20000 in
theorem gX4_plus_X0_isVector_n71 : GoodIn wsX4_plus (wsX0_isVector) := ggX4_plus_X0_isVector
set_option maxRecDepth 20000 in
theorem ggX4_plus_X0_sum : GoodIn wsX4_plus wsX0_sum := goodIn_r _ [9, 10, 11, 21, 22, 23] (by decide +kernel) (by decide +kernel)
set_option maxRecDepth 20000 in
theorem gX4_plus_X0_sum_n78 : GoodIn wsX4_plus (wsX0_sum) := ggX4_plus_X0_sum
theorem dX4_plus_0 : decode cX4_plus 0 = .ok (.aload_n 0, 1) := by decide +kernel
theorem dX4_plus_1 : decode cX4_plus 1 = .ok (.getfield 10, 3) := by decide +kernel
theorem dX4_plus_4 : decode cX4_plus 4 = .ok (.iload_n 1, 1) := by decide +kernel
theorem dX4_plus_5 : decode cX4_plus 5 = .ok (.invokevirtual 71, 3) := by decide +kernel
theorem dX4_plus_8 : decode cX4_plus 8 = .ok (.ifCond .eq 14, 3) := by decide +kernel
theorem dX4_plus_11 : decode cX4_plus 11 = .ok (.aload_n 0, 1) := by decide +kernel
theorem dX4_plus_12 : decode cX4_plus 12 = .ok (.getfield 10, 3) := by decide +kernel
theorem dX4_plus_15 : decode cX4_plus 15 = .ok (.iload_n 2, 1) := by decide +kernel
theorem dX4_plus_16 : decode cX4_plus 16 = .ok (.invokevirtual 71, 3) := by decide +kernel
theorem dX4_plus_19 : decode cX4_plus 19 = .ok (.ifCond .ne 6, 3) := by decide +kernel
theorem dX4_plus_22 : decode cX4_plus 22 = .ok (.bipush (-101), 2) := by decide +kernel
theorem dX4_plus_24 : decode cX4_plus 24 = .ok (.ireturn, 1) := by decide +kernel
theorem dX4_plus_25 : decode cX4_plus 25 = .ok (.iload_n 3, 1) := by decide +kernel
theorem dX4_plus_26 : decode cX4_plus 26 = .ok (.ifCond .lt 14, 3) := by decide +kernel
theorem dX4_plus_29 : decode cX4_plus 29 = .ok (.iload_n 3, 1) := by decide +kernel
theorem dX4_plus_30 : decode cX4_plus 30 = .ok (.aload_n 0, 1) := by decide +kernel
theorem dX4_plus_31 : decode cX4_plus 31 = .ok (.getfield 10, 3) := by decide +kernel
theorem dX4_plus_34 : decode cX4_plus 34 = .ok (.getfield 75, 3) := by decide +kernel
theorem dX4_plus_37 : decode cX4_plus 37 = .ok (.if_icmp .lt 6, 3) := by decide +kernel
theorem dX4_plus_40 : decode cX4_plus 40 = .ok (.bipush (-102), 2) := by decide +kernel
theorem dX4_plus_42 : decode cX4_plus 42 = .ok (.ireturn, 1) := by decide +kernel
theorem dX4_plus_43 : decode cX4_plus 43 = .ok (.aload_n 0, 1) := by decide +kernel
theorem dX4_plus_44 : decode cX4_plus 44 = .ok (.getfield 10, 3) := by decide +kernel
theorem dX4_plus_47 : decode cX4_plus 47 = .ok (.iload_n 1, 1) := by decide +kernel
theorem dX4_plus_48 : decode cX4_plus 48 = .ok (.iload_n 2, 1) := by decide +kernel
theorem dX4_plus_49 : decode cX4_plus 49 = .ok (.iload_n 3, 1) := by decide +kernel
theorem dX4_plus_50 : decode cX4_plus 50 = .ok (.invokevirtual 78, 3) := by decide +kernel
theorem dX4_plus_53 : decode cX4_plus 53 = .ok (.ireturn, 1) := by decide +kernel
set_option maxRecDepth 20000 in
theorem ggX4_times_X0_isVector : GoodIn wsX4_times wsX0_isVector := goodIn_r _ [5, 6, 21, 22, 23] (by decide +kernel) (by decide +kernel)
set_option maxRecDepth 20000 in
theorem gX4_times_X0_isVector_n71 : GoodIn wsX4_times (wsX0_isVector) := ggX4_times_X0_isVector
set_option maxRecDepth 20000 in
theorem ggX4_times_X0_product : GoodIn wsX4_times wsX0_product := goodIn_r _ [9, 10, 11, 21, 22, 23] (by decide +kernel) (by decide +kernel)
set_option maxRecDepth 20000 in
theorem gX4_times_X0_product_n82 : GoodIn wsX4_times (wsX0_product) := ggX4_times_X0_product
theorem dX4_times_0 : decode cX4_times 0 = .ok (.aload_n 0, 1) := by decide +kernel
theorem dX4_times_1 : decode cX4_times 1 = .ok (.getfield 10, 3) := by decide +kernel
theorem dX4_times_4 : decode cX4_times 4 = .ok (.iload_n 1, 1) := by decide +kernel
theorem dX4_times_5 : decode cX4_times 5 = .ok (.invokevirtual 71, 3) := by decide +kernel
theorem dX4_times_8 : decode cX4_times 8 = .ok (.ifCond .eq 14, 3) := by decide +kernel
theorem dX4_times_11 : decode cX4_times 11 = .ok (.aload_n 0, 1) := by decide +kernel
theorem dX4_times_12 : decode cX4_times 12 = .ok (.getfield 10, 3) := by decide +kernel
theorem dX4_times_15 : decode cX4_times 15 = .ok (.iload_n 2, 1) := by decide +kernel
theorem dX4_times_16 : decode cX4_times 16 = .ok (.invokevirtual 71, 3) := by decide +kernel
theorem dX4_times_19 : decode cX4_times 19 = .ok (.ifCond .ne 6, 3) := by decide +kernel
theorem dX4_times_22 : decode cX4_times 22 = .ok (.bipush (-101), 2) := by decide +kernel
theorem dX4_times_24 : decode cX4_times 24 = .ok (.ireturn, 1) := by decide +kernel
theorem dX4_times_25 : decode cX4_times 25 = .ok (.aload_n 0, 1) := by decide +kernel
theorem dX4_times_26 : decode cX4_times 26 = .ok (.getfield 10, 3) := by decide +kernel
theorem dX4_times_29 : decode cX4_times 29 = .ok (.iload_n 1, 1) := by decide +kernel
theorem dX4_times_30 : decode cX4_times 30 = .ok (.iload_n 2, 1) := by decide +kernel
theorem dX4_times_31 : decode cX4_times 31 = .ok (.invokevirtual 82, 3) := by decide +kernel
theorem dX4_times_34 : decode cX4_times 34 = .ok (.ireturn, 1) := by decide +kernel
set_option maxRecDepth 20000 in
theorem ggX4_add_X4_isSlot : GoodIn wsX4_add wsX4_isSlot := goodIn_r _ [7] (by decide +kernel) (by decide +kernel)
set_option maxRecDepth 20000 in
theorem gX4_add_X4_isSlot : GoodIn wsX4_add (va_wsS RX4 86 yX4_isSlot wsX4_isSlot) := goodIn_app (goodIn_of _ (by decide +kernel)) ggX4_add_X4_isSlot
set_option maxRecDepth 20000 in
theorem ggX4_add_X0_isVector : GoodIn wsX4_add wsX0_isVector := goodIn_r _ [11, 12, 71, 72, 73] (by decide +kernel) (by decide +kernel)
set_option maxRecDepth 20000 in
theorem gX4_add_X0_isVector_n71 : GoodIn wsX4_add (wsX0_isVector) := ggX4_add_X0_isVector
set_option maxRecDepth 20000 in
theorem ggX4_add_X0_spell : GoodIn wsX4_add wsX0_spell := goodIn_r _ [15, 16, 17, 71, 72, 73] (by decide +kernel) (by decide +kernel)
set_option maxRecDepth 20000 in
theorem gX4_add_X0_spell_n89 : GoodIn wsX4_add (wsX0_spell) := ggX4_add_X0_spell
set_option maxRecDepth 20000 in
theorem ggX4_add_X3_joinVector : GoodIn wsX4_add wsX3_joinVector := goodIn_r _ [21, 22, 23, 24, 25, 26, 27, 28, 29, 30, 19, 31, 32, 33, 34, 35, 36, 37, 38, 39, 40, 41, 42, 9, 43, 44, 16, 17, 45, 46, 47, 48, 49, 50, 51, 74, 75, 76, 77, 71, 72, 73] (by decide +kernel) (by decide +kernel)
set_option maxRecDepth 20000 in
theorem gX4_add_X3_joinVector_n93 : GoodIn wsX4_add (wsX3_joinVector) := ggX4_add_X3_joinVector
set_option maxRecDepth 20000 in
theorem ggX4_add_X3_rank : GoodIn wsX4_add wsX3_rank := goodIn_r _ [54, 41, 55, 56, 57, 58, 59, 60, 61, 74, 75, 76, 77] (by decide +kernel) (by decide +kernel)
set_option maxRecDepth 20000 in
theorem gX4_add_X3_rank_n97 : GoodIn wsX4_add (wsX3_rank) := ggX4_add_X3_rank
theorem dX4_add_0 : decode cX4_add 0 = .ok (.iload_n 1, 1) := by decide +kernel
theorem dX4_add_1 : decode cX4_add 1 = .ok (.invokestatic 86, 3) := by decide +kernel
theorem dX4_add_4 : decode cX4_add 4 = .ok (.ifCond .eq 14, 3) := by decide +kernel
theorem dX4_add_7 : decode cX4_add 7 = .ok (.aload_n 0, 1) := by decide +kernel
theorem dX4_add_8 : decode cX4_add 8 = .ok (.getfield 10, 3) := by decide +kernel
theorem dX4_add_11 : decode cX4_add 11 = .ok (.iload_n 2, 1) := by decide +kernel
theorem dX4_add_12 : decode cX4_add 12 = .ok (.invokevirtual 71, 3) := by decide +kernel
theorem dX4_add_15 : decode cX4_add 15 = .ok (.ifCond .ne 6, 3) := by decide +kernel
theorem dX4_add_18 : decode cX4_add 18 = .ok (.bipush (-101), 2) := by decide +kernel
theorem dX4_add_20 : decode cX4_add 20 = .ok (.ireturn, 1) := by decide +kernel
theorem dX4_add_21 : decode cX4_add 21 = .ok (.aload_n 0, 1) := by decide +kernel
theorem dX4_add_22 : decode cX4_add 22 = .ok (.getfield 10, 3) := by decide +kernel
theorem dX4_add_25 : decode cX4_add 25 = .ok (.iload_n 2, 1) := by decide +kernel
theorem dX4_add_26 : decode cX4_add 26 = .ok (.aload_n 0, 1) := by decide +kernel
theorem dX4_add_27 : decode cX4_add 27 = .ok (.getfield 46, 3) := by decide +kernel
theorem dX4_add_30 : decode cX4_add 30 = .ok (.iconst 0, 1) := by decide +kernel
theorem dX4_add_31 : decode cX4_add 31 = .ok (.invokevirtual 89, 3) := by decide +kernel
theorem dX4_add_34 : decode cX4_add 34 = .ok (.aload_n 0, 1) := by decide +kernel
theorem dX4_add_35 : decode cX4_add 35 = .ok (.getfield 18, 3) := by decide +kernel
theorem dX4_add_38 : decode cX4_add 38 = .ok (.iload_n 1, 1) := by decide +kernel
theorem dX4_add_39 : decode cX4_add 39 = .ok (.aaload, 1) := by decide +kernel
theorem dX4_add_40 : decode cX4_add 40 = .ok (.aload_n 0, 1) := by decide +kernel
theorem dX4_add_41 : decode cX4_add 41 = .ok (.getfield 46, 3) := by decide +kernel
theorem dX4_add_44 : decode cX4_add 44 = .ok (.iconst 0, 1) := by decide +kernel
theorem dX4_add_45 : decode cX4_add 45 = .ok (.invokevirtual 93, 3) := by decide +kernel
theorem dX4_add_48 : decode cX4_add 48 = .ok (.aload_n 0, 1) := by decide +kernel
theorem dX4_add_49 : decode cX4_add 49 = .ok (.getfield 18, 3) := by decide +kernel
theorem dX4_add_52 : decode cX4_add 52 = .ok (.iload_n 1, 1) := by decide +kernel
theorem dX4_add_53 : decode cX4_add 53 = .ok (.aaload, 1) := by decide +kernel
theorem dX4_add_54 : decode cX4_add 54 = .ok (.invokevirtual 97, 3) := by decide +kernel
theorem dX4_add_57 : decode cX4_add 57 = .ok (.ireturn, 1) := by decide +kernel
set_option maxRecDepth 20000 in
theorem ggX4_clear_X4_isSlot : GoodIn wsX4_clear wsX4_isSlot := goodIn_r _ [5] (by decide +kernel) (by decide +kernel)
set_option maxRecDepth 20000 in
theorem gX4_clear_X4_isSlot : GoodIn wsX4_clear (va_wsS RX4 86 yX4_isSlot wsX4_isSlot) := goodIn_app (goodIn_of _ (by decide +kernel)) ggX4_clear_X4_isSlot
set_option maxRecDepth 20000 in
theorem ggX4_clear_X3_rank : GoodIn wsX4_clear wsX3_rank := goodIn_r _ [9, 10, 11, 12, 13, 14, 15, 16, 17, 30, 31, 32, 33] (by decide +kernel) (by decide +kernel)
set_option maxRecDepth 20000 in
theorem gX4_clear_X3_rank_n97 : GoodIn wsX4_clear (wsX3_rank) := ggX4_clear_X3_rank
set_option maxRecDepth 20000 in
theorem ggX4_clear_X3_becomeZero : GoodIn wsX4_clear wsX3_becomeZero := goodIn_r _ [20, 10, 30, 31, 32, 33] (by decide +kernel) (by decide +kernel)
set_option maxRecDepth 20000 in
theorem gX4_clear_X3_becomeZero_n58 : GoodIn wsX4_clear (wsX3_becomeZero) := ggX4_clear_X3_becomeZero
theorem dX4_clear_0 : decode cX4_clear 0 = .ok (.iload_n 1, 1) := by decide +kernel
theorem dX4_clear_1 : decode cX4_clear 1 = .ok (.invokestatic 86, 3) := by decide +kernel
theorem dX4_clear_4 : decode cX4_clear 4 = .ok (.ifCond .ne 6, 3) := by decide +kernel
theorem dX4_clear_7 : decode cX4_clear 7 = .ok (.bipush (-101), 2) := by decide +kernel
theorem dX4_clear_9 : decode cX4_clear 9 = .ok (.ireturn, 1) := by decide +kernel
theorem dX4_clear_10 : decode cX4_clear 10 = .ok (.aload_n 0, 1) := by decide +kernel
theorem dX4_clear_11 : decode cX4_clear 11 = .ok (.getfield 18, 3) := by decide +kernel
theorem dX4_clear_14 : decode cX4_clear 14 = .ok (.iload_n 1, 1) := by decide +kernel
theorem dX4_clear_15 : decode cX4_clear 15 = .ok (.aaload, 1) := by decide +kernel
theorem dX4_clear_16 : decode cX4_clear 16 = .ok (.invokevirtual 97, 3) := by decide +kernel
theorem dX4_clear_19 : decode cX4_clear 19 = .ok (.istore_n 2, 1) := by decide +kernel
theorem dX4_clear_20 : decode cX4_clear 20 = .ok (.aload_n 0, 1) := by decide +kernel
theorem dX4_clear_21 : decode cX4_clear 21 = .ok (.getfield 18, 3) := by decide +kernel
theorem dX4_clear_24 : decode cX4_clear 24 = .ok (.iload_n 1, 1) := by decide +kernel
theorem dX4_clear_25 : decode cX4_clear 25 = .ok (.aaload, 1) := by decide +kernel
theorem dX4_clear_26 : decode cX4_clear 26 = .ok (.invokevirtual 58, 3) := by decide +kernel
theorem dX4_clear_29 : decode cX4_clear 29 = .ok (.iload_n 2, 1) := by decide +kernel
theorem dX4_clear_30 : decode cX4_clear 30 = .ok (.ireturn, 1) := by decide +kernel
set_option maxRecDepth 20000 in
theorem ggX4_dim_X4_isSlot : GoodIn wsX4_dim wsX4_isSlot := goodIn_r _ [5] (by decide +kernel) (by decide +kernel)
set_option maxRecDepth 20000 in
theorem gX4_dim_X4_isSlot : GoodIn wsX4_dim (va_wsS RX4 86 yX4_isSlot wsX4_isSlot) := goodIn_app (goodIn_of _ (by decide +kernel)) ggX4_dim_X4_isSlot
set_option maxRecDepth 20000 in
theorem ggX4_dim_X3_rank : GoodIn wsX4_dim wsX3_rank := goodIn_r _ [9, 10, 11, 12, 13, 14, 15, 16, 17, 27, 28, 29, 30] (by decide +kernel) (by decide +kernel)
set_option maxRecDepth 20000 in
theorem gX4_dim_X3_rank_n97 : GoodIn wsX4_dim (wsX3_rank) := ggX4_dim_X3_rank
theorem dX4_dim_0 : decode cX4_dim 0 = .ok (.iload_n 1, 1) := by decide +kernel
theorem dX4_dim_1 : decode cX4_dim 1 = .ok (.invokestatic 86, 3) := by decide +kernel
theorem dX4_dim_4 : decode cX4_dim 4 = .ok (.ifCond .eq 15, 3) := by decide +kernel
theorem dX4_dim_7 : decode cX4_dim 7 = .ok (.aload_n 0, 1) := by decide +kernel
theorem dX4_dim_8 : decode cX4_dim 8 = .ok (.getfield 18, 3) := by decide +kernel
theorem dX4_dim_11 : decode cX4_dim 11 = .ok (.iload_n 1, 1) := by decide +kernel
theorem dX4_dim_12 : decode cX4_dim 12 = .ok (.aaload, 1) := by decide +kernel
theorem dX4_dim_13 : decode cX4_dim 13 = .ok (.invokevirtual 97, 3) := by decide +kernel
theorem dX4_dim_16 : decode cX4_dim 16 = .ok (.goto 5, 3) := by decide +kernel
theorem dX4_dim_19 : decode cX4_dim 19 = .ok (.bipush (-101), 2) := by decide +kernel
theorem dX4_dim_21 : decode cX4_dim 21 = .ok (.ireturn, 1) := by decide +kernel
set_option maxRecDepth 20000 in
theorem ggX4_row_X4_isSlot : GoodIn wsX4_row wsX4_isSlot := goodIn_r _ [5] (by decide +kernel) (by decide +kernel)
set_option maxRecDepth 20000 in
theorem gX4_row_X4_isSlot : GoodIn wsX4_row (va_wsS RX4 86 yX4_isSlot wsX4_isSlot) := goodIn_app (goodIn_of _ (by decide +kernel)) ggX4_row_X4_isSlot
set_option maxRecDepth 20000 in
theorem ggX4_row_X3_rowNumber : GoodIn wsX4_row wsX3_rowNumber := goodIn_r _ [9, 10, 11, 12, 13, 14, 7, 15, 16, 17, 18, 19, 20, 21, 22, 32, 33, 34, 35, 36, 37, 38] (by decide +kernel) (by decide +kernel)
set_option maxRecDepth 20000 in
theorem gX4_row_X3_rowNumber_n101 : GoodIn wsX4_row (wsX3_rowNumber) := ggX4_row_X3_rowNumber
theorem dX4_row_0 : decode cX4_row 0 = .ok (.iload_n 1, 1) := by decide +kernel
theorem dX4_row_1 : decode cX4_row 1 = .ok (.invokestatic 86, 3) := by decide +kernel
theorem dX4_row_4 : decode cX4_row 4 = .ok (.ifCond .eq 16, 3) := by decide +kernel
theorem dX4_row_7 : decode cX4_row 7 = .ok (.aload_n 0, 1) := by decide +kernel
theorem dX4_row_8 : decode cX4_row 8 = .ok (.getfield 18, 3) := by decide +kernel
theorem dX4_row_11 : decode cX4_row 11 = .ok (.iload_n 1, 1) := by decide +kernel
theorem dX4_row_12 : decode cX4_row 12 = .ok (.aaload, 1) := by decide +kernel
theorem dX4_row_13 : decode cX4_row 13 = .ok (.iload_n 2, 1) := by decide +kernel
theorem dX4_row_14 : decode cX4_row 14 = .ok (.invokevirtual 101, 3) := by decide +kernel
theorem dX4_row_17 : decode cX4_row 17 = .ok (.goto 5, 3) := by decide +kernel
theorem dX4_row_20 : decode cX4_row 20 = .ok (.bipush (-101), 2) := by decide +kernel
theorem dX4_row_22 : decode cX4_row 22 = .ok (.ireturn, 1) := by decide +kernel
set_option maxRecDepth 20000 in
theorem ggX4_join_X4_isSlot : GoodIn wsX4_join wsX4_isSlot := goodIn_r _ [6] (by decide +kernel) (by decide +kernel)
set_option maxRecDepth 20000 in
theorem gX4_join_X4_isSlot : GoodIn wsX4_join (va_wsS RX4 86 yX4_isSlot wsX4_isSlot) := goodIn_app (goodIn_of _ (by decide +kernel)) ggX4_join_X4_isSlot
set_option maxRecDepth 20000 in
theorem ggX4_join_X3_copyFrom : GoodIn wsX4_join wsX3_copyFrom := goodIn_r _ [10, 11, 12, 13, 14, 15, 16, 70, 71, 72, 73] (by decide +kernel) (by decide +kernel)
set_option maxRecDepth 20000 in
theorem gX4_join_X3_copyFrom_n104 : GoodIn wsX4_join (wsX3_copyFrom) := ggX4_join_X3_copyFrom
set_option maxRecDepth 20000 in
theorem ggX4_join_X3_joinSpace : GoodIn wsX4_join wsX3_joinSpace := goodIn_r _ [19, 20, 12, 21, 13, 14, 15, 16, 22, 23, 24, 8, 25, 11, 26, 27, 28, 29, 30, 31, 32, 33, 34, 35, 36, 37, 38, 39, 40, 41, 42, 43, 44, 45, 46, 70, 71, 72, 73, 74, 75, 76] (by decide +kernel) (by decide +kernel)
set_option maxRecDepth 20000 in
theorem gX4_join_X3_joinSpace_n108 : GoodIn wsX4_join (wsX3_joinSpace) := ggX4_join_X3_joinSpace
set_option maxRecDepth 20000 in
theorem ggX4_join_X4_settle : GoodIn wsX4_join wsX4_settle := goodIn_r _ [50, 2, 7, 8, 9, 10, 11, 12, 13, 14, 15, 16, 51, 52, 53, 54, 55, 56, 57, 58, 59, 60, 61, 62, 63, 64, 65, 66, 67, 68, 69, 70, 71, 72, 73] (by decide +kernel) (by decide +kernel)
set_option maxRecDepth 20000 in
theorem gX4_join_X4_settle : GoodIn wsX4_join (wsV RX4 111 RX4 yX4_settle wsX4_settle) := goodIn_app (goodIn_of _ (by decide +kernel)) ggX4_join_X4_settle
theorem dX4_join_0 : decode cX4_join 0 = .ok (.iload_n 1, 1) := by decide +kernel
theorem dX4_join_1 : decode cX4_join 1 = .ok (.invokestatic 86, 3) := by decide +kernel
theorem dX4_join_4 : decode cX4_join 4 = .ok (.ifCond .eq 17, 3) := by decide +kernel
theorem dX4_join_7 : decode cX4_join 7 = .ok (.iload_n 2, 1) := by decide +kernel
theorem dX4_join_8 : decode cX4_join 8 = .ok (.invokestatic 86, 3) := by decide +kernel
theorem dX4_join_11 : decode cX4_join 11 = .ok (.ifCond .eq 10, 3) := by decide +kernel
theorem dX4_join_14 : decode cX4_join 14 = .ok (.iload_n 3, 1) := by decide +kernel
theorem dX4_join_15 : decode cX4_join 15 = .ok (.invokestatic 86, 3) := by decide +kernel
theorem dX4_join_18 : decode cX4_join 18 = .ok (.ifCond .ne 6, 3) := by decide +kernel
theorem dX4_join_21 : decode cX4_join 21 = .ok (.bipush (-101), 2) := by decide +kernel
theorem dX4_join_23 : decode cX4_join 23 = .ok (.ireturn, 1) := by decide +kernel
theorem dX4_join_24 : decode cX4_join 24 = .ok (.aload_n 0, 1) := by decide +kernel
theorem dX4_join_25 : decode cX4_join 25 = .ok (.getfield 39, 3) := by decide +kernel
theorem dX4_join_28 : decode cX4_join 28 = .ok (.aload_n 0, 1) := by decide +kernel
theorem dX4_join_29 : decode cX4_join 29 = .ok (.getfield 18, 3) := by decide +kernel
theorem dX4_join_32 : decode cX4_join 32 = .ok (.iload_n 1, 1) := by decide +kernel
theorem dX4_join_33 : decode cX4_join 33 = .ok (.aaload, 1) := by decide +kernel
theorem dX4_join_34 : decode cX4_join 34 = .ok (.invokevirtual 104, 3) := by decide +kernel
theorem dX4_join_37 : decode cX4_join 37 = .ok (.aload_n 0, 1) := by decide +kernel
theorem dX4_join_38 : decode cX4_join 38 = .ok (.getfield 39, 3) := by decide +kernel
theorem dX4_join_41 : decode cX4_join 41 = .ok (.aload_n 0, 1) := by decide +kernel
theorem dX4_join_42 : decode cX4_join 42 = .ok (.getfield 18, 3) := by decide +kernel
theorem dX4_join_45 : decode cX4_join 45 = .ok (.iload_n 2, 1) := by decide +kernel
theorem dX4_join_46 : decode cX4_join 46 = .ok (.aaload, 1) := by decide +kernel
theorem dX4_join_47 : decode cX4_join 47 = .ok (.invokevirtual 108, 3) := by decide +kernel
theorem dX4_join_50 : decode cX4_join 50 = .ok (.aload_n 0, 1) := by decide +kernel
theorem dX4_join_51 : decode cX4_join 51 = .ok (.aload_n 0, 1) := by decide +kernel
theorem dX4_join_52 : decode cX4_join 52 = .ok (.getfield 39, 3) := by decide +kernel
theorem dX4_join_55 : decode cX4_join 55 = .ok (.iload_n 3, 1) := by decide +kernel
theorem dX4_join_56 : decode cX4_join 56 = .ok (.invokevirtual 111, 3) := by decide +kernel
theorem dX4_join_59 : decode cX4_join 59 = .ok (.ireturn, 1) := by decide +kernel
set_option maxRecDepth 20000 in
theorem ggX4_meet_X4_isSlot : GoodIn wsX4_meet wsX4_isSlot := goodIn_r _ [7] (by decide +kernel) (by decide +kernel)
set_option maxRecDepth 20000 in
theorem gX4_meet_X4_isSlot : GoodIn wsX4_meet (va_wsS RX4 86 yX4_isSlot wsX4_isSlot) := goodIn_app (goodIn_of _ (by decide +kernel)) ggX4_meet_X4_isSlot
set_option maxRecDepth 20000 in
theorem ggX4_meet_X3_becomeDual : GoodIn wsX4_meet wsX3_becomeDual := goodIn_r _ [11, 12, 13, 14, 15, 16, 17, 9, 18, 19, 20, 21, 22, 23, 24, 25, 26, 27, 28, 29, 30, 31, 32, 33, 34, 35, 36, 37, 38, 39, 40, 41, 42, 43, 44, 45, 46, 47, 48, 82, 83, 84, 85, 86, 87, 88] (by decide +kernel) (by decide +kernel)
set_option maxRecDepth 20000 in
theorem gX4_meet_X3_becomeDual_n115 : GoodIn wsX4_meet (wsX3_becomeDual) := ggX4_meet_X3_becomeDual
set_option maxRecDepth 20000 in
theorem ggX4_meet_X3_joinSpace : GoodIn wsX4_meet wsX3_joinSpace := goodIn_r _ [51, 12, 14, 13, 52, 53, 54, 55, 20, 21, 22, 9, 23, 19, 28, 29, 30, 31, 32, 33, 34, 35, 36, 37, 38, 39, 40, 41, 42, 43, 44, 45, 46, 47, 48, 82, 83, 84, 85, 86, 87, 88] (by decide +kernel) (by decide +kernel)
set_option maxRecDepth 20000 in
theorem gX4_meet_X3_joinSpace_n108 : GoodIn wsX4_meet (wsX3_joinSpace) := ggX4_meet_X3_joinSpace
set_option maxRecDepth 20000 in
theorem ggX4_meet_X4_settle : GoodIn wsX4_meet wsX4_settle := goodIn_r _ [59, 2, 60, 9, 61, 62, 19, 14, 52, 53, 54, 55, 63, 64, 65, 66, 67, 68, 69, 70, 71, 72, 73, 74, 75, 76, 77, 78, 79, 80, 81, 82, 83, 84, 85] (by decide +kernel) (by decide +kernel)
set_option maxRecDepth 20000 in
theorem gX4_meet_X4_settle : GoodIn wsX4_meet (wsV RX4 111 RX4 yX4_settle wsX4_settle) := goodIn_app (goodIn_of _ (by decide +kernel)) ggX4_meet_X4_settle
theorem dX4_meet_0 : decode cX4_meet 0 = .ok (.iload_n 1, 1) := by decide +kernel
theorem dX4_meet_1 : decode cX4_meet 1 = .ok (.invokestatic 86, 3) := by decide +kernel
theorem dX4_meet_4 : decode cX4_meet 4 = .ok (.ifCond .eq 17, 3) := by decide +kernel
theorem dX4_meet_7 : decode cX4_meet 7 = .ok (.iload_n 2, 1) := by decide +kernel
theorem dX4_meet_8 : decode cX4_meet 8 = .ok (.invokestatic 86, 3) := by decide +kernel
theorem dX4_meet_11 : decode cX4_meet 11 = .ok (.ifCond .eq 10, 3) := by decide +kernel
theorem dX4_meet_14 : decode cX4_meet 14 = .ok (.iload_n 3, 1) := by decide +kernel
theorem dX4_meet_15 : decode cX4_meet 15 = .ok (.invokestatic 86, 3) := by decide +kernel
theorem dX4_meet_18 : decode cX4_meet 18 = .ok (.ifCond .ne 6, 3) := by decide +kernel
theorem dX4_meet_21 : decode cX4_meet 21 = .ok (.bipush (-101), 2) := by decide +kernel
theorem dX4_meet_23 : decode cX4_meet 23 = .ok (.ireturn, 1) := by decide +kernel
theorem dX4_meet_24 : decode cX4_meet 24 = .ok (.aload_n 0, 1) := by decide +kernel
theorem dX4_meet_25 : decode cX4_meet 25 = .ok (.getfield 39, 3) := by decide +kernel
theorem dX4_meet_28 : decode cX4_meet 28 = .ok (.aload_n 0, 1) := by decide +kernel
theorem dX4_meet_29 : decode cX4_meet 29 = .ok (.getfield 18, 3) := by decide +kernel
theorem dX4_meet_32 : decode cX4_meet 32 = .ok (.iload_n 1, 1) := by decide +kernel
theorem dX4_meet_33 : decode cX4_meet 33 = .ok (.aaload, 1) := by decide +kernel
theorem dX4_meet_34 : decode cX4_meet 34 = .ok (.invokevirtual 115, 3) := by decide +kernel
theorem dX4_meet_37 : decode cX4_meet 37 = .ok (.aload_n 0, 1) := by decide +kernel
theorem dX4_meet_38 : decode cX4_meet 38 = .ok (.getfield 43, 3) := by decide +kernel
theorem dX4_meet_41 : decode cX4_meet 41 = .ok (.aload_n 0, 1) := by decide +kernel
theorem dX4_meet_42 : decode cX4_meet 42 = .ok (.getfield 18, 3) := by decide +kernel
theorem dX4_meet_45 : decode cX4_meet 45 = .ok (.iload_n 2, 1) := by decide +kernel
theorem dX4_meet_46 : decode cX4_meet 46 = .ok (.aaload, 1) := by decide +kernel
theorem dX4_meet_47 : decode cX4_meet 47 = .ok (.invokevirtual 115, 3) := by decide +kernel
theorem dX4_meet_50 : decode cX4_meet 50 = .ok (.aload_n 0, 1) := by decide +kernel
theorem dX4_meet_51 : decode cX4_meet 51 = .ok (.getfield 43, 3) := by decide +kernel
theorem dX4_meet_54 : decode cX4_meet 54 = .ok (.aload_n 0, 1) := by decide +kernel
theorem dX4_meet_55 : decode cX4_meet 55 = .ok (.getfield 39, 3) := by decide +kernel
theorem dX4_meet_58 : decode cX4_meet 58 = .ok (.invokevirtual 108, 3) := by decide +kernel
theorem dX4_meet_61 : decode cX4_meet 61 = .ok (.aload_n 0, 1) := by decide +kernel
theorem dX4_meet_62 : decode cX4_meet 62 = .ok (.getfield 39, 3) := by decide +kernel
theorem dX4_meet_65 : decode cX4_meet 65 = .ok (.aload_n 0, 1) := by decide +kernel
theorem dX4_meet_66 : decode cX4_meet 66 = .ok (.getfield 43, 3) := by decide +kernel
theorem dX4_meet_69 : decode cX4_meet 69 = .ok (.invokevirtual 115, 3) := by decide +kernel
theorem dX4_meet_72 : decode cX4_meet 72 = .ok (.aload_n 0, 1) := by decide +kernel
theorem dX4_meet_73 : decode cX4_meet 73 = .ok (.aload_n 0, 1) := by decide +kernel
theorem dX4_meet_74 : decode cX4_meet 74 = .ok (.getfield 39, 3) := by decide +kernel
theorem dX4_meet_77 : decode cX4_meet 77 = .ok (.iload_n 3, 1) := by decide +kernel
theorem dX4_meet_78 : decode cX4_meet 78 = .ok (.invokevirtual 111, 3) := by decide +kernel
theorem dX4_meet_81 : decode cX4_meet 81 = .ok (.ireturn, 1) := by decide +kernel
set_option maxRecDepth 20000 in
theorem ggX4_dual_X4_isSlot : GoodIn wsX4_dual wsX4_isSlot := goodIn_r _ [6] (by decide +kernel) (by decide +kernel)
set_option maxRecDepth 20000 in
theorem gX4_dual_X4_isSlot : GoodIn wsX4_dual (va_wsS RX4 86 yX4_isSlot wsX4_isSlot) := goodIn_app (goodIn_of _ (by decide +kernel)) ggX4_dual_X4_isSlot
set_option maxRecDepth 20000 in
theorem ggX4_dual_X3_becomeDual : GoodIn wsX4_dual wsX3_becomeDual := goodIn_r _ [10, 11, 12, 13, 14, 15, 16, 8, 17, 18, 19, 20, 21, 22, 23, 24, 25, 26, 27, 28, 29, 30, 31, 32, 33, 34, 35, 36, 37, 38, 39, 40, 41, 42, 43, 44, 45, 46, 47, 78, 79, 80, 81, 82, 83, 84] (by decide +kernel) (by decide +kernel)
set_option maxRecDepth 20000 in
theorem gX4_dual_X3_becomeDual_n115 : GoodIn wsX4_dual (wsX3_becomeDual) := ggX4_dual_X3_becomeDual
set_option maxRecDepth 20000 in
theorem ggX4_dual_X4_settle : GoodIn wsX4_dual wsX4_settle := goodIn_r _ [51, 2, 52, 8, 53, 54, 18, 13, 55, 56, 57, 58, 59, 60, 61, 62, 63, 64, 65, 66, 67, 68, 69, 70, 71, 72, 73, 74, 75, 76, 77, 78, 79, 80, 81] (by decide +kernel) (by decide +kernel)
set_option maxRecDepth 20000 in
theorem gX4_dual_X4_settle : GoodIn wsX4_dual (wsV RX4 111 RX4 yX4_settle wsX4_settle) := goodIn_app (goodIn_of _ (by decide +kernel)) ggX4_dual_X4_settle
theorem dX4_dual_0 : decode cX4_dual 0 = .ok (.iload_n 1, 1) := by decide +kernel
theorem dX4_dual_1 : decode cX4_dual 1 = .ok (.invokestatic 86, 3) := by decide +kernel
theorem dX4_dual_4 : decode cX4_dual 4 = .ok (.ifCond .eq 10, 3) := by decide +kernel
theorem dX4_dual_7 : decode cX4_dual 7 = .ok (.iload_n 2, 1) := by decide +kernel
theorem dX4_dual_8 : decode cX4_dual 8 = .ok (.invokestatic 86, 3) := by decide +kernel
theorem dX4_dual_11 : decode cX4_dual 11 = .ok (.ifCond .ne 6, 3) := by decide +kernel
theorem dX4_dual_14 : decode cX4_dual 14 = .ok (.bipush (-101), 2) := by decide +kernel
theorem dX4_dual_16 : decode cX4_dual 16 = .ok (.ireturn, 1) := by decide +kernel
theorem dX4_dual_17 : decode cX4_dual 17 = .ok (.aload_n 0, 1) := by decide +kernel
theorem dX4_dual_18 : decode cX4_dual 18 = .ok (.getfield 39, 3) := by decide +kernel
theorem dX4_dual_21 : decode cX4_dual 21 = .ok (.aload_n 0, 1) := by decide +kernel
theorem dX4_dual_22 : decode cX4_dual 22 = .ok (.getfield 18, 3) := by decide +kernel
theorem dX4_dual_25 : decode cX4_dual 25 = .ok (.iload_n 1, 1) := by decide +kernel
theorem dX4_dual_26 : decode cX4_dual 26 = .ok (.aaload, 1) := by decide +kernel
theorem dX4_dual_27 : decode cX4_dual 27 = .ok (.invokevirtual 115, 3) := by decide +kernel
theorem dX4_dual_30 : decode cX4_dual 30 = .ok (.aload_n 0, 1) := by decide +kernel
theorem dX4_dual_31 : decode cX4_dual 31 = .ok (.aload_n 0, 1) := by decide +kernel
theorem dX4_dual_32 : decode cX4_dual 32 = .ok (.getfield 39, 3) := by decide +kernel
theorem dX4_dual_35 : decode cX4_dual 35 = .ok (.iload_n 2, 1) := by decide +kernel
theorem dX4_dual_36 : decode cX4_dual 36 = .ok (.invokevirtual 111, 3) := by decide +kernel
theorem dX4_dual_39 : decode cX4_dual 39 = .ok (.ireturn, 1) := by decide +kernel
set_option maxRecDepth 20000 in
theorem ggX4_has_X4_isSlot : GoodIn wsX4_has wsX4_isSlot := goodIn_r _ [7] (by decide +kernel) (by decide +kernel)
set_option maxRecDepth 20000 in
theorem gX4_has_X4_isSlot : GoodIn wsX4_has (va_wsS RX4 86 yX4_isSlot wsX4_isSlot) := goodIn_app (goodIn_of _ (by decide +kernel)) ggX4_has_X4_isSlot
set_option maxRecDepth 20000 in
theorem ggX4_has_X0_isVector : GoodIn wsX4_has wsX0_isVector := goodIn_r _ [11, 12, 42, 43, 44] (by decide +kernel) (by decide +kernel)
set_option maxRecDepth 20000 in
theorem gX4_has_X0_isVector_n71 : GoodIn wsX4_has (wsX0_isVector) := ggX4_has_X0_isVector
set_option maxRecDepth 20000 in
theorem ggX4_has_X0_spell : GoodIn wsX4_has wsX0_spell := goodIn_r _ [15, 16, 17, 42, 43, 44] (by decide +kernel) (by decide +kernel)
set_option maxRecDepth 20000 in
theorem gX4_has_X0_spell_n89 : GoodIn wsX4_has (wsX0_spell) := ggX4_has_X0_spell
set_option maxRecDepth 20000 in
theorem ggX4_has_X3_holds : GoodIn wsX4_has wsX3_holds := goodIn_r _ [21, 22, 23, 24, 25, 19, 26, 27, 28, 29, 30, 31, 32, 45, 46, 47, 48, 42, 43, 44] (by decide +kernel) (by decide +kernel)
set_option maxRecDepth 20000 in
theorem gX4_has_X3_holds_n118 : GoodIn wsX4_has (wsX3_holds) := ggX4_has_X3_holds
theorem dX4_has_0 : decode cX4_has 0 = .ok (.iload_n 1, 1) := by decide +kernel
theorem dX4_has_1 : decode cX4_has 1 = .ok (.invokestatic 86, 3) := by decide +kernel
theorem dX4_has_4 : decode cX4_has 4 = .ok (.ifCond .eq 14, 3) := by decide +kernel
theorem dX4_has_7 : decode cX4_has 7 = .ok (.aload_n 0, 1) := by decide +kernel
theorem dX4_has_8 : decode cX4_has 8 = .ok (.getfield 10, 3) := by decide +kernel
theorem dX4_has_11 : decode cX4_has 11 = .ok (.iload_n 2, 1) := by decide +kernel
theorem dX4_has_12 : decode cX4_has 12 = .ok (.invokevirtual 71, 3) := by decide +kernel
theorem dX4_has_15 : decode cX4_has 15 = .ok (.ifCond .ne 6, 3) := by decide +kernel
theorem dX4_has_18 : decode cX4_has 18 = .ok (.bipush (-101), 2) := by decide +kernel
theorem dX4_has_20 : decode cX4_has 20 = .ok (.ireturn, 1) := by decide +kernel
theorem dX4_has_21 : decode cX4_has 21 = .ok (.aload_n 0, 1) := by decide +kernel
theorem dX4_has_22 : decode cX4_has 22 = .ok (.getfield 10, 3) := by decide +kernel
theorem dX4_has_25 : decode cX4_has 25 = .ok (.iload_n 2, 1) := by decide +kernel
theorem dX4_has_26 : decode cX4_has 26 = .ok (.aload_n 0, 1) := by decide +kernel
theorem dX4_has_27 : decode cX4_has 27 = .ok (.getfield 46, 3) := by decide +kernel
theorem dX4_has_30 : decode cX4_has 30 = .ok (.iconst 0, 1) := by decide +kernel
theorem dX4_has_31 : decode cX4_has 31 = .ok (.invokevirtual 89, 3) := by decide +kernel
theorem dX4_has_34 : decode cX4_has 34 = .ok (.aload_n 0, 1) := by decide +kernel
theorem dX4_has_35 : decode cX4_has 35 = .ok (.getfield 18, 3) := by decide +kernel
theorem dX4_has_38 : decode cX4_has 38 = .ok (.iload_n 1, 1) := by decide +kernel
theorem dX4_has_39 : decode cX4_has 39 = .ok (.aaload, 1) := by decide +kernel
theorem dX4_has_40 : decode cX4_has 40 = .ok (.aload_n 0, 1) := by decide +kernel
theorem dX4_has_41 : decode cX4_has 41 = .ok (.getfield 46, 3) := by decide +kernel
theorem dX4_has_44 : decode cX4_has 44 = .ok (.iconst 0, 1) := by decide +kernel
theorem dX4_has_45 : decode cX4_has 45 = .ok (.invokevirtual 118, 3) := by decide +kernel
theorem dX4_has_48 : decode cX4_has 48 = .ok (.ifCond .eq 7, 3) := by decide +kernel
theorem dX4_has_51 : decode cX4_has 51 = .ok (.iconst 1, 1) := by decide +kernel
theorem dX4_has_52 : decode cX4_has 52 = .ok (.goto 4, 3) := by decide +kernel
theorem dX4_has_55 : decode cX4_has 55 = .ok (.iconst 0, 1) := by decide +kernel
theorem dX4_has_56 : decode cX4_has 56 = .ok (.ireturn, 1) := by decide +kernel
set_option maxRecDepth 20000 in
theorem ggX4_within_X4_isSlot : GoodIn wsX4_within wsX4_isSlot := goodIn_r _ [5] (by decide +kernel) (by decide +kernel)
set_option maxRecDepth 20000 in
theorem gX4_within_X4_isSlot : GoodIn wsX4_within (va_wsS RX4 86 yX4_isSlot wsX4_isSlot) := goodIn_app (goodIn_of _ (by decide +kernel)) ggX4_within_X4_isSlot
set_option maxRecDepth 20000 in
theorem ggX4_within_X3_liesIn : GoodIn wsX4_within wsX3_liesIn := goodIn_r _ [9, 10, 11, 12, 13, 14, 7, 15, 16, 17, 18, 19, 20, 21, 22, 23, 24, 34, 35, 36, 37, 38, 39, 40] (by decide +kernel) (by decide +kernel)
set_option maxRecDepth 20000 in
theorem gX4_within_X3_liesIn_n122 : GoodIn wsX4_within (wsX3_liesIn) := ggX4_within_X3_liesIn
theorem dX4_within_0 : decode cX4_within 0 = .ok (.iload_n 1, 1) := by decide +kernel
theorem dX4_within_1 : decode cX4_within 1 = .ok (.invokestatic 86, 3) := by decide +kernel
theorem dX4_within_4 : decode cX4_within 4 = .ok (.ifCond .eq 10, 3) := by decide +kernel
theorem dX4_within_7 : decode cX4_within 7 = .ok (.iload_n 2, 1) := by decide +kernel
theorem dX4_within_8 : decode cX4_within 8 = .ok (.invokestatic 86, 3) := by decide +kernel
theorem dX4_within_11 : decode cX4_within 11 = .ok (.ifCond .ne 6, 3) := by decide +kernel
theorem dX4_within_14 : decode cX4_within 14 = .ok (.bipush (-101), 2) := by decide +kernel
theorem dX4_within_16 : decode cX4_within 16 = .ok (.ireturn, 1) := by decide +kernel
theorem dX4_within_17 : decode cX4_within 17 = .ok (.aload_n 0, 1) := by decide +kernel
theorem dX4_within_18 : decode cX4_within 18 = .ok (.getfield 18, 3) := by decide +kernel
theorem dX4_within_21 : decode cX4_within 21 = .ok (.iload_n 1, 1) := by decide +kernel
theorem dX4_within_22 : decode cX4_within 22 = .ok (.aaload, 1) := by decide +kernel
theorem dX4_within_23 : decode cX4_within 23 = .ok (.aload_n 0, 1) := by decide +kernel
theorem dX4_within_24 : decode cX4_within 24 = .ok (.getfield 18, 3) := by decide +kernel
theorem dX4_within_27 : decode cX4_within 27 = .ok (.iload_n 2, 1) := by decide +kernel
theorem dX4_within_28 : decode cX4_within 28 = .ok (.aaload, 1) := by decide +kernel
theorem dX4_within_29 : decode cX4_within 29 = .ok (.invokevirtual 122, 3) := by decide +kernel
theorem dX4_within_32 : decode cX4_within 32 = .ok (.ifCond .eq 7, 3) := by decide +kernel
theorem dX4_within_35 : decode cX4_within 35 = .ok (.iconst 1, 1) := by decide +kernel
theorem dX4_within_36 : decode cX4_within 36 = .ok (.goto 4, 3) := by decide +kernel
theorem dX4_within_39 : decode cX4_within 39 = .ok (.iconst 0, 1) := by decide +kernel
theorem dX4_within_40 : decode cX4_within 40 = .ok (.ireturn, 1) := by decide +kernel
set_option maxRecDepth 20000 in
theorem ggX4_apart_X4_isSlot : GoodIn wsX4_apart wsX4_isSlot := goodIn_r _ [6] (by decide +kernel) (by decide +kernel)
set_option maxRecDepth 20000 in
theorem gX4_apart_X4_isSlot : GoodIn wsX4_apart (va_wsS RX4 86 yX4_isSlot wsX4_isSlot) := goodIn_app (goodIn_of _ (by decide +kernel)) ggX4_apart_X4_isSlot
set_option maxRecDepth 20000 in
theorem ggX4_apart_X3_distance : GoodIn wsX4_apart wsX3_distance := goodIn_r _ [10, 11, 12, 13, 8, 14, 15, 16, 17, 18, 19, 20, 21, 22, 23, 24, 25, 26, 27, 28, 29, 30, 31, 32, 33, 34, 35, 36, 37, 38, 39, 40, 41, 42, 43, 44, 45, 46, 47, 48, 49, 50, 51, 52, 53, 54, 55, 56, 57, 58, 59, 60, 61, 62, 72, 73, 74, 75, 76, 77, 78] (by decide +kernel) (by decide +kernel)
set_option maxRecDepth 20000 in
theorem gX4_apart_X3_distance_n126 : GoodIn wsX4_apart (wsX3_distance) := ggX4_apart_X3_distance
theorem dX4_apart_0 : decode cX4_apart 0 = .ok (.iload_n 1, 1) := by decide +kernel
theorem dX4_apart_1 : decode cX4_apart 1 = .ok (.invokestatic 86, 3) := by decide +kernel
theorem dX4_apart_4 : decode cX4_apart 4 = .ok (.ifCond .eq 10, 3) := by decide +kernel
theorem dX4_apart_7 : decode cX4_apart 7 = .ok (.iload_n 2, 1) := by decide +kernel
theorem dX4_apart_8 : decode cX4_apart 8 = .ok (.invokestatic 86, 3) := by decide +kernel
theorem dX4_apart_11 : decode cX4_apart 11 = .ok (.ifCond .ne 6, 3) := by decide +kernel
theorem dX4_apart_14 : decode cX4_apart 14 = .ok (.bipush (-101), 2) := by decide +kernel
theorem dX4_apart_16 : decode cX4_apart 16 = .ok (.ireturn, 1) := by decide +kernel
theorem dX4_apart_17 : decode cX4_apart 17 = .ok (.aload_n 0, 1) := by decide +kernel
theorem dX4_apart_18 : decode cX4_apart 18 = .ok (.getfield 39, 3) := by decide +kernel
theorem dX4_apart_21 : decode cX4_apart 21 = .ok (.aload_n 0, 1) := by decide +kernel
theorem dX4_apart_22 : decode cX4_apart 22 = .ok (.getfield 18, 3) := by decide +kernel
theorem dX4_apart_25 : decode cX4_apart 25 = .ok (.iload_n 1, 1) := by decide +kernel
theorem dX4_apart_26 : decode cX4_apart 26 = .ok (.aaload, 1) := by decide +kernel
theorem dX4_apart_27 : decode cX4_apart 27 = .ok (.aload_n 0, 1) := by decide +kernel
theorem dX4_apart_28 : decode cX4_apart 28 = .ok (.getfield 18, 3) := by decide +kernel
theorem dX4_apart_31 : decode cX4_apart 31 = .ok (.iload_n 2, 1) := by decide +kernel
theorem dX4_apart_32 : decode cX4_apart 32 = .ok (.aaload, 1) := by decide +kernel
theorem dX4_apart_33 : decode cX4_apart 33 = .ok (.invokevirtual 126, 3) := by decide +kernel
theorem dX4_apart_36 : decode cX4_apart 36 = .ok (.ireturn, 1) := by decide +kernel
set_option maxRecDepth 20000 in
theorem ggX4_number_X4_isSlot : GoodIn wsX4_number wsX4_isSlot := goodIn_r _ [5] (by decide +kernel) (by decide +kernel)
set_option maxRecDepth 20000 in
theorem gX4_number_X4_isSlot : GoodIn wsX4_number (va_wsS RX4 86 yX4_isSlot wsX4_isSlot) := goodIn_app (goodIn_of _ (by decide +kernel)) ggX4_number_X4_isSlot
set_option maxRecDepth 20000 in
theorem ggX4_number_X3_ordinal : GoodIn wsX4_number wsX3_ordinal := goodIn_r _ [9, 10, 11, 12, 13, 14, 7, 15, 16, 17, 18, 19, 20, 21, 22, 23, 24, 25, 26, 27, 28, 29, 30, 31, 32, 33, 34, 35, 36, 37, 38, 39, 40, 50, 51, 52, 53, 54, 55, 56] (by decide +kernel) (by decide +kernel)
set_option maxRecDepth 20000 in
theorem gX4_number_X3_ordinal_n130 : GoodIn wsX4_number (wsX3_ordinal) := ggX4_number_X3_ordinal
theorem dX4_number_0 : decode cX4_number 0 = .ok (.iload_n 1, 1) := by decide +kernel
theorem dX4_number_1 : decode cX4_number 1 = .ok (.invokestatic 86, 3) := by decide +kernel
theorem dX4_number_4 : decode cX4_number 4 = .ok (.ifCond .eq 15, 3) := by decide +kernel
theorem dX4_number_7 : decode cX4_number 7 = .ok (.aload_n 0, 1) := by decide +kernel
theorem dX4_number_8 : decode cX4_number 8 = .ok (.getfield 18, 3) := by decide +kernel
theorem dX4_number_11 : decode cX4_number 11 = .ok (.iload_n 1, 1) := by decide +kernel
theorem dX4_number_12 : decode cX4_number 12 = .ok (.aaload, 1) := by decide +kernel
theorem dX4_number_13 : decode cX4_number 13 = .ok (.invokevirtual 130, 3) := by decide +kernel
theorem dX4_number_16 : decode cX4_number 16 = .ok (.goto 5, 3) := by decide +kernel
theorem dX4_number_19 : decode cX4_number 19 = .ok (.bipush (-101), 2) := by decide +kernel
theorem dX4_number_21 : decode cX4_number 21 = .ok (.ireturn, 1) := by decide +kernel
set_option maxRecDepth 20000 in
theorem ggX4_numbered_X4_isSlot : GoodIn wsX4_numbered wsX4_isSlot := goodIn_r _ [6] (by decide +kernel) (by decide +kernel)
set_option maxRecDepth 20000 in
theorem gX4_numbered_X4_isSlot : GoodIn wsX4_numbered (va_wsS RX4 86 yX4_isSlot wsX4_isSlot) := goodIn_app (goodIn_of _ (by decide +kernel)) ggX4_numbered_X4_isSlot
set_option maxRecDepth 20000 in
theorem ggX4_numbered_X4_isDim : GoodIn wsX4_numbered wsX4_isDim := goodIn_r _ [10, 1, 50, 51, 52, 53, 54, 55, 56, 57, 58, 59, 60, 61] (by decide +kernel) (by decide +kernel)
set_option maxRecDepth 20000 in
theorem gX4_numbered_X4_isDim : GoodIn wsX4_numbered (wsV RX4 133 RX4 yX4_isDim wsX4_isDim) := goodIn_app (goodIn_of _ (by decide +kernel)) ggX4_numbered_X4_isDim
set_option maxRecDepth 20000 in
theorem ggX4_numbered_X0_spaces : GoodIn wsX4_numbered wsX0_spaces := goodIn_r _ [14, 15, 16, 17, 12, 18, 19, 59, 60, 61] (by decide +kernel) (by decide +kernel)
set_option maxRecDepth 20000 in
theorem gX4_numbered_X0_spaces_n139 : GoodIn wsX4_numbered (wsX0_spaces) := ggX4_numbered_X0_spaces
set_option maxRecDepth 20000 in
theorem ggX4_numbered_X3_becomeOrdinal : GoodIn wsX4_numbered wsX3_becomeOrdinal := goodIn_r _ [23, 24, 25, 26, 27, 28, 29, 30, 31, 32, 33, 34, 35, 21, 36, 16, 12, 17, 18, 19, 37, 38, 39, 40, 41, 42, 43, 44, 45, 46, 47, 48, 49, 62, 63, 64, 65, 59, 60, 61] (by decide +kernel) (by decide +kernel)
set_option maxRecDepth 20000 in
theorem gX4_numbered_X3_becomeOrdinal_n142 : GoodIn wsX4_numbered (wsX3_becomeOrdinal) := ggX4_numbered_X3_becomeOrdinal
theorem dX4_numbered_0 : decode cX4_numbered 0 = .ok (.iload_n 1, 1) := by decide +kernel
theorem dX4_numbered_1 : decode cX4_numbered 1 = .ok (.invokestatic 86, 3) := by decide +kernel
theorem dX4_numbered_4 : decode cX4_numbered 4 = .ok (.ifCond .ne 6, 3) := by decide +kernel
theorem dX4_numbered_7 : decode cX4_numbered 7 = .ok (.bipush (-101), 2) := by decide +kernel
theorem dX4_numbered_9 : decode cX4_numbered 9 = .ok (.ireturn, 1) := by decide +kernel
theorem dX4_numbered_10 : decode cX4_numbered 10 = .ok (.aload_n 0, 1) := by decide +kernel
theorem dX4_numbered_11 : decode cX4_numbered 11 = .ok (.iload_n 2, 1) := by decide +kernel
theorem dX4_numbered_12 : decode cX4_numbered 12 = .ok (.invokevirtual 133, 3) := by decide +kernel
theorem dX4_numbered_15 : decode cX4_numbered 15 = .ok (.ifCond .eq 26, 3) := by decide +kernel
theorem dX4_numbered_18 : decode cX4_numbered 18 = .ok (.iload_n 3, 1) := by decide +kernel
theorem dX4_numbered_19 : decode cX4_numbered 19 = .ok (.ifCond .lt 22, 3) := by decide +kernel
theorem dX4_numbered_22 : decode cX4_numbered 22 = .ok (.iload_n 3, 1) := by decide +kernel
theorem dX4_numbered_23 : decode cX4_numbered 23 = .ok (.aload_n 0, 1) := by decide +kernel
theorem dX4_numbered_24 : decode cX4_numbered 24 = .ok (.getfield 10, 3) := by decide +kernel
theorem dX4_numbered_27 : decode cX4_numbered 27 = .ok (.aload_n 0, 1) := by decide +kernel
theorem dX4_numbered_28 : decode cX4_numbered 28 = .ok (.getfield 10, 3) := by decide +kernel
theorem dX4_numbered_31 : decode cX4_numbered 31 = .ok (.getfield 136, 3) := by decide +kernel
theorem dX4_numbered_34 : decode cX4_numbered 34 = .ok (.iload_n 2, 1) := by decide +kernel
theorem dX4_numbered_35 : decode cX4_numbered 35 = .ok (.invokevirtual 139, 3) := by decide +kernel
theorem dX4_numbered_38 : decode cX4_numbered 38 = .ok (.if_icmp .lt 6, 3) := by decide +kernel
theorem dX4_numbered_41 : decode cX4_numbered 41 = .ok (.bipush (-102), 2) := by decide +kernel
theorem dX4_numbered_43 : decode cX4_numbered 43 = .ok (.ireturn, 1) := by decide +kernel
theorem dX4_numbered_44 : decode cX4_numbered 44 = .ok (.aload_n 0, 1) := by decide +kernel
theorem dX4_numbered_45 : decode cX4_numbered 45 = .ok (.getfield 18, 3) := by decide +kernel
theorem dX4_numbered_48 : decode cX4_numbered 48 = .ok (.iload_n 1, 1) := by decide +kernel
theorem dX4_numbered_49 : decode cX4_numbered 49 = .ok (.aaload, 1) := by decide +kernel
theorem dX4_numbered_50 : decode cX4_numbered 50 = .ok (.iload_n 2, 1) := by decide +kernel
theorem dX4_numbered_51 : decode cX4_numbered 51 = .ok (.iload_n 3, 1) := by decide +kernel
theorem dX4_numbered_52 : decode cX4_numbered 52 = .ok (.invokevirtual 142, 3) := by decide +kernel
theorem dX4_numbered_55 : decode cX4_numbered 55 = .ok (.iload_n 2, 1) := by decide +kernel
theorem dX4_numbered_56 : decode cX4_numbered 56 = .ok (.ireturn, 1) := by decide +kernel
set_option maxRecDepth 20000 in
theorem ggX4_many_X0_spaces : GoodIn wsX4_many wsX0_spaces := goodIn_r _ [5, 6, 7, 8, 3, 9, 10, 20, 21, 22] (by decide +kernel) (by decide +kernel)
set_option maxRecDepth 20000 in
theorem gX4_many_X0_spaces_n139 : GoodIn wsX4_many (wsX0_spaces) := ggX4_many_X0_spaces
theorem dX4_many_0 : decode cX4_many 0 = .ok (.aload_n 0, 1) := by decide +kernel
theorem dX4_many_1 : decode cX4_many 1 = .ok (.getfield 10, 3) := by decide +kernel
theorem dX4_many_4 : decode cX4_many 4 = .ok (.aload_n 0, 1) := by decide +kernel
theorem dX4_many_5 : decode cX4_many 5 = .ok (.getfield 10, 3) := by decide +kernel
theorem dX4_many_8 : decode cX4_many 8 = .ok (.getfield 136, 3) := by decide +kernel
theorem dX4_many_11 : decode cX4_many 11 = .ok (.iload_n 1, 1) := by decide +kernel
theorem dX4_many_12 : decode cX4_many 12 = .ok (.invokevirtual 139, 3) := by decide +kernel
theorem dX4_many_15 : decode cX4_many 15 = .ok (.ireturn, 1) := by decide +kernel
set_option maxRecDepth 20000 in
theorem ggX4_over_X4_isSlot : GoodIn wsX4_over wsX4_isSlot := goodIn_r _ [6] (by decide +kernel) (by decide +kernel)
set_option maxRecDepth 20000 in
theorem gX4_over_X4_isSlot : GoodIn wsX4_over (va_wsS RX4 86 yX4_isSlot wsX4_isSlot) := goodIn_app (goodIn_of _ (by decide +kernel)) ggX4_over_X4_isSlot
set_option maxRecDepth 20000 in
theorem ggX4_over_X4_isDim : GoodIn wsX4_over wsX4_isDim := goodIn_r _ [10, 2, 32, 33, 34, 35, 36, 37, 38, 39, 40, 41, 42, 43] (by decide +kernel) (by decide +kernel)
set_option maxRecDepth 20000 in
theorem gX4_over_X4_isDim : GoodIn wsX4_over (wsV RX4 133 RX4 yX4_isDim wsX4_isDim) := goodIn_app (goodIn_of _ (by decide +kernel)) ggX4_over_X4_isDim
set_option maxRecDepth 20000 in
theorem ggX4_over_X3_rank : GoodIn wsX4_over wsX3_rank := goodIn_r _ [14, 15, 16, 17, 18, 19, 20, 21, 22, 44, 45, 46, 47] (by decide +kernel) (by decide +kernel)
set_option maxRecDepth 20000 in
theorem gX4_over_X3_rank_n97 : GoodIn wsX4_over (wsX3_rank) := ggX4_over_X3_rank
set_option maxRecDepth 20000 in
theorem ggX4_over_X0_spaces : GoodIn wsX4_over wsX0_spaces := goodIn_r _ [26, 27, 28, 29, 24, 30, 31, 41, 42, 43] (by decide +kernel) (by decide +kernel)
set_option maxRecDepth 20000 in
theorem gX4_over_X0_spaces_n139 : GoodIn wsX4_over (wsX0_spaces) := ggX4_over_X0_spaces
theorem dX4_over_0 : decode cX4_over 0 = .ok (.iload_n 1, 1) := by decide +kernel
theorem dX4_over_1 : decode cX4_over 1 = .ok (.invokestatic 86, 3) := by decide +kernel
theorem dX4_over_4 : decode cX4_over 4 = .ok (.ifCond .ne 6, 3) := by decide +kernel
theorem dX4_over_7 : decode cX4_over 7 = .ok (.bipush (-101), 2) := by decide +kernel
theorem dX4_over_9 : decode cX4_over 9 = .ok (.ireturn, 1) := by decide +kernel
theorem dX4_over_10 : decode cX4_over 10 = .ok (.aload_n 0, 1) := by decide +kernel
theorem dX4_over_11 : decode cX4_over 11 = .ok (.iload_n 2, 1) := by decide +kernel
theorem dX4_over_12 : decode cX4_over 12 = .ok (.invokevirtual 133, 3) := by decide +kernel
theorem dX4_over_15 : decode cX4_over 15 = .ok (.ifCond .ne 5, 3) := by decide +kernel
theorem dX4_over_18 : decode cX4_over 18 = .ok (.iconst 0, 1) := by decide +kernel
theorem dX4_over_19 : decode cX4_over 19 = .ok (.ireturn, 1) := by decide +kernel
theorem dX4_over_20 : decode cX4_over 20 = .ok (.aload_n 0, 1) := by decide +kernel
theorem dX4_over_21 : decode cX4_over 21 = .ok (.getfield 18, 3) := by decide +kernel
theorem dX4_over_24 : decode cX4_over 24 = .ok (.iload_n 1, 1) := by decide +kernel
theorem dX4_over_25 : decode cX4_over 25 = .ok (.aaload, 1) := by decide +kernel
theorem dX4_over_26 : decode cX4_over 26 = .ok (.invokevirtual 97, 3) := by decide +kernel
theorem dX4_over_29 : decode cX4_over 29 = .ok (.istore_n 3, 1) := by decide +kernel
theorem dX4_over_30 : decode cX4_over 30 = .ok (.aload_n 0, 1) := by decide +kernel
theorem dX4_over_31 : decode cX4_over 31 = .ok (.getfield 10, 3) := by decide +kernel
theorem dX4_over_34 : decode cX4_over 34 = .ok (.aload_n 0, 1) := by decide +kernel
theorem dX4_over_35 : decode cX4_over 35 = .ok (.getfield 10, 3) := by decide +kernel
theorem dX4_over_38 : decode cX4_over 38 = .ok (.getfield 136, 3) := by decide +kernel
theorem dX4_over_41 : decode cX4_over 41 = .ok (.iload_n 3, 1) := by decide +kernel
theorem dX4_over_42 : decode cX4_over 42 = .ok (.isub, 1) := by decide +kernel
theorem dX4_over_43 : decode cX4_over 43 = .ok (.iload_n 2, 1) := by decide +kernel
theorem dX4_over_44 : decode cX4_over 44 = .ok (.iload_n 3, 1) := by decide +kernel
theorem dX4_over_45 : decode cX4_over 45 = .ok (.isub, 1) := by decide +kernel
theorem dX4_over_46 : decode cX4_over 46 = .ok (.invokevirtual 139, 3) := by decide +kernel
theorem dX4_over_49 : decode cX4_over 49 = .ok (.ireturn, 1) := by decide +kernel
set_option maxRecDepth 20000 in
theorem ggX4_meeting_X4_isSlot : GoodIn wsX4_meeting wsX4_isSlot := goodIn_r _ [6] (by decide +kernel) (by decide +kernel)
set_option maxRecDepth 20000 in
theorem gX4_meeting_X4_isSlot : GoodIn wsX4_meeting (va_wsS RX4 86 yX4_isSlot wsX4_isSlot) := goodIn_app (goodIn_of _ (by decide +kernel)) ggX4_meeting_X4_isSlot
set_option maxRecDepth 20000 in
theorem ggX4_meeting_X4_isDim : GoodIn wsX4_meeting wsX4_isDim := goodIn_r _ [10, 2, 32, 33, 34, 35, 36, 37, 38, 39, 40, 41, 42, 43] (by decide +kernel) (by decide +kernel)
set_option maxRecDepth 20000 in
theorem gX4_meeting_X4_isDim : GoodIn wsX4_meeting (wsV RX4 133 RX4 yX4_isDim wsX4_isDim) := goodIn_app (goodIn_of _ (by decide +kernel)) ggX4_meeting_X4_isDim
set_option maxRecDepth 20000 in
theorem ggX4_meeting_X3_rank : GoodIn wsX4_meeting wsX3_rank := goodIn_r _ [14, 15, 16, 17, 18, 19, 20, 21, 22, 44, 45, 46, 47] (by decide +kernel) (by decide +kernel)
set_option maxRecDepth 20000 in
theorem gX4_meeting_X3_rank_n97 : GoodIn wsX4_meeting (wsX3_rank) := ggX4_meeting_X3_rank
set_option maxRecDepth 20000 in
theorem ggX4_meeting_X0_spaces : GoodIn wsX4_meeting wsX0_spaces := goodIn_r _ [26, 27, 28, 29, 24, 30, 31, 41, 42, 43] (by decide +kernel) (by decide +kernel)
set_option maxRecDepth 20000 in
theorem gX4_meeting_X0_spaces_n139 : GoodIn wsX4_meeting (wsX0_spaces) := ggX4_meeting_X0_spaces
set_option maxRecDepth 20000 in
theorem ggX4_meeting_X0_power : GoodIn wsX4_meeting wsX0_power := goodIn_r _ [30, 31, 41, 42, 43] (by decide +kernel) (by decide +kernel)
set_option maxRecDepth 20000 in
theorem gX4_meeting_X0_power_n145 : GoodIn wsX4_meeting (wsX0_power) := ggX4_meeting_X0_power
theorem dX4_meeting_0 : decode cX4_meeting 0 = .ok (.iload_n 1, 1) := by decide +kernel
theorem dX4_meeting_1 : decode cX4_meeting 1 = .ok (.invokestatic 86, 3) := by decide +kernel
theorem dX4_meeting_4 : decode cX4_meeting 4 = .ok (.ifCond .ne 6, 3) := by decide +kernel
theorem dX4_meeting_7 : decode cX4_meeting 7 = .ok (.bipush (-101), 2) := by decide +kernel
theorem dX4_meeting_9 : decode cX4_meeting 9 = .ok (.ireturn, 1) := by decide +kernel
theorem dX4_meeting_10 : decode cX4_meeting 10 = .ok (.aload_n 0, 1) := by decide +kernel
theorem dX4_meeting_11 : decode cX4_meeting 11 = .ok (.iload_n 2, 1) := by decide +kernel
theorem dX4_meeting_12 : decode cX4_meeting 12 = .ok (.invokevirtual 133, 3) := by decide +kernel
theorem dX4_meeting_15 : decode cX4_meeting 15 = .ok (.ifCond .eq 11, 3) := by decide +kernel
theorem dX4_meeting_18 : decode cX4_meeting 18 = .ok (.aload_n 0, 1) := by decide +kernel
theorem dX4_meeting_19 : decode cX4_meeting 19 = .ok (.iload_n 3, 1) := by decide +kernel
theorem dX4_meeting_20 : decode cX4_meeting 20 = .ok (.invokevirtual 133, 3) := by decide +kernel
theorem dX4_meeting_23 : decode cX4_meeting 23 = .ok (.ifCond .ne 5, 3) := by decide +kernel
theorem dX4_meeting_26 : decode cX4_meeting 26 = .ok (.iconst 0, 1) := by decide +kernel
theorem dX4_meeting_27 : decode cX4_meeting 27 = .ok (.ireturn, 1) := by decide +kernel
theorem dX4_meeting_28 : decode cX4_meeting 28 = .ok (.aload_n 0, 1) := by decide +kernel
theorem dX4_meeting_29 : decode cX4_meeting 29 = .ok (.getfield 18, 3) := by decide +kernel
theorem dX4_meeting_32 : decode cX4_meeting 32 = .ok (.iload_n 1, 1) := by decide +kernel
theorem dX4_meeting_33 : decode cX4_meeting 33 = .ok (.aaload, 1) := by decide +kernel
theorem dX4_meeting_34 : decode cX4_meeting 34 = .ok (.invokevirtual 97, 3) := by decide +kernel
theorem dX4_meeting_37 : decode cX4_meeting 37 = .ok (.istore 4, 2) := by decide +kernel
theorem dX4_meeting_39 : decode cX4_meeting 39 = .ok (.aload_n 0, 1) := by decide +kernel
theorem dX4_meeting_40 : decode cX4_meeting 40 = .ok (.getfield 10, 3) := by decide +kernel
theorem dX4_meeting_43 : decode cX4_meeting 43 = .ok (.iload 4, 2) := by decide +kernel
theorem dX4_meeting_45 : decode cX4_meeting 45 = .ok (.iload_n 3, 1) := by decide +kernel
theorem dX4_meeting_46 : decode cX4_meeting 46 = .ok (.invokevirtual 139, 3) := by decide +kernel
theorem dX4_meeting_49 : decode cX4_meeting 49 = .ok (.aload_n 0, 1) := by decide +kernel
theorem dX4_meeting_50 : decode cX4_meeting 50 = .ok (.getfield 10, 3) := by decide +kernel
theorem dX4_meeting_53 : decode cX4_meeting 53 = .ok (.aload_n 0, 1) := by decide +kernel
theorem dX4_meeting_54 : decode cX4_meeting 54 = .ok (.getfield 10, 3) := by decide +kernel
theorem dX4_meeting_57 : decode cX4_meeting 57 = .ok (.getfield 136, 3) := by decide +kernel
theorem dX4_meeting_60 : decode cX4_meeting 60 = .ok (.iload 4, 2) := by decide +kernel
theorem dX4_meeting_62 : decode cX4_meeting 62 = .ok (.isub, 1) := by decide +kernel
theorem dX4_meeting_63 : decode cX4_meeting 63 = .ok (.iload_n 2, 1) := by decide +kernel
theorem dX4_meeting_64 : decode cX4_meeting 64 = .ok (.iload_n 3, 1) := by decide +kernel
theorem dX4_meeting_65 : decode cX4_meeting 65 = .ok (.isub, 1) := by decide +kernel
theorem dX4_meeting_66 : decode cX4_meeting 66 = .ok (.invokevirtual 139, 3) := by decide +kernel
theorem dX4_meeting_69 : decode cX4_meeting 69 = .ok (.imul, 1) := by decide +kernel
theorem dX4_meeting_70 : decode cX4_meeting 70 = .ok (.istore 5, 2) := by decide +kernel
theorem dX4_meeting_72 : decode cX4_meeting 72 = .ok (.iload 5, 2) := by decide +kernel
theorem dX4_meeting_74 : decode cX4_meeting 74 = .ok (.ifCond .ne 7, 3) := by decide +kernel
theorem dX4_meeting_77 : decode cX4_meeting 77 = .ok (.iconst 0, 1) := by decide +kernel
theorem dX4_meeting_78 : decode cX4_meeting 78 = .ok (.goto 21, 3) := by decide +kernel
theorem dX4_meeting_81 : decode cX4_meeting 81 = .ok (.iload 5, 2) := by decide +kernel
theorem dX4_meeting_83 : decode cX4_meeting 83 = .ok (.aload_n 0, 1) := by decide +kernel
theorem dX4_meeting_84 : decode cX4_meeting 84 = .ok (.getfield 10, 3) := by decide +kernel
theorem dX4_meeting_87 : decode cX4_meeting 87 = .ok (.iload 4, 2) := by decide +kernel
theorem dX4_meeting_89 : decode cX4_meeting 89 = .ok (.iload_n 3, 1) := by decide +kernel
theorem dX4_meeting_90 : decode cX4_meeting 90 = .ok (.isub, 1) := by decide +kernel
theorem dX4_meeting_91 : decode cX4_meeting 91 = .ok (.iload_n 2, 1) := by decide +kernel
theorem dX4_meeting_92 : decode cX4_meeting 92 = .ok (.iload_n 3, 1) := by decide +kernel
theorem dX4_meeting_93 : decode cX4_meeting 93 = .ok (.isub, 1) := by decide +kernel
theorem dX4_meeting_94 : decode cX4_meeting 94 = .ok (.imul, 1) := by decide +kernel
theorem dX4_meeting_95 : decode cX4_meeting 95 = .ok (.invokevirtual 145, 3) := by decide +kernel
theorem dX4_meeting_98 : decode cX4_meeting 98 = .ok (.imul, 1) := by decide +kernel
theorem dX4_meeting_99 : decode cX4_meeting 99 = .ok (.ireturn, 1) := by decide +kernel
set_option maxRecDepth 20000 in
theorem ggX4_put_X4_isSlot : GoodIn wsX4_put wsX4_isSlot := goodIn_r _ [6] (by decide +kernel) (by decide +kernel)
set_option maxRecDepth 20000 in
theorem gX4_put_X4_isSlot : GoodIn wsX4_put (va_wsS RX4 86 yX4_isSlot wsX4_isSlot) := goodIn_app (goodIn_of _ (by decide +kernel)) ggX4_put_X4_isSlot
set_option maxRecDepth 20000 in
theorem ggX4_put_X1_accept : GoodIn wsX4_put wsX1_accept := goodIn_r _ [10, 11, 12, 13, 14, 15, 16, 17, 18, 19, 20, 21, 22, 32, 33, 34, 35, 36, 37, 38] (by decide +kernel) (by decide +kernel)
set_option maxRecDepth 20000 in
theorem gX4_put_X1_accept_n148 : GoodIn wsX4_put (wsX1_accept) := ggX4_put_X1_accept
theorem dX4_put_0 : decode cX4_put 0 = .ok (.iload_n 1, 1) := by decide +kernel
theorem dX4_put_1 : decode cX4_put 1 = .ok (.invokestatic 86, 3) := by decide +kernel
theorem dX4_put_4 : decode cX4_put 4 = .ok (.ifCond .ne 6, 3) := by decide +kernel
theorem dX4_put_7 : decode cX4_put 7 = .ok (.bipush (-101), 2) := by decide +kernel
theorem dX4_put_9 : decode cX4_put 9 = .ok (.ireturn, 1) := by decide +kernel
theorem dX4_put_10 : decode cX4_put 10 = .ok (.aload_n 0, 1) := by decide +kernel
theorem dX4_put_11 : decode cX4_put 11 = .ok (.getfield 28, 3) := by decide +kernel
theorem dX4_put_14 : decode cX4_put 14 = .ok (.getfield 61, 3) := by decide +kernel
theorem dX4_put_17 : decode cX4_put 17 = .ok (.bipush 40, 2) := by decide +kernel
theorem dX4_put_19 : decode cX4_put 19 = .ok (.if_icmp .lt 6, 3) := by decide +kernel
theorem dX4_put_22 : decode cX4_put 22 = .ok (.bipush (-104), 2) := by decide +kernel
theorem dX4_put_24 : decode cX4_put 24 = .ok (.ireturn, 1) := by decide +kernel
theorem dX4_put_25 : decode cX4_put 25 = .ok (.aload_n 0, 1) := by decide +kernel
theorem dX4_put_26 : decode cX4_put 26 = .ok (.getfield 28, 3) := by decide +kernel
theorem dX4_put_29 : decode cX4_put 29 = .ok (.aload_n 0, 1) := by decide +kernel
theorem dX4_put_30 : decode cX4_put 30 = .ok (.getfield 18, 3) := by decide +kernel
theorem dX4_put_33 : decode cX4_put 33 = .ok (.iload_n 1, 1) := by decide +kernel
theorem dX4_put_34 : decode cX4_put 34 = .ok (.aaload, 1) := by decide +kernel
theorem dX4_put_35 : decode cX4_put 35 = .ok (.invokevirtual 148, 3) := by decide +kernel
theorem dX4_put_38 : decode cX4_put 38 = .ok (.aload_n 0, 1) := by decide +kernel
theorem dX4_put_39 : decode cX4_put 39 = .ok (.getfield 28, 3) := by decide +kernel
theorem dX4_put_42 : decode cX4_put 42 = .ok (.getfield 61, 3) := by decide +kernel
theorem dX4_put_45 : decode cX4_put 45 = .ok (.ireturn, 1) := by decide +kernel
theorem dX4_empty_0 : decode cX4_empty 0 = .ok (.aload_n 0, 1) := by decide +kernel
theorem dX4_empty_1 : decode cX4_empty 1 = .ok (.getfield 28, 3) := by decide +kernel
theorem dX4_empty_4 : decode cX4_empty 4 = .ok (.getfield 61, 3) := by decide +kernel
theorem dX4_empty_7 : decode cX4_empty 7 = .ok (.istore_n 1, 1) := by decide +kernel
theorem dX4_empty_8 : decode cX4_empty 8 = .ok (.aload_n 0, 1) := by decide +kernel
theorem dX4_empty_9 : decode cX4_empty 9 = .ok (.getfield 28, 3) := by decide +kernel
theorem dX4_empty_12 : decode cX4_empty 12 = .ok (.iconst 0, 1) := by decide +kernel
theorem dX4_empty_13 : decode cX4_empty 13 = .ok (.putfield 61, 3) := by decide +kernel
theorem dX4_empty_16 : decode cX4_empty 16 = .ok (.iload_n 1, 1) := by decide +kernel
theorem dX4_empty_17 : decode cX4_empty 17 = .ok (.ireturn, 1) := by decide +kernel
set_option maxRecDepth 20000 in
theorem ggX4_take_X4_isSlot : GoodIn wsX4_take wsX4_isSlot := goodIn_r _ [5] (by decide +kernel) (by decide +kernel)
set_option maxRecDepth 20000 in
theorem gX4_take_X4_isSlot : GoodIn wsX4_take (va_wsS RX4 86 yX4_isSlot wsX4_isSlot) := goodIn_app (goodIn_of _ (by decide +kernel)) ggX4_take_X4_isSlot
set_option maxRecDepth 20000 in
theorem ggX4_take_X4_settle : GoodIn wsX4_take wsX4_settle := goodIn_r _ [9, 10, 11, 12, 13, 14, 15, 16, 17, 18, 19, 20, 21, 22, 23, 24, 25, 26, 27, 28, 29, 30, 31, 32, 33, 34, 35, 36, 37, 38, 39, 43, 44, 45, 46] (by decide +kernel) (by decide +kernel)
set_option maxRecDepth 20000 in
theorem gX4_take_X4_settle : GoodIn wsX4_take (wsV RX4 111 RX4 yX4_settle wsX4_settle) := goodIn_app (goodIn_of _ (by decide +kernel)) ggX4_take_X4_settle
theorem dX4_take_0 : decode cX4_take 0 = .ok (.iload_n 1, 1) := by decide +kernel
theorem dX4_take_1 : decode cX4_take 1 = .ok (.invokestatic 86, 3) := by decide +kernel
theorem dX4_take_4 : decode cX4_take 4 = .ok (.ifCond .eq 18, 3) := by decide +kernel
theorem dX4_take_7 : decode cX4_take 7 = .ok (.iload_n 2, 1) := by decide +kernel
theorem dX4_take_8 : decode cX4_take 8 = .ok (.ifCond .lt 14, 3) := by decide +kernel
theorem dX4_take_11 : decode cX4_take 11 = .ok (.iload_n 2, 1) := by decide +kernel
theorem dX4_take_12 : decode cX4_take 12 = .ok (.aload_n 0, 1) := by decide +kernel
theorem dX4_take_13 : decode cX4_take 13 = .ok (.getfield 28, 3) := by decide +kernel
theorem dX4_take_16 : decode cX4_take 16 = .ok (.getfield 61, 3) := by decide +kernel
theorem dX4_take_19 : decode cX4_take 19 = .ok (.if_icmp .lt 6, 3) := by decide +kernel
theorem dX4_take_22 : decode cX4_take 22 = .ok (.bipush (-101), 2) := by decide +kernel
theorem dX4_take_24 : decode cX4_take 24 = .ok (.ireturn, 1) := by decide +kernel
theorem dX4_take_25 : decode cX4_take 25 = .ok (.aload_n 0, 1) := by decide +kernel
theorem dX4_take_26 : decode cX4_take 26 = .ok (.aload_n 0, 1) := by decide +kernel
theorem dX4_take_27 : decode cX4_take 27 = .ok (.getfield 28, 3) := by decide +kernel
theorem dX4_take_30 : decode cX4_take 30 = .ok (.getfield 151, 3) := by decide +kernel
theorem dX4_take_33 : decode cX4_take 33 = .ok (.iload_n 2, 1) := by decide +kernel
theorem dX4_take_34 : decode cX4_take 34 = .ok (.aaload, 1) := by decide +kernel
theorem dX4_take_35 : decode cX4_take 35 = .ok (.iload_n 1, 1) := by decide +kernel
theorem dX4_take_36 : decode cX4_take 36 = .ok (.invokevirtual 111, 3) := by decide +kernel
theorem dX4_take_39 : decode cX4_take 39 = .ok (.ireturn, 1) := by decide +kernel
set_option maxRecDepth 20000 in
theorem ggX4_least_X1_leastDistance : GoodIn wsX4_least wsX1_leastDistance := goodIn_r _ [5, 6, 7, 8, 9, 10, 11, 12, 13, 14, 15, 16, 17, 18, 19, 20, 21, 22, 23, 24, 25, 26, 27, 28, 29, 30, 31, 32, 33, 34, 35, 36, 37, 38, 39, 40, 41, 42, 43, 44, 45, 46, 47, 48, 49, 50, 51, 52, 53, 54, 55, 56, 57, 58, 59, 60, 61, 62, 63, 64, 74, 75, 76, 77, 78, 79, 80, 81, 82, 83] (by decide +kernel) (by decide +kernel)
set_option maxRecDepth 20000 in
theorem gX4_least_X1_leastDistance_n153 : GoodIn wsX4_least (wsX1_leastDistance) := ggX4_least_X1_leastDistance
theorem dX4_least_0 : decode cX4_least 0 = .ok (.aload_n 0, 1) := by decide +kernel
theorem dX4_least_1 : decode cX4_least 1 = .ok (.getfield 28, 3) := by decide +kernel
theorem dX4_least_4 : decode cX4_least 4 = .ok (.invokevirtual 153, 3) := by decide +kernel
theorem dX4_least_7 : decode cX4_least 7 = .ok (.ireturn, 1) := by decide +kernel
set_option maxRecDepth 20000 in
theorem ggX4_bare_X0_spell : GoodIn wsX4_bare wsX0_spell := goodIn_r _ [7, 8, 9, 40, 41, 42] (by decide +kernel) (by decide +kernel)
set_option maxRecDepth 20000 in
theorem gX4_bare_X0_spell_n89 : GoodIn wsX4_bare (wsX0_spell) := ggX4_bare_X0_spell
set_option maxRecDepth 20000 in
theorem ggX4_bare_X1_covers : GoodIn wsX4_bare wsX1_covers := goodIn_r _ [13, 14, 15, 16, 17, 18, 19, 20, 21, 22, 23, 24, 25, 26, 27, 28, 29, 30, 43, 44, 45, 46, 47, 48, 49, 40, 41, 42] (by decide +kernel) (by decide +kernel)
set_option maxRecDepth 20000 in
theorem gX4_bare_X1_covers_n156 : GoodIn wsX4_bare (wsX1_covers) := ggX4_bare_X1_covers
theorem dX4_bare_0 : decode cX4_bare 0 = .ok (.iconst 0, 1) := by decide +kernel
theorem dX4_bare_1 : decode cX4_bare 1 = .ok (.istore_n 1, 1) := by decide +kernel
theorem dX4_bare_2 : decode cX4_bare 2 = .ok (.iconst 0, 1) := by decide +kernel
theorem dX4_bare_3 : decode cX4_bare 3 = .ok (.istore_n 2, 1) := by decide +kernel
theorem dX4_bare_4 : decode cX4_bare 4 = .ok (.iload_n 2, 1) := by decide +kernel
theorem dX4_bare_5 : decode cX4_bare 5 = .ok (.aload_n 0, 1) := by decide +kernel
theorem dX4_bare_6 : decode cX4_bare 6 = .ok (.getfield 10, 3) := by decide +kernel
theorem dX4_bare_9 : decode cX4_bare 9 = .ok (.getfield 68, 3) := by decide +kernel
theorem dX4_bare_12 : decode cX4_bare 12 = .ok (.if_icmp .ge 39, 3) := by decide +kernel
theorem dX4_bare_15 : decode cX4_bare 15 = .ok (.aload_n 0, 1) := by decide +kernel
theorem dX4_bare_16 : decode cX4_bare 16 = .ok (.getfield 10, 3) := by decide +kernel
theorem dX4_bare_19 : decode cX4_bare 19 = .ok (.iload_n 2, 1) := by decide +kernel
theorem dX4_bare_20 : decode cX4_bare 20 = .ok (.aload_n 0, 1) := by decide +kernel
theorem dX4_bare_21 : decode cX4_bare 21 = .ok (.getfield 46, 3) := by decide +kernel
theorem dX4_bare_24 : decode cX4_bare 24 = .ok (.iconst 0, 1) := by decide +kernel
theorem dX4_bare_25 : decode cX4_bare 25 = .ok (.invokevirtual 89, 3) := by decide +kernel
theorem dX4_bare_28 : decode cX4_bare 28 = .ok (.aload_n 0, 1) := by decide +kernel
theorem dX4_bare_29 : decode cX4_bare 29 = .ok (.getfield 28, 3) := by decide +kernel
theorem dX4_bare_32 : decode cX4_bare 32 = .ok (.aload_n 0, 1) := by decide +kernel
theorem dX4_bare_33 : decode cX4_bare 33 = .ok (.getfield 46, 3) := by decide +kernel
theorem dX4_bare_36 : decode cX4_bare 36 = .ok (.invokevirtual 156, 3) := by decide +kernel
theorem dX4_bare_39 : decode cX4_bare 39 = .ok (.ifCond .ne 6, 3) := by decide +kernel
theorem dX4_bare_42 : decode cX4_bare 42 = .ok (.iinc 1 1, 3) := by decide +kernel
theorem dX4_bare_45 : decode cX4_bare 45 = .ok (.iinc 2 1, 3) := by decide +kernel
theorem dX4_bare_48 : decode cX4_bare 48 = .ok (.goto (-44), 3) := by decide +kernel
theorem dX4_bare_51 : decode cX4_bare 51 = .ok (.iload_n 1, 1) := by decide +kernel
theorem dX4_bare_52 : decode cX4_bare 52 = .ok (.ireturn, 1) := by decide +kernel
set_option maxRecDepth 20000 in
theorem ggX4_greedy_X4_isDim : GoodIn wsX4_greedy wsX4_isDim := goodIn_r _ [9, 3, 98, 99, 100, 101, 102, 103, 104, 105, 106, 110, 111, 112] (by decide +kernel) (by decide +kernel)
set_option maxRecDepth 20000 in
theorem gX4_greedy_X4_isDim : GoodIn wsX4_greedy (wsV RX4 133 RX4 yX4_isDim wsX4_isDim) := goodIn_app (goodIn_of _ (by decide +kernel)) ggX4_greedy_X4_isDim
set_option maxRecDepth 20000 in
theorem ggX4_greedy_X0_spaces : GoodIn wsX4_greedy wsX0_spaces := goodIn_r _ [13, 14, 15, 16, 11, 17, 18, 110, 111, 112] (by decide +kernel) (by decide +kernel)
set_option maxRecDepth 20000 in
theorem gX4_greedy_X0_spaces_n139 : GoodIn wsX4_greedy (wsX0_spaces) := ggX4_greedy_X0_spaces
set_option maxRecDepth 20000 in
theorem ggX4_greedy_X3_becomeOrdinal : GoodIn wsX4_greedy wsX3_becomeOrdinal := goodIn_r _ [22, 23, 24, 25, 26, 27, 28, 29, 30, 31, 32, 33, 34, 20, 35, 15, 11, 16, 17, 18, 36, 37, 38, 39, 40, 41, 42, 43, 44, 45, 46, 47, 48, 113, 114, 115, 116, 110, 111, 112] (by decide +kernel) (by decide +kernel)
set_option maxRecDepth 20000 in
theorem gX4_greedy_X3_becomeOrdinal_n142 : GoodIn wsX4_greedy (wsX3_becomeOrdinal) := ggX4_greedy_X3_becomeOrdinal
set_option maxRecDepth 20000 in
theorem ggX4_greedy_X1_allApart : GoodIn wsX4_greedy wsX1_allApart := goodIn_r _ [52, 53, 54, 55, 56, 20, 57, 58, 59, 60, 61, 62, 24, 40, 63, 64, 65, 66, 67, 68, 69, 70, 23, 71, 45, 46, 47, 48, 72, 73, 74, 75, 76, 77, 78, 79, 80, 11, 81, 82, 83, 18, 84, 85, 86, 87, 88, 89, 90, 91, 92, 93, 94, 25, 26, 27, 28, 29, 30, 31, 107, 108, 109, 113, 114, 115, 116, 110, 111, 112] (by decide +kernel) (by decide +kernel)
set_option maxRecDepth 20000 in
theorem gX4_greedy_X1_allApart_n163 : GoodIn wsX4_greedy (wsX1_allApart) := ggX4_greedy_X1_allApart
set_option maxRecDepth 20000 in
theorem ggX4_greedy_X1_accept : GoodIn wsX4_greedy wsX1_accept := goodIn_r _ [97, 53, 55, 60, 20, 61, 62, 24, 40, 63, 64, 65, 66, 107, 108, 109, 113, 114, 115, 116] (by decide +kernel) (by decide +kernel)
set_option maxRecDepth 20000 in
theorem gX4_greedy_X1_accept_n148 : GoodIn wsX4_greedy (wsX1_accept) := ggX4_greedy_X1_accept
theorem dX4_greedy_0 : decode cX4_greedy 0 = .ok (.aload_n 0, 1) := by decide +kernel
theorem dX4_greedy_1 : decode cX4_greedy 1 = .ok (.iload_n 1, 1) := by decide +kernel
theorem dX4_greedy_2 : decode cX4_greedy 2 = .ok (.invokevirtual 133, 3) := by decide +kernel
theorem dX4_greedy_5 : decode cX4_greedy 5 = .ok (.ifCond .eq 14, 3) := by decide +kernel
theorem dX4_greedy_8 : decode cX4_greedy 8 = .ok (.iload_n 2, 1) := by decide +kernel
theorem dX4_greedy_9 : decode cX4_greedy 9 = .ok (.iconst 1, 1) := by decide +kernel
theorem dX4_greedy_10 : decode cX4_greedy 10 = .ok (.if_icmp .lt 9, 3) := by decide +kernel
theorem dX4_greedy_13 : decode cX4_greedy 13 = .ok (.iload_n 2, 1) := by decide +kernel
theorem dX4_greedy_14 : decode cX4_greedy 14 = .ok (.bipush 12, 2) := by decide +kernel
theorem dX4_greedy_16 : decode cX4_greedy 16 = .ok (.if_icmp .le 6, 3) := by decide +kernel
theorem dX4_greedy_19 : decode cX4_greedy 19 = .ok (.bipush (-102), 2) := by decide +kernel
theorem dX4_greedy_21 : decode cX4_greedy 21 = .ok (.ireturn, 1) := by decide +kernel
theorem dX4_greedy_22 : decode cX4_greedy 22 = .ok (.aload_n 0, 1) := by decide +kernel
theorem dX4_greedy_23 : decode cX4_greedy 23 = .ok (.getfield 160, 3) := by decide +kernel
theorem dX4_greedy_26 : decode cX4_greedy 26 = .ok (.bipush 10, 2) := by decide +kernel
theorem dX4_greedy_28 : decode cX4_greedy 28 = .ok (.if_icmp .lt 6, 3) := by decide +kernel
theorem dX4_greedy_31 : decode cX4_greedy 31 = .ok (.bipush (-103), 2) := by decide +kernel
theorem dX4_greedy_33 : decode cX4_greedy 33 = .ok (.ireturn, 1) := by decide +kernel
theorem dX4_greedy_34 : decode cX4_greedy 34 = .ok (.aload_n 0, 1) := by decide +kernel
theorem dX4_greedy_35 : decode cX4_greedy 35 = .ok (.dup, 1) := by decide +kernel
theorem dX4_greedy_36 : decode cX4_greedy 36 = .ok (.getfield 160, 3) := by decide +kernel
theorem dX4_greedy_39 : decode cX4_greedy 39 = .ok (.iconst 1, 1) := by decide +kernel
theorem dX4_greedy_40 : decode cX4_greedy 40 = .ok (.iadd, 1) := by decide +kernel
theorem dX4_greedy_41 : decode cX4_greedy 41 = .ok (.putfield 160, 3) := by decide +kernel
theorem dX4_greedy_44 : decode cX4_greedy 44 = .ok (.aload_n 0, 1) := by decide +kernel
theorem dX4_greedy_45 : decode cX4_greedy 45 = .ok (.getfield 28, 3) := by decide +kernel
theorem dX4_greedy_48 : decode cX4_greedy 48 = .ok (.iconst 0, 1) := by decide +kernel
theorem dX4_greedy_49 : decode cX4_greedy 49 = .ok (.putfield 61, 3) := by decide +kernel
theorem dX4_greedy_52 : decode cX4_greedy 52 = .ok (.aload_n 0, 1) := by decide +kernel
theorem dX4_greedy_53 : decode cX4_greedy 53 = .ok (.getfield 10, 3) := by decide +kernel
theorem dX4_greedy_56 : decode cX4_greedy 56 = .ok (.aload_n 0, 1) := by decide +kernel
theorem dX4_greedy_57 : decode cX4_greedy 57 = .ok (.getfield 10, 3) := by decide +kernel
theorem dX4_greedy_60 : decode cX4_greedy 60 = .ok (.getfield 136, 3) := by decide +kernel
theorem dX4_greedy_63 : decode cX4_greedy 63 = .ok (.iload_n 1, 1) := by decide +kernel
theorem dX4_greedy_64 : decode cX4_greedy 64 = .ok (.invokevirtual 139, 3) := by decide +kernel
theorem dX4_greedy_67 : decode cX4_greedy 67 = .ok (.istore_n 3, 1) := by decide +kernel
theorem dX4_greedy_68 : decode cX4_greedy 68 = .ok (.iconst 0, 1) := by decide +kernel
theorem dX4_greedy_69 : decode cX4_greedy 69 = .ok (.istore 4, 2) := by decide +kernel
theorem dX4_greedy_71 : decode cX4_greedy 71 = .ok (.iload 4, 2) := by decide +kernel
theorem dX4_greedy_73 : decode cX4_greedy 73 = .ok (.iload_n 3, 1) := by decide +kernel
theorem dX4_greedy_74 : decode cX4_greedy 74 = .ok (.if_icmp .ge 57, 3) := by decide +kernel
theorem dX4_greedy_77 : decode cX4_greedy 77 = .ok (.aload_n 0, 1) := by decide +kernel
theorem dX4_greedy_78 : decode cX4_greedy 78 = .ok (.getfield 28, 3) := by decide +kernel
theorem dX4_greedy_81 : decode cX4_greedy 81 = .ok (.getfield 61, 3) := by decide +kernel
theorem dX4_greedy_84 : decode cX4_greedy 84 = .ok (.bipush 40, 2) := by decide +kernel
theorem dX4_greedy_86 : decode cX4_greedy 86 = .ok (.if_icmp .ge 45, 3) := by decide +kernel
theorem dX4_greedy_89 : decode cX4_greedy 89 = .ok (.aload_n 0, 1) := by decide +kernel
theorem dX4_greedy_90 : decode cX4_greedy 90 = .ok (.getfield 39, 3) := by decide +kernel
theorem dX4_greedy_93 : decode cX4_greedy 93 = .ok (.iload_n 1, 1) := by decide +kernel
theorem dX4_greedy_94 : decode cX4_greedy 94 = .ok (.iload 4, 2) := by decide +kernel
theorem dX4_greedy_96 : decode cX4_greedy 96 = .ok (.invokevirtual 142, 3) := by decide +kernel
theorem dX4_greedy_99 : decode cX4_greedy 99 = .ok (.aload_n 0, 1) := by decide +kernel
theorem dX4_greedy_100 : decode cX4_greedy 100 = .ok (.getfield 28, 3) := by decide +kernel
theorem dX4_greedy_103 : decode cX4_greedy 103 = .ok (.aload_n 0, 1) := by decide +kernel
theorem dX4_greedy_104 : decode cX4_greedy 104 = .ok (.getfield 39, 3) := by decide +kernel
theorem dX4_greedy_107 : decode cX4_greedy 107 = .ok (.iload_n 2, 1) := by decide +kernel
theorem dX4_greedy_108 : decode cX4_greedy 108 = .ok (.invokevirtual 163, 3) := by decide +kernel
theorem dX4_greedy_111 : decode cX4_greedy 111 = .ok (.ifCond .eq 14, 3) := by decide +kernel
theorem dX4_greedy_114 : decode cX4_greedy 114 = .ok (.aload_n 0, 1) := by decide +kernel
theorem dX4_greedy_115 : decode cX4_greedy 115 = .ok (.getfield 28, 3) := by decide +kernel
theorem dX4_greedy_118 : decode cX4_greedy 118 = .ok (.aload_n 0, 1) := by decide +kernel
theorem dX4_greedy_119 : decode cX4_greedy 119 = .ok (.getfield 39, 3) := by decide +kernel
theorem dX4_greedy_122 : decode cX4_greedy 122 = .ok (.invokevirtual 148, 3) := by decide +kernel
theorem dX4_greedy_125 : decode cX4_greedy 125 = .ok (.iinc 4 1, 3) := by decide +kernel
theorem dX4_greedy_128 : decode cX4_greedy 128 = .ok (.goto (-57), 3) := by decide +kernel
theorem dX4_greedy_131 : decode cX4_greedy 131 = .ok (.aload_n 0, 1) := by decide +kernel
theorem dX4_greedy_132 : decode cX4_greedy 132 = .ok (.getfield 28, 3) := by decide +kernel
theorem dX4_greedy_135 : decode cX4_greedy 135 = .ok (.getfield 61, 3) := by decide +kernel
theorem dX4_greedy_138 : decode cX4_greedy 138 = .ok (.ireturn, 1) := by decide +kernel
set_option maxRecDepth 20000 in
theorem ggX4_image_X0_isVector : GoodIn wsX4_image wsX0_isVector := goodIn_r _ [6, 7, 34, 35, 36] (by decide +kernel) (by decide +kernel)
set_option maxRecDepth 20000 in
theorem gX4_image_X0_isVector_n71 : GoodIn wsX4_image (wsX0_isVector) := ggX4_image_X0_isVector
set_option maxRecDepth 20000 in
theorem ggX4_image_X2_imageNumber : GoodIn wsX4_image wsX2_imageNumber := goodIn_r _ [11, 12, 13, 14, 4, 15, 16, 17, 18, 37, 38, 39, 34, 35, 36] (by decide +kernel) (by decide +kernel)
set_option maxRecDepth 20000 in
theorem gX4_image_X2_imageNumber_n167 : GoodIn wsX4_image (wsX2_imageNumber) := ggX4_image_X2_imageNumber
set_option maxRecDepth 20000 in
theorem ggX4_image_X2_setImage : GoodIn wsX4_image wsX2_setImage := goodIn_r _ [21, 12, 13, 22, 4, 23, 24, 17, 18, 37, 38, 39, 34, 35, 36] (by decide +kernel) (by decide +kernel)
set_option maxRecDepth 20000 in
theorem gX4_image_X2_setImage_n170 : GoodIn wsX4_image (wsX2_setImage) := ggX4_image_X2_setImage
theorem dX4_image_0 : decode cX4_image 0 = .ok (.iload_n 1, 1) := by decide +kernel
theorem dX4_image_1 : decode cX4_image 1 = .ok (.ifCond .lt 25, 3) := by decide +kernel
theorem dX4_image_4 : decode cX4_image 4 = .ok (.iload_n 1, 1) := by decide +kernel
theorem dX4_image_5 : decode cX4_image 5 = .ok (.aload_n 0, 1) := by decide +kernel
theorem dX4_image_6 : decode cX4_image 6 = .ok (.getfield 10, 3) := by decide +kernel
theorem dX4_image_9 : decode cX4_image 9 = .ok (.getfield 136, 3) := by decide +kernel
theorem dX4_image_12 : decode cX4_image 12 = .ok (.if_icmp .ge 14, 3) := by decide +kernel
theorem dX4_image_15 : decode cX4_image 15 = .ok (.aload_n 0, 1) := by decide +kernel
theorem dX4_image_16 : decode cX4_image 16 = .ok (.getfield 10, 3) := by decide +kernel
theorem dX4_image_19 : decode cX4_image 19 = .ok (.iload_n 2, 1) := by decide +kernel
theorem dX4_image_20 : decode cX4_image 20 = .ok (.invokevirtual 71, 3) := by decide +kernel
theorem dX4_image_23 : decode cX4_image 23 = .ok (.ifCond .ne 6, 3) := by decide +kernel
theorem dX4_image_26 : decode cX4_image 26 = .ok (.bipush (-101), 2) := by decide +kernel
theorem dX4_image_28 : decode cX4_image 28 = .ok (.ireturn, 1) := by decide +kernel
theorem dX4_image_29 : decode cX4_image 29 = .ok (.aload_n 0, 1) := by decide +kernel
theorem dX4_image_30 : decode cX4_image 30 = .ok (.getfield 35, 3) := by decide +kernel
theorem dX4_image_33 : decode cX4_image 33 = .ok (.iload_n 1, 1) := by decide +kernel
theorem dX4_image_34 : decode cX4_image 34 = .ok (.invokevirtual 167, 3) := by decide +kernel
theorem dX4_image_37 : decode cX4_image 37 = .ok (.istore_n 3, 1) := by decide +kernel
theorem dX4_image_38 : decode cX4_image 38 = .ok (.aload_n 0, 1) := by decide +kernel
theorem dX4_image_39 : decode cX4_image 39 = .ok (.getfield 35, 3) := by decide +kernel
theorem dX4_image_42 : decode cX4_image 42 = .ok (.iload_n 1, 1) := by decide +kernel
theorem dX4_image_43 : decode cX4_image 43 = .ok (.iload_n 2, 1) := by decide +kernel
theorem dX4_image_44 : decode cX4_image 44 = .ok (.invokevirtual 170, 3) := by decide +kernel
theorem dX4_image_47 : decode cX4_image 47 = .ok (.iload_n 3, 1) := by decide +kernel
theorem dX4_image_48 : decode cX4_image 48 = .ok (.ireturn, 1) := by decide +kernel
set_option maxRecDepth 20000 in
theorem ggX4_mapped_X0_isVector : GoodIn wsX4_mapped wsX0_isVector := goodIn_r _ [7, 8, 44, 45, 46] (by decide +kernel) (by decide +kernel)
set_option maxRecDepth 20000 in
theorem gX4_mapped_X0_isVector_n71 : GoodIn wsX4_mapped (wsX0_isVector) := ggX4_mapped_X0_isVector
set_option maxRecDepth 20000 in
theorem ggX4_mapped_X0_spell : GoodIn wsX4_mapped wsX0_spell := goodIn_r _ [11, 12, 13, 44, 45, 46] (by decide +kernel) (by decide +kernel)
set_option maxRecDepth 20000 in
theorem gX4_mapped_X0_spell_n89 : GoodIn wsX4_mapped (wsX0_spell) := ggX4_mapped_X0_spell
set_option maxRecDepth 20000 in
theorem ggX4_mapped_X2_apply : GoodIn wsX4_mapped wsX2_apply := goodIn_r _ [17, 18, 19, 20, 21, 22, 15, 23, 24, 25, 26, 27, 28, 29, 5, 30, 31, 12, 13, 32, 33, 34, 47, 48, 49, 44, 45, 46] (by decide +kernel) (by decide +kernel)
set_option maxRecDepth 20000 in
theorem gX4_mapped_X2_apply_n173 : GoodIn wsX4_mapped (wsX2_apply) := ggX4_mapped_X2_apply
theorem dX4_mapped_0 : decode cX4_mapped 0 = .ok (.aload_n 0, 1) := by decide +kernel
theorem dX4_mapped_1 : decode cX4_mapped 1 = .ok (.getfield 10, 3) := by decide +kernel
theorem dX4_mapped_4 : decode cX4_mapped 4 = .ok (.iload_n 1, 1) := by decide +kernel
theorem dX4_mapped_5 : decode cX4_mapped 5 = .ok (.invokevirtual 71, 3) := by decide +kernel
theorem dX4_mapped_8 : decode cX4_mapped 8 = .ok (.ifCond .ne 6, 3) := by decide +kernel
theorem dX4_mapped_11 : decode cX4_mapped 11 = .ok (.bipush (-101), 2) := by decide +kernel
theorem dX4_mapped_13 : decode cX4_mapped 13 = .ok (.ireturn, 1) := by decide +kernel
theorem dX4_mapped_14 : decode cX4_mapped 14 = .ok (.aload_n 0, 1) := by decide +kernel
theorem dX4_mapped_15 : decode cX4_mapped 15 = .ok (.getfield 10, 3) := by decide +kernel
theorem dX4_mapped_18 : decode cX4_mapped 18 = .ok (.iload_n 1, 1) := by decide +kernel
theorem dX4_mapped_19 : decode cX4_mapped 19 = .ok (.aload_n 0, 1) := by decide +kernel
theorem dX4_mapped_20 : decode cX4_mapped 20 = .ok (.getfield 46, 3) := by decide +kernel
theorem dX4_mapped_23 : decode cX4_mapped 23 = .ok (.iconst 0, 1) := by decide +kernel
theorem dX4_mapped_24 : decode cX4_mapped 24 = .ok (.invokevirtual 89, 3) := by decide +kernel
theorem dX4_mapped_27 : decode cX4_mapped 27 = .ok (.aload_n 0, 1) := by decide +kernel
theorem dX4_mapped_28 : decode cX4_mapped 28 = .ok (.getfield 35, 3) := by decide +kernel
theorem dX4_mapped_31 : decode cX4_mapped 31 = .ok (.aload_n 0, 1) := by decide +kernel
theorem dX4_mapped_32 : decode cX4_mapped 32 = .ok (.getfield 46, 3) := by decide +kernel
theorem dX4_mapped_35 : decode cX4_mapped 35 = .ok (.invokevirtual 173, 3) := by decide +kernel
theorem dX4_mapped_38 : decode cX4_mapped 38 = .ok (.ireturn, 1) := by decide +kernel
set_option maxRecDepth 20000 in
theorem ggX4_map_X4_isSlot : GoodIn wsX4_map wsX4_isSlot := goodIn_r _ [7] (by decide +kernel) (by decide +kernel)
set_option maxRecDepth 20000 in
theorem gX4_map_X4_isSlot : GoodIn wsX4_map (va_wsS RX4 86 yX4_isSlot wsX4_isSlot) := goodIn_app (goodIn_of _ (by decide +kernel)) ggX4_map_X4_isSlot
set_option maxRecDepth 20000 in
theorem ggX4_map_X2_applyToSpace : GoodIn wsX4_map wsX2_applyToSpace := goodIn_r _ [11, 12, 13, 14, 15, 16, 17, 18, 19, 20, 21, 22, 23, 24, 25, 9, 26, 27, 28, 29, 30, 31, 32, 33, 34, 35, 36, 37, 38, 39, 40, 41, 42, 43, 44, 45, 46, 47, 48, 49, 50, 51, 52, 53, 54, 55, 56, 57, 58, 59, 60, 61, 62, 89, 90, 91, 92, 93, 94, 95, 96, 97, 98] (by decide +kernel) (by decide +kernel)
set_option maxRecDepth 20000 in
theorem gX4_map_X2_applyToSpace_n177 : GoodIn wsX4_map (wsX2_applyToSpace) := ggX4_map_X2_applyToSpace
set_option maxRecDepth 20000 in
theorem ggX4_map_X4_settle : GoodIn wsX4_map wsX4_settle := goodIn_r _ [66, 2, 67, 15, 68, 69, 18, 50, 42, 43, 44, 45, 70, 71, 72, 73, 74, 75, 76, 77, 78, 79, 80, 81, 82, 83, 84, 85, 86, 87, 88, 95, 96, 97, 98] (by decide +kernel) (by decide +kernel)
set_option maxRecDepth 20000 in
theorem gX4_map_X4_settle : GoodIn wsX4_map (wsV RX4 111 RX4 yX4_settle wsX4_settle) := goodIn_app (goodIn_of _ (by decide +kernel)) ggX4_map_X4_settle
theorem dX4_map_0 : decode cX4_map 0 = .ok (.iload_n 1, 1) := by decide +kernel
theorem dX4_map_1 : decode cX4_map 1 = .ok (.invokestatic 86, 3) := by decide +kernel
theorem dX4_map_4 : decode cX4_map 4 = .ok (.ifCond .eq 10, 3) := by decide +kernel
theorem dX4_map_7 : decode cX4_map 7 = .ok (.iload_n 2, 1) := by decide +kernel
theorem dX4_map_8 : decode cX4_map 8 = .ok (.invokestatic 86, 3) := by decide +kernel
theorem dX4_map_11 : decode cX4_map 11 = .ok (.ifCond .ne 6, 3) := by decide +kernel
theorem dX4_map_14 : decode cX4_map 14 = .ok (.bipush (-101), 2) := by decide +kernel
theorem dX4_map_16 : decode cX4_map 16 = .ok (.ireturn, 1) := by decide +kernel
theorem dX4_map_17 : decode cX4_map 17 = .ok (.aload_n 0, 1) := by decide +kernel
theorem dX4_map_18 : decode cX4_map 18 = .ok (.getfield 35, 3) := by decide +kernel
theorem dX4_map_21 : decode cX4_map 21 = .ok (.aload_n 0, 1) := by decide +kernel
theorem dX4_map_22 : decode cX4_map 22 = .ok (.getfield 18, 3) := by decide +kernel
theorem dX4_map_25 : decode cX4_map 25 = .ok (.iload_n 1, 1) := by decide +kernel
theorem dX4_map_26 : decode cX4_map 26 = .ok (.aaload, 1) := by decide +kernel
theorem dX4_map_27 : decode cX4_map 27 = .ok (.aload_n 0, 1) := by decide +kernel
theorem dX4_map_28 : decode cX4_map 28 = .ok (.getfield 39, 3) := by decide +kernel
theorem dX4_map_31 : decode cX4_map 31 = .ok (.invokevirtual 177, 3) := by decide +kernel
theorem dX4_map_34 : decode cX4_map 34 = .ok (.aload_n 0, 1) := by decide +kernel
theorem dX4_map_35 : decode cX4_map 35 = .ok (.aload_n 0, 1) := by decide +kernel
theorem dX4_map_36 : decode cX4_map 36 = .ok (.getfield 39, 3) := by decide +kernel
theorem dX4_map_39 : decode cX4_map 39 = .ok (.iload_n 2, 1) := by decide +kernel
theorem dX4_map_40 : decode cX4_map 40 = .ok (.invokevirtual 111, 3) := by decide +kernel
theorem dX4_map_43 : decode cX4_map 43 = .ok (.ireturn, 1) := by decide +kernel
set_option maxRecDepth 20000 in
theorem ggX4_kernel_X4_isSlot : GoodIn wsX4_kernel wsX4_isSlot := goodIn_r _ [7] (by decide +kernel) (by decide +kernel)
set_option maxRecDepth 20000 in
theorem gX4_kernel_X4_isSlot : GoodIn wsX4_kernel (va_wsS RX4 86 yX4_isSlot wsX4_isSlot) := goodIn_app (goodIn_of _ (by decide +kernel)) ggX4_kernel_X4_isSlot
set_option maxRecDepth 20000 in
theorem ggX4_kernel_X2_columnSpace : GoodIn wsX4_kernel wsX2_columnSpace := goodIn_r _ [11, 12, 13, 14, 15, 16, 17, 18, 19, 20, 21, 22, 23, 24, 25, 26, 27, 28, 29, 30, 31, 32, 33, 34, 35, 36, 37, 38, 39, 40, 41, 42, 43, 44, 45, 46, 47, 48, 49, 50, 51, 52, 53, 54, 90, 91, 92, 93, 94, 95, 96, 97, 98, 99] (by decide +kernel) (by decide +kernel)
set_option maxRecDepth 20000 in
theorem gX4_kernel_X2_columnSpace_n181 : GoodIn wsX4_kernel (wsX2_columnSpace) := ggX4_kernel_X2_columnSpace
set_option maxRecDepth 20000 in
theorem ggX4_kernel_X3_becomeDual : GoodIn wsX4_kernel wsX3_becomeDual := goodIn_r _ [57, 24, 23, 33, 58, 15, 17, 16, 18, 19, 38, 39, 40, 41, 59, 60, 61, 62, 29, 30, 31, 32, 34, 35, 36, 37, 42, 43, 44, 45, 46, 47, 48, 49, 50, 51, 52, 53, 54, 96, 97, 98, 99, 93, 94, 95] (by decide +kernel) (by decide +kernel)
set_option maxRecDepth 20000 in
theorem gX4_kernel_X3_becomeDual_n115 : GoodIn wsX4_kernel (wsX3_becomeDual) := ggX4_kernel_X3_becomeDual
set_option maxRecDepth 20000 in
theorem ggX4_kernel_X4_settle : GoodIn wsX4_kernel wsX4_settle := goodIn_r _ [66, 67, 68, 16, 69, 70, 19, 33, 25, 26, 27, 28, 71, 72, 73, 74, 75, 76, 77, 78, 79, 80, 81, 82, 83, 84, 85, 86, 87, 88, 89, 96, 97, 98, 99] (by decide +kernel) (by decide +kernel)
set_option maxRecDepth 20000 in
theorem gX4_kernel_X4_settle : GoodIn wsX4_kernel (wsV RX4 111 RX4 yX4_settle wsX4_settle) := goodIn_app (goodIn_of _ (by decide +kernel)) ggX4_kernel_X4_settle
theorem dX4_kernel_0 : decode cX4_kernel 0 = .ok (.iload_n 1, 1) := by decide +kernel
theorem dX4_kernel_1 : decode cX4_kernel 1 = .ok (.invokestatic 86, 3) := by decide +kernel
theorem dX4_kernel_4 : decode cX4_kernel 4 = .ok (.ifCond .ne 6, 3) := by decide +kernel
theorem dX4_kernel_7 : decode cX4_kernel 7 = .ok (.bipush (-101), 2) := by decide +kernel
theorem dX4_kernel_9 : decode cX4_kernel 9 = .ok (.ireturn, 1) := by decide +kernel
theorem dX4_kernel_10 : decode cX4_kernel 10 = .ok (.aload_n 0, 1) := by decide +kernel
theorem dX4_kernel_11 : decode cX4_kernel 11 = .ok (.getfield 35, 3) := by decide +kernel
theorem dX4_kernel_14 : decode cX4_kernel 14 = .ok (.aload_n 0, 1) := by decide +kernel
theorem dX4_kernel_15 : decode cX4_kernel 15 = .ok (.getfield 43, 3) := by decide +kernel
theorem dX4_kernel_18 : decode cX4_kernel 18 = .ok (.invokevirtual 181, 3) := by decide +kernel
theorem dX4_kernel_21 : decode cX4_kernel 21 = .ok (.aload_n 0, 1) := by decide +kernel
theorem dX4_kernel_22 : decode cX4_kernel 22 = .ok (.getfield 39, 3) := by decide +kernel
theorem dX4_kernel_25 : decode cX4_kernel 25 = .ok (.aload_n 0, 1) := by decide +kernel
theorem dX4_kernel_26 : decode cX4_kernel 26 = .ok (.getfield 43, 3) := by decide +kernel
theorem dX4_kernel_29 : decode cX4_kernel 29 = .ok (.invokevirtual 115, 3) := by decide +kernel
theorem dX4_kernel_32 : decode cX4_kernel 32 = .ok (.aload_n 0, 1) := by decide +kernel
theorem dX4_kernel_33 : decode cX4_kernel 33 = .ok (.aload_n 0, 1) := by decide +kernel
theorem dX4_kernel_34 : decode cX4_kernel 34 = .ok (.getfield 39, 3) := by decide +kernel
theorem dX4_kernel_37 : decode cX4_kernel 37 = .ok (.iload_n 1, 1) := by decide +kernel
theorem dX4_kernel_38 : decode cX4_kernel 38 = .ok (.invokevirtual 111, 3) := by decide +kernel
theorem dX4_kernel_41 : decode cX4_kernel 41 = .ok (.ireturn, 1) := by decide +kernel
set_option maxRecDepth 20000 in
theorem ggX4_round_X4_isSlot : GoodIn wsX4_round wsX4_isSlot := goodIn_r _ [6] (by decide +kernel) (by decide +kernel)
set_option maxRecDepth 20000 in
theorem gX4_round_X4_isSlot : GoodIn wsX4_round (va_wsS RX4 86 yX4_isSlot wsX4_isSlot) := goodIn_app (goodIn_of _ (by decide +kernel)) ggX4_round_X4_isSlot
set_option maxRecDepth 20000 in
theorem ggX4_round_X4_timesTillAgain : GoodIn wsX4_round wsX4_timesTillAgain := goodIn_r _ [10, 11, 12, 13, 14, 15, 16, 17, 18, 19, 20, 21, 22, 23, 24, 25, 26, 27, 28, 29, 30, 31, 32, 33, 34, 35, 36, 37, 38, 39, 40, 41, 42, 43, 44, 45, 46, 47, 48, 49, 50, 51, 52, 53, 54, 55, 56, 57, 58, 59, 60, 61, 62, 63, 64, 65, 66, 67, 68, 69, 70, 71, 72, 73, 74, 75, 76, 77, 78, 79, 80, 81, 82, 83, 84, 85, 86, 87, 88, 89, 90, 91, 92, 93, 94, 95, 96, 97, 98, 99, 100, 101, 102, 103, 104, 105, 106, 107, 108, 109, 110, 111, 112, 113, 114, 115, 116, 117, 118, 119, 120] (by decide +kernel) (by decide +kernel)
set_option maxRecDepth 20000 in
theorem gX4_round_X4_timesTillAgain : GoodIn wsX4_round (wsV RX4 187 RX4 yX4_timesTillAgain wsX4_timesTillAgain) := goodIn_app (goodIn_of _ (by decide +kernel)) ggX4_round_X4_timesTillAgain
theorem dX4_round_0 : decode cX4_round 0 = .ok (.iload_n 1, 1) := by decide +kernel
theorem dX4_round_1 : decode cX4_round 1 = .ok (.invokestatic 86, 3) := by decide +kernel
theorem dX4_round_4 : decode cX4_round 4 = .ok (.ifCond .ne 6, 3) := by decide +kernel
theorem dX4_round_7 : decode cX4_round 7 = .ok (.bipush (-101), 2) := by decide +kernel
theorem dX4_round_9 : decode cX4_round 9 = .ok (.ireturn, 1) := by decide +kernel
theorem dX4_round_10 : decode cX4_round 10 = .ok (.aload_n 0, 1) := by decide +kernel
theorem dX4_round_11 : decode cX4_round 11 = .ok (.getfield 184, 3) := by decide +kernel
theorem dX4_round_14 : decode cX4_round 14 = .ok (.bipush 60, 2) := by decide +kernel
theorem dX4_round_16 : decode cX4_round 16 = .ok (.if_icmp .lt 6, 3) := by decide +kernel
theorem dX4_round_19 : decode cX4_round 19 = .ok (.bipush (-103), 2) := by decide +kernel
theorem dX4_round_21 : decode cX4_round 21 = .ok (.ireturn, 1) := by decide +kernel
theorem dX4_round_22 : decode cX4_round 22 = .ok (.aload_n 0, 1) := by decide +kernel
theorem dX4_round_23 : decode cX4_round 23 = .ok (.dup, 1) := by decide +kernel
theorem dX4_round_24 : decode cX4_round 24 = .ok (.getfield 184, 3) := by decide +kernel
theorem dX4_round_27 : decode cX4_round 27 = .ok (.iconst 1, 1) := by decide +kernel
theorem dX4_round_28 : decode cX4_round 28 = .ok (.iadd, 1) := by decide +kernel
theorem dX4_round_29 : decode cX4_round 29 = .ok (.putfield 184, 3) := by decide +kernel
theorem dX4_round_32 : decode cX4_round 32 = .ok (.aload_n 0, 1) := by decide +kernel
theorem dX4_round_33 : decode cX4_round 33 = .ok (.aload_n 0, 1) := by decide +kernel
theorem dX4_round_34 : decode cX4_round 34 = .ok (.getfield 18, 3) := by decide +kernel
theorem dX4_round_37 : decode cX4_round 37 = .ok (.iload_n 1, 1) := by decide +kernel
theorem dX4_round_38 : decode cX4_round 38 = .ok (.aaload, 1) := by decide +kernel
theorem dX4_round_39 : decode cX4_round 39 = .ok (.invokevirtual 187, 3) := by decide +kernel
theorem dX4_round_42 : decode cX4_round 42 = .ok (.ireturn, 1) := by decide +kernel
theorem dX4_told_0 : decode cX4_told 0 = .ok (.iload_n 1, 1) := by decide +kernel
theorem dX4_told_1 : decode cX4_told 1 = .ok (.tableswitch 81 0 5 #[39, 47, 55, 63, 71, 76], 39) := by decide +kernel
theorem dX4_told_40 : decode cX4_told 40 = .ok (.aload_n 0, 1) := by decide +kernel
theorem dX4_told_41 : decode cX4_told 41 = .ok (.getfield 10, 3) := by decide +kernel
theorem dX4_told_44 : decode cX4_told 44 = .ok (.getfield 75, 3) := by decide +kernel
theorem dX4_told_47 : decode cX4_told 47 = .ok (.ireturn, 1) := by decide +kernel
theorem dX4_told_48 : decode cX4_told 48 = .ok (.aload_n 0, 1) := by decide +kernel
theorem dX4_told_49 : decode cX4_told 49 = .ok (.getfield 10, 3) := by decide +kernel
theorem dX4_told_52 : decode cX4_told 52 = .ok (.getfield 136, 3) := by decide +kernel
theorem dX4_told_55 : decode cX4_told 55 = .ok (.ireturn, 1) := by decide +kernel
theorem dX4_told_56 : decode cX4_told 56 = .ok (.aload_n 0, 1) := by decide +kernel
theorem dX4_told_57 : decode cX4_told 57 = .ok (.getfield 10, 3) := by decide +kernel
theorem dX4_told_60 : decode cX4_told 60 = .ok (.getfield 68, 3) := by decide +kernel
theorem dX4_told_63 : decode cX4_told 63 = .ok (.ireturn, 1) := by decide +kernel
theorem dX4_told_64 : decode cX4_told 64 = .ok (.aload_n 0, 1) := by decide +kernel
theorem dX4_told_65 : decode cX4_told 65 = .ok (.getfield 28, 3) := by decide +kernel
theorem dX4_told_68 : decode cX4_told 68 = .ok (.getfield 61, 3) := by decide +kernel
theorem dX4_told_71 : decode cX4_told 71 = .ok (.ireturn, 1) := by decide +kernel
theorem dX4_told_72 : decode cX4_told 72 = .ok (.aload_n 0, 1) := by decide +kernel
theorem dX4_told_73 : decode cX4_told 73 = .ok (.getfield 160, 3) := by decide +kernel
theorem dX4_told_76 : decode cX4_told 76 = .ok (.ireturn, 1) := by decide +kernel
theorem dX4_told_77 : decode cX4_told 77 = .ok (.aload_n 0, 1) := by decide +kernel
theorem dX4_told_78 : decode cX4_told 78 = .ok (.getfield 184, 3) := by decide +kernel
theorem dX4_told_81 : decode cX4_told 81 = .ok (.ireturn, 1) := by decide +kernel
theorem dX4_told_82 : decode cX4_told 82 = .ok (.bipush (-102), 2) := by decide +kernel
theorem dX4_told_84 : decode cX4_told 84 = .ok (.ireturn, 1) := by decide +kernel
set_option maxRecDepth 20000 in
theorem ggX4_digest_X4_fold : GoodIn wsX4_digest wsX4_fold := goodIn_r _ [11, 12] (by decide +kernel) (by decide +kernel)
set_option maxRecDepth 20000 in
theorem gX4_digest_X4_fold : GoodIn wsX4_digest (va_wsS RX4 193 yX4_fold wsX4_fold) := goodIn_app (goodIn_of _ (by decide +kernel)) ggX4_digest_X4_fold
set_option maxRecDepth 20000 in
theorem ggX4_digest_X4_foldSpace : GoodIn wsX4_digest wsX4_foldSpace := goodIn_r _ [15, 16, 17, 18, 19, 20, 21, 22, 23, 24, 25, 26, 27, 8, 9, 10, 11, 12, 28, 29, 30, 31, 32, 33, 34, 35, 36, 37, 38, 39, 40, 41, 42, 64, 65, 66, 67, 58, 59, 60] (by decide +kernel) (by decide +kernel)
set_option maxRecDepth 20000 in
theorem gX4_digest_X4_foldSpace : GoodIn wsX4_digest (va_wsS RX4 197 yX4_foldSpace wsX4_foldSpace) := goodIn_app (goodIn_of _ (by decide +kernel)) ggX4_digest_X4_foldSpace
set_option maxRecDepth 20000 in
theorem ggX4_digest_X2_imageNumber : GoodIn wsX4_digest wsX2_imageNumber := goodIn_r _ [46, 47, 48, 37, 38, 39, 40, 41, 42, 68, 69, 70, 58, 59, 60] (by decide +kernel) (by decide +kernel)
set_option maxRecDepth 20000 in
theorem gX4_digest_X2_imageNumber_n167 : GoodIn wsX4_digest (wsX2_imageNumber) := ggX4_digest_X2_imageNumber
theorem dX4_digest_0 : decode cX4_digest 0 = .ok (.ldc2_w 191, 3) := by decide +kernel
theorem dX4_digest_3 : decode cX4_digest 3 = .ok (.aload_n 0, 1) := by decide +kernel
theorem dX4_digest_4 : decode cX4_digest 4 = .ok (.getfield 10, 3) := by decide +kernel
theorem dX4_digest_7 : decode cX4_digest 7 = .ok (.getfield 75, 3) := by decide +kernel
theorem dX4_digest_10 : decode cX4_digest 10 = .ok (.invokestatic 193, 3) := by decide +kernel
theorem dX4_digest_13 : decode cX4_digest 13 = .ok (.aload_n 0, 1) := by decide +kernel
theorem dX4_digest_14 : decode cX4_digest 14 = .ok (.getfield 10, 3) := by decide +kernel
theorem dX4_digest_17 : decode cX4_digest 17 = .ok (.getfield 136, 3) := by decide +kernel
theorem dX4_digest_20 : decode cX4_digest 20 = .ok (.invokestatic 193, 3) := by decide +kernel
theorem dX4_digest_23 : decode cX4_digest 23 = .ok (.lstore_n 1, 1) := by decide +kernel
theorem dX4_digest_24 : decode cX4_digest 24 = .ok (.iconst 0, 1) := by decide +kernel
theorem dX4_digest_25 : decode cX4_digest 25 = .ok (.istore_n 3, 1) := by decide +kernel
theorem dX4_digest_26 : decode cX4_digest 26 = .ok (.iload_n 3, 1) := by decide +kernel
theorem dX4_digest_27 : decode cX4_digest 27 = .ok (.bipush 12, 2) := by decide +kernel
theorem dX4_digest_29 : decode cX4_digest 29 = .ok (.if_icmp .ge 20, 3) := by decide +kernel
theorem dX4_digest_32 : decode cX4_digest 32 = .ok (.lload_n 1, 1) := by decide +kernel
theorem dX4_digest_33 : decode cX4_digest 33 = .ok (.aload_n 0, 1) := by decide +kernel
theorem dX4_digest_34 : decode cX4_digest 34 = .ok (.getfield 18, 3) := by decide +kernel
theorem dX4_digest_37 : decode cX4_digest 37 = .ok (.iload_n 3, 1) := by decide +kernel
theorem dX4_digest_38 : decode cX4_digest 38 = .ok (.aaload, 1) := by decide +kernel
theorem dX4_digest_39 : decode cX4_digest 39 = .ok (.invokestatic 197, 3) := by decide +kernel
theorem dX4_digest_42 : decode cX4_digest 42 = .ok (.lstore_n 1, 1) := by decide +kernel
theorem dX4_digest_43 : decode cX4_digest 43 = .ok (.iinc 3 1, 3) := by decide +kernel
theorem dX4_digest_46 : decode cX4_digest 46 = .ok (.goto (-20), 3) := by decide +kernel
theorem dX4_digest_49 : decode cX4_digest 49 = .ok (.iconst 0, 1) := by decide +kernel
theorem dX4_digest_50 : decode cX4_digest 50 = .ok (.istore_n 3, 1) := by decide +kernel
theorem dX4_digest_51 : decode cX4_digest 51 = .ok (.iload_n 3, 1) := by decide +kernel
theorem dX4_digest_52 : decode cX4_digest 52 = .ok (.aload_n 0, 1) := by decide +kernel
theorem dX4_digest_53 : decode cX4_digest 53 = .ok (.getfield 28, 3) := by decide +kernel
theorem dX4_digest_56 : decode cX4_digest 56 = .ok (.getfield 61, 3) := by decide +kernel
theorem dX4_digest_59 : decode cX4_digest 59 = .ok (.if_icmp .ge 23, 3) := by decide +kernel
theorem dX4_digest_62 : decode cX4_digest 62 = .ok (.lload_n 1, 1) := by decide +kernel
theorem dX4_digest_63 : decode cX4_digest 63 = .ok (.aload_n 0, 1) := by decide +kernel
theorem dX4_digest_64 : decode cX4_digest 64 = .ok (.getfield 28, 3) := by decide +kernel
theorem dX4_digest_67 : decode cX4_digest 67 = .ok (.getfield 151, 3) := by decide +kernel
theorem dX4_digest_70 : decode cX4_digest 70 = .ok (.iload_n 3, 1) := by decide +kernel
theorem dX4_digest_71 : decode cX4_digest 71 = .ok (.aaload, 1) := by decide +kernel
theorem dX4_digest_72 : decode cX4_digest 72 = .ok (.invokestatic 197, 3) := by decide +kernel
theorem dX4_digest_75 : decode cX4_digest 75 = .ok (.lstore_n 1, 1) := by decide +kernel
theorem dX4_digest_76 : decode cX4_digest 76 = .ok (.iinc 3 1, 3) := by decide +kernel
theorem dX4_digest_79 : decode cX4_digest 79 = .ok (.goto (-28), 3) := by decide +kernel
theorem dX4_digest_82 : decode cX4_digest 82 = .ok (.iconst 0, 1) := by decide +kernel
theorem dX4_digest_83 : decode cX4_digest 83 = .ok (.istore_n 3, 1) := by decide +kernel
theorem dX4_digest_84 : decode cX4_digest 84 = .ok (.iload_n 3, 1) := by decide +kernel
theorem dX4_digest_85 : decode cX4_digest 85 = .ok (.aload_n 0, 1) := by decide +kernel
theorem dX4_digest_86 : decode cX4_digest 86 = .ok (.getfield 10, 3) := by decide +kernel
theorem dX4_digest_89 : decode cX4_digest 89 = .ok (.getfield 136, 3) := by decide +kernel
theorem dX4_digest_92 : decode cX4_digest 92 = .ok (.if_icmp .ge 22, 3) := by decide +kernel
theorem dX4_digest_95 : decode cX4_digest 95 = .ok (.lload_n 1, 1) := by decide +kernel
theorem dX4_digest_96 : decode cX4_digest 96 = .ok (.aload_n 0, 1) := by decide +kernel
theorem dX4_digest_97 : decode cX4_digest 97 = .ok (.getfield 35, 3) := by decide +kernel
theorem dX4_digest_100 : decode cX4_digest 100 = .ok (.iload_n 3, 1) := by decide +kernel
theorem dX4_digest_101 : decode cX4_digest 101 = .ok (.invokevirtual 167, 3) := by decide +kernel
theorem dX4_digest_104 : decode cX4_digest 104 = .ok (.invokestatic 193, 3) := by decide +kernel
theorem dX4_digest_107 : decode cX4_digest 107 = .ok (.lstore_n 1, 1) := by decide +kernel
theorem dX4_digest_108 : decode cX4_digest 108 = .ok (.iinc 3 1, 3) := by decide +kernel
theorem dX4_digest_111 : decode cX4_digest 111 = .ok (.goto (-27), 3) := by decide +kernel
theorem dX4_digest_114 : decode cX4_digest 114 = .ok (.lload_n 1, 1) := by decide +kernel
theorem dX4_digest_115 : decode cX4_digest 115 = .ok (.aload_n 0, 1) := by decide +kernel
theorem dX4_digest_116 : decode cX4_digest 116 = .ok (.getfield 160, 3) := by decide +kernel
theorem dX4_digest_119 : decode cX4_digest 119 = .ok (.invokestatic 193, 3) := by decide +kernel
theorem dX4_digest_122 : decode cX4_digest 122 = .ok (.aload_n 0, 1) := by decide +kernel
theorem dX4_digest_123 : decode cX4_digest 123 = .ok (.getfield 184, 3) := by decide +kernel
theorem dX4_digest_126 : decode cX4_digest 126 = .ok (.invokestatic 193, 3) := by decide +kernel
theorem dX4_digest_129 : decode cX4_digest 129 = .ok (.lreturn, 1) := by decide +kernel
theorem dX4_mostPlaces_0 : decode cX4_mostPlaces 0 = .ok (.iload_n 0, 1) := by decide +kernel
theorem dX4_mostPlaces_1 : decode cX4_mostPlaces 1 = .ok (.tableswitch 38 2 5 #[31, 34, 38, 36], 31) := by decide +kernel
theorem dX4_mostPlaces_32 : decode cX4_mostPlaces 32 = .ok (.bipush 6, 2) := by decide +kernel
theorem dX4_mostPlaces_34 : decode cX4_mostPlaces 34 = .ok (.ireturn, 1) := by decide +kernel
theorem dX4_mostPlaces_35 : decode cX4_mostPlaces 35 = .ok (.iconst 5, 1) := by decide +kernel
theorem dX4_mostPlaces_36 : decode cX4_mostPlaces 36 = .ok (.ireturn, 1) := by decide +kernel
theorem dX4_mostPlaces_37 : decode cX4_mostPlaces 37 = .ok (.iconst 4, 1) := by decide +kernel
theorem dX4_mostPlaces_38 : decode cX4_mostPlaces 38 = .ok (.ireturn, 1) := by decide +kernel
theorem dX4_mostPlaces_39 : decode cX4_mostPlaces 39 = .ok (.iconst 0, 1) := by decide +kernel
theorem dX4_mostPlaces_40 : decode cX4_mostPlaces 40 = .ok (.ireturn, 1) := by decide +kernel
theorem dX4_isSlot_0 : decode cX4_isSlot 0 = .ok (.iload_n 0, 1) := by decide +kernel
theorem dX4_isSlot_1 : decode cX4_isSlot 1 = .ok (.ifCond .lt 13, 3) := by decide +kernel
theorem dX4_isSlot_4 : decode cX4_isSlot 4 = .ok (.iload_n 0, 1) := by decide +kernel
theorem dX4_isSlot_5 : decode cX4_isSlot 5 = .ok (.bipush 12, 2) := by decide +kernel
theorem dX4_isSlot_7 : decode cX4_isSlot 7 = .ok (.if_icmp .ge 7, 3) := by decide +kernel
theorem dX4_isSlot_10 : decode cX4_isSlot 10 = .ok (.iconst 1, 1) := by decide +kernel
theorem dX4_isSlot_11 : decode cX4_isSlot 11 = .ok (.goto 4, 3) := by decide +kernel
theorem dX4_isSlot_14 : decode cX4_isSlot 14 = .ok (.iconst 0, 1) := by decide +kernel
theorem dX4_isSlot_15 : decode cX4_isSlot 15 = .ok (.ireturn, 1) := by decide +kernel
theorem dX4_isDim_0 : decode cX4_isDim 0 = .ok (.iload_n 1, 1) := by decide +kernel
theorem dX4_isDim_1 : decode cX4_isDim 1 = .ok (.ifCond .lt 18, 3) := by decide +kernel
theorem dX4_isDim_4 : decode cX4_isDim 4 = .ok (.iload_n 1, 1) := by decide +kernel
theorem dX4_isDim_5 : decode cX4_isDim 5 = .ok (.aload_n 0, 1) := by decide +kernel
theorem dX4_isDim_6 : decode cX4_isDim 6 = .ok (.getfield 10, 3) := by decide +kernel
theorem dX4_isDim_9 : decode cX4_isDim 9 = .ok (.getfield 136, 3) := by decide +kernel
theorem dX4_isDim_12 : decode cX4_isDim 12 = .ok (.if_icmp .gt 7, 3) := by decide +kernel
theorem dX4_isDim_15 : decode cX4_isDim 15 = .ok (.iconst 1, 1) := by decide +kernel
theorem dX4_isDim_16 : decode cX4_isDim 16 = .ok (.goto 4, 3) := by decide +kernel
theorem dX4_isDim_19 : decode cX4_isDim 19 = .ok (.iconst 0, 1) := by decide +kernel
theorem dX4_isDim_20 : decode cX4_isDim 20 = .ok (.ireturn, 1) := by decide +kernel
set_option maxRecDepth 20000 in
theorem ggX4_settle_X3_copyFrom : GoodIn wsX4_settle wsX3_copyFrom := goodIn_r _ [5, 6, 7, 8, 9, 10, 11, 31, 32, 33, 34] (by decide +kernel) (by decide +kernel)
set_option maxRecDepth 20000 in
theorem gX4_settle_X3_copyFrom_n104 : GoodIn wsX4_settle (wsX3_copyFrom) := ggX4_settle_X3_copyFrom
set_option maxRecDepth 20000 in
theorem ggX4_settle_X3_rank : GoodIn wsX4_settle wsX3_rank := goodIn_r _ [14, 6, 15, 16, 17, 18, 19, 20, 21, 31, 32, 33, 34] (by decide +kernel) (by decide +kernel)
set_option maxRecDepth 20000 in
theorem gX4_settle_X3_rank_n97 : GoodIn wsX4_settle (wsX3_rank) := ggX4_settle_X3_rank
theorem dX4_settle_0 : decode cX4_settle 0 = .ok (.aload_n 0, 1) := by decide +kernel
theorem dX4_settle_1 : decode cX4_settle 1 = .ok (.getfield 18, 3) := by decide +kernel
theorem dX4_settle_4 : decode cX4_settle 4 = .ok (.iload_n 2, 1) := by decide +kernel
theorem dX4_settle_5 : decode cX4_settle 5 = .ok (.aaload, 1) := by decide +kernel
theorem dX4_settle_6 : decode cX4_settle 6 = .ok (.aload_n 1, 1) := by decide +kernel
theorem dX4_settle_7 : decode cX4_settle 7 = .ok (.invokevirtual 104, 3) := by decide +kernel
theorem dX4_settle_10 : decode cX4_settle 10 = .ok (.aload_n 1, 1) := by decide +kernel
theorem dX4_settle_11 : decode cX4_settle 11 = .ok (.invokevirtual 97, 3) := by decide +kernel
theorem dX4_settle_14 : decode cX4_settle 14 = .ok (.ireturn, 1) := by decide +kernel
set_option maxRecDepth 20000 in
theorem ggX4_timesTillAgain_X3_copyFrom : GoodIn wsX4_timesTillAgain wsX3_copyFrom := goodIn_r _ [12, 13, 14, 15, 16, 17, 18, 104, 105, 106, 107] (by decide +kernel) (by decide +kernel)
set_option maxRecDepth 20000 in
theorem gX4_timesTillAgain_X3_copyFrom_n104 : GoodIn wsX4_timesTillAgain (wsX3_copyFrom) := ggX4_timesTillAgain_X3_copyFrom
set_option maxRecDepth 20000 in
theorem ggX4_timesTillAgain_X2_applyToSpace : GoodIn wsX4_timesTillAgain wsX2_applyToSpace := goodIn_r _ [22, 23, 24, 25, 10, 26, 27, 13, 28, 29, 30, 31, 32, 33, 34, 20, 35, 36, 37, 38, 39, 40, 41, 42, 43, 44, 45, 46, 47, 48, 49, 50, 15, 16, 17, 18, 51, 52, 53, 54, 14, 55, 56, 57, 58, 59, 60, 61, 62, 63, 64, 65, 66, 108, 109, 110, 101, 102, 103, 104, 105, 106, 107] (by decide +kernel) (by decide +kernel)
set_option maxRecDepth 20000 in
theorem gX4_timesTillAgain_X2_applyToSpace_n177 : GoodIn wsX4_timesTillAgain (wsX2_applyToSpace) := ggX4_timesTillAgain_X2_applyToSpace
set_option maxRecDepth 20000 in
theorem ggX4_timesTillAgain_X3_rank : GoodIn wsX4_timesTillAgain wsX3_rank := goodIn_r _ [69, 13, 70, 71, 72, 73, 74, 75, 76, 104, 105, 106, 107] (by decide +kernel) (by decide +kernel)
set_option maxRecDepth 20000 in
theorem gX4_timesTillAgain_X3_rank_n97 : GoodIn wsX4_timesTillAgain (wsX3_rank) := ggX4_timesTillAgain_X3_rank
set_option maxRecDepth 20000 in
theorem ggX4_timesTillAgain_X3_sameAs : GoodIn wsX4_timesTillAgain wsX3_sameAs := goodIn_r _ [79, 13, 80, 81, 82, 10, 83, 31, 14, 59, 28, 29, 30, 84, 85, 86, 87, 88, 89, 90, 91, 104, 105, 106, 107, 101, 102, 103] (by decide +kernel) (by decide +kernel)
set_option maxRecDepth 20000 in
theorem gX4_timesTillAgain_X3_sameAs_n206 : GoodIn wsX4_timesTillAgain (wsX3_sameAs) := ggX4_timesTillAgain_X3_sameAs
theorem dX4_timesTillAgain_0 : decode cX4_timesTillAgain 0 = .ok (.sipush 3000, 3) := by decide +kernel
theorem dX4_timesTillAgain_3 : decode cX4_timesTillAgain 3 = .ok (.aload_n 0, 1) := by decide +kernel
theorem dX4_timesTillAgain_4 : decode cX4_timesTillAgain 4 = .ok (.getfield 10, 3) := by decide +kernel
theorem dX4_timesTillAgain_7 : decode cX4_timesTillAgain 7 = .ok (.getfield 68, 3) := by decide +kernel
theorem dX4_timesTillAgain_10 : decode cX4_timesTillAgain 10 = .ok (.invokestatic 201, 3) := by decide +kernel
theorem dX4_timesTillAgain_13 : decode cX4_timesTillAgain 13 = .ok (.istore_n 2, 1) := by decide +kernel
theorem dX4_timesTillAgain_14 : decode cX4_timesTillAgain 14 = .ok (.aload_n 0, 1) := by decide +kernel
theorem dX4_timesTillAgain_15 : decode cX4_timesTillAgain 15 = .ok (.getfield 43, 3) := by decide +kernel
theorem dX4_timesTillAgain_18 : decode cX4_timesTillAgain 18 = .ok (.aload_n 1, 1) := by decide +kernel
theorem dX4_timesTillAgain_19 : decode cX4_timesTillAgain 19 = .ok (.invokevirtual 104, 3) := by decide +kernel
theorem dX4_timesTillAgain_22 : decode cX4_timesTillAgain 22 = .ok (.iconst 1, 1) := by decide +kernel
theorem dX4_timesTillAgain_23 : decode cX4_timesTillAgain 23 = .ok (.istore_n 3, 1) := by decide +kernel
theorem dX4_timesTillAgain_24 : decode cX4_timesTillAgain 24 = .ok (.iload_n 3, 1) := by decide +kernel
theorem dX4_timesTillAgain_25 : decode cX4_timesTillAgain 25 = .ok (.iload_n 2, 1) := by decide +kernel
theorem dX4_timesTillAgain_26 : decode cX4_timesTillAgain 26 = .ok (.if_icmp .gt 64, 3) := by decide +kernel
theorem dX4_timesTillAgain_29 : decode cX4_timesTillAgain 29 = .ok (.aload_n 0, 1) := by decide +kernel
theorem dX4_timesTillAgain_30 : decode cX4_timesTillAgain 30 = .ok (.getfield 35, 3) := by decide +kernel
theorem dX4_timesTillAgain_33 : decode cX4_timesTillAgain 33 = .ok (.aload_n 0, 1) := by decide +kernel
theorem dX4_timesTillAgain_34 : decode cX4_timesTillAgain 34 = .ok (.getfield 43, 3) := by decide +kernel
theorem dX4_timesTillAgain_37 : decode cX4_timesTillAgain 37 = .ok (.aload_n 0, 1) := by decide +kernel
theorem dX4_timesTillAgain_38 : decode cX4_timesTillAgain 38 = .ok (.getfield 39, 3) := by decide +kernel
theorem dX4_timesTillAgain_41 : decode cX4_timesTillAgain 41 = .ok (.invokevirtual 177, 3) := by decide +kernel
theorem dX4_timesTillAgain_44 : decode cX4_timesTillAgain 44 = .ok (.aload_n 0, 1) := by decide +kernel
theorem dX4_timesTillAgain_45 : decode cX4_timesTillAgain 45 = .ok (.getfield 39, 3) := by decide +kernel
theorem dX4_timesTillAgain_48 : decode cX4_timesTillAgain 48 = .ok (.invokevirtual 97, 3) := by decide +kernel
theorem dX4_timesTillAgain_51 : decode cX4_timesTillAgain 51 = .ok (.aload_n 1, 1) := by decide +kernel
theorem dX4_timesTillAgain_52 : decode cX4_timesTillAgain 52 = .ok (.invokevirtual 97, 3) := by decide +kernel
theorem dX4_timesTillAgain_55 : decode cX4_timesTillAgain 55 = .ok (.if_icmp .ge 5, 3) := by decide +kernel
theorem dX4_timesTillAgain_58 : decode cX4_timesTillAgain 58 = .ok (.iconst (-1), 1) := by decide +kernel
theorem dX4_timesTillAgain_59 : decode cX4_timesTillAgain 59 = .ok (.ireturn, 1) := by decide +kernel
theorem dX4_timesTillAgain_60 : decode cX4_timesTillAgain 60 = .ok (.aload_n 0, 1) := by decide +kernel
theorem dX4_timesTillAgain_61 : decode cX4_timesTillAgain 61 = .ok (.getfield 39, 3) := by decide +kernel
theorem dX4_timesTillAgain_64 : decode cX4_timesTillAgain 64 = .ok (.aload_n 1, 1) := by decide +kernel
theorem dX4_timesTillAgain_65 : decode cX4_timesTillAgain 65 = .ok (.invokevirtual 206, 3) := by decide +kernel
theorem dX4_timesTillAgain_68 : decode cX4_timesTillAgain 68 = .ok (.ifCond .eq 5, 3) := by decide +kernel
theorem dX4_timesTillAgain_71 : decode cX4_timesTillAgain 71 = .ok (.iload_n 3, 1) := by decide +kernel
theorem dX4_timesTillAgain_72 : decode cX4_timesTillAgain 72 = .ok (.ireturn, 1) := by decide +kernel
theorem dX4_timesTillAgain_73 : decode cX4_timesTillAgain 73 = .ok (.aload_n 0, 1) := by decide +kernel
theorem dX4_timesTillAgain_74 : decode cX4_timesTillAgain 74 = .ok (.getfield 43, 3) := by decide +kernel
theorem dX4_timesTillAgain_77 : decode cX4_timesTillAgain 77 = .ok (.aload_n 0, 1) := by decide +kernel
theorem dX4_timesTillAgain_78 : decode cX4_timesTillAgain 78 = .ok (.getfield 39, 3) := by decide +kernel
theorem dX4_timesTillAgain_81 : decode cX4_timesTillAgain 81 = .ok (.invokevirtual 104, 3) := by decide +kernel
theorem dX4_timesTillAgain_84 : decode cX4_timesTillAgain 84 = .ok (.iinc 3 1, 3) := by decide +kernel
theorem dX4_timesTillAgain_87 : decode cX4_timesTillAgain 87 = .ok (.goto (-63), 3) := by decide +kernel
theorem dX4_timesTillAgain_90 : decode cX4_timesTillAgain 90 = .ok (.iconst (-1), 1) := by decide +kernel
theorem dX4_timesTillAgain_91 : decode cX4_timesTillAgain 91 = .ok (.ireturn, 1) := by decide +kernel
theorem dX4_fold_0 : decode cX4_fold 0 = .ok (.ldc2_w 209, 3) := by decide +kernel
theorem dX4_fold_3 : decode cX4_fold 3 = .ok (.lload_n 0, 1) := by decide +kernel
theorem dX4_fold_4 : decode cX4_fold 4 = .ok (.lmul, 1) := by decide +kernel
theorem dX4_fold_5 : decode cX4_fold 5 = .ok (.iload_n 2, 1) := by decide +kernel
theorem dX4_fold_6 : decode cX4_fold 6 = .ok (.i2l, 1) := by decide +kernel
theorem dX4_fold_7 : decode cX4_fold 7 = .ok (.ladd, 1) := by decide +kernel
theorem dX4_fold_8 : decode cX4_fold 8 = .ok (.lreturn, 1) := by decide +kernel
set_option maxRecDepth 20000 in
theorem ggX4_foldSpace_X3_rank : GoodIn wsX4_foldSpace wsX3_rank := goodIn_r _ [4, 5, 6, 7, 8, 9, 10, 11, 12, 33, 34, 35, 36] (by decide +kernel) (by decide +kernel)
set_option maxRecDepth 20000 in
theorem gX4_foldSpace_X3_rank_n97 : GoodIn wsX4_foldSpace (wsX3_rank) := ggX4_foldSpace_X3_rank
set_option maxRecDepth 20000 in
theorem ggX4_foldSpace_X4_fold : GoodIn wsX4_foldSpace wsX4_fold := goodIn_r _ [16, 17] (by decide +kernel) (by decide +kernel)
set_option maxRecDepth 20000 in
theorem gX4_foldSpace_X4_fold : GoodIn wsX4_foldSpace (va_wsS RX4 193 yX4_fold wsX4_fold) := goodIn_app (goodIn_of _ (by decide +kernel)) ggX4_foldSpace_X4_fold
set_option maxRecDepth 20000 in
theorem ggX4_foldSpace_X3_rowNumber : GoodIn wsX4_foldSpace wsX3_rowNumber := goodIn_r _ [20, 21, 22, 23, 24, 25, 2, 26, 5, 27, 28, 29, 30, 31, 32, 33, 34, 35, 36, 37, 38, 39] (by decide +kernel) (by decide +kernel)
set_option maxRecDepth 20000 in
theorem gX4_foldSpace_X3_rowNumber_n101 : GoodIn wsX4_foldSpace (wsX3_rowNumber) := ggX4_foldSpace_X3_rowNumber
theorem dX4_foldSpace_0 : decode cX4_foldSpace 0 = .ok (.aload_n 2, 1) := by decide +kernel
theorem dX4_foldSpace_1 : decode cX4_foldSpace 1 = .ok (.invokevirtual 97, 3) := by decide +kernel
theorem dX4_foldSpace_4 : decode cX4_foldSpace 4 = .ok (.istore_n 3, 1) := by decide +kernel
theorem dX4_foldSpace_5 : decode cX4_foldSpace 5 = .ok (.lload_n 0, 1) := by decide +kernel
theorem dX4_foldSpace_6 : decode cX4_foldSpace 6 = .ok (.iload_n 3, 1) := by decide +kernel
theorem dX4_foldSpace_7 : decode cX4_foldSpace 7 = .ok (.invokestatic 193, 3) := by decide +kernel
theorem dX4_foldSpace_10 : decode cX4_foldSpace 10 = .ok (.lstore 4, 2) := by decide +kernel
theorem dX4_foldSpace_12 : decode cX4_foldSpace 12 = .ok (.iconst 0, 1) := by decide +kernel
theorem dX4_foldSpace_13 : decode cX4_foldSpace 13 = .ok (.istore 6, 2) := by decide +kernel
theorem dX4_foldSpace_15 : decode cX4_foldSpace 15 = .ok (.iload 6, 2) := by decide +kernel
theorem dX4_foldSpace_17 : decode cX4_foldSpace 17 = .ok (.iload_n 3, 1) := by decide +kernel
theorem dX4_foldSpace_18 : decode cX4_foldSpace 18 = .ok (.if_icmp .ge 22, 3) := by decide +kernel
theorem dX4_foldSpace_21 : decode cX4_foldSpace 21 = .ok (.lload 4, 2) := by decide +kernel
theorem dX4_foldSpace_23 : decode cX4_foldSpace 23 = .ok (.aload_n 2, 1) := by decide +kernel
theorem dX4_foldSpace_24 : decode cX4_foldSpace 24 = .ok (.iload 6, 2) := by decide +kernel
theorem dX4_foldSpace_26 : decode cX4_foldSpace 26 = .ok (.invokevirtual 101, 3) := by decide +kernel
theorem dX4_foldSpace_29 : decode cX4_foldSpace 29 = .ok (.invokestatic 193, 3) := by decide +kernel
theorem dX4_foldSpace_32 : decode cX4_foldSpace 32 = .ok (.lstore 4, 2) := by decide +kernel
theorem dX4_foldSpace_34 : decode cX4_foldSpace 34 = .ok (.iinc 6 1, 3) := by decide +kernel
theorem dX4_foldSpace_37 : decode cX4_foldSpace 37 = .ok (.goto (-22), 3) := by decide +kernel
theorem dX4_foldSpace_40 : decode cX4_foldSpace 40 = .ok (.lload 4, 2) := by decide +kernel
theorem dX4_foldSpace_42 : decode cX4_foldSpace 42 = .ok (.lreturn, 1) := by decide +kernel
set_option maxRecDepth 20000 in
theorem ggX5_init_X5_begin : GoodIn wsX5_init wsX5_begin := goodIn_r _ [21, 15, 16, 22, 9, 23, 5, 24, 25, 20, 26, 27, 28, 29, 30, 31, 32, 33, 34, 35, 36, 37, 38, 39, 40, 41, 42] (by decide +kernel) (by decide +kernel)
set_option maxRecDepth 20000 in
theorem gX5_init_X5_begin : GoodIn wsX5_init (wsV RX5 45 RX5 yX5_begin wsX5_begin) := goodIn_app (goodIn_of _ (by decide +kernel)) ggX5_init_X5_begin
theorem dX5_init_0 : decode cX5_init 0 = .ok (.aload_n 0, 1) := by decide +kernel
theorem dX5_init_1 : decode cX5_init 1 = .ok (.invokespecial 1, 3) := by decide +kernel
theorem dX5_init_4 : decode cX5_init 4 = .ok (.aload_n 0, 1) := by decide +kernel
theorem dX5_init_5 : decode cX5_init 5 = .ok (.bipush 6, 2) := by decide +kernel
theorem dX5_init_7 : decode cX5_init 7 = .ok (.newarray .int, 2) := by decide +kernel
theorem dX5_init_9 : decode cX5_init 9 = .ok (.putfield 7, 3) := by decide +kernel
theorem dX5_init_12 : decode cX5_init 12 = .ok (.aload_n 0, 1) := by decide +kernel
theorem dX5_init_13 : decode cX5_init 13 = .ok (.bipush 24, 2) := by decide +kernel
theorem dX5_init_15 : decode cX5_init 15 = .ok (.newarray .int, 2) := by decide +kernel
theorem dX5_init_17 : decode cX5_init 17 = .ok (.putfield 13, 3) := by decide +kernel
theorem dX5_init_20 : decode cX5_init 20 = .ok (.aload_n 0, 1) := by decide +kernel
theorem dX5_init_21 : decode cX5_init 21 = .ok (.bipush 6, 2) := by decide +kernel
theorem dX5_init_23 : decode cX5_init 23 = .ok (.newarray .boolean, 2) := by decide +kernel
theorem dX5_init_25 : decode cX5_init 25 = .ok (.putfield 16, 3) := by decide +kernel
theorem dX5_init_28 : decode cX5_init 28 = .ok (.aload_n 0, 1) := by decide +kernel
theorem dX5_init_29 : decode cX5_init 29 = .ok (.bipush 12, 2) := by decide +kernel
theorem dX5_init_31 : decode cX5_init 31 = .ok (.newarray .int, 2) := by decide +kernel
theorem dX5_init_33 : decode cX5_init 33 = .ok (.putfield 20, 3) := by decide +kernel
theorem dX5_init_36 : decode cX5_init 36 = .ok (.aload_n 0, 1) := by decide +kernel
theorem dX5_init_37 : decode cX5_init 37 = .ok (.bipush 72, 2) := by decide +kernel
theorem dX5_init_39 : decode cX5_init 39 = .ok (.newarray .int, 2) := by decide +kernel
theorem dX5_init_41 : decode cX5_init 41 = .ok (.putfield 23, 3) := by decide +kernel
theorem dX5_init_44 : decode cX5_init 44 = .ok (.aload_n 0, 1) := by decide +kernel
theorem dX5_init_45 : decode cX5_init 45 = .ok (.bipush 6, 2) := by decide +kernel
theorem dX5_init_47 : decode cX5_init 47 = .ok (.newarray .int, 2) := by decide +kernel
theorem dX5_init_49 : decode cX5_init 49 = .ok (.putfield 26, 3) := by decide +kernel
theorem dX5_init_52 : decode cX5_init 52 = .ok (.aload_n 0, 1) := by decide +kernel
theorem dX5_init_53 : decode cX5_init 53 = .ok (.bipush 6, 2) := by decide +kernel
theorem dX5_init_55 : decode cX5_init 55 = .ok (.newarray .int, 2) := by decide +kernel
theorem dX5_init_57 : decode cX5_init 57 = .ok (.putfield 29, 3) := by decide +kernel
theorem dX5_init_60 : decode cX5_init 60 = .ok (.aload_n 0, 1) := by decide +kernel
theorem dX5_init_61 : decode cX5_init 61 = .ok (.bipush 40, 2) := by decide +kernel
theorem dX5_init_63 : decode cX5_init 63 = .ok (.newarray .int, 2) := by decide +kernel
theorem dX5_init_65 : decode cX5_init 65 = .ok (.putfield 32, 3) := by decide +kernel
theorem dX5_init_68 : decode cX5_init 68 = .ok (.aload_n 0, 1) := by decide +kernel
theorem dX5_init_69 : decode cX5_init 69 = .ok (.sipush 240, 3) := by decide +kernel
theorem dX5_init_72 : decode cX5_init 72 = .ok (.newarray .int, 2) := by decide +kernel
theorem dX5_init_74 : decode cX5_init 74 = .ok (.putfield 35, 3) := by decide +kernel
theorem dX5_init_77 : decode cX5_init 77 = .ok (.aload_n 0, 1) := by decide +kernel
theorem dX5_init_78 : decode cX5_init 78 = .ok (.iconst 2, 1) := by decide +kernel
theorem dX5_init_79 : decode cX5_init 79 = .ok (.putfield 38, 3) := by decide +kernel
theorem dX5_init_82 : decode cX5_init 82 = .ok (.aload_n 0, 1) := by decide +kernel
theorem dX5_init_83 : decode cX5_init 83 = .ok (.iconst 1, 1) := by decide +kernel
theorem dX5_init_84 : decode cX5_init 84 = .ok (.putfield 42, 3) := by decide +kernel
theorem dX5_init_87 : decode cX5_init 87 = .ok (.aload_n 0, 1) := by decide +kernel
theorem dX5_init_88 : decode cX5_init 88 = .ok (.invokevirtual 45, 3) := by decide +kernel
theorem dX5_init_91 : decode cX5_init 91 = .ok (.return_, 1) := by decide +kernel
theorem dX5_in_0 : decode cX5_in 0 = .ok (.lload_n 0, 1) := by decide +kernel
theorem dX5_in_1 : decode cX5_in 1 = .ok (.lload_n 2, 1) := by decide +kernel
theorem dX5_in_2 : decode cX5_in 2 = .ok (.lcmp, 1) := by decide +kernel
theorem dX5_in_3 : decode cX5_in 3 = .ok (.ifCond .lt 14, 3) := by decide +kernel
theorem dX5_in_6 : decode cX5_in 6 = .ok (.lload_n 0, 1) := by decide +kernel
theorem dX5_in_7 : decode cX5_in 7 = .ok (.lload 4, 2) := by decide +kernel
theorem dX5_in_9 : decode cX5_in 9 = .ok (.lcmp, 1) := by decide +kernel
theorem dX5_in_10 : decode cX5_in 10 = .ok (.ifCond .gt 7, 3) := by decide +kernel
theorem dX5_in_13 : decode cX5_in 13 = .ok (.iconst 1, 1) := by decide +kernel
theorem dX5_in_14 : decode cX5_in 14 = .ok (.goto 4, 3) := by decide +kernel
theorem dX5_in_17 : decode cX5_in 17 = .ok (.iconst 0, 1) := by decide +kernel
theorem dX5_in_18 : decode cX5_in 18 = .ok (.ireturn, 1) := by decide +kernel
theorem dX5_power_0 : decode cX5_power 0 = .ok (.iconst 1, 1) := by decide +kernel
theorem dX5_power_1 : decode cX5_power 1 = .ok (.istore_n 2, 1) := by decide +kernel
theorem dX5_power_2 : decode cX5_power 2 = .ok (.iconst 0, 1) := by decide +kernel
theorem dX5_power_3 : decode cX5_power 3 = .ok (.istore_n 3, 1) := by decide +kernel
theorem dX5_power_4 : decode cX5_power 4 = .ok (.iload_n 3, 1) := by decide +kernel
theorem dX5_power_5 : decode cX5_power 5 = .ok (.iload_n 1, 1) := by decide +kernel
theorem dX5_power_6 : decode cX5_power 6 = .ok (.if_icmp .ge 13, 3) := by decide +kernel
theorem dX5_power_9 : decode cX5_power 9 = .ok (.iload_n 2, 1) := by decide +kernel
theorem dX5_power_10 : decode cX5_power 10 = .ok (.iload_n 0, 1) := by decide +kernel
theorem dX5_power_11 : decode cX5_power 11 = .ok (.imul, 1) := by decide +kernel
theorem dX5_power_12 : decode cX5_power 12 = .ok (.istore_n 2, 1) := by decide +kernel
theorem dX5_power_13 : decode cX5_power 13 = .ok (.iinc 3 1, 3) := by decide +kernel
theorem dX5_power_16 : decode cX5_power 16 = .ok (.goto (-12), 3) := by decide +kernel
theorem dX5_power_19 : decode cX5_power 19 = .ok (.iload_n 2, 1) := by decide +kernel
theorem dX5_power_20 : decode cX5_power 20 = .ok (.ireturn, 1) := by decide +kernel
set_option maxRecDepth 20000 in
theorem ggX5_begin_X5_power : GoodIn wsX5_begin wsX5_power := goodIn_r _ [10] (by decide +kernel) (by decide +kernel)
set_option maxRecDepth 20000 in
theorem gX5_begin_X5_power : GoodIn wsX5_begin (va_wsS RX5 48 yX5_power wsX5_power) := goodIn_app (goodIn_of _ (by decide +kernel)) ggX5_begin_X5_power
theorem dX5_begin_0 : decode cX5_begin 0 = .ok (.aload_n 0, 1) := by decide +kernel
theorem dX5_begin_1 : decode cX5_begin 1 = .ok (.aload_n 0, 1) := by decide +kernel
theorem dX5_begin_2 : decode cX5_begin 2 = .ok (.getfield 38, 3) := by decide +kernel
theorem dX5_begin_5 : decode cX5_begin 5 = .ok (.aload_n 0, 1) := by decide +kernel
theorem dX5_begin_6 : decode cX5_begin 6 = .ok (.getfield 42, 3) := by decide +kernel
theorem dX5_begin_9 : decode cX5_begin 9 = .ok (.invokestatic 48, 3) := by decide +kernel
theorem dX5_begin_12 : decode cX5_begin 12 = .ok (.putfield 52, 3) := by decide +kernel
theorem dX5_begin_15 : decode cX5_begin 15 = .ok (.iconst 0, 1) := by decide +kernel
theorem dX5_begin_16 : decode cX5_begin 16 = .ok (.istore_n 1, 1) := by decide +kernel
theorem dX5_begin_17 : decode cX5_begin 17 = .ok (.iload_n 1, 1) := by decide +kernel
theorem dX5_begin_18 : decode cX5_begin 18 = .ok (.bipush 12, 2) := by decide +kernel
theorem dX5_begin_20 : decode cX5_begin 20 = .ok (.if_icmp .ge 16, 3) := by decide +kernel
theorem dX5_begin_23 : decode cX5_begin 23 = .ok (.aload_n 0, 1) := by decide +kernel
theorem dX5_begin_24 : decode cX5_begin 24 = .ok (.getfield 20, 3) := by decide +kernel
theorem dX5_begin_27 : decode cX5_begin 27 = .ok (.iload_n 1, 1) := by decide +kernel
theorem dX5_begin_28 : decode cX5_begin 28 = .ok (.iconst 0, 1) := by decide +kernel
theorem dX5_begin_29 : decode cX5_begin 29 = .ok (.iastore, 1) := by decide +kernel
theorem dX5_begin_30 : decode cX5_begin 30 = .ok (.iinc 1 1, 3) := by decide +kernel
theorem dX5_begin_33 : decode cX5_begin 33 = .ok (.goto (-16), 3) := by decide +kernel
theorem dX5_begin_36 : decode cX5_begin 36 = .ok (.aload_n 0, 1) := by decide +kernel
theorem dX5_begin_37 : decode cX5_begin 37 = .ok (.iconst 0, 1) := by decide +kernel
theorem dX5_begin_38 : decode cX5_begin 38 = .ok (.putfield 55, 3) := by decide +kernel
theorem dX5_begin_41 : decode cX5_begin 41 = .ok (.iconst 0, 1) := by decide +kernel
theorem dX5_begin_42 : decode cX5_begin 42 = .ok (.istore_n 1, 1) := by decide +kernel
theorem dX5_begin_43 : decode cX5_begin 43 = .ok (.iload_n 1, 1) := by decide +kernel
theorem dX5_begin_44 : decode cX5_begin 44 = .ok (.aload_n 0, 1) := by decide +kernel
theorem dX5_begin_45 : decode cX5_begin 45 = .ok (.getfield 42, 3) := by decide +kernel
theorem dX5_begin_48 : decode cX5_begin 48 = .ok (.if_icmp .ge 30, 3) := by decide +kernel
theorem dX5_begin_51 : decode cX5_begin 51 = .ok (.aload_n 0, 1) := by decide +kernel
theorem dX5_begin_52 : decode cX5_begin 52 = .ok (.getfield 7, 3) := by decide +kernel
theorem dX5_begin_55 : decode cX5_begin 55 = .ok (.iload_n 1, 1) := by decide +kernel
theorem dX5_begin_56 : decode cX5_begin 56 = .ok (.aload_n 0, 1) := by decide +kernel
theorem dX5_begin_57 : decode cX5_begin 57 = .ok (.getfield 38, 3) := by decide +kernel
theorem dX5_begin_60 : decode cX5_begin 60 = .ok (.aload_n 0, 1) := by decide +kernel
theorem dX5_begin_61 : decode cX5_begin 61 = .ok (.getfield 42, 3) := by decide +kernel
theorem dX5_begin_64 : decode cX5_begin 64 = .ok (.iconst 1, 1) := by decide +kernel
theorem dX5_begin_65 : decode cX5_begin 65 = .ok (.isub, 1) := by decide +kernel
theorem dX5_begin_66 : decode cX5_begin 66 = .ok (.iload_n 1, 1) := by decide +kernel
theorem dX5_begin_67 : decode cX5_begin 67 = .ok (.isub, 1) := by decide +kernel
theorem dX5_begin_68 : decode cX5_begin 68 = .ok (.invokestatic 48, 3) := by decide +kernel
theorem dX5_begin_71 : decode cX5_begin 71 = .ok (.iastore, 1) := by decide +kernel
theorem dX5_begin_72 : decode cX5_begin 72 = .ok (.iinc 1 1, 3) := by decide +kernel
theorem dX5_begin_75 : decode cX5_begin 75 = .ok (.goto (-32), 3) := by decide +kernel
theorem dX5_begin_78 : decode cX5_begin 78 = .ok (.return_, 1) := by decide +kernel
set_option maxRecDepth 20000 in
theorem ggX5_field_X5_in : GoodIn wsX5_field wsX5_in := goodIn_r _ [7] (by decide +kernel) (by decide +kernel)
set_option maxRecDepth 20000 in
theorem gX5_field_X5_in : GoodIn wsX5_field (va_wsS RX5 58 yX5_in wsX5_in) := goodIn_app (goodIn_of _ (by decide +kernel)) ggX5_field_X5_in
set_option maxRecDepth 20000 in
theorem ggX5_field_X5_begin : GoodIn wsX5_field wsX5_begin := goodIn_r _ [11, 1, 2, 3, 12, 13, 14, 15, 16, 6, 17, 18, 19, 20, 21, 22, 23, 24, 25, 26, 27, 28, 29, 30, 31, 32, 33] (by decide +kernel) (by decide +kernel)
set_option maxRecDepth 20000 in
theorem gX5_field_X5_begin : GoodIn wsX5_field (wsV RX5 45 RX5 yX5_begin wsX5_begin) := goodIn_app (goodIn_of _ (by decide +kernel)) ggX5_field_X5_begin
theorem dX5_field_0 : decode cX5_field 0 = .ok (.iload_n 1, 1) := by decide +kernel
theorem dX5_field_1 : decode cX5_field 1 = .ok (.iconst 2, 1) := by decide +kernel
theorem dX5_field_2 : decode cX5_field 2 = .ok (.if_icmp .ne 8, 3) := by decide +kernel
theorem dX5_field_5 : decode cX5_field 5 = .ok (.bipush 6, 2) := by decide +kernel
theorem dX5_field_7 : decode cX5_field 7 = .ok (.goto 22, 3) := by decide +kernel
theorem dX5_field_10 : decode cX5_field 10 = .ok (.iload_n 1, 1) := by decide +kernel
theorem dX5_field_11 : decode cX5_field 11 = .ok (.iconst 3, 1) := by decide +kernel
theorem dX5_field_12 : decode cX5_field 12 = .ok (.if_icmp .ne 7, 3) := by decide +kernel
theorem dX5_field_15 : decode cX5_field 15 = .ok (.iconst 5, 1) := by decide +kernel
theorem dX5_field_16 : decode cX5_field 16 = .ok (.goto 13, 3) := by decide +kernel
theorem dX5_field_19 : decode cX5_field 19 = .ok (.iload_n 1, 1) := by decide +kernel
theorem dX5_field_20 : decode cX5_field 20 = .ok (.iconst 5, 1) := by decide +kernel
theorem dX5_field_21 : decode cX5_field 21 = .ok (.if_icmp .ne 7, 3) := by decide +kernel
theorem dX5_field_24 : decode cX5_field 24 = .ok (.iconst 4, 1) := by decide +kernel
theorem dX5_field_25 : decode cX5_field 25 = .ok (.goto 4, 3) := by decide +kernel
theorem dX5_field_28 : decode cX5_field 28 = .ok (.iconst 0, 1) := by decide +kernel
theorem dX5_field_29 : decode cX5_field 29 = .ok (.istore_n 3, 1) := by decide +kernel
theorem dX5_field_30 : decode cX5_field 30 = .ok (.iload_n 2, 1) := by decide +kernel
theorem dX5_field_31 : decode cX5_field 31 = .ok (.i2l, 1) := by decide +kernel
theorem dX5_field_32 : decode cX5_field 32 = .ok (.lconst 1, 1) := by decide +kernel
theorem dX5_field_33 : decode cX5_field 33 = .ok (.iload_n 3, 1) := by decide +kernel
theorem dX5_field_34 : decode cX5_field 34 = .ok (.i2l, 1) := by decide +kernel
theorem dX5_field_35 : decode cX5_field 35 = .ok (.invokestatic 58, 3) := by decide +kernel
theorem dX5_field_38 : decode cX5_field 38 = .ok (.ifCond .ne 6, 3) := by decide +kernel
theorem dX5_field_41 : decode cX5_field 41 = .ok (.bipush (-102), 2) := by decide +kernel
theorem dX5_field_43 : decode cX5_field 43 = .ok (.ireturn, 1) := by decide +kernel
theorem dX5_field_44 : decode cX5_field 44 = .ok (.aload_n 0, 1) := by decide +kernel
theorem dX5_field_45 : decode cX5_field 45 = .ok (.iload_n 1, 1) := by decide +kernel
theorem dX5_field_46 : decode cX5_field 46 = .ok (.putfield 38, 3) := by decide +kernel
theorem dX5_field_49 : decode cX5_field 49 = .ok (.aload_n 0, 1) := by decide +kernel
theorem dX5_field_50 : decode cX5_field 50 = .ok (.iload_n 2, 1) := by decide +kernel
theorem dX5_field_51 : decode cX5_field 51 = .ok (.putfield 42, 3) := by decide +kernel
theorem dX5_field_54 : decode cX5_field 54 = .ok (.aload_n 0, 1) := by decide +kernel
theorem dX5_field_55 : decode cX5_field 55 = .ok (.invokevirtual 45, 3) := by decide +kernel
theorem dX5_field_58 : decode cX5_field 58 = .ok (.aload_n 0, 1) := by decide +kernel
theorem dX5_field_59 : decode cX5_field 59 = .ok (.getfield 52, 3) := by decide +kernel
theorem dX5_field_62 : decode cX5_field 62 = .ok (.ireturn, 1) := by decide +kernel
set_option maxRecDepth 20000 in
theorem ggX5_figure_X5_power : GoodIn wsX5_figure wsX5_power := goodIn_r _ [6] (by decide +kernel) (by decide +kernel)
set_option maxRecDepth 20000 in
theorem gX5_figure_X5_power : GoodIn wsX5_figure (va_wsS RX5 48 yX5_power wsX5_power) := goodIn_app (goodIn_of _ (by decide +kernel)) ggX5_figure_X5_power
theorem dX5_figure_0 : decode cX5_figure 0 = .ok (.iload_n 1, 1) := by decide +kernel
theorem dX5_figure_1 : decode cX5_figure 1 = .ok (.aload_n 0, 1) := by decide +kernel
theorem dX5_figure_2 : decode cX5_figure 2 = .ok (.getfield 38, 3) := by decide +kernel
theorem dX5_figure_5 : decode cX5_figure 5 = .ok (.aload_n 0, 1) := by decide +kernel
theorem dX5_figure_6 : decode cX5_figure 6 = .ok (.getfield 42, 3) := by decide +kernel
theorem dX5_figure_9 : decode cX5_figure 9 = .ok (.iconst 1, 1) := by decide +kernel
theorem dX5_figure_10 : decode cX5_figure 10 = .ok (.isub, 1) := by decide +kernel
theorem dX5_figure_11 : decode cX5_figure 11 = .ok (.iload_n 2, 1) := by decide +kernel
theorem dX5_figure_12 : decode cX5_figure 12 = .ok (.isub, 1) := by decide +kernel
theorem dX5_figure_13 : decode cX5_figure 13 = .ok (.invokestatic 48, 3) := by decide +kernel
theorem dX5_figure_16 : decode cX5_figure 16 = .ok (.idiv, 1) := by decide +kernel
theorem dX5_figure_17 : decode cX5_figure 17 = .ok (.aload_n 0, 1) := by decide +kernel
theorem dX5_figure_18 : decode cX5_figure 18 = .ok (.getfield 38, 3) := by decide +kernel
theorem dX5_figure_21 : decode cX5_figure 21 = .ok (.irem, 1) := by decide +kernel
theorem dX5_figure_22 : decode cX5_figure 22 = .ok (.ireturn, 1) := by decide +kernel
set_option maxRecDepth 20000 in
theorem ggX5_isVector_X5_in : GoodIn wsX5_isVector wsX5_in := goodIn_r _ [5] (by decide +kernel) (by decide +kernel)
set_option maxRecDepth 20000 in
theorem gX5_isVector_X5_in : GoodIn wsX5_isVector (va_wsS RX5 58 yX5_in wsX5_in) := goodIn_app (goodIn_of _ (by decide +kernel)) ggX5_isVector_X5_in
theorem dX5_isVector_0 : decode cX5_isVector 0 = .ok (.iload_n 1, 1) := by decide +kernel
theorem dX5_isVector_1 : decode cX5_isVector 1 = .ok (.i2l, 1) := by decide +kernel
theorem dX5_isVector_2 : decode cX5_isVector 2 = .ok (.lconst 0, 1) := by decide +kernel
theorem dX5_isVector_3 : decode cX5_isVector 3 = .ok (.aload_n 0, 1) := by decide +kernel
theorem dX5_isVector_4 : decode cX5_isVector 4 = .ok (.getfield 52, 3) := by decide +kernel
theorem dX5_isVector_7 : decode cX5_isVector 7 = .ok (.iconst 1, 1) := by decide +kernel
theorem dX5_isVector_8 : decode cX5_isVector 8 = .ok (.isub, 1) := by decide +kernel
theorem dX5_isVector_9 : decode cX5_isVector 9 = .ok (.i2l, 1) := by decide +kernel
theorem dX5_isVector_10 : decode cX5_isVector 10 = .ok (.invokestatic 58, 3) := by decide +kernel
theorem dX5_isVector_13 : decode cX5_isVector 13 = .ok (.ireturn, 1) := by decide +kernel
set_option maxRecDepth 20000 in
theorem ggX5_sum_X5_figure : GoodIn wsX5_sum wsX5_figure := goodIn_r _ [7, 2, 1, 8, 9, 6, 10, 11, 12, 13, 14, 15, 16, 17, 18, 19, 20, 21, 22, 23, 24, 25, 26] (by decide +kernel) (by decide +kernel)
set_option maxRecDepth 20000 in
theorem gX5_sum_X5_figure : GoodIn wsX5_sum (wsV RX5 62 RX5 yX5_figure wsX5_figure) := goodIn_app (goodIn_of _ (by decide +kernel)) ggX5_sum_X5_figure
theorem dX5_sum_0 : decode cX5_sum 0 = .ok (.iconst 0, 1) := by decide +kernel
theorem dX5_sum_1 : decode cX5_sum 1 = .ok (.istore 4, 2) := by decide +kernel
theorem dX5_sum_3 : decode cX5_sum 3 = .ok (.iconst 0, 1) := by decide +kernel
theorem dX5_sum_4 : decode cX5_sum 4 = .ok (.istore 5, 2) := by decide +kernel
theorem dX5_sum_6 : decode cX5_sum 6 = .ok (.iload 5, 2) := by decide +kernel
theorem dX5_sum_8 : decode cX5_sum 8 = .ok (.aload_n 0, 1) := by decide +kernel
theorem dX5_sum_9 : decode cX5_sum 9 = .ok (.getfield 42, 3) := by decide +kernel
theorem dX5_sum_12 : decode cX5_sum 12 = .ok (.if_icmp .ge 41, 3) := by decide +kernel
theorem dX5_sum_15 : decode cX5_sum 15 = .ok (.iload 4, 2) := by decide +kernel
theorem dX5_sum_17 : decode cX5_sum 17 = .ok (.aload_n 0, 1) := by decide +kernel
theorem dX5_sum_18 : decode cX5_sum 18 = .ok (.getfield 38, 3) := by decide +kernel
theorem dX5_sum_21 : decode cX5_sum 21 = .ok (.imul, 1) := by decide +kernel
theorem dX5_sum_22 : decode cX5_sum 22 = .ok (.aload_n 0, 1) := by decide +kernel
theorem dX5_sum_23 : decode cX5_sum 23 = .ok (.iload_n 1, 1) := by decide +kernel
theorem dX5_sum_24 : decode cX5_sum 24 = .ok (.iload 5, 2) := by decide +kernel
theorem dX5_sum_26 : decode cX5_sum 26 = .ok (.invokevirtual 62, 3) := by decide +kernel
theorem dX5_sum_29 : decode cX5_sum 29 = .ok (.iload_n 3, 1) := by decide +kernel
theorem dX5_sum_30 : decode cX5_sum 30 = .ok (.aload_n 0, 1) := by decide +kernel
theorem dX5_sum_31 : decode cX5_sum 31 = .ok (.iload_n 2, 1) := by decide +kernel
theorem dX5_sum_32 : decode cX5_sum 32 = .ok (.iload 5, 2) := by decide +kernel
theorem dX5_sum_34 : decode cX5_sum 34 = .ok (.invokevirtual 62, 3) := by decide +kernel
theorem dX5_sum_37 : decode cX5_sum 37 = .ok (.imul, 1) := by decide +kernel
theorem dX5_sum_38 : decode cX5_sum 38 = .ok (.iadd, 1) := by decide +kernel
theorem dX5_sum_39 : decode cX5_sum 39 = .ok (.aload_n 0, 1) := by decide +kernel
theorem dX5_sum_40 : decode cX5_sum 40 = .ok (.getfield 38, 3) := by decide +kernel
theorem dX5_sum_43 : decode cX5_sum 43 = .ok (.irem, 1) := by decide +kernel
theorem dX5_sum_44 : decode cX5_sum 44 = .ok (.iadd, 1) := by decide +kernel
theorem dX5_sum_45 : decode cX5_sum 45 = .ok (.istore 4, 2) := by decide +kernel
theorem dX5_sum_47 : decode cX5_sum 47 = .ok (.iinc 5 1, 3) := by decide +kernel
theorem dX5_sum_50 : decode cX5_sum 50 = .ok (.goto (-44), 3) := by decide +kernel
theorem dX5_sum_53 : decode cX5_sum 53 = .ok (.iload 4, 2) := by decide +kernel
theorem dX5_sum_55 : decode cX5_sum 55 = .ok (.ireturn, 1) := by decide +kernel
set_option maxRecDepth 20000 in
theorem ggX5_plus_X5_isVector : GoodIn wsX5_plus wsX5_isVector := goodIn_r _ [6, 7, 8, 9, 5, 10, 23, 24, 25, 26, 27, 28, 29, 30, 31, 32, 33, 34, 35, 36, 37, 38] (by decide +kernel) (by decide +kernel)
set_option maxRecDepth 20000 in
theorem gX5_plus_X5_isVector : GoodIn wsX5_plus (wsV RX5 65 RX5 yX5_isVector wsX5_isVector) := goodIn_app (goodIn_of _ (by decide +kernel)) ggX5_plus_X5_isVector
set_option maxRecDepth 20000 in
theorem ggX5_plus_X5_in : GoodIn wsX5_plus wsX5_in := goodIn_r _ [10] (by decide +kernel) (by decide +kernel)
set_option maxRecDepth 20000 in
theorem gX5_plus_X5_in : GoodIn wsX5_plus (va_wsS RX5 58 yX5_in wsX5_in) := goodIn_app (goodIn_of _ (by decide +kernel)) ggX5_plus_X5_in
set_option maxRecDepth 20000 in
theorem ggX5_plus_X5_sum : GoodIn wsX5_plus wsX5_sum := goodIn_r _ [14, 15, 1, 16, 17, 18, 5, 19, 20, 21, 22, 23, 24, 25, 26, 27, 28, 29, 30, 31, 32, 33, 34, 35, 36, 37, 38] (by decide +kernel) (by decide +kernel)
set_option maxRecDepth 20000 in
theorem gX5_plus_X5_sum : GoodIn wsX5_plus (wsV RX5 69 RX5 yX5_sum wsX5_sum) := goodIn_app (goodIn_of _ (by decide +kernel)) ggX5_plus_X5_sum
theorem dX5_plus_0 : decode cX5_plus 0 = .ok (.aload_n 0, 1) := by decide +kernel
theorem dX5_plus_1 : decode cX5_plus 1 = .ok (.iload_n 1, 1) := by decide +kernel
theorem dX5_plus_2 : decode cX5_plus 2 = .ok (.invokevirtual 65, 3) := by decide +kernel
theorem dX5_plus_5 : decode cX5_plus 5 = .ok (.ifCond .eq 11, 3) := by decide +kernel
theorem dX5_plus_8 : decode cX5_plus 8 = .ok (.aload_n 0, 1) := by decide +kernel
theorem dX5_plus_9 : decode cX5_plus 9 = .ok (.iload_n 2, 1) := by decide +kernel
theorem dX5_plus_10 : decode cX5_plus 10 = .ok (.invokevirtual 65, 3) := by decide +kernel
theorem dX5_plus_13 : decode cX5_plus 13 = .ok (.ifCond .ne 6, 3) := by decide +kernel
theorem dX5_plus_16 : decode cX5_plus 16 = .ok (.bipush (-101), 2) := by decide +kernel
theorem dX5_plus_18 : decode cX5_plus 18 = .ok (.ireturn, 1) := by decide +kernel
theorem dX5_plus_19 : decode cX5_plus 19 = .ok (.iload_n 3, 1) := by decide +kernel
theorem dX5_plus_20 : decode cX5_plus 20 = .ok (.i2l, 1) := by decide +kernel
theorem dX5_plus_21 : decode cX5_plus 21 = .ok (.lconst 0, 1) := by decide +kernel
theorem dX5_plus_22 : decode cX5_plus 22 = .ok (.aload_n 0, 1) := by decide +kernel
theorem dX5_plus_23 : decode cX5_plus 23 = .ok (.getfield 38, 3) := by decide +kernel
theorem dX5_plus_26 : decode cX5_plus 26 = .ok (.iconst 1, 1) := by decide +kernel
theorem dX5_plus_27 : decode cX5_plus 27 = .ok (.isub, 1) := by decide +kernel
theorem dX5_plus_28 : decode cX5_plus 28 = .ok (.i2l, 1) := by decide +kernel
theorem dX5_plus_29 : decode cX5_plus 29 = .ok (.invokestatic 58, 3) := by decide +kernel
theorem dX5_plus_32 : decode cX5_plus 32 = .ok (.ifCond .eq 13, 3) := by decide +kernel
theorem dX5_plus_35 : decode cX5_plus 35 = .ok (.aload_n 0, 1) := by decide +kernel
theorem dX5_plus_36 : decode cX5_plus 36 = .ok (.iload_n 1, 1) := by decide +kernel
theorem dX5_plus_37 : decode cX5_plus 37 = .ok (.iload_n 2, 1) := by decide +kernel
theorem dX5_plus_38 : decode cX5_plus 38 = .ok (.iload_n 3, 1) := by decide +kernel
theorem dX5_plus_39 : decode cX5_plus 39 = .ok (.invokevirtual 69, 3) := by decide +kernel
theorem dX5_plus_42 : decode cX5_plus 42 = .ok (.goto 5, 3) := by decide +kernel
theorem dX5_plus_45 : decode cX5_plus 45 = .ok (.bipush (-102), 2) := by decide +kernel
theorem dX5_plus_47 : decode cX5_plus 47 = .ok (.ireturn, 1) := by decide +kernel
set_option maxRecDepth 20000 in
theorem ggX5_product_X5_figure : GoodIn wsX5_product wsX5_figure := goodIn_r _ [7, 2, 1, 8, 9, 6, 10, 11, 12, 13, 14, 15, 16, 17, 18, 19, 20, 21, 22, 23, 24, 25, 26] (by decide +kernel) (by decide +kernel)
set_option maxRecDepth 20000 in
theorem gX5_product_X5_figure : GoodIn wsX5_product (wsV RX5 62 RX5 yX5_figure wsX5_figure) := goodIn_app (goodIn_of _ (by decide +kernel)) ggX5_product_X5_figure
theorem dX5_product_0 : decode cX5_product 0 = .ok (.iconst 0, 1) := by decide +kernel
theorem dX5_product_1 : decode cX5_product 1 = .ok (.istore_n 3, 1) := by decide +kernel
theorem dX5_product_2 : decode cX5_product 2 = .ok (.iconst 0, 1) := by decide +kernel
theorem dX5_product_3 : decode cX5_product 3 = .ok (.istore 4, 2) := by decide +kernel
theorem dX5_product_5 : decode cX5_product 5 = .ok (.iload 4, 2) := by decide +kernel
theorem dX5_product_7 : decode cX5_product 7 = .ok (.aload_n 0, 1) := by decide +kernel
theorem dX5_product_8 : decode cX5_product 8 = .ok (.getfield 42, 3) := by decide +kernel
theorem dX5_product_11 : decode cX5_product 11 = .ok (.if_icmp .ge 27, 3) := by decide +kernel
theorem dX5_product_14 : decode cX5_product 14 = .ok (.iload_n 3, 1) := by decide +kernel
theorem dX5_product_15 : decode cX5_product 15 = .ok (.aload_n 0, 1) := by decide +kernel
theorem dX5_product_16 : decode cX5_product 16 = .ok (.iload_n 1, 1) := by decide +kernel
theorem dX5_product_17 : decode cX5_product 17 = .ok (.iload 4, 2) := by decide +kernel
theorem dX5_product_19 : decode cX5_product 19 = .ok (.invokevirtual 62, 3) := by decide +kernel
theorem dX5_product_22 : decode cX5_product 22 = .ok (.aload_n 0, 1) := by decide +kernel
theorem dX5_product_23 : decode cX5_product 23 = .ok (.iload_n 2, 1) := by decide +kernel
theorem dX5_product_24 : decode cX5_product 24 = .ok (.iload 4, 2) := by decide +kernel
theorem dX5_product_26 : decode cX5_product 26 = .ok (.invokevirtual 62, 3) := by decide +kernel
theorem dX5_product_29 : decode cX5_product 29 = .ok (.imul, 1) := by decide +kernel
theorem dX5_product_30 : decode cX5_product 30 = .ok (.iadd, 1) := by decide +kernel
theorem dX5_product_31 : decode cX5_product 31 = .ok (.istore_n 3, 1) := by decide +kernel
theorem dX5_product_32 : decode cX5_product 32 = .ok (.iinc 4 1, 3) := by decide +kernel
theorem dX5_product_35 : decode cX5_product 35 = .ok (.goto (-30), 3) := by decide +kernel
theorem dX5_product_38 : decode cX5_product 38 = .ok (.iload_n 3, 1) := by decide +kernel
theorem dX5_product_39 : decode cX5_product 39 = .ok (.aload_n 0, 1) := by decide +kernel
theorem dX5_product_40 : decode cX5_product 40 = .ok (.getfield 38, 3) := by decide +kernel
theorem dX5_product_43 : decode cX5_product 43 = .ok (.irem, 1) := by decide +kernel
theorem dX5_product_44 : decode cX5_product 44 = .ok (.ireturn, 1) := by decide +kernel
set_option maxRecDepth 20000 in
theorem ggX5_times_X5_isVector : GoodIn wsX5_times wsX5_isVector := goodIn_r _ [5, 6, 7, 8, 4, 9, 23, 24, 25, 26, 27, 28, 29, 30, 31, 32, 33, 34, 35, 36, 37, 38] (by decide +kernel) (by decide +kernel)
set_option maxRecDepth 20000 in
theorem gX5_times_X5_isVector : GoodIn wsX5_times (wsV RX5 65 RX5 yX5_isVector wsX5_isVector) := goodIn_app (goodIn_of _ (by decide +kernel)) ggX5_times_X5_isVector
set_option maxRecDepth 20000 in
theorem ggX5_times_X5_product : GoodIn wsX5_times wsX5_product := goodIn_r _ [13, 14, 15, 16, 17, 18, 4, 19, 20, 21, 22, 23, 24, 25, 26, 27, 28, 29, 30, 31, 32, 33, 34, 35, 36, 37, 38] (by decide +kernel) (by decide +kernel)
set_option maxRecDepth 20000 in
theorem gX5_times_X5_product : GoodIn wsX5_times (wsV RX5 73 RX5 yX5_product wsX5_product) := goodIn_app (goodIn_of _ (by decide +kernel)) ggX5_times_X5_product
theorem dX5_times_0 : decode cX5_times 0 = .ok (.aload_n 0, 1) := by decide +kernel
theorem dX5_times_1 : decode cX5_times 1 = .ok (.iload_n 1, 1) := by decide +kernel
theorem dX5_times_2 : decode cX5_times 2 = .ok (.invokevirtual 65, 3) := by decide +kernel
theorem dX5_times_5 : decode cX5_times 5 = .ok (.ifCond .eq 20, 3) := by decide +kernel
theorem dX5_times_8 : decode cX5_times 8 = .ok (.aload_n 0, 1) := by decide +kernel
theorem dX5_times_9 : decode cX5_times 9 = .ok (.iload_n 2, 1) := by decide +kernel
theorem dX5_times_10 : decode cX5_times 10 = .ok (.invokevirtual 65, 3) := by decide +kernel
theorem dX5_times_13 : decode cX5_times 13 = .ok (.ifCond .eq 12, 3) := by decide +kernel
theorem dX5_times_16 : decode cX5_times 16 = .ok (.aload_n 0, 1) := by decide +kernel
theorem dX5_times_17 : decode cX5_times 17 = .ok (.iload_n 1, 1) := by decide +kernel
theorem dX5_times_18 : decode cX5_times 18 = .ok (.iload_n 2, 1) := by decide +kernel
theorem dX5_times_19 : decode cX5_times 19 = .ok (.invokevirtual 73, 3) := by decide +kernel
theorem dX5_times_22 : decode cX5_times 22 = .ok (.goto 5, 3) := by decide +kernel
theorem dX5_times_25 : decode cX5_times 25 = .ok (.bipush (-101), 2) := by decide +kernel
theorem dX5_times_27 : decode cX5_times 27 = .ok (.ireturn, 1) := by decide +kernel
set_option maxRecDepth 20000 in
theorem ggX5_settle_X5_figure : GoodIn wsX5_settle wsX5_figure := goodIn_r _ [9, 4, 1, 10, 11, 8, 12, 17, 18, 19, 20, 21, 22, 23, 24, 25, 26, 27, 28, 29, 30, 31, 32] (by decide +kernel) (by decide +kernel)
set_option maxRecDepth 20000 in
theorem gX5_settle_X5_figure : GoodIn wsX5_settle (wsV RX5 62 RX5 yX5_figure wsX5_figure) := goodIn_app (goodIn_of _ (by decide +kernel)) ggX5_settle_X5_figure
set_option maxRecDepth 20000 in
theorem ggX5_settle_X5_sum : GoodIn wsX5_settle wsX5_sum := goodIn_r _ [16, 1, 4, 5, 6, 7, 8, 9, 10, 11, 12, 17, 18, 19, 20, 21, 22, 23, 24, 25, 26, 27, 28, 29, 30, 31, 32] (by decide +kernel) (by decide +kernel)
set_option maxRecDepth 20000 in
theorem gX5_settle_X5_sum : GoodIn wsX5_settle (wsV RX5 69 RX5 yX5_sum wsX5_sum) := goodIn_app (goodIn_of _ (by decide +kernel)) ggX5_settle_X5_sum
theorem dX5_settle_0 : decode cX5_settle 0 = .ok (.iconst 0, 1) := by decide +kernel
theorem dX5_settle_1 : decode cX5_settle 1 = .ok (.istore_n 1, 1) := by decide +kernel
theorem dX5_settle_2 : decode cX5_settle 2 = .ok (.iconst 0, 1) := by decide +kernel
theorem dX5_settle_3 : decode cX5_settle 3 = .ok (.istore_n 2, 1) := by decide +kernel
theorem dX5_settle_4 : decode cX5_settle 4 = .ok (.iload_n 2, 1) := by decide +kernel
theorem dX5_settle_5 : decode cX5_settle 5 = .ok (.aload_n 0, 1) := by decide +kernel
theorem dX5_settle_6 : decode cX5_settle 6 = .ok (.getfield 42, 3) := by decide +kernel
theorem dX5_settle_9 : decode cX5_settle 9 = .ok (.if_icmp .ge 187, 3) := by decide +kernel
theorem dX5_settle_12 : decode cX5_settle 12 = .ok (.iload_n 1, 1) := by decide +kernel
theorem dX5_settle_13 : decode cX5_settle 13 = .ok (.istore_n 3, 1) := by decide +kernel
theorem dX5_settle_14 : decode cX5_settle 14 = .ok (.iload_n 3, 1) := by decide +kernel
theorem dX5_settle_15 : decode cX5_settle 15 = .ok (.aload_n 0, 1) := by decide +kernel
theorem dX5_settle_16 : decode cX5_settle 16 = .ok (.getfield 76, 3) := by decide +kernel
theorem dX5_settle_19 : decode cX5_settle 19 = .ok (.if_icmp .ge 23, 3) := by decide +kernel
theorem dX5_settle_22 : decode cX5_settle 22 = .ok (.aload_n 0, 1) := by decide +kernel
theorem dX5_settle_23 : decode cX5_settle 23 = .ok (.aload_n 0, 1) := by decide +kernel
theorem dX5_settle_24 : decode cX5_settle 24 = .ok (.getfield 13, 3) := by decide +kernel
theorem dX5_settle_27 : decode cX5_settle 27 = .ok (.iload_n 3, 1) := by decide +kernel
theorem dX5_settle_28 : decode cX5_settle 28 = .ok (.iaload, 1) := by decide +kernel
theorem dX5_settle_29 : decode cX5_settle 29 = .ok (.iload_n 2, 1) := by decide +kernel
theorem dX5_settle_30 : decode cX5_settle 30 = .ok (.invokevirtual 62, 3) := by decide +kernel
theorem dX5_settle_33 : decode cX5_settle 33 = .ok (.ifCond .ne 9, 3) := by decide +kernel
theorem dX5_settle_36 : decode cX5_settle 36 = .ok (.iinc 3 1, 3) := by decide +kernel
theorem dX5_settle_39 : decode cX5_settle 39 = .ok (.goto (-25), 3) := by decide +kernel
theorem dX5_settle_42 : decode cX5_settle 42 = .ok (.iload_n 3, 1) := by decide +kernel
theorem dX5_settle_43 : decode cX5_settle 43 = .ok (.aload_n 0, 1) := by decide +kernel
theorem dX5_settle_44 : decode cX5_settle 44 = .ok (.getfield 76, 3) := by decide +kernel
theorem dX5_settle_47 : decode cX5_settle 47 = .ok (.if_icmp .ge 143, 3) := by decide +kernel
