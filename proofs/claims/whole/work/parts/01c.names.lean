theorem dX5_settle_50 : decode cX5_settle 50 = .ok (.aload_n 0, 1) := by decide +kernel
theorem dX5_settle_51 : decode cX5_settle 51 = .ok (.getfield 13, 3) := by decide +kernel
theorem dX5_settle_54 : decode cX5_settle 54 = .ok (.iload_n 3, 1) := by decide +kernel
theorem dX5_settle_55 : decode cX5_settle 55 = .ok (.iaload, 1) := by decide +kernel
theorem dX5_settle_56 : decode cX5_settle 56 = .ok (.istore 4, 2) := by decide +kernel
theorem dX5_settle_58 : decode cX5_settle 58 = .ok (.aload_n 0, 1) := by decide +kernel
theorem dX5_settle_59 : decode cX5_settle 59 = .ok (.getfield 13, 3) := by decide +kernel
theorem dX5_settle_62 : decode cX5_settle 62 = .ok (.iload_n 3, 1) := by decide +kernel
theorem dX5_settle_63 : decode cX5_settle 63 = .ok (.aload_n 0, 1) := by decide +kernel
theorem dX5_settle_64 : decode cX5_settle 64 = .ok (.getfield 13, 3) := by decide +kernel
theorem dX5_settle_67 : decode cX5_settle 67 = .ok (.iload_n 1, 1) := by decide +kernel
theorem dX5_settle_68 : decode cX5_settle 68 = .ok (.iaload, 1) := by decide +kernel
theorem dX5_settle_69 : decode cX5_settle 69 = .ok (.iastore, 1) := by decide +kernel
theorem dX5_settle_70 : decode cX5_settle 70 = .ok (.iconst 1, 1) := by decide +kernel
theorem dX5_settle_71 : decode cX5_settle 71 = .ok (.istore 5, 2) := by decide +kernel
theorem dX5_settle_73 : decode cX5_settle 73 = .ok (.iload 5, 2) := by decide +kernel
theorem dX5_settle_75 : decode cX5_settle 75 = .ok (.aload_n 0, 1) := by decide +kernel
theorem dX5_settle_76 : decode cX5_settle 76 = .ok (.iload 4, 2) := by decide +kernel
theorem dX5_settle_78 : decode cX5_settle 78 = .ok (.iload_n 2, 1) := by decide +kernel
theorem dX5_settle_79 : decode cX5_settle 79 = .ok (.invokevirtual 62, 3) := by decide +kernel
theorem dX5_settle_82 : decode cX5_settle 82 = .ok (.imul, 1) := by decide +kernel
theorem dX5_settle_83 : decode cX5_settle 83 = .ok (.aload_n 0, 1) := by decide +kernel
theorem dX5_settle_84 : decode cX5_settle 84 = .ok (.getfield 38, 3) := by decide +kernel
theorem dX5_settle_87 : decode cX5_settle 87 = .ok (.irem, 1) := by decide +kernel
theorem dX5_settle_88 : decode cX5_settle 88 = .ok (.iconst 1, 1) := by decide +kernel
theorem dX5_settle_89 : decode cX5_settle 89 = .ok (.if_icmp .eq 9, 3) := by decide +kernel
theorem dX5_settle_92 : decode cX5_settle 92 = .ok (.iinc 5 1, 3) := by decide +kernel
theorem dX5_settle_95 : decode cX5_settle 95 = .ok (.goto (-22), 3) := by decide +kernel
theorem dX5_settle_98 : decode cX5_settle 98 = .ok (.aload_n 0, 1) := by decide +kernel
theorem dX5_settle_99 : decode cX5_settle 99 = .ok (.iconst 0, 1) := by decide +kernel
theorem dX5_settle_100 : decode cX5_settle 100 = .ok (.iload 4, 2) := by decide +kernel
theorem dX5_settle_102 : decode cX5_settle 102 = .ok (.iload 5, 2) := by decide +kernel
theorem dX5_settle_104 : decode cX5_settle 104 = .ok (.invokevirtual 69, 3) := by decide +kernel
theorem dX5_settle_107 : decode cX5_settle 107 = .ok (.istore 4, 2) := by decide +kernel
theorem dX5_settle_109 : decode cX5_settle 109 = .ok (.aload_n 0, 1) := by decide +kernel
theorem dX5_settle_110 : decode cX5_settle 110 = .ok (.getfield 13, 3) := by decide +kernel
theorem dX5_settle_113 : decode cX5_settle 113 = .ok (.iload_n 1, 1) := by decide +kernel
theorem dX5_settle_114 : decode cX5_settle 114 = .ok (.iload 4, 2) := by decide +kernel
theorem dX5_settle_116 : decode cX5_settle 116 = .ok (.iastore, 1) := by decide +kernel
theorem dX5_settle_117 : decode cX5_settle 117 = .ok (.iconst 0, 1) := by decide +kernel
theorem dX5_settle_118 : decode cX5_settle 118 = .ok (.istore 6, 2) := by decide +kernel
theorem dX5_settle_120 : decode cX5_settle 120 = .ok (.iload 6, 2) := by decide +kernel
theorem dX5_settle_122 : decode cX5_settle 122 = .ok (.aload_n 0, 1) := by decide +kernel
theorem dX5_settle_123 : decode cX5_settle 123 = .ok (.getfield 76, 3) := by decide +kernel
theorem dX5_settle_126 : decode cX5_settle 126 = .ok (.if_icmp .ge 61, 3) := by decide +kernel
theorem dX5_settle_129 : decode cX5_settle 129 = .ok (.aload_n 0, 1) := by decide +kernel
theorem dX5_settle_130 : decode cX5_settle 130 = .ok (.aload_n 0, 1) := by decide +kernel
theorem dX5_settle_131 : decode cX5_settle 131 = .ok (.getfield 13, 3) := by decide +kernel
theorem dX5_settle_134 : decode cX5_settle 134 = .ok (.iload 6, 2) := by decide +kernel
theorem dX5_settle_136 : decode cX5_settle 136 = .ok (.iaload, 1) := by decide +kernel
theorem dX5_settle_137 : decode cX5_settle 137 = .ok (.iload_n 2, 1) := by decide +kernel
theorem dX5_settle_138 : decode cX5_settle 138 = .ok (.invokevirtual 62, 3) := by decide +kernel
theorem dX5_settle_141 : decode cX5_settle 141 = .ok (.istore 7, 2) := by decide +kernel
theorem dX5_settle_143 : decode cX5_settle 143 = .ok (.iload 6, 2) := by decide +kernel
theorem dX5_settle_145 : decode cX5_settle 145 = .ok (.iload_n 1, 1) := by decide +kernel
theorem dX5_settle_146 : decode cX5_settle 146 = .ok (.if_icmp .eq 35, 3) := by decide +kernel
theorem dX5_settle_149 : decode cX5_settle 149 = .ok (.iload 7, 2) := by decide +kernel
theorem dX5_settle_151 : decode cX5_settle 151 = .ok (.ifCond .eq 30, 3) := by decide +kernel
theorem dX5_settle_154 : decode cX5_settle 154 = .ok (.aload_n 0, 1) := by decide +kernel
theorem dX5_settle_155 : decode cX5_settle 155 = .ok (.getfield 13, 3) := by decide +kernel
theorem dX5_settle_158 : decode cX5_settle 158 = .ok (.iload 6, 2) := by decide +kernel
theorem dX5_settle_160 : decode cX5_settle 160 = .ok (.aload_n 0, 1) := by decide +kernel
theorem dX5_settle_161 : decode cX5_settle 161 = .ok (.aload_n 0, 1) := by decide +kernel
theorem dX5_settle_162 : decode cX5_settle 162 = .ok (.getfield 13, 3) := by decide +kernel
theorem dX5_settle_165 : decode cX5_settle 165 = .ok (.iload 6, 2) := by decide +kernel
theorem dX5_settle_167 : decode cX5_settle 167 = .ok (.iaload, 1) := by decide +kernel
theorem dX5_settle_168 : decode cX5_settle 168 = .ok (.iload 4, 2) := by decide +kernel
theorem dX5_settle_170 : decode cX5_settle 170 = .ok (.aload_n 0, 1) := by decide +kernel
theorem dX5_settle_171 : decode cX5_settle 171 = .ok (.getfield 38, 3) := by decide +kernel
theorem dX5_settle_174 : decode cX5_settle 174 = .ok (.iload 7, 2) := by decide +kernel
theorem dX5_settle_176 : decode cX5_settle 176 = .ok (.isub, 1) := by decide +kernel
theorem dX5_settle_177 : decode cX5_settle 177 = .ok (.invokevirtual 69, 3) := by decide +kernel
theorem dX5_settle_180 : decode cX5_settle 180 = .ok (.iastore, 1) := by decide +kernel
theorem dX5_settle_181 : decode cX5_settle 181 = .ok (.iinc 6 1, 3) := by decide +kernel
theorem dX5_settle_184 : decode cX5_settle 184 = .ok (.goto (-64), 3) := by decide +kernel
theorem dX5_settle_187 : decode cX5_settle 187 = .ok (.iinc 1 1, 3) := by decide +kernel
theorem dX5_settle_190 : decode cX5_settle 190 = .ok (.iinc 2 1, 3) := by decide +kernel
theorem dX5_settle_193 : decode cX5_settle 193 = .ok (.goto (-189), 3) := by decide +kernel
theorem dX5_settle_196 : decode cX5_settle 196 = .ok (.aload_n 0, 1) := by decide +kernel
theorem dX5_settle_197 : decode cX5_settle 197 = .ok (.iload_n 1, 1) := by decide +kernel
theorem dX5_settle_198 : decode cX5_settle 198 = .ok (.putfield 76, 3) := by decide +kernel
theorem dX5_settle_201 : decode cX5_settle 201 = .ok (.return_, 1) := by decide +kernel
set_option maxRecDepth 20000 in
theorem ggX5_pivot_X5_figure : GoodIn wsX5_pivot wsX5_figure := goodIn_r _ [5, 6, 7, 8, 9, 4, 10, 11, 12, 13, 14, 15, 16, 17, 18, 19, 20, 21, 22, 23, 24, 25, 26] (by decide +kernel) (by decide +kernel)
set_option maxRecDepth 20000 in
theorem gX5_pivot_X5_figure : GoodIn wsX5_pivot (wsV RX5 62 RX5 yX5_figure wsX5_figure) := goodIn_app (goodIn_of _ (by decide +kernel)) ggX5_pivot_X5_figure
theorem dX5_pivot_0 : decode cX5_pivot 0 = .ok (.iconst 0, 1) := by decide +kernel
theorem dX5_pivot_1 : decode cX5_pivot 1 = .ok (.istore_n 2, 1) := by decide +kernel
theorem dX5_pivot_2 : decode cX5_pivot 2 = .ok (.aload_n 0, 1) := by decide +kernel
theorem dX5_pivot_3 : decode cX5_pivot 3 = .ok (.iload_n 1, 1) := by decide +kernel
theorem dX5_pivot_4 : decode cX5_pivot 4 = .ok (.iload_n 2, 1) := by decide +kernel
theorem dX5_pivot_5 : decode cX5_pivot 5 = .ok (.invokevirtual 62, 3) := by decide +kernel
theorem dX5_pivot_8 : decode cX5_pivot 8 = .ok (.ifCond .ne 9, 3) := by decide +kernel
theorem dX5_pivot_11 : decode cX5_pivot 11 = .ok (.iinc 2 1, 3) := by decide +kernel
theorem dX5_pivot_14 : decode cX5_pivot 14 = .ok (.goto (-12), 3) := by decide +kernel
theorem dX5_pivot_17 : decode cX5_pivot 17 = .ok (.iload_n 2, 1) := by decide +kernel
theorem dX5_pivot_18 : decode cX5_pivot 18 = .ok (.ireturn, 1) := by decide +kernel
set_option maxRecDepth 20000 in
theorem ggX5_turn_X5_pivot : GoodIn wsX5_turn wsX5_pivot := goodIn_r _ [10, 11, 12, 13, 9, 14, 5, 4, 15, 16, 17, 26, 27, 28, 29, 30, 31, 32, 33, 34, 35, 36, 37, 38, 39, 40, 41] (by decide +kernel) (by decide +kernel)
set_option maxRecDepth 20000 in
theorem gX5_turn_X5_pivot : GoodIn wsX5_turn (wsV RX5 79 RX5 yX5_pivot wsX5_pivot) := goodIn_app (goodIn_of _ (by decide +kernel)) ggX5_turn_X5_pivot
set_option maxRecDepth 20000 in
theorem ggX5_turn_X5_power : GoodIn wsX5_turn wsX5_power := goodIn_r _ [17] (by decide +kernel) (by decide +kernel)
set_option maxRecDepth 20000 in
theorem gX5_turn_X5_power : GoodIn wsX5_turn (va_wsS RX5 48 yX5_power wsX5_power) := goodIn_app (goodIn_of _ (by decide +kernel)) ggX5_turn_X5_power
set_option maxRecDepth 20000 in
theorem ggX5_turn_X5_figure : GoodIn wsX5_turn wsX5_figure := goodIn_r _ [14, 5, 4, 15, 16, 9, 17, 26, 27, 28, 29, 30, 31, 32, 33, 34, 35, 36, 37, 38, 39, 40, 41] (by decide +kernel) (by decide +kernel)
set_option maxRecDepth 20000 in
theorem gX5_turn_X5_figure : GoodIn wsX5_turn (wsV RX5 62 RX5 yX5_figure wsX5_figure) := goodIn_app (goodIn_of _ (by decide +kernel)) ggX5_turn_X5_figure
set_option maxRecDepth 20000 in
theorem ggX5_turn_X5_settle : GoodIn wsX5_turn wsX5_settle := goodIn_r _ [21, 4, 1, 3, 5, 11, 12, 13, 9, 14, 15, 16, 17, 22, 23, 24, 25, 26, 27, 28, 29, 30, 31, 32, 33, 34, 35, 36, 37, 38, 39, 40, 41] (by decide +kernel) (by decide +kernel)
set_option maxRecDepth 20000 in
theorem gX5_turn_X5_settle : GoodIn wsX5_turn (wsV RX5 83 RX5 yX5_settle wsX5_settle) := goodIn_app (goodIn_of _ (by decide +kernel)) ggX5_turn_X5_settle
theorem dX5_turn_0 : decode cX5_turn 0 = .ok (.aload_n 0, 1) := by decide +kernel
theorem dX5_turn_1 : decode cX5_turn 1 = .ok (.getfield 76, 3) := by decide +kernel
theorem dX5_turn_4 : decode cX5_turn 4 = .ok (.istore_n 1, 1) := by decide +kernel
theorem dX5_turn_5 : decode cX5_turn 5 = .ok (.iconst 0, 1) := by decide +kernel
theorem dX5_turn_6 : decode cX5_turn 6 = .ok (.istore_n 2, 1) := by decide +kernel
theorem dX5_turn_7 : decode cX5_turn 7 = .ok (.iload_n 2, 1) := by decide +kernel
theorem dX5_turn_8 : decode cX5_turn 8 = .ok (.bipush 6, 2) := by decide +kernel
theorem dX5_turn_10 : decode cX5_turn 10 = .ok (.if_icmp .ge 16, 3) := by decide +kernel
theorem dX5_turn_13 : decode cX5_turn 13 = .ok (.aload_n 0, 1) := by decide +kernel
theorem dX5_turn_14 : decode cX5_turn 14 = .ok (.getfield 16, 3) := by decide +kernel
theorem dX5_turn_17 : decode cX5_turn 17 = .ok (.iload_n 2, 1) := by decide +kernel
theorem dX5_turn_18 : decode cX5_turn 18 = .ok (.iconst 0, 1) := by decide +kernel
theorem dX5_turn_19 : decode cX5_turn 19 = .ok (.bastore, 1) := by decide +kernel
theorem dX5_turn_20 : decode cX5_turn 20 = .ok (.iinc 2 1, 3) := by decide +kernel
theorem dX5_turn_23 : decode cX5_turn 23 = .ok (.goto (-16), 3) := by decide +kernel
theorem dX5_turn_26 : decode cX5_turn 26 = .ok (.iconst 0, 1) := by decide +kernel
theorem dX5_turn_27 : decode cX5_turn 27 = .ok (.istore_n 2, 1) := by decide +kernel
theorem dX5_turn_28 : decode cX5_turn 28 = .ok (.iload_n 2, 1) := by decide +kernel
theorem dX5_turn_29 : decode cX5_turn 29 = .ok (.iload_n 1, 1) := by decide +kernel
theorem dX5_turn_30 : decode cX5_turn 30 = .ok (.if_icmp .ge 25, 3) := by decide +kernel
theorem dX5_turn_33 : decode cX5_turn 33 = .ok (.aload_n 0, 1) := by decide +kernel
theorem dX5_turn_34 : decode cX5_turn 34 = .ok (.getfield 16, 3) := by decide +kernel
theorem dX5_turn_37 : decode cX5_turn 37 = .ok (.aload_n 0, 1) := by decide +kernel
theorem dX5_turn_38 : decode cX5_turn 38 = .ok (.aload_n 0, 1) := by decide +kernel
theorem dX5_turn_39 : decode cX5_turn 39 = .ok (.getfield 13, 3) := by decide +kernel
theorem dX5_turn_42 : decode cX5_turn 42 = .ok (.iload_n 2, 1) := by decide +kernel
theorem dX5_turn_43 : decode cX5_turn 43 = .ok (.iaload, 1) := by decide +kernel
theorem dX5_turn_44 : decode cX5_turn 44 = .ok (.invokevirtual 79, 3) := by decide +kernel
theorem dX5_turn_47 : decode cX5_turn 47 = .ok (.iconst 1, 1) := by decide +kernel
theorem dX5_turn_48 : decode cX5_turn 48 = .ok (.bastore, 1) := by decide +kernel
theorem dX5_turn_49 : decode cX5_turn 49 = .ok (.iinc 2 1, 3) := by decide +kernel
theorem dX5_turn_52 : decode cX5_turn 52 = .ok (.goto (-24), 3) := by decide +kernel
theorem dX5_turn_55 : decode cX5_turn 55 = .ok (.iload_n 1, 1) := by decide +kernel
theorem dX5_turn_56 : decode cX5_turn 56 = .ok (.istore_n 2, 1) := by decide +kernel
theorem dX5_turn_57 : decode cX5_turn 57 = .ok (.iconst 0, 1) := by decide +kernel
theorem dX5_turn_58 : decode cX5_turn 58 = .ok (.istore_n 3, 1) := by decide +kernel
theorem dX5_turn_59 : decode cX5_turn 59 = .ok (.iload_n 3, 1) := by decide +kernel
theorem dX5_turn_60 : decode cX5_turn 60 = .ok (.aload_n 0, 1) := by decide +kernel
theorem dX5_turn_61 : decode cX5_turn 61 = .ok (.getfield 42, 3) := by decide +kernel
theorem dX5_turn_64 : decode cX5_turn 64 = .ok (.if_icmp .ge 114, 3) := by decide +kernel
theorem dX5_turn_67 : decode cX5_turn 67 = .ok (.aload_n 0, 1) := by decide +kernel
theorem dX5_turn_68 : decode cX5_turn 68 = .ok (.getfield 16, 3) := by decide +kernel
theorem dX5_turn_71 : decode cX5_turn 71 = .ok (.iload_n 3, 1) := by decide +kernel
theorem dX5_turn_72 : decode cX5_turn 72 = .ok (.baload, 1) := by decide +kernel
theorem dX5_turn_73 : decode cX5_turn 73 = .ok (.ifCond .ne 99, 3) := by decide +kernel
theorem dX5_turn_76 : decode cX5_turn 76 = .ok (.aload_n 0, 1) := by decide +kernel
theorem dX5_turn_77 : decode cX5_turn 77 = .ok (.getfield 38, 3) := by decide +kernel
theorem dX5_turn_80 : decode cX5_turn 80 = .ok (.aload_n 0, 1) := by decide +kernel
theorem dX5_turn_81 : decode cX5_turn 81 = .ok (.getfield 42, 3) := by decide +kernel
theorem dX5_turn_84 : decode cX5_turn 84 = .ok (.iconst 1, 1) := by decide +kernel
theorem dX5_turn_85 : decode cX5_turn 85 = .ok (.isub, 1) := by decide +kernel
theorem dX5_turn_86 : decode cX5_turn 86 = .ok (.iload_n 3, 1) := by decide +kernel
theorem dX5_turn_87 : decode cX5_turn 87 = .ok (.isub, 1) := by decide +kernel
theorem dX5_turn_88 : decode cX5_turn 88 = .ok (.invokestatic 48, 3) := by decide +kernel
theorem dX5_turn_91 : decode cX5_turn 91 = .ok (.istore 4, 2) := by decide +kernel
theorem dX5_turn_93 : decode cX5_turn 93 = .ok (.iconst 0, 1) := by decide +kernel
theorem dX5_turn_94 : decode cX5_turn 94 = .ok (.istore 5, 2) := by decide +kernel
theorem dX5_turn_96 : decode cX5_turn 96 = .ok (.iload 5, 2) := by decide +kernel
theorem dX5_turn_98 : decode cX5_turn 98 = .ok (.iload_n 1, 1) := by decide +kernel
theorem dX5_turn_99 : decode cX5_turn 99 = .ok (.if_icmp .ge 62, 3) := by decide +kernel
theorem dX5_turn_102 : decode cX5_turn 102 = .ok (.iload 4, 2) := by decide +kernel
theorem dX5_turn_104 : decode cX5_turn 104 = .ok (.aload_n 0, 1) := by decide +kernel
theorem dX5_turn_105 : decode cX5_turn 105 = .ok (.getfield 38, 3) := by decide +kernel
theorem dX5_turn_108 : decode cX5_turn 108 = .ok (.aload_n 0, 1) := by decide +kernel
theorem dX5_turn_109 : decode cX5_turn 109 = .ok (.aload_n 0, 1) := by decide +kernel
theorem dX5_turn_110 : decode cX5_turn 110 = .ok (.getfield 13, 3) := by decide +kernel
theorem dX5_turn_113 : decode cX5_turn 113 = .ok (.iload 5, 2) := by decide +kernel
theorem dX5_turn_115 : decode cX5_turn 115 = .ok (.iaload, 1) := by decide +kernel
theorem dX5_turn_116 : decode cX5_turn 116 = .ok (.iload_n 3, 1) := by decide +kernel
theorem dX5_turn_117 : decode cX5_turn 117 = .ok (.invokevirtual 62, 3) := by decide +kernel
theorem dX5_turn_120 : decode cX5_turn 120 = .ok (.isub, 1) := by decide +kernel
theorem dX5_turn_121 : decode cX5_turn 121 = .ok (.aload_n 0, 1) := by decide +kernel
theorem dX5_turn_122 : decode cX5_turn 122 = .ok (.getfield 38, 3) := by decide +kernel
theorem dX5_turn_125 : decode cX5_turn 125 = .ok (.irem, 1) := by decide +kernel
theorem dX5_turn_126 : decode cX5_turn 126 = .ok (.aload_n 0, 1) := by decide +kernel
theorem dX5_turn_127 : decode cX5_turn 127 = .ok (.getfield 38, 3) := by decide +kernel
theorem dX5_turn_130 : decode cX5_turn 130 = .ok (.aload_n 0, 1) := by decide +kernel
theorem dX5_turn_131 : decode cX5_turn 131 = .ok (.getfield 42, 3) := by decide +kernel
theorem dX5_turn_134 : decode cX5_turn 134 = .ok (.iconst 1, 1) := by decide +kernel
theorem dX5_turn_135 : decode cX5_turn 135 = .ok (.isub, 1) := by decide +kernel
theorem dX5_turn_136 : decode cX5_turn 136 = .ok (.aload_n 0, 1) := by decide +kernel
theorem dX5_turn_137 : decode cX5_turn 137 = .ok (.aload_n 0, 1) := by decide +kernel
theorem dX5_turn_138 : decode cX5_turn 138 = .ok (.getfield 13, 3) := by decide +kernel
theorem dX5_turn_141 : decode cX5_turn 141 = .ok (.iload 5, 2) := by decide +kernel
theorem dX5_turn_143 : decode cX5_turn 143 = .ok (.iaload, 1) := by decide +kernel
theorem dX5_turn_144 : decode cX5_turn 144 = .ok (.invokevirtual 79, 3) := by decide +kernel
theorem dX5_turn_147 : decode cX5_turn 147 = .ok (.isub, 1) := by decide +kernel
theorem dX5_turn_148 : decode cX5_turn 148 = .ok (.invokestatic 48, 3) := by decide +kernel
theorem dX5_turn_151 : decode cX5_turn 151 = .ok (.imul, 1) := by decide +kernel
theorem dX5_turn_152 : decode cX5_turn 152 = .ok (.iadd, 1) := by decide +kernel
theorem dX5_turn_153 : decode cX5_turn 153 = .ok (.istore 4, 2) := by decide +kernel
theorem dX5_turn_155 : decode cX5_turn 155 = .ok (.iinc 5 1, 3) := by decide +kernel
theorem dX5_turn_158 : decode cX5_turn 158 = .ok (.goto (-62), 3) := by decide +kernel
theorem dX5_turn_161 : decode cX5_turn 161 = .ok (.aload_n 0, 1) := by decide +kernel
theorem dX5_turn_162 : decode cX5_turn 162 = .ok (.getfield 13, 3) := by decide +kernel
theorem dX5_turn_165 : decode cX5_turn 165 = .ok (.iload_n 2, 1) := by decide +kernel
theorem dX5_turn_166 : decode cX5_turn 166 = .ok (.iload 4, 2) := by decide +kernel
theorem dX5_turn_168 : decode cX5_turn 168 = .ok (.iastore, 1) := by decide +kernel
theorem dX5_turn_169 : decode cX5_turn 169 = .ok (.iinc 2 1, 3) := by decide +kernel
theorem dX5_turn_172 : decode cX5_turn 172 = .ok (.iinc 3 1, 3) := by decide +kernel
theorem dX5_turn_175 : decode cX5_turn 175 = .ok (.goto (-116), 3) := by decide +kernel
theorem dX5_turn_178 : decode cX5_turn 178 = .ok (.aload_n 0, 1) := by decide +kernel
theorem dX5_turn_179 : decode cX5_turn 179 = .ok (.iload_n 2, 1) := by decide +kernel
theorem dX5_turn_180 : decode cX5_turn 180 = .ok (.iload_n 1, 1) := by decide +kernel
theorem dX5_turn_181 : decode cX5_turn 181 = .ok (.isub, 1) := by decide +kernel
theorem dX5_turn_182 : decode cX5_turn 182 = .ok (.putfield 76, 3) := by decide +kernel
theorem dX5_turn_185 : decode cX5_turn 185 = .ok (.iconst 0, 1) := by decide +kernel
theorem dX5_turn_186 : decode cX5_turn 186 = .ok (.istore_n 3, 1) := by decide +kernel
theorem dX5_turn_187 : decode cX5_turn 187 = .ok (.iload_n 3, 1) := by decide +kernel
theorem dX5_turn_188 : decode cX5_turn 188 = .ok (.aload_n 0, 1) := by decide +kernel
theorem dX5_turn_189 : decode cX5_turn 189 = .ok (.getfield 76, 3) := by decide +kernel
theorem dX5_turn_192 : decode cX5_turn 192 = .ok (.if_icmp .ge 23, 3) := by decide +kernel
theorem dX5_turn_195 : decode cX5_turn 195 = .ok (.aload_n 0, 1) := by decide +kernel
theorem dX5_turn_196 : decode cX5_turn 196 = .ok (.getfield 13, 3) := by decide +kernel
theorem dX5_turn_199 : decode cX5_turn 199 = .ok (.iload_n 3, 1) := by decide +kernel
theorem dX5_turn_200 : decode cX5_turn 200 = .ok (.aload_n 0, 1) := by decide +kernel
theorem dX5_turn_201 : decode cX5_turn 201 = .ok (.getfield 13, 3) := by decide +kernel
theorem dX5_turn_204 : decode cX5_turn 204 = .ok (.iload_n 1, 1) := by decide +kernel
theorem dX5_turn_205 : decode cX5_turn 205 = .ok (.iload_n 3, 1) := by decide +kernel
theorem dX5_turn_206 : decode cX5_turn 206 = .ok (.iadd, 1) := by decide +kernel
theorem dX5_turn_207 : decode cX5_turn 207 = .ok (.iaload, 1) := by decide +kernel
theorem dX5_turn_208 : decode cX5_turn 208 = .ok (.iastore, 1) := by decide +kernel
theorem dX5_turn_209 : decode cX5_turn 209 = .ok (.iinc 3 1, 3) := by decide +kernel
theorem dX5_turn_212 : decode cX5_turn 212 = .ok (.goto (-25), 3) := by decide +kernel
theorem dX5_turn_215 : decode cX5_turn 215 = .ok (.aload_n 0, 1) := by decide +kernel
theorem dX5_turn_216 : decode cX5_turn 216 = .ok (.invokevirtual 83, 3) := by decide +kernel
theorem dX5_turn_219 : decode cX5_turn 219 = .ok (.return_, 1) := by decide +kernel
set_option maxRecDepth 20000 in
theorem ggX5_isSlot_X5_in : GoodIn wsX5_isSlot wsX5_in := goodIn_r _ [5] (by decide +kernel) (by decide +kernel)
set_option maxRecDepth 20000 in
theorem gX5_isSlot_X5_in : GoodIn wsX5_isSlot (va_wsS RX5 58 yX5_in wsX5_in) := goodIn_app (goodIn_of _ (by decide +kernel)) ggX5_isSlot_X5_in
theorem dX5_isSlot_0 : decode cX5_isSlot 0 = .ok (.iload_n 0, 1) := by decide +kernel
theorem dX5_isSlot_1 : decode cX5_isSlot 1 = .ok (.i2l, 1) := by decide +kernel
theorem dX5_isSlot_2 : decode cX5_isSlot 2 = .ok (.lconst 0, 1) := by decide +kernel
theorem dX5_isSlot_3 : decode cX5_isSlot 3 = .ok (.ldc2_w 86, 3) := by decide +kernel
theorem dX5_isSlot_6 : decode cX5_isSlot 6 = .ok (.invokestatic 58, 3) := by decide +kernel
theorem dX5_isSlot_9 : decode cX5_isSlot 9 = .ok (.ireturn, 1) := by decide +kernel
theorem dX5_load_0 : decode cX5_load 0 = .ok (.iconst 0, 1) := by decide +kernel
theorem dX5_load_1 : decode cX5_load 1 = .ok (.istore_n 2, 1) := by decide +kernel
theorem dX5_load_2 : decode cX5_load 2 = .ok (.iload_n 2, 1) := by decide +kernel
theorem dX5_load_3 : decode cX5_load 3 = .ok (.aload_n 0, 1) := by decide +kernel
theorem dX5_load_4 : decode cX5_load 4 = .ok (.getfield 20, 3) := by decide +kernel
theorem dX5_load_7 : decode cX5_load 7 = .ok (.iload_n 1, 1) := by decide +kernel
theorem dX5_load_8 : decode cX5_load 8 = .ok (.iaload, 1) := by decide +kernel
theorem dX5_load_9 : decode cX5_load 9 = .ok (.if_icmp .ge 39, 3) := by decide +kernel
theorem dX5_load_12 : decode cX5_load 12 = .ok (.aload_n 0, 1) := by decide +kernel
theorem dX5_load_13 : decode cX5_load 13 = .ok (.getfield 13, 3) := by decide +kernel
theorem dX5_load_16 : decode cX5_load 16 = .ok (.aload_n 0, 1) := by decide +kernel
theorem dX5_load_17 : decode cX5_load 17 = .ok (.getfield 76, 3) := by decide +kernel
theorem dX5_load_20 : decode cX5_load 20 = .ok (.aload_n 0, 1) := by decide +kernel
theorem dX5_load_21 : decode cX5_load 21 = .ok (.getfield 23, 3) := by decide +kernel
theorem dX5_load_24 : decode cX5_load 24 = .ok (.bipush 6, 2) := by decide +kernel
theorem dX5_load_26 : decode cX5_load 26 = .ok (.iload_n 1, 1) := by decide +kernel
theorem dX5_load_27 : decode cX5_load 27 = .ok (.imul, 1) := by decide +kernel
theorem dX5_load_28 : decode cX5_load 28 = .ok (.iload_n 2, 1) := by decide +kernel
theorem dX5_load_29 : decode cX5_load 29 = .ok (.iadd, 1) := by decide +kernel
theorem dX5_load_30 : decode cX5_load 30 = .ok (.iaload, 1) := by decide +kernel
theorem dX5_load_31 : decode cX5_load 31 = .ok (.iastore, 1) := by decide +kernel
theorem dX5_load_32 : decode cX5_load 32 = .ok (.aload_n 0, 1) := by decide +kernel
theorem dX5_load_33 : decode cX5_load 33 = .ok (.dup, 1) := by decide +kernel
theorem dX5_load_34 : decode cX5_load 34 = .ok (.getfield 76, 3) := by decide +kernel
theorem dX5_load_37 : decode cX5_load 37 = .ok (.iconst 1, 1) := by decide +kernel
theorem dX5_load_38 : decode cX5_load 38 = .ok (.iadd, 1) := by decide +kernel
theorem dX5_load_39 : decode cX5_load 39 = .ok (.putfield 76, 3) := by decide +kernel
theorem dX5_load_42 : decode cX5_load 42 = .ok (.iinc 2 1, 3) := by decide +kernel
theorem dX5_load_45 : decode cX5_load 45 = .ok (.goto (-43), 3) := by decide +kernel
theorem dX5_load_48 : decode cX5_load 48 = .ok (.return_, 1) := by decide +kernel
theorem dX5_save_0 : decode cX5_save 0 = .ok (.aload_n 0, 1) := by decide +kernel
theorem dX5_save_1 : decode cX5_save 1 = .ok (.getfield 20, 3) := by decide +kernel
theorem dX5_save_4 : decode cX5_save 4 = .ok (.iload_n 1, 1) := by decide +kernel
theorem dX5_save_5 : decode cX5_save 5 = .ok (.aload_n 0, 1) := by decide +kernel
theorem dX5_save_6 : decode cX5_save 6 = .ok (.getfield 76, 3) := by decide +kernel
theorem dX5_save_9 : decode cX5_save 9 = .ok (.iastore, 1) := by decide +kernel
theorem dX5_save_10 : decode cX5_save 10 = .ok (.iconst 0, 1) := by decide +kernel
theorem dX5_save_11 : decode cX5_save 11 = .ok (.istore_n 2, 1) := by decide +kernel
theorem dX5_save_12 : decode cX5_save 12 = .ok (.iload_n 2, 1) := by decide +kernel
theorem dX5_save_13 : decode cX5_save 13 = .ok (.aload_n 0, 1) := by decide +kernel
theorem dX5_save_14 : decode cX5_save 14 = .ok (.getfield 76, 3) := by decide +kernel
theorem dX5_save_17 : decode cX5_save 17 = .ok (.if_icmp .ge 26, 3) := by decide +kernel
theorem dX5_save_20 : decode cX5_save 20 = .ok (.aload_n 0, 1) := by decide +kernel
theorem dX5_save_21 : decode cX5_save 21 = .ok (.getfield 23, 3) := by decide +kernel
theorem dX5_save_24 : decode cX5_save 24 = .ok (.bipush 6, 2) := by decide +kernel
theorem dX5_save_26 : decode cX5_save 26 = .ok (.iload_n 1, 1) := by decide +kernel
theorem dX5_save_27 : decode cX5_save 27 = .ok (.imul, 1) := by decide +kernel
theorem dX5_save_28 : decode cX5_save 28 = .ok (.iload_n 2, 1) := by decide +kernel
theorem dX5_save_29 : decode cX5_save 29 = .ok (.iadd, 1) := by decide +kernel
theorem dX5_save_30 : decode cX5_save 30 = .ok (.aload_n 0, 1) := by decide +kernel
theorem dX5_save_31 : decode cX5_save 31 = .ok (.getfield 13, 3) := by decide +kernel
theorem dX5_save_34 : decode cX5_save 34 = .ok (.iload_n 2, 1) := by decide +kernel
theorem dX5_save_35 : decode cX5_save 35 = .ok (.iaload, 1) := by decide +kernel
theorem dX5_save_36 : decode cX5_save 36 = .ok (.iastore, 1) := by decide +kernel
theorem dX5_save_37 : decode cX5_save 37 = .ok (.iinc 2 1, 3) := by decide +kernel
theorem dX5_save_40 : decode cX5_save 40 = .ok (.goto (-28), 3) := by decide +kernel
theorem dX5_save_43 : decode cX5_save 43 = .ok (.aload_n 0, 1) := by decide +kernel
theorem dX5_save_44 : decode cX5_save 44 = .ok (.getfield 76, 3) := by decide +kernel
theorem dX5_save_47 : decode cX5_save 47 = .ok (.ireturn, 1) := by decide +kernel
set_option maxRecDepth 20000 in
theorem ggX5_add_X5_isSlot : GoodIn wsX5_add wsX5_isSlot := goodIn_r _ [6, 7, 8, 9, 5, 10] (by decide +kernel) (by decide +kernel)
set_option maxRecDepth 20000 in
theorem gX5_add_X5_isSlot : GoodIn wsX5_add (va_wsS RX5 88 yX5_isSlot wsX5_isSlot) := goodIn_app (goodIn_of _ (by decide +kernel)) ggX5_add_X5_isSlot
set_option maxRecDepth 20000 in
theorem ggX5_add_X5_isVector : GoodIn wsX5_add wsX5_isVector := goodIn_r _ [14, 15, 8, 9, 5, 10, 43, 44, 45, 46, 47, 48, 49, 50, 51, 52, 53, 54, 55, 56, 57, 58] (by decide +kernel) (by decide +kernel)
set_option maxRecDepth 20000 in
theorem gX5_add_X5_isVector : GoodIn wsX5_add (wsV RX5 65 RX5 yX5_isVector wsX5_isVector) := goodIn_app (goodIn_of _ (by decide +kernel)) ggX5_add_X5_isVector
set_option maxRecDepth 20000 in
theorem ggX5_add_X5_load : GoodIn wsX5_add wsX5_load := goodIn_r _ [19, 20, 2, 1, 21, 43, 44, 45, 46, 47, 48, 49, 50, 51, 52, 53, 54, 55, 56, 57, 58] (by decide +kernel) (by decide +kernel)
set_option maxRecDepth 20000 in
theorem gX5_add_X5_load : GoodIn wsX5_add (wsV RX5 91 RX5 yX5_load wsX5_load) := goodIn_app (goodIn_of _ (by decide +kernel)) ggX5_add_X5_load
set_option maxRecDepth 20000 in
theorem ggX5_add_X5_settle : GoodIn wsX5_add wsX5_settle := goodIn_r _ [25, 26, 1, 2, 27, 28, 29, 30, 5, 31, 32, 33, 34, 35, 36, 37, 38, 43, 44, 45, 46, 47, 48, 49, 50, 51, 52, 53, 54, 55, 56, 57, 58] (by decide +kernel) (by decide +kernel)
set_option maxRecDepth 20000 in
theorem gX5_add_X5_settle : GoodIn wsX5_add (wsV RX5 83 RX5 yX5_settle wsX5_settle) := goodIn_app (goodIn_of _ (by decide +kernel)) ggX5_add_X5_settle
set_option maxRecDepth 20000 in
theorem ggX5_add_X5_save : GoodIn wsX5_add wsX5_save := goodIn_r _ [42, 20, 1, 21, 2, 43, 44, 45, 46, 47, 48, 49, 50, 51, 52, 53, 54, 55, 56, 57, 58] (by decide +kernel) (by decide +kernel)
set_option maxRecDepth 20000 in
theorem gX5_add_X5_save : GoodIn wsX5_add (wsV RX5 95 RX5 yX5_save wsX5_save) := goodIn_app (goodIn_of _ (by decide +kernel)) ggX5_add_X5_save
theorem dX5_add_0 : decode cX5_add 0 = .ok (.iload_n 1, 1) := by decide +kernel
theorem dX5_add_1 : decode cX5_add 1 = .ok (.invokestatic 88, 3) := by decide +kernel
theorem dX5_add_4 : decode cX5_add 4 = .ok (.ifCond .eq 11, 3) := by decide +kernel
theorem dX5_add_7 : decode cX5_add 7 = .ok (.aload_n 0, 1) := by decide +kernel
theorem dX5_add_8 : decode cX5_add 8 = .ok (.iload_n 2, 1) := by decide +kernel
theorem dX5_add_9 : decode cX5_add 9 = .ok (.invokevirtual 65, 3) := by decide +kernel
theorem dX5_add_12 : decode cX5_add 12 = .ok (.ifCond .ne 6, 3) := by decide +kernel
theorem dX5_add_15 : decode cX5_add 15 = .ok (.bipush (-101), 2) := by decide +kernel
theorem dX5_add_17 : decode cX5_add 17 = .ok (.ireturn, 1) := by decide +kernel
theorem dX5_add_18 : decode cX5_add 18 = .ok (.aload_n 0, 1) := by decide +kernel
theorem dX5_add_19 : decode cX5_add 19 = .ok (.iconst 0, 1) := by decide +kernel
theorem dX5_add_20 : decode cX5_add 20 = .ok (.putfield 76, 3) := by decide +kernel
theorem dX5_add_23 : decode cX5_add 23 = .ok (.aload_n 0, 1) := by decide +kernel
theorem dX5_add_24 : decode cX5_add 24 = .ok (.iload_n 1, 1) := by decide +kernel
theorem dX5_add_25 : decode cX5_add 25 = .ok (.invokevirtual 91, 3) := by decide +kernel
theorem dX5_add_28 : decode cX5_add 28 = .ok (.aload_n 0, 1) := by decide +kernel
theorem dX5_add_29 : decode cX5_add 29 = .ok (.getfield 13, 3) := by decide +kernel
theorem dX5_add_32 : decode cX5_add 32 = .ok (.aload_n 0, 1) := by decide +kernel
theorem dX5_add_33 : decode cX5_add 33 = .ok (.getfield 76, 3) := by decide +kernel
theorem dX5_add_36 : decode cX5_add 36 = .ok (.iload_n 2, 1) := by decide +kernel
theorem dX5_add_37 : decode cX5_add 37 = .ok (.iastore, 1) := by decide +kernel
theorem dX5_add_38 : decode cX5_add 38 = .ok (.aload_n 0, 1) := by decide +kernel
theorem dX5_add_39 : decode cX5_add 39 = .ok (.dup, 1) := by decide +kernel
theorem dX5_add_40 : decode cX5_add 40 = .ok (.getfield 76, 3) := by decide +kernel
theorem dX5_add_43 : decode cX5_add 43 = .ok (.iconst 1, 1) := by decide +kernel
theorem dX5_add_44 : decode cX5_add 44 = .ok (.iadd, 1) := by decide +kernel
theorem dX5_add_45 : decode cX5_add 45 = .ok (.putfield 76, 3) := by decide +kernel
theorem dX5_add_48 : decode cX5_add 48 = .ok (.aload_n 0, 1) := by decide +kernel
theorem dX5_add_49 : decode cX5_add 49 = .ok (.invokevirtual 83, 3) := by decide +kernel
theorem dX5_add_52 : decode cX5_add 52 = .ok (.aload_n 0, 1) := by decide +kernel
theorem dX5_add_53 : decode cX5_add 53 = .ok (.iload_n 1, 1) := by decide +kernel
theorem dX5_add_54 : decode cX5_add 54 = .ok (.invokevirtual 95, 3) := by decide +kernel
theorem dX5_add_57 : decode cX5_add 57 = .ok (.ireturn, 1) := by decide +kernel
set_option maxRecDepth 20000 in
theorem ggX5_clear_X5_isSlot : GoodIn wsX5_clear wsX5_isSlot := goodIn_r _ [5, 6, 7, 8, 4, 9] (by decide +kernel) (by decide +kernel)
set_option maxRecDepth 20000 in
theorem gX5_clear_X5_isSlot : GoodIn wsX5_clear (va_wsS RX5 88 yX5_isSlot wsX5_isSlot) := goodIn_app (goodIn_of _ (by decide +kernel)) ggX5_clear_X5_isSlot
theorem dX5_clear_0 : decode cX5_clear 0 = .ok (.iload_n 1, 1) := by decide +kernel
theorem dX5_clear_1 : decode cX5_clear 1 = .ok (.invokestatic 88, 3) := by decide +kernel
theorem dX5_clear_4 : decode cX5_clear 4 = .ok (.ifCond .ne 6, 3) := by decide +kernel
theorem dX5_clear_7 : decode cX5_clear 7 = .ok (.bipush (-101), 2) := by decide +kernel
theorem dX5_clear_9 : decode cX5_clear 9 = .ok (.ireturn, 1) := by decide +kernel
theorem dX5_clear_10 : decode cX5_clear 10 = .ok (.aload_n 0, 1) := by decide +kernel
theorem dX5_clear_11 : decode cX5_clear 11 = .ok (.getfield 20, 3) := by decide +kernel
theorem dX5_clear_14 : decode cX5_clear 14 = .ok (.iload_n 1, 1) := by decide +kernel
theorem dX5_clear_15 : decode cX5_clear 15 = .ok (.iaload, 1) := by decide +kernel
theorem dX5_clear_16 : decode cX5_clear 16 = .ok (.istore_n 2, 1) := by decide +kernel
theorem dX5_clear_17 : decode cX5_clear 17 = .ok (.aload_n 0, 1) := by decide +kernel
theorem dX5_clear_18 : decode cX5_clear 18 = .ok (.getfield 20, 3) := by decide +kernel
theorem dX5_clear_21 : decode cX5_clear 21 = .ok (.iload_n 1, 1) := by decide +kernel
theorem dX5_clear_22 : decode cX5_clear 22 = .ok (.iconst 0, 1) := by decide +kernel
theorem dX5_clear_23 : decode cX5_clear 23 = .ok (.iastore, 1) := by decide +kernel
theorem dX5_clear_24 : decode cX5_clear 24 = .ok (.iload_n 2, 1) := by decide +kernel
theorem dX5_clear_25 : decode cX5_clear 25 = .ok (.ireturn, 1) := by decide +kernel
set_option maxRecDepth 20000 in
theorem ggX5_dim_X5_isSlot : GoodIn wsX5_dim wsX5_isSlot := goodIn_r _ [5, 6, 7, 8, 4, 9] (by decide +kernel) (by decide +kernel)
set_option maxRecDepth 20000 in
theorem gX5_dim_X5_isSlot : GoodIn wsX5_dim (va_wsS RX5 88 yX5_isSlot wsX5_isSlot) := goodIn_app (goodIn_of _ (by decide +kernel)) ggX5_dim_X5_isSlot
theorem dX5_dim_0 : decode cX5_dim 0 = .ok (.iload_n 1, 1) := by decide +kernel
theorem dX5_dim_1 : decode cX5_dim 1 = .ok (.invokestatic 88, 3) := by decide +kernel
theorem dX5_dim_4 : decode cX5_dim 4 = .ok (.ifCond .eq 12, 3) := by decide +kernel
theorem dX5_dim_7 : decode cX5_dim 7 = .ok (.aload_n 0, 1) := by decide +kernel
theorem dX5_dim_8 : decode cX5_dim 8 = .ok (.getfield 20, 3) := by decide +kernel
theorem dX5_dim_11 : decode cX5_dim 11 = .ok (.iload_n 1, 1) := by decide +kernel
theorem dX5_dim_12 : decode cX5_dim 12 = .ok (.iaload, 1) := by decide +kernel
theorem dX5_dim_13 : decode cX5_dim 13 = .ok (.goto 5, 3) := by decide +kernel
theorem dX5_dim_16 : decode cX5_dim 16 = .ok (.bipush (-101), 2) := by decide +kernel
theorem dX5_dim_18 : decode cX5_dim 18 = .ok (.ireturn, 1) := by decide +kernel
set_option maxRecDepth 20000 in
theorem ggX5_row_X5_isSlot : GoodIn wsX5_row wsX5_isSlot := goodIn_r _ [6, 7, 8, 9, 5, 10] (by decide +kernel) (by decide +kernel)
set_option maxRecDepth 20000 in
theorem gX5_row_X5_isSlot : GoodIn wsX5_row (va_wsS RX5 88 yX5_isSlot wsX5_isSlot) := goodIn_app (goodIn_of _ (by decide +kernel)) ggX5_row_X5_isSlot
set_option maxRecDepth 20000 in
theorem ggX5_row_X5_in : GoodIn wsX5_row wsX5_in := goodIn_r _ [10] (by decide +kernel) (by decide +kernel)
set_option maxRecDepth 20000 in
theorem gX5_row_X5_in : GoodIn wsX5_row (va_wsS RX5 58 yX5_in wsX5_in) := goodIn_app (goodIn_of _ (by decide +kernel)) ggX5_row_X5_in
theorem dX5_row_0 : decode cX5_row 0 = .ok (.iload_n 1, 1) := by decide +kernel
theorem dX5_row_1 : decode cX5_row 1 = .ok (.invokestatic 88, 3) := by decide +kernel
theorem dX5_row_4 : decode cX5_row 4 = .ok (.ifCond .ne 6, 3) := by decide +kernel
theorem dX5_row_7 : decode cX5_row 7 = .ok (.bipush (-101), 2) := by decide +kernel
theorem dX5_row_9 : decode cX5_row 9 = .ok (.ireturn, 1) := by decide +kernel
theorem dX5_row_10 : decode cX5_row 10 = .ok (.iload_n 2, 1) := by decide +kernel
theorem dX5_row_11 : decode cX5_row 11 = .ok (.i2l, 1) := by decide +kernel
theorem dX5_row_12 : decode cX5_row 12 = .ok (.lconst 0, 1) := by decide +kernel
theorem dX5_row_13 : decode cX5_row 13 = .ok (.aload_n 0, 1) := by decide +kernel
theorem dX5_row_14 : decode cX5_row 14 = .ok (.getfield 20, 3) := by decide +kernel
theorem dX5_row_17 : decode cX5_row 17 = .ok (.iload_n 1, 1) := by decide +kernel
theorem dX5_row_18 : decode cX5_row 18 = .ok (.iaload, 1) := by decide +kernel
theorem dX5_row_19 : decode cX5_row 19 = .ok (.iconst 1, 1) := by decide +kernel
theorem dX5_row_20 : decode cX5_row 20 = .ok (.isub, 1) := by decide +kernel
theorem dX5_row_21 : decode cX5_row 21 = .ok (.i2l, 1) := by decide +kernel
theorem dX5_row_22 : decode cX5_row 22 = .ok (.invokestatic 58, 3) := by decide +kernel
theorem dX5_row_25 : decode cX5_row 25 = .ok (.ifCond .eq 17, 3) := by decide +kernel
theorem dX5_row_28 : decode cX5_row 28 = .ok (.aload_n 0, 1) := by decide +kernel
theorem dX5_row_29 : decode cX5_row 29 = .ok (.getfield 23, 3) := by decide +kernel
theorem dX5_row_32 : decode cX5_row 32 = .ok (.bipush 6, 2) := by decide +kernel
theorem dX5_row_34 : decode cX5_row 34 = .ok (.iload_n 1, 1) := by decide +kernel
theorem dX5_row_35 : decode cX5_row 35 = .ok (.imul, 1) := by decide +kernel
theorem dX5_row_36 : decode cX5_row 36 = .ok (.iload_n 2, 1) := by decide +kernel
theorem dX5_row_37 : decode cX5_row 37 = .ok (.iadd, 1) := by decide +kernel
theorem dX5_row_38 : decode cX5_row 38 = .ok (.iaload, 1) := by decide +kernel
theorem dX5_row_39 : decode cX5_row 39 = .ok (.goto 4, 3) := by decide +kernel
theorem dX5_row_42 : decode cX5_row 42 = .ok (.iconst (-1), 1) := by decide +kernel
theorem dX5_row_43 : decode cX5_row 43 = .ok (.ireturn, 1) := by decide +kernel
set_option maxRecDepth 20000 in
theorem ggX5_areSlots_X5_isSlot : GoodIn wsX5_areSlots wsX5_isSlot := goodIn_r _ [4, 5, 6, 7, 3, 8] (by decide +kernel) (by decide +kernel)
set_option maxRecDepth 20000 in
theorem gX5_areSlots_X5_isSlot : GoodIn wsX5_areSlots (va_wsS RX5 88 yX5_isSlot wsX5_isSlot) := goodIn_app (goodIn_of _ (by decide +kernel)) ggX5_areSlots_X5_isSlot
theorem dX5_areSlots_0 : decode cX5_areSlots 0 = .ok (.iload_n 0, 1) := by decide +kernel
theorem dX5_areSlots_1 : decode cX5_areSlots 1 = .ok (.invokestatic 88, 3) := by decide +kernel
theorem dX5_areSlots_4 : decode cX5_areSlots 4 = .ok (.ifCond .eq 21, 3) := by decide +kernel
theorem dX5_areSlots_7 : decode cX5_areSlots 7 = .ok (.iload_n 1, 1) := by decide +kernel
theorem dX5_areSlots_8 : decode cX5_areSlots 8 = .ok (.invokestatic 88, 3) := by decide +kernel
theorem dX5_areSlots_11 : decode cX5_areSlots 11 = .ok (.ifCond .eq 14, 3) := by decide +kernel
theorem dX5_areSlots_14 : decode cX5_areSlots 14 = .ok (.iload_n 2, 1) := by decide +kernel
theorem dX5_areSlots_15 : decode cX5_areSlots 15 = .ok (.invokestatic 88, 3) := by decide +kernel
theorem dX5_areSlots_18 : decode cX5_areSlots 18 = .ok (.ifCond .eq 7, 3) := by decide +kernel
theorem dX5_areSlots_21 : decode cX5_areSlots 21 = .ok (.iconst 1, 1) := by decide +kernel
theorem dX5_areSlots_22 : decode cX5_areSlots 22 = .ok (.goto 4, 3) := by decide +kernel
theorem dX5_areSlots_25 : decode cX5_areSlots 25 = .ok (.iconst 0, 1) := by decide +kernel
theorem dX5_areSlots_26 : decode cX5_areSlots 26 = .ok (.ireturn, 1) := by decide +kernel
set_option maxRecDepth 20000 in
theorem ggX5_joined_X5_load : GoodIn wsX5_joined wsX5_load := goodIn_r _ [6, 7, 8, 1, 9, 27, 28, 29, 30, 31, 32, 33, 34, 35, 36, 37, 38, 39, 40, 41, 42] (by decide +kernel) (by decide +kernel)
set_option maxRecDepth 20000 in
theorem gX5_joined_X5_load : GoodIn wsX5_joined (wsV RX5 91 RX5 yX5_load wsX5_load) := goodIn_app (goodIn_of _ (by decide +kernel)) ggX5_joined_X5_load
set_option maxRecDepth 20000 in
theorem ggX5_joined_X5_settle : GoodIn wsX5_joined wsX5_settle := goodIn_r _ [13, 14, 1, 8, 15, 16, 17, 18, 5, 19, 20, 21, 22, 23, 24, 25, 26, 27, 28, 29, 30, 31, 32, 33, 34, 35, 36, 37, 38, 39, 40, 41, 42] (by decide +kernel) (by decide +kernel)
set_option maxRecDepth 20000 in
theorem gX5_joined_X5_settle : GoodIn wsX5_joined (wsV RX5 83 RX5 yX5_settle wsX5_settle) := goodIn_app (goodIn_of _ (by decide +kernel)) ggX5_joined_X5_settle
theorem dX5_joined_0 : decode cX5_joined 0 = .ok (.aload_n 0, 1) := by decide +kernel
theorem dX5_joined_1 : decode cX5_joined 1 = .ok (.iconst 0, 1) := by decide +kernel
theorem dX5_joined_2 : decode cX5_joined 2 = .ok (.putfield 76, 3) := by decide +kernel
theorem dX5_joined_5 : decode cX5_joined 5 = .ok (.aload_n 0, 1) := by decide +kernel
theorem dX5_joined_6 : decode cX5_joined 6 = .ok (.iload_n 1, 1) := by decide +kernel
theorem dX5_joined_7 : decode cX5_joined 7 = .ok (.invokevirtual 91, 3) := by decide +kernel
theorem dX5_joined_10 : decode cX5_joined 10 = .ok (.aload_n 0, 1) := by decide +kernel
theorem dX5_joined_11 : decode cX5_joined 11 = .ok (.iload_n 2, 1) := by decide +kernel
theorem dX5_joined_12 : decode cX5_joined 12 = .ok (.invokevirtual 91, 3) := by decide +kernel
theorem dX5_joined_15 : decode cX5_joined 15 = .ok (.aload_n 0, 1) := by decide +kernel
theorem dX5_joined_16 : decode cX5_joined 16 = .ok (.invokevirtual 83, 3) := by decide +kernel
theorem dX5_joined_19 : decode cX5_joined 19 = .ok (.aload_n 0, 1) := by decide +kernel
theorem dX5_joined_20 : decode cX5_joined 20 = .ok (.getfield 76, 3) := by decide +kernel
theorem dX5_joined_23 : decode cX5_joined 23 = .ok (.ireturn, 1) := by decide +kernel
set_option maxRecDepth 20000 in
theorem ggX5_join_X5_areSlots : GoodIn wsX5_join wsX5_areSlots := goodIn_r _ [4, 5, 6, 3, 7, 8, 9, 10, 11] (by decide +kernel) (by decide +kernel)
set_option maxRecDepth 20000 in
theorem gX5_join_X5_areSlots : GoodIn wsX5_join (va_wsS RX5 98 yX5_areSlots wsX5_areSlots) := goodIn_app (goodIn_of _ (by decide +kernel)) ggX5_join_X5_areSlots
set_option maxRecDepth 20000 in
theorem ggX5_join_X5_joined : GoodIn wsX5_join wsX5_joined := goodIn_r _ [15, 16, 17, 18, 19, 3, 20, 21, 22, 23, 24, 25, 26, 27, 28, 29, 30, 31, 32, 33, 34, 35, 36, 37, 38, 39, 40, 45, 46, 47, 48, 49, 50, 51, 52, 53, 54, 55, 56, 57, 58, 59, 60] (by decide +kernel) (by decide +kernel)
set_option maxRecDepth 20000 in
theorem gX5_join_X5_joined : GoodIn wsX5_join (wsV RX5 102 RX5 yX5_joined wsX5_joined) := goodIn_app (goodIn_of _ (by decide +kernel)) ggX5_join_X5_joined
set_option maxRecDepth 20000 in
theorem ggX5_join_X5_save : GoodIn wsX5_join wsX5_save := goodIn_r _ [44, 21, 16, 23, 22, 45, 46, 47, 48, 49, 50, 51, 52, 53, 54, 55, 56, 57, 58, 59, 60] (by decide +kernel) (by decide +kernel)
set_option maxRecDepth 20000 in
theorem gX5_join_X5_save : GoodIn wsX5_join (wsV RX5 95 RX5 yX5_save wsX5_save) := goodIn_app (goodIn_of _ (by decide +kernel)) ggX5_join_X5_save
theorem dX5_join_0 : decode cX5_join 0 = .ok (.iload_n 1, 1) := by decide +kernel
theorem dX5_join_1 : decode cX5_join 1 = .ok (.iload_n 2, 1) := by decide +kernel
theorem dX5_join_2 : decode cX5_join 2 = .ok (.iload_n 3, 1) := by decide +kernel
theorem dX5_join_3 : decode cX5_join 3 = .ok (.invokestatic 98, 3) := by decide +kernel
theorem dX5_join_6 : decode cX5_join 6 = .ok (.ifCond .ne 6, 3) := by decide +kernel
theorem dX5_join_9 : decode cX5_join 9 = .ok (.bipush (-101), 2) := by decide +kernel
theorem dX5_join_11 : decode cX5_join 11 = .ok (.ireturn, 1) := by decide +kernel
theorem dX5_join_12 : decode cX5_join 12 = .ok (.aload_n 0, 1) := by decide +kernel
theorem dX5_join_13 : decode cX5_join 13 = .ok (.iload_n 1, 1) := by decide +kernel
theorem dX5_join_14 : decode cX5_join 14 = .ok (.iload_n 2, 1) := by decide +kernel
theorem dX5_join_15 : decode cX5_join 15 = .ok (.invokevirtual 102, 3) := by decide +kernel
theorem dX5_join_18 : decode cX5_join 18 = .ok (.pop, 1) := by decide +kernel
theorem dX5_join_19 : decode cX5_join 19 = .ok (.aload_n 0, 1) := by decide +kernel
theorem dX5_join_20 : decode cX5_join 20 = .ok (.iload_n 3, 1) := by decide +kernel
theorem dX5_join_21 : decode cX5_join 21 = .ok (.invokevirtual 95, 3) := by decide +kernel
theorem dX5_join_24 : decode cX5_join 24 = .ok (.ireturn, 1) := by decide +kernel
set_option maxRecDepth 20000 in
theorem ggX5_meet_X5_areSlots : GoodIn wsX5_meet wsX5_areSlots := goodIn_r _ [7, 8, 9, 6, 10, 11, 12, 13, 14] (by decide +kernel) (by decide +kernel)
set_option maxRecDepth 20000 in
theorem gX5_meet_X5_areSlots : GoodIn wsX5_meet (va_wsS RX5 98 yX5_areSlots wsX5_areSlots) := goodIn_app (goodIn_of _ (by decide +kernel)) ggX5_meet_X5_areSlots
set_option maxRecDepth 20000 in
theorem ggX5_meet_X5_load : GoodIn wsX5_meet wsX5_load := goodIn_r _ [18, 19, 3, 1, 20, 51, 52, 53, 54, 55, 56, 57, 58, 59, 60, 61, 62, 63, 64, 65, 66] (by decide +kernel) (by decide +kernel)
set_option maxRecDepth 20000 in
theorem gX5_meet_X5_load : GoodIn wsX5_meet (wsV RX5 91 RX5 yX5_load wsX5_load) := goodIn_app (goodIn_of _ (by decide +kernel)) ggX5_meet_X5_load
set_option maxRecDepth 20000 in
theorem ggX5_meet_X5_turn : GoodIn wsX5_meet wsX5_turn := goodIn_r _ [24, 1, 25, 3, 26, 27, 28, 29, 30, 6, 31, 32, 33, 34, 35, 36, 37, 38, 39, 40, 41, 42, 43, 44, 45, 46, 51, 52, 53, 54, 55, 56, 57, 58, 59, 60, 61, 62, 63, 64, 65, 66] (by decide +kernel) (by decide +kernel)
set_option maxRecDepth 20000 in
theorem gX5_meet_X5_turn : GoodIn wsX5_meet (wsV RX5 105 RX5 yX5_turn wsX5_turn) := goodIn_app (goodIn_of _ (by decide +kernel)) ggX5_meet_X5_turn
set_option maxRecDepth 20000 in
theorem ggX5_meet_X5_settle : GoodIn wsX5_meet wsX5_settle := goodIn_r _ [42, 26, 1, 3, 27, 32, 33, 34, 6, 35, 36, 37, 38, 43, 44, 45, 46, 51, 52, 53, 54, 55, 56, 57, 58, 59, 60, 61, 62, 63, 64, 65, 66] (by decide +kernel) (by decide +kernel)
set_option maxRecDepth 20000 in
theorem gX5_meet_X5_settle : GoodIn wsX5_meet (wsV RX5 83 RX5 yX5_settle wsX5_settle) := goodIn_app (goodIn_of _ (by decide +kernel)) ggX5_meet_X5_settle
set_option maxRecDepth 20000 in
theorem ggX5_meet_X5_save : GoodIn wsX5_meet wsX5_save := goodIn_r _ [50, 19, 1, 20, 3, 51, 52, 53, 54, 55, 56, 57, 58, 59, 60, 61, 62, 63, 64, 65, 66] (by decide +kernel) (by decide +kernel)
set_option maxRecDepth 20000 in
theorem gX5_meet_X5_save : GoodIn wsX5_meet (wsV RX5 95 RX5 yX5_save wsX5_save) := goodIn_app (goodIn_of _ (by decide +kernel)) ggX5_meet_X5_save
theorem dX5_meet_0 : decode cX5_meet 0 = .ok (.iload_n 1, 1) := by decide +kernel
theorem dX5_meet_1 : decode cX5_meet 1 = .ok (.iload_n 2, 1) := by decide +kernel
theorem dX5_meet_2 : decode cX5_meet 2 = .ok (.iload_n 3, 1) := by decide +kernel
theorem dX5_meet_3 : decode cX5_meet 3 = .ok (.invokestatic 98, 3) := by decide +kernel
theorem dX5_meet_6 : decode cX5_meet 6 = .ok (.ifCond .ne 6, 3) := by decide +kernel
theorem dX5_meet_9 : decode cX5_meet 9 = .ok (.bipush (-101), 2) := by decide +kernel
theorem dX5_meet_11 : decode cX5_meet 11 = .ok (.ireturn, 1) := by decide +kernel
theorem dX5_meet_12 : decode cX5_meet 12 = .ok (.aload_n 0, 1) := by decide +kernel
theorem dX5_meet_13 : decode cX5_meet 13 = .ok (.iconst 0, 1) := by decide +kernel
theorem dX5_meet_14 : decode cX5_meet 14 = .ok (.putfield 76, 3) := by decide +kernel
theorem dX5_meet_17 : decode cX5_meet 17 = .ok (.aload_n 0, 1) := by decide +kernel
theorem dX5_meet_18 : decode cX5_meet 18 = .ok (.iload_n 1, 1) := by decide +kernel
theorem dX5_meet_19 : decode cX5_meet 19 = .ok (.invokevirtual 91, 3) := by decide +kernel
theorem dX5_meet_22 : decode cX5_meet 22 = .ok (.aload_n 0, 1) := by decide +kernel
theorem dX5_meet_23 : decode cX5_meet 23 = .ok (.invokevirtual 105, 3) := by decide +kernel
theorem dX5_meet_26 : decode cX5_meet 26 = .ok (.aload_n 0, 1) := by decide +kernel
theorem dX5_meet_27 : decode cX5_meet 27 = .ok (.getfield 76, 3) := by decide +kernel
theorem dX5_meet_30 : decode cX5_meet 30 = .ok (.istore 4, 2) := by decide +kernel
theorem dX5_meet_32 : decode cX5_meet 32 = .ok (.iconst 0, 1) := by decide +kernel
theorem dX5_meet_33 : decode cX5_meet 33 = .ok (.istore 5, 2) := by decide +kernel
theorem dX5_meet_35 : decode cX5_meet 35 = .ok (.iload 5, 2) := by decide +kernel
theorem dX5_meet_37 : decode cX5_meet 37 = .ok (.iload 4, 2) := by decide +kernel
theorem dX5_meet_39 : decode cX5_meet 39 = .ok (.if_icmp .ge 23, 3) := by decide +kernel
theorem dX5_meet_42 : decode cX5_meet 42 = .ok (.aload_n 0, 1) := by decide +kernel
theorem dX5_meet_43 : decode cX5_meet 43 = .ok (.getfield 26, 3) := by decide +kernel
theorem dX5_meet_46 : decode cX5_meet 46 = .ok (.iload 5, 2) := by decide +kernel
theorem dX5_meet_48 : decode cX5_meet 48 = .ok (.aload_n 0, 1) := by decide +kernel
theorem dX5_meet_49 : decode cX5_meet 49 = .ok (.getfield 13, 3) := by decide +kernel
theorem dX5_meet_52 : decode cX5_meet 52 = .ok (.iload 5, 2) := by decide +kernel
theorem dX5_meet_54 : decode cX5_meet 54 = .ok (.iaload, 1) := by decide +kernel
theorem dX5_meet_55 : decode cX5_meet 55 = .ok (.iastore, 1) := by decide +kernel
theorem dX5_meet_56 : decode cX5_meet 56 = .ok (.iinc 5 1, 3) := by decide +kernel
theorem dX5_meet_59 : decode cX5_meet 59 = .ok (.goto (-24), 3) := by decide +kernel
theorem dX5_meet_62 : decode cX5_meet 62 = .ok (.aload_n 0, 1) := by decide +kernel
theorem dX5_meet_63 : decode cX5_meet 63 = .ok (.iconst 0, 1) := by decide +kernel
theorem dX5_meet_64 : decode cX5_meet 64 = .ok (.putfield 76, 3) := by decide +kernel
theorem dX5_meet_67 : decode cX5_meet 67 = .ok (.aload_n 0, 1) := by decide +kernel
theorem dX5_meet_68 : decode cX5_meet 68 = .ok (.iload_n 2, 1) := by decide +kernel
theorem dX5_meet_69 : decode cX5_meet 69 = .ok (.invokevirtual 91, 3) := by decide +kernel
theorem dX5_meet_72 : decode cX5_meet 72 = .ok (.aload_n 0, 1) := by decide +kernel
theorem dX5_meet_73 : decode cX5_meet 73 = .ok (.invokevirtual 105, 3) := by decide +kernel
theorem dX5_meet_76 : decode cX5_meet 76 = .ok (.iconst 0, 1) := by decide +kernel
theorem dX5_meet_77 : decode cX5_meet 77 = .ok (.istore 5, 2) := by decide +kernel
theorem dX5_meet_79 : decode cX5_meet 79 = .ok (.iload 5, 2) := by decide +kernel
theorem dX5_meet_81 : decode cX5_meet 81 = .ok (.iload 4, 2) := by decide +kernel
theorem dX5_meet_83 : decode cX5_meet 83 = .ok (.if_icmp .ge 35, 3) := by decide +kernel
theorem dX5_meet_86 : decode cX5_meet 86 = .ok (.aload_n 0, 1) := by decide +kernel
theorem dX5_meet_87 : decode cX5_meet 87 = .ok (.getfield 13, 3) := by decide +kernel
theorem dX5_meet_90 : decode cX5_meet 90 = .ok (.aload_n 0, 1) := by decide +kernel
theorem dX5_meet_91 : decode cX5_meet 91 = .ok (.getfield 76, 3) := by decide +kernel
theorem dX5_meet_94 : decode cX5_meet 94 = .ok (.aload_n 0, 1) := by decide +kernel
theorem dX5_meet_95 : decode cX5_meet 95 = .ok (.getfield 26, 3) := by decide +kernel
theorem dX5_meet_98 : decode cX5_meet 98 = .ok (.iload 5, 2) := by decide +kernel
theorem dX5_meet_100 : decode cX5_meet 100 = .ok (.iaload, 1) := by decide +kernel
theorem dX5_meet_101 : decode cX5_meet 101 = .ok (.iastore, 1) := by decide +kernel
theorem dX5_meet_102 : decode cX5_meet 102 = .ok (.aload_n 0, 1) := by decide +kernel
theorem dX5_meet_103 : decode cX5_meet 103 = .ok (.dup, 1) := by decide +kernel
theorem dX5_meet_104 : decode cX5_meet 104 = .ok (.getfield 76, 3) := by decide +kernel
theorem dX5_meet_107 : decode cX5_meet 107 = .ok (.iconst 1, 1) := by decide +kernel
theorem dX5_meet_108 : decode cX5_meet 108 = .ok (.iadd, 1) := by decide +kernel
theorem dX5_meet_109 : decode cX5_meet 109 = .ok (.putfield 76, 3) := by decide +kernel
theorem dX5_meet_112 : decode cX5_meet 112 = .ok (.iinc 5 1, 3) := by decide +kernel
theorem dX5_meet_115 : decode cX5_meet 115 = .ok (.goto (-36), 3) := by decide +kernel
theorem dX5_meet_118 : decode cX5_meet 118 = .ok (.aload_n 0, 1) := by decide +kernel
theorem dX5_meet_119 : decode cX5_meet 119 = .ok (.invokevirtual 83, 3) := by decide +kernel
theorem dX5_meet_122 : decode cX5_meet 122 = .ok (.aload_n 0, 1) := by decide +kernel
theorem dX5_meet_123 : decode cX5_meet 123 = .ok (.invokevirtual 105, 3) := by decide +kernel
theorem dX5_meet_126 : decode cX5_meet 126 = .ok (.aload_n 0, 1) := by decide +kernel
theorem dX5_meet_127 : decode cX5_meet 127 = .ok (.iload_n 3, 1) := by decide +kernel
theorem dX5_meet_128 : decode cX5_meet 128 = .ok (.invokevirtual 95, 3) := by decide +kernel
theorem dX5_meet_131 : decode cX5_meet 131 = .ok (.ireturn, 1) := by decide +kernel
set_option maxRecDepth 20000 in
theorem ggX5_dual_X5_areSlots : GoodIn wsX5_dual wsX5_areSlots := goodIn_r _ [5, 6, 7, 4, 8, 9, 10, 11, 12] (by decide +kernel) (by decide +kernel)
set_option maxRecDepth 20000 in
theorem gX5_dual_X5_areSlots : GoodIn wsX5_dual (va_wsS RX5 98 yX5_areSlots wsX5_areSlots) := goodIn_app (goodIn_of _ (by decide +kernel)) ggX5_dual_X5_areSlots
set_option maxRecDepth 20000 in
theorem ggX5_dual_X5_load : GoodIn wsX5_dual wsX5_load := goodIn_r _ [16, 17, 18, 1, 19, 50, 51, 52, 53, 54, 55, 56, 57, 58, 59, 60, 61, 62, 63, 64, 65] (by decide +kernel) (by decide +kernel)
set_option maxRecDepth 20000 in
theorem gX5_dual_X5_load : GoodIn wsX5_dual (wsV RX5 91 RX5 yX5_load wsX5_load) := goodIn_app (goodIn_of _ (by decide +kernel)) ggX5_dual_X5_load
set_option maxRecDepth 20000 in
theorem ggX5_dual_X5_turn : GoodIn wsX5_dual wsX5_turn := goodIn_r _ [23, 1, 24, 18, 25, 26, 27, 28, 29, 4, 30, 31, 32, 33, 34, 35, 36, 37, 38, 39, 40, 41, 42, 43, 44, 45, 50, 51, 52, 53, 54, 55, 56, 57, 58, 59, 60, 61, 62, 63, 64, 65] (by decide +kernel) (by decide +kernel)
set_option maxRecDepth 20000 in
theorem gX5_dual_X5_turn : GoodIn wsX5_dual (wsV RX5 105 RX5 yX5_turn wsX5_turn) := goodIn_app (goodIn_of _ (by decide +kernel)) ggX5_dual_X5_turn
set_option maxRecDepth 20000 in
theorem ggX5_dual_X5_save : GoodIn wsX5_dual wsX5_save := goodIn_r _ [49, 17, 1, 19, 18, 50, 51, 52, 53, 54, 55, 56, 57, 58, 59, 60, 61, 62, 63, 64, 65] (by decide +kernel) (by decide +kernel)
set_option maxRecDepth 20000 in
theorem gX5_dual_X5_save : GoodIn wsX5_dual (wsV RX5 95 RX5 yX5_save wsX5_save) := goodIn_app (goodIn_of _ (by decide +kernel)) ggX5_dual_X5_save
theorem dX5_dual_0 : decode cX5_dual 0 = .ok (.iload_n 1, 1) := by decide +kernel
theorem dX5_dual_1 : decode cX5_dual 1 = .ok (.iload_n 1, 1) := by decide +kernel
theorem dX5_dual_2 : decode cX5_dual 2 = .ok (.iload_n 2, 1) := by decide +kernel
theorem dX5_dual_3 : decode cX5_dual 3 = .ok (.invokestatic 98, 3) := by decide +kernel
theorem dX5_dual_6 : decode cX5_dual 6 = .ok (.ifCond .ne 6, 3) := by decide +kernel
theorem dX5_dual_9 : decode cX5_dual 9 = .ok (.bipush (-101), 2) := by decide +kernel
theorem dX5_dual_11 : decode cX5_dual 11 = .ok (.ireturn, 1) := by decide +kernel
theorem dX5_dual_12 : decode cX5_dual 12 = .ok (.aload_n 0, 1) := by decide +kernel
theorem dX5_dual_13 : decode cX5_dual 13 = .ok (.iconst 0, 1) := by decide +kernel
theorem dX5_dual_14 : decode cX5_dual 14 = .ok (.putfield 76, 3) := by decide +kernel
theorem dX5_dual_17 : decode cX5_dual 17 = .ok (.aload_n 0, 1) := by decide +kernel
theorem dX5_dual_18 : decode cX5_dual 18 = .ok (.iload_n 1, 1) := by decide +kernel
theorem dX5_dual_19 : decode cX5_dual 19 = .ok (.invokevirtual 91, 3) := by decide +kernel
theorem dX5_dual_22 : decode cX5_dual 22 = .ok (.aload_n 0, 1) := by decide +kernel
theorem dX5_dual_23 : decode cX5_dual 23 = .ok (.invokevirtual 105, 3) := by decide +kernel
theorem dX5_dual_26 : decode cX5_dual 26 = .ok (.aload_n 0, 1) := by decide +kernel
theorem dX5_dual_27 : decode cX5_dual 27 = .ok (.iload_n 2, 1) := by decide +kernel
theorem dX5_dual_28 : decode cX5_dual 28 = .ok (.invokevirtual 95, 3) := by decide +kernel
theorem dX5_dual_31 : decode cX5_dual 31 = .ok (.ireturn, 1) := by decide +kernel
set_option maxRecDepth 20000 in
theorem ggX5_holds_X5_pivot : GoodIn wsX5_holds wsX5_pivot := goodIn_r _ [8, 9, 10, 11, 7, 12, 3, 13, 14, 15, 16, 21, 22, 23, 24, 25, 26, 27, 28, 29, 30, 31, 32, 33, 34, 35, 36] (by decide +kernel) (by decide +kernel)
set_option maxRecDepth 20000 in
theorem gX5_holds_X5_pivot : GoodIn wsX5_holds (wsV RX5 79 RX5 yX5_pivot wsX5_pivot) := goodIn_app (goodIn_of _ (by decide +kernel)) ggX5_holds_X5_pivot
set_option maxRecDepth 20000 in
theorem ggX5_holds_X5_figure : GoodIn wsX5_holds wsX5_figure := goodIn_r _ [12, 3, 13, 14, 15, 7, 16, 21, 22, 23, 24, 25, 26, 27, 28, 29, 30, 31, 32, 33, 34, 35, 36] (by decide +kernel) (by decide +kernel)
set_option maxRecDepth 20000 in
theorem gX5_holds_X5_figure : GoodIn wsX5_holds (wsV RX5 62 RX5 yX5_figure wsX5_figure) := goodIn_app (goodIn_of _ (by decide +kernel)) ggX5_holds_X5_figure
set_option maxRecDepth 20000 in
theorem ggX5_holds_X5_sum : GoodIn wsX5_holds wsX5_sum := goodIn_r _ [20, 13, 3, 9, 10, 11, 7, 12, 14, 15, 16, 21, 22, 23, 24, 25, 26, 27, 28, 29, 30, 31, 32, 33, 34, 35, 36] (by decide +kernel) (by decide +kernel)
set_option maxRecDepth 20000 in
theorem gX5_holds_X5_sum : GoodIn wsX5_holds (wsV RX5 69 RX5 yX5_sum wsX5_sum) := goodIn_app (goodIn_of _ (by decide +kernel)) ggX5_holds_X5_sum
theorem dX5_holds_0 : decode cX5_holds 0 = .ok (.iload_n 2, 1) := by decide +kernel
theorem dX5_holds_1 : decode cX5_holds 1 = .ok (.istore_n 3, 1) := by decide +kernel
theorem dX5_holds_2 : decode cX5_holds 2 = .ok (.iconst 0, 1) := by decide +kernel
theorem dX5_holds_3 : decode cX5_holds 3 = .ok (.istore 4, 2) := by decide +kernel
theorem dX5_holds_5 : decode cX5_holds 5 = .ok (.iload 4, 2) := by decide +kernel
theorem dX5_holds_7 : decode cX5_holds 7 = .ok (.aload_n 0, 1) := by decide +kernel
theorem dX5_holds_8 : decode cX5_holds 8 = .ok (.getfield 20, 3) := by decide +kernel
theorem dX5_holds_11 : decode cX5_holds 11 = .ok (.iload_n 1, 1) := by decide +kernel
theorem dX5_holds_12 : decode cX5_holds 12 = .ok (.iaload, 1) := by decide +kernel
theorem dX5_holds_13 : decode cX5_holds 13 = .ok (.if_icmp .ge 62, 3) := by decide +kernel
theorem dX5_holds_16 : decode cX5_holds 16 = .ok (.aload_n 0, 1) := by decide +kernel
theorem dX5_holds_17 : decode cX5_holds 17 = .ok (.iload_n 3, 1) := by decide +kernel
theorem dX5_holds_18 : decode cX5_holds 18 = .ok (.aload_n 0, 1) := by decide +kernel
theorem dX5_holds_19 : decode cX5_holds 19 = .ok (.aload_n 0, 1) := by decide +kernel
theorem dX5_holds_20 : decode cX5_holds 20 = .ok (.getfield 23, 3) := by decide +kernel
theorem dX5_holds_23 : decode cX5_holds 23 = .ok (.bipush 6, 2) := by decide +kernel
theorem dX5_holds_25 : decode cX5_holds 25 = .ok (.iload_n 1, 1) := by decide +kernel
theorem dX5_holds_26 : decode cX5_holds 26 = .ok (.imul, 1) := by decide +kernel
theorem dX5_holds_27 : decode cX5_holds 27 = .ok (.iload 4, 2) := by decide +kernel
theorem dX5_holds_29 : decode cX5_holds 29 = .ok (.iadd, 1) := by decide +kernel
theorem dX5_holds_30 : decode cX5_holds 30 = .ok (.iaload, 1) := by decide +kernel
theorem dX5_holds_31 : decode cX5_holds 31 = .ok (.invokevirtual 79, 3) := by decide +kernel
theorem dX5_holds_34 : decode cX5_holds 34 = .ok (.invokevirtual 62, 3) := by decide +kernel
theorem dX5_holds_37 : decode cX5_holds 37 = .ok (.istore 5, 2) := by decide +kernel
theorem dX5_holds_39 : decode cX5_holds 39 = .ok (.aload_n 0, 1) := by decide +kernel
theorem dX5_holds_40 : decode cX5_holds 40 = .ok (.iload_n 3, 1) := by decide +kernel
theorem dX5_holds_41 : decode cX5_holds 41 = .ok (.aload_n 0, 1) := by decide +kernel
theorem dX5_holds_42 : decode cX5_holds 42 = .ok (.getfield 23, 3) := by decide +kernel
theorem dX5_holds_45 : decode cX5_holds 45 = .ok (.bipush 6, 2) := by decide +kernel
theorem dX5_holds_47 : decode cX5_holds 47 = .ok (.iload_n 1, 1) := by decide +kernel
theorem dX5_holds_48 : decode cX5_holds 48 = .ok (.imul, 1) := by decide +kernel
theorem dX5_holds_49 : decode cX5_holds 49 = .ok (.iload 4, 2) := by decide +kernel
theorem dX5_holds_51 : decode cX5_holds 51 = .ok (.iadd, 1) := by decide +kernel
theorem dX5_holds_52 : decode cX5_holds 52 = .ok (.iaload, 1) := by decide +kernel
theorem dX5_holds_53 : decode cX5_holds 53 = .ok (.aload_n 0, 1) := by decide +kernel
theorem dX5_holds_54 : decode cX5_holds 54 = .ok (.getfield 38, 3) := by decide +kernel
theorem dX5_holds_57 : decode cX5_holds 57 = .ok (.iload 5, 2) := by decide +kernel
theorem dX5_holds_59 : decode cX5_holds 59 = .ok (.isub, 1) := by decide +kernel
theorem dX5_holds_60 : decode cX5_holds 60 = .ok (.aload_n 0, 1) := by decide +kernel
theorem dX5_holds_61 : decode cX5_holds 61 = .ok (.getfield 38, 3) := by decide +kernel
theorem dX5_holds_64 : decode cX5_holds 64 = .ok (.irem, 1) := by decide +kernel
theorem dX5_holds_65 : decode cX5_holds 65 = .ok (.invokevirtual 69, 3) := by decide +kernel
theorem dX5_holds_68 : decode cX5_holds 68 = .ok (.istore_n 3, 1) := by decide +kernel
theorem dX5_holds_69 : decode cX5_holds 69 = .ok (.iinc 4 1, 3) := by decide +kernel
theorem dX5_holds_72 : decode cX5_holds 72 = .ok (.goto (-67), 3) := by decide +kernel
theorem dX5_holds_75 : decode cX5_holds 75 = .ok (.iload_n 3, 1) := by decide +kernel
theorem dX5_holds_76 : decode cX5_holds 76 = .ok (.ifCond .ne 7, 3) := by decide +kernel
theorem dX5_holds_79 : decode cX5_holds 79 = .ok (.iconst 1, 1) := by decide +kernel
theorem dX5_holds_80 : decode cX5_holds 80 = .ok (.goto 4, 3) := by decide +kernel
theorem dX5_holds_83 : decode cX5_holds 83 = .ok (.iconst 0, 1) := by decide +kernel
theorem dX5_holds_84 : decode cX5_holds 84 = .ok (.ireturn, 1) := by decide +kernel
set_option maxRecDepth 20000 in
theorem ggX5_has_X5_isSlot : GoodIn wsX5_has wsX5_isSlot := goodIn_r _ [4, 5, 6, 7, 3, 8] (by decide +kernel) (by decide +kernel)
set_option maxRecDepth 20000 in
theorem gX5_has_X5_isSlot : GoodIn wsX5_has (va_wsS RX5 88 yX5_isSlot wsX5_isSlot) := goodIn_app (goodIn_of _ (by decide +kernel)) ggX5_has_X5_isSlot
set_option maxRecDepth 20000 in
theorem ggX5_has_X5_isVector : GoodIn wsX5_has wsX5_isVector := goodIn_r _ [12, 13, 6, 7, 3, 8, 37, 38, 39, 40, 41, 42, 43, 44, 45, 46, 47, 48, 49, 50, 51, 52] (by decide +kernel) (by decide +kernel)
set_option maxRecDepth 20000 in
theorem gX5_has_X5_isVector : GoodIn wsX5_has (wsV RX5 65 RX5 yX5_isVector wsX5_isVector) := goodIn_app (goodIn_of _ (by decide +kernel)) ggX5_has_X5_isVector
set_option maxRecDepth 20000 in
theorem ggX5_has_X5_holds : GoodIn wsX5_has wsX5_holds := goodIn_r _ [17, 18, 19, 20, 21, 22, 23, 3, 24, 25, 26, 27, 28, 29, 30, 31, 32, 33, 34, 35, 36, 37, 38, 39, 40, 41, 42, 43, 44, 45, 46, 47, 48, 49, 50, 51, 52] (by decide +kernel) (by decide +kernel)
set_option maxRecDepth 20000 in
theorem gX5_has_X5_holds : GoodIn wsX5_has (wsV RX5 108 RX5 yX5_holds wsX5_holds) := goodIn_app (goodIn_of _ (by decide +kernel)) ggX5_has_X5_holds
theorem dX5_has_0 : decode cX5_has 0 = .ok (.iload_n 1, 1) := by decide +kernel
theorem dX5_has_1 : decode cX5_has 1 = .ok (.invokestatic 88, 3) := by decide +kernel
theorem dX5_has_4 : decode cX5_has 4 = .ok (.ifCond .eq 11, 3) := by decide +kernel
theorem dX5_has_7 : decode cX5_has 7 = .ok (.aload_n 0, 1) := by decide +kernel
theorem dX5_has_8 : decode cX5_has 8 = .ok (.iload_n 2, 1) := by decide +kernel
theorem dX5_has_9 : decode cX5_has 9 = .ok (.invokevirtual 65, 3) := by decide +kernel
theorem dX5_has_12 : decode cX5_has 12 = .ok (.ifCond .ne 8, 3) := by decide +kernel
theorem dX5_has_15 : decode cX5_has 15 = .ok (.bipush (-101), 2) := by decide +kernel
theorem dX5_has_17 : decode cX5_has 17 = .ok (.goto 17, 3) := by decide +kernel
theorem dX5_has_20 : decode cX5_has 20 = .ok (.aload_n 0, 1) := by decide +kernel
theorem dX5_has_21 : decode cX5_has 21 = .ok (.iload_n 1, 1) := by decide +kernel
theorem dX5_has_22 : decode cX5_has 22 = .ok (.iload_n 2, 1) := by decide +kernel
theorem dX5_has_23 : decode cX5_has 23 = .ok (.invokevirtual 108, 3) := by decide +kernel
theorem dX5_has_26 : decode cX5_has 26 = .ok (.ifCond .eq 7, 3) := by decide +kernel
theorem dX5_has_29 : decode cX5_has 29 = .ok (.iconst 1, 1) := by decide +kernel
theorem dX5_has_30 : decode cX5_has 30 = .ok (.goto 4, 3) := by decide +kernel
theorem dX5_has_33 : decode cX5_has 33 = .ok (.iconst 0, 1) := by decide +kernel
theorem dX5_has_34 : decode cX5_has 34 = .ok (.ireturn, 1) := by decide +kernel
set_option maxRecDepth 20000 in
theorem ggX5_within_X5_isSlot : GoodIn wsX5_within wsX5_isSlot := goodIn_r _ [6, 7, 8, 9, 5, 10] (by decide +kernel) (by decide +kernel)
set_option maxRecDepth 20000 in
theorem gX5_within_X5_isSlot : GoodIn wsX5_within (va_wsS RX5 88 yX5_isSlot wsX5_isSlot) := goodIn_app (goodIn_of _ (by decide +kernel)) ggX5_within_X5_isSlot
set_option maxRecDepth 20000 in
theorem ggX5_within_X5_holds : GoodIn wsX5_within wsX5_holds := goodIn_r _ [14, 1, 2, 15, 16, 17, 18, 5, 19, 20, 21, 22, 23, 24, 25, 26, 27, 28, 29, 30, 31, 32, 33, 34, 35, 36, 37, 38, 39, 40, 41, 42, 43, 44, 45, 46, 47] (by decide +kernel) (by decide +kernel)
set_option maxRecDepth 20000 in
theorem gX5_within_X5_holds : GoodIn wsX5_within (wsV RX5 108 RX5 yX5_holds wsX5_holds) := goodIn_app (goodIn_of _ (by decide +kernel)) ggX5_within_X5_holds
theorem dX5_within_0 : decode cX5_within 0 = .ok (.iload_n 1, 1) := by decide +kernel
theorem dX5_within_1 : decode cX5_within 1 = .ok (.invokestatic 88, 3) := by decide +kernel
theorem dX5_within_4 : decode cX5_within 4 = .ok (.ifCond .eq 10, 3) := by decide +kernel
theorem dX5_within_7 : decode cX5_within 7 = .ok (.iload_n 2, 1) := by decide +kernel
theorem dX5_within_8 : decode cX5_within 8 = .ok (.invokestatic 88, 3) := by decide +kernel
theorem dX5_within_11 : decode cX5_within 11 = .ok (.ifCond .ne 6, 3) := by decide +kernel
theorem dX5_within_14 : decode cX5_within 14 = .ok (.bipush (-101), 2) := by decide +kernel
theorem dX5_within_16 : decode cX5_within 16 = .ok (.ireturn, 1) := by decide +kernel
theorem dX5_within_17 : decode cX5_within 17 = .ok (.iconst 1, 1) := by decide +kernel
theorem dX5_within_18 : decode cX5_within 18 = .ok (.istore_n 3, 1) := by decide +kernel
theorem dX5_within_19 : decode cX5_within 19 = .ok (.iconst 0, 1) := by decide +kernel
theorem dX5_within_20 : decode cX5_within 20 = .ok (.istore 4, 2) := by decide +kernel
theorem dX5_within_22 : decode cX5_within 22 = .ok (.iload 4, 2) := by decide +kernel
theorem dX5_within_24 : decode cX5_within 24 = .ok (.aload_n 0, 1) := by decide +kernel
theorem dX5_within_25 : decode cX5_within 25 = .ok (.getfield 20, 3) := by decide +kernel
theorem dX5_within_28 : decode cX5_within 28 = .ok (.iload_n 1, 1) := by decide +kernel
theorem dX5_within_29 : decode cX5_within 29 = .ok (.iaload, 1) := by decide +kernel
theorem dX5_within_30 : decode cX5_within 30 = .ok (.if_icmp .ge 39, 3) := by decide +kernel
theorem dX5_within_33 : decode cX5_within 33 = .ok (.iload_n 3, 1) := by decide +kernel
theorem dX5_within_34 : decode cX5_within 34 = .ok (.ifCond .eq 27, 3) := by decide +kernel
theorem dX5_within_37 : decode cX5_within 37 = .ok (.aload_n 0, 1) := by decide +kernel
theorem dX5_within_38 : decode cX5_within 38 = .ok (.iload_n 2, 1) := by decide +kernel
theorem dX5_within_39 : decode cX5_within 39 = .ok (.aload_n 0, 1) := by decide +kernel
theorem dX5_within_40 : decode cX5_within 40 = .ok (.getfield 23, 3) := by decide +kernel
theorem dX5_within_43 : decode cX5_within 43 = .ok (.bipush 6, 2) := by decide +kernel
theorem dX5_within_45 : decode cX5_within 45 = .ok (.iload_n 1, 1) := by decide +kernel
theorem dX5_within_46 : decode cX5_within 46 = .ok (.imul, 1) := by decide +kernel
theorem dX5_within_47 : decode cX5_within 47 = .ok (.iload 4, 2) := by decide +kernel
theorem dX5_within_49 : decode cX5_within 49 = .ok (.iadd, 1) := by decide +kernel
theorem dX5_within_50 : decode cX5_within 50 = .ok (.iaload, 1) := by decide +kernel
theorem dX5_within_51 : decode cX5_within 51 = .ok (.invokevirtual 108, 3) := by decide +kernel
theorem dX5_within_54 : decode cX5_within 54 = .ok (.ifCond .eq 7, 3) := by decide +kernel
theorem dX5_within_57 : decode cX5_within 57 = .ok (.iconst 1, 1) := by decide +kernel
theorem dX5_within_58 : decode cX5_within 58 = .ok (.goto 4, 3) := by decide +kernel
theorem dX5_within_61 : decode cX5_within 61 = .ok (.iconst 0, 1) := by decide +kernel
theorem dX5_within_62 : decode cX5_within 62 = .ok (.istore_n 3, 1) := by decide +kernel
theorem dX5_within_63 : decode cX5_within 63 = .ok (.iinc 4 1, 3) := by decide +kernel
theorem dX5_within_66 : decode cX5_within 66 = .ok (.goto (-44), 3) := by decide +kernel
theorem dX5_within_69 : decode cX5_within 69 = .ok (.iload_n 3, 1) := by decide +kernel
theorem dX5_within_70 : decode cX5_within 70 = .ok (.ifCond .eq 7, 3) := by decide +kernel
theorem dX5_within_73 : decode cX5_within 73 = .ok (.iconst 1, 1) := by decide +kernel
theorem dX5_within_74 : decode cX5_within 74 = .ok (.goto 4, 3) := by decide +kernel
theorem dX5_within_77 : decode cX5_within 77 = .ok (.iconst 0, 1) := by decide +kernel
theorem dX5_within_78 : decode cX5_within 78 = .ok (.ireturn, 1) := by decide +kernel
set_option maxRecDepth 20000 in
theorem ggX5_apart_X5_isSlot : GoodIn wsX5_apart wsX5_isSlot := goodIn_r _ [5, 6, 7, 8, 4, 9] (by decide +kernel) (by decide +kernel)
set_option maxRecDepth 20000 in
theorem gX5_apart_X5_isSlot : GoodIn wsX5_apart (va_wsS RX5 88 yX5_isSlot wsX5_isSlot) := goodIn_app (goodIn_of _ (by decide +kernel)) ggX5_apart_X5_isSlot
set_option maxRecDepth 20000 in
theorem ggX5_apart_X5_joined : GoodIn wsX5_apart wsX5_joined := goodIn_r _ [13, 14, 15, 16, 17, 4, 18, 1, 19, 20, 21, 22, 23, 24, 25, 26, 27, 28, 29, 30, 31, 32, 33, 34, 35, 36, 37, 38, 39, 40, 41, 42, 43, 44, 45, 46, 47, 48, 49, 50, 51, 52, 53] (by decide +kernel) (by decide +kernel)
set_option maxRecDepth 20000 in
theorem gX5_apart_X5_joined : GoodIn wsX5_apart (wsV RX5 102 RX5 yX5_joined wsX5_joined) := goodIn_app (goodIn_of _ (by decide +kernel)) ggX5_apart_X5_joined
theorem dX5_apart_0 : decode cX5_apart 0 = .ok (.iload_n 1, 1) := by decide +kernel
theorem dX5_apart_1 : decode cX5_apart 1 = .ok (.invokestatic 88, 3) := by decide +kernel
theorem dX5_apart_4 : decode cX5_apart 4 = .ok (.ifCond .eq 35, 3) := by decide +kernel
theorem dX5_apart_7 : decode cX5_apart 7 = .ok (.iload_n 2, 1) := by decide +kernel
theorem dX5_apart_8 : decode cX5_apart 8 = .ok (.invokestatic 88, 3) := by decide +kernel
theorem dX5_apart_11 : decode cX5_apart 11 = .ok (.ifCond .eq 28, 3) := by decide +kernel
theorem dX5_apart_14 : decode cX5_apart 14 = .ok (.iconst 2, 1) := by decide +kernel
theorem dX5_apart_15 : decode cX5_apart 15 = .ok (.aload_n 0, 1) := by decide +kernel
theorem dX5_apart_16 : decode cX5_apart 16 = .ok (.iload_n 1, 1) := by decide +kernel
theorem dX5_apart_17 : decode cX5_apart 17 = .ok (.iload_n 2, 1) := by decide +kernel
theorem dX5_apart_18 : decode cX5_apart 18 = .ok (.invokevirtual 102, 3) := by decide +kernel
theorem dX5_apart_21 : decode cX5_apart 21 = .ok (.imul, 1) := by decide +kernel
theorem dX5_apart_22 : decode cX5_apart 22 = .ok (.aload_n 0, 1) := by decide +kernel
theorem dX5_apart_23 : decode cX5_apart 23 = .ok (.getfield 20, 3) := by decide +kernel
theorem dX5_apart_26 : decode cX5_apart 26 = .ok (.iload_n 1, 1) := by decide +kernel
theorem dX5_apart_27 : decode cX5_apart 27 = .ok (.iaload, 1) := by decide +kernel
theorem dX5_apart_28 : decode cX5_apart 28 = .ok (.isub, 1) := by decide +kernel
theorem dX5_apart_29 : decode cX5_apart 29 = .ok (.aload_n 0, 1) := by decide +kernel
theorem dX5_apart_30 : decode cX5_apart 30 = .ok (.getfield 20, 3) := by decide +kernel
theorem dX5_apart_33 : decode cX5_apart 33 = .ok (.iload_n 2, 1) := by decide +kernel
theorem dX5_apart_34 : decode cX5_apart 34 = .ok (.iaload, 1) := by decide +kernel
theorem dX5_apart_35 : decode cX5_apart 35 = .ok (.isub, 1) := by decide +kernel
theorem dX5_apart_36 : decode cX5_apart 36 = .ok (.goto 5, 3) := by decide +kernel
theorem dX5_apart_39 : decode cX5_apart 39 = .ok (.bipush (-101), 2) := by decide +kernel
theorem dX5_apart_41 : decode cX5_apart 41 = .ok (.ireturn, 1) := by decide +kernel
set_option maxRecDepth 20000 in
theorem ggX5_gauss_X5_in : GoodIn wsX5_gauss wsX5_in := goodIn_r _ [5] (by decide +kernel) (by decide +kernel)
set_option maxRecDepth 20000 in
theorem gX5_gauss_X5_in : GoodIn wsX5_gauss (va_wsS RX5 58 yX5_in wsX5_in) := goodIn_app (goodIn_of _ (by decide +kernel)) ggX5_gauss_X5_in
set_option maxRecDepth 20000 in
theorem ggX5_gauss_X5_power : GoodIn wsX5_gauss wsX5_power := goodIn_r _ [8] (by decide +kernel) (by decide +kernel)
set_option maxRecDepth 20000 in
theorem gX5_gauss_X5_power : GoodIn wsX5_gauss (va_wsS RX5 48 yX5_power wsX5_power) := goodIn_app (goodIn_of _ (by decide +kernel)) ggX5_gauss_X5_power
theorem dX5_gauss_0 : decode cX5_gauss 0 = .ok (.iload_n 2, 1) := by decide +kernel
theorem dX5_gauss_1 : decode cX5_gauss 1 = .ok (.i2l, 1) := by decide +kernel
theorem dX5_gauss_2 : decode cX5_gauss 2 = .ok (.lconst 0, 1) := by decide +kernel
theorem dX5_gauss_3 : decode cX5_gauss 3 = .ok (.iload_n 1, 1) := by decide +kernel
theorem dX5_gauss_4 : decode cX5_gauss 4 = .ok (.i2l, 1) := by decide +kernel
theorem dX5_gauss_5 : decode cX5_gauss 5 = .ok (.invokestatic 58, 3) := by decide +kernel
theorem dX5_gauss_8 : decode cX5_gauss 8 = .ok (.ifCond .ne 5, 3) := by decide +kernel
theorem dX5_gauss_11 : decode cX5_gauss 11 = .ok (.iconst 0, 1) := by decide +kernel
theorem dX5_gauss_12 : decode cX5_gauss 12 = .ok (.ireturn, 1) := by decide +kernel
theorem dX5_gauss_13 : decode cX5_gauss 13 = .ok (.lconst 1, 1) := by decide +kernel
theorem dX5_gauss_14 : decode cX5_gauss 14 = .ok (.lstore_n 3, 1) := by decide +kernel
theorem dX5_gauss_15 : decode cX5_gauss 15 = .ok (.lconst 1, 1) := by decide +kernel
theorem dX5_gauss_16 : decode cX5_gauss 16 = .ok (.lstore 5, 2) := by decide +kernel
theorem dX5_gauss_18 : decode cX5_gauss 18 = .ok (.iconst 0, 1) := by decide +kernel
theorem dX5_gauss_19 : decode cX5_gauss 19 = .ok (.istore 7, 2) := by decide +kernel
theorem dX5_gauss_21 : decode cX5_gauss 21 = .ok (.iload 7, 2) := by decide +kernel
theorem dX5_gauss_23 : decode cX5_gauss 23 = .ok (.iload_n 2, 1) := by decide +kernel
theorem dX5_gauss_24 : decode cX5_gauss 24 = .ok (.if_icmp .ge 45, 3) := by decide +kernel
theorem dX5_gauss_27 : decode cX5_gauss 27 = .ok (.lload_n 3, 1) := by decide +kernel
theorem dX5_gauss_28 : decode cX5_gauss 28 = .ok (.aload_n 0, 1) := by decide +kernel
theorem dX5_gauss_29 : decode cX5_gauss 29 = .ok (.getfield 38, 3) := by decide +kernel
theorem dX5_gauss_32 : decode cX5_gauss 32 = .ok (.iload_n 1, 1) := by decide +kernel
theorem dX5_gauss_33 : decode cX5_gauss 33 = .ok (.iload 7, 2) := by decide +kernel
theorem dX5_gauss_35 : decode cX5_gauss 35 = .ok (.isub, 1) := by decide +kernel
theorem dX5_gauss_36 : decode cX5_gauss 36 = .ok (.invokestatic 48, 3) := by decide +kernel
theorem dX5_gauss_39 : decode cX5_gauss 39 = .ok (.iconst 1, 1) := by decide +kernel
theorem dX5_gauss_40 : decode cX5_gauss 40 = .ok (.isub, 1) := by decide +kernel
theorem dX5_gauss_41 : decode cX5_gauss 41 = .ok (.i2l, 1) := by decide +kernel
theorem dX5_gauss_42 : decode cX5_gauss 42 = .ok (.lmul, 1) := by decide +kernel
theorem dX5_gauss_43 : decode cX5_gauss 43 = .ok (.lstore_n 3, 1) := by decide +kernel
theorem dX5_gauss_44 : decode cX5_gauss 44 = .ok (.lload 5, 2) := by decide +kernel
theorem dX5_gauss_46 : decode cX5_gauss 46 = .ok (.aload_n 0, 1) := by decide +kernel
theorem dX5_gauss_47 : decode cX5_gauss 47 = .ok (.getfield 38, 3) := by decide +kernel
theorem dX5_gauss_50 : decode cX5_gauss 50 = .ok (.iload 7, 2) := by decide +kernel
theorem dX5_gauss_52 : decode cX5_gauss 52 = .ok (.iconst 1, 1) := by decide +kernel
theorem dX5_gauss_53 : decode cX5_gauss 53 = .ok (.iadd, 1) := by decide +kernel
theorem dX5_gauss_54 : decode cX5_gauss 54 = .ok (.invokestatic 48, 3) := by decide +kernel
theorem dX5_gauss_57 : decode cX5_gauss 57 = .ok (.iconst 1, 1) := by decide +kernel
theorem dX5_gauss_58 : decode cX5_gauss 58 = .ok (.isub, 1) := by decide +kernel
theorem dX5_gauss_59 : decode cX5_gauss 59 = .ok (.i2l, 1) := by decide +kernel
theorem dX5_gauss_60 : decode cX5_gauss 60 = .ok (.lmul, 1) := by decide +kernel
theorem dX5_gauss_61 : decode cX5_gauss 61 = .ok (.lstore 5, 2) := by decide +kernel
theorem dX5_gauss_63 : decode cX5_gauss 63 = .ok (.iinc 7 1, 3) := by decide +kernel
theorem dX5_gauss_66 : decode cX5_gauss 66 = .ok (.goto (-45), 3) := by decide +kernel
theorem dX5_gauss_69 : decode cX5_gauss 69 = .ok (.lload_n 3, 1) := by decide +kernel
theorem dX5_gauss_70 : decode cX5_gauss 70 = .ok (.lload 5, 2) := by decide +kernel
theorem dX5_gauss_72 : decode cX5_gauss 72 = .ok (.ldiv, 1) := by decide +kernel
theorem dX5_gauss_73 : decode cX5_gauss 73 = .ok (.l2i, 1) := by decide +kernel
theorem dX5_gauss_74 : decode cX5_gauss 74 = .ok (.ireturn, 1) := by decide +kernel
set_option maxRecDepth 20000 in
theorem ggX5_many_X5_gauss : GoodIn wsX5_many wsX5_gauss := goodIn_r _ [6, 7, 8, 9, 5, 10, 11, 12, 13, 14, 15, 16, 17, 18, 19, 20, 21, 22, 23, 24, 25, 26, 27, 28, 29] (by decide +kernel) (by decide +kernel)
set_option maxRecDepth 20000 in
theorem gX5_many_X5_gauss : GoodIn wsX5_many (wsV RX5 112 RX5 yX5_gauss wsX5_gauss) := goodIn_app (goodIn_of _ (by decide +kernel)) ggX5_many_X5_gauss
theorem dX5_many_0 : decode cX5_many 0 = .ok (.aload_n 0, 1) := by decide +kernel
theorem dX5_many_1 : decode cX5_many 1 = .ok (.aload_n 0, 1) := by decide +kernel
theorem dX5_many_2 : decode cX5_many 2 = .ok (.getfield 42, 3) := by decide +kernel
theorem dX5_many_5 : decode cX5_many 5 = .ok (.iload_n 1, 1) := by decide +kernel
theorem dX5_many_6 : decode cX5_many 6 = .ok (.invokevirtual 112, 3) := by decide +kernel
theorem dX5_many_9 : decode cX5_many 9 = .ok (.ireturn, 1) := by decide +kernel
theorem dX5_free_0 : decode cX5_free 0 = .ok (.iconst 0, 1) := by decide +kernel
theorem dX5_free_1 : decode cX5_free 1 = .ok (.istore_n 2, 1) := by decide +kernel
theorem dX5_free_2 : decode cX5_free 2 = .ok (.iconst 0, 1) := by decide +kernel
theorem dX5_free_3 : decode cX5_free 3 = .ok (.istore_n 3, 1) := by decide +kernel
theorem dX5_free_4 : decode cX5_free 4 = .ok (.iload_n 3, 1) := by decide +kernel
theorem dX5_free_5 : decode cX5_free 5 = .ok (.iload_n 1, 1) := by decide +kernel
theorem dX5_free_6 : decode cX5_free 6 = .ok (.if_icmp .ge 31, 3) := by decide +kernel
theorem dX5_free_9 : decode cX5_free 9 = .ok (.iload_n 2, 1) := by decide +kernel
theorem dX5_free_10 : decode cX5_free 10 = .ok (.aload_n 0, 1) := by decide +kernel
theorem dX5_free_11 : decode cX5_free 11 = .ok (.getfield 42, 3) := by decide +kernel
theorem dX5_free_14 : decode cX5_free 14 = .ok (.iconst 1, 1) := by decide +kernel
theorem dX5_free_15 : decode cX5_free 15 = .ok (.isub, 1) := by decide +kernel
theorem dX5_free_16 : decode cX5_free 16 = .ok (.aload_n 0, 1) := by decide +kernel
theorem dX5_free_17 : decode cX5_free 17 = .ok (.getfield 29, 3) := by decide +kernel
theorem dX5_free_20 : decode cX5_free 20 = .ok (.iload_n 3, 1) := by decide +kernel
theorem dX5_free_21 : decode cX5_free 21 = .ok (.iaload, 1) := by decide +kernel
theorem dX5_free_22 : decode cX5_free 22 = .ok (.isub, 1) := by decide +kernel
theorem dX5_free_23 : decode cX5_free 23 = .ok (.iload_n 1, 1) := by decide +kernel
theorem dX5_free_24 : decode cX5_free 24 = .ok (.iconst 1, 1) := by decide +kernel
theorem dX5_free_25 : decode cX5_free 25 = .ok (.isub, 1) := by decide +kernel
theorem dX5_free_26 : decode cX5_free 26 = .ok (.iload_n 3, 1) := by decide +kernel
theorem dX5_free_27 : decode cX5_free 27 = .ok (.isub, 1) := by decide +kernel
theorem dX5_free_28 : decode cX5_free 28 = .ok (.isub, 1) := by decide +kernel
theorem dX5_free_29 : decode cX5_free 29 = .ok (.iadd, 1) := by decide +kernel
theorem dX5_free_30 : decode cX5_free 30 = .ok (.istore_n 2, 1) := by decide +kernel
theorem dX5_free_31 : decode cX5_free 31 = .ok (.iinc 3 1, 3) := by decide +kernel
theorem dX5_free_34 : decode cX5_free 34 = .ok (.goto (-30), 3) := by decide +kernel
theorem dX5_free_37 : decode cX5_free 37 = .ok (.iload_n 2, 1) := by decide +kernel
theorem dX5_free_38 : decode cX5_free 38 = .ok (.ireturn, 1) := by decide +kernel
theorem dX5_goOn_0 : decode cX5_goOn 0 = .ok (.iload_n 1, 1) := by decide +kernel
theorem dX5_goOn_1 : decode cX5_goOn 1 = .ok (.iconst 1, 1) := by decide +kernel
theorem dX5_goOn_2 : decode cX5_goOn 2 = .ok (.isub, 1) := by decide +kernel
theorem dX5_goOn_3 : decode cX5_goOn 3 = .ok (.istore_n 2, 1) := by decide +kernel
theorem dX5_goOn_4 : decode cX5_goOn 4 = .ok (.iload_n 2, 1) := by decide +kernel
theorem dX5_goOn_5 : decode cX5_goOn 5 = .ok (.ifCond .lt 26, 3) := by decide +kernel
theorem dX5_goOn_8 : decode cX5_goOn 8 = .ok (.aload_n 0, 1) := by decide +kernel
theorem dX5_goOn_9 : decode cX5_goOn 9 = .ok (.getfield 29, 3) := by decide +kernel
theorem dX5_goOn_12 : decode cX5_goOn 12 = .ok (.iload_n 2, 1) := by decide +kernel
theorem dX5_goOn_13 : decode cX5_goOn 13 = .ok (.iaload, 1) := by decide +kernel
theorem dX5_goOn_14 : decode cX5_goOn 14 = .ok (.aload_n 0, 1) := by decide +kernel
theorem dX5_goOn_15 : decode cX5_goOn 15 = .ok (.getfield 42, 3) := by decide +kernel
theorem dX5_goOn_18 : decode cX5_goOn 18 = .ok (.iload_n 1, 1) := by decide +kernel
theorem dX5_goOn_19 : decode cX5_goOn 19 = .ok (.isub, 1) := by decide +kernel
theorem dX5_goOn_20 : decode cX5_goOn 20 = .ok (.iload_n 2, 1) := by decide +kernel
theorem dX5_goOn_21 : decode cX5_goOn 21 = .ok (.iadd, 1) := by decide +kernel
theorem dX5_goOn_22 : decode cX5_goOn 22 = .ok (.if_icmp .ne 9, 3) := by decide +kernel
theorem dX5_goOn_25 : decode cX5_goOn 25 = .ok (.iinc 2 (-1), 3) := by decide +kernel
theorem dX5_goOn_28 : decode cX5_goOn 28 = .ok (.goto (-24), 3) := by decide +kernel
theorem dX5_goOn_31 : decode cX5_goOn 31 = .ok (.iload_n 2, 1) := by decide +kernel
theorem dX5_goOn_32 : decode cX5_goOn 32 = .ok (.ifCond .ge 5, 3) := by decide +kernel
theorem dX5_goOn_35 : decode cX5_goOn 35 = .ok (.iconst 0, 1) := by decide +kernel
theorem dX5_goOn_36 : decode cX5_goOn 36 = .ok (.ireturn, 1) := by decide +kernel
theorem dX5_goOn_37 : decode cX5_goOn 37 = .ok (.aload_n 0, 1) := by decide +kernel
theorem dX5_goOn_38 : decode cX5_goOn 38 = .ok (.getfield 29, 3) := by decide +kernel
theorem dX5_goOn_41 : decode cX5_goOn 41 = .ok (.iload_n 2, 1) := by decide +kernel
theorem dX5_goOn_42 : decode cX5_goOn 42 = .ok (.dup2, 1) := by decide +kernel
theorem dX5_goOn_43 : decode cX5_goOn 43 = .ok (.iaload, 1) := by decide +kernel
theorem dX5_goOn_44 : decode cX5_goOn 44 = .ok (.iconst 1, 1) := by decide +kernel
theorem dX5_goOn_45 : decode cX5_goOn 45 = .ok (.iadd, 1) := by decide +kernel
theorem dX5_goOn_46 : decode cX5_goOn 46 = .ok (.iastore, 1) := by decide +kernel
theorem dX5_goOn_47 : decode cX5_goOn 47 = .ok (.iload_n 2, 1) := by decide +kernel
theorem dX5_goOn_48 : decode cX5_goOn 48 = .ok (.iconst 1, 1) := by decide +kernel
theorem dX5_goOn_49 : decode cX5_goOn 49 = .ok (.iadd, 1) := by decide +kernel
theorem dX5_goOn_50 : decode cX5_goOn 50 = .ok (.istore_n 3, 1) := by decide +kernel
theorem dX5_goOn_51 : decode cX5_goOn 51 = .ok (.iload_n 3, 1) := by decide +kernel
theorem dX5_goOn_52 : decode cX5_goOn 52 = .ok (.iload_n 1, 1) := by decide +kernel
theorem dX5_goOn_53 : decode cX5_goOn 53 = .ok (.if_icmp .ge 25, 3) := by decide +kernel
theorem dX5_goOn_56 : decode cX5_goOn 56 = .ok (.aload_n 0, 1) := by decide +kernel
theorem dX5_goOn_57 : decode cX5_goOn 57 = .ok (.getfield 29, 3) := by decide +kernel
theorem dX5_goOn_60 : decode cX5_goOn 60 = .ok (.iload_n 3, 1) := by decide +kernel
theorem dX5_goOn_61 : decode cX5_goOn 61 = .ok (.aload_n 0, 1) := by decide +kernel
theorem dX5_goOn_62 : decode cX5_goOn 62 = .ok (.getfield 29, 3) := by decide +kernel
theorem dX5_goOn_65 : decode cX5_goOn 65 = .ok (.iload_n 3, 1) := by decide +kernel
theorem dX5_goOn_66 : decode cX5_goOn 66 = .ok (.iconst 1, 1) := by decide +kernel
theorem dX5_goOn_67 : decode cX5_goOn 67 = .ok (.isub, 1) := by decide +kernel
theorem dX5_goOn_68 : decode cX5_goOn 68 = .ok (.iaload, 1) := by decide +kernel
theorem dX5_goOn_69 : decode cX5_goOn 69 = .ok (.iconst 1, 1) := by decide +kernel
theorem dX5_goOn_70 : decode cX5_goOn 70 = .ok (.iadd, 1) := by decide +kernel
theorem dX5_goOn_71 : decode cX5_goOn 71 = .ok (.iastore, 1) := by decide +kernel
theorem dX5_goOn_72 : decode cX5_goOn 72 = .ok (.iinc 3 1, 3) := by decide +kernel
theorem dX5_goOn_75 : decode cX5_goOn 75 = .ok (.goto (-24), 3) := by decide +kernel
theorem dX5_goOn_78 : decode cX5_goOn 78 = .ok (.iconst 1, 1) := by decide +kernel
theorem dX5_goOn_79 : decode cX5_goOn 79 = .ok (.ireturn, 1) := by decide +kernel
theorem dX5_firstPivots_0 : decode cX5_firstPivots 0 = .ok (.iconst 0, 1) := by decide +kernel
theorem dX5_firstPivots_1 : decode cX5_firstPivots 1 = .ok (.istore_n 2, 1) := by decide +kernel
theorem dX5_firstPivots_2 : decode cX5_firstPivots 2 = .ok (.iload_n 2, 1) := by decide +kernel
theorem dX5_firstPivots_3 : decode cX5_firstPivots 3 = .ok (.iload_n 1, 1) := by decide +kernel
theorem dX5_firstPivots_4 : decode cX5_firstPivots 4 = .ok (.if_icmp .ge 16, 3) := by decide +kernel
theorem dX5_firstPivots_7 : decode cX5_firstPivots 7 = .ok (.aload_n 0, 1) := by decide +kernel
theorem dX5_firstPivots_8 : decode cX5_firstPivots 8 = .ok (.getfield 29, 3) := by decide +kernel
theorem dX5_firstPivots_11 : decode cX5_firstPivots 11 = .ok (.iload_n 2, 1) := by decide +kernel
theorem dX5_firstPivots_12 : decode cX5_firstPivots 12 = .ok (.iload_n 2, 1) := by decide +kernel
theorem dX5_firstPivots_13 : decode cX5_firstPivots 13 = .ok (.iastore, 1) := by decide +kernel
theorem dX5_firstPivots_14 : decode cX5_firstPivots 14 = .ok (.iinc 2 1, 3) := by decide +kernel
theorem dX5_firstPivots_17 : decode cX5_firstPivots 17 = .ok (.goto (-15), 3) := by decide +kernel
theorem dX5_firstPivots_20 : decode cX5_firstPivots 20 = .ok (.return_, 1) := by decide +kernel
theorem dX5_isFree_0 : decode cX5_isFree 0 = .ok (.iload_n 3, 1) := by decide +kernel
theorem dX5_isFree_1 : decode cX5_isFree 1 = .ok (.aload_n 0, 1) := by decide +kernel
theorem dX5_isFree_2 : decode cX5_isFree 2 = .ok (.getfield 29, 3) := by decide +kernel
theorem dX5_isFree_5 : decode cX5_isFree 5 = .ok (.iload_n 2, 1) := by decide +kernel
theorem dX5_isFree_6 : decode cX5_isFree 6 = .ok (.iaload, 1) := by decide +kernel
theorem dX5_isFree_7 : decode cX5_isFree 7 = .ok (.if_icmp .le 7, 3) := by decide +kernel
theorem dX5_isFree_10 : decode cX5_isFree 10 = .ok (.iconst 1, 1) := by decide +kernel
theorem dX5_isFree_11 : decode cX5_isFree 11 = .ok (.goto 4, 3) := by decide +kernel
theorem dX5_isFree_14 : decode cX5_isFree 14 = .ok (.iconst 0, 1) := by decide +kernel
theorem dX5_isFree_15 : decode cX5_isFree 15 = .ok (.istore 4, 2) := by decide +kernel
theorem dX5_isFree_17 : decode cX5_isFree 17 = .ok (.iconst 0, 1) := by decide +kernel
theorem dX5_isFree_18 : decode cX5_isFree 18 = .ok (.istore 5, 2) := by decide +kernel
theorem dX5_isFree_20 : decode cX5_isFree 20 = .ok (.iload 5, 2) := by decide +kernel
theorem dX5_isFree_22 : decode cX5_isFree 22 = .ok (.iload_n 1, 1) := by decide +kernel
theorem dX5_isFree_23 : decode cX5_isFree 23 = .ok (.if_icmp .ge 32, 3) := by decide +kernel
theorem dX5_isFree_26 : decode cX5_isFree 26 = .ok (.iload 4, 2) := by decide +kernel
theorem dX5_isFree_28 : decode cX5_isFree 28 = .ok (.ifCond .eq 18, 3) := by decide +kernel
theorem dX5_isFree_31 : decode cX5_isFree 31 = .ok (.aload_n 0, 1) := by decide +kernel
theorem dX5_isFree_32 : decode cX5_isFree 32 = .ok (.getfield 29, 3) := by decide +kernel
theorem dX5_isFree_35 : decode cX5_isFree 35 = .ok (.iload 5, 2) := by decide +kernel
theorem dX5_isFree_37 : decode cX5_isFree 37 = .ok (.iaload, 1) := by decide +kernel
theorem dX5_isFree_38 : decode cX5_isFree 38 = .ok (.iload_n 3, 1) := by decide +kernel
theorem dX5_isFree_39 : decode cX5_isFree 39 = .ok (.if_icmp .eq 7, 3) := by decide +kernel
theorem dX5_isFree_42 : decode cX5_isFree 42 = .ok (.iconst 1, 1) := by decide +kernel
theorem dX5_isFree_43 : decode cX5_isFree 43 = .ok (.goto 4, 3) := by decide +kernel
theorem dX5_isFree_46 : decode cX5_isFree 46 = .ok (.iconst 0, 1) := by decide +kernel
theorem dX5_isFree_47 : decode cX5_isFree 47 = .ok (.istore 4, 2) := by decide +kernel
theorem dX5_isFree_49 : decode cX5_isFree 49 = .ok (.iinc 5 1, 3) := by decide +kernel
theorem dX5_isFree_52 : decode cX5_isFree 52 = .ok (.goto (-32), 3) := by decide +kernel
theorem dX5_isFree_55 : decode cX5_isFree 55 = .ok (.iload 4, 2) := by decide +kernel
theorem dX5_isFree_57 : decode cX5_isFree 57 = .ok (.ireturn, 1) := by decide +kernel
set_option maxRecDepth 20000 in
theorem ggX5_number_X5_isSlot : GoodIn wsX5_number wsX5_isSlot := goodIn_r _ [9, 10, 11, 12, 8, 13] (by decide +kernel) (by decide +kernel)
set_option maxRecDepth 20000 in
theorem gX5_number_X5_isSlot : GoodIn wsX5_number (va_wsS RX5 88 yX5_isSlot wsX5_isSlot) := goodIn_app (goodIn_of _ (by decide +kernel)) ggX5_number_X5_isSlot
set_option maxRecDepth 20000 in
theorem ggX5_number_X5_firstPivots : GoodIn wsX5_number wsX5_firstPivots := goodIn_r _ [17, 2, 41, 42, 43, 44, 45, 46, 47, 48, 49, 50, 51, 52, 53, 54, 55, 56] (by decide +kernel) (by decide +kernel)
set_option maxRecDepth 20000 in
theorem gX5_number_X5_firstPivots : GoodIn wsX5_number (wsV RX5 115 RX5 yX5_firstPivots wsX5_firstPivots) := goodIn_app (goodIn_of _ (by decide +kernel)) ggX5_number_X5_firstPivots
set_option maxRecDepth 20000 in
theorem ggX5_number_X5_pivot : GoodIn wsX5_number wsX5_pivot := goodIn_r _ [21, 22, 23, 24, 8, 25, 4, 5, 26, 27, 28, 41, 42, 43, 44, 45, 46, 47, 48, 49, 50, 51, 52, 53, 54, 55, 56] (by decide +kernel) (by decide +kernel)
set_option maxRecDepth 20000 in
theorem gX5_number_X5_pivot : GoodIn wsX5_number (wsV RX5 79 RX5 yX5_pivot wsX5_pivot) := goodIn_app (goodIn_of _ (by decide +kernel)) ggX5_number_X5_pivot
set_option maxRecDepth 20000 in
theorem ggX5_number_X5_free : GoodIn wsX5_number wsX5_free := goodIn_r _ [32, 5, 2, 41, 42, 43, 44, 45, 46, 47, 48, 49, 50, 51, 52, 53, 54, 55, 56] (by decide +kernel) (by decide +kernel)
set_option maxRecDepth 20000 in
theorem gX5_number_X5_free : GoodIn wsX5_number (wsV RX5 118 RX5 yX5_free wsX5_free) := goodIn_app (goodIn_of _ (by decide +kernel)) ggX5_number_X5_free
set_option maxRecDepth 20000 in
theorem ggX5_number_X5_power : GoodIn wsX5_number wsX5_power := goodIn_r _ [28] (by decide +kernel) (by decide +kernel)
set_option maxRecDepth 20000 in
theorem gX5_number_X5_power : GoodIn wsX5_number (va_wsS RX5 48 yX5_power wsX5_power) := goodIn_app (goodIn_of _ (by decide +kernel)) ggX5_number_X5_power
set_option maxRecDepth 20000 in
theorem ggX5_number_X5_goOn : GoodIn wsX5_number wsX5_goOn := goodIn_r _ [36, 2, 5, 41, 42, 43, 44, 45, 46, 47, 48, 49, 50, 51, 52, 53, 54, 55, 56] (by decide +kernel) (by decide +kernel)
set_option maxRecDepth 20000 in
theorem gX5_number_X5_goOn : GoodIn wsX5_number (wsV RX5 121 RX5 yX5_goOn wsX5_goOn) := goodIn_app (goodIn_of _ (by decide +kernel)) ggX5_number_X5_goOn
set_option maxRecDepth 20000 in
theorem ggX5_number_X5_isFree : GoodIn wsX5_number wsX5_isFree := goodIn_r _ [40, 2, 41, 42, 43, 44, 45, 46, 47, 48, 49, 50, 51, 52, 53, 54, 55, 56] (by decide +kernel) (by decide +kernel)
set_option maxRecDepth 20000 in
theorem gX5_number_X5_isFree : GoodIn wsX5_number (wsV RX5 124 RX5 yX5_isFree wsX5_isFree) := goodIn_app (goodIn_of _ (by decide +kernel)) ggX5_number_X5_isFree
set_option maxRecDepth 20000 in
theorem ggX5_number_X5_figure : GoodIn wsX5_number wsX5_figure := goodIn_r _ [25, 4, 5, 26, 27, 8, 28, 41, 42, 43, 44, 45, 46, 47, 48, 49, 50, 51, 52, 53, 54, 55, 56] (by decide +kernel) (by decide +kernel)
set_option maxRecDepth 20000 in
theorem gX5_number_X5_figure : GoodIn wsX5_number (wsV RX5 62 RX5 yX5_figure wsX5_figure) := goodIn_app (goodIn_of _ (by decide +kernel)) ggX5_number_X5_figure
theorem dX5_number_0 : decode cX5_number 0 = .ok (.iload_n 1, 1) := by decide +kernel
theorem dX5_number_1 : decode cX5_number 1 = .ok (.invokestatic 88, 3) := by decide +kernel
theorem dX5_number_4 : decode cX5_number 4 = .ok (.ifCond .ne 6, 3) := by decide +kernel
theorem dX5_number_7 : decode cX5_number 7 = .ok (.bipush (-101), 2) := by decide +kernel
theorem dX5_number_9 : decode cX5_number 9 = .ok (.ireturn, 1) := by decide +kernel
theorem dX5_number_10 : decode cX5_number 10 = .ok (.aload_n 0, 1) := by decide +kernel
theorem dX5_number_11 : decode cX5_number 11 = .ok (.getfield 20, 3) := by decide +kernel
theorem dX5_number_14 : decode cX5_number 14 = .ok (.iload_n 1, 1) := by decide +kernel
theorem dX5_number_15 : decode cX5_number 15 = .ok (.iaload, 1) := by decide +kernel
theorem dX5_number_16 : decode cX5_number 16 = .ok (.istore_n 2, 1) := by decide +kernel
theorem dX5_number_17 : decode cX5_number 17 = .ok (.aload_n 0, 1) := by decide +kernel
theorem dX5_number_18 : decode cX5_number 18 = .ok (.iload_n 2, 1) := by decide +kernel
theorem dX5_number_19 : decode cX5_number 19 = .ok (.invokevirtual 115, 3) := by decide +kernel
theorem dX5_number_22 : decode cX5_number 22 = .ok (.iconst 0, 1) := by decide +kernel
theorem dX5_number_23 : decode cX5_number 23 = .ok (.istore_n 3, 1) := by decide +kernel
theorem dX5_number_24 : decode cX5_number 24 = .ok (.iconst 0, 1) := by decide +kernel
theorem dX5_number_25 : decode cX5_number 25 = .ok (.istore 4, 2) := by decide +kernel
theorem dX5_number_27 : decode cX5_number 27 = .ok (.iload 4, 2) := by decide +kernel
theorem dX5_number_29 : decode cX5_number 29 = .ok (.ifCond .ne 88, 3) := by decide +kernel
theorem dX5_number_32 : decode cX5_number 32 = .ok (.iconst 1, 1) := by decide +kernel
theorem dX5_number_33 : decode cX5_number 33 = .ok (.istore 4, 2) := by decide +kernel
theorem dX5_number_35 : decode cX5_number 35 = .ok (.iconst 0, 1) := by decide +kernel
theorem dX5_number_36 : decode cX5_number 36 = .ok (.istore 5, 2) := by decide +kernel
theorem dX5_number_38 : decode cX5_number 38 = .ok (.iload 5, 2) := by decide +kernel
theorem dX5_number_40 : decode cX5_number 40 = .ok (.iload_n 2, 1) := by decide +kernel
theorem dX5_number_41 : decode cX5_number 41 = .ok (.if_icmp .ge 47, 3) := by decide +kernel
theorem dX5_number_44 : decode cX5_number 44 = .ok (.iload 4, 2) := by decide +kernel
theorem dX5_number_46 : decode cX5_number 46 = .ok (.ifCond .eq 33, 3) := by decide +kernel
theorem dX5_number_49 : decode cX5_number 49 = .ok (.aload_n 0, 1) := by decide +kernel
theorem dX5_number_50 : decode cX5_number 50 = .ok (.getfield 29, 3) := by decide +kernel
theorem dX5_number_53 : decode cX5_number 53 = .ok (.iload 5, 2) := by decide +kernel
theorem dX5_number_55 : decode cX5_number 55 = .ok (.iaload, 1) := by decide +kernel
theorem dX5_number_56 : decode cX5_number 56 = .ok (.aload_n 0, 1) := by decide +kernel
theorem dX5_number_57 : decode cX5_number 57 = .ok (.aload_n 0, 1) := by decide +kernel
theorem dX5_number_58 : decode cX5_number 58 = .ok (.getfield 23, 3) := by decide +kernel
theorem dX5_number_61 : decode cX5_number 61 = .ok (.bipush 6, 2) := by decide +kernel
theorem dX5_number_63 : decode cX5_number 63 = .ok (.iload_n 1, 1) := by decide +kernel
theorem dX5_number_64 : decode cX5_number 64 = .ok (.imul, 1) := by decide +kernel
theorem dX5_number_65 : decode cX5_number 65 = .ok (.iload 5, 2) := by decide +kernel
theorem dX5_number_67 : decode cX5_number 67 = .ok (.iadd, 1) := by decide +kernel
theorem dX5_number_68 : decode cX5_number 68 = .ok (.iaload, 1) := by decide +kernel
theorem dX5_number_69 : decode cX5_number 69 = .ok (.invokevirtual 79, 3) := by decide +kernel
theorem dX5_number_72 : decode cX5_number 72 = .ok (.if_icmp .ne 7, 3) := by decide +kernel
theorem dX5_number_75 : decode cX5_number 75 = .ok (.iconst 1, 1) := by decide +kernel
theorem dX5_number_76 : decode cX5_number 76 = .ok (.goto 4, 3) := by decide +kernel
theorem dX5_number_79 : decode cX5_number 79 = .ok (.iconst 0, 1) := by decide +kernel
theorem dX5_number_80 : decode cX5_number 80 = .ok (.istore 4, 2) := by decide +kernel
theorem dX5_number_82 : decode cX5_number 82 = .ok (.iinc 5 1, 3) := by decide +kernel
theorem dX5_number_85 : decode cX5_number 85 = .ok (.goto (-47), 3) := by decide +kernel
theorem dX5_number_88 : decode cX5_number 88 = .ok (.iload 4, 2) := by decide +kernel
theorem dX5_number_90 : decode cX5_number 90 = .ok (.ifCond .ne (-63), 3) := by decide +kernel
theorem dX5_number_93 : decode cX5_number 93 = .ok (.iload_n 3, 1) := by decide +kernel
theorem dX5_number_94 : decode cX5_number 94 = .ok (.aload_n 0, 1) := by decide +kernel
theorem dX5_number_95 : decode cX5_number 95 = .ok (.getfield 38, 3) := by decide +kernel
theorem dX5_number_98 : decode cX5_number 98 = .ok (.aload_n 0, 1) := by decide +kernel
theorem dX5_number_99 : decode cX5_number 99 = .ok (.iload_n 2, 1) := by decide +kernel
theorem dX5_number_100 : decode cX5_number 100 = .ok (.invokevirtual 118, 3) := by decide +kernel
theorem dX5_number_103 : decode cX5_number 103 = .ok (.invokestatic 48, 3) := by decide +kernel
theorem dX5_number_106 : decode cX5_number 106 = .ok (.iadd, 1) := by decide +kernel
theorem dX5_number_107 : decode cX5_number 107 = .ok (.istore_n 3, 1) := by decide +kernel
theorem dX5_number_108 : decode cX5_number 108 = .ok (.aload_n 0, 1) := by decide +kernel
theorem dX5_number_109 : decode cX5_number 109 = .ok (.iload_n 2, 1) := by decide +kernel
theorem dX5_number_110 : decode cX5_number 110 = .ok (.invokevirtual 121, 3) := by decide +kernel
theorem dX5_number_113 : decode cX5_number 113 = .ok (.pop, 1) := by decide +kernel
theorem dX5_number_114 : decode cX5_number 114 = .ok (.goto (-87), 3) := by decide +kernel
theorem dX5_number_117 : decode cX5_number 117 = .ok (.iconst 0, 1) := by decide +kernel
theorem dX5_number_118 : decode cX5_number 118 = .ok (.istore 5, 2) := by decide +kernel
theorem dX5_number_120 : decode cX5_number 120 = .ok (.iconst 0, 1) := by decide +kernel
theorem dX5_number_121 : decode cX5_number 121 = .ok (.istore 6, 2) := by decide +kernel
theorem dX5_number_123 : decode cX5_number 123 = .ok (.iload 6, 2) := by decide +kernel
theorem dX5_number_125 : decode cX5_number 125 = .ok (.iload_n 2, 1) := by decide +kernel
theorem dX5_number_126 : decode cX5_number 126 = .ok (.if_icmp .ge 67, 3) := by decide +kernel
theorem dX5_number_129 : decode cX5_number 129 = .ok (.iconst 0, 1) := by decide +kernel
theorem dX5_number_130 : decode cX5_number 130 = .ok (.istore 7, 2) := by decide +kernel
theorem dX5_number_132 : decode cX5_number 132 = .ok (.iload 7, 2) := by decide +kernel
theorem dX5_number_134 : decode cX5_number 134 = .ok (.aload_n 0, 1) := by decide +kernel
theorem dX5_number_135 : decode cX5_number 135 = .ok (.getfield 42, 3) := by decide +kernel
theorem dX5_number_138 : decode cX5_number 138 = .ok (.if_icmp .ge 49, 3) := by decide +kernel
theorem dX5_number_141 : decode cX5_number 141 = .ok (.aload_n 0, 1) := by decide +kernel
theorem dX5_number_142 : decode cX5_number 142 = .ok (.iload_n 2, 1) := by decide +kernel
theorem dX5_number_143 : decode cX5_number 143 = .ok (.iload 6, 2) := by decide +kernel
theorem dX5_number_145 : decode cX5_number 145 = .ok (.iload 7, 2) := by decide +kernel
theorem dX5_number_147 : decode cX5_number 147 = .ok (.invokevirtual 124, 3) := by decide +kernel
theorem dX5_number_150 : decode cX5_number 150 = .ok (.ifCond .eq 31, 3) := by decide +kernel
theorem dX5_number_153 : decode cX5_number 153 = .ok (.iload 5, 2) := by decide +kernel
theorem dX5_number_155 : decode cX5_number 155 = .ok (.aload_n 0, 1) := by decide +kernel
theorem dX5_number_156 : decode cX5_number 156 = .ok (.getfield 38, 3) := by decide +kernel
theorem dX5_number_159 : decode cX5_number 159 = .ok (.imul, 1) := by decide +kernel
theorem dX5_number_160 : decode cX5_number 160 = .ok (.aload_n 0, 1) := by decide +kernel
theorem dX5_number_161 : decode cX5_number 161 = .ok (.aload_n 0, 1) := by decide +kernel
theorem dX5_number_162 : decode cX5_number 162 = .ok (.getfield 23, 3) := by decide +kernel
theorem dX5_number_165 : decode cX5_number 165 = .ok (.bipush 6, 2) := by decide +kernel
theorem dX5_number_167 : decode cX5_number 167 = .ok (.iload_n 1, 1) := by decide +kernel
theorem dX5_number_168 : decode cX5_number 168 = .ok (.imul, 1) := by decide +kernel
theorem dX5_number_169 : decode cX5_number 169 = .ok (.iload 6, 2) := by decide +kernel
theorem dX5_number_171 : decode cX5_number 171 = .ok (.iadd, 1) := by decide +kernel
theorem dX5_number_172 : decode cX5_number 172 = .ok (.iaload, 1) := by decide +kernel
theorem dX5_number_173 : decode cX5_number 173 = .ok (.iload 7, 2) := by decide +kernel
theorem dX5_number_175 : decode cX5_number 175 = .ok (.invokevirtual 62, 3) := by decide +kernel
theorem dX5_number_178 : decode cX5_number 178 = .ok (.iadd, 1) := by decide +kernel
theorem dX5_number_179 : decode cX5_number 179 = .ok (.istore 5, 2) := by decide +kernel
theorem dX5_number_181 : decode cX5_number 181 = .ok (.iinc 7 1, 3) := by decide +kernel
theorem dX5_number_184 : decode cX5_number 184 = .ok (.goto (-52), 3) := by decide +kernel
theorem dX5_number_187 : decode cX5_number 187 = .ok (.iinc 6 1, 3) := by decide +kernel
theorem dX5_number_190 : decode cX5_number 190 = .ok (.goto (-67), 3) := by decide +kernel
theorem dX5_number_193 : decode cX5_number 193 = .ok (.iload_n 3, 1) := by decide +kernel
theorem dX5_number_194 : decode cX5_number 194 = .ok (.iload 5, 2) := by decide +kernel
theorem dX5_number_196 : decode cX5_number 196 = .ok (.iadd, 1) := by decide +kernel
theorem dX5_number_197 : decode cX5_number 197 = .ok (.ireturn, 1) := by decide +kernel
set_option maxRecDepth 20000 in
theorem ggX5_lay_X5_firstPivots : GoodIn wsX5_lay wsX5_firstPivots := goodIn_r _ [10, 4, 26, 27, 28, 29, 30, 31, 32, 33, 34, 35, 36, 37, 38, 39, 40, 41] (by decide +kernel) (by decide +kernel)
set_option maxRecDepth 20000 in
theorem gX5_lay_X5_firstPivots : GoodIn wsX5_lay (wsV RX5 115 RX5 yX5_firstPivots wsX5_firstPivots) := goodIn_app (goodIn_of _ (by decide +kernel)) ggX5_lay_X5_firstPivots
set_option maxRecDepth 20000 in
theorem ggX5_lay_X5_free : GoodIn wsX5_lay wsX5_free := goodIn_r _ [14, 3, 4, 26, 27, 28, 29, 30, 31, 32, 33, 34, 35, 36, 37, 38, 39, 40, 41] (by decide +kernel) (by decide +kernel)
set_option maxRecDepth 20000 in
theorem gX5_lay_X5_free : GoodIn wsX5_lay (wsV RX5 118 RX5 yX5_free wsX5_free) := goodIn_app (goodIn_of _ (by decide +kernel)) ggX5_lay_X5_free
set_option maxRecDepth 20000 in
theorem ggX5_lay_X5_power : GoodIn wsX5_lay wsX5_power := goodIn_r _ [17] (by decide +kernel) (by decide +kernel)
set_option maxRecDepth 20000 in
theorem gX5_lay_X5_power : GoodIn wsX5_lay (va_wsS RX5 48 yX5_power wsX5_power) := goodIn_app (goodIn_of _ (by decide +kernel)) ggX5_lay_X5_power
set_option maxRecDepth 20000 in
theorem ggX5_lay_X5_goOn : GoodIn wsX5_lay wsX5_goOn := goodIn_r _ [21, 4, 3, 26, 27, 28, 29, 30, 31, 32, 33, 34, 35, 36, 37, 38, 39, 40, 41] (by decide +kernel) (by decide +kernel)
set_option maxRecDepth 20000 in
theorem gX5_lay_X5_goOn : GoodIn wsX5_lay (wsV RX5 121 RX5 yX5_goOn wsX5_goOn) := goodIn_app (goodIn_of _ (by decide +kernel)) ggX5_lay_X5_goOn
set_option maxRecDepth 20000 in
theorem ggX5_lay_X5_isFree : GoodIn wsX5_lay wsX5_isFree := goodIn_r _ [25, 4, 26, 27, 28, 29, 30, 31, 32, 33, 34, 35, 36, 37, 38, 39, 40, 41] (by decide +kernel) (by decide +kernel)
set_option maxRecDepth 20000 in
theorem gX5_lay_X5_isFree : GoodIn wsX5_lay (wsV RX5 124 RX5 yX5_isFree wsX5_isFree) := goodIn_app (goodIn_of _ (by decide +kernel)) ggX5_lay_X5_isFree
theorem dX5_lay_0 : decode cX5_lay 0 = .ok (.aload_n 0, 1) := by decide +kernel
theorem dX5_lay_1 : decode cX5_lay 1 = .ok (.iload_n 1, 1) := by decide +kernel
theorem dX5_lay_2 : decode cX5_lay 2 = .ok (.invokevirtual 115, 3) := by decide +kernel
theorem dX5_lay_5 : decode cX5_lay 5 = .ok (.iload_n 2, 1) := by decide +kernel
theorem dX5_lay_6 : decode cX5_lay 6 = .ok (.istore_n 3, 1) := by decide +kernel
theorem dX5_lay_7 : decode cX5_lay 7 = .ok (.iload_n 3, 1) := by decide +kernel
theorem dX5_lay_8 : decode cX5_lay 8 = .ok (.aload_n 0, 1) := by decide +kernel
theorem dX5_lay_9 : decode cX5_lay 9 = .ok (.getfield 38, 3) := by decide +kernel
theorem dX5_lay_12 : decode cX5_lay 12 = .ok (.aload_n 0, 1) := by decide +kernel
theorem dX5_lay_13 : decode cX5_lay 13 = .ok (.iload_n 1, 1) := by decide +kernel
theorem dX5_lay_14 : decode cX5_lay 14 = .ok (.invokevirtual 118, 3) := by decide +kernel
theorem dX5_lay_17 : decode cX5_lay 17 = .ok (.invokestatic 48, 3) := by decide +kernel
theorem dX5_lay_20 : decode cX5_lay 20 = .ok (.if_icmp .lt 27, 3) := by decide +kernel
theorem dX5_lay_23 : decode cX5_lay 23 = .ok (.iload_n 3, 1) := by decide +kernel
theorem dX5_lay_24 : decode cX5_lay 24 = .ok (.aload_n 0, 1) := by decide +kernel
theorem dX5_lay_25 : decode cX5_lay 25 = .ok (.getfield 38, 3) := by decide +kernel
theorem dX5_lay_28 : decode cX5_lay 28 = .ok (.aload_n 0, 1) := by decide +kernel
theorem dX5_lay_29 : decode cX5_lay 29 = .ok (.iload_n 1, 1) := by decide +kernel
theorem dX5_lay_30 : decode cX5_lay 30 = .ok (.invokevirtual 118, 3) := by decide +kernel
theorem dX5_lay_33 : decode cX5_lay 33 = .ok (.invokestatic 48, 3) := by decide +kernel
theorem dX5_lay_36 : decode cX5_lay 36 = .ok (.isub, 1) := by decide +kernel
theorem dX5_lay_37 : decode cX5_lay 37 = .ok (.istore_n 3, 1) := by decide +kernel
theorem dX5_lay_38 : decode cX5_lay 38 = .ok (.aload_n 0, 1) := by decide +kernel
theorem dX5_lay_39 : decode cX5_lay 39 = .ok (.iload_n 1, 1) := by decide +kernel
theorem dX5_lay_40 : decode cX5_lay 40 = .ok (.invokevirtual 121, 3) := by decide +kernel
theorem dX5_lay_43 : decode cX5_lay 43 = .ok (.pop, 1) := by decide +kernel
theorem dX5_lay_44 : decode cX5_lay 44 = .ok (.goto (-37), 3) := by decide +kernel
theorem dX5_lay_47 : decode cX5_lay 47 = .ok (.aload_n 0, 1) := by decide +kernel
theorem dX5_lay_48 : decode cX5_lay 48 = .ok (.getfield 38, 3) := by decide +kernel
theorem dX5_lay_51 : decode cX5_lay 51 = .ok (.aload_n 0, 1) := by decide +kernel
theorem dX5_lay_52 : decode cX5_lay 52 = .ok (.iload_n 1, 1) := by decide +kernel
theorem dX5_lay_53 : decode cX5_lay 53 = .ok (.invokevirtual 118, 3) := by decide +kernel
theorem dX5_lay_56 : decode cX5_lay 56 = .ok (.invokestatic 48, 3) := by decide +kernel
theorem dX5_lay_59 : decode cX5_lay 59 = .ok (.istore 4, 2) := by decide +kernel
theorem dX5_lay_61 : decode cX5_lay 61 = .ok (.aload_n 0, 1) := by decide +kernel
theorem dX5_lay_62 : decode cX5_lay 62 = .ok (.iload_n 1, 1) := by decide +kernel
theorem dX5_lay_63 : decode cX5_lay 63 = .ok (.putfield 76, 3) := by decide +kernel
theorem dX5_lay_66 : decode cX5_lay 66 = .ok (.iconst 0, 1) := by decide +kernel
theorem dX5_lay_67 : decode cX5_lay 67 = .ok (.istore 5, 2) := by decide +kernel
theorem dX5_lay_69 : decode cX5_lay 69 = .ok (.iload 5, 2) := by decide +kernel
theorem dX5_lay_71 : decode cX5_lay 71 = .ok (.iload_n 1, 1) := by decide +kernel
theorem dX5_lay_72 : decode cX5_lay 72 = .ok (.if_icmp .ge 111, 3) := by decide +kernel
theorem dX5_lay_75 : decode cX5_lay 75 = .ok (.aload_n 0, 1) := by decide +kernel
theorem dX5_lay_76 : decode cX5_lay 76 = .ok (.getfield 38, 3) := by decide +kernel
theorem dX5_lay_79 : decode cX5_lay 79 = .ok (.aload_n 0, 1) := by decide +kernel
theorem dX5_lay_80 : decode cX5_lay 80 = .ok (.getfield 42, 3) := by decide +kernel
theorem dX5_lay_83 : decode cX5_lay 83 = .ok (.iconst 1, 1) := by decide +kernel
theorem dX5_lay_84 : decode cX5_lay 84 = .ok (.isub, 1) := by decide +kernel
theorem dX5_lay_85 : decode cX5_lay 85 = .ok (.aload_n 0, 1) := by decide +kernel
theorem dX5_lay_86 : decode cX5_lay 86 = .ok (.getfield 29, 3) := by decide +kernel
theorem dX5_lay_89 : decode cX5_lay 89 = .ok (.iload 5, 2) := by decide +kernel
theorem dX5_lay_91 : decode cX5_lay 91 = .ok (.iaload, 1) := by decide +kernel
theorem dX5_lay_92 : decode cX5_lay 92 = .ok (.isub, 1) := by decide +kernel
theorem dX5_lay_93 : decode cX5_lay 93 = .ok (.invokestatic 48, 3) := by decide +kernel
theorem dX5_lay_96 : decode cX5_lay 96 = .ok (.istore 6, 2) := by decide +kernel
theorem dX5_lay_98 : decode cX5_lay 98 = .ok (.iconst 0, 1) := by decide +kernel
theorem dX5_lay_99 : decode cX5_lay 99 = .ok (.istore 7, 2) := by decide +kernel
theorem dX5_lay_101 : decode cX5_lay 101 = .ok (.iload 7, 2) := by decide +kernel
theorem dX5_lay_103 : decode cX5_lay 103 = .ok (.aload_n 0, 1) := by decide +kernel
theorem dX5_lay_104 : decode cX5_lay 104 = .ok (.getfield 42, 3) := by decide +kernel
theorem dX5_lay_107 : decode cX5_lay 107 = .ok (.if_icmp .ge 61, 3) := by decide +kernel
theorem dX5_lay_110 : decode cX5_lay 110 = .ok (.aload_n 0, 1) := by decide +kernel
theorem dX5_lay_111 : decode cX5_lay 111 = .ok (.iload_n 1, 1) := by decide +kernel
theorem dX5_lay_112 : decode cX5_lay 112 = .ok (.iload 5, 2) := by decide +kernel
theorem dX5_lay_114 : decode cX5_lay 114 = .ok (.iload 7, 2) := by decide +kernel
theorem dX5_lay_116 : decode cX5_lay 116 = .ok (.invokevirtual 124, 3) := by decide +kernel
theorem dX5_lay_119 : decode cX5_lay 119 = .ok (.ifCond .eq 43, 3) := by decide +kernel
theorem dX5_lay_122 : decode cX5_lay 122 = .ok (.iload 4, 2) := by decide +kernel
theorem dX5_lay_124 : decode cX5_lay 124 = .ok (.aload_n 0, 1) := by decide +kernel
theorem dX5_lay_125 : decode cX5_lay 125 = .ok (.getfield 38, 3) := by decide +kernel
theorem dX5_lay_128 : decode cX5_lay 128 = .ok (.idiv, 1) := by decide +kernel
theorem dX5_lay_129 : decode cX5_lay 129 = .ok (.istore 4, 2) := by decide +kernel
theorem dX5_lay_131 : decode cX5_lay 131 = .ok (.iload 6, 2) := by decide +kernel
theorem dX5_lay_133 : decode cX5_lay 133 = .ok (.iload_n 3, 1) := by decide +kernel
theorem dX5_lay_134 : decode cX5_lay 134 = .ok (.iload 4, 2) := by decide +kernel
theorem dX5_lay_136 : decode cX5_lay 136 = .ok (.idiv, 1) := by decide +kernel
theorem dX5_lay_137 : decode cX5_lay 137 = .ok (.aload_n 0, 1) := by decide +kernel
theorem dX5_lay_138 : decode cX5_lay 138 = .ok (.getfield 38, 3) := by decide +kernel
theorem dX5_lay_141 : decode cX5_lay 141 = .ok (.irem, 1) := by decide +kernel
theorem dX5_lay_142 : decode cX5_lay 142 = .ok (.aload_n 0, 1) := by decide +kernel
theorem dX5_lay_143 : decode cX5_lay 143 = .ok (.getfield 38, 3) := by decide +kernel
theorem dX5_lay_146 : decode cX5_lay 146 = .ok (.aload_n 0, 1) := by decide +kernel
theorem dX5_lay_147 : decode cX5_lay 147 = .ok (.getfield 42, 3) := by decide +kernel
theorem dX5_lay_150 : decode cX5_lay 150 = .ok (.iconst 1, 1) := by decide +kernel
theorem dX5_lay_151 : decode cX5_lay 151 = .ok (.isub, 1) := by decide +kernel
theorem dX5_lay_152 : decode cX5_lay 152 = .ok (.iload 7, 2) := by decide +kernel
theorem dX5_lay_154 : decode cX5_lay 154 = .ok (.isub, 1) := by decide +kernel
theorem dX5_lay_155 : decode cX5_lay 155 = .ok (.invokestatic 48, 3) := by decide +kernel
theorem dX5_lay_158 : decode cX5_lay 158 = .ok (.imul, 1) := by decide +kernel
theorem dX5_lay_159 : decode cX5_lay 159 = .ok (.iadd, 1) := by decide +kernel
theorem dX5_lay_160 : decode cX5_lay 160 = .ok (.istore 6, 2) := by decide +kernel
theorem dX5_lay_162 : decode cX5_lay 162 = .ok (.iinc 7 1, 3) := by decide +kernel
theorem dX5_lay_165 : decode cX5_lay 165 = .ok (.goto (-64), 3) := by decide +kernel
theorem dX5_lay_168 : decode cX5_lay 168 = .ok (.aload_n 0, 1) := by decide +kernel
theorem dX5_lay_169 : decode cX5_lay 169 = .ok (.getfield 13, 3) := by decide +kernel
theorem dX5_lay_172 : decode cX5_lay 172 = .ok (.iload 5, 2) := by decide +kernel
theorem dX5_lay_174 : decode cX5_lay 174 = .ok (.iload 6, 2) := by decide +kernel
theorem dX5_lay_176 : decode cX5_lay 176 = .ok (.iastore, 1) := by decide +kernel
theorem dX5_lay_177 : decode cX5_lay 177 = .ok (.iinc 5 1, 3) := by decide +kernel
theorem dX5_lay_180 : decode cX5_lay 180 = .ok (.goto (-111), 3) := by decide +kernel
theorem dX5_lay_183 : decode cX5_lay 183 = .ok (.return_, 1) := by decide +kernel
set_option maxRecDepth 20000 in
theorem ggX5_numbered_X5_isSlot : GoodIn wsX5_numbered wsX5_isSlot := goodIn_r _ [5, 6, 7, 8, 4, 9] (by decide +kernel) (by decide +kernel)
set_option maxRecDepth 20000 in
theorem gX5_numbered_X5_isSlot : GoodIn wsX5_numbered (va_wsS RX5 88 yX5_isSlot wsX5_isSlot) := goodIn_app (goodIn_of _ (by decide +kernel)) ggX5_numbered_X5_isSlot
set_option maxRecDepth 20000 in
theorem ggX5_numbered_X5_in : GoodIn wsX5_numbered wsX5_in := goodIn_r _ [9] (by decide +kernel) (by decide +kernel)
set_option maxRecDepth 20000 in
theorem gX5_numbered_X5_in : GoodIn wsX5_numbered (va_wsS RX5 58 yX5_in wsX5_in) := goodIn_app (goodIn_of _ (by decide +kernel)) ggX5_numbered_X5_in
set_option maxRecDepth 20000 in
theorem ggX5_numbered_X5_gauss : GoodIn wsX5_numbered wsX5_gauss := goodIn_r _ [13, 14, 7, 8, 4, 9, 15, 16, 17, 47, 48, 49, 50, 51, 52, 53, 54, 55, 56, 57, 58, 59, 60, 61, 62] (by decide +kernel) (by decide +kernel)
set_option maxRecDepth 20000 in
theorem gX5_numbered_X5_gauss : GoodIn wsX5_numbered (wsV RX5 112 RX5 yX5_gauss wsX5_gauss) := goodIn_app (goodIn_of _ (by decide +kernel)) ggX5_numbered_X5_gauss
set_option maxRecDepth 20000 in
theorem ggX5_numbered_X5_lay : GoodIn wsX5_numbered wsX5_lay := goodIn_r _ [21, 14, 22, 1, 23, 24, 25, 26, 27, 4, 28, 29, 30, 31, 32, 15, 16, 17, 33, 34, 35, 36, 37, 38, 39, 40, 47, 48, 49, 50, 51, 52, 53, 54, 55, 56, 57, 58, 59, 60, 61, 62] (by decide +kernel) (by decide +kernel)
set_option maxRecDepth 20000 in
theorem gX5_numbered_X5_lay : GoodIn wsX5_numbered (wsV RX5 127 RX5 yX5_lay wsX5_lay) := goodIn_app (goodIn_of _ (by decide +kernel)) ggX5_numbered_X5_lay
set_option maxRecDepth 20000 in
theorem ggX5_numbered_X5_save : GoodIn wsX5_numbered wsX5_save := goodIn_r _ [44, 45, 22, 46, 24, 47, 48, 49, 50, 51, 52, 53, 54, 55, 56, 57, 58, 59, 60, 61, 62] (by decide +kernel) (by decide +kernel)
set_option maxRecDepth 20000 in
theorem gX5_numbered_X5_save : GoodIn wsX5_numbered (wsV RX5 95 RX5 yX5_save wsX5_save) := goodIn_app (goodIn_of _ (by decide +kernel)) ggX5_numbered_X5_save
theorem dX5_numbered_0 : decode cX5_numbered 0 = .ok (.iload_n 1, 1) := by decide +kernel
theorem dX5_numbered_1 : decode cX5_numbered 1 = .ok (.invokestatic 88, 3) := by decide +kernel
theorem dX5_numbered_4 : decode cX5_numbered 4 = .ok (.ifCond .ne 6, 3) := by decide +kernel
theorem dX5_numbered_7 : decode cX5_numbered 7 = .ok (.bipush (-101), 2) := by decide +kernel
theorem dX5_numbered_9 : decode cX5_numbered 9 = .ok (.ireturn, 1) := by decide +kernel
theorem dX5_numbered_10 : decode cX5_numbered 10 = .ok (.iload_n 2, 1) := by decide +kernel
theorem dX5_numbered_11 : decode cX5_numbered 11 = .ok (.i2l, 1) := by decide +kernel
theorem dX5_numbered_12 : decode cX5_numbered 12 = .ok (.lconst 0, 1) := by decide +kernel
theorem dX5_numbered_13 : decode cX5_numbered 13 = .ok (.aload_n 0, 1) := by decide +kernel
theorem dX5_numbered_14 : decode cX5_numbered 14 = .ok (.getfield 42, 3) := by decide +kernel
theorem dX5_numbered_17 : decode cX5_numbered 17 = .ok (.i2l, 1) := by decide +kernel
theorem dX5_numbered_18 : decode cX5_numbered 18 = .ok (.invokestatic 58, 3) := by decide +kernel
theorem dX5_numbered_21 : decode cX5_numbered 21 = .ok (.ifCond .eq 24, 3) := by decide +kernel
theorem dX5_numbered_24 : decode cX5_numbered 24 = .ok (.iload_n 3, 1) := by decide +kernel
theorem dX5_numbered_25 : decode cX5_numbered 25 = .ok (.i2l, 1) := by decide +kernel
theorem dX5_numbered_26 : decode cX5_numbered 26 = .ok (.lconst 0, 1) := by decide +kernel
theorem dX5_numbered_27 : decode cX5_numbered 27 = .ok (.aload_n 0, 1) := by decide +kernel
theorem dX5_numbered_28 : decode cX5_numbered 28 = .ok (.aload_n 0, 1) := by decide +kernel
theorem dX5_numbered_29 : decode cX5_numbered 29 = .ok (.getfield 42, 3) := by decide +kernel
theorem dX5_numbered_32 : decode cX5_numbered 32 = .ok (.iload_n 2, 1) := by decide +kernel
theorem dX5_numbered_33 : decode cX5_numbered 33 = .ok (.invokevirtual 112, 3) := by decide +kernel
theorem dX5_numbered_36 : decode cX5_numbered 36 = .ok (.iconst 1, 1) := by decide +kernel
theorem dX5_numbered_37 : decode cX5_numbered 37 = .ok (.isub, 1) := by decide +kernel
theorem dX5_numbered_38 : decode cX5_numbered 38 = .ok (.i2l, 1) := by decide +kernel
theorem dX5_numbered_39 : decode cX5_numbered 39 = .ok (.invokestatic 58, 3) := by decide +kernel
theorem dX5_numbered_42 : decode cX5_numbered 42 = .ok (.ifCond .ne 6, 3) := by decide +kernel
theorem dX5_numbered_45 : decode cX5_numbered 45 = .ok (.bipush (-102), 2) := by decide +kernel
theorem dX5_numbered_47 : decode cX5_numbered 47 = .ok (.ireturn, 1) := by decide +kernel
theorem dX5_numbered_48 : decode cX5_numbered 48 = .ok (.aload_n 0, 1) := by decide +kernel
theorem dX5_numbered_49 : decode cX5_numbered 49 = .ok (.iload_n 2, 1) := by decide +kernel
theorem dX5_numbered_50 : decode cX5_numbered 50 = .ok (.iload_n 3, 1) := by decide +kernel
theorem dX5_numbered_51 : decode cX5_numbered 51 = .ok (.invokevirtual 127, 3) := by decide +kernel
theorem dX5_numbered_54 : decode cX5_numbered 54 = .ok (.aload_n 0, 1) := by decide +kernel
theorem dX5_numbered_55 : decode cX5_numbered 55 = .ok (.iload_n 1, 1) := by decide +kernel
theorem dX5_numbered_56 : decode cX5_numbered 56 = .ok (.invokevirtual 95, 3) := by decide +kernel
theorem dX5_numbered_59 : decode cX5_numbered 59 = .ok (.ireturn, 1) := by decide +kernel
set_option maxRecDepth 20000 in
theorem ggX5_over_X5_isSlot : GoodIn wsX5_over wsX5_isSlot := goodIn_r _ [6, 7, 8, 9, 5, 10] (by decide +kernel) (by decide +kernel)
set_option maxRecDepth 20000 in
theorem gX5_over_X5_isSlot : GoodIn wsX5_over (va_wsS RX5 88 yX5_isSlot wsX5_isSlot) := goodIn_app (goodIn_of _ (by decide +kernel)) ggX5_over_X5_isSlot
set_option maxRecDepth 20000 in
theorem ggX5_over_X5_in : GoodIn wsX5_over wsX5_in := goodIn_r _ [10] (by decide +kernel) (by decide +kernel)
set_option maxRecDepth 20000 in
theorem gX5_over_X5_in : GoodIn wsX5_over (va_wsS RX5 58 yX5_in wsX5_in) := goodIn_app (goodIn_of _ (by decide +kernel)) ggX5_over_X5_in
set_option maxRecDepth 20000 in
theorem ggX5_over_X5_gauss : GoodIn wsX5_over wsX5_gauss := goodIn_r _ [14, 15, 8, 9, 5, 10, 16, 17, 18, 19, 20, 21, 22, 23, 24, 25, 26, 27, 28, 29, 30, 31, 32, 33, 34] (by decide +kernel) (by decide +kernel)
set_option maxRecDepth 20000 in
theorem gX5_over_X5_gauss : GoodIn wsX5_over (wsV RX5 112 RX5 yX5_gauss wsX5_gauss) := goodIn_app (goodIn_of _ (by decide +kernel)) ggX5_over_X5_gauss
theorem dX5_over_0 : decode cX5_over 0 = .ok (.iload_n 1, 1) := by decide +kernel
theorem dX5_over_1 : decode cX5_over 1 = .ok (.invokestatic 88, 3) := by decide +kernel
theorem dX5_over_4 : decode cX5_over 4 = .ok (.ifCond .ne 6, 3) := by decide +kernel
theorem dX5_over_7 : decode cX5_over 7 = .ok (.bipush (-101), 2) := by decide +kernel
theorem dX5_over_9 : decode cX5_over 9 = .ok (.ireturn, 1) := by decide +kernel
theorem dX5_over_10 : decode cX5_over 10 = .ok (.iload_n 2, 1) := by decide +kernel
theorem dX5_over_11 : decode cX5_over 11 = .ok (.i2l, 1) := by decide +kernel
theorem dX5_over_12 : decode cX5_over 12 = .ok (.aload_n 0, 1) := by decide +kernel
theorem dX5_over_13 : decode cX5_over 13 = .ok (.getfield 20, 3) := by decide +kernel
theorem dX5_over_16 : decode cX5_over 16 = .ok (.iload_n 1, 1) := by decide +kernel
theorem dX5_over_17 : decode cX5_over 17 = .ok (.iaload, 1) := by decide +kernel
theorem dX5_over_18 : decode cX5_over 18 = .ok (.i2l, 1) := by decide +kernel
theorem dX5_over_19 : decode cX5_over 19 = .ok (.aload_n 0, 1) := by decide +kernel
theorem dX5_over_20 : decode cX5_over 20 = .ok (.getfield 42, 3) := by decide +kernel
theorem dX5_over_23 : decode cX5_over 23 = .ok (.i2l, 1) := by decide +kernel
theorem dX5_over_24 : decode cX5_over 24 = .ok (.invokestatic 58, 3) := by decide +kernel
theorem dX5_over_27 : decode cX5_over 27 = .ok (.ifCond .eq 29, 3) := by decide +kernel
theorem dX5_over_30 : decode cX5_over 30 = .ok (.aload_n 0, 1) := by decide +kernel
theorem dX5_over_31 : decode cX5_over 31 = .ok (.aload_n 0, 1) := by decide +kernel
theorem dX5_over_32 : decode cX5_over 32 = .ok (.getfield 42, 3) := by decide +kernel
theorem dX5_over_35 : decode cX5_over 35 = .ok (.aload_n 0, 1) := by decide +kernel
theorem dX5_over_36 : decode cX5_over 36 = .ok (.getfield 20, 3) := by decide +kernel
theorem dX5_over_39 : decode cX5_over 39 = .ok (.iload_n 1, 1) := by decide +kernel
theorem dX5_over_40 : decode cX5_over 40 = .ok (.iaload, 1) := by decide +kernel
theorem dX5_over_41 : decode cX5_over 41 = .ok (.isub, 1) := by decide +kernel
theorem dX5_over_42 : decode cX5_over 42 = .ok (.iload_n 2, 1) := by decide +kernel
theorem dX5_over_43 : decode cX5_over 43 = .ok (.aload_n 0, 1) := by decide +kernel
theorem dX5_over_44 : decode cX5_over 44 = .ok (.getfield 20, 3) := by decide +kernel
theorem dX5_over_47 : decode cX5_over 47 = .ok (.iload_n 1, 1) := by decide +kernel
theorem dX5_over_48 : decode cX5_over 48 = .ok (.iaload, 1) := by decide +kernel
theorem dX5_over_49 : decode cX5_over 49 = .ok (.isub, 1) := by decide +kernel
theorem dX5_over_50 : decode cX5_over 50 = .ok (.invokevirtual 112, 3) := by decide +kernel
theorem dX5_over_53 : decode cX5_over 53 = .ok (.goto 4, 3) := by decide +kernel
theorem dX5_over_56 : decode cX5_over 56 = .ok (.iconst 0, 1) := by decide +kernel
theorem dX5_over_57 : decode cX5_over 57 = .ok (.ireturn, 1) := by decide +kernel
set_option maxRecDepth 20000 in
theorem ggX5_meeting_X5_isSlot : GoodIn wsX5_meeting wsX5_isSlot := goodIn_r _ [7, 8, 9, 10, 6, 11] (by decide +kernel) (by decide +kernel)
set_option maxRecDepth 20000 in
theorem gX5_meeting_X5_isSlot : GoodIn wsX5_meeting (va_wsS RX5 88 yX5_isSlot wsX5_isSlot) := goodIn_app (goodIn_of _ (by decide +kernel)) ggX5_meeting_X5_isSlot
set_option maxRecDepth 20000 in
theorem ggX5_meeting_X5_in : GoodIn wsX5_meeting wsX5_in := goodIn_r _ [11] (by decide +kernel) (by decide +kernel)
set_option maxRecDepth 20000 in
theorem gX5_meeting_X5_in : GoodIn wsX5_meeting (va_wsS RX5 58 yX5_in wsX5_in) := goodIn_app (goodIn_of _ (by decide +kernel)) ggX5_meeting_X5_in
set_option maxRecDepth 20000 in
theorem ggX5_meeting_X5_gauss : GoodIn wsX5_meeting wsX5_gauss := goodIn_r _ [15, 3, 9, 10, 6, 11, 16, 17, 18, 19, 20, 21, 22, 23, 24, 25, 26, 27, 28, 29, 30, 31, 32, 33, 34] (by decide +kernel) (by decide +kernel)
set_option maxRecDepth 20000 in
theorem gX5_meeting_X5_gauss : GoodIn wsX5_meeting (wsV RX5 112 RX5 yX5_gauss wsX5_gauss) := goodIn_app (goodIn_of _ (by decide +kernel)) ggX5_meeting_X5_gauss
set_option maxRecDepth 20000 in
theorem ggX5_meeting_X5_power : GoodIn wsX5_meeting wsX5_power := goodIn_r _ [18] (by decide +kernel) (by decide +kernel)
set_option maxRecDepth 20000 in
theorem gX5_meeting_X5_power : GoodIn wsX5_meeting (va_wsS RX5 48 yX5_power wsX5_power) := goodIn_app (goodIn_of _ (by decide +kernel)) ggX5_meeting_X5_power
theorem dX5_meeting_0 : decode cX5_meeting 0 = .ok (.iload_n 1, 1) := by decide +kernel
theorem dX5_meeting_1 : decode cX5_meeting 1 = .ok (.invokestatic 88, 3) := by decide +kernel
theorem dX5_meeting_4 : decode cX5_meeting 4 = .ok (.ifCond .ne 6, 3) := by decide +kernel
theorem dX5_meeting_7 : decode cX5_meeting 7 = .ok (.bipush (-101), 2) := by decide +kernel
theorem dX5_meeting_9 : decode cX5_meeting 9 = .ok (.ireturn, 1) := by decide +kernel
theorem dX5_meeting_10 : decode cX5_meeting 10 = .ok (.aload_n 0, 1) := by decide +kernel
theorem dX5_meeting_11 : decode cX5_meeting 11 = .ok (.getfield 20, 3) := by decide +kernel
theorem dX5_meeting_14 : decode cX5_meeting 14 = .ok (.iload_n 1, 1) := by decide +kernel
theorem dX5_meeting_15 : decode cX5_meeting 15 = .ok (.iaload, 1) := by decide +kernel
theorem dX5_meeting_16 : decode cX5_meeting 16 = .ok (.istore 4, 2) := by decide +kernel
theorem dX5_meeting_18 : decode cX5_meeting 18 = .ok (.iload_n 2, 1) := by decide +kernel
theorem dX5_meeting_19 : decode cX5_meeting 19 = .ok (.i2l, 1) := by decide +kernel
theorem dX5_meeting_20 : decode cX5_meeting 20 = .ok (.lconst 0, 1) := by decide +kernel
theorem dX5_meeting_21 : decode cX5_meeting 21 = .ok (.aload_n 0, 1) := by decide +kernel
theorem dX5_meeting_22 : decode cX5_meeting 22 = .ok (.getfield 42, 3) := by decide +kernel
theorem dX5_meeting_25 : decode cX5_meeting 25 = .ok (.i2l, 1) := by decide +kernel
theorem dX5_meeting_26 : decode cX5_meeting 26 = .ok (.invokestatic 58, 3) := by decide +kernel
theorem dX5_meeting_29 : decode cX5_meeting 29 = .ok (.ifCond .eq 20, 3) := by decide +kernel
theorem dX5_meeting_32 : decode cX5_meeting 32 = .ok (.iload_n 3, 1) := by decide +kernel
theorem dX5_meeting_33 : decode cX5_meeting 33 = .ok (.i2l, 1) := by decide +kernel
theorem dX5_meeting_34 : decode cX5_meeting 34 = .ok (.lconst 0, 1) := by decide +kernel
theorem dX5_meeting_35 : decode cX5_meeting 35 = .ok (.iload_n 2, 1) := by decide +kernel
theorem dX5_meeting_36 : decode cX5_meeting 36 = .ok (.i2l, 1) := by decide +kernel
theorem dX5_meeting_37 : decode cX5_meeting 37 = .ok (.invokestatic 58, 3) := by decide +kernel
theorem dX5_meeting_40 : decode cX5_meeting 40 = .ok (.ifCond .eq 9, 3) := by decide +kernel
theorem dX5_meeting_43 : decode cX5_meeting 43 = .ok (.iload_n 3, 1) := by decide +kernel
theorem dX5_meeting_44 : decode cX5_meeting 44 = .ok (.iload 4, 2) := by decide +kernel
theorem dX5_meeting_46 : decode cX5_meeting 46 = .ok (.if_icmp .le 5, 3) := by decide +kernel
theorem dX5_meeting_49 : decode cX5_meeting 49 = .ok (.iconst 0, 1) := by decide +kernel
theorem dX5_meeting_50 : decode cX5_meeting 50 = .ok (.ireturn, 1) := by decide +kernel
theorem dX5_meeting_51 : decode cX5_meeting 51 = .ok (.aload_n 0, 1) := by decide +kernel
theorem dX5_meeting_52 : decode cX5_meeting 52 = .ok (.aload_n 0, 1) := by decide +kernel
theorem dX5_meeting_53 : decode cX5_meeting 53 = .ok (.getfield 42, 3) := by decide +kernel
theorem dX5_meeting_56 : decode cX5_meeting 56 = .ok (.iload 4, 2) := by decide +kernel
theorem dX5_meeting_58 : decode cX5_meeting 58 = .ok (.isub, 1) := by decide +kernel
theorem dX5_meeting_59 : decode cX5_meeting 59 = .ok (.iload_n 2, 1) := by decide +kernel
theorem dX5_meeting_60 : decode cX5_meeting 60 = .ok (.iload_n 3, 1) := by decide +kernel
theorem dX5_meeting_61 : decode cX5_meeting 61 = .ok (.isub, 1) := by decide +kernel
theorem dX5_meeting_62 : decode cX5_meeting 62 = .ok (.invokevirtual 112, 3) := by decide +kernel
theorem dX5_meeting_65 : decode cX5_meeting 65 = .ok (.istore 5, 2) := by decide +kernel
theorem dX5_meeting_67 : decode cX5_meeting 67 = .ok (.iload 5, 2) := by decide +kernel
theorem dX5_meeting_69 : decode cX5_meeting 69 = .ok (.ifCond .ne 7, 3) := by decide +kernel
theorem dX5_meeting_72 : decode cX5_meeting 72 = .ok (.iconst 0, 1) := by decide +kernel
theorem dX5_meeting_73 : decode cX5_meeting 73 = .ok (.goto 29, 3) := by decide +kernel
theorem dX5_meeting_76 : decode cX5_meeting 76 = .ok (.aload_n 0, 1) := by decide +kernel
theorem dX5_meeting_77 : decode cX5_meeting 77 = .ok (.iload 4, 2) := by decide +kernel
theorem dX5_meeting_79 : decode cX5_meeting 79 = .ok (.iload_n 3, 1) := by decide +kernel
theorem dX5_meeting_80 : decode cX5_meeting 80 = .ok (.invokevirtual 112, 3) := by decide +kernel
theorem dX5_meeting_83 : decode cX5_meeting 83 = .ok (.iload 5, 2) := by decide +kernel
theorem dX5_meeting_85 : decode cX5_meeting 85 = .ok (.imul, 1) := by decide +kernel
theorem dX5_meeting_86 : decode cX5_meeting 86 = .ok (.aload_n 0, 1) := by decide +kernel
theorem dX5_meeting_87 : decode cX5_meeting 87 = .ok (.getfield 38, 3) := by decide +kernel
theorem dX5_meeting_90 : decode cX5_meeting 90 = .ok (.iload 4, 2) := by decide +kernel
theorem dX5_meeting_92 : decode cX5_meeting 92 = .ok (.iload_n 3, 1) := by decide +kernel
theorem dX5_meeting_93 : decode cX5_meeting 93 = .ok (.isub, 1) := by decide +kernel
theorem dX5_meeting_94 : decode cX5_meeting 94 = .ok (.iload_n 2, 1) := by decide +kernel
theorem dX5_meeting_95 : decode cX5_meeting 95 = .ok (.iload_n 3, 1) := by decide +kernel
theorem dX5_meeting_96 : decode cX5_meeting 96 = .ok (.isub, 1) := by decide +kernel
theorem dX5_meeting_97 : decode cX5_meeting 97 = .ok (.imul, 1) := by decide +kernel
theorem dX5_meeting_98 : decode cX5_meeting 98 = .ok (.invokestatic 48, 3) := by decide +kernel
theorem dX5_meeting_101 : decode cX5_meeting 101 = .ok (.imul, 1) := by decide +kernel
theorem dX5_meeting_102 : decode cX5_meeting 102 = .ok (.ireturn, 1) := by decide +kernel
theorem dX5_toHeap_0 : decode cX5_toHeap 0 = .ok (.aload_n 0, 1) := by decide +kernel
theorem dX5_toHeap_1 : decode cX5_toHeap 1 = .ok (.getfield 32, 3) := by decide +kernel
theorem dX5_toHeap_4 : decode cX5_toHeap 4 = .ok (.aload_n 0, 1) := by decide +kernel
theorem dX5_toHeap_5 : decode cX5_toHeap 5 = .ok (.getfield 55, 3) := by decide +kernel
theorem dX5_toHeap_8 : decode cX5_toHeap 8 = .ok (.aload_n 0, 1) := by decide +kernel
theorem dX5_toHeap_9 : decode cX5_toHeap 9 = .ok (.getfield 76, 3) := by decide +kernel
theorem dX5_toHeap_12 : decode cX5_toHeap 12 = .ok (.iastore, 1) := by decide +kernel
theorem dX5_toHeap_13 : decode cX5_toHeap 13 = .ok (.iconst 0, 1) := by decide +kernel
theorem dX5_toHeap_14 : decode cX5_toHeap 14 = .ok (.istore_n 1, 1) := by decide +kernel
theorem dX5_toHeap_15 : decode cX5_toHeap 15 = .ok (.iload_n 1, 1) := by decide +kernel
theorem dX5_toHeap_16 : decode cX5_toHeap 16 = .ok (.aload_n 0, 1) := by decide +kernel
theorem dX5_toHeap_17 : decode cX5_toHeap 17 = .ok (.getfield 76, 3) := by decide +kernel
theorem dX5_toHeap_20 : decode cX5_toHeap 20 = .ok (.if_icmp .ge 29, 3) := by decide +kernel
theorem dX5_toHeap_23 : decode cX5_toHeap 23 = .ok (.aload_n 0, 1) := by decide +kernel
theorem dX5_toHeap_24 : decode cX5_toHeap 24 = .ok (.getfield 35, 3) := by decide +kernel
theorem dX5_toHeap_27 : decode cX5_toHeap 27 = .ok (.bipush 6, 2) := by decide +kernel
theorem dX5_toHeap_29 : decode cX5_toHeap 29 = .ok (.aload_n 0, 1) := by decide +kernel
theorem dX5_toHeap_30 : decode cX5_toHeap 30 = .ok (.getfield 55, 3) := by decide +kernel
theorem dX5_toHeap_33 : decode cX5_toHeap 33 = .ok (.imul, 1) := by decide +kernel
theorem dX5_toHeap_34 : decode cX5_toHeap 34 = .ok (.iload_n 1, 1) := by decide +kernel
theorem dX5_toHeap_35 : decode cX5_toHeap 35 = .ok (.iadd, 1) := by decide +kernel
theorem dX5_toHeap_36 : decode cX5_toHeap 36 = .ok (.aload_n 0, 1) := by decide +kernel
theorem dX5_toHeap_37 : decode cX5_toHeap 37 = .ok (.getfield 13, 3) := by decide +kernel
theorem dX5_toHeap_40 : decode cX5_toHeap 40 = .ok (.iload_n 1, 1) := by decide +kernel
theorem dX5_toHeap_41 : decode cX5_toHeap 41 = .ok (.iaload, 1) := by decide +kernel
theorem dX5_toHeap_42 : decode cX5_toHeap 42 = .ok (.iastore, 1) := by decide +kernel
theorem dX5_toHeap_43 : decode cX5_toHeap 43 = .ok (.iinc 1 1, 3) := by decide +kernel
theorem dX5_toHeap_46 : decode cX5_toHeap 46 = .ok (.goto (-31), 3) := by decide +kernel
theorem dX5_toHeap_49 : decode cX5_toHeap 49 = .ok (.aload_n 0, 1) := by decide +kernel
theorem dX5_toHeap_50 : decode cX5_toHeap 50 = .ok (.dup, 1) := by decide +kernel
theorem dX5_toHeap_51 : decode cX5_toHeap 51 = .ok (.getfield 55, 3) := by decide +kernel
theorem dX5_toHeap_54 : decode cX5_toHeap 54 = .ok (.iconst 1, 1) := by decide +kernel
theorem dX5_toHeap_55 : decode cX5_toHeap 55 = .ok (.iadd, 1) := by decide +kernel
theorem dX5_toHeap_56 : decode cX5_toHeap 56 = .ok (.putfield 55, 3) := by decide +kernel
theorem dX5_toHeap_59 : decode cX5_toHeap 59 = .ok (.return_, 1) := by decide +kernel
theorem dX5_loadHeap_0 : decode cX5_loadHeap 0 = .ok (.iconst 0, 1) := by decide +kernel
theorem dX5_loadHeap_1 : decode cX5_loadHeap 1 = .ok (.istore_n 2, 1) := by decide +kernel
theorem dX5_loadHeap_2 : decode cX5_loadHeap 2 = .ok (.iload_n 2, 1) := by decide +kernel
theorem dX5_loadHeap_3 : decode cX5_loadHeap 3 = .ok (.aload_n 0, 1) := by decide +kernel
theorem dX5_loadHeap_4 : decode cX5_loadHeap 4 = .ok (.getfield 32, 3) := by decide +kernel
theorem dX5_loadHeap_7 : decode cX5_loadHeap 7 = .ok (.iload_n 1, 1) := by decide +kernel
theorem dX5_loadHeap_8 : decode cX5_loadHeap 8 = .ok (.iaload, 1) := by decide +kernel
theorem dX5_loadHeap_9 : decode cX5_loadHeap 9 = .ok (.if_icmp .ge 39, 3) := by decide +kernel
theorem dX5_loadHeap_12 : decode cX5_loadHeap 12 = .ok (.aload_n 0, 1) := by decide +kernel
theorem dX5_loadHeap_13 : decode cX5_loadHeap 13 = .ok (.getfield 13, 3) := by decide +kernel
theorem dX5_loadHeap_16 : decode cX5_loadHeap 16 = .ok (.aload_n 0, 1) := by decide +kernel
theorem dX5_loadHeap_17 : decode cX5_loadHeap 17 = .ok (.getfield 76, 3) := by decide +kernel
theorem dX5_loadHeap_20 : decode cX5_loadHeap 20 = .ok (.aload_n 0, 1) := by decide +kernel
theorem dX5_loadHeap_21 : decode cX5_loadHeap 21 = .ok (.getfield 35, 3) := by decide +kernel
theorem dX5_loadHeap_24 : decode cX5_loadHeap 24 = .ok (.bipush 6, 2) := by decide +kernel
theorem dX5_loadHeap_26 : decode cX5_loadHeap 26 = .ok (.iload_n 1, 1) := by decide +kernel
theorem dX5_loadHeap_27 : decode cX5_loadHeap 27 = .ok (.imul, 1) := by decide +kernel
theorem dX5_loadHeap_28 : decode cX5_loadHeap 28 = .ok (.iload_n 2, 1) := by decide +kernel
theorem dX5_loadHeap_29 : decode cX5_loadHeap 29 = .ok (.iadd, 1) := by decide +kernel
theorem dX5_loadHeap_30 : decode cX5_loadHeap 30 = .ok (.iaload, 1) := by decide +kernel
theorem dX5_loadHeap_31 : decode cX5_loadHeap 31 = .ok (.iastore, 1) := by decide +kernel
theorem dX5_loadHeap_32 : decode cX5_loadHeap 32 = .ok (.aload_n 0, 1) := by decide +kernel
theorem dX5_loadHeap_33 : decode cX5_loadHeap 33 = .ok (.dup, 1) := by decide +kernel
theorem dX5_loadHeap_34 : decode cX5_loadHeap 34 = .ok (.getfield 76, 3) := by decide +kernel
theorem dX5_loadHeap_37 : decode cX5_loadHeap 37 = .ok (.iconst 1, 1) := by decide +kernel
theorem dX5_loadHeap_38 : decode cX5_loadHeap 38 = .ok (.iadd, 1) := by decide +kernel
theorem dX5_loadHeap_39 : decode cX5_loadHeap 39 = .ok (.putfield 76, 3) := by decide +kernel
theorem dX5_loadHeap_42 : decode cX5_loadHeap 42 = .ok (.iinc 2 1, 3) := by decide +kernel
theorem dX5_loadHeap_45 : decode cX5_loadHeap 45 = .ok (.goto (-43), 3) := by decide +kernel
theorem dX5_loadHeap_48 : decode cX5_loadHeap 48 = .ok (.return_, 1) := by decide +kernel
set_option maxRecDepth 20000 in
theorem ggX5_put_X5_isSlot : GoodIn wsX5_put wsX5_isSlot := goodIn_r _ [6, 7, 8, 9, 5, 10] (by decide +kernel) (by decide +kernel)
set_option maxRecDepth 20000 in
theorem gX5_put_X5_isSlot : GoodIn wsX5_put (va_wsS RX5 88 yX5_isSlot wsX5_isSlot) := goodIn_app (goodIn_of _ (by decide +kernel)) ggX5_put_X5_isSlot
set_option maxRecDepth 20000 in
theorem ggX5_put_X5_load : GoodIn wsX5_put wsX5_load := goodIn_r _ [14, 15, 16, 2, 17, 24, 25, 26, 27, 28, 29, 30, 31, 32, 33, 34, 35, 36, 37, 38, 39] (by decide +kernel) (by decide +kernel)
set_option maxRecDepth 20000 in
theorem gX5_put_X5_load : GoodIn wsX5_put (wsV RX5 91 RX5 yX5_load wsX5_load) := goodIn_app (goodIn_of _ (by decide +kernel)) ggX5_put_X5_load
set_option maxRecDepth 20000 in
theorem ggX5_put_X5_toHeap : GoodIn wsX5_put wsX5_toHeap := goodIn_r _ [21, 22, 1, 2, 23, 16, 24, 25, 26, 27, 28, 29, 30, 31, 32, 33, 34, 35, 36, 37, 38, 39] (by decide +kernel) (by decide +kernel)
set_option maxRecDepth 20000 in
theorem gX5_put_X5_toHeap : GoodIn wsX5_put (wsV RX5 131 RX5 yX5_toHeap wsX5_toHeap) := goodIn_app (goodIn_of _ (by decide +kernel)) ggX5_put_X5_toHeap
theorem dX5_put_0 : decode cX5_put 0 = .ok (.iload_n 1, 1) := by decide +kernel
theorem dX5_put_1 : decode cX5_put 1 = .ok (.invokestatic 88, 3) := by decide +kernel
theorem dX5_put_4 : decode cX5_put 4 = .ok (.ifCond .ne 6, 3) := by decide +kernel
theorem dX5_put_7 : decode cX5_put 7 = .ok (.bipush (-101), 2) := by decide +kernel
theorem dX5_put_9 : decode cX5_put 9 = .ok (.ireturn, 1) := by decide +kernel
theorem dX5_put_10 : decode cX5_put 10 = .ok (.aload_n 0, 1) := by decide +kernel
theorem dX5_put_11 : decode cX5_put 11 = .ok (.getfield 55, 3) := by decide +kernel
theorem dX5_put_14 : decode cX5_put 14 = .ok (.bipush 40, 2) := by decide +kernel
theorem dX5_put_16 : decode cX5_put 16 = .ok (.if_icmp .ne 6, 3) := by decide +kernel
theorem dX5_put_19 : decode cX5_put 19 = .ok (.bipush (-104), 2) := by decide +kernel
theorem dX5_put_21 : decode cX5_put 21 = .ok (.ireturn, 1) := by decide +kernel
theorem dX5_put_22 : decode cX5_put 22 = .ok (.aload_n 0, 1) := by decide +kernel
theorem dX5_put_23 : decode cX5_put 23 = .ok (.iconst 0, 1) := by decide +kernel
theorem dX5_put_24 : decode cX5_put 24 = .ok (.putfield 76, 3) := by decide +kernel
theorem dX5_put_27 : decode cX5_put 27 = .ok (.aload_n 0, 1) := by decide +kernel
theorem dX5_put_28 : decode cX5_put 28 = .ok (.iload_n 1, 1) := by decide +kernel
theorem dX5_put_29 : decode cX5_put 29 = .ok (.invokevirtual 91, 3) := by decide +kernel
theorem dX5_put_32 : decode cX5_put 32 = .ok (.aload_n 0, 1) := by decide +kernel
theorem dX5_put_33 : decode cX5_put 33 = .ok (.invokevirtual 131, 3) := by decide +kernel
theorem dX5_put_36 : decode cX5_put 36 = .ok (.aload_n 0, 1) := by decide +kernel
theorem dX5_put_37 : decode cX5_put 37 = .ok (.getfield 55, 3) := by decide +kernel
theorem dX5_put_40 : decode cX5_put 40 = .ok (.ireturn, 1) := by decide +kernel
theorem dX5_empty_0 : decode cX5_empty 0 = .ok (.aload_n 0, 1) := by decide +kernel
theorem dX5_empty_1 : decode cX5_empty 1 = .ok (.getfield 55, 3) := by decide +kernel
theorem dX5_empty_4 : decode cX5_empty 4 = .ok (.istore_n 1, 1) := by decide +kernel
theorem dX5_empty_5 : decode cX5_empty 5 = .ok (.aload_n 0, 1) := by decide +kernel
theorem dX5_empty_6 : decode cX5_empty 6 = .ok (.iconst 0, 1) := by decide +kernel
theorem dX5_empty_7 : decode cX5_empty 7 = .ok (.putfield 55, 3) := by decide +kernel
theorem dX5_empty_10 : decode cX5_empty 10 = .ok (.iload_n 1, 1) := by decide +kernel
theorem dX5_empty_11 : decode cX5_empty 11 = .ok (.ireturn, 1) := by decide +kernel
set_option maxRecDepth 20000 in
theorem ggX5_take_X5_isSlot : GoodIn wsX5_take wsX5_isSlot := goodIn_r _ [6, 7, 8, 9, 5, 10] (by decide +kernel) (by decide +kernel)
set_option maxRecDepth 20000 in
theorem gX5_take_X5_isSlot : GoodIn wsX5_take (va_wsS RX5 88 yX5_isSlot wsX5_isSlot) := goodIn_app (goodIn_of _ (by decide +kernel)) ggX5_take_X5_isSlot
set_option maxRecDepth 20000 in
theorem ggX5_take_X5_in : GoodIn wsX5_take wsX5_in := goodIn_r _ [10] (by decide +kernel) (by decide +kernel)
set_option maxRecDepth 20000 in
theorem gX5_take_X5_in : GoodIn wsX5_take (va_wsS RX5 58 yX5_in wsX5_in) := goodIn_app (goodIn_of _ (by decide +kernel)) ggX5_take_X5_in
set_option maxRecDepth 20000 in
theorem ggX5_take_X5_loadHeap : GoodIn wsX5_take wsX5_loadHeap := goodIn_r _ [14, 15, 16, 2, 17, 24, 25, 26, 27, 28, 29, 30, 31, 32, 33, 34, 35, 36, 37, 38, 39] (by decide +kernel) (by decide +kernel)
set_option maxRecDepth 20000 in
theorem gX5_take_X5_loadHeap : GoodIn wsX5_take (wsV RX5 134 RX5 yX5_loadHeap wsX5_loadHeap) := goodIn_app (goodIn_of _ (by decide +kernel)) ggX5_take_X5_loadHeap
set_option maxRecDepth 20000 in
theorem ggX5_take_X5_save : GoodIn wsX5_take wsX5_save := goodIn_r _ [21, 22, 2, 23, 16, 24, 25, 26, 27, 28, 29, 30, 31, 32, 33, 34, 35, 36, 37, 38, 39] (by decide +kernel) (by decide +kernel)
set_option maxRecDepth 20000 in
theorem gX5_take_X5_save : GoodIn wsX5_take (wsV RX5 95 RX5 yX5_save wsX5_save) := goodIn_app (goodIn_of _ (by decide +kernel)) ggX5_take_X5_save
theorem dX5_take_0 : decode cX5_take 0 = .ok (.iload_n 1, 1) := by decide +kernel
theorem dX5_take_1 : decode cX5_take 1 = .ok (.invokestatic 88, 3) := by decide +kernel
theorem dX5_take_4 : decode cX5_take 4 = .ok (.ifCond .eq 19, 3) := by decide +kernel
theorem dX5_take_7 : decode cX5_take 7 = .ok (.iload_n 2, 1) := by decide +kernel
theorem dX5_take_8 : decode cX5_take 8 = .ok (.i2l, 1) := by decide +kernel
theorem dX5_take_9 : decode cX5_take 9 = .ok (.lconst 0, 1) := by decide +kernel
theorem dX5_take_10 : decode cX5_take 10 = .ok (.aload_n 0, 1) := by decide +kernel
theorem dX5_take_11 : decode cX5_take 11 = .ok (.getfield 55, 3) := by decide +kernel
theorem dX5_take_14 : decode cX5_take 14 = .ok (.iconst 1, 1) := by decide +kernel
theorem dX5_take_15 : decode cX5_take 15 = .ok (.isub, 1) := by decide +kernel
theorem dX5_take_16 : decode cX5_take 16 = .ok (.i2l, 1) := by decide +kernel
theorem dX5_take_17 : decode cX5_take 17 = .ok (.invokestatic 58, 3) := by decide +kernel
theorem dX5_take_20 : decode cX5_take 20 = .ok (.ifCond .ne 6, 3) := by decide +kernel
theorem dX5_take_23 : decode cX5_take 23 = .ok (.bipush (-101), 2) := by decide +kernel
theorem dX5_take_25 : decode cX5_take 25 = .ok (.ireturn, 1) := by decide +kernel
theorem dX5_take_26 : decode cX5_take 26 = .ok (.aload_n 0, 1) := by decide +kernel
theorem dX5_take_27 : decode cX5_take 27 = .ok (.iconst 0, 1) := by decide +kernel
theorem dX5_take_28 : decode cX5_take 28 = .ok (.putfield 76, 3) := by decide +kernel
theorem dX5_take_31 : decode cX5_take 31 = .ok (.aload_n 0, 1) := by decide +kernel
theorem dX5_take_32 : decode cX5_take 32 = .ok (.iload_n 2, 1) := by decide +kernel
theorem dX5_take_33 : decode cX5_take 33 = .ok (.invokevirtual 134, 3) := by decide +kernel
theorem dX5_take_36 : decode cX5_take 36 = .ok (.aload_n 0, 1) := by decide +kernel
theorem dX5_take_37 : decode cX5_take 37 = .ok (.iload_n 1, 1) := by decide +kernel
theorem dX5_take_38 : decode cX5_take 38 = .ok (.invokevirtual 95, 3) := by decide +kernel
theorem dX5_take_41 : decode cX5_take 41 = .ok (.ireturn, 1) := by decide +kernel
set_option maxRecDepth 20000 in
theorem ggX5_least_X5_loadHeap : GoodIn wsX5_least wsX5_loadHeap := goodIn_r _ [8, 3, 9, 2, 10, 28, 29, 30, 31, 32, 33, 34, 35, 36, 37, 38, 39, 40, 41, 42, 43] (by decide +kernel) (by decide +kernel)
set_option maxRecDepth 20000 in
theorem gX5_least_X5_loadHeap : GoodIn wsX5_least (wsV RX5 134 RX5 yX5_loadHeap wsX5_loadHeap) := goodIn_app (goodIn_of _ (by decide +kernel)) ggX5_least_X5_loadHeap
set_option maxRecDepth 20000 in
theorem ggX5_least_X5_settle : GoodIn wsX5_least wsX5_settle := goodIn_r _ [14, 15, 2, 9, 16, 17, 18, 19, 7, 20, 21, 22, 23, 24, 25, 26, 27, 28, 29, 30, 31, 32, 33, 34, 35, 36, 37, 38, 39, 40, 41, 42, 43] (by decide +kernel) (by decide +kernel)
set_option maxRecDepth 20000 in
theorem gX5_least_X5_settle : GoodIn wsX5_least (wsV RX5 83 RX5 yX5_settle wsX5_settle) := goodIn_app (goodIn_of _ (by decide +kernel)) ggX5_least_X5_settle
theorem dX5_least_0 : decode cX5_least 0 = .ok (.iconst (-1), 1) := by decide +kernel
theorem dX5_least_1 : decode cX5_least 1 = .ok (.istore_n 1, 1) := by decide +kernel
theorem dX5_least_2 : decode cX5_least 2 = .ok (.iconst 0, 1) := by decide +kernel
theorem dX5_least_3 : decode cX5_least 3 = .ok (.istore_n 2, 1) := by decide +kernel
theorem dX5_least_4 : decode cX5_least 4 = .ok (.iload_n 2, 1) := by decide +kernel
theorem dX5_least_5 : decode cX5_least 5 = .ok (.aload_n 0, 1) := by decide +kernel
theorem dX5_least_6 : decode cX5_least 6 = .ok (.getfield 55, 3) := by decide +kernel
theorem dX5_least_9 : decode cX5_least 9 = .ok (.if_icmp .ge 81, 3) := by decide +kernel
theorem dX5_least_12 : decode cX5_least 12 = .ok (.iconst 0, 1) := by decide +kernel
theorem dX5_least_13 : decode cX5_least 13 = .ok (.istore_n 3, 1) := by decide +kernel
theorem dX5_least_14 : decode cX5_least 14 = .ok (.iload_n 3, 1) := by decide +kernel
theorem dX5_least_15 : decode cX5_least 15 = .ok (.iload_n 2, 1) := by decide +kernel
theorem dX5_least_16 : decode cX5_least 16 = .ok (.if_icmp .ge 68, 3) := by decide +kernel
theorem dX5_least_19 : decode cX5_least 19 = .ok (.aload_n 0, 1) := by decide +kernel
theorem dX5_least_20 : decode cX5_least 20 = .ok (.iconst 0, 1) := by decide +kernel
theorem dX5_least_21 : decode cX5_least 21 = .ok (.putfield 76, 3) := by decide +kernel
theorem dX5_least_24 : decode cX5_least 24 = .ok (.aload_n 0, 1) := by decide +kernel
theorem dX5_least_25 : decode cX5_least 25 = .ok (.iload_n 2, 1) := by decide +kernel
theorem dX5_least_26 : decode cX5_least 26 = .ok (.invokevirtual 134, 3) := by decide +kernel
theorem dX5_least_29 : decode cX5_least 29 = .ok (.aload_n 0, 1) := by decide +kernel
theorem dX5_least_30 : decode cX5_least 30 = .ok (.iload_n 3, 1) := by decide +kernel
theorem dX5_least_31 : decode cX5_least 31 = .ok (.invokevirtual 134, 3) := by decide +kernel
theorem dX5_least_34 : decode cX5_least 34 = .ok (.aload_n 0, 1) := by decide +kernel
theorem dX5_least_35 : decode cX5_least 35 = .ok (.invokevirtual 83, 3) := by decide +kernel
theorem dX5_least_38 : decode cX5_least 38 = .ok (.iconst 2, 1) := by decide +kernel
theorem dX5_least_39 : decode cX5_least 39 = .ok (.aload_n 0, 1) := by decide +kernel
theorem dX5_least_40 : decode cX5_least 40 = .ok (.getfield 76, 3) := by decide +kernel
theorem dX5_least_43 : decode cX5_least 43 = .ok (.imul, 1) := by decide +kernel
theorem dX5_least_44 : decode cX5_least 44 = .ok (.aload_n 0, 1) := by decide +kernel
theorem dX5_least_45 : decode cX5_least 45 = .ok (.getfield 32, 3) := by decide +kernel
theorem dX5_least_48 : decode cX5_least 48 = .ok (.iload_n 2, 1) := by decide +kernel
theorem dX5_least_49 : decode cX5_least 49 = .ok (.iaload, 1) := by decide +kernel
theorem dX5_least_50 : decode cX5_least 50 = .ok (.isub, 1) := by decide +kernel
theorem dX5_least_51 : decode cX5_least 51 = .ok (.aload_n 0, 1) := by decide +kernel
theorem dX5_least_52 : decode cX5_least 52 = .ok (.getfield 32, 3) := by decide +kernel
theorem dX5_least_55 : decode cX5_least 55 = .ok (.iload_n 3, 1) := by decide +kernel
theorem dX5_least_56 : decode cX5_least 56 = .ok (.iaload, 1) := by decide +kernel
theorem dX5_least_57 : decode cX5_least 57 = .ok (.isub, 1) := by decide +kernel
theorem dX5_least_58 : decode cX5_least 58 = .ok (.istore 4, 2) := by decide +kernel
theorem dX5_least_60 : decode cX5_least 60 = .ok (.iload_n 1, 1) := by decide +kernel
theorem dX5_least_61 : decode cX5_least 61 = .ok (.iconst (-1), 1) := by decide +kernel
theorem dX5_least_62 : decode cX5_least 62 = .ok (.if_icmp .eq 9, 3) := by decide +kernel
theorem dX5_least_65 : decode cX5_least 65 = .ok (.iload 4, 2) := by decide +kernel
theorem dX5_least_67 : decode cX5_least 67 = .ok (.iload_n 1, 1) := by decide +kernel
theorem dX5_least_68 : decode cX5_least 68 = .ok (.if_icmp .ge 8, 3) := by decide +kernel
theorem dX5_least_71 : decode cX5_least 71 = .ok (.iload 4, 2) := by decide +kernel
theorem dX5_least_73 : decode cX5_least 73 = .ok (.goto 4, 3) := by decide +kernel
theorem dX5_least_76 : decode cX5_least 76 = .ok (.iload_n 1, 1) := by decide +kernel
theorem dX5_least_77 : decode cX5_least 77 = .ok (.istore_n 1, 1) := by decide +kernel
theorem dX5_least_78 : decode cX5_least 78 = .ok (.iinc 3 1, 3) := by decide +kernel
theorem dX5_least_81 : decode cX5_least 81 = .ok (.goto (-67), 3) := by decide +kernel
theorem dX5_least_84 : decode cX5_least 84 = .ok (.iinc 2 1, 3) := by decide +kernel
theorem dX5_least_87 : decode cX5_least 87 = .ok (.goto (-83), 3) := by decide +kernel
theorem dX5_least_90 : decode cX5_least 90 = .ok (.iload_n 1, 1) := by decide +kernel
theorem dX5_least_91 : decode cX5_least 91 = .ok (.ireturn, 1) := by decide +kernel
set_option maxRecDepth 20000 in
theorem ggX5_bare_X5_pivot : GoodIn wsX5_bare wsX5_pivot := goodIn_r _ [10, 11, 12, 13, 9, 14, 5, 15, 16, 17, 18, 23, 24, 25, 26, 27, 28, 29, 30, 31, 32, 33, 34, 35, 36, 37, 38] (by decide +kernel) (by decide +kernel)
set_option maxRecDepth 20000 in
theorem gX5_bare_X5_pivot : GoodIn wsX5_bare (wsV RX5 79 RX5 yX5_pivot wsX5_pivot) := goodIn_app (goodIn_of _ (by decide +kernel)) ggX5_bare_X5_pivot
set_option maxRecDepth 20000 in
theorem ggX5_bare_X5_figure : GoodIn wsX5_bare wsX5_figure := goodIn_r _ [14, 5, 15, 16, 17, 9, 18, 23, 24, 25, 26, 27, 28, 29, 30, 31, 32, 33, 34, 35, 36, 37, 38] (by decide +kernel) (by decide +kernel)
set_option maxRecDepth 20000 in
theorem gX5_bare_X5_figure : GoodIn wsX5_bare (wsV RX5 62 RX5 yX5_figure wsX5_figure) := goodIn_app (goodIn_of _ (by decide +kernel)) ggX5_bare_X5_figure
set_option maxRecDepth 20000 in
theorem ggX5_bare_X5_sum : GoodIn wsX5_bare wsX5_sum := goodIn_r _ [22, 15, 5, 11, 12, 13, 9, 14, 16, 17, 18, 23, 24, 25, 26, 27, 28, 29, 30, 31, 32, 33, 34, 35, 36, 37, 38] (by decide +kernel) (by decide +kernel)
set_option maxRecDepth 20000 in
theorem gX5_bare_X5_sum : GoodIn wsX5_bare (wsV RX5 69 RX5 yX5_sum wsX5_sum) := goodIn_app (goodIn_of _ (by decide +kernel)) ggX5_bare_X5_sum
theorem dX5_bare_0 : decode cX5_bare 0 = .ok (.iconst 0, 1) := by decide +kernel
theorem dX5_bare_1 : decode cX5_bare 1 = .ok (.istore_n 1, 1) := by decide +kernel
theorem dX5_bare_2 : decode cX5_bare 2 = .ok (.iconst 0, 1) := by decide +kernel
theorem dX5_bare_3 : decode cX5_bare 3 = .ok (.istore_n 2, 1) := by decide +kernel
theorem dX5_bare_4 : decode cX5_bare 4 = .ok (.iload_n 2, 1) := by decide +kernel
theorem dX5_bare_5 : decode cX5_bare 5 = .ok (.aload_n 0, 1) := by decide +kernel
theorem dX5_bare_6 : decode cX5_bare 6 = .ok (.getfield 52, 3) := by decide +kernel
theorem dX5_bare_9 : decode cX5_bare 9 = .ok (.if_icmp .ge 127, 3) := by decide +kernel
theorem dX5_bare_12 : decode cX5_bare 12 = .ok (.iconst 1, 1) := by decide +kernel
theorem dX5_bare_13 : decode cX5_bare 13 = .ok (.istore_n 3, 1) := by decide +kernel
theorem dX5_bare_14 : decode cX5_bare 14 = .ok (.iconst 0, 1) := by decide +kernel
theorem dX5_bare_15 : decode cX5_bare 15 = .ok (.istore 4, 2) := by decide +kernel
theorem dX5_bare_17 : decode cX5_bare 17 = .ok (.iload 4, 2) := by decide +kernel
theorem dX5_bare_19 : decode cX5_bare 19 = .ok (.aload_n 0, 1) := by decide +kernel
theorem dX5_bare_20 : decode cX5_bare 20 = .ok (.getfield 55, 3) := by decide +kernel
theorem dX5_bare_23 : decode cX5_bare 23 = .ok (.if_icmp .ge 95, 3) := by decide +kernel
theorem dX5_bare_26 : decode cX5_bare 26 = .ok (.iload_n 3, 1) := by decide +kernel
theorem dX5_bare_27 : decode cX5_bare 27 = .ok (.ifCond .eq 91, 3) := by decide +kernel
theorem dX5_bare_30 : decode cX5_bare 30 = .ok (.iload_n 2, 1) := by decide +kernel
theorem dX5_bare_31 : decode cX5_bare 31 = .ok (.istore 5, 2) := by decide +kernel
theorem dX5_bare_33 : decode cX5_bare 33 = .ok (.iconst 0, 1) := by decide +kernel
theorem dX5_bare_34 : decode cX5_bare 34 = .ok (.istore 6, 2) := by decide +kernel
theorem dX5_bare_36 : decode cX5_bare 36 = .ok (.iload 6, 2) := by decide +kernel
theorem dX5_bare_38 : decode cX5_bare 38 = .ok (.aload_n 0, 1) := by decide +kernel
theorem dX5_bare_39 : decode cX5_bare 39 = .ok (.getfield 32, 3) := by decide +kernel
theorem dX5_bare_42 : decode cX5_bare 42 = .ok (.iload 4, 2) := by decide +kernel
theorem dX5_bare_44 : decode cX5_bare 44 = .ok (.iaload, 1) := by decide +kernel
theorem dX5_bare_45 : decode cX5_bare 45 = .ok (.if_icmp .ge 56, 3) := by decide +kernel
theorem dX5_bare_48 : decode cX5_bare 48 = .ok (.aload_n 0, 1) := by decide +kernel
theorem dX5_bare_49 : decode cX5_bare 49 = .ok (.getfield 35, 3) := by decide +kernel
theorem dX5_bare_52 : decode cX5_bare 52 = .ok (.bipush 6, 2) := by decide +kernel
theorem dX5_bare_54 : decode cX5_bare 54 = .ok (.iload 4, 2) := by decide +kernel
theorem dX5_bare_56 : decode cX5_bare 56 = .ok (.imul, 1) := by decide +kernel
theorem dX5_bare_57 : decode cX5_bare 57 = .ok (.iload 6, 2) := by decide +kernel
theorem dX5_bare_59 : decode cX5_bare 59 = .ok (.iadd, 1) := by decide +kernel
theorem dX5_bare_60 : decode cX5_bare 60 = .ok (.iaload, 1) := by decide +kernel
theorem dX5_bare_61 : decode cX5_bare 61 = .ok (.istore 7, 2) := by decide +kernel
theorem dX5_bare_63 : decode cX5_bare 63 = .ok (.aload_n 0, 1) := by decide +kernel
theorem dX5_bare_64 : decode cX5_bare 64 = .ok (.iload 5, 2) := by decide +kernel
theorem dX5_bare_66 : decode cX5_bare 66 = .ok (.iload 7, 2) := by decide +kernel
theorem dX5_bare_68 : decode cX5_bare 68 = .ok (.aload_n 0, 1) := by decide +kernel
theorem dX5_bare_69 : decode cX5_bare 69 = .ok (.getfield 38, 3) := by decide +kernel
theorem dX5_bare_72 : decode cX5_bare 72 = .ok (.aload_n 0, 1) := by decide +kernel
theorem dX5_bare_73 : decode cX5_bare 73 = .ok (.iload 5, 2) := by decide +kernel
theorem dX5_bare_75 : decode cX5_bare 75 = .ok (.aload_n 0, 1) := by decide +kernel
theorem dX5_bare_76 : decode cX5_bare 76 = .ok (.iload 7, 2) := by decide +kernel
theorem dX5_bare_78 : decode cX5_bare 78 = .ok (.invokevirtual 79, 3) := by decide +kernel
theorem dX5_bare_81 : decode cX5_bare 81 = .ok (.invokevirtual 62, 3) := by decide +kernel
theorem dX5_bare_84 : decode cX5_bare 84 = .ok (.isub, 1) := by decide +kernel
theorem dX5_bare_85 : decode cX5_bare 85 = .ok (.aload_n 0, 1) := by decide +kernel
theorem dX5_bare_86 : decode cX5_bare 86 = .ok (.getfield 38, 3) := by decide +kernel
theorem dX5_bare_89 : decode cX5_bare 89 = .ok (.irem, 1) := by decide +kernel
theorem dX5_bare_90 : decode cX5_bare 90 = .ok (.invokevirtual 69, 3) := by decide +kernel
theorem dX5_bare_93 : decode cX5_bare 93 = .ok (.istore 5, 2) := by decide +kernel
theorem dX5_bare_95 : decode cX5_bare 95 = .ok (.iinc 6 1, 3) := by decide +kernel
theorem dX5_bare_98 : decode cX5_bare 98 = .ok (.goto (-62), 3) := by decide +kernel
theorem dX5_bare_101 : decode cX5_bare 101 = .ok (.iload 5, 2) := by decide +kernel
theorem dX5_bare_103 : decode cX5_bare 103 = .ok (.ifCond .eq 7, 3) := by decide +kernel
theorem dX5_bare_106 : decode cX5_bare 106 = .ok (.iconst 1, 1) := by decide +kernel
theorem dX5_bare_107 : decode cX5_bare 107 = .ok (.goto 4, 3) := by decide +kernel
theorem dX5_bare_110 : decode cX5_bare 110 = .ok (.iconst 0, 1) := by decide +kernel
theorem dX5_bare_111 : decode cX5_bare 111 = .ok (.istore_n 3, 1) := by decide +kernel
theorem dX5_bare_112 : decode cX5_bare 112 = .ok (.iinc 4 1, 3) := by decide +kernel
theorem dX5_bare_115 : decode cX5_bare 115 = .ok (.goto (-98), 3) := by decide +kernel
theorem dX5_bare_118 : decode cX5_bare 118 = .ok (.iload_n 1, 1) := by decide +kernel
theorem dX5_bare_119 : decode cX5_bare 119 = .ok (.iload_n 3, 1) := by decide +kernel
theorem dX5_bare_120 : decode cX5_bare 120 = .ok (.ifCond .eq 7, 3) := by decide +kernel
theorem dX5_bare_123 : decode cX5_bare 123 = .ok (.iconst 1, 1) := by decide +kernel
theorem dX5_bare_124 : decode cX5_bare 124 = .ok (.goto 4, 3) := by decide +kernel
theorem dX5_bare_127 : decode cX5_bare 127 = .ok (.iconst 0, 1) := by decide +kernel
theorem dX5_bare_128 : decode cX5_bare 128 = .ok (.iadd, 1) := by decide +kernel
theorem dX5_bare_129 : decode cX5_bare 129 = .ok (.istore_n 1, 1) := by decide +kernel
theorem dX5_bare_130 : decode cX5_bare 130 = .ok (.iinc 2 1, 3) := by decide +kernel
theorem dX5_bare_133 : decode cX5_bare 133 = .ok (.goto (-129), 3) := by decide +kernel
theorem dX5_bare_136 : decode cX5_bare 136 = .ok (.iload_n 1, 1) := by decide +kernel
theorem dX5_bare_137 : decode cX5_bare 137 = .ok (.ireturn, 1) := by decide +kernel
set_option maxRecDepth 20000 in
theorem ggX5_greedy_X5_in : GoodIn wsX5_greedy wsX5_in := goodIn_r _ [9] (by decide +kernel) (by decide +kernel)
set_option maxRecDepth 20000 in
theorem gX5_greedy_X5_in : GoodIn wsX5_greedy (va_wsS RX5 58 yX5_in wsX5_in) := goodIn_app (goodIn_of _ (by decide +kernel)) ggX5_greedy_X5_in
set_option maxRecDepth 20000 in
theorem ggX5_greedy_X5_gauss : GoodIn wsX5_greedy wsX5_gauss := goodIn_r _ [13, 14, 6, 7, 8, 9, 15, 16, 17, 62, 63, 64, 65, 66, 67, 68, 69, 70, 71, 72, 73, 74, 75, 76, 77] (by decide +kernel) (by decide +kernel)
set_option maxRecDepth 20000 in
theorem gX5_greedy_X5_gauss : GoodIn wsX5_greedy (wsV RX5 112 RX5 yX5_gauss wsX5_gauss) := goodIn_app (goodIn_of _ (by decide +kernel)) ggX5_greedy_X5_gauss
set_option maxRecDepth 20000 in
theorem ggX5_greedy_X5_lay : GoodIn wsX5_greedy wsX5_lay := goodIn_r _ [21, 14, 5, 1, 22, 23, 24, 25, 26, 8, 27, 28, 29, 30, 31, 15, 16, 17, 32, 33, 34, 35, 36, 37, 38, 39, 62, 63, 64, 65, 66, 67, 68, 69, 70, 71, 72, 73, 74, 75, 76, 77] (by decide +kernel) (by decide +kernel)
set_option maxRecDepth 20000 in
theorem gX5_greedy_X5_lay : GoodIn wsX5_greedy (wsV RX5 127 RX5 yX5_lay wsX5_lay) := goodIn_app (goodIn_of _ (by decide +kernel)) ggX5_greedy_X5_lay
set_option maxRecDepth 20000 in
theorem ggX5_greedy_X5_loadHeap : GoodIn wsX5_greedy wsX5_loadHeap := goodIn_r _ [43, 44, 23, 5, 45, 62, 63, 64, 65, 66, 67, 68, 69, 70, 71, 72, 73, 74, 75, 76, 77] (by decide +kernel) (by decide +kernel)
set_option maxRecDepth 20000 in
theorem gX5_greedy_X5_loadHeap : GoodIn wsX5_greedy (wsV RX5 134 RX5 yX5_loadHeap wsX5_loadHeap) := goodIn_app (goodIn_of _ (by decide +kernel)) ggX5_greedy_X5_loadHeap
set_option maxRecDepth 20000 in
theorem ggX5_greedy_X5_settle : GoodIn wsX5_greedy wsX5_settle := goodIn_r _ [49, 1, 5, 23, 14, 50, 51, 52, 8, 53, 15, 16, 17, 54, 55, 56, 57, 62, 63, 64, 65, 66, 67, 68, 69, 70, 71, 72, 73, 74, 75, 76, 77] (by decide +kernel) (by decide +kernel)
set_option maxRecDepth 20000 in
theorem gX5_greedy_X5_settle : GoodIn wsX5_greedy (wsV RX5 83 RX5 yX5_settle wsX5_settle) := goodIn_app (goodIn_of _ (by decide +kernel)) ggX5_greedy_X5_settle
set_option maxRecDepth 20000 in
theorem ggX5_greedy_X5_toHeap : GoodIn wsX5_greedy wsX5_toHeap := goodIn_r _ [61, 44, 4, 5, 45, 23, 62, 63, 64, 65, 66, 67, 68, 69, 70, 71, 72, 73, 74, 75, 76, 77] (by decide +kernel) (by decide +kernel)
set_option maxRecDepth 20000 in
theorem gX5_greedy_X5_toHeap : GoodIn wsX5_greedy (wsV RX5 131 RX5 yX5_toHeap wsX5_toHeap) := goodIn_app (goodIn_of _ (by decide +kernel)) ggX5_greedy_X5_toHeap
theorem dX5_greedy_0 : decode cX5_greedy 0 = .ok (.iload_n 1, 1) := by decide +kernel
theorem dX5_greedy_1 : decode cX5_greedy 1 = .ok (.i2l, 1) := by decide +kernel
theorem dX5_greedy_2 : decode cX5_greedy 2 = .ok (.lconst 0, 1) := by decide +kernel
theorem dX5_greedy_3 : decode cX5_greedy 3 = .ok (.aload_n 0, 1) := by decide +kernel
theorem dX5_greedy_4 : decode cX5_greedy 4 = .ok (.getfield 42, 3) := by decide +kernel
theorem dX5_greedy_7 : decode cX5_greedy 7 = .ok (.i2l, 1) := by decide +kernel
theorem dX5_greedy_8 : decode cX5_greedy 8 = .ok (.invokestatic 58, 3) := by decide +kernel
theorem dX5_greedy_11 : decode cX5_greedy 11 = .ok (.ifCond .eq 15, 3) := by decide +kernel
theorem dX5_greedy_14 : decode cX5_greedy 14 = .ok (.iload_n 2, 1) := by decide +kernel
theorem dX5_greedy_15 : decode cX5_greedy 15 = .ok (.i2l, 1) := by decide +kernel
theorem dX5_greedy_16 : decode cX5_greedy 16 = .ok (.lconst 1, 1) := by decide +kernel
theorem dX5_greedy_17 : decode cX5_greedy 17 = .ok (.ldc2_w 137, 3) := by decide +kernel
theorem dX5_greedy_20 : decode cX5_greedy 20 = .ok (.invokestatic 58, 3) := by decide +kernel
theorem dX5_greedy_23 : decode cX5_greedy 23 = .ok (.ifCond .ne 6, 3) := by decide +kernel
theorem dX5_greedy_26 : decode cX5_greedy 26 = .ok (.bipush (-102), 2) := by decide +kernel
theorem dX5_greedy_28 : decode cX5_greedy 28 = .ok (.ireturn, 1) := by decide +kernel
theorem dX5_greedy_29 : decode cX5_greedy 29 = .ok (.aload_n 0, 1) := by decide +kernel
theorem dX5_greedy_30 : decode cX5_greedy 30 = .ok (.getfield 139, 3) := by decide +kernel
theorem dX5_greedy_33 : decode cX5_greedy 33 = .ok (.bipush 10, 2) := by decide +kernel
theorem dX5_greedy_35 : decode cX5_greedy 35 = .ok (.if_icmp .ne 6, 3) := by decide +kernel
theorem dX5_greedy_38 : decode cX5_greedy 38 = .ok (.bipush (-103), 2) := by decide +kernel
theorem dX5_greedy_40 : decode cX5_greedy 40 = .ok (.ireturn, 1) := by decide +kernel
theorem dX5_greedy_41 : decode cX5_greedy 41 = .ok (.aload_n 0, 1) := by decide +kernel
theorem dX5_greedy_42 : decode cX5_greedy 42 = .ok (.dup, 1) := by decide +kernel
theorem dX5_greedy_43 : decode cX5_greedy 43 = .ok (.getfield 139, 3) := by decide +kernel
theorem dX5_greedy_46 : decode cX5_greedy 46 = .ok (.iconst 1, 1) := by decide +kernel
theorem dX5_greedy_47 : decode cX5_greedy 47 = .ok (.iadd, 1) := by decide +kernel
theorem dX5_greedy_48 : decode cX5_greedy 48 = .ok (.putfield 139, 3) := by decide +kernel
theorem dX5_greedy_51 : decode cX5_greedy 51 = .ok (.aload_n 0, 1) := by decide +kernel
theorem dX5_greedy_52 : decode cX5_greedy 52 = .ok (.iconst 0, 1) := by decide +kernel
theorem dX5_greedy_53 : decode cX5_greedy 53 = .ok (.putfield 55, 3) := by decide +kernel
theorem dX5_greedy_56 : decode cX5_greedy 56 = .ok (.aload_n 0, 1) := by decide +kernel
theorem dX5_greedy_57 : decode cX5_greedy 57 = .ok (.aload_n 0, 1) := by decide +kernel
theorem dX5_greedy_58 : decode cX5_greedy 58 = .ok (.getfield 42, 3) := by decide +kernel
theorem dX5_greedy_61 : decode cX5_greedy 61 = .ok (.iload_n 1, 1) := by decide +kernel
theorem dX5_greedy_62 : decode cX5_greedy 62 = .ok (.invokevirtual 112, 3) := by decide +kernel
