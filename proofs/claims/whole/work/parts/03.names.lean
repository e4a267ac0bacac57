theorem dX7_keep_57 : decode cX7_keep 57 = .ok (.aload_n 0, 1) := by decide +kernel
theorem dX7_keep_58 : decode cX7_keep 58 = .ok (.getfield 29, 3) := by decide +kernel
theorem dX7_keep_61 : decode cX7_keep 61 = .ok (.iload 4, 2) := by decide +kernel
theorem dX7_keep_63 : decode cX7_keep 63 = .ok (.laload, 1) := by decide +kernel
theorem dX7_keep_64 : decode cX7_keep 64 = .ok (.lastore, 1) := by decide +kernel
theorem dX7_keep_65 : decode cX7_keep 65 = .ok (.iinc 4 1, 3) := by decide +kernel
theorem dX7_keep_68 : decode cX7_keep 68 = .ok (.goto (-31), 3) := by decide +kernel
theorem dX7_keep_71 : decode cX7_keep 71 = .ok (.aload_n 0, 1) := by decide +kernel
theorem dX7_keep_72 : decode cX7_keep 72 = .ok (.getfield 103, 3) := by decide +kernel
theorem dX7_keep_75 : decode cX7_keep 75 = .ok (.ireturn, 1) := by decide +kernel
theorem dX7_add_0 : decode cX7_add 0 = .ok (.aload_n 0, 1) := by decide +kernel
theorem dX7_add_1 : decode cX7_add 1 = .ok (.getfield 29, 3) := by decide +kernel
theorem dX7_add_4 : decode cX7_add 4 = .ok (.aload_n 0, 1) := by decide +kernel
theorem dX7_add_5 : decode cX7_add 5 = .ok (.getfield 106, 3) := by decide +kernel
theorem dX7_add_8 : decode cX7_add 8 = .ok (.lload_n 1, 1) := by decide +kernel
theorem dX7_add_9 : decode cX7_add 9 = .ok (.lastore, 1) := by decide +kernel
theorem dX7_add_10 : decode cX7_add 10 = .ok (.aload_n 0, 1) := by decide +kernel
theorem dX7_add_11 : decode cX7_add 11 = .ok (.dup, 1) := by decide +kernel
theorem dX7_add_12 : decode cX7_add 12 = .ok (.getfield 106, 3) := by decide +kernel
theorem dX7_add_15 : decode cX7_add 15 = .ok (.iconst 1, 1) := by decide +kernel
theorem dX7_add_16 : decode cX7_add 16 = .ok (.iadd, 1) := by decide +kernel
theorem dX7_add_17 : decode cX7_add 17 = .ok (.putfield 106, 3) := by decide +kernel
theorem dX7_add_20 : decode cX7_add 20 = .ok (.return_, 1) := by decide +kernel
set_option maxRecDepth 20000 in
theorem ggX7_world_X7_isNumber : GoodIn wsX7_world wsX7_isNumber := goodIn_r _ [6, 7, 8, 5, 9] (by decide +kernel) (by decide +kernel)
set_option maxRecDepth 20000 in
theorem gX7_world_X7_isNumber : GoodIn wsX7_world (va_wsS RX7 95 yX7_isNumber wsX7_isNumber) := goodIn_app (goodIn_of _ (by decide +kernel)) ggX7_world_X7_isNumber
set_option maxRecDepth 20000 in
theorem ggX7_world_X7_in : GoodIn wsX7_world wsX7_in := goodIn_r _ [9] (by decide +kernel) (by decide +kernel)
set_option maxRecDepth 20000 in
theorem gX7_world_X7_in : GoodIn wsX7_world (va_wsS RX7 91 yX7_in wsX7_in) := goodIn_app (goodIn_of _ (by decide +kernel)) ggX7_world_X7_in
set_option maxRecDepth 20000 in
theorem ggX7_world_X7_keep : GoodIn wsX7_world wsX7_keep := goodIn_r _ [13, 14, 1, 15, 2, 16, 17, 18, 19, 20, 21, 22, 23, 24, 25, 26, 27, 28, 29, 30, 31, 32, 33, 34, 35, 36, 37, 38, 39, 40, 41, 42, 43, 44, 45, 46, 47, 48, 49, 50, 51, 52] (by decide +kernel) (by decide +kernel)
set_option maxRecDepth 20000 in
theorem gX7_world_X7_keep : GoodIn wsX7_world (wsV RX7 109 RX7 yX7_keep wsX7_keep) := goodIn_app (goodIn_of _ (by decide +kernel)) ggX7_world_X7_keep
theorem dX7_world_0 : decode cX7_world 0 = .ok (.iload_n 1, 1) := by decide +kernel
theorem dX7_world_1 : decode cX7_world 1 = .ok (.invokestatic 95, 3) := by decide +kernel
theorem dX7_world_4 : decode cX7_world 4 = .ok (.ifCond .eq 13, 3) := by decide +kernel
theorem dX7_world_7 : decode cX7_world 7 = .ok (.iload_n 2, 1) := by decide +kernel
theorem dX7_world_8 : decode cX7_world 8 = .ok (.iconst 2, 1) := by decide +kernel
theorem dX7_world_9 : decode cX7_world 9 = .ok (.bipush 45, 2) := by decide +kernel
theorem dX7_world_11 : decode cX7_world 11 = .ok (.invokestatic 91, 3) := by decide +kernel
theorem dX7_world_14 : decode cX7_world 14 = .ok (.ifCond .ne 5, 3) := by decide +kernel
theorem dX7_world_17 : decode cX7_world 17 = .ok (.iconst (-1), 1) := by decide +kernel
theorem dX7_world_18 : decode cX7_world 18 = .ok (.ireturn, 1) := by decide +kernel
theorem dX7_world_19 : decode cX7_world 19 = .ok (.aload_n 0, 1) := by decide +kernel
theorem dX7_world_20 : decode cX7_world 20 = .ok (.iload_n 2, 1) := by decide +kernel
theorem dX7_world_21 : decode cX7_world 21 = .ok (.putfield 103, 3) := by decide +kernel
theorem dX7_world_24 : decode cX7_world 24 = .ok (.aload_n 0, 1) := by decide +kernel
theorem dX7_world_25 : decode cX7_world 25 = .ok (.iconst 0, 1) := by decide +kernel
theorem dX7_world_26 : decode cX7_world 26 = .ok (.putfield 106, 3) := by decide +kernel
theorem dX7_world_29 : decode cX7_world 29 = .ok (.aload_n 0, 1) := by decide +kernel
theorem dX7_world_30 : decode cX7_world 30 = .ok (.iload_n 1, 1) := by decide +kernel
theorem dX7_world_31 : decode cX7_world 31 = .ok (.iconst 0, 1) := by decide +kernel
theorem dX7_world_32 : decode cX7_world 32 = .ok (.iconst 0, 1) := by decide +kernel
theorem dX7_world_33 : decode cX7_world 33 = .ok (.invokevirtual 109, 3) := by decide +kernel
theorem dX7_world_36 : decode cX7_world 36 = .ok (.ireturn, 1) := by decide +kernel
set_option maxRecDepth 20000 in
theorem ggX7_line_X7_isNumber : GoodIn wsX7_line wsX7_isNumber := goodIn_r _ [10, 11, 12, 9, 13] (by decide +kernel) (by decide +kernel)
set_option maxRecDepth 20000 in
theorem gX7_line_X7_isNumber : GoodIn wsX7_line (va_wsS RX7 95 yX7_isNumber wsX7_isNumber) := goodIn_app (goodIn_of _ (by decide +kernel)) ggX7_line_X7_isNumber
set_option maxRecDepth 20000 in
theorem ggX7_line_X7_isRow : GoodIn wsX7_line wsX7_isRow := goodIn_r _ [16, 11, 12, 9, 13] (by decide +kernel) (by decide +kernel)
set_option maxRecDepth 20000 in
theorem gX7_line_X7_isRow : GoodIn wsX7_line (va_wsS RX7 113 yX7_isRow wsX7_isRow) := goodIn_app (goodIn_of _ (by decide +kernel)) ggX7_line_X7_isRow
set_option maxRecDepth 20000 in
theorem ggX7_line_X7_meets : GoodIn wsX7_line wsX7_meets := goodIn_r _ [20, 21, 22, 26, 27, 28, 29, 30, 31, 32, 33, 34, 35, 36, 37, 38, 39, 40, 41, 42, 43, 44, 45, 46, 47, 48, 49, 50, 51, 52, 53, 54, 55, 56, 57, 58] (by decide +kernel) (by decide +kernel)
set_option maxRecDepth 20000 in
theorem gX7_line_X7_meets : GoodIn wsX7_line (wsV RX7 99 RX7 yX7_meets wsX7_meets) := goodIn_app (goodIn_of _ (by decide +kernel)) ggX7_line_X7_meets
set_option maxRecDepth 20000 in
theorem ggX7_line_X7_in : GoodIn wsX7_line wsX7_in := goodIn_r _ [13] (by decide +kernel) (by decide +kernel)
set_option maxRecDepth 20000 in
theorem gX7_line_X7_in : GoodIn wsX7_line (va_wsS RX7 91 yX7_in wsX7_in) := goodIn_app (goodIn_of _ (by decide +kernel)) ggX7_line_X7_in
set_option maxRecDepth 20000 in
theorem ggX7_line_X7_bits : GoodIn wsX7_line wsX7_bits := goodIn_r _ [25] (by decide +kernel) (by decide +kernel)
set_option maxRecDepth 20000 in
theorem gX7_line_X7_bits : GoodIn wsX7_line (va_wsS RX7 116 yX7_bits wsX7_bits) := goodIn_app (goodIn_of _ (by decide +kernel)) ggX7_line_X7_bits
theorem dX7_line_0 : decode cX7_line 0 = .ok (.iload_n 1, 1) := by decide +kernel
theorem dX7_line_1 : decode cX7_line 1 = .ok (.invokestatic 95, 3) := by decide +kernel
theorem dX7_line_4 : decode cX7_line 4 = .ok (.ifCond .eq 10, 3) := by decide +kernel
theorem dX7_line_7 : decode cX7_line 7 = .ok (.iload_n 2, 1) := by decide +kernel
theorem dX7_line_8 : decode cX7_line 8 = .ok (.invokestatic 113, 3) := by decide +kernel
theorem dX7_line_11 : decode cX7_line 11 = .ok (.ifCond .ne 5, 3) := by decide +kernel
theorem dX7_line_14 : decode cX7_line 14 = .ok (.iconst (-1), 1) := by decide +kernel
theorem dX7_line_15 : decode cX7_line 15 = .ok (.ireturn, 1) := by decide +kernel
theorem dX7_line_16 : decode cX7_line 16 = .ok (.aload_n 0, 1) := by decide +kernel
theorem dX7_line_17 : decode cX7_line 17 = .ok (.getfield 13, 3) := by decide +kernel
theorem dX7_line_20 : decode cX7_line 20 = .ok (.iload_n 1, 1) := by decide +kernel
theorem dX7_line_21 : decode cX7_line 21 = .ok (.iaload, 1) := by decide +kernel
theorem dX7_line_22 : decode cX7_line 22 = .ok (.ifCond .le 17, 3) := by decide +kernel
theorem dX7_line_25 : decode cX7_line 25 = .ok (.aload_n 0, 1) := by decide +kernel
theorem dX7_line_26 : decode cX7_line 26 = .ok (.getfield 16, 3) := by decide +kernel
theorem dX7_line_29 : decode cX7_line 29 = .ok (.iload_n 1, 1) := by decide +kernel
theorem dX7_line_30 : decode cX7_line 30 = .ok (.iaload, 1) := by decide +kernel
theorem dX7_line_31 : decode cX7_line 31 = .ok (.bipush 45, 2) := by decide +kernel
theorem dX7_line_33 : decode cX7_line 33 = .ok (.if_icmp .ne 6, 3) := by decide +kernel
theorem dX7_line_36 : decode cX7_line 36 = .ok (.bipush (-2), 2) := by decide +kernel
theorem dX7_line_38 : decode cX7_line 38 = .ok (.ireturn, 1) := by decide +kernel
theorem dX7_line_39 : decode cX7_line 39 = .ok (.aload_n 0, 1) := by decide +kernel
theorem dX7_line_40 : decode cX7_line 40 = .ok (.getfield 13, 3) := by decide +kernel
theorem dX7_line_43 : decode cX7_line 43 = .ok (.iload_n 1, 1) := by decide +kernel
theorem dX7_line_44 : decode cX7_line 44 = .ok (.iaload, 1) := by decide +kernel
theorem dX7_line_45 : decode cX7_line 45 = .ok (.ifCond .eq 12, 3) := by decide +kernel
theorem dX7_line_48 : decode cX7_line 48 = .ok (.aload_n 0, 1) := by decide +kernel
theorem dX7_line_49 : decode cX7_line 49 = .ok (.getfield 74, 3) := by decide +kernel
theorem dX7_line_52 : decode cX7_line 52 = .ok (.iload_n 2, 1) := by decide +kernel
theorem dX7_line_53 : decode cX7_line 53 = .ok (.iaload, 1) := by decide +kernel
theorem dX7_line_54 : decode cX7_line 54 = .ok (.ifCond .ge 9, 3) := by decide +kernel
theorem dX7_line_57 : decode cX7_line 57 = .ok (.aload_n 0, 1) := by decide +kernel
theorem dX7_line_58 : decode cX7_line 58 = .ok (.iconst 1, 1) := by decide +kernel
theorem dX7_line_59 : decode cX7_line 59 = .ok (.invokevirtual 99, 3) := by decide +kernel
theorem dX7_line_62 : decode cX7_line 62 = .ok (.ireturn, 1) := by decide +kernel
theorem dX7_line_63 : decode cX7_line 63 = .ok (.aload_n 0, 1) := by decide +kernel
theorem dX7_line_64 : decode cX7_line 64 = .ok (.getfield 19, 3) := by decide +kernel
theorem dX7_line_67 : decode cX7_line 67 = .ok (.iload_n 1, 1) := by decide +kernel
theorem dX7_line_68 : decode cX7_line 68 = .ok (.iaload, 1) := by decide +kernel
theorem dX7_line_69 : decode cX7_line 69 = .ok (.ifCond .eq 9, 3) := by decide +kernel
theorem dX7_line_72 : decode cX7_line 72 = .ok (.aload_n 0, 1) := by decide +kernel
theorem dX7_line_73 : decode cX7_line 73 = .ok (.iconst 3, 1) := by decide +kernel
theorem dX7_line_74 : decode cX7_line 74 = .ok (.invokevirtual 99, 3) := by decide +kernel
theorem dX7_line_77 : decode cX7_line 77 = .ok (.ireturn, 1) := by decide +kernel
theorem dX7_line_78 : decode cX7_line 78 = .ok (.lconst 0, 1) := by decide +kernel
theorem dX7_line_79 : decode cX7_line 79 = .ok (.lstore_n 3, 1) := by decide +kernel
theorem dX7_line_80 : decode cX7_line 80 = .ok (.iconst 1, 1) := by decide +kernel
theorem dX7_line_81 : decode cX7_line 81 = .ok (.istore 5, 2) := by decide +kernel
theorem dX7_line_83 : decode cX7_line 83 = .ok (.iconst 0, 1) := by decide +kernel
theorem dX7_line_84 : decode cX7_line 84 = .ok (.istore 6, 2) := by decide +kernel
theorem dX7_line_86 : decode cX7_line 86 = .ok (.iload 6, 2) := by decide +kernel
theorem dX7_line_88 : decode cX7_line 88 = .ok (.aload_n 0, 1) := by decide +kernel
theorem dX7_line_89 : decode cX7_line 89 = .ok (.getfield 74, 3) := by decide +kernel
theorem dX7_line_92 : decode cX7_line 92 = .ok (.iload_n 2, 1) := by decide +kernel
theorem dX7_line_93 : decode cX7_line 93 = .ok (.iaload, 1) := by decide +kernel
theorem dX7_line_94 : decode cX7_line 94 = .ok (.if_icmp .ge 68, 3) := by decide +kernel
theorem dX7_line_97 : decode cX7_line 97 = .ok (.aload_n 0, 1) := by decide +kernel
theorem dX7_line_98 : decode cX7_line 98 = .ok (.getfield 77, 3) := by decide +kernel
theorem dX7_line_101 : decode cX7_line 101 = .ok (.bipush 12, 2) := by decide +kernel
theorem dX7_line_103 : decode cX7_line 103 = .ok (.iload_n 2, 1) := by decide +kernel
theorem dX7_line_104 : decode cX7_line 104 = .ok (.imul, 1) := by decide +kernel
theorem dX7_line_105 : decode cX7_line 105 = .ok (.iload 6, 2) := by decide +kernel
theorem dX7_line_107 : decode cX7_line 107 = .ok (.iadd, 1) := by decide +kernel
theorem dX7_line_108 : decode cX7_line 108 = .ok (.iaload, 1) := by decide +kernel
theorem dX7_line_109 : decode cX7_line 109 = .ok (.istore 7, 2) := by decide +kernel
theorem dX7_line_111 : decode cX7_line 111 = .ok (.iload 5, 2) := by decide +kernel
theorem dX7_line_113 : decode cX7_line 113 = .ok (.ifCond .eq 24, 3) := by decide +kernel
theorem dX7_line_116 : decode cX7_line 116 = .ok (.iload 7, 2) := by decide +kernel
theorem dX7_line_118 : decode cX7_line 118 = .ok (.iconst 0, 1) := by decide +kernel
theorem dX7_line_119 : decode cX7_line 119 = .ok (.aload_n 0, 1) := by decide +kernel
theorem dX7_line_120 : decode cX7_line 120 = .ok (.getfield 13, 3) := by decide +kernel
theorem dX7_line_123 : decode cX7_line 123 = .ok (.iload_n 1, 1) := by decide +kernel
theorem dX7_line_124 : decode cX7_line 124 = .ok (.iaload, 1) := by decide +kernel
theorem dX7_line_125 : decode cX7_line 125 = .ok (.iconst 1, 1) := by decide +kernel
theorem dX7_line_126 : decode cX7_line 126 = .ok (.isub, 1) := by decide +kernel
theorem dX7_line_127 : decode cX7_line 127 = .ok (.invokestatic 91, 3) := by decide +kernel
theorem dX7_line_130 : decode cX7_line 130 = .ok (.ifCond .eq 7, 3) := by decide +kernel
theorem dX7_line_133 : decode cX7_line 133 = .ok (.iconst 1, 1) := by decide +kernel
theorem dX7_line_134 : decode cX7_line 134 = .ok (.goto 4, 3) := by decide +kernel
theorem dX7_line_137 : decode cX7_line 137 = .ok (.iconst 0, 1) := by decide +kernel
theorem dX7_line_138 : decode cX7_line 138 = .ok (.istore 5, 2) := by decide +kernel
theorem dX7_line_140 : decode cX7_line 140 = .ok (.lload_n 3, 1) := by decide +kernel
theorem dX7_line_141 : decode cX7_line 141 = .ok (.iload 5, 2) := by decide +kernel
theorem dX7_line_143 : decode cX7_line 143 = .ok (.ifCond .eq 10, 3) := by decide +kernel
theorem dX7_line_146 : decode cX7_line 146 = .ok (.lconst 1, 1) := by decide +kernel
theorem dX7_line_147 : decode cX7_line 147 = .ok (.iload 7, 2) := by decide +kernel
theorem dX7_line_149 : decode cX7_line 149 = .ok (.lshl, 1) := by decide +kernel
theorem dX7_line_150 : decode cX7_line 150 = .ok (.goto 4, 3) := by decide +kernel
theorem dX7_line_153 : decode cX7_line 153 = .ok (.lconst 0, 1) := by decide +kernel
theorem dX7_line_154 : decode cX7_line 154 = .ok (.lor, 1) := by decide +kernel
theorem dX7_line_155 : decode cX7_line 155 = .ok (.lstore_n 3, 1) := by decide +kernel
theorem dX7_line_156 : decode cX7_line 156 = .ok (.iinc 6 1, 3) := by decide +kernel
theorem dX7_line_159 : decode cX7_line 159 = .ok (.goto (-73), 3) := by decide +kernel
theorem dX7_line_162 : decode cX7_line 162 = .ok (.iload 5, 2) := by decide +kernel
theorem dX7_line_164 : decode cX7_line 164 = .ok (.ifCond .ne 9, 3) := by decide +kernel
theorem dX7_line_167 : decode cX7_line 167 = .ok (.aload_n 0, 1) := by decide +kernel
theorem dX7_line_168 : decode cX7_line 168 = .ok (.iconst 2, 1) := by decide +kernel
theorem dX7_line_169 : decode cX7_line 169 = .ok (.invokevirtual 99, 3) := by decide +kernel
theorem dX7_line_172 : decode cX7_line 172 = .ok (.ireturn, 1) := by decide +kernel
theorem dX7_line_173 : decode cX7_line 173 = .ok (.lload_n 3, 1) := by decide +kernel
theorem dX7_line_174 : decode cX7_line 174 = .ok (.invokestatic 116, 3) := by decide +kernel
theorem dX7_line_177 : decode cX7_line 177 = .ok (.iconst 2, 1) := by decide +kernel
theorem dX7_line_178 : decode cX7_line 178 = .ok (.if_icmp .ge 9, 3) := by decide +kernel
theorem dX7_line_181 : decode cX7_line 181 = .ok (.aload_n 0, 1) := by decide +kernel
theorem dX7_line_182 : decode cX7_line 182 = .ok (.iconst 5, 1) := by decide +kernel
theorem dX7_line_183 : decode cX7_line 183 = .ok (.invokevirtual 99, 3) := by decide +kernel
theorem dX7_line_186 : decode cX7_line 186 = .ok (.ireturn, 1) := by decide +kernel
theorem dX7_line_187 : decode cX7_line 187 = .ok (.aload_n 0, 1) := by decide +kernel
theorem dX7_line_188 : decode cX7_line 188 = .ok (.getfield 25, 3) := by decide +kernel
theorem dX7_line_191 : decode cX7_line 191 = .ok (.bipush 45, 2) := by decide +kernel
theorem dX7_line_193 : decode cX7_line 193 = .ok (.iload_n 1, 1) := by decide +kernel
theorem dX7_line_194 : decode cX7_line 194 = .ok (.imul, 1) := by decide +kernel
theorem dX7_line_195 : decode cX7_line 195 = .ok (.aload_n 0, 1) := by decide +kernel
theorem dX7_line_196 : decode cX7_line 196 = .ok (.getfield 16, 3) := by decide +kernel
theorem dX7_line_199 : decode cX7_line 199 = .ok (.iload_n 1, 1) := by decide +kernel
theorem dX7_line_200 : decode cX7_line 200 = .ok (.iaload, 1) := by decide +kernel
theorem dX7_line_201 : decode cX7_line 201 = .ok (.iadd, 1) := by decide +kernel
theorem dX7_line_202 : decode cX7_line 202 = .ok (.lload_n 3, 1) := by decide +kernel
theorem dX7_line_203 : decode cX7_line 203 = .ok (.lastore, 1) := by decide +kernel
theorem dX7_line_204 : decode cX7_line 204 = .ok (.aload_n 0, 1) := by decide +kernel
theorem dX7_line_205 : decode cX7_line 205 = .ok (.getfield 16, 3) := by decide +kernel
theorem dX7_line_208 : decode cX7_line 208 = .ok (.iload_n 1, 1) := by decide +kernel
theorem dX7_line_209 : decode cX7_line 209 = .ok (.dup2, 1) := by decide +kernel
theorem dX7_line_210 : decode cX7_line 210 = .ok (.iaload, 1) := by decide +kernel
theorem dX7_line_211 : decode cX7_line 211 = .ok (.iconst 1, 1) := by decide +kernel
theorem dX7_line_212 : decode cX7_line 212 = .ok (.iadd, 1) := by decide +kernel
theorem dX7_line_213 : decode cX7_line 213 = .ok (.iastore, 1) := by decide +kernel
theorem dX7_line_214 : decode cX7_line 214 = .ok (.aload_n 0, 1) := by decide +kernel
theorem dX7_line_215 : decode cX7_line 215 = .ok (.getfield 16, 3) := by decide +kernel
theorem dX7_line_218 : decode cX7_line 218 = .ok (.iload_n 1, 1) := by decide +kernel
theorem dX7_line_219 : decode cX7_line 219 = .ok (.iaload, 1) := by decide +kernel
theorem dX7_line_220 : decode cX7_line 220 = .ok (.iconst 1, 1) := by decide +kernel
theorem dX7_line_221 : decode cX7_line 221 = .ok (.isub, 1) := by decide +kernel
theorem dX7_line_222 : decode cX7_line 222 = .ok (.ireturn, 1) := by decide +kernel
set_option maxRecDepth 20000 in
theorem ggX7_grid_X7_isNumber : GoodIn wsX7_grid wsX7_isNumber := goodIn_r _ [6, 7, 8, 5, 9] (by decide +kernel) (by decide +kernel)
set_option maxRecDepth 20000 in
theorem gX7_grid_X7_isNumber : GoodIn wsX7_grid (va_wsS RX7 95 yX7_isNumber wsX7_isNumber) := goodIn_app (goodIn_of _ (by decide +kernel)) ggX7_grid_X7_isNumber
set_option maxRecDepth 20000 in
theorem ggX7_grid_X7_in : GoodIn wsX7_grid wsX7_in := goodIn_r _ [9] (by decide +kernel) (by decide +kernel)
set_option maxRecDepth 20000 in
theorem gX7_grid_X7_in : GoodIn wsX7_grid (va_wsS RX7 91 yX7_in wsX7_in) := goodIn_app (goodIn_of _ (by decide +kernel)) ggX7_grid_X7_in
set_option maxRecDepth 20000 in
theorem ggX7_grid_X7_add : GoodIn wsX7_grid wsX7_add := goodIn_r _ [13, 14, 2, 24, 25, 26, 27, 28, 29, 30, 31, 32, 33, 34, 35, 36, 37, 38, 39, 40, 41, 42, 43, 44, 45, 46, 47, 48, 49, 50, 51, 52, 53, 54, 55, 56] (by decide +kernel) (by decide +kernel)
set_option maxRecDepth 20000 in
theorem gX7_grid_X7_add : GoodIn wsX7_grid (wsV RX7 120 RX7 yX7_add wsX7_add) := goodIn_app (goodIn_of _ (by decide +kernel)) ggX7_grid_X7_add
set_option maxRecDepth 20000 in
theorem ggX7_grid_X7_keep : GoodIn wsX7_grid wsX7_keep := goodIn_r _ [18, 19, 1, 20, 2, 21, 22, 23, 14, 24, 25, 26, 27, 28, 29, 30, 31, 32, 33, 34, 35, 36, 37, 38, 39, 40, 41, 42, 43, 44, 45, 46, 47, 48, 49, 50, 51, 52, 53, 54, 55, 56] (by decide +kernel) (by decide +kernel)
set_option maxRecDepth 20000 in
theorem gX7_grid_X7_keep : GoodIn wsX7_grid (wsV RX7 109 RX7 yX7_keep wsX7_keep) := goodIn_app (goodIn_of _ (by decide +kernel)) ggX7_grid_X7_keep
theorem dX7_grid_0 : decode cX7_grid 0 = .ok (.iload_n 1, 1) := by decide +kernel
theorem dX7_grid_1 : decode cX7_grid 1 = .ok (.invokestatic 95, 3) := by decide +kernel
theorem dX7_grid_4 : decode cX7_grid 4 = .ok (.ifCond .eq 23, 3) := by decide +kernel
theorem dX7_grid_7 : decode cX7_grid 7 = .ok (.iload_n 2, 1) := by decide +kernel
theorem dX7_grid_8 : decode cX7_grid 8 = .ok (.iconst 2, 1) := by decide +kernel
theorem dX7_grid_9 : decode cX7_grid 9 = .ok (.bipush 6, 2) := by decide +kernel
theorem dX7_grid_11 : decode cX7_grid 11 = .ok (.invokestatic 91, 3) := by decide +kernel
theorem dX7_grid_14 : decode cX7_grid 14 = .ok (.ifCond .eq 13, 3) := by decide +kernel
theorem dX7_grid_17 : decode cX7_grid 17 = .ok (.iload_n 3, 1) := by decide +kernel
theorem dX7_grid_18 : decode cX7_grid 18 = .ok (.iconst 2, 1) := by decide +kernel
theorem dX7_grid_19 : decode cX7_grid 19 = .ok (.bipush 6, 2) := by decide +kernel
theorem dX7_grid_21 : decode cX7_grid 21 = .ok (.invokestatic 91, 3) := by decide +kernel
theorem dX7_grid_24 : decode cX7_grid 24 = .ok (.ifCond .ne 5, 3) := by decide +kernel
theorem dX7_grid_27 : decode cX7_grid 27 = .ok (.iconst (-1), 1) := by decide +kernel
theorem dX7_grid_28 : decode cX7_grid 28 = .ok (.ireturn, 1) := by decide +kernel
theorem dX7_grid_29 : decode cX7_grid 29 = .ok (.aload_n 0, 1) := by decide +kernel
theorem dX7_grid_30 : decode cX7_grid 30 = .ok (.iload_n 2, 1) := by decide +kernel
theorem dX7_grid_31 : decode cX7_grid 31 = .ok (.iload_n 3, 1) := by decide +kernel
theorem dX7_grid_32 : decode cX7_grid 32 = .ok (.imul, 1) := by decide +kernel
theorem dX7_grid_33 : decode cX7_grid 33 = .ok (.putfield 103, 3) := by decide +kernel
theorem dX7_grid_36 : decode cX7_grid 36 = .ok (.aload_n 0, 1) := by decide +kernel
theorem dX7_grid_37 : decode cX7_grid 37 = .ok (.iconst 0, 1) := by decide +kernel
theorem dX7_grid_38 : decode cX7_grid 38 = .ok (.putfield 106, 3) := by decide +kernel
theorem dX7_grid_41 : decode cX7_grid 41 = .ok (.iconst 0, 1) := by decide +kernel
theorem dX7_grid_42 : decode cX7_grid 42 = .ok (.istore 4, 2) := by decide +kernel
theorem dX7_grid_44 : decode cX7_grid 44 = .ok (.iload 4, 2) := by decide +kernel
theorem dX7_grid_46 : decode cX7_grid 46 = .ok (.iload_n 2, 1) := by decide +kernel
theorem dX7_grid_47 : decode cX7_grid 47 = .ok (.if_icmp .ge 47, 3) := by decide +kernel
theorem dX7_grid_50 : decode cX7_grid 50 = .ok (.lconst 0, 1) := by decide +kernel
theorem dX7_grid_51 : decode cX7_grid 51 = .ok (.lstore 5, 2) := by decide +kernel
theorem dX7_grid_53 : decode cX7_grid 53 = .ok (.iconst 0, 1) := by decide +kernel
theorem dX7_grid_54 : decode cX7_grid 54 = .ok (.istore 7, 2) := by decide +kernel
theorem dX7_grid_56 : decode cX7_grid 56 = .ok (.iload 7, 2) := by decide +kernel
theorem dX7_grid_58 : decode cX7_grid 58 = .ok (.iload_n 3, 1) := by decide +kernel
theorem dX7_grid_59 : decode cX7_grid 59 = .ok (.if_icmp .ge 23, 3) := by decide +kernel
theorem dX7_grid_62 : decode cX7_grid 62 = .ok (.lload 5, 2) := by decide +kernel
theorem dX7_grid_64 : decode cX7_grid 64 = .ok (.lconst 1, 1) := by decide +kernel
theorem dX7_grid_65 : decode cX7_grid 65 = .ok (.iload_n 3, 1) := by decide +kernel
theorem dX7_grid_66 : decode cX7_grid 66 = .ok (.iload 4, 2) := by decide +kernel
theorem dX7_grid_68 : decode cX7_grid 68 = .ok (.imul, 1) := by decide +kernel
theorem dX7_grid_69 : decode cX7_grid 69 = .ok (.iload 7, 2) := by decide +kernel
theorem dX7_grid_71 : decode cX7_grid 71 = .ok (.iadd, 1) := by decide +kernel
theorem dX7_grid_72 : decode cX7_grid 72 = .ok (.lshl, 1) := by decide +kernel
theorem dX7_grid_73 : decode cX7_grid 73 = .ok (.lor, 1) := by decide +kernel
theorem dX7_grid_74 : decode cX7_grid 74 = .ok (.lstore 5, 2) := by decide +kernel
theorem dX7_grid_76 : decode cX7_grid 76 = .ok (.iinc 7 1, 3) := by decide +kernel
theorem dX7_grid_79 : decode cX7_grid 79 = .ok (.goto (-23), 3) := by decide +kernel
theorem dX7_grid_82 : decode cX7_grid 82 = .ok (.aload_n 0, 1) := by decide +kernel
theorem dX7_grid_83 : decode cX7_grid 83 = .ok (.lload 5, 2) := by decide +kernel
theorem dX7_grid_85 : decode cX7_grid 85 = .ok (.invokevirtual 120, 3) := by decide +kernel
theorem dX7_grid_88 : decode cX7_grid 88 = .ok (.iinc 4 1, 3) := by decide +kernel
theorem dX7_grid_91 : decode cX7_grid 91 = .ok (.goto (-47), 3) := by decide +kernel
theorem dX7_grid_94 : decode cX7_grid 94 = .ok (.iconst 0, 1) := by decide +kernel
theorem dX7_grid_95 : decode cX7_grid 95 = .ok (.istore 4, 2) := by decide +kernel
theorem dX7_grid_97 : decode cX7_grid 97 = .ok (.iload 4, 2) := by decide +kernel
theorem dX7_grid_99 : decode cX7_grid 99 = .ok (.iload_n 3, 1) := by decide +kernel
theorem dX7_grid_100 : decode cX7_grid 100 = .ok (.if_icmp .ge 47, 3) := by decide +kernel
theorem dX7_grid_103 : decode cX7_grid 103 = .ok (.lconst 0, 1) := by decide +kernel
theorem dX7_grid_104 : decode cX7_grid 104 = .ok (.lstore 5, 2) := by decide +kernel
theorem dX7_grid_106 : decode cX7_grid 106 = .ok (.iconst 0, 1) := by decide +kernel
theorem dX7_grid_107 : decode cX7_grid 107 = .ok (.istore 7, 2) := by decide +kernel
theorem dX7_grid_109 : decode cX7_grid 109 = .ok (.iload 7, 2) := by decide +kernel
theorem dX7_grid_111 : decode cX7_grid 111 = .ok (.iload_n 2, 1) := by decide +kernel
theorem dX7_grid_112 : decode cX7_grid 112 = .ok (.if_icmp .ge 23, 3) := by decide +kernel
theorem dX7_grid_115 : decode cX7_grid 115 = .ok (.lload 5, 2) := by decide +kernel
theorem dX7_grid_117 : decode cX7_grid 117 = .ok (.lconst 1, 1) := by decide +kernel
theorem dX7_grid_118 : decode cX7_grid 118 = .ok (.iload_n 3, 1) := by decide +kernel
theorem dX7_grid_119 : decode cX7_grid 119 = .ok (.iload 7, 2) := by decide +kernel
theorem dX7_grid_121 : decode cX7_grid 121 = .ok (.imul, 1) := by decide +kernel
theorem dX7_grid_122 : decode cX7_grid 122 = .ok (.iload 4, 2) := by decide +kernel
theorem dX7_grid_124 : decode cX7_grid 124 = .ok (.iadd, 1) := by decide +kernel
theorem dX7_grid_125 : decode cX7_grid 125 = .ok (.lshl, 1) := by decide +kernel
theorem dX7_grid_126 : decode cX7_grid 126 = .ok (.lor, 1) := by decide +kernel
theorem dX7_grid_127 : decode cX7_grid 127 = .ok (.lstore 5, 2) := by decide +kernel
theorem dX7_grid_129 : decode cX7_grid 129 = .ok (.iinc 7 1, 3) := by decide +kernel
theorem dX7_grid_132 : decode cX7_grid 132 = .ok (.goto (-23), 3) := by decide +kernel
theorem dX7_grid_135 : decode cX7_grid 135 = .ok (.aload_n 0, 1) := by decide +kernel
theorem dX7_grid_136 : decode cX7_grid 136 = .ok (.lload 5, 2) := by decide +kernel
theorem dX7_grid_138 : decode cX7_grid 138 = .ok (.invokevirtual 120, 3) := by decide +kernel
theorem dX7_grid_141 : decode cX7_grid 141 = .ok (.iinc 4 1, 3) := by decide +kernel
theorem dX7_grid_144 : decode cX7_grid 144 = .ok (.goto (-47), 3) := by decide +kernel
theorem dX7_grid_147 : decode cX7_grid 147 = .ok (.aload_n 0, 1) := by decide +kernel
theorem dX7_grid_148 : decode cX7_grid 148 = .ok (.iload_n 1, 1) := by decide +kernel
theorem dX7_grid_149 : decode cX7_grid 149 = .ok (.iconst 1, 1) := by decide +kernel
theorem dX7_grid_150 : decode cX7_grid 150 = .ok (.iload_n 2, 1) := by decide +kernel
theorem dX7_grid_151 : decode cX7_grid 151 = .ok (.invokevirtual 109, 3) := by decide +kernel
theorem dX7_grid_154 : decode cX7_grid 154 = .ok (.ireturn, 1) := by decide +kernel
theorem dX7_isPerp_0 : decode cX7_isPerp 0 = .ok (.aload_n 0, 1) := by decide +kernel
theorem dX7_isPerp_1 : decode cX7_isPerp 1 = .ok (.getfield 32, 3) := by decide +kernel
theorem dX7_isPerp_4 : decode cX7_isPerp 4 = .ok (.iconst 4, 1) := by decide +kernel
theorem dX7_isPerp_5 : decode cX7_isPerp 5 = .ok (.iload_n 1, 1) := by decide +kernel
theorem dX7_isPerp_6 : decode cX7_isPerp 6 = .ok (.imul, 1) := by decide +kernel
theorem dX7_isPerp_7 : decode cX7_isPerp 7 = .ok (.iaload, 1) := by decide +kernel
theorem dX7_isPerp_8 : decode cX7_isPerp 8 = .ok (.aload_n 0, 1) := by decide +kernel
theorem dX7_isPerp_9 : decode cX7_isPerp 9 = .ok (.getfield 32, 3) := by decide +kernel
theorem dX7_isPerp_12 : decode cX7_isPerp 12 = .ok (.iconst 4, 1) := by decide +kernel
theorem dX7_isPerp_13 : decode cX7_isPerp 13 = .ok (.iload_n 2, 1) := by decide +kernel
theorem dX7_isPerp_14 : decode cX7_isPerp 14 = .ok (.imul, 1) := by decide +kernel
theorem dX7_isPerp_15 : decode cX7_isPerp 15 = .ok (.iconst 1, 1) := by decide +kernel
theorem dX7_isPerp_16 : decode cX7_isPerp 16 = .ok (.iadd, 1) := by decide +kernel
theorem dX7_isPerp_17 : decode cX7_isPerp 17 = .ok (.iaload, 1) := by decide +kernel
theorem dX7_isPerp_18 : decode cX7_isPerp 18 = .ok (.imul, 1) := by decide +kernel
theorem dX7_isPerp_19 : decode cX7_isPerp 19 = .ok (.aload_n 0, 1) := by decide +kernel
theorem dX7_isPerp_20 : decode cX7_isPerp 20 = .ok (.getfield 32, 3) := by decide +kernel
theorem dX7_isPerp_23 : decode cX7_isPerp 23 = .ok (.iconst 4, 1) := by decide +kernel
theorem dX7_isPerp_24 : decode cX7_isPerp 24 = .ok (.iload_n 1, 1) := by decide +kernel
theorem dX7_isPerp_25 : decode cX7_isPerp 25 = .ok (.imul, 1) := by decide +kernel
theorem dX7_isPerp_26 : decode cX7_isPerp 26 = .ok (.iconst 1, 1) := by decide +kernel
theorem dX7_isPerp_27 : decode cX7_isPerp 27 = .ok (.iadd, 1) := by decide +kernel
theorem dX7_isPerp_28 : decode cX7_isPerp 28 = .ok (.iaload, 1) := by decide +kernel
theorem dX7_isPerp_29 : decode cX7_isPerp 29 = .ok (.aload_n 0, 1) := by decide +kernel
theorem dX7_isPerp_30 : decode cX7_isPerp 30 = .ok (.getfield 32, 3) := by decide +kernel
theorem dX7_isPerp_33 : decode cX7_isPerp 33 = .ok (.iconst 4, 1) := by decide +kernel
theorem dX7_isPerp_34 : decode cX7_isPerp 34 = .ok (.iload_n 2, 1) := by decide +kernel
theorem dX7_isPerp_35 : decode cX7_isPerp 35 = .ok (.imul, 1) := by decide +kernel
theorem dX7_isPerp_36 : decode cX7_isPerp 36 = .ok (.iaload, 1) := by decide +kernel
theorem dX7_isPerp_37 : decode cX7_isPerp 37 = .ok (.imul, 1) := by decide +kernel
theorem dX7_isPerp_38 : decode cX7_isPerp 38 = .ok (.isub, 1) := by decide +kernel
theorem dX7_isPerp_39 : decode cX7_isPerp 39 = .ok (.aload_n 0, 1) := by decide +kernel
theorem dX7_isPerp_40 : decode cX7_isPerp 40 = .ok (.getfield 32, 3) := by decide +kernel
theorem dX7_isPerp_43 : decode cX7_isPerp 43 = .ok (.iconst 4, 1) := by decide +kernel
theorem dX7_isPerp_44 : decode cX7_isPerp 44 = .ok (.iload_n 1, 1) := by decide +kernel
theorem dX7_isPerp_45 : decode cX7_isPerp 45 = .ok (.imul, 1) := by decide +kernel
theorem dX7_isPerp_46 : decode cX7_isPerp 46 = .ok (.iconst 2, 1) := by decide +kernel
theorem dX7_isPerp_47 : decode cX7_isPerp 47 = .ok (.iadd, 1) := by decide +kernel
theorem dX7_isPerp_48 : decode cX7_isPerp 48 = .ok (.iaload, 1) := by decide +kernel
theorem dX7_isPerp_49 : decode cX7_isPerp 49 = .ok (.aload_n 0, 1) := by decide +kernel
theorem dX7_isPerp_50 : decode cX7_isPerp 50 = .ok (.getfield 32, 3) := by decide +kernel
theorem dX7_isPerp_53 : decode cX7_isPerp 53 = .ok (.iconst 4, 1) := by decide +kernel
theorem dX7_isPerp_54 : decode cX7_isPerp 54 = .ok (.iload_n 2, 1) := by decide +kernel
theorem dX7_isPerp_55 : decode cX7_isPerp 55 = .ok (.imul, 1) := by decide +kernel
theorem dX7_isPerp_56 : decode cX7_isPerp 56 = .ok (.iconst 3, 1) := by decide +kernel
theorem dX7_isPerp_57 : decode cX7_isPerp 57 = .ok (.iadd, 1) := by decide +kernel
theorem dX7_isPerp_58 : decode cX7_isPerp 58 = .ok (.iaload, 1) := by decide +kernel
theorem dX7_isPerp_59 : decode cX7_isPerp 59 = .ok (.imul, 1) := by decide +kernel
theorem dX7_isPerp_60 : decode cX7_isPerp 60 = .ok (.iadd, 1) := by decide +kernel
theorem dX7_isPerp_61 : decode cX7_isPerp 61 = .ok (.aload_n 0, 1) := by decide +kernel
theorem dX7_isPerp_62 : decode cX7_isPerp 62 = .ok (.getfield 32, 3) := by decide +kernel
theorem dX7_isPerp_65 : decode cX7_isPerp 65 = .ok (.iconst 4, 1) := by decide +kernel
theorem dX7_isPerp_66 : decode cX7_isPerp 66 = .ok (.iload_n 1, 1) := by decide +kernel
theorem dX7_isPerp_67 : decode cX7_isPerp 67 = .ok (.imul, 1) := by decide +kernel
theorem dX7_isPerp_68 : decode cX7_isPerp 68 = .ok (.iconst 3, 1) := by decide +kernel
theorem dX7_isPerp_69 : decode cX7_isPerp 69 = .ok (.iadd, 1) := by decide +kernel
theorem dX7_isPerp_70 : decode cX7_isPerp 70 = .ok (.iaload, 1) := by decide +kernel
theorem dX7_isPerp_71 : decode cX7_isPerp 71 = .ok (.aload_n 0, 1) := by decide +kernel
theorem dX7_isPerp_72 : decode cX7_isPerp 72 = .ok (.getfield 32, 3) := by decide +kernel
theorem dX7_isPerp_75 : decode cX7_isPerp 75 = .ok (.iconst 4, 1) := by decide +kernel
theorem dX7_isPerp_76 : decode cX7_isPerp 76 = .ok (.iload_n 2, 1) := by decide +kernel
theorem dX7_isPerp_77 : decode cX7_isPerp 77 = .ok (.imul, 1) := by decide +kernel
theorem dX7_isPerp_78 : decode cX7_isPerp 78 = .ok (.iconst 2, 1) := by decide +kernel
theorem dX7_isPerp_79 : decode cX7_isPerp 79 = .ok (.iadd, 1) := by decide +kernel
theorem dX7_isPerp_80 : decode cX7_isPerp 80 = .ok (.iaload, 1) := by decide +kernel
theorem dX7_isPerp_81 : decode cX7_isPerp 81 = .ok (.imul, 1) := by decide +kernel
theorem dX7_isPerp_82 : decode cX7_isPerp 82 = .ok (.isub, 1) := by decide +kernel
theorem dX7_isPerp_83 : decode cX7_isPerp 83 = .ok (.istore 4, 2) := by decide +kernel
theorem dX7_isPerp_85 : decode cX7_isPerp 85 = .ok (.iload 4, 2) := by decide +kernel
theorem dX7_isPerp_87 : decode cX7_isPerp 87 = .ok (.iload_n 3, 1) := by decide +kernel
theorem dX7_isPerp_88 : decode cX7_isPerp 88 = .ok (.irem, 1) := by decide +kernel
theorem dX7_isPerp_89 : decode cX7_isPerp 89 = .ok (.ifCond .ne 7, 3) := by decide +kernel
theorem dX7_isPerp_92 : decode cX7_isPerp 92 = .ok (.iconst 1, 1) := by decide +kernel
theorem dX7_isPerp_93 : decode cX7_isPerp 93 = .ok (.goto 4, 3) := by decide +kernel
theorem dX7_isPerp_96 : decode cX7_isPerp 96 = .ok (.iconst 0, 1) := by decide +kernel
theorem dX7_isPerp_97 : decode cX7_isPerp 97 = .ok (.ireturn, 1) := by decide +kernel
set_option maxRecDepth 20000 in
theorem ggX7_form_X7_isNumber : GoodIn wsX7_form wsX7_isNumber := goodIn_r _ [8, 9, 10, 7, 11] (by decide +kernel) (by decide +kernel)
set_option maxRecDepth 20000 in
theorem gX7_form_X7_isNumber : GoodIn wsX7_form (va_wsS RX7 95 yX7_isNumber wsX7_isNumber) := goodIn_app (goodIn_of _ (by decide +kernel)) ggX7_form_X7_isNumber
set_option maxRecDepth 20000 in
theorem ggX7_form_X7_in : GoodIn wsX7_form wsX7_in := goodIn_r _ [11] (by decide +kernel) (by decide +kernel)
set_option maxRecDepth 20000 in
theorem gX7_form_X7_in : GoodIn wsX7_form (va_wsS RX7 91 yX7_in wsX7_in) := goodIn_app (goodIn_of _ (by decide +kernel)) ggX7_form_X7_in
set_option maxRecDepth 20000 in
theorem ggX7_form_X7_isPerp : GoodIn wsX7_form wsX7_isPerp := goodIn_r _ [15, 3, 34, 35, 36, 37, 38, 39, 40, 41, 42, 43, 44, 45, 46, 47, 48, 49, 50, 51, 52, 53, 54, 55, 56, 57, 58, 59, 60, 61, 62, 63, 64, 65, 66] (by decide +kernel) (by decide +kernel)
set_option maxRecDepth 20000 in
theorem gX7_form_X7_isPerp : GoodIn wsX7_form (wsV RX7 124 RX7 yX7_isPerp wsX7_isPerp) := goodIn_app (goodIn_of _ (by decide +kernel)) ggX7_form_X7_isPerp
set_option maxRecDepth 20000 in
theorem ggX7_form_X7_lineOf : GoodIn wsX7_form wsX7_lineOf := goodIn_r _ [19, 1, 3, 34, 35, 36, 37, 38, 39, 40, 41, 42, 43, 44, 45, 46, 47, 48, 49, 50, 51, 52, 53, 54, 55, 56, 57, 58, 59, 60, 61, 62, 63, 64, 65, 66] (by decide +kernel) (by decide +kernel)
set_option maxRecDepth 20000 in
theorem gX7_form_X7_lineOf : GoodIn wsX7_form (wsV RX7 127 RX7 yX7_lineOf wsX7_lineOf) := goodIn_app (goodIn_of _ (by decide +kernel)) ggX7_form_X7_lineOf
set_option maxRecDepth 20000 in
theorem ggX7_form_X7_add : GoodIn wsX7_form wsX7_add := goodIn_r _ [23, 24, 2, 34, 35, 36, 37, 38, 39, 40, 41, 42, 43, 44, 45, 46, 47, 48, 49, 50, 51, 52, 53, 54, 55, 56, 57, 58, 59, 60, 61, 62, 63, 64, 65, 66] (by decide +kernel) (by decide +kernel)
set_option maxRecDepth 20000 in
theorem gX7_form_X7_add : GoodIn wsX7_form (wsV RX7 120 RX7 yX7_add wsX7_add) := goodIn_app (goodIn_of _ (by decide +kernel)) ggX7_form_X7_add
set_option maxRecDepth 20000 in
theorem ggX7_form_X7_keep : GoodIn wsX7_form wsX7_keep := goodIn_r _ [28, 29, 1, 30, 2, 31, 32, 33, 24, 34, 35, 36, 37, 38, 39, 40, 41, 42, 43, 44, 45, 46, 47, 48, 49, 50, 51, 52, 53, 54, 55, 56, 57, 58, 59, 60, 61, 62, 63, 64, 65, 66] (by decide +kernel) (by decide +kernel)
set_option maxRecDepth 20000 in
theorem gX7_form_X7_keep : GoodIn wsX7_form (wsV RX7 109 RX7 yX7_keep wsX7_keep) := goodIn_app (goodIn_of _ (by decide +kernel)) ggX7_form_X7_keep
theorem dX7_form_0 : decode cX7_form 0 = .ok (.iload_n 1, 1) := by decide +kernel
theorem dX7_form_1 : decode cX7_form 1 = .ok (.invokestatic 95, 3) := by decide +kernel
theorem dX7_form_4 : decode cX7_form 4 = .ok (.ifCond .eq 12, 3) := by decide +kernel
theorem dX7_form_7 : decode cX7_form 7 = .ok (.iload_n 2, 1) := by decide +kernel
theorem dX7_form_8 : decode cX7_form 8 = .ok (.iconst 2, 1) := by decide +kernel
theorem dX7_form_9 : decode cX7_form 9 = .ok (.iconst 3, 1) := by decide +kernel
theorem dX7_form_10 : decode cX7_form 10 = .ok (.invokestatic 91, 3) := by decide +kernel
theorem dX7_form_13 : decode cX7_form 13 = .ok (.ifCond .ne 5, 3) := by decide +kernel
theorem dX7_form_16 : decode cX7_form 16 = .ok (.iconst (-1), 1) := by decide +kernel
theorem dX7_form_17 : decode cX7_form 17 = .ok (.ireturn, 1) := by decide +kernel
theorem dX7_form_18 : decode cX7_form 18 = .ok (.aload_n 0, 1) := by decide +kernel
theorem dX7_form_19 : decode cX7_form 19 = .ok (.iconst 0, 1) := by decide +kernel
theorem dX7_form_20 : decode cX7_form 20 = .ok (.putfield 103, 3) := by decide +kernel
theorem dX7_form_23 : decode cX7_form 23 = .ok (.aload_n 0, 1) := by decide +kernel
theorem dX7_form_24 : decode cX7_form 24 = .ok (.iconst 0, 1) := by decide +kernel
theorem dX7_form_25 : decode cX7_form 25 = .ok (.putfield 106, 3) := by decide +kernel
theorem dX7_form_28 : decode cX7_form 28 = .ok (.iconst 1, 1) := by decide +kernel
theorem dX7_form_29 : decode cX7_form 29 = .ok (.istore_n 3, 1) := by decide +kernel
theorem dX7_form_30 : decode cX7_form 30 = .ok (.iload_n 3, 1) := by decide +kernel
theorem dX7_form_31 : decode cX7_form 31 = .ok (.iload_n 2, 1) := by decide +kernel
theorem dX7_form_32 : decode cX7_form 32 = .ok (.iload_n 2, 1) := by decide +kernel
theorem dX7_form_33 : decode cX7_form 33 = .ok (.imul, 1) := by decide +kernel
theorem dX7_form_34 : decode cX7_form 34 = .ok (.iload_n 2, 1) := by decide +kernel
theorem dX7_form_35 : decode cX7_form 35 = .ok (.imul, 1) := by decide +kernel
theorem dX7_form_36 : decode cX7_form 36 = .ok (.iload_n 2, 1) := by decide +kernel
theorem dX7_form_37 : decode cX7_form 37 = .ok (.imul, 1) := by decide +kernel
theorem dX7_form_38 : decode cX7_form 38 = .ok (.if_icmp .ge 144, 3) := by decide +kernel
theorem dX7_form_41 : decode cX7_form 41 = .ok (.iload_n 3, 1) := by decide +kernel
theorem dX7_form_42 : decode cX7_form 42 = .ok (.iload_n 2, 1) := by decide +kernel
theorem dX7_form_43 : decode cX7_form 43 = .ok (.iload_n 2, 1) := by decide +kernel
theorem dX7_form_44 : decode cX7_form 44 = .ok (.imul, 1) := by decide +kernel
theorem dX7_form_45 : decode cX7_form 45 = .ok (.iload_n 2, 1) := by decide +kernel
theorem dX7_form_46 : decode cX7_form 46 = .ok (.imul, 1) := by decide +kernel
theorem dX7_form_47 : decode cX7_form 47 = .ok (.idiv, 1) := by decide +kernel
theorem dX7_form_48 : decode cX7_form 48 = .ok (.istore 4, 2) := by decide +kernel
theorem dX7_form_50 : decode cX7_form 50 = .ok (.iload_n 3, 1) := by decide +kernel
theorem dX7_form_51 : decode cX7_form 51 = .ok (.iload_n 2, 1) := by decide +kernel
theorem dX7_form_52 : decode cX7_form 52 = .ok (.iload_n 2, 1) := by decide +kernel
theorem dX7_form_53 : decode cX7_form 53 = .ok (.imul, 1) := by decide +kernel
theorem dX7_form_54 : decode cX7_form 54 = .ok (.idiv, 1) := by decide +kernel
theorem dX7_form_55 : decode cX7_form 55 = .ok (.iload_n 2, 1) := by decide +kernel
theorem dX7_form_56 : decode cX7_form 56 = .ok (.irem, 1) := by decide +kernel
theorem dX7_form_57 : decode cX7_form 57 = .ok (.istore 5, 2) := by decide +kernel
theorem dX7_form_59 : decode cX7_form 59 = .ok (.iload_n 3, 1) := by decide +kernel
theorem dX7_form_60 : decode cX7_form 60 = .ok (.iload_n 2, 1) := by decide +kernel
theorem dX7_form_61 : decode cX7_form 61 = .ok (.idiv, 1) := by decide +kernel
theorem dX7_form_62 : decode cX7_form 62 = .ok (.iload_n 2, 1) := by decide +kernel
theorem dX7_form_63 : decode cX7_form 63 = .ok (.irem, 1) := by decide +kernel
theorem dX7_form_64 : decode cX7_form 64 = .ok (.istore 6, 2) := by decide +kernel
theorem dX7_form_66 : decode cX7_form 66 = .ok (.iload 4, 2) := by decide +kernel
theorem dX7_form_68 : decode cX7_form 68 = .ok (.ifCond .le 8, 3) := by decide +kernel
theorem dX7_form_71 : decode cX7_form 71 = .ok (.iload 4, 2) := by decide +kernel
theorem dX7_form_73 : decode cX7_form 73 = .ok (.goto 26, 3) := by decide +kernel
theorem dX7_form_76 : decode cX7_form 76 = .ok (.iload 5, 2) := by decide +kernel
theorem dX7_form_78 : decode cX7_form 78 = .ok (.ifCond .le 8, 3) := by decide +kernel
theorem dX7_form_81 : decode cX7_form 81 = .ok (.iload 5, 2) := by decide +kernel
theorem dX7_form_83 : decode cX7_form 83 = .ok (.goto 16, 3) := by decide +kernel
theorem dX7_form_86 : decode cX7_form 86 = .ok (.iload 6, 2) := by decide +kernel
theorem dX7_form_88 : decode cX7_form 88 = .ok (.ifCond .le 8, 3) := by decide +kernel
theorem dX7_form_91 : decode cX7_form 91 = .ok (.iload 6, 2) := by decide +kernel
theorem dX7_form_93 : decode cX7_form 93 = .ok (.goto 6, 3) := by decide +kernel
theorem dX7_form_96 : decode cX7_form 96 = .ok (.iload_n 3, 1) := by decide +kernel
theorem dX7_form_97 : decode cX7_form 97 = .ok (.iload_n 2, 1) := by decide +kernel
theorem dX7_form_98 : decode cX7_form 98 = .ok (.irem, 1) := by decide +kernel
theorem dX7_form_99 : decode cX7_form 99 = .ok (.istore 7, 2) := by decide +kernel
theorem dX7_form_101 : decode cX7_form 101 = .ok (.iload 7, 2) := by decide +kernel
theorem dX7_form_103 : decode cX7_form 103 = .ok (.iconst 1, 1) := by decide +kernel
theorem dX7_form_104 : decode cX7_form 104 = .ok (.if_icmp .ne 72, 3) := by decide +kernel
theorem dX7_form_107 : decode cX7_form 107 = .ok (.aload_n 0, 1) := by decide +kernel
theorem dX7_form_108 : decode cX7_form 108 = .ok (.getfield 32, 3) := by decide +kernel
theorem dX7_form_111 : decode cX7_form 111 = .ok (.iconst 4, 1) := by decide +kernel
theorem dX7_form_112 : decode cX7_form 112 = .ok (.aload_n 0, 1) := by decide +kernel
theorem dX7_form_113 : decode cX7_form 113 = .ok (.getfield 103, 3) := by decide +kernel
theorem dX7_form_116 : decode cX7_form 116 = .ok (.imul, 1) := by decide +kernel
theorem dX7_form_117 : decode cX7_form 117 = .ok (.iload 4, 2) := by decide +kernel
theorem dX7_form_119 : decode cX7_form 119 = .ok (.iastore, 1) := by decide +kernel
theorem dX7_form_120 : decode cX7_form 120 = .ok (.aload_n 0, 1) := by decide +kernel
theorem dX7_form_121 : decode cX7_form 121 = .ok (.getfield 32, 3) := by decide +kernel
theorem dX7_form_124 : decode cX7_form 124 = .ok (.iconst 4, 1) := by decide +kernel
theorem dX7_form_125 : decode cX7_form 125 = .ok (.aload_n 0, 1) := by decide +kernel
theorem dX7_form_126 : decode cX7_form 126 = .ok (.getfield 103, 3) := by decide +kernel
theorem dX7_form_129 : decode cX7_form 129 = .ok (.imul, 1) := by decide +kernel
theorem dX7_form_130 : decode cX7_form 130 = .ok (.iconst 1, 1) := by decide +kernel
theorem dX7_form_131 : decode cX7_form 131 = .ok (.iadd, 1) := by decide +kernel
theorem dX7_form_132 : decode cX7_form 132 = .ok (.iload 5, 2) := by decide +kernel
theorem dX7_form_134 : decode cX7_form 134 = .ok (.iastore, 1) := by decide +kernel
theorem dX7_form_135 : decode cX7_form 135 = .ok (.aload_n 0, 1) := by decide +kernel
theorem dX7_form_136 : decode cX7_form 136 = .ok (.getfield 32, 3) := by decide +kernel
theorem dX7_form_139 : decode cX7_form 139 = .ok (.iconst 4, 1) := by decide +kernel
theorem dX7_form_140 : decode cX7_form 140 = .ok (.aload_n 0, 1) := by decide +kernel
theorem dX7_form_141 : decode cX7_form 141 = .ok (.getfield 103, 3) := by decide +kernel
theorem dX7_form_144 : decode cX7_form 144 = .ok (.imul, 1) := by decide +kernel
theorem dX7_form_145 : decode cX7_form 145 = .ok (.iconst 2, 1) := by decide +kernel
theorem dX7_form_146 : decode cX7_form 146 = .ok (.iadd, 1) := by decide +kernel
theorem dX7_form_147 : decode cX7_form 147 = .ok (.iload 6, 2) := by decide +kernel
theorem dX7_form_149 : decode cX7_form 149 = .ok (.iastore, 1) := by decide +kernel
theorem dX7_form_150 : decode cX7_form 150 = .ok (.aload_n 0, 1) := by decide +kernel
theorem dX7_form_151 : decode cX7_form 151 = .ok (.getfield 32, 3) := by decide +kernel
theorem dX7_form_154 : decode cX7_form 154 = .ok (.iconst 4, 1) := by decide +kernel
theorem dX7_form_155 : decode cX7_form 155 = .ok (.aload_n 0, 1) := by decide +kernel
theorem dX7_form_156 : decode cX7_form 156 = .ok (.getfield 103, 3) := by decide +kernel
theorem dX7_form_159 : decode cX7_form 159 = .ok (.imul, 1) := by decide +kernel
theorem dX7_form_160 : decode cX7_form 160 = .ok (.iconst 3, 1) := by decide +kernel
theorem dX7_form_161 : decode cX7_form 161 = .ok (.iadd, 1) := by decide +kernel
theorem dX7_form_162 : decode cX7_form 162 = .ok (.iload_n 3, 1) := by decide +kernel
theorem dX7_form_163 : decode cX7_form 163 = .ok (.iload_n 2, 1) := by decide +kernel
theorem dX7_form_164 : decode cX7_form 164 = .ok (.irem, 1) := by decide +kernel
theorem dX7_form_165 : decode cX7_form 165 = .ok (.iastore, 1) := by decide +kernel
theorem dX7_form_166 : decode cX7_form 166 = .ok (.aload_n 0, 1) := by decide +kernel
theorem dX7_form_167 : decode cX7_form 167 = .ok (.dup, 1) := by decide +kernel
theorem dX7_form_168 : decode cX7_form 168 = .ok (.getfield 103, 3) := by decide +kernel
theorem dX7_form_171 : decode cX7_form 171 = .ok (.iconst 1, 1) := by decide +kernel
theorem dX7_form_172 : decode cX7_form 172 = .ok (.iadd, 1) := by decide +kernel
theorem dX7_form_173 : decode cX7_form 173 = .ok (.putfield 103, 3) := by decide +kernel
theorem dX7_form_176 : decode cX7_form 176 = .ok (.iinc 3 1, 3) := by decide +kernel
theorem dX7_form_179 : decode cX7_form 179 = .ok (.goto (-149), 3) := by decide +kernel
theorem dX7_form_182 : decode cX7_form 182 = .ok (.iconst 0, 1) := by decide +kernel
theorem dX7_form_183 : decode cX7_form 183 = .ok (.istore_n 3, 1) := by decide +kernel
theorem dX7_form_184 : decode cX7_form 184 = .ok (.iload_n 3, 1) := by decide +kernel
theorem dX7_form_185 : decode cX7_form 185 = .ok (.aload_n 0, 1) := by decide +kernel
theorem dX7_form_186 : decode cX7_form 186 = .ok (.getfield 103, 3) := by decide +kernel
theorem dX7_form_189 : decode cX7_form 189 = .ok (.if_icmp .ge 103, 3) := by decide +kernel
theorem dX7_form_192 : decode cX7_form 192 = .ok (.iload_n 3, 1) := by decide +kernel
theorem dX7_form_193 : decode cX7_form 193 = .ok (.iconst 1, 1) := by decide +kernel
theorem dX7_form_194 : decode cX7_form 194 = .ok (.iadd, 1) := by decide +kernel
theorem dX7_form_195 : decode cX7_form 195 = .ok (.istore 4, 2) := by decide +kernel
theorem dX7_form_197 : decode cX7_form 197 = .ok (.iload 4, 2) := by decide +kernel
theorem dX7_form_199 : decode cX7_form 199 = .ok (.aload_n 0, 1) := by decide +kernel
theorem dX7_form_200 : decode cX7_form 200 = .ok (.getfield 103, 3) := by decide +kernel
theorem dX7_form_203 : decode cX7_form 203 = .ok (.if_icmp .ge 83, 3) := by decide +kernel
theorem dX7_form_206 : decode cX7_form 206 = .ok (.aload_n 0, 1) := by decide +kernel
theorem dX7_form_207 : decode cX7_form 207 = .ok (.iload_n 3, 1) := by decide +kernel
theorem dX7_form_208 : decode cX7_form 208 = .ok (.iload 4, 2) := by decide +kernel
theorem dX7_form_210 : decode cX7_form 210 = .ok (.iload_n 2, 1) := by decide +kernel
theorem dX7_form_211 : decode cX7_form 211 = .ok (.invokevirtual 124, 3) := by decide +kernel
theorem dX7_form_214 : decode cX7_form 214 = .ok (.ifCond .eq 66, 3) := by decide +kernel
theorem dX7_form_217 : decode cX7_form 217 = .ok (.aload_n 0, 1) := by decide +kernel
theorem dX7_form_218 : decode cX7_form 218 = .ok (.iload_n 3, 1) := by decide +kernel
theorem dX7_form_219 : decode cX7_form 219 = .ok (.iload 4, 2) := by decide +kernel
theorem dX7_form_221 : decode cX7_form 221 = .ok (.iload_n 2, 1) := by decide +kernel
theorem dX7_form_222 : decode cX7_form 222 = .ok (.invokevirtual 127, 3) := by decide +kernel
theorem dX7_form_225 : decode cX7_form 225 = .ok (.lstore 5, 2) := by decide +kernel
theorem dX7_form_227 : decode cX7_form 227 = .ok (.lload 5, 2) := by decide +kernel
theorem dX7_form_229 : decode cX7_form 229 = .ok (.lconst 1, 1) := by decide +kernel
theorem dX7_form_230 : decode cX7_form 230 = .ok (.iload_n 3, 1) := by decide +kernel
theorem dX7_form_231 : decode cX7_form 231 = .ok (.lshl, 1) := by decide +kernel
theorem dX7_form_232 : decode cX7_form 232 = .ok (.lconst 1, 1) := by decide +kernel
theorem dX7_form_233 : decode cX7_form 233 = .ok (.lsub, 1) := by decide +kernel
theorem dX7_form_234 : decode cX7_form 234 = .ok (.land, 1) := by decide +kernel
theorem dX7_form_235 : decode cX7_form 235 = .ok (.lconst 0, 1) := by decide +kernel
theorem dX7_form_236 : decode cX7_form 236 = .ok (.lcmp, 1) := by decide +kernel
theorem dX7_form_237 : decode cX7_form 237 = .ok (.ifCond .ne 29, 3) := by decide +kernel
theorem dX7_form_240 : decode cX7_form 240 = .ok (.lload 5, 2) := by decide +kernel
theorem dX7_form_242 : decode cX7_form 242 = .ok (.lconst 1, 1) := by decide +kernel
theorem dX7_form_243 : decode cX7_form 243 = .ok (.iload 4, 2) := by decide +kernel
theorem dX7_form_245 : decode cX7_form 245 = .ok (.lshl, 1) := by decide +kernel
theorem dX7_form_246 : decode cX7_form 246 = .ok (.lconst 1, 1) := by decide +kernel
theorem dX7_form_247 : decode cX7_form 247 = .ok (.lsub, 1) := by decide +kernel
theorem dX7_form_248 : decode cX7_form 248 = .ok (.land, 1) := by decide +kernel
theorem dX7_form_249 : decode cX7_form 249 = .ok (.lconst 1, 1) := by decide +kernel
theorem dX7_form_250 : decode cX7_form 250 = .ok (.iload_n 3, 1) := by decide +kernel
theorem dX7_form_251 : decode cX7_form 251 = .ok (.lshl, 1) := by decide +kernel
theorem dX7_form_252 : decode cX7_form 252 = .ok (.ldc2_w 131, 3) := by decide +kernel
theorem dX7_form_255 : decode cX7_form 255 = .ok (.lxor, 1) := by decide +kernel
theorem dX7_form_256 : decode cX7_form 256 = .ok (.land, 1) := by decide +kernel
theorem dX7_form_257 : decode cX7_form 257 = .ok (.lconst 0, 1) := by decide +kernel
theorem dX7_form_258 : decode cX7_form 258 = .ok (.lcmp, 1) := by decide +kernel
theorem dX7_form_259 : decode cX7_form 259 = .ok (.ifCond .ne 7, 3) := by decide +kernel
theorem dX7_form_262 : decode cX7_form 262 = .ok (.iconst 1, 1) := by decide +kernel
theorem dX7_form_263 : decode cX7_form 263 = .ok (.goto 4, 3) := by decide +kernel
theorem dX7_form_266 : decode cX7_form 266 = .ok (.iconst 0, 1) := by decide +kernel
theorem dX7_form_267 : decode cX7_form 267 = .ok (.istore 7, 2) := by decide +kernel
theorem dX7_form_269 : decode cX7_form 269 = .ok (.iload 7, 2) := by decide +kernel
theorem dX7_form_271 : decode cX7_form 271 = .ok (.ifCond .eq 9, 3) := by decide +kernel
theorem dX7_form_274 : decode cX7_form 274 = .ok (.aload_n 0, 1) := by decide +kernel
theorem dX7_form_275 : decode cX7_form 275 = .ok (.lload 5, 2) := by decide +kernel
theorem dX7_form_277 : decode cX7_form 277 = .ok (.invokevirtual 120, 3) := by decide +kernel
theorem dX7_form_280 : decode cX7_form 280 = .ok (.iinc 4 1, 3) := by decide +kernel
theorem dX7_form_283 : decode cX7_form 283 = .ok (.goto (-86), 3) := by decide +kernel
theorem dX7_form_286 : decode cX7_form 286 = .ok (.iinc 3 1, 3) := by decide +kernel
theorem dX7_form_289 : decode cX7_form 289 = .ok (.goto (-105), 3) := by decide +kernel
theorem dX7_form_292 : decode cX7_form 292 = .ok (.aload_n 0, 1) := by decide +kernel
theorem dX7_form_293 : decode cX7_form 293 = .ok (.iload_n 1, 1) := by decide +kernel
theorem dX7_form_294 : decode cX7_form 294 = .ok (.iconst 2, 1) := by decide +kernel
theorem dX7_form_295 : decode cX7_form 295 = .ok (.iload_n 2, 1) := by decide +kernel
theorem dX7_form_296 : decode cX7_form 296 = .ok (.invokevirtual 109, 3) := by decide +kernel
theorem dX7_form_299 : decode cX7_form 299 = .ok (.ireturn, 1) := by decide +kernel
theorem dX7_lineOf_0 : decode cX7_lineOf 0 = .ok (.lconst 1, 1) := by decide +kernel
theorem dX7_lineOf_1 : decode cX7_lineOf 1 = .ok (.iload_n 1, 1) := by decide +kernel
theorem dX7_lineOf_2 : decode cX7_lineOf 2 = .ok (.lshl, 1) := by decide +kernel
theorem dX7_lineOf_3 : decode cX7_lineOf 3 = .ok (.lconst 1, 1) := by decide +kernel
theorem dX7_lineOf_4 : decode cX7_lineOf 4 = .ok (.iload_n 2, 1) := by decide +kernel
theorem dX7_lineOf_5 : decode cX7_lineOf 5 = .ok (.lshl, 1) := by decide +kernel
theorem dX7_lineOf_6 : decode cX7_lineOf 6 = .ok (.lor, 1) := by decide +kernel
theorem dX7_lineOf_7 : decode cX7_lineOf 7 = .ok (.lstore 4, 2) := by decide +kernel
theorem dX7_lineOf_9 : decode cX7_lineOf 9 = .ok (.iconst 0, 1) := by decide +kernel
theorem dX7_lineOf_10 : decode cX7_lineOf 10 = .ok (.istore 6, 2) := by decide +kernel
theorem dX7_lineOf_12 : decode cX7_lineOf 12 = .ok (.iload 6, 2) := by decide +kernel
theorem dX7_lineOf_14 : decode cX7_lineOf 14 = .ok (.aload_n 0, 1) := by decide +kernel
theorem dX7_lineOf_15 : decode cX7_lineOf 15 = .ok (.getfield 103, 3) := by decide +kernel
theorem dX7_lineOf_18 : decode cX7_lineOf 18 = .ok (.if_icmp .ge 134, 3) := by decide +kernel
theorem dX7_lineOf_21 : decode cX7_lineOf 21 = .ok (.iconst 1, 1) := by decide +kernel
theorem dX7_lineOf_22 : decode cX7_lineOf 22 = .ok (.istore 7, 2) := by decide +kernel
theorem dX7_lineOf_24 : decode cX7_lineOf 24 = .ok (.iload 7, 2) := by decide +kernel
theorem dX7_lineOf_26 : decode cX7_lineOf 26 = .ok (.iload_n 3, 1) := by decide +kernel
theorem dX7_lineOf_27 : decode cX7_lineOf 27 = .ok (.if_icmp .ge 119, 3) := by decide +kernel
theorem dX7_lineOf_30 : decode cX7_lineOf 30 = .ok (.iconst 1, 1) := by decide +kernel
theorem dX7_lineOf_31 : decode cX7_lineOf 31 = .ok (.istore 8, 2) := by decide +kernel
theorem dX7_lineOf_33 : decode cX7_lineOf 33 = .ok (.iload 8, 2) := by decide +kernel
theorem dX7_lineOf_35 : decode cX7_lineOf 35 = .ok (.iload_n 3, 1) := by decide +kernel
theorem dX7_lineOf_36 : decode cX7_lineOf 36 = .ok (.if_icmp .ge 104, 3) := by decide +kernel
theorem dX7_lineOf_39 : decode cX7_lineOf 39 = .ok (.iconst 1, 1) := by decide +kernel
theorem dX7_lineOf_40 : decode cX7_lineOf 40 = .ok (.istore 9, 2) := by decide +kernel
theorem dX7_lineOf_42 : decode cX7_lineOf 42 = .ok (.iconst 0, 1) := by decide +kernel
theorem dX7_lineOf_43 : decode cX7_lineOf 43 = .ok (.istore 10, 2) := by decide +kernel
theorem dX7_lineOf_45 : decode cX7_lineOf 45 = .ok (.iload 10, 2) := by decide +kernel
theorem dX7_lineOf_47 : decode cX7_lineOf 47 = .ok (.iconst 4, 1) := by decide +kernel
theorem dX7_lineOf_48 : decode cX7_lineOf 48 = .ok (.if_icmp .ge 68, 3) := by decide +kernel
theorem dX7_lineOf_51 : decode cX7_lineOf 51 = .ok (.iload 9, 2) := by decide +kernel
theorem dX7_lineOf_53 : decode cX7_lineOf 53 = .ok (.ifCond .eq 54, 3) := by decide +kernel
theorem dX7_lineOf_56 : decode cX7_lineOf 56 = .ok (.iload 7, 2) := by decide +kernel
theorem dX7_lineOf_58 : decode cX7_lineOf 58 = .ok (.aload_n 0, 1) := by decide +kernel
theorem dX7_lineOf_59 : decode cX7_lineOf 59 = .ok (.getfield 32, 3) := by decide +kernel
theorem dX7_lineOf_62 : decode cX7_lineOf 62 = .ok (.iconst 4, 1) := by decide +kernel
theorem dX7_lineOf_63 : decode cX7_lineOf 63 = .ok (.iload_n 1, 1) := by decide +kernel
theorem dX7_lineOf_64 : decode cX7_lineOf 64 = .ok (.imul, 1) := by decide +kernel
theorem dX7_lineOf_65 : decode cX7_lineOf 65 = .ok (.iload 10, 2) := by decide +kernel
theorem dX7_lineOf_67 : decode cX7_lineOf 67 = .ok (.iadd, 1) := by decide +kernel
theorem dX7_lineOf_68 : decode cX7_lineOf 68 = .ok (.iaload, 1) := by decide +kernel
theorem dX7_lineOf_69 : decode cX7_lineOf 69 = .ok (.imul, 1) := by decide +kernel
theorem dX7_lineOf_70 : decode cX7_lineOf 70 = .ok (.iload 8, 2) := by decide +kernel
theorem dX7_lineOf_72 : decode cX7_lineOf 72 = .ok (.aload_n 0, 1) := by decide +kernel
theorem dX7_lineOf_73 : decode cX7_lineOf 73 = .ok (.getfield 32, 3) := by decide +kernel
theorem dX7_lineOf_76 : decode cX7_lineOf 76 = .ok (.iconst 4, 1) := by decide +kernel
theorem dX7_lineOf_77 : decode cX7_lineOf 77 = .ok (.iload_n 2, 1) := by decide +kernel
theorem dX7_lineOf_78 : decode cX7_lineOf 78 = .ok (.imul, 1) := by decide +kernel
theorem dX7_lineOf_79 : decode cX7_lineOf 79 = .ok (.iload 10, 2) := by decide +kernel
theorem dX7_lineOf_81 : decode cX7_lineOf 81 = .ok (.iadd, 1) := by decide +kernel
theorem dX7_lineOf_82 : decode cX7_lineOf 82 = .ok (.iaload, 1) := by decide +kernel
theorem dX7_lineOf_83 : decode cX7_lineOf 83 = .ok (.imul, 1) := by decide +kernel
theorem dX7_lineOf_84 : decode cX7_lineOf 84 = .ok (.iadd, 1) := by decide +kernel
theorem dX7_lineOf_85 : decode cX7_lineOf 85 = .ok (.aload_n 0, 1) := by decide +kernel
theorem dX7_lineOf_86 : decode cX7_lineOf 86 = .ok (.getfield 32, 3) := by decide +kernel
theorem dX7_lineOf_89 : decode cX7_lineOf 89 = .ok (.iconst 4, 1) := by decide +kernel
theorem dX7_lineOf_90 : decode cX7_lineOf 90 = .ok (.iload 6, 2) := by decide +kernel
theorem dX7_lineOf_92 : decode cX7_lineOf 92 = .ok (.imul, 1) := by decide +kernel
theorem dX7_lineOf_93 : decode cX7_lineOf 93 = .ok (.iload 10, 2) := by decide +kernel
theorem dX7_lineOf_95 : decode cX7_lineOf 95 = .ok (.iadd, 1) := by decide +kernel
theorem dX7_lineOf_96 : decode cX7_lineOf 96 = .ok (.iaload, 1) := by decide +kernel
theorem dX7_lineOf_97 : decode cX7_lineOf 97 = .ok (.isub, 1) := by decide +kernel
theorem dX7_lineOf_98 : decode cX7_lineOf 98 = .ok (.iload_n 3, 1) := by decide +kernel
theorem dX7_lineOf_99 : decode cX7_lineOf 99 = .ok (.irem, 1) := by decide +kernel
theorem dX7_lineOf_100 : decode cX7_lineOf 100 = .ok (.ifCond .ne 7, 3) := by decide +kernel
theorem dX7_lineOf_103 : decode cX7_lineOf 103 = .ok (.iconst 1, 1) := by decide +kernel
theorem dX7_lineOf_104 : decode cX7_lineOf 104 = .ok (.goto 4, 3) := by decide +kernel
theorem dX7_lineOf_107 : decode cX7_lineOf 107 = .ok (.iconst 0, 1) := by decide +kernel
theorem dX7_lineOf_108 : decode cX7_lineOf 108 = .ok (.istore 9, 2) := by decide +kernel
theorem dX7_lineOf_110 : decode cX7_lineOf 110 = .ok (.iinc 10 1, 3) := by decide +kernel
theorem dX7_lineOf_113 : decode cX7_lineOf 113 = .ok (.goto (-68), 3) := by decide +kernel
theorem dX7_lineOf_116 : decode cX7_lineOf 116 = .ok (.lload 4, 2) := by decide +kernel
theorem dX7_lineOf_118 : decode cX7_lineOf 118 = .ok (.iload 9, 2) := by decide +kernel
theorem dX7_lineOf_120 : decode cX7_lineOf 120 = .ok (.ifCond .eq 10, 3) := by decide +kernel
theorem dX7_lineOf_123 : decode cX7_lineOf 123 = .ok (.lconst 1, 1) := by decide +kernel
theorem dX7_lineOf_124 : decode cX7_lineOf 124 = .ok (.iload 6, 2) := by decide +kernel
theorem dX7_lineOf_126 : decode cX7_lineOf 126 = .ok (.lshl, 1) := by decide +kernel
theorem dX7_lineOf_127 : decode cX7_lineOf 127 = .ok (.goto 4, 3) := by decide +kernel
theorem dX7_lineOf_130 : decode cX7_lineOf 130 = .ok (.lconst 0, 1) := by decide +kernel
theorem dX7_lineOf_131 : decode cX7_lineOf 131 = .ok (.lor, 1) := by decide +kernel
theorem dX7_lineOf_132 : decode cX7_lineOf 132 = .ok (.lstore 4, 2) := by decide +kernel
theorem dX7_lineOf_134 : decode cX7_lineOf 134 = .ok (.iinc 8 1, 3) := by decide +kernel
theorem dX7_lineOf_137 : decode cX7_lineOf 137 = .ok (.goto (-104), 3) := by decide +kernel
theorem dX7_lineOf_140 : decode cX7_lineOf 140 = .ok (.iinc 7 1, 3) := by decide +kernel
theorem dX7_lineOf_143 : decode cX7_lineOf 143 = .ok (.goto (-119), 3) := by decide +kernel
theorem dX7_lineOf_146 : decode cX7_lineOf 146 = .ok (.iinc 6 1, 3) := by decide +kernel
theorem dX7_lineOf_149 : decode cX7_lineOf 149 = .ok (.goto (-137), 3) := by decide +kernel
theorem dX7_lineOf_152 : decode cX7_lineOf 152 = .ok (.lload 4, 2) := by decide +kernel
theorem dX7_lineOf_154 : decode cX7_lineOf 154 = .ok (.lreturn, 1) := by decide +kernel
set_option maxRecDepth 20000 in
theorem ggX7_through_X7_has : GoodIn wsX7_through wsX7_has := goodIn_r _ [6] (by decide +kernel) (by decide +kernel)
set_option maxRecDepth 20000 in
theorem gX7_through_X7_has : GoodIn wsX7_through (va_wsS RX7 133 yX7_has wsX7_has) := goodIn_app (goodIn_of _ (by decide +kernel)) ggX7_through_X7_has
theorem dX7_through_0 : decode cX7_through 0 = .ok (.lconst 0, 1) := by decide +kernel
theorem dX7_through_1 : decode cX7_through 1 = .ok (.lstore_n 3, 1) := by decide +kernel
theorem dX7_through_2 : decode cX7_through 2 = .ok (.iconst 0, 1) := by decide +kernel
theorem dX7_through_3 : decode cX7_through 3 = .ok (.istore 5, 2) := by decide +kernel
theorem dX7_through_5 : decode cX7_through 5 = .ok (.iload 5, 2) := by decide +kernel
theorem dX7_through_7 : decode cX7_through 7 = .ok (.aload_n 0, 1) := by decide +kernel
theorem dX7_through_8 : decode cX7_through 8 = .ok (.getfield 16, 3) := by decide +kernel
theorem dX7_through_11 : decode cX7_through 11 = .ok (.iload_n 1, 1) := by decide +kernel
theorem dX7_through_12 : decode cX7_through 12 = .ok (.iaload, 1) := by decide +kernel
theorem dX7_through_13 : decode cX7_through 13 = .ok (.if_icmp .ge 39, 3) := by decide +kernel
theorem dX7_through_16 : decode cX7_through 16 = .ok (.lload_n 3, 1) := by decide +kernel
theorem dX7_through_17 : decode cX7_through 17 = .ok (.aload_n 0, 1) := by decide +kernel
theorem dX7_through_18 : decode cX7_through 18 = .ok (.getfield 25, 3) := by decide +kernel
theorem dX7_through_21 : decode cX7_through 21 = .ok (.bipush 45, 2) := by decide +kernel
theorem dX7_through_23 : decode cX7_through 23 = .ok (.iload_n 1, 1) := by decide +kernel
theorem dX7_through_24 : decode cX7_through 24 = .ok (.imul, 1) := by decide +kernel
theorem dX7_through_25 : decode cX7_through 25 = .ok (.iload 5, 2) := by decide +kernel
theorem dX7_through_27 : decode cX7_through 27 = .ok (.iadd, 1) := by decide +kernel
theorem dX7_through_28 : decode cX7_through 28 = .ok (.laload, 1) := by decide +kernel
theorem dX7_through_29 : decode cX7_through 29 = .ok (.iload_n 2, 1) := by decide +kernel
theorem dX7_through_30 : decode cX7_through 30 = .ok (.invokestatic 133, 3) := by decide +kernel
theorem dX7_through_33 : decode cX7_through 33 = .ok (.ifCond .eq 10, 3) := by decide +kernel
theorem dX7_through_36 : decode cX7_through 36 = .ok (.lconst 1, 1) := by decide +kernel
theorem dX7_through_37 : decode cX7_through 37 = .ok (.iload 5, 2) := by decide +kernel
theorem dX7_through_39 : decode cX7_through 39 = .ok (.lshl, 1) := by decide +kernel
theorem dX7_through_40 : decode cX7_through 40 = .ok (.goto 4, 3) := by decide +kernel
theorem dX7_through_43 : decode cX7_through 43 = .ok (.lconst 0, 1) := by decide +kernel
theorem dX7_through_44 : decode cX7_through 44 = .ok (.lor, 1) := by decide +kernel
theorem dX7_through_45 : decode cX7_through 45 = .ok (.lstore_n 3, 1) := by decide +kernel
theorem dX7_through_46 : decode cX7_through 46 = .ok (.iinc 5 1, 3) := by decide +kernel
theorem dX7_through_49 : decode cX7_through 49 = .ok (.goto (-44), 3) := by decide +kernel
theorem dX7_through_52 : decode cX7_through 52 = .ok (.lload_n 3, 1) := by decide +kernel
theorem dX7_through_53 : decode cX7_through 53 = .ok (.lreturn, 1) := by decide +kernel
set_option maxRecDepth 20000 in
theorem ggX7_dual_X7_isNumber : GoodIn wsX7_dual wsX7_isNumber := goodIn_r _ [9, 10, 11, 8, 12] (by decide +kernel) (by decide +kernel)
set_option maxRecDepth 20000 in
theorem gX7_dual_X7_isNumber : GoodIn wsX7_dual (va_wsS RX7 95 yX7_isNumber wsX7_isNumber) := goodIn_app (goodIn_of _ (by decide +kernel)) ggX7_dual_X7_isNumber
set_option maxRecDepth 20000 in
theorem ggX7_dual_X7_looked : GoodIn wsX7_dual wsX7_looked := goodIn_r _ [16, 4, 6, 7, 8, 9, 10, 11, 12, 17, 18, 19, 20, 21, 22, 44, 45, 46, 47, 48, 49, 50, 51, 52, 53, 54, 55, 56, 57, 58, 59, 60, 61, 62, 63, 64, 65, 66, 67, 68, 69, 70, 71, 72, 73, 74, 75, 76] (by decide +kernel) (by decide +kernel)
set_option maxRecDepth 20000 in
theorem gX7_dual_X7_looked : GoodIn wsX7_dual (wsV RX7 137 RX7 yX7_looked wsX7_looked) := goodIn_app (goodIn_of _ (by decide +kernel)) ggX7_dual_X7_looked
set_option maxRecDepth 20000 in
theorem ggX7_dual_X7_through : GoodIn wsX7_dual wsX7_through := goodIn_r _ [26, 1, 27, 28, 29, 8, 30, 44, 45, 46, 47, 48, 49, 50, 51, 52, 53, 54, 55, 56, 57, 58, 59, 60, 61, 62, 63, 64, 65, 66, 67, 68, 69, 70, 71, 72, 73, 74, 75, 76] (by decide +kernel) (by decide +kernel)
set_option maxRecDepth 20000 in
theorem gX7_dual_X7_through : GoodIn wsX7_dual (wsV RX7 140 RX7 yX7_through wsX7_through) := goodIn_app (goodIn_of _ (by decide +kernel)) ggX7_dual_X7_through
set_option maxRecDepth 20000 in
theorem ggX7_dual_X7_add : GoodIn wsX7_dual wsX7_add := goodIn_r _ [34, 5, 3, 44, 45, 46, 47, 48, 49, 50, 51, 52, 53, 54, 55, 56, 57, 58, 59, 60, 61, 62, 63, 64, 65, 66, 67, 68, 69, 70, 71, 72, 73, 74, 75, 76] (by decide +kernel) (by decide +kernel)
set_option maxRecDepth 20000 in
theorem gX7_dual_X7_add : GoodIn wsX7_dual (wsV RX7 120 RX7 yX7_add wsX7_add) := goodIn_app (goodIn_of _ (by decide +kernel)) ggX7_dual_X7_add
set_option maxRecDepth 20000 in
theorem ggX7_dual_X7_bits : GoodIn wsX7_dual wsX7_bits := goodIn_r _ [37] (by decide +kernel) (by decide +kernel)
set_option maxRecDepth 20000 in
theorem gX7_dual_X7_bits : GoodIn wsX7_dual (va_wsS RX7 116 yX7_bits wsX7_bits) := goodIn_app (goodIn_of _ (by decide +kernel)) ggX7_dual_X7_bits
set_option maxRecDepth 20000 in
theorem ggX7_dual_X7_keep : GoodIn wsX7_dual wsX7_keep := goodIn_r _ [41, 4, 2, 1, 3, 42, 43, 27, 5, 44, 45, 46, 47, 48, 49, 50, 51, 52, 53, 54, 55, 56, 57, 58, 59, 60, 61, 62, 63, 64, 65, 66, 67, 68, 69, 70, 71, 72, 73, 74, 75, 76] (by decide +kernel) (by decide +kernel)
set_option maxRecDepth 20000 in
theorem gX7_dual_X7_keep : GoodIn wsX7_dual (wsV RX7 109 RX7 yX7_keep wsX7_keep) := goodIn_app (goodIn_of _ (by decide +kernel)) ggX7_dual_X7_keep
theorem dX7_dual_0 : decode cX7_dual 0 = .ok (.iload_n 1, 1) := by decide +kernel
theorem dX7_dual_1 : decode cX7_dual 1 = .ok (.invokestatic 95, 3) := by decide +kernel
theorem dX7_dual_4 : decode cX7_dual 4 = .ok (.ifCond .eq 10, 3) := by decide +kernel
theorem dX7_dual_7 : decode cX7_dual 7 = .ok (.iload_n 2, 1) := by decide +kernel
theorem dX7_dual_8 : decode cX7_dual 8 = .ok (.invokestatic 95, 3) := by decide +kernel
theorem dX7_dual_11 : decode cX7_dual 11 = .ok (.ifCond .ne 5, 3) := by decide +kernel
theorem dX7_dual_14 : decode cX7_dual 14 = .ok (.iconst (-1), 1) := by decide +kernel
theorem dX7_dual_15 : decode cX7_dual 15 = .ok (.ireturn, 1) := by decide +kernel
theorem dX7_dual_16 : decode cX7_dual 16 = .ok (.aload_n 0, 1) := by decide +kernel
theorem dX7_dual_17 : decode cX7_dual 17 = .ok (.iload_n 1, 1) := by decide +kernel
theorem dX7_dual_18 : decode cX7_dual 18 = .ok (.invokevirtual 137, 3) := by decide +kernel
theorem dX7_dual_21 : decode cX7_dual 21 = .ok (.istore_n 3, 1) := by decide +kernel
theorem dX7_dual_22 : decode cX7_dual 22 = .ok (.iload_n 3, 1) := by decide +kernel
theorem dX7_dual_23 : decode cX7_dual 23 = .ok (.ifCond .ge 5, 3) := by decide +kernel
theorem dX7_dual_26 : decode cX7_dual 26 = .ok (.iload_n 3, 1) := by decide +kernel
theorem dX7_dual_27 : decode cX7_dual 27 = .ok (.ireturn, 1) := by decide +kernel
theorem dX7_dual_28 : decode cX7_dual 28 = .ok (.aload_n 0, 1) := by decide +kernel
theorem dX7_dual_29 : decode cX7_dual 29 = .ok (.aload_n 0, 1) := by decide +kernel
theorem dX7_dual_30 : decode cX7_dual 30 = .ok (.getfield 16, 3) := by decide +kernel
theorem dX7_dual_33 : decode cX7_dual 33 = .ok (.iload_n 1, 1) := by decide +kernel
theorem dX7_dual_34 : decode cX7_dual 34 = .ok (.iaload, 1) := by decide +kernel
theorem dX7_dual_35 : decode cX7_dual 35 = .ok (.putfield 103, 3) := by decide +kernel
theorem dX7_dual_38 : decode cX7_dual 38 = .ok (.aload_n 0, 1) := by decide +kernel
theorem dX7_dual_39 : decode cX7_dual 39 = .ok (.iconst 0, 1) := by decide +kernel
theorem dX7_dual_40 : decode cX7_dual 40 = .ok (.putfield 106, 3) := by decide +kernel
theorem dX7_dual_43 : decode cX7_dual 43 = .ok (.iconst 1, 1) := by decide +kernel
theorem dX7_dual_44 : decode cX7_dual 44 = .ok (.istore 4, 2) := by decide +kernel
theorem dX7_dual_46 : decode cX7_dual 46 = .ok (.iconst 0, 1) := by decide +kernel
theorem dX7_dual_47 : decode cX7_dual 47 = .ok (.istore 5, 2) := by decide +kernel
theorem dX7_dual_49 : decode cX7_dual 49 = .ok (.iload 5, 2) := by decide +kernel
theorem dX7_dual_51 : decode cX7_dual 51 = .ok (.aload_n 0, 1) := by decide +kernel
theorem dX7_dual_52 : decode cX7_dual 52 = .ok (.getfield 13, 3) := by decide +kernel
theorem dX7_dual_55 : decode cX7_dual 55 = .ok (.iload_n 1, 1) := by decide +kernel
theorem dX7_dual_56 : decode cX7_dual 56 = .ok (.iaload, 1) := by decide +kernel
theorem dX7_dual_57 : decode cX7_dual 57 = .ok (.if_icmp .ge 46, 3) := by decide +kernel
theorem dX7_dual_60 : decode cX7_dual 60 = .ok (.aload_n 0, 1) := by decide +kernel
theorem dX7_dual_61 : decode cX7_dual 61 = .ok (.aload_n 0, 1) := by decide +kernel
theorem dX7_dual_62 : decode cX7_dual 62 = .ok (.iload_n 1, 1) := by decide +kernel
theorem dX7_dual_63 : decode cX7_dual 63 = .ok (.iload 5, 2) := by decide +kernel
theorem dX7_dual_65 : decode cX7_dual 65 = .ok (.invokevirtual 140, 3) := by decide +kernel
theorem dX7_dual_68 : decode cX7_dual 68 = .ok (.invokevirtual 120, 3) := by decide +kernel
theorem dX7_dual_71 : decode cX7_dual 71 = .ok (.iload 4, 2) := by decide +kernel
theorem dX7_dual_73 : decode cX7_dual 73 = .ok (.ifCond .eq 21, 3) := by decide +kernel
theorem dX7_dual_76 : decode cX7_dual 76 = .ok (.aload_n 0, 1) := by decide +kernel
theorem dX7_dual_77 : decode cX7_dual 77 = .ok (.getfield 29, 3) := by decide +kernel
theorem dX7_dual_80 : decode cX7_dual 80 = .ok (.iload 5, 2) := by decide +kernel
theorem dX7_dual_82 : decode cX7_dual 82 = .ok (.laload, 1) := by decide +kernel
theorem dX7_dual_83 : decode cX7_dual 83 = .ok (.invokestatic 116, 3) := by decide +kernel
theorem dX7_dual_86 : decode cX7_dual 86 = .ok (.iconst 1, 1) := by decide +kernel
theorem dX7_dual_87 : decode cX7_dual 87 = .ok (.if_icmp .le 7, 3) := by decide +kernel
theorem dX7_dual_90 : decode cX7_dual 90 = .ok (.iconst 1, 1) := by decide +kernel
theorem dX7_dual_91 : decode cX7_dual 91 = .ok (.goto 4, 3) := by decide +kernel
theorem dX7_dual_94 : decode cX7_dual 94 = .ok (.iconst 0, 1) := by decide +kernel
theorem dX7_dual_95 : decode cX7_dual 95 = .ok (.istore 4, 2) := by decide +kernel
theorem dX7_dual_97 : decode cX7_dual 97 = .ok (.iinc 5 1, 3) := by decide +kernel
theorem dX7_dual_100 : decode cX7_dual 100 = .ok (.goto (-51), 3) := by decide +kernel
theorem dX7_dual_103 : decode cX7_dual 103 = .ok (.iload 4, 2) := by decide +kernel
theorem dX7_dual_105 : decode cX7_dual 105 = .ok (.ifCond .eq 13, 3) := by decide +kernel
theorem dX7_dual_108 : decode cX7_dual 108 = .ok (.aload_n 0, 1) := by decide +kernel
theorem dX7_dual_109 : decode cX7_dual 109 = .ok (.iload_n 2, 1) := by decide +kernel
theorem dX7_dual_110 : decode cX7_dual 110 = .ok (.iconst 3, 1) := by decide +kernel
theorem dX7_dual_111 : decode cX7_dual 111 = .ok (.iconst 0, 1) := by decide +kernel
theorem dX7_dual_112 : decode cX7_dual 112 = .ok (.invokevirtual 109, 3) := by decide +kernel
theorem dX7_dual_115 : decode cX7_dual 115 = .ok (.goto 5, 3) := by decide +kernel
theorem dX7_dual_118 : decode cX7_dual 118 = .ok (.bipush (-4), 2) := by decide +kernel
theorem dX7_dual_120 : decode cX7_dual 120 = .ok (.ireturn, 1) := by decide +kernel
set_option maxRecDepth 20000 in
theorem ggX7_nearTo_X7_has : GoodIn wsX7_nearTo wsX7_has := goodIn_r _ [6] (by decide +kernel) (by decide +kernel)
set_option maxRecDepth 20000 in
theorem gX7_nearTo_X7_has : GoodIn wsX7_nearTo (va_wsS RX7 133 yX7_has wsX7_has) := goodIn_app (goodIn_of _ (by decide +kernel)) ggX7_nearTo_X7_has
theorem dX7_nearTo_0 : decode cX7_nearTo 0 = .ok (.lconst 1, 1) := by decide +kernel
theorem dX7_nearTo_1 : decode cX7_nearTo 1 = .ok (.iload_n 2, 1) := by decide +kernel
theorem dX7_nearTo_2 : decode cX7_nearTo 2 = .ok (.lshl, 1) := by decide +kernel
theorem dX7_nearTo_3 : decode cX7_nearTo 3 = .ok (.lstore_n 3, 1) := by decide +kernel
theorem dX7_nearTo_4 : decode cX7_nearTo 4 = .ok (.iconst 0, 1) := by decide +kernel
theorem dX7_nearTo_5 : decode cX7_nearTo 5 = .ok (.istore 5, 2) := by decide +kernel
theorem dX7_nearTo_7 : decode cX7_nearTo 7 = .ok (.iload 5, 2) := by decide +kernel
theorem dX7_nearTo_9 : decode cX7_nearTo 9 = .ok (.aload_n 0, 1) := by decide +kernel
theorem dX7_nearTo_10 : decode cX7_nearTo 10 = .ok (.getfield 16, 3) := by decide +kernel
theorem dX7_nearTo_13 : decode cX7_nearTo 13 = .ok (.iload_n 1, 1) := by decide +kernel
theorem dX7_nearTo_14 : decode cX7_nearTo 14 = .ok (.iaload, 1) := by decide +kernel
theorem dX7_nearTo_15 : decode cX7_nearTo 15 = .ok (.if_icmp .ge 47, 3) := by decide +kernel
theorem dX7_nearTo_18 : decode cX7_nearTo 18 = .ok (.lload_n 3, 1) := by decide +kernel
theorem dX7_nearTo_19 : decode cX7_nearTo 19 = .ok (.aload_n 0, 1) := by decide +kernel
theorem dX7_nearTo_20 : decode cX7_nearTo 20 = .ok (.getfield 25, 3) := by decide +kernel
theorem dX7_nearTo_23 : decode cX7_nearTo 23 = .ok (.bipush 45, 2) := by decide +kernel
theorem dX7_nearTo_25 : decode cX7_nearTo 25 = .ok (.iload_n 1, 1) := by decide +kernel
theorem dX7_nearTo_26 : decode cX7_nearTo 26 = .ok (.imul, 1) := by decide +kernel
theorem dX7_nearTo_27 : decode cX7_nearTo 27 = .ok (.iload 5, 2) := by decide +kernel
theorem dX7_nearTo_29 : decode cX7_nearTo 29 = .ok (.iadd, 1) := by decide +kernel
theorem dX7_nearTo_30 : decode cX7_nearTo 30 = .ok (.laload, 1) := by decide +kernel
theorem dX7_nearTo_31 : decode cX7_nearTo 31 = .ok (.iload_n 2, 1) := by decide +kernel
theorem dX7_nearTo_32 : decode cX7_nearTo 32 = .ok (.invokestatic 133, 3) := by decide +kernel
theorem dX7_nearTo_35 : decode cX7_nearTo 35 = .ok (.ifCond .eq 18, 3) := by decide +kernel
theorem dX7_nearTo_38 : decode cX7_nearTo 38 = .ok (.aload_n 0, 1) := by decide +kernel
theorem dX7_nearTo_39 : decode cX7_nearTo 39 = .ok (.getfield 25, 3) := by decide +kernel
theorem dX7_nearTo_42 : decode cX7_nearTo 42 = .ok (.bipush 45, 2) := by decide +kernel
theorem dX7_nearTo_44 : decode cX7_nearTo 44 = .ok (.iload_n 1, 1) := by decide +kernel
theorem dX7_nearTo_45 : decode cX7_nearTo 45 = .ok (.imul, 1) := by decide +kernel
theorem dX7_nearTo_46 : decode cX7_nearTo 46 = .ok (.iload 5, 2) := by decide +kernel
theorem dX7_nearTo_48 : decode cX7_nearTo 48 = .ok (.iadd, 1) := by decide +kernel
theorem dX7_nearTo_49 : decode cX7_nearTo 49 = .ok (.laload, 1) := by decide +kernel
theorem dX7_nearTo_50 : decode cX7_nearTo 50 = .ok (.goto 4, 3) := by decide +kernel
theorem dX7_nearTo_53 : decode cX7_nearTo 53 = .ok (.lconst 0, 1) := by decide +kernel
theorem dX7_nearTo_54 : decode cX7_nearTo 54 = .ok (.lor, 1) := by decide +kernel
theorem dX7_nearTo_55 : decode cX7_nearTo 55 = .ok (.lstore_n 3, 1) := by decide +kernel
theorem dX7_nearTo_56 : decode cX7_nearTo 56 = .ok (.iinc 5 1, 3) := by decide +kernel
theorem dX7_nearTo_59 : decode cX7_nearTo 59 = .ok (.goto (-52), 3) := by decide +kernel
theorem dX7_nearTo_62 : decode cX7_nearTo 62 = .ok (.lload_n 3, 1) := by decide +kernel
theorem dX7_nearTo_63 : decode cX7_nearTo 63 = .ok (.lreturn, 1) := by decide +kernel
set_option maxRecDepth 20000 in
theorem ggX7_perpOf_X7_allOf : GoodIn wsX7_perpOf wsX7_allOf := goodIn_r _ [7, 1, 17, 18, 19, 20, 21, 22, 23, 24, 25, 26, 27, 28, 29, 30, 31, 32, 33, 34, 35, 36, 37, 38, 39, 40, 41, 42, 43, 44, 45, 46, 47, 48, 49] (by decide +kernel) (by decide +kernel)
set_option maxRecDepth 20000 in
theorem gX7_perpOf_X7_allOf : GoodIn wsX7_perpOf (wsV RX7 144 RX7 yX7_allOf wsX7_allOf) := goodIn_app (goodIn_of _ (by decide +kernel)) ggX7_perpOf_X7_allOf
set_option maxRecDepth 20000 in
theorem ggX7_perpOf_X7_has : GoodIn wsX7_perpOf wsX7_has := goodIn_r _ [10] (by decide +kernel) (by decide +kernel)
set_option maxRecDepth 20000 in
theorem gX7_perpOf_X7_has : GoodIn wsX7_perpOf (va_wsS RX7 133 yX7_has wsX7_has) := goodIn_app (goodIn_of _ (by decide +kernel)) ggX7_perpOf_X7_has
set_option maxRecDepth 20000 in
theorem ggX7_perpOf_X7_nearTo : GoodIn wsX7_perpOf wsX7_nearTo := goodIn_r _ [14, 15, 16, 8, 9, 6, 10, 17, 18, 19, 20, 21, 22, 23, 24, 25, 26, 27, 28, 29, 30, 31, 32, 33, 34, 35, 36, 37, 38, 39, 40, 41, 42, 43, 44, 45, 46, 47, 48, 49] (by decide +kernel) (by decide +kernel)
set_option maxRecDepth 20000 in
theorem gX7_perpOf_X7_nearTo : GoodIn wsX7_perpOf (wsV RX7 148 RX7 yX7_nearTo wsX7_nearTo) := goodIn_app (goodIn_of _ (by decide +kernel)) ggX7_perpOf_X7_nearTo
theorem dX7_perpOf_0 : decode cX7_perpOf 0 = .ok (.aload_n 0, 1) := by decide +kernel
theorem dX7_perpOf_1 : decode cX7_perpOf 1 = .ok (.iload_n 1, 1) := by decide +kernel
theorem dX7_perpOf_2 : decode cX7_perpOf 2 = .ok (.invokevirtual 144, 3) := by decide +kernel
theorem dX7_perpOf_5 : decode cX7_perpOf 5 = .ok (.lstore 4, 2) := by decide +kernel
theorem dX7_perpOf_7 : decode cX7_perpOf 7 = .ok (.iconst 0, 1) := by decide +kernel
theorem dX7_perpOf_8 : decode cX7_perpOf 8 = .ok (.istore 6, 2) := by decide +kernel
theorem dX7_perpOf_10 : decode cX7_perpOf 10 = .ok (.iload 6, 2) := by decide +kernel
theorem dX7_perpOf_12 : decode cX7_perpOf 12 = .ok (.aload_n 0, 1) := by decide +kernel
theorem dX7_perpOf_13 : decode cX7_perpOf 13 = .ok (.getfield 13, 3) := by decide +kernel
theorem dX7_perpOf_16 : decode cX7_perpOf 16 = .ok (.iload_n 1, 1) := by decide +kernel
theorem dX7_perpOf_17 : decode cX7_perpOf 17 = .ok (.iaload, 1) := by decide +kernel
theorem dX7_perpOf_18 : decode cX7_perpOf 18 = .ok (.if_icmp .ge 36, 3) := by decide +kernel
theorem dX7_perpOf_21 : decode cX7_perpOf 21 = .ok (.lload 4, 2) := by decide +kernel
theorem dX7_perpOf_23 : decode cX7_perpOf 23 = .ok (.lload_n 2, 1) := by decide +kernel
theorem dX7_perpOf_24 : decode cX7_perpOf 24 = .ok (.iload 6, 2) := by decide +kernel
theorem dX7_perpOf_26 : decode cX7_perpOf 26 = .ok (.invokestatic 133, 3) := by decide +kernel
theorem dX7_perpOf_29 : decode cX7_perpOf 29 = .ok (.ifCond .eq 13, 3) := by decide +kernel
theorem dX7_perpOf_32 : decode cX7_perpOf 32 = .ok (.aload_n 0, 1) := by decide +kernel
theorem dX7_perpOf_33 : decode cX7_perpOf 33 = .ok (.iload_n 1, 1) := by decide +kernel
theorem dX7_perpOf_34 : decode cX7_perpOf 34 = .ok (.iload 6, 2) := by decide +kernel
theorem dX7_perpOf_36 : decode cX7_perpOf 36 = .ok (.invokevirtual 148, 3) := by decide +kernel
theorem dX7_perpOf_39 : decode cX7_perpOf 39 = .ok (.goto 6, 3) := by decide +kernel
theorem dX7_perpOf_42 : decode cX7_perpOf 42 = .ok (.ldc2_w 131, 3) := by decide +kernel
theorem dX7_perpOf_45 : decode cX7_perpOf 45 = .ok (.land, 1) := by decide +kernel
theorem dX7_perpOf_46 : decode cX7_perpOf 46 = .ok (.lstore 4, 2) := by decide +kernel
theorem dX7_perpOf_48 : decode cX7_perpOf 48 = .ok (.iinc 6 1, 3) := by decide +kernel
theorem dX7_perpOf_51 : decode cX7_perpOf 51 = .ok (.goto (-41), 3) := by decide +kernel
theorem dX7_perpOf_54 : decode cX7_perpOf 54 = .ok (.lload 4, 2) := by decide +kernel
theorem dX7_perpOf_56 : decode cX7_perpOf 56 = .ok (.lreturn, 1) := by decide +kernel
set_option maxRecDepth 20000 in
theorem ggX7_spanOf_X7_perpOf : GoodIn wsX7_spanOf wsX7_perpOf := goodIn_r _ [5, 6, 7, 8, 9, 10, 4, 11, 12, 13, 14, 15, 16, 17, 18, 19, 20, 21, 22, 23, 24, 25, 26, 27, 28, 29, 30, 31, 32, 33, 34, 35, 36, 37, 38, 39, 40, 41, 42, 43, 44, 45, 46, 47, 48, 49, 50, 51, 52, 53] (by decide +kernel) (by decide +kernel)
set_option maxRecDepth 20000 in
theorem gX7_spanOf_X7_perpOf : GoodIn wsX7_spanOf (wsV RX7 151 RX7 yX7_perpOf wsX7_perpOf) := goodIn_app (goodIn_of _ (by decide +kernel)) ggX7_spanOf_X7_perpOf
theorem dX7_spanOf_0 : decode cX7_spanOf 0 = .ok (.aload_n 0, 1) := by decide +kernel
theorem dX7_spanOf_1 : decode cX7_spanOf 1 = .ok (.iload_n 1, 1) := by decide +kernel
theorem dX7_spanOf_2 : decode cX7_spanOf 2 = .ok (.aload_n 0, 1) := by decide +kernel
theorem dX7_spanOf_3 : decode cX7_spanOf 3 = .ok (.iload_n 1, 1) := by decide +kernel
theorem dX7_spanOf_4 : decode cX7_spanOf 4 = .ok (.lconst 1, 1) := by decide +kernel
theorem dX7_spanOf_5 : decode cX7_spanOf 5 = .ok (.iload_n 2, 1) := by decide +kernel
theorem dX7_spanOf_6 : decode cX7_spanOf 6 = .ok (.lshl, 1) := by decide +kernel
theorem dX7_spanOf_7 : decode cX7_spanOf 7 = .ok (.lconst 1, 1) := by decide +kernel
theorem dX7_spanOf_8 : decode cX7_spanOf 8 = .ok (.iload_n 3, 1) := by decide +kernel
theorem dX7_spanOf_9 : decode cX7_spanOf 9 = .ok (.lshl, 1) := by decide +kernel
theorem dX7_spanOf_10 : decode cX7_spanOf 10 = .ok (.lor, 1) := by decide +kernel
theorem dX7_spanOf_11 : decode cX7_spanOf 11 = .ok (.invokevirtual 151, 3) := by decide +kernel
theorem dX7_spanOf_14 : decode cX7_spanOf 14 = .ok (.invokevirtual 151, 3) := by decide +kernel
theorem dX7_spanOf_17 : decode cX7_spanOf 17 = .ok (.lreturn, 1) := by decide +kernel
set_option maxRecDepth 20000 in
theorem ggX7_orderOf_X7_through : GoodIn wsX7_orderOf wsX7_through := goodIn_r _ [8, 1, 3, 9, 10, 7, 11, 15, 16, 17, 18, 19, 20, 21, 22, 23, 24, 25, 26, 27, 28, 29, 30, 31, 32, 33, 34, 35, 36, 37, 38, 39, 40, 41, 42, 43, 44, 45, 46, 47] (by decide +kernel) (by decide +kernel)
set_option maxRecDepth 20000 in
theorem gX7_orderOf_X7_through : GoodIn wsX7_orderOf (wsV RX7 140 RX7 yX7_through wsX7_through) := goodIn_app (goodIn_of _ (by decide +kernel)) ggX7_orderOf_X7_through
set_option maxRecDepth 20000 in
theorem ggX7_orderOf_X7_bits : GoodIn wsX7_orderOf wsX7_bits := goodIn_r _ [14] (by decide +kernel) (by decide +kernel)
set_option maxRecDepth 20000 in
theorem gX7_orderOf_X7_bits : GoodIn wsX7_orderOf (va_wsS RX7 116 yX7_bits wsX7_bits) := goodIn_app (goodIn_of _ (by decide +kernel)) ggX7_orderOf_X7_bits
theorem dX7_orderOf_0 : decode cX7_orderOf 0 = .ok (.iload_n 2, 1) := by decide +kernel
theorem dX7_orderOf_1 : decode cX7_orderOf 1 = .ok (.ifCond .eq 12, 3) := by decide +kernel
theorem dX7_orderOf_4 : decode cX7_orderOf 4 = .ok (.aload_n 0, 1) := by decide +kernel
theorem dX7_orderOf_5 : decode cX7_orderOf 5 = .ok (.getfield 16, 3) := by decide +kernel
theorem dX7_orderOf_8 : decode cX7_orderOf 8 = .ok (.iload_n 1, 1) := by decide +kernel
theorem dX7_orderOf_9 : decode cX7_orderOf 9 = .ok (.iaload, 1) := by decide +kernel
theorem dX7_orderOf_10 : decode cX7_orderOf 10 = .ok (.goto 9, 3) := by decide +kernel
theorem dX7_orderOf_13 : decode cX7_orderOf 13 = .ok (.aload_n 0, 1) := by decide +kernel
theorem dX7_orderOf_14 : decode cX7_orderOf 14 = .ok (.getfield 13, 3) := by decide +kernel
theorem dX7_orderOf_17 : decode cX7_orderOf 17 = .ok (.iload_n 1, 1) := by decide +kernel
theorem dX7_orderOf_18 : decode cX7_orderOf 18 = .ok (.iaload, 1) := by decide +kernel
theorem dX7_orderOf_19 : decode cX7_orderOf 19 = .ok (.istore_n 3, 1) := by decide +kernel
theorem dX7_orderOf_20 : decode cX7_orderOf 20 = .ok (.bipush (-9), 2) := by decide +kernel
theorem dX7_orderOf_22 : decode cX7_orderOf 22 = .ok (.istore 4, 2) := by decide +kernel
theorem dX7_orderOf_24 : decode cX7_orderOf 24 = .ok (.iconst 0, 1) := by decide +kernel
theorem dX7_orderOf_25 : decode cX7_orderOf 25 = .ok (.istore 5, 2) := by decide +kernel
theorem dX7_orderOf_27 : decode cX7_orderOf 27 = .ok (.iload 5, 2) := by decide +kernel
theorem dX7_orderOf_29 : decode cX7_orderOf 29 = .ok (.iload_n 3, 1) := by decide +kernel
theorem dX7_orderOf_30 : decode cX7_orderOf 30 = .ok (.if_icmp .ge 59, 3) := by decide +kernel
theorem dX7_orderOf_33 : decode cX7_orderOf 33 = .ok (.iload_n 2, 1) := by decide +kernel
theorem dX7_orderOf_34 : decode cX7_orderOf 34 = .ok (.ifCond .eq 18, 3) := by decide +kernel
theorem dX7_orderOf_37 : decode cX7_orderOf 37 = .ok (.aload_n 0, 1) := by decide +kernel
theorem dX7_orderOf_38 : decode cX7_orderOf 38 = .ok (.getfield 25, 3) := by decide +kernel
theorem dX7_orderOf_41 : decode cX7_orderOf 41 = .ok (.bipush 45, 2) := by decide +kernel
theorem dX7_orderOf_43 : decode cX7_orderOf 43 = .ok (.iload_n 1, 1) := by decide +kernel
theorem dX7_orderOf_44 : decode cX7_orderOf 44 = .ok (.imul, 1) := by decide +kernel
theorem dX7_orderOf_45 : decode cX7_orderOf 45 = .ok (.iload 5, 2) := by decide +kernel
theorem dX7_orderOf_47 : decode cX7_orderOf 47 = .ok (.iadd, 1) := by decide +kernel
theorem dX7_orderOf_48 : decode cX7_orderOf 48 = .ok (.laload, 1) := by decide +kernel
theorem dX7_orderOf_49 : decode cX7_orderOf 49 = .ok (.goto 10, 3) := by decide +kernel
theorem dX7_orderOf_52 : decode cX7_orderOf 52 = .ok (.aload_n 0, 1) := by decide +kernel
theorem dX7_orderOf_53 : decode cX7_orderOf 53 = .ok (.iload_n 1, 1) := by decide +kernel
theorem dX7_orderOf_54 : decode cX7_orderOf 54 = .ok (.iload 5, 2) := by decide +kernel
theorem dX7_orderOf_56 : decode cX7_orderOf 56 = .ok (.invokevirtual 140, 3) := by decide +kernel
theorem dX7_orderOf_59 : decode cX7_orderOf 59 = .ok (.invokestatic 116, 3) := by decide +kernel
theorem dX7_orderOf_62 : decode cX7_orderOf 62 = .ok (.istore 6, 2) := by decide +kernel
theorem dX7_orderOf_64 : decode cX7_orderOf 64 = .ok (.iload 5, 2) := by decide +kernel
theorem dX7_orderOf_66 : decode cX7_orderOf 66 = .ok (.ifCond .le 13, 3) := by decide +kernel
theorem dX7_orderOf_69 : decode cX7_orderOf 69 = .ok (.iload 6, 2) := by decide +kernel
theorem dX7_orderOf_71 : decode cX7_orderOf 71 = .ok (.iload 4, 2) := by decide +kernel
theorem dX7_orderOf_73 : decode cX7_orderOf 73 = .ok (.if_icmp .eq 6, 3) := by decide +kernel
theorem dX7_orderOf_76 : decode cX7_orderOf 76 = .ok (.bipush (-9), 2) := by decide +kernel
theorem dX7_orderOf_78 : decode cX7_orderOf 78 = .ok (.ireturn, 1) := by decide +kernel
theorem dX7_orderOf_79 : decode cX7_orderOf 79 = .ok (.iload 6, 2) := by decide +kernel
theorem dX7_orderOf_81 : decode cX7_orderOf 81 = .ok (.istore 4, 2) := by decide +kernel
theorem dX7_orderOf_83 : decode cX7_orderOf 83 = .ok (.iinc 5 1, 3) := by decide +kernel
theorem dX7_orderOf_86 : decode cX7_orderOf 86 = .ok (.goto (-59), 3) := by decide +kernel
theorem dX7_orderOf_89 : decode cX7_orderOf 89 = .ok (.aload_n 0, 1) := by decide +kernel
theorem dX7_orderOf_90 : decode cX7_orderOf 90 = .ok (.getfield 16, 3) := by decide +kernel
theorem dX7_orderOf_93 : decode cX7_orderOf 93 = .ok (.iload_n 1, 1) := by decide +kernel
theorem dX7_orderOf_94 : decode cX7_orderOf 94 = .ok (.iaload, 1) := by decide +kernel
theorem dX7_orderOf_95 : decode cX7_orderOf 95 = .ok (.ifCond .ne 8, 3) := by decide +kernel
theorem dX7_orderOf_98 : decode cX7_orderOf 98 = .ok (.bipush (-9), 2) := by decide +kernel
theorem dX7_orderOf_100 : decode cX7_orderOf 100 = .ok (.goto 7, 3) := by decide +kernel
theorem dX7_orderOf_103 : decode cX7_orderOf 103 = .ok (.iload 4, 2) := by decide +kernel
theorem dX7_orderOf_105 : decode cX7_orderOf 105 = .ok (.iconst 1, 1) := by decide +kernel
theorem dX7_orderOf_106 : decode cX7_orderOf 106 = .ok (.isub, 1) := by decide +kernel
theorem dX7_orderOf_107 : decode cX7_orderOf 107 = .ok (.ireturn, 1) := by decide +kernel
set_option maxRecDepth 20000 in
theorem ggX7_isPoint_X7_in : GoodIn wsX7_isPoint wsX7_in := goodIn_r _ [5] (by decide +kernel) (by decide +kernel)
set_option maxRecDepth 20000 in
theorem gX7_isPoint_X7_in : GoodIn wsX7_isPoint (va_wsS RX7 91 yX7_in wsX7_in) := goodIn_app (goodIn_of _ (by decide +kernel)) ggX7_isPoint_X7_in
theorem dX7_isPoint_0 : decode cX7_isPoint 0 = .ok (.iload_n 2, 1) := by decide +kernel
theorem dX7_isPoint_1 : decode cX7_isPoint 1 = .ok (.iconst 0, 1) := by decide +kernel
theorem dX7_isPoint_2 : decode cX7_isPoint 2 = .ok (.aload_n 0, 1) := by decide +kernel
theorem dX7_isPoint_3 : decode cX7_isPoint 3 = .ok (.getfield 13, 3) := by decide +kernel
theorem dX7_isPoint_6 : decode cX7_isPoint 6 = .ok (.iload_n 1, 1) := by decide +kernel
theorem dX7_isPoint_7 : decode cX7_isPoint 7 = .ok (.iaload, 1) := by decide +kernel
theorem dX7_isPoint_8 : decode cX7_isPoint 8 = .ok (.iconst 1, 1) := by decide +kernel
theorem dX7_isPoint_9 : decode cX7_isPoint 9 = .ok (.isub, 1) := by decide +kernel
theorem dX7_isPoint_10 : decode cX7_isPoint 10 = .ok (.invokestatic 91, 3) := by decide +kernel
theorem dX7_isPoint_13 : decode cX7_isPoint 13 = .ok (.ireturn, 1) := by decide +kernel
set_option maxRecDepth 20000 in
theorem ggX7_isRegular_X7_nearTo : GoodIn wsX7_isRegular wsX7_nearTo := goodIn_r _ [6, 7, 8, 9, 10, 5, 11, 28, 29, 30, 31, 32, 33, 34, 35, 36, 37, 38, 39, 40, 41, 42, 43, 44, 45, 46, 47, 48, 49, 50, 51, 52, 53, 54, 55, 56, 57, 58, 59, 60] (by decide +kernel) (by decide +kernel)
set_option maxRecDepth 20000 in
theorem gX7_isRegular_X7_nearTo : GoodIn wsX7_isRegular (wsV RX7 148 RX7 yX7_nearTo wsX7_nearTo) := goodIn_app (goodIn_of _ (by decide +kernel)) ggX7_isRegular_X7_nearTo
set_option maxRecDepth 20000 in
theorem ggX7_isRegular_X7_has : GoodIn wsX7_isRegular wsX7_has := goodIn_r _ [11] (by decide +kernel) (by decide +kernel)
set_option maxRecDepth 20000 in
theorem gX7_isRegular_X7_has : GoodIn wsX7_isRegular (va_wsS RX7 133 yX7_has wsX7_has) := goodIn_app (goodIn_of _ (by decide +kernel)) ggX7_isRegular_X7_has
set_option maxRecDepth 20000 in
theorem ggX7_isRegular_X7_spanOf : GoodIn wsX7_isRegular wsX7_spanOf := goodIn_r _ [15, 16, 17, 18, 5, 19, 1, 20, 21, 22, 23, 24, 9, 10, 11, 2, 3, 4, 6, 7, 8, 28, 29, 30, 31, 32, 33, 34, 35, 36, 37, 38, 39, 40, 41, 42, 43, 44, 45, 46, 47, 48, 49, 50, 51, 52, 53, 54, 55, 56, 57, 58, 59, 60] (by decide +kernel) (by decide +kernel)
set_option maxRecDepth 20000 in
theorem gX7_isRegular_X7_spanOf : GoodIn wsX7_isRegular (wsV RX7 155 RX7 yX7_spanOf wsX7_spanOf) := goodIn_app (goodIn_of _ (by decide +kernel)) ggX7_isRegular_X7_spanOf
set_option maxRecDepth 20000 in
theorem ggX7_isRegular_X7_bits : GoodIn wsX7_isRegular wsX7_bits := goodIn_r _ [27] (by decide +kernel) (by decide +kernel)
set_option maxRecDepth 20000 in
theorem gX7_isRegular_X7_bits : GoodIn wsX7_isRegular (va_wsS RX7 116 yX7_bits wsX7_bits) := goodIn_app (goodIn_of _ (by decide +kernel)) ggX7_isRegular_X7_bits
theorem dX7_isRegular_0 : decode cX7_isRegular 0 = .ok (.aload_n 0, 1) := by decide +kernel
theorem dX7_isRegular_1 : decode cX7_isRegular 1 = .ok (.iload_n 1, 1) := by decide +kernel
theorem dX7_isRegular_2 : decode cX7_isRegular 2 = .ok (.iload_n 2, 1) := by decide +kernel
theorem dX7_isRegular_3 : decode cX7_isRegular 3 = .ok (.invokevirtual 148, 3) := by decide +kernel
theorem dX7_isRegular_6 : decode cX7_isRegular 6 = .ok (.lstore 4, 2) := by decide +kernel
theorem dX7_isRegular_8 : decode cX7_isRegular 8 = .ok (.iconst 1, 1) := by decide +kernel
theorem dX7_isRegular_9 : decode cX7_isRegular 9 = .ok (.istore 6, 2) := by decide +kernel
theorem dX7_isRegular_11 : decode cX7_isRegular 11 = .ok (.iconst 0, 1) := by decide +kernel
theorem dX7_isRegular_12 : decode cX7_isRegular 12 = .ok (.istore 7, 2) := by decide +kernel
theorem dX7_isRegular_14 : decode cX7_isRegular 14 = .ok (.iload 7, 2) := by decide +kernel
theorem dX7_isRegular_16 : decode cX7_isRegular 16 = .ok (.aload_n 0, 1) := by decide +kernel
theorem dX7_isRegular_17 : decode cX7_isRegular 17 = .ok (.getfield 13, 3) := by decide +kernel
theorem dX7_isRegular_20 : decode cX7_isRegular 20 = .ok (.iload_n 1, 1) := by decide +kernel
theorem dX7_isRegular_21 : decode cX7_isRegular 21 = .ok (.iaload, 1) := by decide +kernel
theorem dX7_isRegular_22 : decode cX7_isRegular 22 = .ok (.if_icmp .ge 48, 3) := by decide +kernel
theorem dX7_isRegular_25 : decode cX7_isRegular 25 = .ok (.iload 6, 2) := by decide +kernel
theorem dX7_isRegular_27 : decode cX7_isRegular 27 = .ok (.ifCond .eq 43, 3) := by decide +kernel
theorem dX7_isRegular_30 : decode cX7_isRegular 30 = .ok (.lload 4, 2) := by decide +kernel
theorem dX7_isRegular_32 : decode cX7_isRegular 32 = .ok (.iload 7, 2) := by decide +kernel
theorem dX7_isRegular_34 : decode cX7_isRegular 34 = .ok (.invokestatic 133, 3) := by decide +kernel
theorem dX7_isRegular_37 : decode cX7_isRegular 37 = .ok (.ifCond .ne 20, 3) := by decide +kernel
theorem dX7_isRegular_40 : decode cX7_isRegular 40 = .ok (.aload_n 0, 1) := by decide +kernel
theorem dX7_isRegular_41 : decode cX7_isRegular 41 = .ok (.iload_n 1, 1) := by decide +kernel
theorem dX7_isRegular_42 : decode cX7_isRegular 42 = .ok (.iload_n 2, 1) := by decide +kernel
theorem dX7_isRegular_43 : decode cX7_isRegular 43 = .ok (.iload 7, 2) := by decide +kernel
theorem dX7_isRegular_45 : decode cX7_isRegular 45 = .ok (.invokevirtual 155, 3) := by decide +kernel
theorem dX7_isRegular_48 : decode cX7_isRegular 48 = .ok (.invokestatic 116, 3) := by decide +kernel
theorem dX7_isRegular_51 : decode cX7_isRegular 51 = .ok (.iload_n 3, 1) := by decide +kernel
theorem dX7_isRegular_52 : decode cX7_isRegular 52 = .ok (.iconst 1, 1) := by decide +kernel
theorem dX7_isRegular_53 : decode cX7_isRegular 53 = .ok (.iadd, 1) := by decide +kernel
theorem dX7_isRegular_54 : decode cX7_isRegular 54 = .ok (.if_icmp .ne 7, 3) := by decide +kernel
theorem dX7_isRegular_57 : decode cX7_isRegular 57 = .ok (.iconst 1, 1) := by decide +kernel
theorem dX7_isRegular_58 : decode cX7_isRegular 58 = .ok (.goto 4, 3) := by decide +kernel
theorem dX7_isRegular_61 : decode cX7_isRegular 61 = .ok (.iconst 0, 1) := by decide +kernel
theorem dX7_isRegular_62 : decode cX7_isRegular 62 = .ok (.istore 6, 2) := by decide +kernel
theorem dX7_isRegular_64 : decode cX7_isRegular 64 = .ok (.iinc 7 1, 3) := by decide +kernel
theorem dX7_isRegular_67 : decode cX7_isRegular 67 = .ok (.goto (-53), 3) := by decide +kernel
theorem dX7_isRegular_70 : decode cX7_isRegular 70 = .ok (.iload 6, 2) := by decide +kernel
theorem dX7_isRegular_72 : decode cX7_isRegular 72 = .ok (.ireturn, 1) := by decide +kernel
set_option maxRecDepth 20000 in
theorem ggX7_faultOf_X7_bits : GoodIn wsX7_faultOf wsX7_bits := goodIn_r _ [9] (by decide +kernel) (by decide +kernel)
set_option maxRecDepth 20000 in
theorem gX7_faultOf_X7_bits : GoodIn wsX7_faultOf (va_wsS RX7 116 yX7_bits wsX7_bits) := goodIn_app (goodIn_of _ (by decide +kernel)) ggX7_faultOf_X7_bits
set_option maxRecDepth 20000 in
theorem ggX7_faultOf_X7_has : GoodIn wsX7_faultOf wsX7_has := goodIn_r _ [12] (by decide +kernel) (by decide +kernel)
set_option maxRecDepth 20000 in
theorem gX7_faultOf_X7_has : GoodIn wsX7_faultOf (va_wsS RX7 133 yX7_has wsX7_has) := goodIn_app (goodIn_of _ (by decide +kernel)) ggX7_faultOf_X7_has
theorem dX7_faultOf_0 : decode cX7_faultOf 0 = .ok (.aload_n 0, 1) := by decide +kernel
theorem dX7_faultOf_1 : decode cX7_faultOf 1 = .ok (.getfield 16, 3) := by decide +kernel
theorem dX7_faultOf_4 : decode cX7_faultOf 4 = .ok (.iload_n 1, 1) := by decide +kernel
theorem dX7_faultOf_5 : decode cX7_faultOf 5 = .ok (.iaload, 1) := by decide +kernel
theorem dX7_faultOf_6 : decode cX7_faultOf 6 = .ok (.istore_n 2, 1) := by decide +kernel
theorem dX7_faultOf_7 : decode cX7_faultOf 7 = .ok (.iconst 0, 1) := by decide +kernel
theorem dX7_faultOf_8 : decode cX7_faultOf 8 = .ok (.istore_n 3, 1) := by decide +kernel
theorem dX7_faultOf_9 : decode cX7_faultOf 9 = .ok (.iload_n 3, 1) := by decide +kernel
theorem dX7_faultOf_10 : decode cX7_faultOf 10 = .ok (.iload_n 2, 1) := by decide +kernel
theorem dX7_faultOf_11 : decode cX7_faultOf 11 = .ok (.if_icmp .ge 73, 3) := by decide +kernel
theorem dX7_faultOf_14 : decode cX7_faultOf 14 = .ok (.iload_n 3, 1) := by decide +kernel
theorem dX7_faultOf_15 : decode cX7_faultOf 15 = .ok (.iconst 1, 1) := by decide +kernel
theorem dX7_faultOf_16 : decode cX7_faultOf 16 = .ok (.iadd, 1) := by decide +kernel
theorem dX7_faultOf_17 : decode cX7_faultOf 17 = .ok (.istore 4, 2) := by decide +kernel
theorem dX7_faultOf_19 : decode cX7_faultOf 19 = .ok (.iload 4, 2) := by decide +kernel
theorem dX7_faultOf_21 : decode cX7_faultOf 21 = .ok (.iload_n 2, 1) := by decide +kernel
theorem dX7_faultOf_22 : decode cX7_faultOf 22 = .ok (.if_icmp .ge 56, 3) := by decide +kernel
theorem dX7_faultOf_25 : decode cX7_faultOf 25 = .ok (.aload_n 0, 1) := by decide +kernel
theorem dX7_faultOf_26 : decode cX7_faultOf 26 = .ok (.getfield 25, 3) := by decide +kernel
theorem dX7_faultOf_29 : decode cX7_faultOf 29 = .ok (.bipush 45, 2) := by decide +kernel
theorem dX7_faultOf_31 : decode cX7_faultOf 31 = .ok (.iload_n 1, 1) := by decide +kernel
theorem dX7_faultOf_32 : decode cX7_faultOf 32 = .ok (.imul, 1) := by decide +kernel
theorem dX7_faultOf_33 : decode cX7_faultOf 33 = .ok (.iload_n 3, 1) := by decide +kernel
theorem dX7_faultOf_34 : decode cX7_faultOf 34 = .ok (.iadd, 1) := by decide +kernel
theorem dX7_faultOf_35 : decode cX7_faultOf 35 = .ok (.laload, 1) := by decide +kernel
theorem dX7_faultOf_36 : decode cX7_faultOf 36 = .ok (.aload_n 0, 1) := by decide +kernel
theorem dX7_faultOf_37 : decode cX7_faultOf 37 = .ok (.getfield 25, 3) := by decide +kernel
theorem dX7_faultOf_40 : decode cX7_faultOf 40 = .ok (.bipush 45, 2) := by decide +kernel
theorem dX7_faultOf_42 : decode cX7_faultOf 42 = .ok (.iload_n 1, 1) := by decide +kernel
theorem dX7_faultOf_43 : decode cX7_faultOf 43 = .ok (.imul, 1) := by decide +kernel
theorem dX7_faultOf_44 : decode cX7_faultOf 44 = .ok (.iload 4, 2) := by decide +kernel
theorem dX7_faultOf_46 : decode cX7_faultOf 46 = .ok (.iadd, 1) := by decide +kernel
theorem dX7_faultOf_47 : decode cX7_faultOf 47 = .ok (.laload, 1) := by decide +kernel
theorem dX7_faultOf_48 : decode cX7_faultOf 48 = .ok (.land, 1) := by decide +kernel
theorem dX7_faultOf_49 : decode cX7_faultOf 49 = .ok (.invokestatic 116, 3) := by decide +kernel
theorem dX7_faultOf_52 : decode cX7_faultOf 52 = .ok (.iconst 1, 1) := by decide +kernel
theorem dX7_faultOf_53 : decode cX7_faultOf 53 = .ok (.if_icmp .le 19, 3) := by decide +kernel
theorem dX7_faultOf_56 : decode cX7_faultOf 56 = .ok (.aload_n 0, 1) := by decide +kernel
theorem dX7_faultOf_57 : decode cX7_faultOf 57 = .ok (.ldc2_w 158, 3) := by decide +kernel
theorem dX7_faultOf_60 : decode cX7_faultOf 60 = .ok (.iload_n 3, 1) := by decide +kernel
theorem dX7_faultOf_61 : decode cX7_faultOf 61 = .ok (.i2l, 1) := by decide +kernel
theorem dX7_faultOf_62 : decode cX7_faultOf 62 = .ok (.lmul, 1) := by decide +kernel
theorem dX7_faultOf_63 : decode cX7_faultOf 63 = .ok (.iload 4, 2) := by decide +kernel
theorem dX7_faultOf_65 : decode cX7_faultOf 65 = .ok (.i2l, 1) := by decide +kernel
theorem dX7_faultOf_66 : decode cX7_faultOf 66 = .ok (.ladd, 1) := by decide +kernel
theorem dX7_faultOf_67 : decode cX7_faultOf 67 = .ok (.putfield 160, 3) := by decide +kernel
theorem dX7_faultOf_70 : decode cX7_faultOf 70 = .ok (.iconst 1, 1) := by decide +kernel
theorem dX7_faultOf_71 : decode cX7_faultOf 71 = .ok (.ireturn, 1) := by decide +kernel
theorem dX7_faultOf_72 : decode cX7_faultOf 72 = .ok (.iinc 4 1, 3) := by decide +kernel
theorem dX7_faultOf_75 : decode cX7_faultOf 75 = .ok (.goto (-56), 3) := by decide +kernel
theorem dX7_faultOf_78 : decode cX7_faultOf 78 = .ok (.iinc 3 1, 3) := by decide +kernel
theorem dX7_faultOf_81 : decode cX7_faultOf 81 = .ok (.goto (-72), 3) := by decide +kernel
theorem dX7_faultOf_84 : decode cX7_faultOf 84 = .ok (.iconst 0, 1) := by decide +kernel
theorem dX7_faultOf_85 : decode cX7_faultOf 85 = .ok (.istore_n 3, 1) := by decide +kernel
theorem dX7_faultOf_86 : decode cX7_faultOf 86 = .ok (.iload_n 3, 1) := by decide +kernel
theorem dX7_faultOf_87 : decode cX7_faultOf 87 = .ok (.iload_n 2, 1) := by decide +kernel
theorem dX7_faultOf_88 : decode cX7_faultOf 88 = .ok (.if_icmp .ge 175, 3) := by decide +kernel
theorem dX7_faultOf_91 : decode cX7_faultOf 91 = .ok (.iconst 0, 1) := by decide +kernel
theorem dX7_faultOf_92 : decode cX7_faultOf 92 = .ok (.istore 4, 2) := by decide +kernel
theorem dX7_faultOf_94 : decode cX7_faultOf 94 = .ok (.iload 4, 2) := by decide +kernel
theorem dX7_faultOf_96 : decode cX7_faultOf 96 = .ok (.aload_n 0, 1) := by decide +kernel
theorem dX7_faultOf_97 : decode cX7_faultOf 97 = .ok (.getfield 13, 3) := by decide +kernel
theorem dX7_faultOf_100 : decode cX7_faultOf 100 = .ok (.iload_n 1, 1) := by decide +kernel
theorem dX7_faultOf_101 : decode cX7_faultOf 101 = .ok (.iaload, 1) := by decide +kernel
theorem dX7_faultOf_102 : decode cX7_faultOf 102 = .ok (.if_icmp .ge 155, 3) := by decide +kernel
theorem dX7_faultOf_105 : decode cX7_faultOf 105 = .ok (.iconst 0, 1) := by decide +kernel
theorem dX7_faultOf_106 : decode cX7_faultOf 106 = .ok (.istore 5, 2) := by decide +kernel
theorem dX7_faultOf_108 : decode cX7_faultOf 108 = .ok (.iconst 0, 1) := by decide +kernel
theorem dX7_faultOf_109 : decode cX7_faultOf 109 = .ok (.istore 6, 2) := by decide +kernel
theorem dX7_faultOf_111 : decode cX7_faultOf 111 = .ok (.iload 6, 2) := by decide +kernel
theorem dX7_faultOf_113 : decode cX7_faultOf 113 = .ok (.iload_n 2, 1) := by decide +kernel
theorem dX7_faultOf_114 : decode cX7_faultOf 114 = .ok (.if_icmp .ge 87, 3) := by decide +kernel
theorem dX7_faultOf_117 : decode cX7_faultOf 117 = .ok (.aload_n 0, 1) := by decide +kernel
theorem dX7_faultOf_118 : decode cX7_faultOf 118 = .ok (.getfield 25, 3) := by decide +kernel
theorem dX7_faultOf_121 : decode cX7_faultOf 121 = .ok (.bipush 45, 2) := by decide +kernel
theorem dX7_faultOf_123 : decode cX7_faultOf 123 = .ok (.iload_n 1, 1) := by decide +kernel
theorem dX7_faultOf_124 : decode cX7_faultOf 124 = .ok (.imul, 1) := by decide +kernel
theorem dX7_faultOf_125 : decode cX7_faultOf 125 = .ok (.iload_n 3, 1) := by decide +kernel
theorem dX7_faultOf_126 : decode cX7_faultOf 126 = .ok (.iadd, 1) := by decide +kernel
theorem dX7_faultOf_127 : decode cX7_faultOf 127 = .ok (.laload, 1) := by decide +kernel
theorem dX7_faultOf_128 : decode cX7_faultOf 128 = .ok (.iload 4, 2) := by decide +kernel
theorem dX7_faultOf_130 : decode cX7_faultOf 130 = .ok (.invokestatic 133, 3) := by decide +kernel
theorem dX7_faultOf_133 : decode cX7_faultOf 133 = .ok (.ifCond .ne 68, 3) := by decide +kernel
theorem dX7_faultOf_136 : decode cX7_faultOf 136 = .ok (.iload 5, 2) := by decide +kernel
theorem dX7_faultOf_138 : decode cX7_faultOf 138 = .ok (.aload_n 0, 1) := by decide +kernel
theorem dX7_faultOf_139 : decode cX7_faultOf 139 = .ok (.getfield 25, 3) := by decide +kernel
theorem dX7_faultOf_142 : decode cX7_faultOf 142 = .ok (.bipush 45, 2) := by decide +kernel
theorem dX7_faultOf_144 : decode cX7_faultOf 144 = .ok (.iload_n 1, 1) := by decide +kernel
theorem dX7_faultOf_145 : decode cX7_faultOf 145 = .ok (.imul, 1) := by decide +kernel
theorem dX7_faultOf_146 : decode cX7_faultOf 146 = .ok (.iload 6, 2) := by decide +kernel
theorem dX7_faultOf_148 : decode cX7_faultOf 148 = .ok (.iadd, 1) := by decide +kernel
theorem dX7_faultOf_149 : decode cX7_faultOf 149 = .ok (.laload, 1) := by decide +kernel
theorem dX7_faultOf_150 : decode cX7_faultOf 150 = .ok (.iload 4, 2) := by decide +kernel
theorem dX7_faultOf_152 : decode cX7_faultOf 152 = .ok (.invokestatic 133, 3) := by decide +kernel
theorem dX7_faultOf_155 : decode cX7_faultOf 155 = .ok (.ifCond .eq 36, 3) := by decide +kernel
theorem dX7_faultOf_158 : decode cX7_faultOf 158 = .ok (.aload_n 0, 1) := by decide +kernel
theorem dX7_faultOf_159 : decode cX7_faultOf 159 = .ok (.getfield 25, 3) := by decide +kernel
theorem dX7_faultOf_162 : decode cX7_faultOf 162 = .ok (.bipush 45, 2) := by decide +kernel
theorem dX7_faultOf_164 : decode cX7_faultOf 164 = .ok (.iload_n 1, 1) := by decide +kernel
theorem dX7_faultOf_165 : decode cX7_faultOf 165 = .ok (.imul, 1) := by decide +kernel
theorem dX7_faultOf_166 : decode cX7_faultOf 166 = .ok (.iload 6, 2) := by decide +kernel
theorem dX7_faultOf_168 : decode cX7_faultOf 168 = .ok (.iadd, 1) := by decide +kernel
theorem dX7_faultOf_169 : decode cX7_faultOf 169 = .ok (.laload, 1) := by decide +kernel
theorem dX7_faultOf_170 : decode cX7_faultOf 170 = .ok (.aload_n 0, 1) := by decide +kernel
theorem dX7_faultOf_171 : decode cX7_faultOf 171 = .ok (.getfield 25, 3) := by decide +kernel
theorem dX7_faultOf_174 : decode cX7_faultOf 174 = .ok (.bipush 45, 2) := by decide +kernel
theorem dX7_faultOf_176 : decode cX7_faultOf 176 = .ok (.iload_n 1, 1) := by decide +kernel
theorem dX7_faultOf_177 : decode cX7_faultOf 177 = .ok (.imul, 1) := by decide +kernel
theorem dX7_faultOf_178 : decode cX7_faultOf 178 = .ok (.iload_n 3, 1) := by decide +kernel
theorem dX7_faultOf_179 : decode cX7_faultOf 179 = .ok (.iadd, 1) := by decide +kernel
theorem dX7_faultOf_180 : decode cX7_faultOf 180 = .ok (.laload, 1) := by decide +kernel
theorem dX7_faultOf_181 : decode cX7_faultOf 181 = .ok (.land, 1) := by decide +kernel
theorem dX7_faultOf_182 : decode cX7_faultOf 182 = .ok (.lconst 0, 1) := by decide +kernel
theorem dX7_faultOf_183 : decode cX7_faultOf 183 = .ok (.lcmp, 1) := by decide +kernel
theorem dX7_faultOf_184 : decode cX7_faultOf 184 = .ok (.ifCond .eq 7, 3) := by decide +kernel
theorem dX7_faultOf_187 : decode cX7_faultOf 187 = .ok (.iconst 1, 1) := by decide +kernel
theorem dX7_faultOf_188 : decode cX7_faultOf 188 = .ok (.goto 4, 3) := by decide +kernel
theorem dX7_faultOf_191 : decode cX7_faultOf 191 = .ok (.iconst 0, 1) := by decide +kernel
theorem dX7_faultOf_192 : decode cX7_faultOf 192 = .ok (.iadd, 1) := by decide +kernel
theorem dX7_faultOf_193 : decode cX7_faultOf 193 = .ok (.istore 5, 2) := by decide +kernel
theorem dX7_faultOf_195 : decode cX7_faultOf 195 = .ok (.iinc 6 1, 3) := by decide +kernel
theorem dX7_faultOf_198 : decode cX7_faultOf 198 = .ok (.goto (-87), 3) := by decide +kernel
theorem dX7_faultOf_201 : decode cX7_faultOf 201 = .ok (.aload_n 0, 1) := by decide +kernel
theorem dX7_faultOf_202 : decode cX7_faultOf 202 = .ok (.getfield 25, 3) := by decide +kernel
theorem dX7_faultOf_205 : decode cX7_faultOf 205 = .ok (.bipush 45, 2) := by decide +kernel
theorem dX7_faultOf_207 : decode cX7_faultOf 207 = .ok (.iload_n 1, 1) := by decide +kernel
theorem dX7_faultOf_208 : decode cX7_faultOf 208 = .ok (.imul, 1) := by decide +kernel
theorem dX7_faultOf_209 : decode cX7_faultOf 209 = .ok (.iload_n 3, 1) := by decide +kernel
theorem dX7_faultOf_210 : decode cX7_faultOf 210 = .ok (.iadd, 1) := by decide +kernel
theorem dX7_faultOf_211 : decode cX7_faultOf 211 = .ok (.laload, 1) := by decide +kernel
theorem dX7_faultOf_212 : decode cX7_faultOf 212 = .ok (.iload 4, 2) := by decide +kernel
theorem dX7_faultOf_214 : decode cX7_faultOf 214 = .ok (.invokestatic 133, 3) := by decide +kernel
theorem dX7_faultOf_217 : decode cX7_faultOf 217 = .ok (.ifCond .ne 34, 3) := by decide +kernel
theorem dX7_faultOf_220 : decode cX7_faultOf 220 = .ok (.iload 5, 2) := by decide +kernel
theorem dX7_faultOf_222 : decode cX7_faultOf 222 = .ok (.iconst 1, 1) := by decide +kernel
theorem dX7_faultOf_223 : decode cX7_faultOf 223 = .ok (.if_icmp .eq 28, 3) := by decide +kernel
theorem dX7_faultOf_226 : decode cX7_faultOf 226 = .ok (.aload_n 0, 1) := by decide +kernel
theorem dX7_faultOf_227 : decode cX7_faultOf 227 = .ok (.ldc2_w 158, 3) := by decide +kernel
theorem dX7_faultOf_230 : decode cX7_faultOf 230 = .ok (.iload_n 3, 1) := by decide +kernel
theorem dX7_faultOf_231 : decode cX7_faultOf 231 = .ok (.i2l, 1) := by decide +kernel
theorem dX7_faultOf_232 : decode cX7_faultOf 232 = .ok (.lmul, 1) := by decide +kernel
theorem dX7_faultOf_233 : decode cX7_faultOf 233 = .ok (.iload 4, 2) := by decide +kernel
theorem dX7_faultOf_235 : decode cX7_faultOf 235 = .ok (.i2l, 1) := by decide +kernel
theorem dX7_faultOf_236 : decode cX7_faultOf 236 = .ok (.ladd, 1) := by decide +kernel
theorem dX7_faultOf_237 : decode cX7_faultOf 237 = .ok (.putfield 160, 3) := by decide +kernel
theorem dX7_faultOf_240 : decode cX7_faultOf 240 = .ok (.iload 5, 2) := by decide +kernel
theorem dX7_faultOf_242 : decode cX7_faultOf 242 = .ok (.ifCond .ne 7, 3) := by decide +kernel
theorem dX7_faultOf_245 : decode cX7_faultOf 245 = .ok (.iconst 2, 1) := by decide +kernel
theorem dX7_faultOf_246 : decode cX7_faultOf 246 = .ok (.goto 4, 3) := by decide +kernel
theorem dX7_faultOf_249 : decode cX7_faultOf 249 = .ok (.iconst 3, 1) := by decide +kernel
theorem dX7_faultOf_250 : decode cX7_faultOf 250 = .ok (.ireturn, 1) := by decide +kernel
theorem dX7_faultOf_251 : decode cX7_faultOf 251 = .ok (.iinc 4 1, 3) := by decide +kernel
theorem dX7_faultOf_254 : decode cX7_faultOf 254 = .ok (.goto (-160), 3) := by decide +kernel
theorem dX7_faultOf_257 : decode cX7_faultOf 257 = .ok (.iinc 3 1, 3) := by decide +kernel
theorem dX7_faultOf_260 : decode cX7_faultOf 260 = .ok (.goto (-174), 3) := by decide +kernel
theorem dX7_faultOf_263 : decode cX7_faultOf 263 = .ok (.iconst 0, 1) := by decide +kernel
theorem dX7_faultOf_264 : decode cX7_faultOf 264 = .ok (.ireturn, 1) := by decide +kernel
set_option maxRecDepth 20000 in
theorem ggX7_closed_X7_has : GoodIn wsX7_closed wsX7_has := goodIn_r _ [4] (by decide +kernel) (by decide +kernel)
set_option maxRecDepth 20000 in
theorem gX7_closed_X7_has : GoodIn wsX7_closed (va_wsS RX7 133 yX7_has wsX7_has) := goodIn_app (goodIn_of _ (by decide +kernel)) ggX7_closed_X7_has
theorem dX7_closed_0 : decode cX7_closed 0 = .ok (.lconst 0, 1) := by decide +kernel
theorem dX7_closed_1 : decode cX7_closed 1 = .ok (.lstore 4, 2) := by decide +kernel
theorem dX7_closed_3 : decode cX7_closed 3 = .ok (.iconst 0, 1) := by decide +kernel
theorem dX7_closed_4 : decode cX7_closed 4 = .ok (.istore 6, 2) := by decide +kernel
theorem dX7_closed_6 : decode cX7_closed 6 = .ok (.iconst 0, 1) := by decide +kernel
theorem dX7_closed_7 : decode cX7_closed 7 = .ok (.istore 7, 2) := by decide +kernel
theorem dX7_closed_9 : decode cX7_closed 9 = .ok (.iload 7, 2) := by decide +kernel
theorem dX7_closed_11 : decode cX7_closed 11 = .ok (.bipush 45, 2) := by decide +kernel
theorem dX7_closed_13 : decode cX7_closed 13 = .ok (.if_icmp .ge 43, 3) := by decide +kernel
theorem dX7_closed_16 : decode cX7_closed 16 = .ok (.lload_n 2, 1) := by decide +kernel
theorem dX7_closed_17 : decode cX7_closed 17 = .ok (.iload 7, 2) := by decide +kernel
theorem dX7_closed_19 : decode cX7_closed 19 = .ok (.invokestatic 133, 3) := by decide +kernel
theorem dX7_closed_22 : decode cX7_closed 22 = .ok (.ifCond .eq 28, 3) := by decide +kernel
theorem dX7_closed_25 : decode cX7_closed 25 = .ok (.lload 4, 2) := by decide +kernel
theorem dX7_closed_27 : decode cX7_closed 27 = .ok (.lload_n 0, 1) := by decide +kernel
theorem dX7_closed_28 : decode cX7_closed 28 = .ok (.iload 7, 2) := by decide +kernel
theorem dX7_closed_30 : decode cX7_closed 30 = .ok (.invokestatic 133, 3) := by decide +kernel
theorem dX7_closed_33 : decode cX7_closed 33 = .ok (.ifCond .eq 10, 3) := by decide +kernel
theorem dX7_closed_36 : decode cX7_closed 36 = .ok (.lconst 1, 1) := by decide +kernel
theorem dX7_closed_37 : decode cX7_closed 37 = .ok (.iload 6, 2) := by decide +kernel
theorem dX7_closed_39 : decode cX7_closed 39 = .ok (.lshl, 1) := by decide +kernel
theorem dX7_closed_40 : decode cX7_closed 40 = .ok (.goto 4, 3) := by decide +kernel
theorem dX7_closed_43 : decode cX7_closed 43 = .ok (.lconst 0, 1) := by decide +kernel
theorem dX7_closed_44 : decode cX7_closed 44 = .ok (.lor, 1) := by decide +kernel
theorem dX7_closed_45 : decode cX7_closed 45 = .ok (.lstore 4, 2) := by decide +kernel
theorem dX7_closed_47 : decode cX7_closed 47 = .ok (.iinc 6 1, 3) := by decide +kernel
theorem dX7_closed_50 : decode cX7_closed 50 = .ok (.iinc 7 1, 3) := by decide +kernel
theorem dX7_closed_53 : decode cX7_closed 53 = .ok (.goto (-44), 3) := by decide +kernel
theorem dX7_closed_56 : decode cX7_closed 56 = .ok (.lload 4, 2) := by decide +kernel
theorem dX7_closed_58 : decode cX7_closed 58 = .ok (.lreturn, 1) := by decide +kernel
set_option maxRecDepth 20000 in
theorem ggX7_derive_X7_isNumber : GoodIn wsX7_derive wsX7_isNumber := goodIn_r _ [10, 11, 12, 9, 13] (by decide +kernel) (by decide +kernel)
set_option maxRecDepth 20000 in
theorem gX7_derive_X7_isNumber : GoodIn wsX7_derive (va_wsS RX7 95 yX7_isNumber wsX7_isNumber) := goodIn_app (goodIn_of _ (by decide +kernel)) ggX7_derive_X7_isNumber
set_option maxRecDepth 20000 in
theorem ggX7_derive_X7_looked : GoodIn wsX7_derive wsX7_looked := goodIn_r _ [17, 6, 7, 8, 9, 10, 11, 12, 13, 18, 19, 20, 21, 22, 23, 82, 83, 84, 85, 86, 87, 88, 89, 90, 91, 92, 93, 94, 95, 96, 97, 98, 99, 100, 101, 102, 103, 104, 105, 106, 107, 108, 109, 110, 111, 112, 113, 114] (by decide +kernel) (by decide +kernel)
set_option maxRecDepth 20000 in
theorem gX7_derive_X7_looked : GoodIn wsX7_derive (wsV RX7 137 RX7 yX7_looked wsX7_looked) := goodIn_app (goodIn_of _ (by decide +kernel)) ggX7_derive_X7_looked
set_option maxRecDepth 20000 in
theorem ggX7_derive_X7_isPoint : GoodIn wsX7_derive wsX7_isPoint := goodIn_r _ [27, 6, 11, 12, 9, 13, 82, 83, 84, 85, 86, 87, 88, 89, 90, 91, 92, 93, 94, 95, 96, 97, 98, 99, 100, 101, 102, 103, 104, 105, 106, 107, 108, 109, 110, 111, 112, 113, 114] (by decide +kernel) (by decide +kernel)
set_option maxRecDepth 20000 in
theorem gX7_derive_X7_isPoint : GoodIn wsX7_derive (wsV RX7 163 RX7 yX7_isPoint wsX7_isPoint) := goodIn_app (goodIn_of _ (by decide +kernel)) ggX7_derive_X7_isPoint
set_option maxRecDepth 20000 in
theorem ggX7_derive_X7_meets : GoodIn wsX7_derive wsX7_meets := goodIn_r _ [21, 22, 23, 82, 83, 84, 85, 86, 87, 88, 89, 90, 91, 92, 93, 94, 95, 96, 97, 98, 99, 100, 101, 102, 103, 104, 105, 106, 107, 108, 109, 110, 111, 112, 113, 114] (by decide +kernel) (by decide +kernel)
set_option maxRecDepth 20000 in
theorem gX7_derive_X7_meets : GoodIn wsX7_derive (wsV RX7 99 RX7 yX7_meets wsX7_meets) := goodIn_app (goodIn_of _ (by decide +kernel)) ggX7_derive_X7_meets
set_option maxRecDepth 20000 in
theorem ggX7_derive_X7_orderOf : GoodIn wsX7_derive wsX7_orderOf := goodIn_r _ [31, 4, 6, 5, 32, 33, 34, 9, 35, 36, 37, 38, 39, 40, 41, 82, 83, 84, 85, 86, 87, 88, 89, 90, 91, 92, 93, 94, 95, 96, 97, 98, 99, 100, 101, 102, 103, 104, 105, 106, 107, 108, 109, 110, 111, 112, 113, 114] (by decide +kernel) (by decide +kernel)
set_option maxRecDepth 20000 in
theorem gX7_derive_X7_orderOf : GoodIn wsX7_derive (wsV RX7 167 RX7 yX7_orderOf wsX7_orderOf) := goodIn_app (goodIn_of _ (by decide +kernel)) ggX7_derive_X7_orderOf
set_option maxRecDepth 20000 in
theorem ggX7_derive_X7_faultOf : GoodIn wsX7_derive wsX7_faultOf := goodIn_r _ [45, 4, 5, 46, 47, 6, 39, 40, 9, 41, 36, 37, 38, 82, 83, 84, 85, 86, 87, 88, 89, 90, 91, 92, 93, 94, 95, 96, 97, 98, 99, 100, 101, 102, 103, 104, 105, 106, 107, 108, 109, 110, 111, 112, 113, 114] (by decide +kernel) (by decide +kernel)
set_option maxRecDepth 20000 in
theorem gX7_derive_X7_faultOf : GoodIn wsX7_derive (wsV RX7 171 RX7 yX7_faultOf wsX7_faultOf) := goodIn_app (goodIn_of _ (by decide +kernel)) ggX7_derive_X7_faultOf
set_option maxRecDepth 20000 in
theorem ggX7_derive_X7_isRegular : GoodIn wsX7_derive wsX7_isRegular := goodIn_r _ [51, 6, 52, 53, 54, 9, 55, 4, 5, 36, 37, 38, 56, 57, 58, 59, 60, 61, 62, 63, 1, 64, 65, 66, 67, 39, 40, 41, 82, 83, 84, 85, 86, 87, 88, 89, 90, 91, 92, 93, 94, 95, 96, 97, 98, 99, 100, 101, 102, 103, 104, 105, 106, 107, 108, 109, 110, 111, 112, 113, 114] (by decide +kernel) (by decide +kernel)
set_option maxRecDepth 20000 in
theorem gX7_derive_X7_isRegular : GoodIn wsX7_derive (wsV RX7 174 RX7 yX7_isRegular wsX7_isRegular) := goodIn_app (goodIn_of _ (by decide +kernel)) ggX7_derive_X7_isRegular
set_option maxRecDepth 20000 in
theorem ggX7_derive_X7_allOf : GoodIn wsX7_derive wsX7_allOf := goodIn_r _ [67, 6, 82, 83, 84, 85, 86, 87, 88, 89, 90, 91, 92, 93, 94, 95, 96, 97, 98, 99, 100, 101, 102, 103, 104, 105, 106, 107, 108, 109, 110, 111, 112, 113, 114] (by decide +kernel) (by decide +kernel)
set_option maxRecDepth 20000 in
theorem gX7_derive_X7_allOf : GoodIn wsX7_derive (wsV RX7 144 RX7 yX7_allOf wsX7_allOf) := goodIn_app (goodIn_of _ (by decide +kernel)) ggX7_derive_X7_allOf
set_option maxRecDepth 20000 in
theorem ggX7_derive_X7_nearTo : GoodIn wsX7_derive wsX7_nearTo := goodIn_r _ [55, 4, 5, 36, 37, 9, 38, 82, 83, 84, 85, 86, 87, 88, 89, 90, 91, 92, 93, 94, 95, 96, 97, 98, 99, 100, 101, 102, 103, 104, 105, 106, 107, 108, 109, 110, 111, 112, 113, 114] (by decide +kernel) (by decide +kernel)
set_option maxRecDepth 20000 in
theorem gX7_derive_X7_nearTo : GoodIn wsX7_derive (wsV RX7 148 RX7 yX7_nearTo wsX7_nearTo) := goodIn_app (goodIn_of _ (by decide +kernel)) ggX7_derive_X7_nearTo
set_option maxRecDepth 20000 in
theorem ggX7_derive_X7_bits : GoodIn wsX7_derive wsX7_bits := goodIn_r _ [41] (by decide +kernel) (by decide +kernel)
set_option maxRecDepth 20000 in
theorem gX7_derive_X7_bits : GoodIn wsX7_derive (va_wsS RX7 116 yX7_bits wsX7_bits) := goodIn_app (goodIn_of _ (by decide +kernel)) ggX7_derive_X7_bits
set_option maxRecDepth 20000 in
theorem ggX7_derive_X7_has : GoodIn wsX7_derive wsX7_has := goodIn_r _ [38] (by decide +kernel) (by decide +kernel)
set_option maxRecDepth 20000 in
theorem gX7_derive_X7_has : GoodIn wsX7_derive (va_wsS RX7 133 yX7_has wsX7_has) := goodIn_app (goodIn_of _ (by decide +kernel)) ggX7_derive_X7_has
set_option maxRecDepth 20000 in
theorem ggX7_derive_X7_closed : GoodIn wsX7_derive wsX7_closed := goodIn_r _ [70, 36, 37, 9, 38] (by decide +kernel) (by decide +kernel)
set_option maxRecDepth 20000 in
theorem gX7_derive_X7_closed : GoodIn wsX7_derive (va_wsS RX7 177 yX7_closed wsX7_closed) := goodIn_app (goodIn_of _ (by decide +kernel)) ggX7_derive_X7_closed
set_option maxRecDepth 20000 in
theorem ggX7_derive_X7_add : GoodIn wsX7_derive wsX7_add := goodIn_r _ [74, 75, 3, 82, 83, 84, 85, 86, 87, 88, 89, 90, 91, 92, 93, 94, 95, 96, 97, 98, 99, 100, 101, 102, 103, 104, 105, 106, 107, 108, 109, 110, 111, 112, 113, 114] (by decide +kernel) (by decide +kernel)
set_option maxRecDepth 20000 in
theorem gX7_derive_X7_add : GoodIn wsX7_derive (wsV RX7 120 RX7 yX7_add wsX7_add) := goodIn_app (goodIn_of _ (by decide +kernel)) ggX7_derive_X7_add
set_option maxRecDepth 20000 in
theorem ggX7_derive_X7_spanOf : GoodIn wsX7_derive wsX7_spanOf := goodIn_r _ [59, 60, 61, 62, 9, 63, 6, 1, 64, 65, 66, 67, 36, 37, 38, 52, 53, 54, 55, 4, 5, 82, 83, 84, 85, 86, 87, 88, 89, 90, 91, 92, 93, 94, 95, 96, 97, 98, 99, 100, 101, 102, 103, 104, 105, 106, 107, 108, 109, 110, 111, 112, 113, 114] (by decide +kernel) (by decide +kernel)
set_option maxRecDepth 20000 in
theorem gX7_derive_X7_spanOf : GoodIn wsX7_derive (wsV RX7 155 RX7 yX7_spanOf wsX7_spanOf) := goodIn_app (goodIn_of _ (by decide +kernel)) ggX7_derive_X7_spanOf
set_option maxRecDepth 20000 in
theorem ggX7_derive_X7_keep : GoodIn wsX7_derive wsX7_keep := goodIn_r _ [79, 6, 2, 4, 3, 80, 81, 5, 75, 82, 83, 84, 85, 86, 87, 88, 89, 90, 91, 92, 93, 94, 95, 96, 97, 98, 99, 100, 101, 102, 103, 104, 105, 106, 107, 108, 109, 110, 111, 112, 113, 114] (by decide +kernel) (by decide +kernel)
set_option maxRecDepth 20000 in
theorem gX7_derive_X7_keep : GoodIn wsX7_derive (wsV RX7 109 RX7 yX7_keep wsX7_keep) := goodIn_app (goodIn_of _ (by decide +kernel)) ggX7_derive_X7_keep
theorem dX7_derive_0 : decode cX7_derive 0 = .ok (.iload_n 1, 1) := by decide +kernel
theorem dX7_derive_1 : decode cX7_derive 1 = .ok (.invokestatic 95, 3) := by decide +kernel
theorem dX7_derive_4 : decode cX7_derive 4 = .ok (.ifCond .eq 10, 3) := by decide +kernel
theorem dX7_derive_7 : decode cX7_derive 7 = .ok (.iload_n 3, 1) := by decide +kernel
theorem dX7_derive_8 : decode cX7_derive 8 = .ok (.invokestatic 95, 3) := by decide +kernel
theorem dX7_derive_11 : decode cX7_derive 11 = .ok (.ifCond .ne 5, 3) := by decide +kernel
theorem dX7_derive_14 : decode cX7_derive 14 = .ok (.iconst (-1), 1) := by decide +kernel
theorem dX7_derive_15 : decode cX7_derive 15 = .ok (.ireturn, 1) := by decide +kernel
theorem dX7_derive_16 : decode cX7_derive 16 = .ok (.aload_n 0, 1) := by decide +kernel
theorem dX7_derive_17 : decode cX7_derive 17 = .ok (.iload_n 1, 1) := by decide +kernel
theorem dX7_derive_18 : decode cX7_derive 18 = .ok (.invokevirtual 137, 3) := by decide +kernel
theorem dX7_derive_21 : decode cX7_derive 21 = .ok (.istore 4, 2) := by decide +kernel
theorem dX7_derive_23 : decode cX7_derive 23 = .ok (.iload 4, 2) := by decide +kernel
theorem dX7_derive_25 : decode cX7_derive 25 = .ok (.ifCond .ge 6, 3) := by decide +kernel
theorem dX7_derive_28 : decode cX7_derive 28 = .ok (.iload 4, 2) := by decide +kernel
theorem dX7_derive_30 : decode cX7_derive 30 = .ok (.ireturn, 1) := by decide +kernel
theorem dX7_derive_31 : decode cX7_derive 31 = .ok (.aload_n 0, 1) := by decide +kernel
theorem dX7_derive_32 : decode cX7_derive 32 = .ok (.iload_n 1, 1) := by decide +kernel
theorem dX7_derive_33 : decode cX7_derive 33 = .ok (.iload_n 2, 1) := by decide +kernel
theorem dX7_derive_34 : decode cX7_derive 34 = .ok (.invokevirtual 163, 3) := by decide +kernel
theorem dX7_derive_37 : decode cX7_derive 37 = .ok (.ifCond .ne 9, 3) := by decide +kernel
theorem dX7_derive_40 : decode cX7_derive 40 = .ok (.aload_n 0, 1) := by decide +kernel
theorem dX7_derive_41 : decode cX7_derive 41 = .ok (.iconst 2, 1) := by decide +kernel
theorem dX7_derive_42 : decode cX7_derive 42 = .ok (.invokevirtual 99, 3) := by decide +kernel
theorem dX7_derive_45 : decode cX7_derive 45 = .ok (.ireturn, 1) := by decide +kernel
theorem dX7_derive_46 : decode cX7_derive 46 = .ok (.aload_n 0, 1) := by decide +kernel
theorem dX7_derive_47 : decode cX7_derive 47 = .ok (.iload_n 1, 1) := by decide +kernel
theorem dX7_derive_48 : decode cX7_derive 48 = .ok (.iconst 0, 1) := by decide +kernel
theorem dX7_derive_49 : decode cX7_derive 49 = .ok (.invokevirtual 167, 3) := by decide +kernel
theorem dX7_derive_52 : decode cX7_derive 52 = .ok (.istore 5, 2) := by decide +kernel
theorem dX7_derive_54 : decode cX7_derive 54 = .ok (.aload_n 0, 1) := by decide +kernel
theorem dX7_derive_55 : decode cX7_derive 55 = .ok (.iload_n 1, 1) := by decide +kernel
theorem dX7_derive_56 : decode cX7_derive 56 = .ok (.invokevirtual 171, 3) := by decide +kernel
theorem dX7_derive_59 : decode cX7_derive 59 = .ok (.ifCond .ne 31, 3) := by decide +kernel
theorem dX7_derive_62 : decode cX7_derive 62 = .ok (.iload 5, 2) := by decide +kernel
theorem dX7_derive_64 : decode cX7_derive 64 = .ok (.iconst 2, 1) := by decide +kernel
theorem dX7_derive_65 : decode cX7_derive 65 = .ok (.if_icmp .lt 25, 3) := by decide +kernel
theorem dX7_derive_68 : decode cX7_derive 68 = .ok (.aload_n 0, 1) := by decide +kernel
theorem dX7_derive_69 : decode cX7_derive 69 = .ok (.iload_n 1, 1) := by decide +kernel
theorem dX7_derive_70 : decode cX7_derive 70 = .ok (.iconst 1, 1) := by decide +kernel
theorem dX7_derive_71 : decode cX7_derive 71 = .ok (.invokevirtual 167, 3) := by decide +kernel
theorem dX7_derive_74 : decode cX7_derive 74 = .ok (.iload 5, 2) := by decide +kernel
theorem dX7_derive_76 : decode cX7_derive 76 = .ok (.if_icmp .ne 14, 3) := by decide +kernel
theorem dX7_derive_79 : decode cX7_derive 79 = .ok (.aload_n 0, 1) := by decide +kernel
theorem dX7_derive_80 : decode cX7_derive 80 = .ok (.iload_n 1, 1) := by decide +kernel
theorem dX7_derive_81 : decode cX7_derive 81 = .ok (.iload_n 2, 1) := by decide +kernel
theorem dX7_derive_82 : decode cX7_derive 82 = .ok (.iload 5, 2) := by decide +kernel
theorem dX7_derive_84 : decode cX7_derive 84 = .ok (.invokevirtual 174, 3) := by decide +kernel
theorem dX7_derive_87 : decode cX7_derive 87 = .ok (.ifCond .ne 6, 3) := by decide +kernel
theorem dX7_derive_90 : decode cX7_derive 90 = .ok (.bipush (-4), 2) := by decide +kernel
theorem dX7_derive_92 : decode cX7_derive 92 = .ok (.ireturn, 1) := by decide +kernel
theorem dX7_derive_93 : decode cX7_derive 93 = .ok (.aload_n 0, 1) := by decide +kernel
theorem dX7_derive_94 : decode cX7_derive 94 = .ok (.iload_n 1, 1) := by decide +kernel
theorem dX7_derive_95 : decode cX7_derive 95 = .ok (.invokevirtual 144, 3) := by decide +kernel
theorem dX7_derive_98 : decode cX7_derive 98 = .ok (.aload_n 0, 1) := by decide +kernel
theorem dX7_derive_99 : decode cX7_derive 99 = .ok (.iload_n 1, 1) := by decide +kernel
theorem dX7_derive_100 : decode cX7_derive 100 = .ok (.iload_n 2, 1) := by decide +kernel
theorem dX7_derive_101 : decode cX7_derive 101 = .ok (.invokevirtual 148, 3) := by decide +kernel
theorem dX7_derive_104 : decode cX7_derive 104 = .ok (.ldc2_w 131, 3) := by decide +kernel
theorem dX7_derive_107 : decode cX7_derive 107 = .ok (.lxor, 1) := by decide +kernel
theorem dX7_derive_108 : decode cX7_derive 108 = .ok (.land, 1) := by decide +kernel
theorem dX7_derive_109 : decode cX7_derive 109 = .ok (.lstore 6, 2) := by decide +kernel
theorem dX7_derive_111 : decode cX7_derive 111 = .ok (.aload_n 0, 1) := by decide +kernel
theorem dX7_derive_112 : decode cX7_derive 112 = .ok (.lload 6, 2) := by decide +kernel
theorem dX7_derive_114 : decode cX7_derive 114 = .ok (.invokestatic 116, 3) := by decide +kernel
theorem dX7_derive_117 : decode cX7_derive 117 = .ok (.putfield 103, 3) := by decide +kernel
theorem dX7_derive_120 : decode cX7_derive 120 = .ok (.aload_n 0, 1) := by decide +kernel
theorem dX7_derive_121 : decode cX7_derive 121 = .ok (.iconst 0, 1) := by decide +kernel
theorem dX7_derive_122 : decode cX7_derive 122 = .ok (.putfield 106, 3) := by decide +kernel
theorem dX7_derive_125 : decode cX7_derive 125 = .ok (.iconst 0, 1) := by decide +kernel
theorem dX7_derive_126 : decode cX7_derive 126 = .ok (.istore 8, 2) := by decide +kernel
theorem dX7_derive_128 : decode cX7_derive 128 = .ok (.iload 8, 2) := by decide +kernel
theorem dX7_derive_130 : decode cX7_derive 130 = .ok (.aload_n 0, 1) := by decide +kernel
theorem dX7_derive_131 : decode cX7_derive 131 = .ok (.getfield 16, 3) := by decide +kernel
theorem dX7_derive_134 : decode cX7_derive 134 = .ok (.iload_n 1, 1) := by decide +kernel
theorem dX7_derive_135 : decode cX7_derive 135 = .ok (.iaload, 1) := by decide +kernel
theorem dX7_derive_136 : decode cX7_derive 136 = .ok (.if_icmp .ge 49, 3) := by decide +kernel
theorem dX7_derive_139 : decode cX7_derive 139 = .ok (.aload_n 0, 1) := by decide +kernel
theorem dX7_derive_140 : decode cX7_derive 140 = .ok (.getfield 25, 3) := by decide +kernel
theorem dX7_derive_143 : decode cX7_derive 143 = .ok (.bipush 45, 2) := by decide +kernel
theorem dX7_derive_145 : decode cX7_derive 145 = .ok (.iload_n 1, 1) := by decide +kernel
theorem dX7_derive_146 : decode cX7_derive 146 = .ok (.imul, 1) := by decide +kernel
theorem dX7_derive_147 : decode cX7_derive 147 = .ok (.iload 8, 2) := by decide +kernel
theorem dX7_derive_149 : decode cX7_derive 149 = .ok (.iadd, 1) := by decide +kernel
theorem dX7_derive_150 : decode cX7_derive 150 = .ok (.laload, 1) := by decide +kernel
theorem dX7_derive_151 : decode cX7_derive 151 = .ok (.iload_n 2, 1) := by decide +kernel
theorem dX7_derive_152 : decode cX7_derive 152 = .ok (.invokestatic 133, 3) := by decide +kernel
theorem dX7_derive_155 : decode cX7_derive 155 = .ok (.ifCond .ne 24, 3) := by decide +kernel
theorem dX7_derive_158 : decode cX7_derive 158 = .ok (.aload_n 0, 1) := by decide +kernel
theorem dX7_derive_159 : decode cX7_derive 159 = .ok (.aload_n 0, 1) := by decide +kernel
theorem dX7_derive_160 : decode cX7_derive 160 = .ok (.getfield 25, 3) := by decide +kernel
theorem dX7_derive_163 : decode cX7_derive 163 = .ok (.bipush 45, 2) := by decide +kernel
theorem dX7_derive_165 : decode cX7_derive 165 = .ok (.iload_n 1, 1) := by decide +kernel
theorem dX7_derive_166 : decode cX7_derive 166 = .ok (.imul, 1) := by decide +kernel
theorem dX7_derive_167 : decode cX7_derive 167 = .ok (.iload 8, 2) := by decide +kernel
theorem dX7_derive_169 : decode cX7_derive 169 = .ok (.iadd, 1) := by decide +kernel
theorem dX7_derive_170 : decode cX7_derive 170 = .ok (.laload, 1) := by decide +kernel
theorem dX7_derive_171 : decode cX7_derive 171 = .ok (.lload 6, 2) := by decide +kernel
theorem dX7_derive_173 : decode cX7_derive 173 = .ok (.invokestatic 177, 3) := by decide +kernel
theorem dX7_derive_176 : decode cX7_derive 176 = .ok (.invokevirtual 120, 3) := by decide +kernel
theorem dX7_derive_179 : decode cX7_derive 179 = .ok (.iinc 8 1, 3) := by decide +kernel
theorem dX7_derive_182 : decode cX7_derive 182 = .ok (.goto (-54), 3) := by decide +kernel
theorem dX7_derive_185 : decode cX7_derive 185 = .ok (.lconst 0, 1) := by decide +kernel
theorem dX7_derive_186 : decode cX7_derive 186 = .ok (.lstore 8, 2) := by decide +kernel
theorem dX7_derive_188 : decode cX7_derive 188 = .ok (.iconst 0, 1) := by decide +kernel
theorem dX7_derive_189 : decode cX7_derive 189 = .ok (.istore 10, 2) := by decide +kernel
theorem dX7_derive_191 : decode cX7_derive 191 = .ok (.iload 10, 2) := by decide +kernel
theorem dX7_derive_193 : decode cX7_derive 193 = .ok (.aload_n 0, 1) := by decide +kernel
theorem dX7_derive_194 : decode cX7_derive 194 = .ok (.getfield 13, 3) := by decide +kernel
theorem dX7_derive_197 : decode cX7_derive 197 = .ok (.iload_n 1, 1) := by decide +kernel
theorem dX7_derive_198 : decode cX7_derive 198 = .ok (.iaload, 1) := by decide +kernel
theorem dX7_derive_199 : decode cX7_derive 199 = .ok (.if_icmp .ge 65, 3) := by decide +kernel
theorem dX7_derive_202 : decode cX7_derive 202 = .ok (.lload 6, 2) := by decide +kernel
theorem dX7_derive_204 : decode cX7_derive 204 = .ok (.iload 10, 2) := by decide +kernel
theorem dX7_derive_206 : decode cX7_derive 206 = .ok (.invokestatic 133, 3) := by decide +kernel
theorem dX7_derive_209 : decode cX7_derive 209 = .ok (.ifCond .eq 49, 3) := by decide +kernel
theorem dX7_derive_212 : decode cX7_derive 212 = .ok (.lload 8, 2) := by decide +kernel
theorem dX7_derive_214 : decode cX7_derive 214 = .ok (.iload 10, 2) := by decide +kernel
theorem dX7_derive_216 : decode cX7_derive 216 = .ok (.invokestatic 133, 3) := by decide +kernel
theorem dX7_derive_219 : decode cX7_derive 219 = .ok (.ifCond .ne 39, 3) := by decide +kernel
theorem dX7_derive_222 : decode cX7_derive 222 = .ok (.aload_n 0, 1) := by decide +kernel
theorem dX7_derive_223 : decode cX7_derive 223 = .ok (.iload_n 1, 1) := by decide +kernel
theorem dX7_derive_224 : decode cX7_derive 224 = .ok (.iload_n 2, 1) := by decide +kernel
theorem dX7_derive_225 : decode cX7_derive 225 = .ok (.iload 10, 2) := by decide +kernel
theorem dX7_derive_227 : decode cX7_derive 227 = .ok (.invokevirtual 155, 3) := by decide +kernel
theorem dX7_derive_230 : decode cX7_derive 230 = .ok (.lconst 1, 1) := by decide +kernel
theorem dX7_derive_231 : decode cX7_derive 231 = .ok (.iload_n 2, 1) := by decide +kernel
theorem dX7_derive_232 : decode cX7_derive 232 = .ok (.lshl, 1) := by decide +kernel
theorem dX7_derive_233 : decode cX7_derive 233 = .ok (.ldc2_w 131, 3) := by decide +kernel
theorem dX7_derive_236 : decode cX7_derive 236 = .ok (.lxor, 1) := by decide +kernel
theorem dX7_derive_237 : decode cX7_derive 237 = .ok (.land, 1) := by decide +kernel
theorem dX7_derive_238 : decode cX7_derive 238 = .ok (.lstore 11, 2) := by decide +kernel
theorem dX7_derive_240 : decode cX7_derive 240 = .ok (.lload 8, 2) := by decide +kernel
theorem dX7_derive_242 : decode cX7_derive 242 = .ok (.lload 11, 2) := by decide +kernel
theorem dX7_derive_244 : decode cX7_derive 244 = .ok (.lor, 1) := by decide +kernel
theorem dX7_derive_245 : decode cX7_derive 245 = .ok (.lstore 8, 2) := by decide +kernel
theorem dX7_derive_247 : decode cX7_derive 247 = .ok (.aload_n 0, 1) := by decide +kernel
theorem dX7_derive_248 : decode cX7_derive 248 = .ok (.lload 11, 2) := by decide +kernel
theorem dX7_derive_250 : decode cX7_derive 250 = .ok (.lload 6, 2) := by decide +kernel
theorem dX7_derive_252 : decode cX7_derive 252 = .ok (.invokestatic 177, 3) := by decide +kernel
theorem dX7_derive_255 : decode cX7_derive 255 = .ok (.invokevirtual 120, 3) := by decide +kernel
theorem dX7_derive_258 : decode cX7_derive 258 = .ok (.iinc 10 1, 3) := by decide +kernel
theorem dX7_derive_261 : decode cX7_derive 261 = .ok (.goto (-70), 3) := by decide +kernel
theorem dX7_derive_264 : decode cX7_derive 264 = .ok (.aload_n 0, 1) := by decide +kernel
theorem dX7_derive_265 : decode cX7_derive 265 = .ok (.getfield 106, 3) := by decide +kernel
theorem dX7_derive_268 : decode cX7_derive 268 = .ok (.bipush 45, 2) := by decide +kernel
theorem dX7_derive_270 : decode cX7_derive 270 = .ok (.if_icmp .le 8, 3) := by decide +kernel
theorem dX7_derive_273 : decode cX7_derive 273 = .ok (.bipush (-2), 2) := by decide +kernel
theorem dX7_derive_275 : decode cX7_derive 275 = .ok (.goto 10, 3) := by decide +kernel
theorem dX7_derive_278 : decode cX7_derive 278 = .ok (.aload_n 0, 1) := by decide +kernel
theorem dX7_derive_279 : decode cX7_derive 279 = .ok (.iload_n 3, 1) := by decide +kernel
theorem dX7_derive_280 : decode cX7_derive 280 = .ok (.iconst 3, 1) := by decide +kernel
theorem dX7_derive_281 : decode cX7_derive 281 = .ok (.iconst 0, 1) := by decide +kernel
theorem dX7_derive_282 : decode cX7_derive 282 = .ok (.invokevirtual 109, 3) := by decide +kernel
theorem dX7_derive_285 : decode cX7_derive 285 = .ok (.ireturn, 1) := by decide +kernel
set_option maxRecDepth 20000 in
theorem ggX7_part_X7_isNumber : GoodIn wsX7_part wsX7_isNumber := goodIn_r _ [9, 10, 11, 8, 12] (by decide +kernel) (by decide +kernel)
set_option maxRecDepth 20000 in
theorem gX7_part_X7_isNumber : GoodIn wsX7_part (va_wsS RX7 95 yX7_isNumber wsX7_isNumber) := goodIn_app (goodIn_of _ (by decide +kernel)) ggX7_part_X7_isNumber
set_option maxRecDepth 20000 in
theorem ggX7_part_X7_looked : GoodIn wsX7_part wsX7_looked := goodIn_r _ [16, 17, 6, 7, 8, 9, 10, 11, 12, 18, 19, 20, 21, 22, 23, 48, 49, 50, 51, 52, 53, 54, 55, 56, 57, 58, 59, 60, 61, 62, 63, 64, 65, 66, 67, 68, 69, 70, 71, 72, 73, 74, 75, 76, 77, 78, 79, 80] (by decide +kernel) (by decide +kernel)
set_option maxRecDepth 20000 in
theorem gX7_part_X7_looked : GoodIn wsX7_part (wsV RX7 137 RX7 yX7_looked wsX7_looked) := goodIn_app (goodIn_of _ (by decide +kernel)) ggX7_part_X7_looked
set_option maxRecDepth 20000 in
theorem ggX7_part_X7_allOf : GoodIn wsX7_part wsX7_allOf := goodIn_r _ [27, 17, 48, 49, 50, 51, 52, 53, 54, 55, 56, 57, 58, 59, 60, 61, 62, 63, 64, 65, 66, 67, 68, 69, 70, 71, 72, 73, 74, 75, 76, 77, 78, 79, 80] (by decide +kernel) (by decide +kernel)
set_option maxRecDepth 20000 in
theorem gX7_part_X7_allOf : GoodIn wsX7_part (wsV RX7 144 RX7 yX7_allOf wsX7_allOf) := goodIn_app (goodIn_of _ (by decide +kernel)) ggX7_part_X7_allOf
set_option maxRecDepth 20000 in
theorem ggX7_part_X7_bits : GoodIn wsX7_part wsX7_bits := goodIn_r _ [30] (by decide +kernel) (by decide +kernel)
set_option maxRecDepth 20000 in
theorem gX7_part_X7_bits : GoodIn wsX7_part (va_wsS RX7 116 yX7_bits wsX7_bits) := goodIn_app (goodIn_of _ (by decide +kernel)) ggX7_part_X7_bits
set_option maxRecDepth 20000 in
theorem ggX7_part_X7_closed : GoodIn wsX7_part wsX7_closed := goodIn_r _ [33, 34, 35, 8, 36] (by decide +kernel) (by decide +kernel)
set_option maxRecDepth 20000 in
theorem gX7_part_X7_closed : GoodIn wsX7_part (va_wsS RX7 177 yX7_closed wsX7_closed) := goodIn_app (goodIn_of _ (by decide +kernel)) ggX7_part_X7_closed
set_option maxRecDepth 20000 in
theorem ggX7_part_X7_add : GoodIn wsX7_part wsX7_add := goodIn_r _ [40, 41, 3, 48, 49, 50, 51, 52, 53, 54, 55, 56, 57, 58, 59, 60, 61, 62, 63, 64, 65, 66, 67, 68, 69, 70, 71, 72, 73, 74, 75, 76, 77, 78, 79, 80] (by decide +kernel) (by decide +kernel)
set_option maxRecDepth 20000 in
theorem gX7_part_X7_add : GoodIn wsX7_part (wsV RX7 120 RX7 yX7_add wsX7_add) := goodIn_app (goodIn_of _ (by decide +kernel)) ggX7_part_X7_add
set_option maxRecDepth 20000 in
theorem ggX7_part_X7_keep : GoodIn wsX7_part wsX7_keep := goodIn_r _ [45, 17, 2, 4, 3, 46, 47, 5, 41, 48, 49, 50, 51, 52, 53, 54, 55, 56, 57, 58, 59, 60, 61, 62, 63, 64, 65, 66, 67, 68, 69, 70, 71, 72, 73, 74, 75, 76, 77, 78, 79, 80] (by decide +kernel) (by decide +kernel)
set_option maxRecDepth 20000 in
theorem gX7_part_X7_keep : GoodIn wsX7_part (wsV RX7 109 RX7 yX7_keep wsX7_keep) := goodIn_app (goodIn_of _ (by decide +kernel)) ggX7_part_X7_keep
theorem dX7_part_0 : decode cX7_part 0 = .ok (.iload_n 1, 1) := by decide +kernel
theorem dX7_part_1 : decode cX7_part 1 = .ok (.invokestatic 95, 3) := by decide +kernel
theorem dX7_part_4 : decode cX7_part 4 = .ok (.ifCond .eq 11, 3) := by decide +kernel
theorem dX7_part_7 : decode cX7_part 7 = .ok (.iload 4, 2) := by decide +kernel
theorem dX7_part_9 : decode cX7_part 9 = .ok (.invokestatic 95, 3) := by decide +kernel
theorem dX7_part_12 : decode cX7_part 12 = .ok (.ifCond .ne 5, 3) := by decide +kernel
theorem dX7_part_15 : decode cX7_part 15 = .ok (.iconst (-1), 1) := by decide +kernel
theorem dX7_part_16 : decode cX7_part 16 = .ok (.ireturn, 1) := by decide +kernel
theorem dX7_part_17 : decode cX7_part 17 = .ok (.aload_n 0, 1) := by decide +kernel
theorem dX7_part_18 : decode cX7_part 18 = .ok (.iload_n 1, 1) := by decide +kernel
theorem dX7_part_19 : decode cX7_part 19 = .ok (.invokevirtual 137, 3) := by decide +kernel
theorem dX7_part_22 : decode cX7_part 22 = .ok (.istore 5, 2) := by decide +kernel
theorem dX7_part_24 : decode cX7_part 24 = .ok (.iload 5, 2) := by decide +kernel
theorem dX7_part_26 : decode cX7_part 26 = .ok (.ifCond .ge 6, 3) := by decide +kernel
theorem dX7_part_29 : decode cX7_part 29 = .ok (.iload 5, 2) := by decide +kernel
theorem dX7_part_31 : decode cX7_part 31 = .ok (.ireturn, 1) := by decide +kernel
theorem dX7_part_32 : decode cX7_part 32 = .ok (.lload_n 2, 1) := by decide +kernel
theorem dX7_part_33 : decode cX7_part 33 = .ok (.aload_n 0, 1) := by decide +kernel
theorem dX7_part_34 : decode cX7_part 34 = .ok (.iload_n 1, 1) := by decide +kernel
theorem dX7_part_35 : decode cX7_part 35 = .ok (.invokevirtual 144, 3) := by decide +kernel
theorem dX7_part_38 : decode cX7_part 38 = .ok (.ldc2_w 131, 3) := by decide +kernel
theorem dX7_part_41 : decode cX7_part 41 = .ok (.lxor, 1) := by decide +kernel
theorem dX7_part_42 : decode cX7_part 42 = .ok (.land, 1) := by decide +kernel
theorem dX7_part_43 : decode cX7_part 43 = .ok (.lconst 0, 1) := by decide +kernel
theorem dX7_part_44 : decode cX7_part 44 = .ok (.lcmp, 1) := by decide +kernel
theorem dX7_part_45 : decode cX7_part 45 = .ok (.ifCond .eq 5, 3) := by decide +kernel
theorem dX7_part_48 : decode cX7_part 48 = .ok (.iconst (-1), 1) := by decide +kernel
theorem dX7_part_49 : decode cX7_part 49 = .ok (.ireturn, 1) := by decide +kernel
theorem dX7_part_50 : decode cX7_part 50 = .ok (.aload_n 0, 1) := by decide +kernel
theorem dX7_part_51 : decode cX7_part 51 = .ok (.lload_n 2, 1) := by decide +kernel
theorem dX7_part_52 : decode cX7_part 52 = .ok (.invokestatic 116, 3) := by decide +kernel
theorem dX7_part_55 : decode cX7_part 55 = .ok (.putfield 103, 3) := by decide +kernel
theorem dX7_part_58 : decode cX7_part 58 = .ok (.aload_n 0, 1) := by decide +kernel
theorem dX7_part_59 : decode cX7_part 59 = .ok (.iconst 0, 1) := by decide +kernel
theorem dX7_part_60 : decode cX7_part 60 = .ok (.putfield 106, 3) := by decide +kernel
theorem dX7_part_63 : decode cX7_part 63 = .ok (.iconst 0, 1) := by decide +kernel
theorem dX7_part_64 : decode cX7_part 64 = .ok (.istore 6, 2) := by decide +kernel
theorem dX7_part_66 : decode cX7_part 66 = .ok (.iload 6, 2) := by decide +kernel
theorem dX7_part_68 : decode cX7_part 68 = .ok (.aload_n 0, 1) := by decide +kernel
theorem dX7_part_69 : decode cX7_part 69 = .ok (.getfield 16, 3) := by decide +kernel
theorem dX7_part_72 : decode cX7_part 72 = .ok (.iload_n 1, 1) := by decide +kernel
theorem dX7_part_73 : decode cX7_part 73 = .ok (.iaload, 1) := by decide +kernel
theorem dX7_part_74 : decode cX7_part 74 = .ok (.if_icmp .ge 50, 3) := by decide +kernel
theorem dX7_part_77 : decode cX7_part 77 = .ok (.aload_n 0, 1) := by decide +kernel
theorem dX7_part_78 : decode cX7_part 78 = .ok (.getfield 25, 3) := by decide +kernel
theorem dX7_part_81 : decode cX7_part 81 = .ok (.bipush 45, 2) := by decide +kernel
theorem dX7_part_83 : decode cX7_part 83 = .ok (.iload_n 1, 1) := by decide +kernel
theorem dX7_part_84 : decode cX7_part 84 = .ok (.imul, 1) := by decide +kernel
theorem dX7_part_85 : decode cX7_part 85 = .ok (.iload 6, 2) := by decide +kernel
theorem dX7_part_87 : decode cX7_part 87 = .ok (.iadd, 1) := by decide +kernel
theorem dX7_part_88 : decode cX7_part 88 = .ok (.laload, 1) := by decide +kernel
theorem dX7_part_89 : decode cX7_part 89 = .ok (.lload_n 2, 1) := by decide +kernel
theorem dX7_part_90 : decode cX7_part 90 = .ok (.land, 1) := by decide +kernel
theorem dX7_part_91 : decode cX7_part 91 = .ok (.invokestatic 116, 3) := by decide +kernel
theorem dX7_part_94 : decode cX7_part 94 = .ok (.iconst 1, 1) := by decide +kernel
theorem dX7_part_95 : decode cX7_part 95 = .ok (.if_icmp .le 23, 3) := by decide +kernel
theorem dX7_part_98 : decode cX7_part 98 = .ok (.aload_n 0, 1) := by decide +kernel
theorem dX7_part_99 : decode cX7_part 99 = .ok (.aload_n 0, 1) := by decide +kernel
theorem dX7_part_100 : decode cX7_part 100 = .ok (.getfield 25, 3) := by decide +kernel
theorem dX7_part_103 : decode cX7_part 103 = .ok (.bipush 45, 2) := by decide +kernel
theorem dX7_part_105 : decode cX7_part 105 = .ok (.iload_n 1, 1) := by decide +kernel
theorem dX7_part_106 : decode cX7_part 106 = .ok (.imul, 1) := by decide +kernel
theorem dX7_part_107 : decode cX7_part 107 = .ok (.iload 6, 2) := by decide +kernel
theorem dX7_part_109 : decode cX7_part 109 = .ok (.iadd, 1) := by decide +kernel
theorem dX7_part_110 : decode cX7_part 110 = .ok (.laload, 1) := by decide +kernel
theorem dX7_part_111 : decode cX7_part 111 = .ok (.lload_n 2, 1) := by decide +kernel
theorem dX7_part_112 : decode cX7_part 112 = .ok (.invokestatic 177, 3) := by decide +kernel
theorem dX7_part_115 : decode cX7_part 115 = .ok (.invokevirtual 120, 3) := by decide +kernel
theorem dX7_part_118 : decode cX7_part 118 = .ok (.iinc 6 1, 3) := by decide +kernel
theorem dX7_part_121 : decode cX7_part 121 = .ok (.goto (-55), 3) := by decide +kernel
theorem dX7_part_124 : decode cX7_part 124 = .ok (.aload_n 0, 1) := by decide +kernel
theorem dX7_part_125 : decode cX7_part 125 = .ok (.getfield 106, 3) := by decide +kernel
theorem dX7_part_128 : decode cX7_part 128 = .ok (.ifCond .ne 8, 3) := by decide +kernel
theorem dX7_part_131 : decode cX7_part 131 = .ok (.bipush (-4), 2) := by decide +kernel
theorem dX7_part_133 : decode cX7_part 133 = .ok (.goto 11, 3) := by decide +kernel
theorem dX7_part_136 : decode cX7_part 136 = .ok (.aload_n 0, 1) := by decide +kernel
theorem dX7_part_137 : decode cX7_part 137 = .ok (.iload 4, 2) := by decide +kernel
theorem dX7_part_139 : decode cX7_part 139 = .ok (.iconst 3, 1) := by decide +kernel
theorem dX7_part_140 : decode cX7_part 140 = .ok (.iconst 0, 1) := by decide +kernel
theorem dX7_part_141 : decode cX7_part 141 = .ok (.invokevirtual 109, 3) := by decide +kernel
theorem dX7_part_144 : decode cX7_part 144 = .ok (.ireturn, 1) := by decide +kernel
set_option maxRecDepth 20000 in
theorem ggX7_drop_X7_looked : GoodIn wsX7_drop wsX7_looked := goodIn_r _ [6, 1, 7, 8, 5, 9, 10, 11, 12, 13, 14, 15, 16, 17, 18, 19, 20, 21, 22, 23, 24, 25, 26, 27, 28, 29, 30, 31, 32, 33, 34, 35, 36, 37, 38, 39, 40, 41, 42, 43, 44, 45, 46, 47, 48, 49, 50, 51] (by decide +kernel) (by decide +kernel)
set_option maxRecDepth 20000 in
theorem gX7_drop_X7_looked : GoodIn wsX7_drop (wsV RX7 137 RX7 yX7_looked wsX7_looked) := goodIn_app (goodIn_of _ (by decide +kernel)) ggX7_drop_X7_looked
theorem dX7_drop_0 : decode cX7_drop 0 = .ok (.aload_n 0, 1) := by decide +kernel
theorem dX7_drop_1 : decode cX7_drop 1 = .ok (.iload_n 1, 1) := by decide +kernel
theorem dX7_drop_2 : decode cX7_drop 2 = .ok (.invokevirtual 137, 3) := by decide +kernel
theorem dX7_drop_5 : decode cX7_drop 5 = .ok (.istore_n 2, 1) := by decide +kernel
theorem dX7_drop_6 : decode cX7_drop 6 = .ok (.iload_n 2, 1) := by decide +kernel
theorem dX7_drop_7 : decode cX7_drop 7 = .ok (.ifCond .ge 5, 3) := by decide +kernel
theorem dX7_drop_10 : decode cX7_drop 10 = .ok (.iload_n 2, 1) := by decide +kernel
theorem dX7_drop_11 : decode cX7_drop 11 = .ok (.ireturn, 1) := by decide +kernel
theorem dX7_drop_12 : decode cX7_drop 12 = .ok (.aload_n 0, 1) := by decide +kernel
theorem dX7_drop_13 : decode cX7_drop 13 = .ok (.getfield 13, 3) := by decide +kernel
theorem dX7_drop_16 : decode cX7_drop 16 = .ok (.iload_n 1, 1) := by decide +kernel
theorem dX7_drop_17 : decode cX7_drop 17 = .ok (.iconst 0, 1) := by decide +kernel
theorem dX7_drop_18 : decode cX7_drop 18 = .ok (.iastore, 1) := by decide +kernel
theorem dX7_drop_19 : decode cX7_drop 19 = .ok (.iconst 1, 1) := by decide +kernel
theorem dX7_drop_20 : decode cX7_drop 20 = .ok (.ireturn, 1) := by decide +kernel
set_option maxRecDepth 20000 in
theorem ggX7_told_X7_in : GoodIn wsX7_told wsX7_in := goodIn_r _ [7] (by decide +kernel) (by decide +kernel)
set_option maxRecDepth 20000 in
theorem gX7_told_X7_in : GoodIn wsX7_told (va_wsS RX7 91 yX7_in wsX7_in) := goodIn_app (goodIn_of _ (by decide +kernel)) ggX7_told_X7_in
set_option maxRecDepth 20000 in
theorem ggX7_told_X7_looked : GoodIn wsX7_told wsX7_looked := goodIn_r _ [11, 2, 12, 13, 6, 14, 4, 5, 7, 15, 16, 17, 18, 19, 20, 36, 37, 38, 39, 40, 41, 42, 43, 44, 45, 46, 47, 48, 49, 50, 51, 52, 53, 54, 55, 56, 57, 58, 59, 60, 61, 62, 63, 64, 65, 66, 67, 68] (by decide +kernel) (by decide +kernel)
set_option maxRecDepth 20000 in
theorem gX7_told_X7_looked : GoodIn wsX7_told (wsV RX7 137 RX7 yX7_looked wsX7_looked) := goodIn_app (goodIn_of _ (by decide +kernel)) ggX7_told_X7_looked
set_option maxRecDepth 20000 in
theorem ggX7_told_X7_orderOf : GoodIn wsX7_told wsX7_orderOf := goodIn_r _ [24, 3, 2, 25, 26, 27, 28, 6, 29, 30, 31, 32, 33, 34, 35, 36, 37, 38, 39, 40, 41, 42, 43, 44, 45, 46, 47, 48, 49, 50, 51, 52, 53, 54, 55, 56, 57, 58, 59, 60, 61, 62, 63, 64, 65, 66, 67, 68] (by decide +kernel) (by decide +kernel)
set_option maxRecDepth 20000 in
theorem gX7_told_X7_orderOf : GoodIn wsX7_told (wsV RX7 167 RX7 yX7_orderOf wsX7_orderOf) := goodIn_app (goodIn_of _ (by decide +kernel)) ggX7_told_X7_orderOf
theorem dX7_told_0 : decode cX7_told 0 = .ok (.iload_n 2, 1) := by decide +kernel
theorem dX7_told_1 : decode cX7_told 1 = .ok (.iconst 0, 1) := by decide +kernel
theorem dX7_told_2 : decode cX7_told 2 = .ok (.iconst 4, 1) := by decide +kernel
theorem dX7_told_3 : decode cX7_told 3 = .ok (.invokestatic 91, 3) := by decide +kernel
theorem dX7_told_6 : decode cX7_told 6 = .ok (.ifCond .ne 5, 3) := by decide +kernel
theorem dX7_told_9 : decode cX7_told 9 = .ok (.iconst (-1), 1) := by decide +kernel
theorem dX7_told_10 : decode cX7_told 10 = .ok (.ireturn, 1) := by decide +kernel
theorem dX7_told_11 : decode cX7_told 11 = .ok (.aload_n 0, 1) := by decide +kernel
theorem dX7_told_12 : decode cX7_told 12 = .ok (.iload_n 1, 1) := by decide +kernel
theorem dX7_told_13 : decode cX7_told 13 = .ok (.invokevirtual 137, 3) := by decide +kernel
theorem dX7_told_16 : decode cX7_told 16 = .ok (.istore_n 3, 1) := by decide +kernel
theorem dX7_told_17 : decode cX7_told 17 = .ok (.iload_n 3, 1) := by decide +kernel
theorem dX7_told_18 : decode cX7_told 18 = .ok (.ifCond .ge 5, 3) := by decide +kernel
theorem dX7_told_21 : decode cX7_told 21 = .ok (.iload_n 3, 1) := by decide +kernel
theorem dX7_told_22 : decode cX7_told 22 = .ok (.ireturn, 1) := by decide +kernel
theorem dX7_told_23 : decode cX7_told 23 = .ok (.iload_n 2, 1) := by decide +kernel
theorem dX7_told_24 : decode cX7_told 24 = .ok (.ifCond .ne 12, 3) := by decide +kernel
theorem dX7_told_27 : decode cX7_told 27 = .ok (.aload_n 0, 1) := by decide +kernel
theorem dX7_told_28 : decode cX7_told 28 = .ok (.getfield 19, 3) := by decide +kernel
theorem dX7_told_31 : decode cX7_told 31 = .ok (.iload_n 1, 1) := by decide +kernel
theorem dX7_told_32 : decode cX7_told 32 = .ok (.iaload, 1) := by decide +kernel
theorem dX7_told_33 : decode cX7_told 33 = .ok (.goto 46, 3) := by decide +kernel
theorem dX7_told_36 : decode cX7_told 36 = .ok (.iload_n 2, 1) := by decide +kernel
theorem dX7_told_37 : decode cX7_told 37 = .ok (.iconst 1, 1) := by decide +kernel
theorem dX7_told_38 : decode cX7_told 38 = .ok (.if_icmp .ne 12, 3) := by decide +kernel
theorem dX7_told_41 : decode cX7_told 41 = .ok (.aload_n 0, 1) := by decide +kernel
theorem dX7_told_42 : decode cX7_told 42 = .ok (.getfield 13, 3) := by decide +kernel
theorem dX7_told_45 : decode cX7_told 45 = .ok (.iload_n 1, 1) := by decide +kernel
theorem dX7_told_46 : decode cX7_told 46 = .ok (.iaload, 1) := by decide +kernel
theorem dX7_told_47 : decode cX7_told 47 = .ok (.goto 32, 3) := by decide +kernel
theorem dX7_told_50 : decode cX7_told 50 = .ok (.iload_n 2, 1) := by decide +kernel
theorem dX7_told_51 : decode cX7_told 51 = .ok (.iconst 2, 1) := by decide +kernel
theorem dX7_told_52 : decode cX7_told 52 = .ok (.if_icmp .ne 12, 3) := by decide +kernel
theorem dX7_told_55 : decode cX7_told 55 = .ok (.aload_n 0, 1) := by decide +kernel
theorem dX7_told_56 : decode cX7_told 56 = .ok (.getfield 16, 3) := by decide +kernel
theorem dX7_told_59 : decode cX7_told 59 = .ok (.iload_n 1, 1) := by decide +kernel
theorem dX7_told_60 : decode cX7_told 60 = .ok (.iaload, 1) := by decide +kernel
theorem dX7_told_61 : decode cX7_told 61 = .ok (.goto 18, 3) := by decide +kernel
theorem dX7_told_64 : decode cX7_told 64 = .ok (.aload_n 0, 1) := by decide +kernel
theorem dX7_told_65 : decode cX7_told 65 = .ok (.iload_n 1, 1) := by decide +kernel
theorem dX7_told_66 : decode cX7_told 66 = .ok (.iload_n 2, 1) := by decide +kernel
theorem dX7_told_67 : decode cX7_told 67 = .ok (.iconst 3, 1) := by decide +kernel
theorem dX7_told_68 : decode cX7_told 68 = .ok (.if_icmp .ne 7, 3) := by decide +kernel
theorem dX7_told_71 : decode cX7_told 71 = .ok (.iconst 1, 1) := by decide +kernel
theorem dX7_told_72 : decode cX7_told 72 = .ok (.goto 4, 3) := by decide +kernel
theorem dX7_told_75 : decode cX7_told 75 = .ok (.iconst 0, 1) := by decide +kernel
theorem dX7_told_76 : decode cX7_told 76 = .ok (.invokevirtual 167, 3) := by decide +kernel
theorem dX7_told_79 : decode cX7_told 79 = .ok (.ireturn, 1) := by decide +kernel
set_option maxRecDepth 20000 in
theorem ggX7_mark_X7_in : GoodIn wsX7_mark wsX7_in := goodIn_r _ [6] (by decide +kernel) (by decide +kernel)
set_option maxRecDepth 20000 in
theorem gX7_mark_X7_in : GoodIn wsX7_mark (va_wsS RX7 91 yX7_in wsX7_in) := goodIn_app (goodIn_of _ (by decide +kernel)) ggX7_mark_X7_in
set_option maxRecDepth 20000 in
theorem ggX7_mark_X7_looked : GoodIn wsX7_mark wsX7_looked := goodIn_r _ [10, 11, 12, 13, 5, 14, 3, 4, 6, 15, 16, 17, 18, 19, 20, 33, 34, 35, 36, 37, 38, 39, 40, 41, 42, 43, 44, 45, 46, 47, 48, 49, 50, 51, 52, 53, 54, 55, 56, 57, 58, 59, 60, 61, 62, 63, 64, 65] (by decide +kernel) (by decide +kernel)
set_option maxRecDepth 20000 in
theorem gX7_mark_X7_looked : GoodIn wsX7_mark (wsV RX7 137 RX7 yX7_looked wsX7_looked) := goodIn_app (goodIn_of _ (by decide +kernel)) ggX7_mark_X7_looked
set_option maxRecDepth 20000 in
theorem ggX7_mark_X7_meets : GoodIn wsX7_mark wsX7_meets := goodIn_r _ [18, 19, 20, 33, 34, 35, 36, 37, 38, 39, 40, 41, 42, 43, 44, 45, 46, 47, 48, 49, 50, 51, 52, 53, 54, 55, 56, 57, 58, 59, 60, 61, 62, 63, 64, 65] (by decide +kernel) (by decide +kernel)
set_option maxRecDepth 20000 in
theorem gX7_mark_X7_meets : GoodIn wsX7_mark (wsV RX7 99 RX7 yX7_meets wsX7_meets) := goodIn_app (goodIn_of _ (by decide +kernel)) ggX7_mark_X7_meets
set_option maxRecDepth 20000 in
theorem ggX7_mark_X7_through : GoodIn wsX7_mark wsX7_through := goodIn_r _ [24, 25, 26, 27, 28, 5, 29, 33, 34, 35, 36, 37, 38, 39, 40, 41, 42, 43, 44, 45, 46, 47, 48, 49, 50, 51, 52, 53, 54, 55, 56, 57, 58, 59, 60, 61, 62, 63, 64, 65] (by decide +kernel) (by decide +kernel)
set_option maxRecDepth 20000 in
theorem gX7_mark_X7_through : GoodIn wsX7_mark (wsV RX7 140 RX7 yX7_through wsX7_through) := goodIn_app (goodIn_of _ (by decide +kernel)) ggX7_mark_X7_through
set_option maxRecDepth 20000 in
theorem ggX7_mark_X7_bits : GoodIn wsX7_mark wsX7_bits := goodIn_r _ [32] (by decide +kernel) (by decide +kernel)
set_option maxRecDepth 20000 in
theorem gX7_mark_X7_bits : GoodIn wsX7_mark (va_wsS RX7 116 yX7_bits wsX7_bits) := goodIn_app (goodIn_of _ (by decide +kernel)) ggX7_mark_X7_bits
theorem dX7_mark_0 : decode cX7_mark 0 = .ok (.iload_n 2, 1) := by decide +kernel
theorem dX7_mark_1 : decode cX7_mark 1 = .ok (.iconst 1, 1) := by decide +kernel
theorem dX7_mark_2 : decode cX7_mark 2 = .ok (.iconst 3, 1) := by decide +kernel
theorem dX7_mark_3 : decode cX7_mark 3 = .ok (.invokestatic 91, 3) := by decide +kernel
theorem dX7_mark_6 : decode cX7_mark 6 = .ok (.ifCond .ne 5, 3) := by decide +kernel
theorem dX7_mark_9 : decode cX7_mark 9 = .ok (.iconst (-1), 1) := by decide +kernel
theorem dX7_mark_10 : decode cX7_mark 10 = .ok (.ireturn, 1) := by decide +kernel
theorem dX7_mark_11 : decode cX7_mark 11 = .ok (.aload_n 0, 1) := by decide +kernel
theorem dX7_mark_12 : decode cX7_mark 12 = .ok (.iload_n 1, 1) := by decide +kernel
theorem dX7_mark_13 : decode cX7_mark 13 = .ok (.invokevirtual 137, 3) := by decide +kernel
theorem dX7_mark_16 : decode cX7_mark 16 = .ok (.istore_n 3, 1) := by decide +kernel
theorem dX7_mark_17 : decode cX7_mark 17 = .ok (.iload_n 3, 1) := by decide +kernel
theorem dX7_mark_18 : decode cX7_mark 18 = .ok (.ifCond .ge 5, 3) := by decide +kernel
theorem dX7_mark_21 : decode cX7_mark 21 = .ok (.iload_n 3, 1) := by decide +kernel
theorem dX7_mark_22 : decode cX7_mark 22 = .ok (.ireturn, 1) := by decide +kernel
theorem dX7_mark_23 : decode cX7_mark 23 = .ok (.aload_n 0, 1) := by decide +kernel
theorem dX7_mark_24 : decode cX7_mark 24 = .ok (.getfield 19, 3) := by decide +kernel
theorem dX7_mark_27 : decode cX7_mark 27 = .ok (.iload_n 1, 1) := by decide +kernel
theorem dX7_mark_28 : decode cX7_mark 28 = .ok (.iaload, 1) := by decide +kernel
theorem dX7_mark_29 : decode cX7_mark 29 = .ok (.iload_n 2, 1) := by decide +kernel
theorem dX7_mark_30 : decode cX7_mark 30 = .ok (.if_icmp .eq 11, 3) := by decide +kernel
theorem dX7_mark_33 : decode cX7_mark 33 = .ok (.aload_n 0, 1) := by decide +kernel
theorem dX7_mark_34 : decode cX7_mark 34 = .ok (.iconst 3, 1) := by decide +kernel
theorem dX7_mark_35 : decode cX7_mark 35 = .ok (.invokevirtual 99, 3) := by decide +kernel
theorem dX7_mark_38 : decode cX7_mark 38 = .ok (.goto 26, 3) := by decide +kernel
theorem dX7_mark_41 : decode cX7_mark 41 = .ok (.iload_n 2, 1) := by decide +kernel
theorem dX7_mark_42 : decode cX7_mark 42 = .ok (.iconst 3, 1) := by decide +kernel
theorem dX7_mark_43 : decode cX7_mark 43 = .ok (.if_icmp .ne 15, 3) := by decide +kernel
theorem dX7_mark_46 : decode cX7_mark 46 = .ok (.aload_n 0, 1) := by decide +kernel
theorem dX7_mark_47 : decode cX7_mark 47 = .ok (.iload_n 1, 1) := by decide +kernel
theorem dX7_mark_48 : decode cX7_mark 48 = .ok (.iconst 0, 1) := by decide +kernel
theorem dX7_mark_49 : decode cX7_mark 49 = .ok (.invokevirtual 140, 3) := by decide +kernel
theorem dX7_mark_52 : decode cX7_mark 52 = .ok (.invokestatic 116, 3) := by decide +kernel
theorem dX7_mark_55 : decode cX7_mark 55 = .ok (.goto 9, 3) := by decide +kernel
theorem dX7_mark_58 : decode cX7_mark 58 = .ok (.aload_n 0, 1) := by decide +kernel
theorem dX7_mark_59 : decode cX7_mark 59 = .ok (.getfield 22, 3) := by decide +kernel
theorem dX7_mark_62 : decode cX7_mark 62 = .ok (.iload_n 1, 1) := by decide +kernel
theorem dX7_mark_63 : decode cX7_mark 63 = .ok (.iaload, 1) := by decide +kernel
theorem dX7_mark_64 : decode cX7_mark 64 = .ok (.ireturn, 1) := by decide +kernel
set_option maxRecDepth 20000 in
theorem ggX7_points_X7_looked : GoodIn wsX7_points wsX7_looked := goodIn_r _ [7, 8, 9, 10, 6, 11, 12, 13, 14, 15, 16, 17, 18, 19, 20, 29, 30, 31, 32, 33, 34, 35, 36, 37, 38, 39, 40, 41, 42, 43, 44, 45, 46, 47, 48, 49, 50, 51, 52, 53, 54, 55, 56, 57, 58, 59, 60, 61] (by decide +kernel) (by decide +kernel)
set_option maxRecDepth 20000 in
theorem gX7_points_X7_looked : GoodIn wsX7_points (wsV RX7 137 RX7 yX7_looked wsX7_looked) := goodIn_app (goodIn_of _ (by decide +kernel)) ggX7_points_X7_looked
set_option maxRecDepth 20000 in
theorem ggX7_points_X7_in : GoodIn wsX7_points wsX7_in := goodIn_r _ [14] (by decide +kernel) (by decide +kernel)
set_option maxRecDepth 20000 in
theorem gX7_points_X7_in : GoodIn wsX7_points (va_wsS RX7 91 yX7_in wsX7_in) := goodIn_app (goodIn_of _ (by decide +kernel)) ggX7_points_X7_in
set_option maxRecDepth 20000 in
theorem ggX7_points_X7_bits : GoodIn wsX7_points wsX7_bits := goodIn_r _ [23] (by decide +kernel) (by decide +kernel)
set_option maxRecDepth 20000 in
theorem gX7_points_X7_bits : GoodIn wsX7_points (va_wsS RX7 116 yX7_bits wsX7_bits) := goodIn_app (goodIn_of _ (by decide +kernel)) ggX7_points_X7_bits
set_option maxRecDepth 20000 in
theorem ggX7_points_X7_ask : GoodIn wsX7_points wsX7_ask := goodIn_r _ [27, 28, 29, 30, 31, 32, 33, 34, 35, 36, 37, 38, 39, 40, 41, 42, 43, 44, 45, 46, 47, 48, 49, 50, 51, 52, 53, 54, 55, 56, 57, 58, 59, 60, 61] (by decide +kernel) (by decide +kernel)
set_option maxRecDepth 20000 in
theorem gX7_points_X7_ask : GoodIn wsX7_points (wsV RX7 181 RX7 yX7_ask wsX7_ask) := goodIn_app (goodIn_of _ (by decide +kernel)) ggX7_points_X7_ask
set_option maxRecDepth 20000 in
theorem ggX7_points_X7_meets : GoodIn wsX7_points wsX7_meets := goodIn_r _ [18, 19, 20, 29, 30, 31, 32, 33, 34, 35, 36, 37, 38, 39, 40, 41, 42, 43, 44, 45, 46, 47, 48, 49, 50, 51, 52, 53, 54, 55, 56, 57, 58, 59, 60, 61] (by decide +kernel) (by decide +kernel)
set_option maxRecDepth 20000 in
theorem gX7_points_X7_meets : GoodIn wsX7_points (wsV RX7 99 RX7 yX7_meets wsX7_meets) := goodIn_app (goodIn_of _ (by decide +kernel)) ggX7_points_X7_meets
theorem dX7_points_0 : decode cX7_points 0 = .ok (.aload_n 0, 1) := by decide +kernel
theorem dX7_points_1 : decode cX7_points 1 = .ok (.iload_n 1, 1) := by decide +kernel
theorem dX7_points_2 : decode cX7_points 2 = .ok (.invokevirtual 137, 3) := by decide +kernel
theorem dX7_points_5 : decode cX7_points 5 = .ok (.istore_n 3, 1) := by decide +kernel
theorem dX7_points_6 : decode cX7_points 6 = .ok (.iload_n 3, 1) := by decide +kernel
theorem dX7_points_7 : decode cX7_points 7 = .ok (.ifCond .ge 5, 3) := by decide +kernel
theorem dX7_points_10 : decode cX7_points 10 = .ok (.iload_n 3, 1) := by decide +kernel
theorem dX7_points_11 : decode cX7_points 11 = .ok (.ireturn, 1) := by decide +kernel
theorem dX7_points_12 : decode cX7_points 12 = .ok (.iload_n 2, 1) := by decide +kernel
theorem dX7_points_13 : decode cX7_points 13 = .ok (.iconst 0, 1) := by decide +kernel
theorem dX7_points_14 : decode cX7_points 14 = .ok (.aload_n 0, 1) := by decide +kernel
theorem dX7_points_15 : decode cX7_points 15 = .ok (.getfield 16, 3) := by decide +kernel
theorem dX7_points_18 : decode cX7_points 18 = .ok (.iload_n 1, 1) := by decide +kernel
theorem dX7_points_19 : decode cX7_points 19 = .ok (.iaload, 1) := by decide +kernel
theorem dX7_points_20 : decode cX7_points 20 = .ok (.iconst 1, 1) := by decide +kernel
theorem dX7_points_21 : decode cX7_points 21 = .ok (.isub, 1) := by decide +kernel
theorem dX7_points_22 : decode cX7_points 22 = .ok (.invokestatic 91, 3) := by decide +kernel
theorem dX7_points_25 : decode cX7_points 25 = .ok (.ifCond .eq 35, 3) := by decide +kernel
theorem dX7_points_28 : decode cX7_points 28 = .ok (.aload_n 0, 1) := by decide +kernel
theorem dX7_points_29 : decode cX7_points 29 = .ok (.aload_n 0, 1) := by decide +kernel
theorem dX7_points_30 : decode cX7_points 30 = .ok (.getfield 25, 3) := by decide +kernel
theorem dX7_points_33 : decode cX7_points 33 = .ok (.bipush 45, 2) := by decide +kernel
theorem dX7_points_35 : decode cX7_points 35 = .ok (.iload_n 1, 1) := by decide +kernel
theorem dX7_points_36 : decode cX7_points 36 = .ok (.imul, 1) := by decide +kernel
theorem dX7_points_37 : decode cX7_points 37 = .ok (.iload_n 2, 1) := by decide +kernel
theorem dX7_points_38 : decode cX7_points 38 = .ok (.iadd, 1) := by decide +kernel
theorem dX7_points_39 : decode cX7_points 39 = .ok (.laload, 1) := by decide +kernel
theorem dX7_points_40 : decode cX7_points 40 = .ok (.aload_n 0, 1) := by decide +kernel
theorem dX7_points_41 : decode cX7_points 41 = .ok (.getfield 25, 3) := by decide +kernel
theorem dX7_points_44 : decode cX7_points 44 = .ok (.bipush 45, 2) := by decide +kernel
theorem dX7_points_46 : decode cX7_points 46 = .ok (.iload_n 1, 1) := by decide +kernel
theorem dX7_points_47 : decode cX7_points 47 = .ok (.imul, 1) := by decide +kernel
theorem dX7_points_48 : decode cX7_points 48 = .ok (.iload_n 2, 1) := by decide +kernel
theorem dX7_points_49 : decode cX7_points 49 = .ok (.iadd, 1) := by decide +kernel
theorem dX7_points_50 : decode cX7_points 50 = .ok (.laload, 1) := by decide +kernel
theorem dX7_points_51 : decode cX7_points 51 = .ok (.invokestatic 116, 3) := by decide +kernel
theorem dX7_points_54 : decode cX7_points 54 = .ok (.invokevirtual 181, 3) := by decide +kernel
theorem dX7_points_57 : decode cX7_points 57 = .ok (.goto 8, 3) := by decide +kernel
theorem dX7_points_60 : decode cX7_points 60 = .ok (.aload_n 0, 1) := by decide +kernel
theorem dX7_points_61 : decode cX7_points 61 = .ok (.iconst 2, 1) := by decide +kernel
theorem dX7_points_62 : decode cX7_points 62 = .ok (.invokevirtual 99, 3) := by decide +kernel
theorem dX7_points_65 : decode cX7_points 65 = .ok (.ireturn, 1) := by decide +kernel
set_option maxRecDepth 20000 in
theorem ggX7_lines_X7_looked : GoodIn wsX7_lines wsX7_looked := goodIn_r _ [5, 6, 7, 8, 4, 9, 10, 11, 12, 13, 14, 15, 16, 17, 18, 40, 41, 42, 43, 44, 45, 46, 47, 48, 49, 50, 51, 52, 53, 54, 55, 56, 57, 58, 59, 60, 61, 62, 63, 64, 65, 66, 67, 68, 69, 70, 71, 72] (by decide +kernel) (by decide +kernel)
set_option maxRecDepth 20000 in
theorem gX7_lines_X7_looked : GoodIn wsX7_lines (wsV RX7 137 RX7 yX7_looked wsX7_looked) := goodIn_app (goodIn_of _ (by decide +kernel)) ggX7_lines_X7_looked
set_option maxRecDepth 20000 in
theorem ggX7_lines_X7_isPoint : GoodIn wsX7_lines wsX7_isPoint := goodIn_r _ [22, 6, 10, 11, 4, 12, 40, 41, 42, 43, 44, 45, 46, 47, 48, 49, 50, 51, 52, 53, 54, 55, 56, 57, 58, 59, 60, 61, 62, 63, 64, 65, 66, 67, 68, 69, 70, 71, 72] (by decide +kernel) (by decide +kernel)
set_option maxRecDepth 20000 in
theorem gX7_lines_X7_isPoint : GoodIn wsX7_lines (wsV RX7 163 RX7 yX7_isPoint wsX7_isPoint) := goodIn_app (goodIn_of _ (by decide +kernel)) ggX7_lines_X7_isPoint
set_option maxRecDepth 20000 in
theorem ggX7_lines_X7_meets : GoodIn wsX7_lines wsX7_meets := goodIn_r _ [16, 17, 18, 40, 41, 42, 43, 44, 45, 46, 47, 48, 49, 50, 51, 52, 53, 54, 55, 56, 57, 58, 59, 60, 61, 62, 63, 64, 65, 66, 67, 68, 69, 70, 71, 72] (by decide +kernel) (by decide +kernel)
set_option maxRecDepth 20000 in
theorem gX7_lines_X7_meets : GoodIn wsX7_lines (wsV RX7 99 RX7 yX7_meets wsX7_meets) := goodIn_app (goodIn_of _ (by decide +kernel)) ggX7_lines_X7_meets
set_option maxRecDepth 20000 in
theorem ggX7_lines_X7_through : GoodIn wsX7_lines wsX7_through := goodIn_r _ [26, 27, 28, 29, 30, 4, 31, 40, 41, 42, 43, 44, 45, 46, 47, 48, 49, 50, 51, 52, 53, 54, 55, 56, 57, 58, 59, 60, 61, 62, 63, 64, 65, 66, 67, 68, 69, 70, 71, 72] (by decide +kernel) (by decide +kernel)
set_option maxRecDepth 20000 in
theorem gX7_lines_X7_through : GoodIn wsX7_lines (wsV RX7 140 RX7 yX7_through wsX7_through) := goodIn_app (goodIn_of _ (by decide +kernel)) ggX7_lines_X7_through
set_option maxRecDepth 20000 in
theorem ggX7_lines_X7_bits : GoodIn wsX7_lines wsX7_bits := goodIn_r _ [34] (by decide +kernel) (by decide +kernel)
set_option maxRecDepth 20000 in
theorem gX7_lines_X7_bits : GoodIn wsX7_lines (va_wsS RX7 116 yX7_bits wsX7_bits) := goodIn_app (goodIn_of _ (by decide +kernel)) ggX7_lines_X7_bits
set_option maxRecDepth 20000 in
theorem ggX7_lines_X7_ask : GoodIn wsX7_lines wsX7_ask := goodIn_r _ [38, 39, 40, 41, 42, 43, 44, 45, 46, 47, 48, 49, 50, 51, 52, 53, 54, 55, 56, 57, 58, 59, 60, 61, 62, 63, 64, 65, 66, 67, 68, 69, 70, 71, 72] (by decide +kernel) (by decide +kernel)
set_option maxRecDepth 20000 in
theorem gX7_lines_X7_ask : GoodIn wsX7_lines (wsV RX7 181 RX7 yX7_ask wsX7_ask) := goodIn_app (goodIn_of _ (by decide +kernel)) ggX7_lines_X7_ask
theorem dX7_lines_0 : decode cX7_lines 0 = .ok (.aload_n 0, 1) := by decide +kernel
theorem dX7_lines_1 : decode cX7_lines 1 = .ok (.iload_n 1, 1) := by decide +kernel
theorem dX7_lines_2 : decode cX7_lines 2 = .ok (.invokevirtual 137, 3) := by decide +kernel
theorem dX7_lines_5 : decode cX7_lines 5 = .ok (.istore_n 3, 1) := by decide +kernel
theorem dX7_lines_6 : decode cX7_lines 6 = .ok (.iload_n 3, 1) := by decide +kernel
theorem dX7_lines_7 : decode cX7_lines 7 = .ok (.ifCond .ge 5, 3) := by decide +kernel
theorem dX7_lines_10 : decode cX7_lines 10 = .ok (.iload_n 3, 1) := by decide +kernel
theorem dX7_lines_11 : decode cX7_lines 11 = .ok (.ireturn, 1) := by decide +kernel
theorem dX7_lines_12 : decode cX7_lines 12 = .ok (.aload_n 0, 1) := by decide +kernel
theorem dX7_lines_13 : decode cX7_lines 13 = .ok (.iload_n 1, 1) := by decide +kernel
theorem dX7_lines_14 : decode cX7_lines 14 = .ok (.iload_n 2, 1) := by decide +kernel
theorem dX7_lines_15 : decode cX7_lines 15 = .ok (.invokevirtual 163, 3) := by decide +kernel
theorem dX7_lines_18 : decode cX7_lines 18 = .ok (.ifCond .ne 9, 3) := by decide +kernel
theorem dX7_lines_21 : decode cX7_lines 21 = .ok (.aload_n 0, 1) := by decide +kernel
theorem dX7_lines_22 : decode cX7_lines 22 = .ok (.iconst 2, 1) := by decide +kernel
theorem dX7_lines_23 : decode cX7_lines 23 = .ok (.invokevirtual 99, 3) := by decide +kernel
theorem dX7_lines_26 : decode cX7_lines 26 = .ok (.ireturn, 1) := by decide +kernel
theorem dX7_lines_27 : decode cX7_lines 27 = .ok (.aload_n 0, 1) := by decide +kernel
theorem dX7_lines_28 : decode cX7_lines 28 = .ok (.iload_n 1, 1) := by decide +kernel
theorem dX7_lines_29 : decode cX7_lines 29 = .ok (.iload_n 2, 1) := by decide +kernel
theorem dX7_lines_30 : decode cX7_lines 30 = .ok (.invokevirtual 140, 3) := by decide +kernel
theorem dX7_lines_33 : decode cX7_lines 33 = .ok (.lstore 4, 2) := by decide +kernel
theorem dX7_lines_35 : decode cX7_lines 35 = .ok (.aload_n 0, 1) := by decide +kernel
theorem dX7_lines_36 : decode cX7_lines 36 = .ok (.lload 4, 2) := by decide +kernel
theorem dX7_lines_38 : decode cX7_lines 38 = .ok (.lload 4, 2) := by decide +kernel
theorem dX7_lines_40 : decode cX7_lines 40 = .ok (.invokestatic 116, 3) := by decide +kernel
theorem dX7_lines_43 : decode cX7_lines 43 = .ok (.invokevirtual 181, 3) := by decide +kernel
theorem dX7_lines_46 : decode cX7_lines 46 = .ok (.ireturn, 1) := by decide +kernel
set_option maxRecDepth 20000 in
theorem ggX7_fault_X7_looked : GoodIn wsX7_fault wsX7_looked := goodIn_r _ [6, 7, 8, 9, 5, 10, 11, 12, 13, 14, 15, 16, 17, 18, 19, 38, 39, 40, 41, 42, 43, 44, 45, 46, 47, 48, 49, 50, 51, 52, 53, 54, 55, 56, 57, 58, 59, 60, 61, 62, 63, 64, 65, 66, 67, 68, 69, 70] (by decide +kernel) (by decide +kernel)
set_option maxRecDepth 20000 in
theorem gX7_fault_X7_looked : GoodIn wsX7_fault (wsV RX7 137 RX7 yX7_looked wsX7_looked) := goodIn_app (goodIn_of _ (by decide +kernel)) ggX7_fault_X7_looked
set_option maxRecDepth 20000 in
theorem ggX7_fault_X7_faultOf : GoodIn wsX7_fault wsX7_faultOf := goodIn_r _ [23, 24, 25, 26, 1, 7, 27, 28, 5, 29, 30, 31, 32, 38, 39, 40, 41, 42, 43, 44, 45, 46, 47, 48, 49, 50, 51, 52, 53, 54, 55, 56, 57, 58, 59, 60, 61, 62, 63, 64, 65, 66, 67, 68, 69, 70] (by decide +kernel) (by decide +kernel)
set_option maxRecDepth 20000 in
theorem gX7_fault_X7_faultOf : GoodIn wsX7_fault (wsV RX7 171 RX7 yX7_faultOf wsX7_faultOf) := goodIn_app (goodIn_of _ (by decide +kernel)) ggX7_fault_X7_faultOf
set_option maxRecDepth 20000 in
theorem ggX7_fault_X7_ask : GoodIn wsX7_fault wsX7_ask := goodIn_r _ [36, 37, 38, 39, 40, 41, 42, 43, 44, 45, 46, 47, 48, 49, 50, 51, 52, 53, 54, 55, 56, 57, 58, 59, 60, 61, 62, 63, 64, 65, 66, 67, 68, 69, 70] (by decide +kernel) (by decide +kernel)
set_option maxRecDepth 20000 in
theorem gX7_fault_X7_ask : GoodIn wsX7_fault (wsV RX7 181 RX7 yX7_ask wsX7_ask) := goodIn_app (goodIn_of _ (by decide +kernel)) ggX7_fault_X7_ask
theorem dX7_fault_0 : decode cX7_fault 0 = .ok (.aload_n 0, 1) := by decide +kernel
theorem dX7_fault_1 : decode cX7_fault 1 = .ok (.iload_n 1, 1) := by decide +kernel
theorem dX7_fault_2 : decode cX7_fault 2 = .ok (.invokevirtual 137, 3) := by decide +kernel
theorem dX7_fault_5 : decode cX7_fault 5 = .ok (.istore_n 2, 1) := by decide +kernel
theorem dX7_fault_6 : decode cX7_fault 6 = .ok (.iload_n 2, 1) := by decide +kernel
theorem dX7_fault_7 : decode cX7_fault 7 = .ok (.ifCond .ge 5, 3) := by decide +kernel
theorem dX7_fault_10 : decode cX7_fault 10 = .ok (.iload_n 2, 1) := by decide +kernel
theorem dX7_fault_11 : decode cX7_fault 11 = .ok (.ireturn, 1) := by decide +kernel
theorem dX7_fault_12 : decode cX7_fault 12 = .ok (.aload_n 0, 1) := by decide +kernel
theorem dX7_fault_13 : decode cX7_fault 13 = .ok (.iload_n 1, 1) := by decide +kernel
theorem dX7_fault_14 : decode cX7_fault 14 = .ok (.invokevirtual 171, 3) := by decide +kernel
theorem dX7_fault_17 : decode cX7_fault 17 = .ok (.istore_n 3, 1) := by decide +kernel
theorem dX7_fault_18 : decode cX7_fault 18 = .ok (.iload_n 3, 1) := by decide +kernel
theorem dX7_fault_19 : decode cX7_fault 19 = .ok (.ifCond .ne 7, 3) := by decide +kernel
theorem dX7_fault_22 : decode cX7_fault 22 = .ok (.iconst 0, 1) := by decide +kernel
theorem dX7_fault_23 : decode cX7_fault 23 = .ok (.goto 12, 3) := by decide +kernel
theorem dX7_fault_26 : decode cX7_fault 26 = .ok (.aload_n 0, 1) := by decide +kernel
theorem dX7_fault_27 : decode cX7_fault 27 = .ok (.aload_n 0, 1) := by decide +kernel
theorem dX7_fault_28 : decode cX7_fault 28 = .ok (.getfield 160, 3) := by decide +kernel
theorem dX7_fault_31 : decode cX7_fault 31 = .ok (.iload_n 3, 1) := by decide +kernel
theorem dX7_fault_32 : decode cX7_fault 32 = .ok (.invokevirtual 181, 3) := by decide +kernel
theorem dX7_fault_35 : decode cX7_fault 35 = .ok (.ireturn, 1) := by decide +kernel
set_option maxRecDepth 20000 in
theorem ggX7_mean_X7_looked : GoodIn wsX7_mean wsX7_looked := goodIn_r _ [7, 8, 9, 10, 6, 11, 12, 13, 14, 15, 16, 17, 18, 19, 20, 24, 25, 26, 27, 28, 29, 30, 31, 32, 33, 34, 35, 36, 37, 38, 39, 40, 41, 42, 43, 44, 45, 46, 47, 48, 49, 50, 51, 52, 53, 54, 55, 56] (by decide +kernel) (by decide +kernel)
set_option maxRecDepth 20000 in
theorem gX7_mean_X7_looked : GoodIn wsX7_mean (wsV RX7 137 RX7 yX7_looked wsX7_looked) := goodIn_app (goodIn_of _ (by decide +kernel)) ggX7_mean_X7_looked
set_option maxRecDepth 20000 in
theorem ggX7_mean_X7_bits : GoodIn wsX7_mean wsX7_bits := goodIn_r _ [23] (by decide +kernel) (by decide +kernel)
set_option maxRecDepth 20000 in
theorem gX7_mean_X7_bits : GoodIn wsX7_mean (va_wsS RX7 116 yX7_bits wsX7_bits) := goodIn_app (goodIn_of _ (by decide +kernel)) ggX7_mean_X7_bits
set_option maxRecDepth 20000 in
theorem ggX7_mean_X7_meets : GoodIn wsX7_mean wsX7_meets := goodIn_r _ [18, 19, 20, 24, 25, 26, 27, 28, 29, 30, 31, 32, 33, 34, 35, 36, 37, 38, 39, 40, 41, 42, 43, 44, 45, 46, 47, 48, 49, 50, 51, 52, 53, 54, 55, 56] (by decide +kernel) (by decide +kernel)
set_option maxRecDepth 20000 in
theorem gX7_mean_X7_meets : GoodIn wsX7_mean (wsV RX7 99 RX7 yX7_meets wsX7_meets) := goodIn_app (goodIn_of _ (by decide +kernel)) ggX7_mean_X7_meets
theorem dX7_mean_0 : decode cX7_mean 0 = .ok (.aload_n 0, 1) := by decide +kernel
theorem dX7_mean_1 : decode cX7_mean 1 = .ok (.iload_n 1, 1) := by decide +kernel
theorem dX7_mean_2 : decode cX7_mean 2 = .ok (.invokevirtual 137, 3) := by decide +kernel
theorem dX7_mean_5 : decode cX7_mean 5 = .ok (.istore_n 2, 1) := by decide +kernel
theorem dX7_mean_6 : decode cX7_mean 6 = .ok (.iload_n 2, 1) := by decide +kernel
theorem dX7_mean_7 : decode cX7_mean 7 = .ok (.ifCond .ge 5, 3) := by decide +kernel
theorem dX7_mean_10 : decode cX7_mean 10 = .ok (.iload_n 2, 1) := by decide +kernel
theorem dX7_mean_11 : decode cX7_mean 11 = .ok (.ireturn, 1) := by decide +kernel
theorem dX7_mean_12 : decode cX7_mean 12 = .ok (.iconst 0, 1) := by decide +kernel
theorem dX7_mean_13 : decode cX7_mean 13 = .ok (.istore_n 3, 1) := by decide +kernel
theorem dX7_mean_14 : decode cX7_mean 14 = .ok (.iconst 0, 1) := by decide +kernel
theorem dX7_mean_15 : decode cX7_mean 15 = .ok (.istore 4, 2) := by decide +kernel
theorem dX7_mean_17 : decode cX7_mean 17 = .ok (.iload 4, 2) := by decide +kernel
theorem dX7_mean_19 : decode cX7_mean 19 = .ok (.aload_n 0, 1) := by decide +kernel
theorem dX7_mean_20 : decode cX7_mean 20 = .ok (.getfield 16, 3) := by decide +kernel
theorem dX7_mean_23 : decode cX7_mean 23 = .ok (.iload_n 1, 1) := by decide +kernel
theorem dX7_mean_24 : decode cX7_mean 24 = .ok (.iaload, 1) := by decide +kernel
theorem dX7_mean_25 : decode cX7_mean 25 = .ok (.if_icmp .ge 27, 3) := by decide +kernel
theorem dX7_mean_28 : decode cX7_mean 28 = .ok (.iload_n 3, 1) := by decide +kernel
theorem dX7_mean_29 : decode cX7_mean 29 = .ok (.aload_n 0, 1) := by decide +kernel
theorem dX7_mean_30 : decode cX7_mean 30 = .ok (.getfield 25, 3) := by decide +kernel
theorem dX7_mean_33 : decode cX7_mean 33 = .ok (.bipush 45, 2) := by decide +kernel
theorem dX7_mean_35 : decode cX7_mean 35 = .ok (.iload_n 1, 1) := by decide +kernel
theorem dX7_mean_36 : decode cX7_mean 36 = .ok (.imul, 1) := by decide +kernel
theorem dX7_mean_37 : decode cX7_mean 37 = .ok (.iload 4, 2) := by decide +kernel
theorem dX7_mean_39 : decode cX7_mean 39 = .ok (.iadd, 1) := by decide +kernel
theorem dX7_mean_40 : decode cX7_mean 40 = .ok (.laload, 1) := by decide +kernel
theorem dX7_mean_41 : decode cX7_mean 41 = .ok (.invokestatic 116, 3) := by decide +kernel
theorem dX7_mean_44 : decode cX7_mean 44 = .ok (.iadd, 1) := by decide +kernel
theorem dX7_mean_45 : decode cX7_mean 45 = .ok (.istore_n 3, 1) := by decide +kernel
theorem dX7_mean_46 : decode cX7_mean 46 = .ok (.iinc 4 1, 3) := by decide +kernel
theorem dX7_mean_49 : decode cX7_mean 49 = .ok (.goto (-32), 3) := by decide +kernel
theorem dX7_mean_52 : decode cX7_mean 52 = .ok (.aload_n 0, 1) := by decide +kernel
theorem dX7_mean_53 : decode cX7_mean 53 = .ok (.getfield 16, 3) := by decide +kernel
theorem dX7_mean_56 : decode cX7_mean 56 = .ok (.iload_n 1, 1) := by decide +kernel
theorem dX7_mean_57 : decode cX7_mean 57 = .ok (.iaload, 1) := by decide +kernel
theorem dX7_mean_58 : decode cX7_mean 58 = .ok (.ifCond .ne 11, 3) := by decide +kernel
theorem dX7_mean_61 : decode cX7_mean 61 = .ok (.aload_n 0, 1) := by decide +kernel
theorem dX7_mean_62 : decode cX7_mean 62 = .ok (.iconst 4, 1) := by decide +kernel
theorem dX7_mean_63 : decode cX7_mean 63 = .ok (.invokevirtual 99, 3) := by decide +kernel
theorem dX7_mean_66 : decode cX7_mean 66 = .ok (.goto 11, 3) := by decide +kernel
theorem dX7_mean_69 : decode cX7_mean 69 = .ok (.iload_n 3, 1) := by decide +kernel
theorem dX7_mean_70 : decode cX7_mean 70 = .ok (.aload_n 0, 1) := by decide +kernel
theorem dX7_mean_71 : decode cX7_mean 71 = .ok (.getfield 16, 3) := by decide +kernel
theorem dX7_mean_74 : decode cX7_mean 74 = .ok (.iload_n 1, 1) := by decide +kernel
theorem dX7_mean_75 : decode cX7_mean 75 = .ok (.iaload, 1) := by decide +kernel
theorem dX7_mean_76 : decode cX7_mean 76 = .ok (.idiv, 1) := by decide +kernel
theorem dX7_mean_77 : decode cX7_mean 77 = .ok (.ireturn, 1) := by decide +kernel
set_option maxRecDepth 20000 in
theorem ggX7_perp_X7_looked : GoodIn wsX7_perp wsX7_looked := goodIn_r _ [6, 7, 8, 9, 5, 10, 11, 12, 13, 14, 15, 16, 17, 18, 19, 45, 46, 47, 48, 49, 50, 51, 52, 53, 54, 55, 56, 57, 58, 59, 60, 61, 62, 63, 64, 65, 66, 67, 68, 69, 70, 71, 72, 73, 74, 75, 76, 77] (by decide +kernel) (by decide +kernel)
set_option maxRecDepth 20000 in
theorem gX7_perp_X7_looked : GoodIn wsX7_perp (wsV RX7 137 RX7 yX7_looked wsX7_looked) := goodIn_app (goodIn_of _ (by decide +kernel)) ggX7_perp_X7_looked
set_option maxRecDepth 20000 in
theorem ggX7_perp_X7_allOf : GoodIn wsX7_perp wsX7_allOf := goodIn_r _ [23, 7, 45, 46, 47, 48, 49, 50, 51, 52, 53, 54, 55, 56, 57, 58, 59, 60, 61, 62, 63, 64, 65, 66, 67, 68, 69, 70, 71, 72, 73, 74, 75, 76, 77] (by decide +kernel) (by decide +kernel)
set_option maxRecDepth 20000 in
theorem gX7_perp_X7_allOf : GoodIn wsX7_perp (wsV RX7 144 RX7 yX7_allOf wsX7_allOf) := goodIn_app (goodIn_of _ (by decide +kernel)) ggX7_perp_X7_allOf
set_option maxRecDepth 20000 in
theorem ggX7_perp_X7_perpOf : GoodIn wsX7_perp wsX7_perpOf := goodIn_r _ [27, 7, 1, 20, 21, 22, 5, 23, 28, 29, 30, 31, 32, 33, 34, 35, 36, 45, 46, 47, 48, 49, 50, 51, 52, 53, 54, 55, 56, 57, 58, 59, 60, 61, 62, 63, 64, 65, 66, 67, 68, 69, 70, 71, 72, 73, 74, 75, 76, 77] (by decide +kernel) (by decide +kernel)
set_option maxRecDepth 20000 in
theorem gX7_perp_X7_perpOf : GoodIn wsX7_perp (wsV RX7 151 RX7 yX7_perpOf wsX7_perpOf) := goodIn_app (goodIn_of _ (by decide +kernel)) ggX7_perp_X7_perpOf
set_option maxRecDepth 20000 in
theorem ggX7_perp_X7_bits : GoodIn wsX7_perp wsX7_bits := goodIn_r _ [39] (by decide +kernel) (by decide +kernel)
set_option maxRecDepth 20000 in
theorem gX7_perp_X7_bits : GoodIn wsX7_perp (va_wsS RX7 116 yX7_bits wsX7_bits) := goodIn_app (goodIn_of _ (by decide +kernel)) ggX7_perp_X7_bits
set_option maxRecDepth 20000 in
theorem ggX7_perp_X7_ask : GoodIn wsX7_perp wsX7_ask := goodIn_r _ [43, 44, 45, 46, 47, 48, 49, 50, 51, 52, 53, 54, 55, 56, 57, 58, 59, 60, 61, 62, 63, 64, 65, 66, 67, 68, 69, 70, 71, 72, 73, 74, 75, 76, 77] (by decide +kernel) (by decide +kernel)
set_option maxRecDepth 20000 in
theorem gX7_perp_X7_ask : GoodIn wsX7_perp (wsV RX7 181 RX7 yX7_ask wsX7_ask) := goodIn_app (goodIn_of _ (by decide +kernel)) ggX7_perp_X7_ask
theorem dX7_perp_0 : decode cX7_perp 0 = .ok (.aload_n 0, 1) := by decide +kernel
theorem dX7_perp_1 : decode cX7_perp 1 = .ok (.iload_n 1, 1) := by decide +kernel
theorem dX7_perp_2 : decode cX7_perp 2 = .ok (.invokevirtual 137, 3) := by decide +kernel
theorem dX7_perp_5 : decode cX7_perp 5 = .ok (.istore 4, 2) := by decide +kernel
theorem dX7_perp_7 : decode cX7_perp 7 = .ok (.iload 4, 2) := by decide +kernel
theorem dX7_perp_9 : decode cX7_perp 9 = .ok (.ifCond .ge 6, 3) := by decide +kernel
theorem dX7_perp_12 : decode cX7_perp 12 = .ok (.iload 4, 2) := by decide +kernel
theorem dX7_perp_14 : decode cX7_perp 14 = .ok (.ireturn, 1) := by decide +kernel
theorem dX7_perp_15 : decode cX7_perp 15 = .ok (.lload_n 2, 1) := by decide +kernel
theorem dX7_perp_16 : decode cX7_perp 16 = .ok (.aload_n 0, 1) := by decide +kernel
theorem dX7_perp_17 : decode cX7_perp 17 = .ok (.iload_n 1, 1) := by decide +kernel
theorem dX7_perp_18 : decode cX7_perp 18 = .ok (.invokevirtual 144, 3) := by decide +kernel
theorem dX7_perp_21 : decode cX7_perp 21 = .ok (.ldc2_w 131, 3) := by decide +kernel
theorem dX7_perp_24 : decode cX7_perp 24 = .ok (.lxor, 1) := by decide +kernel
theorem dX7_perp_25 : decode cX7_perp 25 = .ok (.land, 1) := by decide +kernel
theorem dX7_perp_26 : decode cX7_perp 26 = .ok (.lconst 0, 1) := by decide +kernel
theorem dX7_perp_27 : decode cX7_perp 27 = .ok (.lcmp, 1) := by decide +kernel
theorem dX7_perp_28 : decode cX7_perp 28 = .ok (.ifCond .eq 5, 3) := by decide +kernel
theorem dX7_perp_31 : decode cX7_perp 31 = .ok (.iconst (-1), 1) := by decide +kernel
theorem dX7_perp_32 : decode cX7_perp 32 = .ok (.ireturn, 1) := by decide +kernel
theorem dX7_perp_33 : decode cX7_perp 33 = .ok (.aload_n 0, 1) := by decide +kernel
theorem dX7_perp_34 : decode cX7_perp 34 = .ok (.iload_n 1, 1) := by decide +kernel
theorem dX7_perp_35 : decode cX7_perp 35 = .ok (.lload_n 2, 1) := by decide +kernel
theorem dX7_perp_36 : decode cX7_perp 36 = .ok (.invokevirtual 151, 3) := by decide +kernel
theorem dX7_perp_39 : decode cX7_perp 39 = .ok (.lstore 5, 2) := by decide +kernel
theorem dX7_perp_41 : decode cX7_perp 41 = .ok (.aload_n 0, 1) := by decide +kernel
theorem dX7_perp_42 : decode cX7_perp 42 = .ok (.lload 5, 2) := by decide +kernel
theorem dX7_perp_44 : decode cX7_perp 44 = .ok (.lload 5, 2) := by decide +kernel
theorem dX7_perp_46 : decode cX7_perp 46 = .ok (.invokestatic 116, 3) := by decide +kernel
theorem dX7_perp_49 : decode cX7_perp 49 = .ok (.invokevirtual 181, 3) := by decide +kernel
theorem dX7_perp_52 : decode cX7_perp 52 = .ok (.ireturn, 1) := by decide +kernel
set_option maxRecDepth 20000 in
theorem ggX7_span_X7_looked : GoodIn wsX7_span wsX7_looked := goodIn_r _ [5, 6, 7, 8, 4, 9, 10, 11, 12, 13, 14, 15, 16, 17, 18, 53, 54, 55, 56, 57, 58, 59, 60, 61, 62, 63, 64, 65, 66, 67, 68, 69, 70, 71, 72, 73, 74, 75, 76, 77, 78, 79, 80, 81, 82, 83, 84, 85] (by decide +kernel) (by decide +kernel)
set_option maxRecDepth 20000 in
theorem gX7_span_X7_looked : GoodIn wsX7_span (wsV RX7 137 RX7 yX7_looked wsX7_looked) := goodIn_app (goodIn_of _ (by decide +kernel)) ggX7_span_X7_looked
set_option maxRecDepth 20000 in
theorem ggX7_span_X7_isPoint : GoodIn wsX7_span wsX7_isPoint := goodIn_r _ [22, 6, 10, 11, 4, 12, 53, 54, 55, 56, 57, 58, 59, 60, 61, 62, 63, 64, 65, 66, 67, 68, 69, 70, 71, 72, 73, 74, 75, 76, 77, 78, 79, 80, 81, 82, 83, 84, 85] (by decide +kernel) (by decide +kernel)
set_option maxRecDepth 20000 in
theorem gX7_span_X7_isPoint : GoodIn wsX7_span (wsV RX7 163 RX7 yX7_isPoint wsX7_isPoint) := goodIn_app (goodIn_of _ (by decide +kernel)) ggX7_span_X7_isPoint
set_option maxRecDepth 20000 in
theorem ggX7_span_X7_meets : GoodIn wsX7_span wsX7_meets := goodIn_r _ [16, 17, 18, 53, 54, 55, 56, 57, 58, 59, 60, 61, 62, 63, 64, 65, 66, 67, 68, 69, 70, 71, 72, 73, 74, 75, 76, 77, 78, 79, 80, 81, 82, 83, 84, 85] (by decide +kernel) (by decide +kernel)
set_option maxRecDepth 20000 in
theorem gX7_span_X7_meets : GoodIn wsX7_span (wsV RX7 99 RX7 yX7_meets wsX7_meets) := goodIn_app (goodIn_of _ (by decide +kernel)) ggX7_span_X7_meets
set_option maxRecDepth 20000 in
theorem ggX7_span_X7_nearTo : GoodIn wsX7_span wsX7_nearTo := goodIn_r _ [26, 27, 28, 29, 30, 4, 31, 53, 54, 55, 56, 57, 58, 59, 60, 61, 62, 63, 64, 65, 66, 67, 68, 69, 70, 71, 72, 73, 74, 75, 76, 77, 78, 79, 80, 81, 82, 83, 84, 85] (by decide +kernel) (by decide +kernel)
set_option maxRecDepth 20000 in
theorem gX7_span_X7_nearTo : GoodIn wsX7_span (wsV RX7 148 RX7 yX7_nearTo wsX7_nearTo) := goodIn_app (goodIn_of _ (by decide +kernel)) ggX7_span_X7_nearTo
set_option maxRecDepth 20000 in
theorem ggX7_span_X7_has : GoodIn wsX7_span wsX7_has := goodIn_r _ [31] (by decide +kernel) (by decide +kernel)
set_option maxRecDepth 20000 in
theorem gX7_span_X7_has : GoodIn wsX7_span (va_wsS RX7 133 yX7_has wsX7_has) := goodIn_app (goodIn_of _ (by decide +kernel)) ggX7_span_X7_has
set_option maxRecDepth 20000 in
theorem ggX7_span_X7_spanOf : GoodIn wsX7_span wsX7_spanOf := goodIn_r _ [35, 36, 37, 38, 4, 39, 6, 40, 41, 42, 43, 44, 29, 30, 31, 23, 24, 25, 26, 27, 28, 53, 54, 55, 56, 57, 58, 59, 60, 61, 62, 63, 64, 65, 66, 67, 68, 69, 70, 71, 72, 73, 74, 75, 76, 77, 78, 79, 80, 81, 82, 83, 84, 85] (by decide +kernel) (by decide +kernel)
set_option maxRecDepth 20000 in
theorem gX7_span_X7_spanOf : GoodIn wsX7_span (wsV RX7 155 RX7 yX7_spanOf wsX7_spanOf) := goodIn_app (goodIn_of _ (by decide +kernel)) ggX7_span_X7_spanOf
set_option maxRecDepth 20000 in
theorem ggX7_span_X7_bits : GoodIn wsX7_span wsX7_bits := goodIn_r _ [47] (by decide +kernel) (by decide +kernel)
set_option maxRecDepth 20000 in
theorem gX7_span_X7_bits : GoodIn wsX7_span (va_wsS RX7 116 yX7_bits wsX7_bits) := goodIn_app (goodIn_of _ (by decide +kernel)) ggX7_span_X7_bits
set_option maxRecDepth 20000 in
theorem ggX7_span_X7_ask : GoodIn wsX7_span wsX7_ask := goodIn_r _ [51, 52, 53, 54, 55, 56, 57, 58, 59, 60, 61, 62, 63, 64, 65, 66, 67, 68, 69, 70, 71, 72, 73, 74, 75, 76, 77, 78, 79, 80, 81, 82, 83, 84, 85] (by decide +kernel) (by decide +kernel)
set_option maxRecDepth 20000 in
theorem gX7_span_X7_ask : GoodIn wsX7_span (wsV RX7 181 RX7 yX7_ask wsX7_ask) := goodIn_app (goodIn_of _ (by decide +kernel)) ggX7_span_X7_ask
theorem dX7_span_0 : decode cX7_span 0 = .ok (.aload_n 0, 1) := by decide +kernel
theorem dX7_span_1 : decode cX7_span 1 = .ok (.iload_n 1, 1) := by decide +kernel
theorem dX7_span_2 : decode cX7_span 2 = .ok (.invokevirtual 137, 3) := by decide +kernel
theorem dX7_span_5 : decode cX7_span 5 = .ok (.istore 4, 2) := by decide +kernel
theorem dX7_span_7 : decode cX7_span 7 = .ok (.iload 4, 2) := by decide +kernel
theorem dX7_span_9 : decode cX7_span 9 = .ok (.ifCond .ge 6, 3) := by decide +kernel
theorem dX7_span_12 : decode cX7_span 12 = .ok (.iload 4, 2) := by decide +kernel
theorem dX7_span_14 : decode cX7_span 14 = .ok (.ireturn, 1) := by decide +kernel
theorem dX7_span_15 : decode cX7_span 15 = .ok (.aload_n 0, 1) := by decide +kernel
theorem dX7_span_16 : decode cX7_span 16 = .ok (.iload_n 1, 1) := by decide +kernel
theorem dX7_span_17 : decode cX7_span 17 = .ok (.iload_n 2, 1) := by decide +kernel
theorem dX7_span_18 : decode cX7_span 18 = .ok (.invokevirtual 163, 3) := by decide +kernel
theorem dX7_span_21 : decode cX7_span 21 = .ok (.ifCond .eq 12, 3) := by decide +kernel
theorem dX7_span_24 : decode cX7_span 24 = .ok (.aload_n 0, 1) := by decide +kernel
theorem dX7_span_25 : decode cX7_span 25 = .ok (.iload_n 1, 1) := by decide +kernel
theorem dX7_span_26 : decode cX7_span 26 = .ok (.iload_n 3, 1) := by decide +kernel
theorem dX7_span_27 : decode cX7_span 27 = .ok (.invokevirtual 163, 3) := by decide +kernel
theorem dX7_span_30 : decode cX7_span 30 = .ok (.ifCond .ne 9, 3) := by decide +kernel
theorem dX7_span_33 : decode cX7_span 33 = .ok (.aload_n 0, 1) := by decide +kernel
theorem dX7_span_34 : decode cX7_span 34 = .ok (.iconst 2, 1) := by decide +kernel
theorem dX7_span_35 : decode cX7_span 35 = .ok (.invokevirtual 99, 3) := by decide +kernel
theorem dX7_span_38 : decode cX7_span 38 = .ok (.ireturn, 1) := by decide +kernel
theorem dX7_span_39 : decode cX7_span 39 = .ok (.aload_n 0, 1) := by decide +kernel
theorem dX7_span_40 : decode cX7_span 40 = .ok (.iload_n 1, 1) := by decide +kernel
theorem dX7_span_41 : decode cX7_span 41 = .ok (.iload_n 2, 1) := by decide +kernel
theorem dX7_span_42 : decode cX7_span 42 = .ok (.invokevirtual 148, 3) := by decide +kernel
theorem dX7_span_45 : decode cX7_span 45 = .ok (.iload_n 3, 1) := by decide +kernel
theorem dX7_span_46 : decode cX7_span 46 = .ok (.invokestatic 133, 3) := by decide +kernel
theorem dX7_span_49 : decode cX7_span 49 = .ok (.ifCond .eq 6, 3) := by decide +kernel
theorem dX7_span_52 : decode cX7_span 52 = .ok (.bipush (-4), 2) := by decide +kernel
theorem dX7_span_54 : decode cX7_span 54 = .ok (.ireturn, 1) := by decide +kernel
theorem dX7_span_55 : decode cX7_span 55 = .ok (.aload_n 0, 1) := by decide +kernel
theorem dX7_span_56 : decode cX7_span 56 = .ok (.iload_n 1, 1) := by decide +kernel
theorem dX7_span_57 : decode cX7_span 57 = .ok (.iload_n 2, 1) := by decide +kernel
theorem dX7_span_58 : decode cX7_span 58 = .ok (.iload_n 3, 1) := by decide +kernel
theorem dX7_span_59 : decode cX7_span 59 = .ok (.invokevirtual 155, 3) := by decide +kernel
theorem dX7_span_62 : decode cX7_span 62 = .ok (.lstore 5, 2) := by decide +kernel
theorem dX7_span_64 : decode cX7_span 64 = .ok (.aload_n 0, 1) := by decide +kernel
theorem dX7_span_65 : decode cX7_span 65 = .ok (.lload 5, 2) := by decide +kernel
theorem dX7_span_67 : decode cX7_span 67 = .ok (.lload 5, 2) := by decide +kernel
theorem dX7_span_69 : decode cX7_span 69 = .ok (.invokestatic 116, 3) := by decide +kernel
theorem dX7_span_72 : decode cX7_span 72 = .ok (.invokevirtual 181, 3) := by decide +kernel
theorem dX7_span_75 : decode cX7_span 75 = .ok (.ireturn, 1) := by decide +kernel
set_option maxRecDepth 20000 in
theorem ggX7_regular_X7_looked : GoodIn wsX7_regular wsX7_looked := goodIn_r _ [5, 6, 7, 8, 4, 9, 10, 11, 12, 13, 14, 15, 16, 17, 18, 60, 61, 62, 63, 64, 65, 66, 67, 68, 69, 70, 71, 72, 73, 74, 75, 76, 77, 78, 79, 80, 81, 82, 83, 84, 85, 86, 87, 88, 89, 90, 91, 92] (by decide +kernel) (by decide +kernel)
set_option maxRecDepth 20000 in
theorem gX7_regular_X7_looked : GoodIn wsX7_regular (wsV RX7 137 RX7 yX7_looked wsX7_looked) := goodIn_app (goodIn_of _ (by decide +kernel)) ggX7_regular_X7_looked
set_option maxRecDepth 20000 in
theorem ggX7_regular_X7_isPoint : GoodIn wsX7_regular wsX7_isPoint := goodIn_r _ [22, 6, 10, 11, 4, 12, 60, 61, 62, 63, 64, 65, 66, 67, 68, 69, 70, 71, 72, 73, 74, 75, 76, 77, 78, 79, 80, 81, 82, 83, 84, 85, 86, 87, 88, 89, 90, 91, 92] (by decide +kernel) (by decide +kernel)
set_option maxRecDepth 20000 in
theorem gX7_regular_X7_isPoint : GoodIn wsX7_regular (wsV RX7 163 RX7 yX7_isPoint wsX7_isPoint) := goodIn_app (goodIn_of _ (by decide +kernel)) ggX7_regular_X7_isPoint
set_option maxRecDepth 20000 in
theorem ggX7_regular_X7_meets : GoodIn wsX7_regular wsX7_meets := goodIn_r _ [16, 17, 18, 60, 61, 62, 63, 64, 65, 66, 67, 68, 69, 70, 71, 72, 73, 74, 75, 76, 77, 78, 79, 80, 81, 82, 83, 84, 85, 86, 87, 88, 89, 90, 91, 92] (by decide +kernel) (by decide +kernel)
set_option maxRecDepth 20000 in
theorem gX7_regular_X7_meets : GoodIn wsX7_regular (wsV RX7 99 RX7 yX7_meets wsX7_meets) := goodIn_app (goodIn_of _ (by decide +kernel)) ggX7_regular_X7_meets
set_option maxRecDepth 20000 in
theorem ggX7_regular_X7_orderOf : GoodIn wsX7_regular wsX7_orderOf := goodIn_r _ [26, 27, 6, 28, 29, 30, 31, 4, 32, 33, 34, 35, 36, 37, 38, 60, 61, 62, 63, 64, 65, 66, 67, 68, 69, 70, 71, 72, 73, 74, 75, 76, 77, 78, 79, 80, 81, 82, 83, 84, 85, 86, 87, 88, 89, 90, 91, 92] (by decide +kernel) (by decide +kernel)
set_option maxRecDepth 20000 in
theorem gX7_regular_X7_orderOf : GoodIn wsX7_regular (wsV RX7 167 RX7 yX7_orderOf wsX7_orderOf) := goodIn_app (goodIn_of _ (by decide +kernel)) ggX7_regular_X7_orderOf
set_option maxRecDepth 20000 in
theorem ggX7_regular_X7_isRegular : GoodIn wsX7_regular wsX7_isRegular := goodIn_r _ [42, 6, 43, 44, 45, 4, 46, 27, 28, 33, 34, 35, 47, 48, 49, 50, 51, 52, 53, 54, 55, 56, 57, 58, 59, 36, 37, 38, 60, 61, 62, 63, 64, 65, 66, 67, 68, 69, 70, 71, 72, 73, 74, 75, 76, 77, 78, 79, 80, 81, 82, 83, 84, 85, 86, 87, 88, 89, 90, 91, 92] (by decide +kernel) (by decide +kernel)
set_option maxRecDepth 20000 in
theorem gX7_regular_X7_isRegular : GoodIn wsX7_regular (wsV RX7 174 RX7 yX7_isRegular wsX7_isRegular) := goodIn_app (goodIn_of _ (by decide +kernel)) ggX7_regular_X7_isRegular
theorem dX7_regular_0 : decode cX7_regular 0 = .ok (.aload_n 0, 1) := by decide +kernel
theorem dX7_regular_1 : decode cX7_regular 1 = .ok (.iload_n 1, 1) := by decide +kernel
theorem dX7_regular_2 : decode cX7_regular 2 = .ok (.invokevirtual 137, 3) := by decide +kernel
theorem dX7_regular_5 : decode cX7_regular 5 = .ok (.istore_n 3, 1) := by decide +kernel
theorem dX7_regular_6 : decode cX7_regular 6 = .ok (.iload_n 3, 1) := by decide +kernel
theorem dX7_regular_7 : decode cX7_regular 7 = .ok (.ifCond .ge 5, 3) := by decide +kernel
theorem dX7_regular_10 : decode cX7_regular 10 = .ok (.iload_n 3, 1) := by decide +kernel
theorem dX7_regular_11 : decode cX7_regular 11 = .ok (.ireturn, 1) := by decide +kernel
theorem dX7_regular_12 : decode cX7_regular 12 = .ok (.aload_n 0, 1) := by decide +kernel
theorem dX7_regular_13 : decode cX7_regular 13 = .ok (.iload_n 1, 1) := by decide +kernel
theorem dX7_regular_14 : decode cX7_regular 14 = .ok (.iload_n 2, 1) := by decide +kernel
theorem dX7_regular_15 : decode cX7_regular 15 = .ok (.invokevirtual 163, 3) := by decide +kernel
theorem dX7_regular_18 : decode cX7_regular 18 = .ok (.ifCond .ne 9, 3) := by decide +kernel
theorem dX7_regular_21 : decode cX7_regular 21 = .ok (.aload_n 0, 1) := by decide +kernel
theorem dX7_regular_22 : decode cX7_regular 22 = .ok (.iconst 2, 1) := by decide +kernel
theorem dX7_regular_23 : decode cX7_regular 23 = .ok (.invokevirtual 99, 3) := by decide +kernel
theorem dX7_regular_26 : decode cX7_regular 26 = .ok (.ireturn, 1) := by decide +kernel
theorem dX7_regular_27 : decode cX7_regular 27 = .ok (.aload_n 0, 1) := by decide +kernel
theorem dX7_regular_28 : decode cX7_regular 28 = .ok (.iload_n 1, 1) := by decide +kernel
theorem dX7_regular_29 : decode cX7_regular 29 = .ok (.iconst 0, 1) := by decide +kernel
theorem dX7_regular_30 : decode cX7_regular 30 = .ok (.invokevirtual 167, 3) := by decide +kernel
theorem dX7_regular_33 : decode cX7_regular 33 = .ok (.istore 4, 2) := by decide +kernel
theorem dX7_regular_35 : decode cX7_regular 35 = .ok (.iload 4, 2) := by decide +kernel
theorem dX7_regular_37 : decode cX7_regular 37 = .ok (.ifCond .ge 8, 3) := by decide +kernel
theorem dX7_regular_40 : decode cX7_regular 40 = .ok (.bipush (-4), 2) := by decide +kernel
theorem dX7_regular_42 : decode cX7_regular 42 = .ok (.goto 19, 3) := by decide +kernel
theorem dX7_regular_45 : decode cX7_regular 45 = .ok (.aload_n 0, 1) := by decide +kernel
theorem dX7_regular_46 : decode cX7_regular 46 = .ok (.iload_n 1, 1) := by decide +kernel
theorem dX7_regular_47 : decode cX7_regular 47 = .ok (.iload_n 2, 1) := by decide +kernel
theorem dX7_regular_48 : decode cX7_regular 48 = .ok (.iload 4, 2) := by decide +kernel
theorem dX7_regular_50 : decode cX7_regular 50 = .ok (.invokevirtual 174, 3) := by decide +kernel
theorem dX7_regular_53 : decode cX7_regular 53 = .ok (.ifCond .eq 7, 3) := by decide +kernel
theorem dX7_regular_56 : decode cX7_regular 56 = .ok (.iconst 1, 1) := by decide +kernel
theorem dX7_regular_57 : decode cX7_regular 57 = .ok (.goto 4, 3) := by decide +kernel
theorem dX7_regular_60 : decode cX7_regular 60 = .ok (.iconst 0, 1) := by decide +kernel
theorem dX7_regular_61 : decode cX7_regular 61 = .ok (.ireturn, 1) := by decide +kernel
set_option maxRecDepth 20000 in
theorem ggX7_centres_X7_looked : GoodIn wsX7_centres wsX7_looked := goodIn_r _ [5, 6, 7, 8, 4, 9, 10, 11, 12, 13, 14, 15, 16, 17, 18, 44, 45, 46, 47, 48, 49, 50, 51, 52, 53, 54, 55, 56, 57, 58, 59, 60, 61, 62, 63, 64, 65, 66, 67, 68, 69, 70, 71, 72, 73, 74, 75, 76] (by decide +kernel) (by decide +kernel)
set_option maxRecDepth 20000 in
theorem gX7_centres_X7_looked : GoodIn wsX7_centres (wsV RX7 137 RX7 yX7_looked wsX7_looked) := goodIn_app (goodIn_of _ (by decide +kernel)) ggX7_centres_X7_looked
set_option maxRecDepth 20000 in
theorem ggX7_centres_X7_isPoint : GoodIn wsX7_centres wsX7_isPoint := goodIn_r _ [22, 6, 10, 11, 4, 12, 44, 45, 46, 47, 48, 49, 50, 51, 52, 53, 54, 55, 56, 57, 58, 59, 60, 61, 62, 63, 64, 65, 66, 67, 68, 69, 70, 71, 72, 73, 74, 75, 76] (by decide +kernel) (by decide +kernel)
set_option maxRecDepth 20000 in
theorem gX7_centres_X7_isPoint : GoodIn wsX7_centres (wsV RX7 163 RX7 yX7_isPoint wsX7_isPoint) := goodIn_app (goodIn_of _ (by decide +kernel)) ggX7_centres_X7_isPoint
set_option maxRecDepth 20000 in
theorem ggX7_centres_X7_meets : GoodIn wsX7_centres wsX7_meets := goodIn_r _ [16, 17, 18, 44, 45, 46, 47, 48, 49, 50, 51, 52, 53, 54, 55, 56, 57, 58, 59, 60, 61, 62, 63, 64, 65, 66, 67, 68, 69, 70, 71, 72, 73, 74, 75, 76] (by decide +kernel) (by decide +kernel)
set_option maxRecDepth 20000 in
theorem gX7_centres_X7_meets : GoodIn wsX7_centres (wsV RX7 99 RX7 yX7_meets wsX7_meets) := goodIn_app (goodIn_of _ (by decide +kernel)) ggX7_centres_X7_meets
set_option maxRecDepth 20000 in
theorem ggX7_centres_X7_perpOf : GoodIn wsX7_centres wsX7_perpOf := goodIn_r _ [26, 6, 27, 28, 29, 30, 4, 31, 32, 33, 34, 35, 36, 37, 38, 39, 40, 44, 45, 46, 47, 48, 49, 50, 51, 52, 53, 54, 55, 56, 57, 58, 59, 60, 61, 62, 63, 64, 65, 66, 67, 68, 69, 70, 71, 72, 73, 74, 75, 76] (by decide +kernel) (by decide +kernel)
set_option maxRecDepth 20000 in
theorem gX7_centres_X7_perpOf : GoodIn wsX7_centres (wsV RX7 151 RX7 yX7_perpOf wsX7_perpOf) := goodIn_app (goodIn_of _ (by decide +kernel)) ggX7_centres_X7_perpOf
set_option maxRecDepth 20000 in
theorem ggX7_centres_X7_bits : GoodIn wsX7_centres wsX7_bits := goodIn_r _ [43] (by decide +kernel) (by decide +kernel)
set_option maxRecDepth 20000 in
theorem gX7_centres_X7_bits : GoodIn wsX7_centres (va_wsS RX7 116 yX7_bits wsX7_bits) := goodIn_app (goodIn_of _ (by decide +kernel)) ggX7_centres_X7_bits
theorem dX7_centres_0 : decode cX7_centres 0 = .ok (.aload_n 0, 1) := by decide +kernel
theorem dX7_centres_1 : decode cX7_centres 1 = .ok (.iload_n 1, 1) := by decide +kernel
theorem dX7_centres_2 : decode cX7_centres 2 = .ok (.invokevirtual 137, 3) := by decide +kernel
theorem dX7_centres_5 : decode cX7_centres 5 = .ok (.istore 5, 2) := by decide +kernel
theorem dX7_centres_7 : decode cX7_centres 7 = .ok (.iload 5, 2) := by decide +kernel
theorem dX7_centres_9 : decode cX7_centres 9 = .ok (.ifCond .ge 6, 3) := by decide +kernel
theorem dX7_centres_12 : decode cX7_centres 12 = .ok (.iload 5, 2) := by decide +kernel
theorem dX7_centres_14 : decode cX7_centres 14 = .ok (.ireturn, 1) := by decide +kernel
theorem dX7_centres_15 : decode cX7_centres 15 = .ok (.aload_n 0, 1) := by decide +kernel
theorem dX7_centres_16 : decode cX7_centres 16 = .ok (.iload_n 1, 1) := by decide +kernel
theorem dX7_centres_17 : decode cX7_centres 17 = .ok (.iload_n 2, 1) := by decide +kernel
theorem dX7_centres_18 : decode cX7_centres 18 = .ok (.invokevirtual 163, 3) := by decide +kernel
theorem dX7_centres_21 : decode cX7_centres 21 = .ok (.ifCond .eq 22, 3) := by decide +kernel
theorem dX7_centres_24 : decode cX7_centres 24 = .ok (.aload_n 0, 1) := by decide +kernel
theorem dX7_centres_25 : decode cX7_centres 25 = .ok (.iload_n 1, 1) := by decide +kernel
theorem dX7_centres_26 : decode cX7_centres 26 = .ok (.iload_n 3, 1) := by decide +kernel
theorem dX7_centres_27 : decode cX7_centres 27 = .ok (.invokevirtual 163, 3) := by decide +kernel
theorem dX7_centres_30 : decode cX7_centres 30 = .ok (.ifCond .eq 13, 3) := by decide +kernel
theorem dX7_centres_33 : decode cX7_centres 33 = .ok (.aload_n 0, 1) := by decide +kernel
theorem dX7_centres_34 : decode cX7_centres 34 = .ok (.iload_n 1, 1) := by decide +kernel
theorem dX7_centres_35 : decode cX7_centres 35 = .ok (.iload 4, 2) := by decide +kernel
theorem dX7_centres_37 : decode cX7_centres 37 = .ok (.invokevirtual 163, 3) := by decide +kernel
theorem dX7_centres_40 : decode cX7_centres 40 = .ok (.ifCond .ne 9, 3) := by decide +kernel
theorem dX7_centres_43 : decode cX7_centres 43 = .ok (.aload_n 0, 1) := by decide +kernel
theorem dX7_centres_44 : decode cX7_centres 44 = .ok (.iconst 2, 1) := by decide +kernel
theorem dX7_centres_45 : decode cX7_centres 45 = .ok (.invokevirtual 99, 3) := by decide +kernel
theorem dX7_centres_48 : decode cX7_centres 48 = .ok (.ireturn, 1) := by decide +kernel
theorem dX7_centres_49 : decode cX7_centres 49 = .ok (.aload_n 0, 1) := by decide +kernel
theorem dX7_centres_50 : decode cX7_centres 50 = .ok (.iload_n 1, 1) := by decide +kernel
theorem dX7_centres_51 : decode cX7_centres 51 = .ok (.lconst 1, 1) := by decide +kernel
theorem dX7_centres_52 : decode cX7_centres 52 = .ok (.iload_n 2, 1) := by decide +kernel
theorem dX7_centres_53 : decode cX7_centres 53 = .ok (.lshl, 1) := by decide +kernel
theorem dX7_centres_54 : decode cX7_centres 54 = .ok (.lconst 1, 1) := by decide +kernel
theorem dX7_centres_55 : decode cX7_centres 55 = .ok (.iload_n 3, 1) := by decide +kernel
theorem dX7_centres_56 : decode cX7_centres 56 = .ok (.lshl, 1) := by decide +kernel
theorem dX7_centres_57 : decode cX7_centres 57 = .ok (.lor, 1) := by decide +kernel
theorem dX7_centres_58 : decode cX7_centres 58 = .ok (.lconst 1, 1) := by decide +kernel
theorem dX7_centres_59 : decode cX7_centres 59 = .ok (.iload 4, 2) := by decide +kernel
theorem dX7_centres_61 : decode cX7_centres 61 = .ok (.lshl, 1) := by decide +kernel
theorem dX7_centres_62 : decode cX7_centres 62 = .ok (.lor, 1) := by decide +kernel
theorem dX7_centres_63 : decode cX7_centres 63 = .ok (.invokevirtual 151, 3) := by decide +kernel
theorem dX7_centres_66 : decode cX7_centres 66 = .ok (.invokestatic 116, 3) := by decide +kernel
theorem dX7_centres_69 : decode cX7_centres 69 = .ok (.ireturn, 1) := by decide +kernel
set_option maxRecDepth 20000 in
theorem ggX7_meets__X7_looked : GoodIn wsX7_meets_ wsX7_looked := goodIn_r _ [8, 9, 10, 11, 7, 12, 13, 14, 15, 16, 17, 18, 19, 20, 21, 29, 30, 31, 32, 33, 34, 35, 36, 37, 38, 39, 40, 41, 42, 43, 44, 45, 46, 47, 48, 49, 50, 51, 52, 53, 54, 55, 56, 57, 58, 59, 60, 61] (by decide +kernel) (by decide +kernel)
set_option maxRecDepth 20000 in
theorem gX7_meets__X7_looked : GoodIn wsX7_meets_ (wsV RX7 137 RX7 yX7_looked wsX7_looked) := goodIn_app (goodIn_of _ (by decide +kernel)) ggX7_meets__X7_looked
set_option maxRecDepth 20000 in
theorem ggX7_meets__X7_allOf : GoodIn wsX7_meets_ wsX7_allOf := goodIn_r _ [25, 9, 29, 30, 31, 32, 33, 34, 35, 36, 37, 38, 39, 40, 41, 42, 43, 44, 45, 46, 47, 48, 49, 50, 51, 52, 53, 54, 55, 56, 57, 58, 59, 60, 61] (by decide +kernel) (by decide +kernel)
set_option maxRecDepth 20000 in
theorem gX7_meets__X7_allOf : GoodIn wsX7_meets_ (wsV RX7 144 RX7 yX7_allOf wsX7_allOf) := goodIn_app (goodIn_of _ (by decide +kernel)) ggX7_meets__X7_allOf
set_option maxRecDepth 20000 in
theorem ggX7_meets__X7_bits : GoodIn wsX7_meets_ wsX7_bits := goodIn_r _ [28] (by decide +kernel) (by decide +kernel)
set_option maxRecDepth 20000 in
theorem gX7_meets__X7_bits : GoodIn wsX7_meets_ (va_wsS RX7 116 yX7_bits wsX7_bits) := goodIn_app (goodIn_of _ (by decide +kernel)) ggX7_meets__X7_bits
set_option maxRecDepth 20000 in
theorem ggX7_meets__X7_meets : GoodIn wsX7_meets_ wsX7_meets := goodIn_r _ [19, 20, 21, 29, 30, 31, 32, 33, 34, 35, 36, 37, 38, 39, 40, 41, 42, 43, 44, 45, 46, 47, 48, 49, 50, 51, 52, 53, 54, 55, 56, 57, 58, 59, 60, 61] (by decide +kernel) (by decide +kernel)
set_option maxRecDepth 20000 in
theorem gX7_meets__X7_meets : GoodIn wsX7_meets_ (wsV RX7 99 RX7 yX7_meets wsX7_meets) := goodIn_app (goodIn_of _ (by decide +kernel)) ggX7_meets__X7_meets
theorem dX7_meets__0 : decode cX7_meets_ 0 = .ok (.aload_n 0, 1) := by decide +kernel
theorem dX7_meets__1 : decode cX7_meets_ 1 = .ok (.iload_n 1, 1) := by decide +kernel
theorem dX7_meets__2 : decode cX7_meets_ 2 = .ok (.invokevirtual 137, 3) := by decide +kernel
theorem dX7_meets__5 : decode cX7_meets_ 5 = .ok (.istore 5, 2) := by decide +kernel
theorem dX7_meets__7 : decode cX7_meets_ 7 = .ok (.iload 5, 2) := by decide +kernel
theorem dX7_meets__9 : decode cX7_meets_ 9 = .ok (.ifCond .ge 6, 3) := by decide +kernel
theorem dX7_meets__12 : decode cX7_meets_ 12 = .ok (.iload 5, 2) := by decide +kernel
theorem dX7_meets__14 : decode cX7_meets_ 14 = .ok (.ireturn, 1) := by decide +kernel
theorem dX7_meets__15 : decode cX7_meets_ 15 = .ok (.lload_n 2, 1) := by decide +kernel
theorem dX7_meets__16 : decode cX7_meets_ 16 = .ok (.aload_n 0, 1) := by decide +kernel
theorem dX7_meets__17 : decode cX7_meets_ 17 = .ok (.iload_n 1, 1) := by decide +kernel
theorem dX7_meets__18 : decode cX7_meets_ 18 = .ok (.invokevirtual 144, 3) := by decide +kernel
theorem dX7_meets__21 : decode cX7_meets_ 21 = .ok (.ldc2_w 131, 3) := by decide +kernel
theorem dX7_meets__24 : decode cX7_meets_ 24 = .ok (.lxor, 1) := by decide +kernel
theorem dX7_meets__25 : decode cX7_meets_ 25 = .ok (.land, 1) := by decide +kernel
theorem dX7_meets__26 : decode cX7_meets_ 26 = .ok (.lconst 0, 1) := by decide +kernel
theorem dX7_meets__27 : decode cX7_meets_ 27 = .ok (.lcmp, 1) := by decide +kernel
theorem dX7_meets__28 : decode cX7_meets_ 28 = .ok (.ifCond .eq 5, 3) := by decide +kernel
theorem dX7_meets__31 : decode cX7_meets_ 31 = .ok (.iconst (-1), 1) := by decide +kernel
theorem dX7_meets__32 : decode cX7_meets_ 32 = .ok (.ireturn, 1) := by decide +kernel
theorem dX7_meets__33 : decode cX7_meets_ 33 = .ok (.bipush (-9), 2) := by decide +kernel
theorem dX7_meets__35 : decode cX7_meets_ 35 = .ok (.istore 6, 2) := by decide +kernel
theorem dX7_meets__37 : decode cX7_meets_ 37 = .ok (.iconst 0, 1) := by decide +kernel
theorem dX7_meets__38 : decode cX7_meets_ 38 = .ok (.istore 7, 2) := by decide +kernel
theorem dX7_meets__40 : decode cX7_meets_ 40 = .ok (.iload 7, 2) := by decide +kernel
theorem dX7_meets__42 : decode cX7_meets_ 42 = .ok (.aload_n 0, 1) := by decide +kernel
theorem dX7_meets__43 : decode cX7_meets_ 43 = .ok (.getfield 16, 3) := by decide +kernel
theorem dX7_meets__46 : decode cX7_meets_ 46 = .ok (.iload_n 1, 1) := by decide +kernel
theorem dX7_meets__47 : decode cX7_meets_ 47 = .ok (.iaload, 1) := by decide +kernel
theorem dX7_meets__48 : decode cX7_meets_ 48 = .ok (.if_icmp .ge 64, 3) := by decide +kernel
theorem dX7_meets__51 : decode cX7_meets_ 51 = .ok (.aload_n 0, 1) := by decide +kernel
theorem dX7_meets__52 : decode cX7_meets_ 52 = .ok (.getfield 25, 3) := by decide +kernel
theorem dX7_meets__55 : decode cX7_meets_ 55 = .ok (.bipush 45, 2) := by decide +kernel
theorem dX7_meets__57 : decode cX7_meets_ 57 = .ok (.iload_n 1, 1) := by decide +kernel
theorem dX7_meets__58 : decode cX7_meets_ 58 = .ok (.imul, 1) := by decide +kernel
theorem dX7_meets__59 : decode cX7_meets_ 59 = .ok (.iload 7, 2) := by decide +kernel
theorem dX7_meets__61 : decode cX7_meets_ 61 = .ok (.iadd, 1) := by decide +kernel
theorem dX7_meets__62 : decode cX7_meets_ 62 = .ok (.laload, 1) := by decide +kernel
theorem dX7_meets__63 : decode cX7_meets_ 63 = .ok (.lload_n 2, 1) := by decide +kernel
theorem dX7_meets__64 : decode cX7_meets_ 64 = .ok (.land, 1) := by decide +kernel
theorem dX7_meets__65 : decode cX7_meets_ 65 = .ok (.invokestatic 116, 3) := by decide +kernel
theorem dX7_meets__68 : decode cX7_meets_ 68 = .ok (.istore 8, 2) := by decide +kernel
theorem dX7_meets__70 : decode cX7_meets_ 70 = .ok (.iload 6, 2) := by decide +kernel
theorem dX7_meets__72 : decode cX7_meets_ 72 = .ok (.ifCond .lt 25, 3) := by decide +kernel
theorem dX7_meets__75 : decode cX7_meets_ 75 = .ok (.iload 4, 2) := by decide +kernel
theorem dX7_meets__77 : decode cX7_meets_ 77 = .ok (.ifCond .eq 13, 3) := by decide +kernel
theorem dX7_meets__80 : decode cX7_meets_ 80 = .ok (.iload 8, 2) := by decide +kernel
theorem dX7_meets__82 : decode cX7_meets_ 82 = .ok (.iload 6, 2) := by decide +kernel
theorem dX7_meets__84 : decode cX7_meets_ 84 = .ok (.if_icmp .le 18, 3) := by decide +kernel
theorem dX7_meets__87 : decode cX7_meets_ 87 = .ok (.goto 10, 3) := by decide +kernel
theorem dX7_meets__90 : decode cX7_meets_ 90 = .ok (.iload 8, 2) := by decide +kernel
theorem dX7_meets__92 : decode cX7_meets_ 92 = .ok (.iload 6, 2) := by decide +kernel
theorem dX7_meets__94 : decode cX7_meets_ 94 = .ok (.if_icmp .ge 8, 3) := by decide +kernel
theorem dX7_meets__97 : decode cX7_meets_ 97 = .ok (.iload 8, 2) := by decide +kernel
theorem dX7_meets__99 : decode cX7_meets_ 99 = .ok (.goto 5, 3) := by decide +kernel
theorem dX7_meets__102 : decode cX7_meets_ 102 = .ok (.iload 6, 2) := by decide +kernel
theorem dX7_meets__104 : decode cX7_meets_ 104 = .ok (.istore 6, 2) := by decide +kernel
theorem dX7_meets__106 : decode cX7_meets_ 106 = .ok (.iinc 7 1, 3) := by decide +kernel
theorem dX7_meets__109 : decode cX7_meets_ 109 = .ok (.goto (-69), 3) := by decide +kernel
theorem dX7_meets__112 : decode cX7_meets_ 112 = .ok (.iload 6, 2) := by decide +kernel
theorem dX7_meets__114 : decode cX7_meets_ 114 = .ok (.ifCond .ge 11, 3) := by decide +kernel
theorem dX7_meets__117 : decode cX7_meets_ 117 = .ok (.aload_n 0, 1) := by decide +kernel
theorem dX7_meets__118 : decode cX7_meets_ 118 = .ok (.iconst 4, 1) := by decide +kernel
theorem dX7_meets__119 : decode cX7_meets_ 119 = .ok (.invokevirtual 99, 3) := by decide +kernel
theorem dX7_meets__122 : decode cX7_meets_ 122 = .ok (.goto 5, 3) := by decide +kernel
theorem dX7_meets__125 : decode cX7_meets_ 125 = .ok (.iload 6, 2) := by decide +kernel
theorem dX7_meets__127 : decode cX7_meets_ 127 = .ok (.ireturn, 1) := by decide +kernel
set_option maxRecDepth 20000 in
theorem ggX7_setSeeking_X7_through : GoodIn wsX7_setSeeking wsX7_through := goodIn_r _ [13, 2, 6, 14, 15, 12, 16, 17, 18, 19, 20, 21, 22, 23, 24, 25, 26, 27, 28, 29, 30, 31, 32, 33, 34, 35, 36, 37, 38, 39, 40, 41, 42, 43, 44, 45, 46, 47, 48, 49] (by decide +kernel) (by decide +kernel)
set_option maxRecDepth 20000 in
theorem gX7_setSeeking_X7_through : GoodIn wsX7_setSeeking (wsV RX7 140 RX7 yX7_through wsX7_through) := goodIn_app (goodIn_of _ (by decide +kernel)) ggX7_setSeeking_X7_through
theorem dX7_setSeeking_0 : decode cX7_setSeeking 0 = .ok (.aload_n 0, 1) := by decide +kernel
theorem dX7_setSeeking_1 : decode cX7_setSeeking 1 = .ok (.iload_n 2, 1) := by decide +kernel
theorem dX7_setSeeking_2 : decode cX7_setSeeking 2 = .ok (.ifCond .eq 12, 3) := by decide +kernel
theorem dX7_setSeeking_5 : decode cX7_setSeeking 5 = .ok (.aload_n 0, 1) := by decide +kernel
theorem dX7_setSeeking_6 : decode cX7_setSeeking 6 = .ok (.getfield 13, 3) := by decide +kernel
theorem dX7_setSeeking_9 : decode cX7_setSeeking 9 = .ok (.iload_n 1, 1) := by decide +kernel
theorem dX7_setSeeking_10 : decode cX7_setSeeking 10 = .ok (.iaload, 1) := by decide +kernel
theorem dX7_setSeeking_11 : decode cX7_setSeeking 11 = .ok (.goto 9, 3) := by decide +kernel
theorem dX7_setSeeking_14 : decode cX7_setSeeking 14 = .ok (.aload_n 0, 1) := by decide +kernel
theorem dX7_setSeeking_15 : decode cX7_setSeeking 15 = .ok (.getfield 16, 3) := by decide +kernel
theorem dX7_setSeeking_18 : decode cX7_setSeeking 18 = .ok (.iload_n 1, 1) := by decide +kernel
theorem dX7_setSeeking_19 : decode cX7_setSeeking 19 = .ok (.iaload, 1) := by decide +kernel
theorem dX7_setSeeking_20 : decode cX7_setSeeking 20 = .ok (.putfield 185, 3) := by decide +kernel
theorem dX7_setSeeking_23 : decode cX7_setSeeking 23 = .ok (.aload_n 0, 1) := by decide +kernel
theorem dX7_setSeeking_24 : decode cX7_setSeeking 24 = .ok (.iload_n 2, 1) := by decide +kernel
theorem dX7_setSeeking_25 : decode cX7_setSeeking 25 = .ok (.ifCond .eq 12, 3) := by decide +kernel
theorem dX7_setSeeking_28 : decode cX7_setSeeking 28 = .ok (.aload_n 0, 1) := by decide +kernel
theorem dX7_setSeeking_29 : decode cX7_setSeeking 29 = .ok (.getfield 16, 3) := by decide +kernel
theorem dX7_setSeeking_32 : decode cX7_setSeeking 32 = .ok (.iload_n 1, 1) := by decide +kernel
theorem dX7_setSeeking_33 : decode cX7_setSeeking 33 = .ok (.iaload, 1) := by decide +kernel
theorem dX7_setSeeking_34 : decode cX7_setSeeking 34 = .ok (.goto 9, 3) := by decide +kernel
theorem dX7_setSeeking_37 : decode cX7_setSeeking 37 = .ok (.aload_n 0, 1) := by decide +kernel
theorem dX7_setSeeking_38 : decode cX7_setSeeking 38 = .ok (.getfield 13, 3) := by decide +kernel
theorem dX7_setSeeking_41 : decode cX7_setSeeking 41 = .ok (.iload_n 1, 1) := by decide +kernel
theorem dX7_setSeeking_42 : decode cX7_setSeeking 42 = .ok (.iaload, 1) := by decide +kernel
theorem dX7_setSeeking_43 : decode cX7_setSeeking 43 = .ok (.putfield 188, 3) := by decide +kernel
theorem dX7_setSeeking_46 : decode cX7_setSeeking 46 = .ok (.iconst 0, 1) := by decide +kernel
theorem dX7_setSeeking_47 : decode cX7_setSeeking 47 = .ok (.istore_n 3, 1) := by decide +kernel
theorem dX7_setSeeking_48 : decode cX7_setSeeking 48 = .ok (.iload_n 3, 1) := by decide +kernel
theorem dX7_setSeeking_49 : decode cX7_setSeeking 49 = .ok (.aload_n 0, 1) := by decide +kernel
theorem dX7_setSeeking_50 : decode cX7_setSeeking 50 = .ok (.getfield 185, 3) := by decide +kernel
theorem dX7_setSeeking_53 : decode cX7_setSeeking 53 = .ok (.if_icmp .ge 39, 3) := by decide +kernel
theorem dX7_setSeeking_56 : decode cX7_setSeeking 56 = .ok (.aload_n 0, 1) := by decide +kernel
theorem dX7_setSeeking_57 : decode cX7_setSeeking 57 = .ok (.getfield 38, 3) := by decide +kernel
theorem dX7_setSeeking_60 : decode cX7_setSeeking 60 = .ok (.iload_n 3, 1) := by decide +kernel
theorem dX7_setSeeking_61 : decode cX7_setSeeking 61 = .ok (.iload_n 2, 1) := by decide +kernel
theorem dX7_setSeeking_62 : decode cX7_setSeeking 62 = .ok (.ifCond .eq 12, 3) := by decide +kernel
theorem dX7_setSeeking_65 : decode cX7_setSeeking 65 = .ok (.aload_n 0, 1) := by decide +kernel
theorem dX7_setSeeking_66 : decode cX7_setSeeking 66 = .ok (.iload_n 1, 1) := by decide +kernel
theorem dX7_setSeeking_67 : decode cX7_setSeeking 67 = .ok (.iload_n 3, 1) := by decide +kernel
theorem dX7_setSeeking_68 : decode cX7_setSeeking 68 = .ok (.invokevirtual 140, 3) := by decide +kernel
theorem dX7_setSeeking_71 : decode cX7_setSeeking 71 = .ok (.goto 14, 3) := by decide +kernel
theorem dX7_setSeeking_74 : decode cX7_setSeeking 74 = .ok (.aload_n 0, 1) := by decide +kernel
theorem dX7_setSeeking_75 : decode cX7_setSeeking 75 = .ok (.getfield 25, 3) := by decide +kernel
theorem dX7_setSeeking_78 : decode cX7_setSeeking 78 = .ok (.bipush 45, 2) := by decide +kernel
theorem dX7_setSeeking_80 : decode cX7_setSeeking 80 = .ok (.iload_n 1, 1) := by decide +kernel
theorem dX7_setSeeking_81 : decode cX7_setSeeking 81 = .ok (.imul, 1) := by decide +kernel
theorem dX7_setSeeking_82 : decode cX7_setSeeking 82 = .ok (.iload_n 3, 1) := by decide +kernel
theorem dX7_setSeeking_83 : decode cX7_setSeeking 83 = .ok (.iadd, 1) := by decide +kernel
theorem dX7_setSeeking_84 : decode cX7_setSeeking 84 = .ok (.laload, 1) := by decide +kernel
theorem dX7_setSeeking_85 : decode cX7_setSeeking 85 = .ok (.lastore, 1) := by decide +kernel
theorem dX7_setSeeking_86 : decode cX7_setSeeking 86 = .ok (.iinc 3 1, 3) := by decide +kernel
theorem dX7_setSeeking_89 : decode cX7_setSeeking 89 = .ok (.goto (-41), 3) := by decide +kernel
theorem dX7_setSeeking_92 : decode cX7_setSeeking 92 = .ok (.iconst 0, 1) := by decide +kernel
theorem dX7_setSeeking_93 : decode cX7_setSeeking 93 = .ok (.istore_n 3, 1) := by decide +kernel
theorem dX7_setSeeking_94 : decode cX7_setSeeking 94 = .ok (.iload_n 3, 1) := by decide +kernel
theorem dX7_setSeeking_95 : decode cX7_setSeeking 95 = .ok (.aload_n 0, 1) := by decide +kernel
theorem dX7_setSeeking_96 : decode cX7_setSeeking 96 = .ok (.getfield 188, 3) := by decide +kernel
theorem dX7_setSeeking_99 : decode cX7_setSeeking 99 = .ok (.if_icmp .ge 39, 3) := by decide +kernel
theorem dX7_setSeeking_102 : decode cX7_setSeeking 102 = .ok (.aload_n 0, 1) := by decide +kernel
theorem dX7_setSeeking_103 : decode cX7_setSeeking 103 = .ok (.getfield 41, 3) := by decide +kernel
theorem dX7_setSeeking_106 : decode cX7_setSeeking 106 = .ok (.iload_n 3, 1) := by decide +kernel
theorem dX7_setSeeking_107 : decode cX7_setSeeking 107 = .ok (.iload_n 2, 1) := by decide +kernel
theorem dX7_setSeeking_108 : decode cX7_setSeeking 108 = .ok (.ifCond .eq 17, 3) := by decide +kernel
theorem dX7_setSeeking_111 : decode cX7_setSeeking 111 = .ok (.aload_n 0, 1) := by decide +kernel
theorem dX7_setSeeking_112 : decode cX7_setSeeking 112 = .ok (.getfield 25, 3) := by decide +kernel
theorem dX7_setSeeking_115 : decode cX7_setSeeking 115 = .ok (.bipush 45, 2) := by decide +kernel
theorem dX7_setSeeking_117 : decode cX7_setSeeking 117 = .ok (.iload_n 1, 1) := by decide +kernel
theorem dX7_setSeeking_118 : decode cX7_setSeeking 118 = .ok (.imul, 1) := by decide +kernel
theorem dX7_setSeeking_119 : decode cX7_setSeeking 119 = .ok (.iload_n 3, 1) := by decide +kernel
theorem dX7_setSeeking_120 : decode cX7_setSeeking 120 = .ok (.iadd, 1) := by decide +kernel
theorem dX7_setSeeking_121 : decode cX7_setSeeking 121 = .ok (.laload, 1) := by decide +kernel
theorem dX7_setSeeking_122 : decode cX7_setSeeking 122 = .ok (.goto 9, 3) := by decide +kernel
theorem dX7_setSeeking_125 : decode cX7_setSeeking 125 = .ok (.aload_n 0, 1) := by decide +kernel
theorem dX7_setSeeking_126 : decode cX7_setSeeking 126 = .ok (.iload_n 1, 1) := by decide +kernel
theorem dX7_setSeeking_127 : decode cX7_setSeeking 127 = .ok (.iload_n 3, 1) := by decide +kernel
theorem dX7_setSeeking_128 : decode cX7_setSeeking 128 = .ok (.invokevirtual 140, 3) := by decide +kernel
theorem dX7_setSeeking_131 : decode cX7_setSeeking 131 = .ok (.lastore, 1) := by decide +kernel
theorem dX7_setSeeking_132 : decode cX7_setSeeking 132 = .ok (.iinc 3 1, 3) := by decide +kernel
theorem dX7_setSeeking_135 : decode cX7_setSeeking 135 = .ok (.goto (-41), 3) := by decide +kernel
theorem dX7_setSeeking_138 : decode cX7_setSeeking 138 = .ok (.iconst 0, 1) := by decide +kernel
theorem dX7_setSeeking_139 : decode cX7_setSeeking 139 = .ok (.istore_n 3, 1) := by decide +kernel
theorem dX7_setSeeking_140 : decode cX7_setSeeking 140 = .ok (.iload_n 3, 1) := by decide +kernel
theorem dX7_setSeeking_141 : decode cX7_setSeeking 141 = .ok (.aload_n 0, 1) := by decide +kernel
theorem dX7_setSeeking_142 : decode cX7_setSeeking 142 = .ok (.getfield 185, 3) := by decide +kernel
theorem dX7_setSeeking_145 : decode cX7_setSeeking 145 = .ok (.if_icmp .ge 72, 3) := by decide +kernel
theorem dX7_setSeeking_148 : decode cX7_setSeeking 148 = .ok (.aload_n 0, 1) := by decide +kernel
theorem dX7_setSeeking_149 : decode cX7_setSeeking 149 = .ok (.getfield 35, 3) := by decide +kernel
theorem dX7_setSeeking_152 : decode cX7_setSeeking 152 = .ok (.iload_n 3, 1) := by decide +kernel
theorem dX7_setSeeking_153 : decode cX7_setSeeking 153 = .ok (.lconst 1, 1) := by decide +kernel
theorem dX7_setSeeking_154 : decode cX7_setSeeking 154 = .ok (.iload_n 3, 1) := by decide +kernel
theorem dX7_setSeeking_155 : decode cX7_setSeeking 155 = .ok (.lshl, 1) := by decide +kernel
theorem dX7_setSeeking_156 : decode cX7_setSeeking 156 = .ok (.lastore, 1) := by decide +kernel
theorem dX7_setSeeking_157 : decode cX7_setSeeking 157 = .ok (.iconst 0, 1) := by decide +kernel
theorem dX7_setSeeking_158 : decode cX7_setSeeking 158 = .ok (.istore 4, 2) := by decide +kernel
theorem dX7_setSeeking_160 : decode cX7_setSeeking 160 = .ok (.iload 4, 2) := by decide +kernel
theorem dX7_setSeeking_162 : decode cX7_setSeeking 162 = .ok (.aload_n 0, 1) := by decide +kernel
theorem dX7_setSeeking_163 : decode cX7_setSeeking 163 = .ok (.getfield 185, 3) := by decide +kernel
theorem dX7_setSeeking_166 : decode cX7_setSeeking 166 = .ok (.if_icmp .ge 45, 3) := by decide +kernel
theorem dX7_setSeeking_169 : decode cX7_setSeeking 169 = .ok (.aload_n 0, 1) := by decide +kernel
theorem dX7_setSeeking_170 : decode cX7_setSeeking 170 = .ok (.getfield 35, 3) := by decide +kernel
theorem dX7_setSeeking_173 : decode cX7_setSeeking 173 = .ok (.iload_n 3, 1) := by decide +kernel
theorem dX7_setSeeking_174 : decode cX7_setSeeking 174 = .ok (.dup2, 1) := by decide +kernel
theorem dX7_setSeeking_175 : decode cX7_setSeeking 175 = .ok (.laload, 1) := by decide +kernel
theorem dX7_setSeeking_176 : decode cX7_setSeeking 176 = .ok (.aload_n 0, 1) := by decide +kernel
theorem dX7_setSeeking_177 : decode cX7_setSeeking 177 = .ok (.getfield 38, 3) := by decide +kernel
theorem dX7_setSeeking_180 : decode cX7_setSeeking 180 = .ok (.iload_n 3, 1) := by decide +kernel
theorem dX7_setSeeking_181 : decode cX7_setSeeking 181 = .ok (.laload, 1) := by decide +kernel
theorem dX7_setSeeking_182 : decode cX7_setSeeking 182 = .ok (.aload_n 0, 1) := by decide +kernel
theorem dX7_setSeeking_183 : decode cX7_setSeeking 183 = .ok (.getfield 38, 3) := by decide +kernel
theorem dX7_setSeeking_186 : decode cX7_setSeeking 186 = .ok (.iload 4, 2) := by decide +kernel
theorem dX7_setSeeking_188 : decode cX7_setSeeking 188 = .ok (.laload, 1) := by decide +kernel
theorem dX7_setSeeking_189 : decode cX7_setSeeking 189 = .ok (.land, 1) := by decide +kernel
theorem dX7_setSeeking_190 : decode cX7_setSeeking 190 = .ok (.lconst 0, 1) := by decide +kernel
theorem dX7_setSeeking_191 : decode cX7_setSeeking 191 = .ok (.lcmp, 1) := by decide +kernel
theorem dX7_setSeeking_192 : decode cX7_setSeeking 192 = .ok (.ifCond .eq 10, 3) := by decide +kernel
theorem dX7_setSeeking_195 : decode cX7_setSeeking 195 = .ok (.lconst 1, 1) := by decide +kernel
theorem dX7_setSeeking_196 : decode cX7_setSeeking 196 = .ok (.iload 4, 2) := by decide +kernel
theorem dX7_setSeeking_198 : decode cX7_setSeeking 198 = .ok (.lshl, 1) := by decide +kernel
theorem dX7_setSeeking_199 : decode cX7_setSeeking 199 = .ok (.goto 4, 3) := by decide +kernel
theorem dX7_setSeeking_202 : decode cX7_setSeeking 202 = .ok (.lconst 0, 1) := by decide +kernel
theorem dX7_setSeeking_203 : decode cX7_setSeeking 203 = .ok (.lor, 1) := by decide +kernel
theorem dX7_setSeeking_204 : decode cX7_setSeeking 204 = .ok (.lastore, 1) := by decide +kernel
theorem dX7_setSeeking_205 : decode cX7_setSeeking 205 = .ok (.iinc 4 1, 3) := by decide +kernel
theorem dX7_setSeeking_208 : decode cX7_setSeeking 208 = .ok (.goto (-48), 3) := by decide +kernel
theorem dX7_setSeeking_211 : decode cX7_setSeeking 211 = .ok (.iinc 3 1, 3) := by decide +kernel
theorem dX7_setSeeking_214 : decode cX7_setSeeking 214 = .ok (.goto (-74), 3) := by decide +kernel
theorem dX7_setSeeking_217 : decode cX7_setSeeking 217 = .ok (.return_, 1) := by decide +kernel
set_option maxRecDepth 20000 in
theorem ggX7_goalAt_X7_has : GoodIn wsX7_goalAt wsX7_has := goodIn_r _ [7] (by decide +kernel) (by decide +kernel)
set_option maxRecDepth 20000 in
theorem gX7_goalAt_X7_has : GoodIn wsX7_goalAt (va_wsS RX7 133 yX7_has wsX7_has) := goodIn_app (goodIn_of _ (by decide +kernel)) ggX7_goalAt_X7_has
theorem dX7_goalAt_0 : decode cX7_goalAt 0 = .ok (.iconst 0, 1) := by decide +kernel
theorem dX7_goalAt_1 : decode cX7_goalAt 1 = .ok (.istore_n 1, 1) := by decide +kernel
theorem dX7_goalAt_2 : decode cX7_goalAt 2 = .ok (.iload_n 1, 1) := by decide +kernel
theorem dX7_goalAt_3 : decode cX7_goalAt 3 = .ok (.aload_n 0, 1) := by decide +kernel
theorem dX7_goalAt_4 : decode cX7_goalAt 4 = .ok (.getfield 188, 3) := by decide +kernel
theorem dX7_goalAt_7 : decode cX7_goalAt 7 = .ok (.if_icmp .ge 25, 3) := by decide +kernel
theorem dX7_goalAt_10 : decode cX7_goalAt 10 = .ok (.aload_n 0, 1) := by decide +kernel
theorem dX7_goalAt_11 : decode cX7_goalAt 11 = .ok (.getfield 50, 3) := by decide +kernel
theorem dX7_goalAt_14 : decode cX7_goalAt 14 = .ok (.aload_n 0, 1) := by decide +kernel
theorem dX7_goalAt_15 : decode cX7_goalAt 15 = .ok (.getfield 191, 3) := by decide +kernel
theorem dX7_goalAt_18 : decode cX7_goalAt 18 = .ok (.laload, 1) := by decide +kernel
theorem dX7_goalAt_19 : decode cX7_goalAt 19 = .ok (.iload_n 1, 1) := by decide +kernel
theorem dX7_goalAt_20 : decode cX7_goalAt 20 = .ok (.invokestatic 133, 3) := by decide +kernel
theorem dX7_goalAt_23 : decode cX7_goalAt 23 = .ok (.ifCond .eq 9, 3) := by decide +kernel
theorem dX7_goalAt_26 : decode cX7_goalAt 26 = .ok (.iinc 1 1, 3) := by decide +kernel
theorem dX7_goalAt_29 : decode cX7_goalAt 29 = .ok (.goto (-27), 3) := by decide +kernel
theorem dX7_goalAt_32 : decode cX7_goalAt 32 = .ok (.iload_n 1, 1) := by decide +kernel
theorem dX7_goalAt_33 : decode cX7_goalAt 33 = .ok (.ireturn, 1) := by decide +kernel
set_option maxRecDepth 20000 in
theorem ggX7_next_X7_goalAt : GoodIn wsX7_next wsX7_goalAt := goodIn_r _ [15, 5, 3, 1, 16, 17, 14, 18, 19, 20, 21, 22, 23, 24, 25, 26, 27, 28, 29, 30, 31, 32, 33, 34, 35, 36, 37, 38, 39, 40, 41, 42, 43, 44, 45, 46, 47, 48, 49, 50, 51] (by decide +kernel) (by decide +kernel)
set_option maxRecDepth 20000 in
theorem gX7_next_X7_goalAt : GoodIn wsX7_next (wsV RX7 194 RX7 yX7_goalAt wsX7_goalAt) := goodIn_app (goodIn_of _ (by decide +kernel)) ggX7_next_X7_goalAt
set_option maxRecDepth 20000 in
theorem ggX7_next_X7_has : GoodIn wsX7_next wsX7_has := goodIn_r _ [18] (by decide +kernel) (by decide +kernel)
set_option maxRecDepth 20000 in
theorem gX7_next_X7_has : GoodIn wsX7_next (va_wsS RX7 133 yX7_has wsX7_has) := goodIn_app (goodIn_of _ (by decide +kernel)) ggX7_next_X7_has
theorem dX7_next_0 : decode cX7_next 0 = .ok (.iload_n 1, 1) := by decide +kernel
theorem dX7_next_1 : decode cX7_next 1 = .ok (.ifCond .eq 32, 3) := by decide +kernel
theorem dX7_next_4 : decode cX7_next 4 = .ok (.aload_n 0, 1) := by decide +kernel
theorem dX7_next_5 : decode cX7_next 5 = .ok (.iconst 0, 1) := by decide +kernel
theorem dX7_next_6 : decode cX7_next 6 = .ok (.putfield 191, 3) := by decide +kernel
theorem dX7_next_9 : decode cX7_next 9 = .ok (.aload_n 0, 1) := by decide +kernel
theorem dX7_next_10 : decode cX7_next 10 = .ok (.getfield 47, 3) := by decide +kernel
theorem dX7_next_13 : decode cX7_next 13 = .ok (.iconst 0, 1) := by decide +kernel
theorem dX7_next_14 : decode cX7_next 14 = .ok (.lconst 0, 1) := by decide +kernel
theorem dX7_next_15 : decode cX7_next 15 = .ok (.lastore, 1) := by decide +kernel
theorem dX7_next_16 : decode cX7_next 16 = .ok (.aload_n 0, 1) := by decide +kernel
theorem dX7_next_17 : decode cX7_next 17 = .ok (.getfield 50, 3) := by decide +kernel
theorem dX7_next_20 : decode cX7_next 20 = .ok (.iconst 0, 1) := by decide +kernel
theorem dX7_next_21 : decode cX7_next 21 = .ok (.lconst 0, 1) := by decide +kernel
theorem dX7_next_22 : decode cX7_next 22 = .ok (.lastore, 1) := by decide +kernel
theorem dX7_next_23 : decode cX7_next 23 = .ok (.aload_n 0, 1) := by decide +kernel
theorem dX7_next_24 : decode cX7_next 24 = .ok (.getfield 44, 3) := by decide +kernel
theorem dX7_next_27 : decode cX7_next 27 = .ok (.iconst 0, 1) := by decide +kernel
theorem dX7_next_28 : decode cX7_next 28 = .ok (.iconst (-1), 1) := by decide +kernel
theorem dX7_next_29 : decode cX7_next 29 = .ok (.iastore, 1) := by decide +kernel
theorem dX7_next_30 : decode cX7_next 30 = .ok (.goto 13, 3) := by decide +kernel
theorem dX7_next_33 : decode cX7_next 33 = .ok (.aload_n 0, 1) := by decide +kernel
theorem dX7_next_34 : decode cX7_next 34 = .ok (.dup, 1) := by decide +kernel
theorem dX7_next_35 : decode cX7_next 35 = .ok (.getfield 191, 3) := by decide +kernel
theorem dX7_next_38 : decode cX7_next 38 = .ok (.iconst 1, 1) := by decide +kernel
theorem dX7_next_39 : decode cX7_next 39 = .ok (.isub, 1) := by decide +kernel
theorem dX7_next_40 : decode cX7_next 40 = .ok (.putfield 191, 3) := by decide +kernel
theorem dX7_next_43 : decode cX7_next 43 = .ok (.aload_n 0, 1) := by decide +kernel
theorem dX7_next_44 : decode cX7_next 44 = .ok (.getfield 191, 3) := by decide +kernel
theorem dX7_next_47 : decode cX7_next 47 = .ok (.ifCond .lt 210, 3) := by decide +kernel
theorem dX7_next_50 : decode cX7_next 50 = .ok (.aload_n 0, 1) := by decide +kernel
theorem dX7_next_51 : decode cX7_next 51 = .ok (.invokevirtual 194, 3) := by decide +kernel
theorem dX7_next_54 : decode cX7_next 54 = .ok (.istore_n 3, 1) := by decide +kernel
theorem dX7_next_55 : decode cX7_next 55 = .ok (.iload_n 3, 1) := by decide +kernel
theorem dX7_next_56 : decode cX7_next 56 = .ok (.aload_n 0, 1) := by decide +kernel
theorem dX7_next_57 : decode cX7_next 57 = .ok (.getfield 188, 3) := by decide +kernel
theorem dX7_next_60 : decode cX7_next 60 = .ok (.if_icmp .ne 5, 3) := by decide +kernel
theorem dX7_next_63 : decode cX7_next 63 = .ok (.iconst 1, 1) := by decide +kernel
theorem dX7_next_64 : decode cX7_next 64 = .ok (.ireturn, 1) := by decide +kernel
theorem dX7_next_65 : decode cX7_next 65 = .ok (.aload_n 0, 1) := by decide +kernel
theorem dX7_next_66 : decode cX7_next 66 = .ok (.getfield 44, 3) := by decide +kernel
theorem dX7_next_69 : decode cX7_next 69 = .ok (.aload_n 0, 1) := by decide +kernel
theorem dX7_next_70 : decode cX7_next 70 = .ok (.getfield 191, 3) := by decide +kernel
theorem dX7_next_73 : decode cX7_next 73 = .ok (.iaload, 1) := by decide +kernel
theorem dX7_next_74 : decode cX7_next 74 = .ok (.iconst 1, 1) := by decide +kernel
theorem dX7_next_75 : decode cX7_next 75 = .ok (.iadd, 1) := by decide +kernel
theorem dX7_next_76 : decode cX7_next 76 = .ok (.istore 4, 2) := by decide +kernel
theorem dX7_next_78 : decode cX7_next 78 = .ok (.iload 4, 2) := by decide +kernel
theorem dX7_next_80 : decode cX7_next 80 = .ok (.aload_n 0, 1) := by decide +kernel
theorem dX7_next_81 : decode cX7_next 81 = .ok (.getfield 185, 3) := by decide +kernel
theorem dX7_next_84 : decode cX7_next 84 = .ok (.if_icmp .ge 40, 3) := by decide +kernel
theorem dX7_next_87 : decode cX7_next 87 = .ok (.aload_n 0, 1) := by decide +kernel
theorem dX7_next_88 : decode cX7_next 88 = .ok (.getfield 41, 3) := by decide +kernel
theorem dX7_next_91 : decode cX7_next 91 = .ok (.iload_n 3, 1) := by decide +kernel
theorem dX7_next_92 : decode cX7_next 92 = .ok (.laload, 1) := by decide +kernel
theorem dX7_next_93 : decode cX7_next 93 = .ok (.iload 4, 2) := by decide +kernel
theorem dX7_next_95 : decode cX7_next 95 = .ok (.invokestatic 133, 3) := by decide +kernel
theorem dX7_next_98 : decode cX7_next 98 = .ok (.ifCond .eq 20, 3) := by decide +kernel
theorem dX7_next_101 : decode cX7_next 101 = .ok (.aload_n 0, 1) := by decide +kernel
theorem dX7_next_102 : decode cX7_next 102 = .ok (.getfield 47, 3) := by decide +kernel
theorem dX7_next_105 : decode cX7_next 105 = .ok (.aload_n 0, 1) := by decide +kernel
theorem dX7_next_106 : decode cX7_next 106 = .ok (.getfield 191, 3) := by decide +kernel
theorem dX7_next_109 : decode cX7_next 109 = .ok (.laload, 1) := by decide +kernel
theorem dX7_next_110 : decode cX7_next 110 = .ok (.iload 4, 2) := by decide +kernel
theorem dX7_next_112 : decode cX7_next 112 = .ok (.invokestatic 133, 3) := by decide +kernel
theorem dX7_next_115 : decode cX7_next 115 = .ok (.ifCond .eq 9, 3) := by decide +kernel
theorem dX7_next_118 : decode cX7_next 118 = .ok (.iinc 4 1, 3) := by decide +kernel
theorem dX7_next_121 : decode cX7_next 121 = .ok (.goto (-43), 3) := by decide +kernel
theorem dX7_next_124 : decode cX7_next 124 = .ok (.iload 4, 2) := by decide +kernel
theorem dX7_next_126 : decode cX7_next 126 = .ok (.aload_n 0, 1) := by decide +kernel
theorem dX7_next_127 : decode cX7_next 127 = .ok (.getfield 185, 3) := by decide +kernel
theorem dX7_next_130 : decode cX7_next 130 = .ok (.if_icmp .ne 16, 3) := by decide +kernel
theorem dX7_next_133 : decode cX7_next 133 = .ok (.aload_n 0, 1) := by decide +kernel
theorem dX7_next_134 : decode cX7_next 134 = .ok (.dup, 1) := by decide +kernel
theorem dX7_next_135 : decode cX7_next 135 = .ok (.getfield 191, 3) := by decide +kernel
theorem dX7_next_138 : decode cX7_next 138 = .ok (.iconst 1, 1) := by decide +kernel
theorem dX7_next_139 : decode cX7_next 139 = .ok (.isub, 1) := by decide +kernel
theorem dX7_next_140 : decode cX7_next 140 = .ok (.putfield 191, 3) := by decide +kernel
theorem dX7_next_143 : decode cX7_next 143 = .ok (.goto (-100), 3) := by decide +kernel
theorem dX7_next_146 : decode cX7_next 146 = .ok (.aload_n 0, 1) := by decide +kernel
theorem dX7_next_147 : decode cX7_next 147 = .ok (.getfield 198, 3) := by decide +kernel
theorem dX7_next_150 : decode cX7_next 150 = .ok (.iload_n 2, 1) := by decide +kernel
theorem dX7_next_151 : decode cX7_next 151 = .ok (.if_icmp .ne 6, 3) := by decide +kernel
theorem dX7_next_154 : decode cX7_next 154 = .ok (.bipush (-6), 2) := by decide +kernel
theorem dX7_next_156 : decode cX7_next 156 = .ok (.ireturn, 1) := by decide +kernel
theorem dX7_next_157 : decode cX7_next 157 = .ok (.aload_n 0, 1) := by decide +kernel
theorem dX7_next_158 : decode cX7_next 158 = .ok (.dup, 1) := by decide +kernel
theorem dX7_next_159 : decode cX7_next 159 = .ok (.getfield 198, 3) := by decide +kernel
theorem dX7_next_162 : decode cX7_next 162 = .ok (.iconst 1, 1) := by decide +kernel
theorem dX7_next_163 : decode cX7_next 163 = .ok (.iadd, 1) := by decide +kernel
theorem dX7_next_164 : decode cX7_next 164 = .ok (.putfield 198, 3) := by decide +kernel
theorem dX7_next_167 : decode cX7_next 167 = .ok (.aload_n 0, 1) := by decide +kernel
theorem dX7_next_168 : decode cX7_next 168 = .ok (.getfield 44, 3) := by decide +kernel
theorem dX7_next_171 : decode cX7_next 171 = .ok (.aload_n 0, 1) := by decide +kernel
theorem dX7_next_172 : decode cX7_next 172 = .ok (.getfield 191, 3) := by decide +kernel
theorem dX7_next_175 : decode cX7_next 175 = .ok (.iload 4, 2) := by decide +kernel
theorem dX7_next_177 : decode cX7_next 177 = .ok (.iastore, 1) := by decide +kernel
theorem dX7_next_178 : decode cX7_next 178 = .ok (.aload_n 0, 1) := by decide +kernel
theorem dX7_next_179 : decode cX7_next 179 = .ok (.getfield 47, 3) := by decide +kernel
theorem dX7_next_182 : decode cX7_next 182 = .ok (.aload_n 0, 1) := by decide +kernel
theorem dX7_next_183 : decode cX7_next 183 = .ok (.getfield 191, 3) := by decide +kernel
theorem dX7_next_186 : decode cX7_next 186 = .ok (.iconst 1, 1) := by decide +kernel
theorem dX7_next_187 : decode cX7_next 187 = .ok (.iadd, 1) := by decide +kernel
theorem dX7_next_188 : decode cX7_next 188 = .ok (.aload_n 0, 1) := by decide +kernel
theorem dX7_next_189 : decode cX7_next 189 = .ok (.getfield 47, 3) := by decide +kernel
theorem dX7_next_192 : decode cX7_next 192 = .ok (.aload_n 0, 1) := by decide +kernel
theorem dX7_next_193 : decode cX7_next 193 = .ok (.getfield 191, 3) := by decide +kernel
theorem dX7_next_196 : decode cX7_next 196 = .ok (.laload, 1) := by decide +kernel
theorem dX7_next_197 : decode cX7_next 197 = .ok (.aload_n 0, 1) := by decide +kernel
theorem dX7_next_198 : decode cX7_next 198 = .ok (.getfield 35, 3) := by decide +kernel
theorem dX7_next_201 : decode cX7_next 201 = .ok (.iload 4, 2) := by decide +kernel
theorem dX7_next_203 : decode cX7_next 203 = .ok (.laload, 1) := by decide +kernel
theorem dX7_next_204 : decode cX7_next 204 = .ok (.lor, 1) := by decide +kernel
theorem dX7_next_205 : decode cX7_next 205 = .ok (.lastore, 1) := by decide +kernel
theorem dX7_next_206 : decode cX7_next 206 = .ok (.aload_n 0, 1) := by decide +kernel
theorem dX7_next_207 : decode cX7_next 207 = .ok (.getfield 50, 3) := by decide +kernel
theorem dX7_next_210 : decode cX7_next 210 = .ok (.aload_n 0, 1) := by decide +kernel
theorem dX7_next_211 : decode cX7_next 211 = .ok (.getfield 191, 3) := by decide +kernel
theorem dX7_next_214 : decode cX7_next 214 = .ok (.iconst 1, 1) := by decide +kernel
theorem dX7_next_215 : decode cX7_next 215 = .ok (.iadd, 1) := by decide +kernel
theorem dX7_next_216 : decode cX7_next 216 = .ok (.aload_n 0, 1) := by decide +kernel
theorem dX7_next_217 : decode cX7_next 217 = .ok (.getfield 50, 3) := by decide +kernel
theorem dX7_next_220 : decode cX7_next 220 = .ok (.aload_n 0, 1) := by decide +kernel
theorem dX7_next_221 : decode cX7_next 221 = .ok (.getfield 191, 3) := by decide +kernel
theorem dX7_next_224 : decode cX7_next 224 = .ok (.laload, 1) := by decide +kernel
theorem dX7_next_225 : decode cX7_next 225 = .ok (.aload_n 0, 1) := by decide +kernel
theorem dX7_next_226 : decode cX7_next 226 = .ok (.getfield 38, 3) := by decide +kernel
theorem dX7_next_229 : decode cX7_next 229 = .ok (.iload 4, 2) := by decide +kernel
theorem dX7_next_231 : decode cX7_next 231 = .ok (.laload, 1) := by decide +kernel
theorem dX7_next_232 : decode cX7_next 232 = .ok (.lor, 1) := by decide +kernel
theorem dX7_next_233 : decode cX7_next 233 = .ok (.lastore, 1) := by decide +kernel
theorem dX7_next_234 : decode cX7_next 234 = .ok (.aload_n 0, 1) := by decide +kernel
theorem dX7_next_235 : decode cX7_next 235 = .ok (.dup, 1) := by decide +kernel
theorem dX7_next_236 : decode cX7_next 236 = .ok (.getfield 191, 3) := by decide +kernel
theorem dX7_next_239 : decode cX7_next 239 = .ok (.iconst 1, 1) := by decide +kernel
theorem dX7_next_240 : decode cX7_next 240 = .ok (.iadd, 1) := by decide +kernel
theorem dX7_next_241 : decode cX7_next 241 = .ok (.putfield 191, 3) := by decide +kernel
theorem dX7_next_244 : decode cX7_next 244 = .ok (.aload_n 0, 1) := by decide +kernel
theorem dX7_next_245 : decode cX7_next 245 = .ok (.getfield 44, 3) := by decide +kernel
theorem dX7_next_248 : decode cX7_next 248 = .ok (.aload_n 0, 1) := by decide +kernel
theorem dX7_next_249 : decode cX7_next 249 = .ok (.getfield 191, 3) := by decide +kernel
theorem dX7_next_252 : decode cX7_next 252 = .ok (.iconst (-1), 1) := by decide +kernel
theorem dX7_next_253 : decode cX7_next 253 = .ok (.iastore, 1) := by decide +kernel
theorem dX7_next_254 : decode cX7_next 254 = .ok (.goto (-211), 3) := by decide +kernel
theorem dX7_next_257 : decode cX7_next 257 = .ok (.iconst 0, 1) := by decide +kernel
theorem dX7_next_258 : decode cX7_next 258 = .ok (.ireturn, 1) := by decide +kernel
set_option maxRecDepth 20000 in
theorem ggX7_seek_X7_isNumber : GoodIn wsX7_seek wsX7_isNumber := goodIn_r _ [8, 9, 10, 7, 11] (by decide +kernel) (by decide +kernel)
set_option maxRecDepth 20000 in
theorem gX7_seek_X7_isNumber : GoodIn wsX7_seek (va_wsS RX7 95 yX7_isNumber wsX7_isNumber) := goodIn_app (goodIn_of _ (by decide +kernel)) ggX7_seek_X7_isNumber
set_option maxRecDepth 20000 in
theorem ggX7_seek_X7_in : GoodIn wsX7_seek wsX7_in := goodIn_r _ [11] (by decide +kernel) (by decide +kernel)
set_option maxRecDepth 20000 in
theorem gX7_seek_X7_in : GoodIn wsX7_seek (va_wsS RX7 91 yX7_in wsX7_in) := goodIn_app (goodIn_of _ (by decide +kernel)) ggX7_seek_X7_in
set_option maxRecDepth 20000 in
theorem ggX7_seek_X7_looked : GoodIn wsX7_seek wsX7_looked := goodIn_r _ [15, 16, 5, 6, 7, 8, 9, 10, 11, 17, 18, 19, 20, 21, 22, 56, 57, 58, 59, 60, 61, 62, 63, 64, 65, 66, 67, 68, 69, 70, 71, 72, 73, 74, 75, 76, 77, 78, 79, 80, 81, 82, 83, 84, 85, 86, 87, 88] (by decide +kernel) (by decide +kernel)
set_option maxRecDepth 20000 in
theorem gX7_seek_X7_looked : GoodIn wsX7_seek (wsV RX7 137 RX7 yX7_looked wsX7_looked) := goodIn_app (goodIn_of _ (by decide +kernel)) ggX7_seek_X7_looked
set_option maxRecDepth 20000 in
theorem ggX7_seek_X7_setSeeking : GoodIn wsX7_seek wsX7_setSeeking := goodIn_r _ [26, 16, 27, 28, 29, 30, 31, 32, 33, 34, 35, 36, 7, 37, 38, 39, 40, 56, 57, 58, 59, 60, 61, 62, 63, 64, 65, 66, 67, 68, 69, 70, 71, 72, 73, 74, 75, 76, 77, 78, 79, 80, 81, 82, 83, 84, 85, 86, 87, 88] (by decide +kernel) (by decide +kernel)
set_option maxRecDepth 20000 in
theorem gX7_seek_X7_setSeeking : GoodIn wsX7_seek (wsV RX7 202 RX7 yX7_setSeeking wsX7_setSeeking) := goodIn_app (goodIn_of _ (by decide +kernel)) ggX7_seek_X7_setSeeking
set_option maxRecDepth 20000 in
theorem ggX7_seek_X7_next : GoodIn wsX7_seek wsX7_next := goodIn_r _ [44, 3, 45, 46, 4, 29, 28, 32, 2, 33, 30, 47, 48, 49, 7, 50, 38, 39, 40, 56, 57, 58, 59, 60, 61, 62, 63, 64, 65, 66, 67, 68, 69, 70, 71, 72, 73, 74, 75, 76, 77, 78, 79, 80, 81, 82, 83, 84, 85, 86, 87, 88] (by decide +kernel) (by decide +kernel)
set_option maxRecDepth 20000 in
theorem gX7_seek_X7_next : GoodIn wsX7_seek (wsV RX7 206 RX7 yX7_next wsX7_next) := goodIn_app (goodIn_of _ (by decide +kernel)) ggX7_seek_X7_next
set_option maxRecDepth 20000 in
theorem ggX7_seek_X7_ask : GoodIn wsX7_seek wsX7_ask := goodIn_r _ [54, 55, 56, 57, 58, 59, 60, 61, 62, 63, 64, 65, 66, 67, 68, 69, 70, 71, 72, 73, 74, 75, 76, 77, 78, 79, 80, 81, 82, 83, 84, 85, 86, 87, 88] (by decide +kernel) (by decide +kernel)
set_option maxRecDepth 20000 in
theorem gX7_seek_X7_ask : GoodIn wsX7_seek (wsV RX7 181 RX7 yX7_ask wsX7_ask) := goodIn_app (goodIn_of _ (by decide +kernel)) ggX7_seek_X7_ask
theorem dX7_seek_0 : decode cX7_seek 0 = .ok (.iload_n 1, 1) := by decide +kernel
theorem dX7_seek_1 : decode cX7_seek 1 = .ok (.invokestatic 95, 3) := by decide +kernel
theorem dX7_seek_4 : decode cX7_seek 4 = .ok (.ifCond .eq 13, 3) := by decide +kernel
theorem dX7_seek_7 : decode cX7_seek 7 = .ok (.iload_n 2, 1) := by decide +kernel
theorem dX7_seek_8 : decode cX7_seek 8 = .ok (.iconst 1, 1) := by decide +kernel
theorem dX7_seek_9 : decode cX7_seek 9 = .ok (.ldc 201, 2) := by decide +kernel
theorem dX7_seek_11 : decode cX7_seek 11 = .ok (.invokestatic 91, 3) := by decide +kernel
theorem dX7_seek_14 : decode cX7_seek 14 = .ok (.ifCond .ne 5, 3) := by decide +kernel
theorem dX7_seek_17 : decode cX7_seek 17 = .ok (.iconst (-1), 1) := by decide +kernel
theorem dX7_seek_18 : decode cX7_seek 18 = .ok (.ireturn, 1) := by decide +kernel
theorem dX7_seek_19 : decode cX7_seek 19 = .ok (.aload_n 0, 1) := by decide +kernel
theorem dX7_seek_20 : decode cX7_seek 20 = .ok (.iload_n 1, 1) := by decide +kernel
theorem dX7_seek_21 : decode cX7_seek 21 = .ok (.invokevirtual 137, 3) := by decide +kernel
theorem dX7_seek_24 : decode cX7_seek 24 = .ok (.istore 4, 2) := by decide +kernel
theorem dX7_seek_26 : decode cX7_seek 26 = .ok (.iload 4, 2) := by decide +kernel
theorem dX7_seek_28 : decode cX7_seek 28 = .ok (.ifCond .ge 6, 3) := by decide +kernel
theorem dX7_seek_31 : decode cX7_seek 31 = .ok (.iload 4, 2) := by decide +kernel
theorem dX7_seek_33 : decode cX7_seek 33 = .ok (.ireturn, 1) := by decide +kernel
theorem dX7_seek_34 : decode cX7_seek 34 = .ok (.aload_n 0, 1) := by decide +kernel
theorem dX7_seek_35 : decode cX7_seek 35 = .ok (.iload_n 1, 1) := by decide +kernel
theorem dX7_seek_36 : decode cX7_seek 36 = .ok (.iload_n 3, 1) := by decide +kernel
theorem dX7_seek_37 : decode cX7_seek 37 = .ok (.invokevirtual 202, 3) := by decide +kernel
theorem dX7_seek_40 : decode cX7_seek 40 = .ok (.aload_n 0, 1) := by decide +kernel
theorem dX7_seek_41 : decode cX7_seek 41 = .ok (.iconst 0, 1) := by decide +kernel
theorem dX7_seek_42 : decode cX7_seek 42 = .ok (.putfield 198, 3) := by decide +kernel
theorem dX7_seek_45 : decode cX7_seek 45 = .ok (.aload_n 0, 1) := by decide +kernel
theorem dX7_seek_46 : decode cX7_seek 46 = .ok (.iconst 1, 1) := by decide +kernel
theorem dX7_seek_47 : decode cX7_seek 47 = .ok (.iload_n 2, 1) := by decide +kernel
theorem dX7_seek_48 : decode cX7_seek 48 = .ok (.invokevirtual 206, 3) := by decide +kernel
theorem dX7_seek_51 : decode cX7_seek 51 = .ok (.istore 5, 2) := by decide +kernel
theorem dX7_seek_53 : decode cX7_seek 53 = .ok (.iload 5, 2) := by decide +kernel
theorem dX7_seek_55 : decode cX7_seek 55 = .ok (.iconst 1, 1) := by decide +kernel
theorem dX7_seek_56 : decode cX7_seek 56 = .ok (.if_icmp .ge 16, 3) := by decide +kernel
theorem dX7_seek_59 : decode cX7_seek 59 = .ok (.iload 5, 2) := by decide +kernel
theorem dX7_seek_61 : decode cX7_seek 61 = .ok (.ifCond .ge 8, 3) := by decide +kernel
theorem dX7_seek_64 : decode cX7_seek 64 = .ok (.iload 5, 2) := by decide +kernel
theorem dX7_seek_66 : decode cX7_seek 66 = .ok (.goto 5, 3) := by decide +kernel
theorem dX7_seek_69 : decode cX7_seek 69 = .ok (.bipush (-9), 2) := by decide +kernel
theorem dX7_seek_71 : decode cX7_seek 71 = .ok (.ireturn, 1) := by decide +kernel
theorem dX7_seek_72 : decode cX7_seek 72 = .ok (.lconst 0, 1) := by decide +kernel
theorem dX7_seek_73 : decode cX7_seek 73 = .ok (.lstore 6, 2) := by decide +kernel
theorem dX7_seek_75 : decode cX7_seek 75 = .ok (.iconst 0, 1) := by decide +kernel
theorem dX7_seek_76 : decode cX7_seek 76 = .ok (.istore 8, 2) := by decide +kernel
theorem dX7_seek_78 : decode cX7_seek 78 = .ok (.iload 8, 2) := by decide +kernel
theorem dX7_seek_80 : decode cX7_seek 80 = .ok (.aload_n 0, 1) := by decide +kernel
theorem dX7_seek_81 : decode cX7_seek 81 = .ok (.getfield 191, 3) := by decide +kernel
theorem dX7_seek_84 : decode cX7_seek 84 = .ok (.if_icmp .ge 23, 3) := by decide +kernel
theorem dX7_seek_87 : decode cX7_seek 87 = .ok (.lload 6, 2) := by decide +kernel
theorem dX7_seek_89 : decode cX7_seek 89 = .ok (.lconst 1, 1) := by decide +kernel
theorem dX7_seek_90 : decode cX7_seek 90 = .ok (.aload_n 0, 1) := by decide +kernel
theorem dX7_seek_91 : decode cX7_seek 91 = .ok (.getfield 44, 3) := by decide +kernel
theorem dX7_seek_94 : decode cX7_seek 94 = .ok (.iload 8, 2) := by decide +kernel
theorem dX7_seek_96 : decode cX7_seek 96 = .ok (.iaload, 1) := by decide +kernel
theorem dX7_seek_97 : decode cX7_seek 97 = .ok (.lshl, 1) := by decide +kernel
theorem dX7_seek_98 : decode cX7_seek 98 = .ok (.lor, 1) := by decide +kernel
theorem dX7_seek_99 : decode cX7_seek 99 = .ok (.lstore 6, 2) := by decide +kernel
theorem dX7_seek_101 : decode cX7_seek 101 = .ok (.iinc 8 1, 3) := by decide +kernel
theorem dX7_seek_104 : decode cX7_seek 104 = .ok (.goto (-26), 3) := by decide +kernel
theorem dX7_seek_107 : decode cX7_seek 107 = .ok (.aload_n 0, 1) := by decide +kernel
theorem dX7_seek_108 : decode cX7_seek 108 = .ok (.lload 6, 2) := by decide +kernel
theorem dX7_seek_110 : decode cX7_seek 110 = .ok (.aload_n 0, 1) := by decide +kernel
theorem dX7_seek_111 : decode cX7_seek 111 = .ok (.getfield 191, 3) := by decide +kernel
theorem dX7_seek_114 : decode cX7_seek 114 = .ok (.invokevirtual 181, 3) := by decide +kernel
theorem dX7_seek_117 : decode cX7_seek 117 = .ok (.ireturn, 1) := by decide +kernel
set_option maxRecDepth 20000 in
theorem ggX7_ovoid_X7_seek : GoodIn wsX7_ovoid wsX7_seek := goodIn_r _ [5, 6, 7, 8, 9, 10, 11, 4, 12, 13, 14, 15, 16, 17, 18, 19, 20, 21, 22, 23, 24, 25, 26, 27, 28, 29, 30, 31, 32, 33, 34, 35, 36, 37, 38, 39, 40, 41, 42, 43, 44, 45, 46, 47, 48, 49, 50, 51, 52, 53, 54, 55, 56, 57, 58, 59, 60, 61, 62, 63, 64, 65, 66, 67, 68, 69, 70, 71, 72, 73, 74, 75, 76, 77, 78, 79, 80, 81, 82, 83, 84, 85, 86, 87, 88, 89, 90, 91, 92] (by decide +kernel) (by decide +kernel)
set_option maxRecDepth 20000 in
theorem gX7_ovoid_X7_seek : GoodIn wsX7_ovoid (wsV RX7 210 RX7 yX7_seek wsX7_seek) := goodIn_app (goodIn_of _ (by decide +kernel)) ggX7_ovoid_X7_seek
theorem dX7_ovoid_0 : decode cX7_ovoid 0 = .ok (.aload_n 0, 1) := by decide +kernel
theorem dX7_ovoid_1 : decode cX7_ovoid 1 = .ok (.iload_n 1, 1) := by decide +kernel
theorem dX7_ovoid_2 : decode cX7_ovoid 2 = .ok (.iload_n 2, 1) := by decide +kernel
theorem dX7_ovoid_3 : decode cX7_ovoid 3 = .ok (.iconst 1, 1) := by decide +kernel
theorem dX7_ovoid_4 : decode cX7_ovoid 4 = .ok (.invokevirtual 210, 3) := by decide +kernel
theorem dX7_ovoid_7 : decode cX7_ovoid 7 = .ok (.ireturn, 1) := by decide +kernel
set_option maxRecDepth 20000 in
theorem ggX7_spread_X7_seek : GoodIn wsX7_spread wsX7_seek := goodIn_r _ [5, 6, 7, 8, 9, 10, 11, 4, 12, 13, 14, 15, 16, 17, 18, 19, 20, 21, 22, 23, 24, 25, 26, 27, 28, 29, 30, 31, 32, 33, 34, 35, 36, 37, 38, 39, 40, 41, 42, 43, 44, 45, 46, 47, 48, 49, 50, 51, 52, 53, 54, 55, 56, 57, 58, 59, 60, 61, 62, 63, 64, 65, 66, 67, 68, 69, 70, 71, 72, 73, 74, 75, 76, 77, 78, 79, 80, 81, 82, 83, 84, 85, 86, 87, 88, 89, 90, 91, 92] (by decide +kernel) (by decide +kernel)
set_option maxRecDepth 20000 in
theorem gX7_spread_X7_seek : GoodIn wsX7_spread (wsV RX7 210 RX7 yX7_seek wsX7_seek) := goodIn_app (goodIn_of _ (by decide +kernel)) ggX7_spread_X7_seek
theorem dX7_spread_0 : decode cX7_spread 0 = .ok (.aload_n 0, 1) := by decide +kernel
theorem dX7_spread_1 : decode cX7_spread 1 = .ok (.iload_n 1, 1) := by decide +kernel
theorem dX7_spread_2 : decode cX7_spread 2 = .ok (.iload_n 2, 1) := by decide +kernel
theorem dX7_spread_3 : decode cX7_spread 3 = .ok (.iconst 0, 1) := by decide +kernel
theorem dX7_spread_4 : decode cX7_spread 4 = .ok (.invokevirtual 210, 3) := by decide +kernel
theorem dX7_spread_7 : decode cX7_spread 7 = .ok (.ireturn, 1) := by decide +kernel
set_option maxRecDepth 20000 in
theorem ggX7_ovoids_X7_isNumber : GoodIn wsX7_ovoids wsX7_isNumber := goodIn_r _ [6, 7, 8, 5, 9] (by decide +kernel) (by decide +kernel)
set_option maxRecDepth 20000 in
theorem gX7_ovoids_X7_isNumber : GoodIn wsX7_ovoids (va_wsS RX7 95 yX7_isNumber wsX7_isNumber) := goodIn_app (goodIn_of _ (by decide +kernel)) ggX7_ovoids_X7_isNumber
set_option maxRecDepth 20000 in
theorem ggX7_ovoids_X7_in : GoodIn wsX7_ovoids wsX7_in := goodIn_r _ [9] (by decide +kernel) (by decide +kernel)
set_option maxRecDepth 20000 in
theorem gX7_ovoids_X7_in : GoodIn wsX7_ovoids (va_wsS RX7 91 yX7_in wsX7_in) := goodIn_app (goodIn_of _ (by decide +kernel)) ggX7_ovoids_X7_in
set_option maxRecDepth 20000 in
theorem ggX7_ovoids_X7_looked : GoodIn wsX7_ovoids wsX7_looked := goodIn_r _ [13, 14, 3, 4, 5, 6, 7, 8, 9, 15, 16, 17, 18, 19, 20, 56, 57, 58, 59, 60, 61, 62, 63, 64, 65, 66, 67, 68, 69, 70, 71, 72, 73, 74, 75, 76, 77, 78, 79, 80, 81, 82, 83, 84, 85, 86, 87, 88] (by decide +kernel) (by decide +kernel)
set_option maxRecDepth 20000 in
theorem gX7_ovoids_X7_looked : GoodIn wsX7_ovoids (wsV RX7 137 RX7 yX7_looked wsX7_looked) := goodIn_app (goodIn_of _ (by decide +kernel)) ggX7_ovoids_X7_looked
set_option maxRecDepth 20000 in
theorem ggX7_ovoids_X7_setSeeking : GoodIn wsX7_ovoids wsX7_setSeeking := goodIn_r _ [24, 14, 25, 26, 27, 28, 29, 30, 31, 32, 33, 34, 5, 35, 36, 37, 38, 56, 57, 58, 59, 60, 61, 62, 63, 64, 65, 66, 67, 68, 69, 70, 71, 72, 73, 74, 75, 76, 77, 78, 79, 80, 81, 82, 83, 84, 85, 86, 87, 88] (by decide +kernel) (by decide +kernel)
set_option maxRecDepth 20000 in
theorem gX7_ovoids_X7_setSeeking : GoodIn wsX7_ovoids (wsV RX7 202 RX7 yX7_setSeeking wsX7_setSeeking) := goodIn_app (goodIn_of _ (by decide +kernel)) ggX7_ovoids_X7_setSeeking
set_option maxRecDepth 20000 in
theorem ggX7_ovoids_X7_next : GoodIn wsX7_ovoids wsX7_next := goodIn_r _ [42, 43, 44, 45, 46, 27, 26, 30, 2, 31, 28, 47, 48, 49, 5, 50, 36, 37, 38, 56, 57, 58, 59, 60, 61, 62, 63, 64, 65, 66, 67, 68, 69, 70, 71, 72, 73, 74, 75, 76, 77, 78, 79, 80, 81, 82, 83, 84, 85, 86, 87, 88] (by decide +kernel) (by decide +kernel)
set_option maxRecDepth 20000 in
theorem gX7_ovoids_X7_next : GoodIn wsX7_ovoids (wsV RX7 206 RX7 yX7_next wsX7_next) := goodIn_app (goodIn_of _ (by decide +kernel)) ggX7_ovoids_X7_next
set_option maxRecDepth 20000 in
theorem ggX7_ovoids_X7_ask : GoodIn wsX7_ovoids wsX7_ask := goodIn_r _ [54, 55, 56, 57, 58, 59, 60, 61, 62, 63, 64, 65, 66, 67, 68, 69, 70, 71, 72, 73, 74, 75, 76, 77, 78, 79, 80, 81, 82, 83, 84, 85, 86, 87, 88] (by decide +kernel) (by decide +kernel)
set_option maxRecDepth 20000 in
theorem gX7_ovoids_X7_ask : GoodIn wsX7_ovoids (wsV RX7 181 RX7 yX7_ask wsX7_ask) := goodIn_app (goodIn_of _ (by decide +kernel)) ggX7_ovoids_X7_ask
