theorem dX7_ovoids_0 : decode cX7_ovoids 0 = .ok (.iload_n 1, 1) := by decide +kernel
theorem dX7_ovoids_1 : decode cX7_ovoids 1 = .ok (.invokestatic 95, 3) := by decide +kernel
theorem dX7_ovoids_4 : decode cX7_ovoids 4 = .ok (.ifCond .eq 13, 3) := by decide +kernel
theorem dX7_ovoids_7 : decode cX7_ovoids 7 = .ok (.iload_n 2, 1) := by decide +kernel
theorem dX7_ovoids_8 : decode cX7_ovoids 8 = .ok (.iconst 1, 1) := by decide +kernel
theorem dX7_ovoids_9 : decode cX7_ovoids 9 = .ok (.ldc 201, 2) := by decide +kernel
theorem dX7_ovoids_11 : decode cX7_ovoids 11 = .ok (.invokestatic 91, 3) := by decide +kernel
theorem dX7_ovoids_14 : decode cX7_ovoids 14 = .ok (.ifCond .ne 5, 3) := by decide +kernel
theorem dX7_ovoids_17 : decode cX7_ovoids 17 = .ok (.iconst (-1), 1) := by decide +kernel
theorem dX7_ovoids_18 : decode cX7_ovoids 18 = .ok (.ireturn, 1) := by decide +kernel
theorem dX7_ovoids_19 : decode cX7_ovoids 19 = .ok (.aload_n 0, 1) := by decide +kernel
theorem dX7_ovoids_20 : decode cX7_ovoids 20 = .ok (.iload_n 1, 1) := by decide +kernel
theorem dX7_ovoids_21 : decode cX7_ovoids 21 = .ok (.invokevirtual 137, 3) := by decide +kernel
theorem dX7_ovoids_24 : decode cX7_ovoids 24 = .ok (.istore_n 3, 1) := by decide +kernel
theorem dX7_ovoids_25 : decode cX7_ovoids 25 = .ok (.iload_n 3, 1) := by decide +kernel
theorem dX7_ovoids_26 : decode cX7_ovoids 26 = .ok (.ifCond .ge 5, 3) := by decide +kernel
theorem dX7_ovoids_29 : decode cX7_ovoids 29 = .ok (.iload_n 3, 1) := by decide +kernel
theorem dX7_ovoids_30 : decode cX7_ovoids 30 = .ok (.ireturn, 1) := by decide +kernel
theorem dX7_ovoids_31 : decode cX7_ovoids 31 = .ok (.aload_n 0, 1) := by decide +kernel
theorem dX7_ovoids_32 : decode cX7_ovoids 32 = .ok (.iload_n 1, 1) := by decide +kernel
theorem dX7_ovoids_33 : decode cX7_ovoids 33 = .ok (.iconst 1, 1) := by decide +kernel
theorem dX7_ovoids_34 : decode cX7_ovoids 34 = .ok (.invokevirtual 202, 3) := by decide +kernel
theorem dX7_ovoids_37 : decode cX7_ovoids 37 = .ok (.aload_n 0, 1) := by decide +kernel
theorem dX7_ovoids_38 : decode cX7_ovoids 38 = .ok (.iconst 0, 1) := by decide +kernel
theorem dX7_ovoids_39 : decode cX7_ovoids 39 = .ok (.putfield 198, 3) := by decide +kernel
theorem dX7_ovoids_42 : decode cX7_ovoids 42 = .ok (.lconst 0, 1) := by decide +kernel
theorem dX7_ovoids_43 : decode cX7_ovoids 43 = .ok (.lstore 4, 2) := by decide +kernel
theorem dX7_ovoids_45 : decode cX7_ovoids 45 = .ok (.aload_n 0, 1) := by decide +kernel
theorem dX7_ovoids_46 : decode cX7_ovoids 46 = .ok (.iconst 1, 1) := by decide +kernel
theorem dX7_ovoids_47 : decode cX7_ovoids 47 = .ok (.iload_n 2, 1) := by decide +kernel
theorem dX7_ovoids_48 : decode cX7_ovoids 48 = .ok (.invokevirtual 206, 3) := by decide +kernel
theorem dX7_ovoids_51 : decode cX7_ovoids 51 = .ok (.istore 6, 2) := by decide +kernel
theorem dX7_ovoids_53 : decode cX7_ovoids 53 = .ok (.iload 6, 2) := by decide +kernel
theorem dX7_ovoids_55 : decode cX7_ovoids 55 = .ok (.iconst 1, 1) := by decide +kernel
theorem dX7_ovoids_56 : decode cX7_ovoids 56 = .ok (.if_icmp .ne 20, 3) := by decide +kernel
theorem dX7_ovoids_59 : decode cX7_ovoids 59 = .ok (.lload 4, 2) := by decide +kernel
theorem dX7_ovoids_61 : decode cX7_ovoids 61 = .ok (.lconst 1, 1) := by decide +kernel
theorem dX7_ovoids_62 : decode cX7_ovoids 62 = .ok (.ladd, 1) := by decide +kernel
theorem dX7_ovoids_63 : decode cX7_ovoids 63 = .ok (.lstore 4, 2) := by decide +kernel
theorem dX7_ovoids_65 : decode cX7_ovoids 65 = .ok (.aload_n 0, 1) := by decide +kernel
theorem dX7_ovoids_66 : decode cX7_ovoids 66 = .ok (.iconst 0, 1) := by decide +kernel
theorem dX7_ovoids_67 : decode cX7_ovoids 67 = .ok (.iload_n 2, 1) := by decide +kernel
theorem dX7_ovoids_68 : decode cX7_ovoids 68 = .ok (.invokevirtual 206, 3) := by decide +kernel
theorem dX7_ovoids_71 : decode cX7_ovoids 71 = .ok (.istore 6, 2) := by decide +kernel
theorem dX7_ovoids_73 : decode cX7_ovoids 73 = .ok (.goto (-20), 3) := by decide +kernel
theorem dX7_ovoids_76 : decode cX7_ovoids 76 = .ok (.iload 6, 2) := by decide +kernel
theorem dX7_ovoids_78 : decode cX7_ovoids 78 = .ok (.ifCond .ge 8, 3) := by decide +kernel
theorem dX7_ovoids_81 : decode cX7_ovoids 81 = .ok (.iload 6, 2) := by decide +kernel
theorem dX7_ovoids_83 : decode cX7_ovoids 83 = .ok (.goto 10, 3) := by decide +kernel
theorem dX7_ovoids_86 : decode cX7_ovoids 86 = .ok (.aload_n 0, 1) := by decide +kernel
theorem dX7_ovoids_87 : decode cX7_ovoids 87 = .ok (.lload 4, 2) := by decide +kernel
theorem dX7_ovoids_89 : decode cX7_ovoids 89 = .ok (.iconst 1, 1) := by decide +kernel
theorem dX7_ovoids_90 : decode cX7_ovoids 90 = .ok (.invokevirtual 181, 3) := by decide +kernel
theorem dX7_ovoids_93 : decode cX7_ovoids 93 = .ok (.ireturn, 1) := by decide +kernel
theorem dX7_tries_0 : decode cX7_tries 0 = .ok (.aload_n 0, 1) := by decide +kernel
theorem dX7_tries_1 : decode cX7_tries 1 = .ok (.getfield 198, 3) := by decide +kernel
theorem dX7_tries_4 : decode cX7_tries 4 = .ok (.ireturn, 1) := by decide +kernel
set_option maxRecDepth 20000 in
theorem ggX7_rank_X7_looked : GoodIn wsX7_rank wsX7_looked := goodIn_r _ [9, 2, 10, 11, 8, 12, 13, 14, 15, 16, 17, 18, 19, 20, 21, 33, 34, 35, 36, 37, 38, 39, 40, 41, 42, 43, 44, 45, 46, 47, 48, 49, 50, 51, 52, 53, 54, 55, 56, 57, 58, 59, 60, 61, 62, 63, 64, 65] (by decide +kernel) (by decide +kernel)
set_option maxRecDepth 20000 in
theorem gX7_rank_X7_looked : GoodIn wsX7_rank (wsV RX7 137 RX7 yX7_looked wsX7_looked) := goodIn_app (goodIn_of _ (by decide +kernel)) ggX7_rank_X7_looked
set_option maxRecDepth 20000 in
theorem ggX7_rank_X7_has : GoodIn wsX7_rank wsX7_has := goodIn_r _ [24] (by decide +kernel) (by decide +kernel)
set_option maxRecDepth 20000 in
theorem gX7_rank_X7_has : GoodIn wsX7_rank (va_wsS RX7 133 yX7_has wsX7_has) := goodIn_app (goodIn_of _ (by decide +kernel)) ggX7_rank_X7_has
set_option maxRecDepth 20000 in
theorem ggX7_rank_X7_swap : GoodIn wsX7_rank wsX7_swap := goodIn_r _ [28, 3, 33, 34, 35, 36, 37, 38, 39, 40, 41, 42, 43, 44, 45, 46, 47, 48, 49, 50, 51, 52, 53, 54, 55, 56, 57, 58, 59, 60, 61, 62, 63, 64, 65] (by decide +kernel) (by decide +kernel)
set_option maxRecDepth 20000 in
theorem gX7_rank_X7_swap : GoodIn wsX7_rank (wsV RX7 214 RX7 yX7_swap wsX7_swap) := goodIn_app (goodIn_of _ (by decide +kernel)) ggX7_rank_X7_swap
set_option maxRecDepth 20000 in
theorem ggX7_rank_X7_clear : GoodIn wsX7_rank wsX7_clear := goodIn_r _ [32, 3, 33, 34, 35, 36, 37, 38, 39, 40, 41, 42, 43, 44, 45, 46, 47, 48, 49, 50, 51, 52, 53, 54, 55, 56, 57, 58, 59, 60, 61, 62, 63, 64, 65] (by decide +kernel) (by decide +kernel)
set_option maxRecDepth 20000 in
theorem gX7_rank_X7_clear : GoodIn wsX7_rank (wsV RX7 218 RX7 yX7_clear wsX7_clear) := goodIn_app (goodIn_of _ (by decide +kernel)) ggX7_rank_X7_clear
theorem dX7_rank_0 : decode cX7_rank 0 = .ok (.iload_n 2, 1) := by decide +kernel
theorem dX7_rank_1 : decode cX7_rank 1 = .ok (.iconst 2, 1) := by decide +kernel
theorem dX7_rank_2 : decode cX7_rank 2 = .ok (.if_icmp .eq 15, 3) := by decide +kernel
theorem dX7_rank_5 : decode cX7_rank 5 = .ok (.iload_n 2, 1) := by decide +kernel
theorem dX7_rank_6 : decode cX7_rank 6 = .ok (.iconst 3, 1) := by decide +kernel
theorem dX7_rank_7 : decode cX7_rank 7 = .ok (.if_icmp .eq 10, 3) := by decide +kernel
theorem dX7_rank_10 : decode cX7_rank 10 = .ok (.iload_n 2, 1) := by decide +kernel
theorem dX7_rank_11 : decode cX7_rank 11 = .ok (.iconst 5, 1) := by decide +kernel
theorem dX7_rank_12 : decode cX7_rank 12 = .ok (.if_icmp .eq 5, 3) := by decide +kernel
theorem dX7_rank_15 : decode cX7_rank 15 = .ok (.iconst (-1), 1) := by decide +kernel
theorem dX7_rank_16 : decode cX7_rank 16 = .ok (.ireturn, 1) := by decide +kernel
theorem dX7_rank_17 : decode cX7_rank 17 = .ok (.aload_n 0, 1) := by decide +kernel
theorem dX7_rank_18 : decode cX7_rank 18 = .ok (.iload_n 1, 1) := by decide +kernel
theorem dX7_rank_19 : decode cX7_rank 19 = .ok (.invokevirtual 137, 3) := by decide +kernel
theorem dX7_rank_22 : decode cX7_rank 22 = .ok (.istore_n 3, 1) := by decide +kernel
theorem dX7_rank_23 : decode cX7_rank 23 = .ok (.iload_n 3, 1) := by decide +kernel
theorem dX7_rank_24 : decode cX7_rank 24 = .ok (.ifCond .ge 5, 3) := by decide +kernel
theorem dX7_rank_27 : decode cX7_rank 27 = .ok (.iload_n 3, 1) := by decide +kernel
theorem dX7_rank_28 : decode cX7_rank 28 = .ok (.ireturn, 1) := by decide +kernel
theorem dX7_rank_29 : decode cX7_rank 29 = .ok (.aload_n 0, 1) := by decide +kernel
theorem dX7_rank_30 : decode cX7_rank 30 = .ok (.getfield 16, 3) := by decide +kernel
theorem dX7_rank_33 : decode cX7_rank 33 = .ok (.iload_n 1, 1) := by decide +kernel
theorem dX7_rank_34 : decode cX7_rank 34 = .ok (.iaload, 1) := by decide +kernel
theorem dX7_rank_35 : decode cX7_rank 35 = .ok (.istore 4, 2) := by decide +kernel
theorem dX7_rank_37 : decode cX7_rank 37 = .ok (.iconst 0, 1) := by decide +kernel
theorem dX7_rank_38 : decode cX7_rank 38 = .ok (.istore 5, 2) := by decide +kernel
theorem dX7_rank_40 : decode cX7_rank 40 = .ok (.iload 5, 2) := by decide +kernel
theorem dX7_rank_42 : decode cX7_rank 42 = .ok (.iload 4, 2) := by decide +kernel
theorem dX7_rank_44 : decode cX7_rank 44 = .ok (.if_icmp .ge 67, 3) := by decide +kernel
theorem dX7_rank_47 : decode cX7_rank 47 = .ok (.iconst 0, 1) := by decide +kernel
theorem dX7_rank_48 : decode cX7_rank 48 = .ok (.istore 6, 2) := by decide +kernel
theorem dX7_rank_50 : decode cX7_rank 50 = .ok (.iload 6, 2) := by decide +kernel
theorem dX7_rank_52 : decode cX7_rank 52 = .ok (.aload_n 0, 1) := by decide +kernel
theorem dX7_rank_53 : decode cX7_rank 53 = .ok (.getfield 13, 3) := by decide +kernel
theorem dX7_rank_56 : decode cX7_rank 56 = .ok (.iload_n 1, 1) := by decide +kernel
theorem dX7_rank_57 : decode cX7_rank 57 = .ok (.iaload, 1) := by decide +kernel
theorem dX7_rank_58 : decode cX7_rank 58 = .ok (.if_icmp .ge 47, 3) := by decide +kernel
theorem dX7_rank_61 : decode cX7_rank 61 = .ok (.aload_n 0, 1) := by decide +kernel
theorem dX7_rank_62 : decode cX7_rank 62 = .ok (.getfield 53, 3) := by decide +kernel
theorem dX7_rank_65 : decode cX7_rank 65 = .ok (.bipush 45, 2) := by decide +kernel
theorem dX7_rank_67 : decode cX7_rank 67 = .ok (.iload 5, 2) := by decide +kernel
theorem dX7_rank_69 : decode cX7_rank 69 = .ok (.imul, 1) := by decide +kernel
theorem dX7_rank_70 : decode cX7_rank 70 = .ok (.iload 6, 2) := by decide +kernel
theorem dX7_rank_72 : decode cX7_rank 72 = .ok (.iadd, 1) := by decide +kernel
theorem dX7_rank_73 : decode cX7_rank 73 = .ok (.aload_n 0, 1) := by decide +kernel
theorem dX7_rank_74 : decode cX7_rank 74 = .ok (.getfield 25, 3) := by decide +kernel
theorem dX7_rank_77 : decode cX7_rank 77 = .ok (.bipush 45, 2) := by decide +kernel
theorem dX7_rank_79 : decode cX7_rank 79 = .ok (.iload_n 1, 1) := by decide +kernel
theorem dX7_rank_80 : decode cX7_rank 80 = .ok (.imul, 1) := by decide +kernel
theorem dX7_rank_81 : decode cX7_rank 81 = .ok (.iload 5, 2) := by decide +kernel
theorem dX7_rank_83 : decode cX7_rank 83 = .ok (.iadd, 1) := by decide +kernel
theorem dX7_rank_84 : decode cX7_rank 84 = .ok (.laload, 1) := by decide +kernel
theorem dX7_rank_85 : decode cX7_rank 85 = .ok (.iload 6, 2) := by decide +kernel
theorem dX7_rank_87 : decode cX7_rank 87 = .ok (.invokestatic 133, 3) := by decide +kernel
theorem dX7_rank_90 : decode cX7_rank 90 = .ok (.ifCond .eq 7, 3) := by decide +kernel
theorem dX7_rank_93 : decode cX7_rank 93 = .ok (.iconst 1, 1) := by decide +kernel
theorem dX7_rank_94 : decode cX7_rank 94 = .ok (.goto 4, 3) := by decide +kernel
theorem dX7_rank_97 : decode cX7_rank 97 = .ok (.iconst 0, 1) := by decide +kernel
theorem dX7_rank_98 : decode cX7_rank 98 = .ok (.iastore, 1) := by decide +kernel
theorem dX7_rank_99 : decode cX7_rank 99 = .ok (.iinc 6 1, 3) := by decide +kernel
theorem dX7_rank_102 : decode cX7_rank 102 = .ok (.goto (-52), 3) := by decide +kernel
theorem dX7_rank_105 : decode cX7_rank 105 = .ok (.iinc 5 1, 3) := by decide +kernel
theorem dX7_rank_108 : decode cX7_rank 108 = .ok (.goto (-68), 3) := by decide +kernel
theorem dX7_rank_111 : decode cX7_rank 111 = .ok (.iconst 0, 1) := by decide +kernel
theorem dX7_rank_112 : decode cX7_rank 112 = .ok (.istore 5, 2) := by decide +kernel
theorem dX7_rank_114 : decode cX7_rank 114 = .ok (.iconst 0, 1) := by decide +kernel
theorem dX7_rank_115 : decode cX7_rank 115 = .ok (.istore 6, 2) := by decide +kernel
theorem dX7_rank_117 : decode cX7_rank 117 = .ok (.iload 6, 2) := by decide +kernel
theorem dX7_rank_119 : decode cX7_rank 119 = .ok (.aload_n 0, 1) := by decide +kernel
theorem dX7_rank_120 : decode cX7_rank 120 = .ok (.getfield 13, 3) := by decide +kernel
theorem dX7_rank_123 : decode cX7_rank 123 = .ok (.iload_n 1, 1) := by decide +kernel
theorem dX7_rank_124 : decode cX7_rank 124 = .ok (.iaload, 1) := by decide +kernel
theorem dX7_rank_125 : decode cX7_rank 125 = .ok (.if_icmp .ge 90, 3) := by decide +kernel
theorem dX7_rank_128 : decode cX7_rank 128 = .ok (.iload 5, 2) := by decide +kernel
theorem dX7_rank_130 : decode cX7_rank 130 = .ok (.istore 7, 2) := by decide +kernel
theorem dX7_rank_132 : decode cX7_rank 132 = .ok (.iload 7, 2) := by decide +kernel
theorem dX7_rank_134 : decode cX7_rank 134 = .ok (.iload 4, 2) := by decide +kernel
theorem dX7_rank_136 : decode cX7_rank 136 = .ok (.if_icmp .ge 25, 3) := by decide +kernel
theorem dX7_rank_139 : decode cX7_rank 139 = .ok (.aload_n 0, 1) := by decide +kernel
theorem dX7_rank_140 : decode cX7_rank 140 = .ok (.getfield 53, 3) := by decide +kernel
theorem dX7_rank_143 : decode cX7_rank 143 = .ok (.bipush 45, 2) := by decide +kernel
theorem dX7_rank_145 : decode cX7_rank 145 = .ok (.iload 7, 2) := by decide +kernel
theorem dX7_rank_147 : decode cX7_rank 147 = .ok (.imul, 1) := by decide +kernel
theorem dX7_rank_148 : decode cX7_rank 148 = .ok (.iload 6, 2) := by decide +kernel
theorem dX7_rank_150 : decode cX7_rank 150 = .ok (.iadd, 1) := by decide +kernel
theorem dX7_rank_151 : decode cX7_rank 151 = .ok (.iaload, 1) := by decide +kernel
theorem dX7_rank_152 : decode cX7_rank 152 = .ok (.ifCond .ne 9, 3) := by decide +kernel
theorem dX7_rank_155 : decode cX7_rank 155 = .ok (.iinc 7 1, 3) := by decide +kernel
theorem dX7_rank_158 : decode cX7_rank 158 = .ok (.goto (-26), 3) := by decide +kernel
theorem dX7_rank_161 : decode cX7_rank 161 = .ok (.iload 7, 2) := by decide +kernel
theorem dX7_rank_163 : decode cX7_rank 163 = .ok (.iload 4, 2) := by decide +kernel
theorem dX7_rank_165 : decode cX7_rank 165 = .ok (.if_icmp .ge 44, 3) := by decide +kernel
theorem dX7_rank_168 : decode cX7_rank 168 = .ok (.aload_n 0, 1) := by decide +kernel
theorem dX7_rank_169 : decode cX7_rank 169 = .ok (.iload 7, 2) := by decide +kernel
theorem dX7_rank_171 : decode cX7_rank 171 = .ok (.iload 5, 2) := by decide +kernel
theorem dX7_rank_173 : decode cX7_rank 173 = .ok (.invokevirtual 214, 3) := by decide +kernel
theorem dX7_rank_176 : decode cX7_rank 176 = .ok (.iload 5, 2) := by decide +kernel
theorem dX7_rank_178 : decode cX7_rank 178 = .ok (.iconst 1, 1) := by decide +kernel
theorem dX7_rank_179 : decode cX7_rank 179 = .ok (.iadd, 1) := by decide +kernel
theorem dX7_rank_180 : decode cX7_rank 180 = .ok (.istore 8, 2) := by decide +kernel
theorem dX7_rank_182 : decode cX7_rank 182 = .ok (.iload 8, 2) := by decide +kernel
theorem dX7_rank_184 : decode cX7_rank 184 = .ok (.iload 4, 2) := by decide +kernel
theorem dX7_rank_186 : decode cX7_rank 186 = .ok (.if_icmp .ge 20, 3) := by decide +kernel
theorem dX7_rank_189 : decode cX7_rank 189 = .ok (.aload_n 0, 1) := by decide +kernel
theorem dX7_rank_190 : decode cX7_rank 190 = .ok (.iload 8, 2) := by decide +kernel
theorem dX7_rank_192 : decode cX7_rank 192 = .ok (.iload 5, 2) := by decide +kernel
theorem dX7_rank_194 : decode cX7_rank 194 = .ok (.iload 6, 2) := by decide +kernel
theorem dX7_rank_196 : decode cX7_rank 196 = .ok (.iload_n 2, 1) := by decide +kernel
theorem dX7_rank_197 : decode cX7_rank 197 = .ok (.invokevirtual 218, 3) := by decide +kernel
theorem dX7_rank_200 : decode cX7_rank 200 = .ok (.iinc 8 1, 3) := by decide +kernel
theorem dX7_rank_203 : decode cX7_rank 203 = .ok (.goto (-21), 3) := by decide +kernel
theorem dX7_rank_206 : decode cX7_rank 206 = .ok (.iinc 5 1, 3) := by decide +kernel
theorem dX7_rank_209 : decode cX7_rank 209 = .ok (.iinc 6 1, 3) := by decide +kernel
theorem dX7_rank_212 : decode cX7_rank 212 = .ok (.goto (-95), 3) := by decide +kernel
theorem dX7_rank_215 : decode cX7_rank 215 = .ok (.iload 5, 2) := by decide +kernel
theorem dX7_rank_217 : decode cX7_rank 217 = .ok (.ireturn, 1) := by decide +kernel
theorem dX7_swap_0 : decode cX7_swap 0 = .ok (.iconst 0, 1) := by decide +kernel
theorem dX7_swap_1 : decode cX7_swap 1 = .ok (.istore_n 3, 1) := by decide +kernel
theorem dX7_swap_2 : decode cX7_swap 2 = .ok (.iload_n 3, 1) := by decide +kernel
theorem dX7_swap_3 : decode cX7_swap 3 = .ok (.bipush 45, 2) := by decide +kernel
theorem dX7_swap_5 : decode cX7_swap 5 = .ok (.if_icmp .ge 57, 3) := by decide +kernel
theorem dX7_swap_8 : decode cX7_swap 8 = .ok (.aload_n 0, 1) := by decide +kernel
theorem dX7_swap_9 : decode cX7_swap 9 = .ok (.getfield 53, 3) := by decide +kernel
theorem dX7_swap_12 : decode cX7_swap 12 = .ok (.bipush 45, 2) := by decide +kernel
theorem dX7_swap_14 : decode cX7_swap 14 = .ok (.iload_n 1, 1) := by decide +kernel
theorem dX7_swap_15 : decode cX7_swap 15 = .ok (.imul, 1) := by decide +kernel
theorem dX7_swap_16 : decode cX7_swap 16 = .ok (.iload_n 3, 1) := by decide +kernel
theorem dX7_swap_17 : decode cX7_swap 17 = .ok (.iadd, 1) := by decide +kernel
theorem dX7_swap_18 : decode cX7_swap 18 = .ok (.iaload, 1) := by decide +kernel
theorem dX7_swap_19 : decode cX7_swap 19 = .ok (.istore 4, 2) := by decide +kernel
theorem dX7_swap_21 : decode cX7_swap 21 = .ok (.aload_n 0, 1) := by decide +kernel
theorem dX7_swap_22 : decode cX7_swap 22 = .ok (.getfield 53, 3) := by decide +kernel
theorem dX7_swap_25 : decode cX7_swap 25 = .ok (.bipush 45, 2) := by decide +kernel
theorem dX7_swap_27 : decode cX7_swap 27 = .ok (.iload_n 1, 1) := by decide +kernel
theorem dX7_swap_28 : decode cX7_swap 28 = .ok (.imul, 1) := by decide +kernel
theorem dX7_swap_29 : decode cX7_swap 29 = .ok (.iload_n 3, 1) := by decide +kernel
theorem dX7_swap_30 : decode cX7_swap 30 = .ok (.iadd, 1) := by decide +kernel
theorem dX7_swap_31 : decode cX7_swap 31 = .ok (.aload_n 0, 1) := by decide +kernel
theorem dX7_swap_32 : decode cX7_swap 32 = .ok (.getfield 53, 3) := by decide +kernel
theorem dX7_swap_35 : decode cX7_swap 35 = .ok (.bipush 45, 2) := by decide +kernel
theorem dX7_swap_37 : decode cX7_swap 37 = .ok (.iload_n 2, 1) := by decide +kernel
theorem dX7_swap_38 : decode cX7_swap 38 = .ok (.imul, 1) := by decide +kernel
theorem dX7_swap_39 : decode cX7_swap 39 = .ok (.iload_n 3, 1) := by decide +kernel
theorem dX7_swap_40 : decode cX7_swap 40 = .ok (.iadd, 1) := by decide +kernel
theorem dX7_swap_41 : decode cX7_swap 41 = .ok (.iaload, 1) := by decide +kernel
theorem dX7_swap_42 : decode cX7_swap 42 = .ok (.iastore, 1) := by decide +kernel
theorem dX7_swap_43 : decode cX7_swap 43 = .ok (.aload_n 0, 1) := by decide +kernel
theorem dX7_swap_44 : decode cX7_swap 44 = .ok (.getfield 53, 3) := by decide +kernel
theorem dX7_swap_47 : decode cX7_swap 47 = .ok (.bipush 45, 2) := by decide +kernel
theorem dX7_swap_49 : decode cX7_swap 49 = .ok (.iload_n 2, 1) := by decide +kernel
theorem dX7_swap_50 : decode cX7_swap 50 = .ok (.imul, 1) := by decide +kernel
theorem dX7_swap_51 : decode cX7_swap 51 = .ok (.iload_n 3, 1) := by decide +kernel
theorem dX7_swap_52 : decode cX7_swap 52 = .ok (.iadd, 1) := by decide +kernel
theorem dX7_swap_53 : decode cX7_swap 53 = .ok (.iload 4, 2) := by decide +kernel
theorem dX7_swap_55 : decode cX7_swap 55 = .ok (.iastore, 1) := by decide +kernel
theorem dX7_swap_56 : decode cX7_swap 56 = .ok (.iinc 3 1, 3) := by decide +kernel
theorem dX7_swap_59 : decode cX7_swap 59 = .ok (.goto (-57), 3) := by decide +kernel
theorem dX7_swap_62 : decode cX7_swap 62 = .ok (.return_, 1) := by decide +kernel
theorem dX7_clear_0 : decode cX7_clear 0 = .ok (.aload_n 0, 1) := by decide +kernel
theorem dX7_clear_1 : decode cX7_clear 1 = .ok (.getfield 53, 3) := by decide +kernel
theorem dX7_clear_4 : decode cX7_clear 4 = .ok (.bipush 45, 2) := by decide +kernel
theorem dX7_clear_6 : decode cX7_clear 6 = .ok (.iload_n 1, 1) := by decide +kernel
theorem dX7_clear_7 : decode cX7_clear 7 = .ok (.imul, 1) := by decide +kernel
theorem dX7_clear_8 : decode cX7_clear 8 = .ok (.iload_n 3, 1) := by decide +kernel
theorem dX7_clear_9 : decode cX7_clear 9 = .ok (.iadd, 1) := by decide +kernel
theorem dX7_clear_10 : decode cX7_clear 10 = .ok (.iaload, 1) := by decide +kernel
theorem dX7_clear_11 : decode cX7_clear 11 = .ok (.istore 5, 2) := by decide +kernel
theorem dX7_clear_13 : decode cX7_clear 13 = .ok (.aload_n 0, 1) := by decide +kernel
theorem dX7_clear_14 : decode cX7_clear 14 = .ok (.getfield 53, 3) := by decide +kernel
theorem dX7_clear_17 : decode cX7_clear 17 = .ok (.bipush 45, 2) := by decide +kernel
theorem dX7_clear_19 : decode cX7_clear 19 = .ok (.iload_n 2, 1) := by decide +kernel
theorem dX7_clear_20 : decode cX7_clear 20 = .ok (.imul, 1) := by decide +kernel
theorem dX7_clear_21 : decode cX7_clear 21 = .ok (.iload_n 3, 1) := by decide +kernel
theorem dX7_clear_22 : decode cX7_clear 22 = .ok (.iadd, 1) := by decide +kernel
theorem dX7_clear_23 : decode cX7_clear 23 = .ok (.iaload, 1) := by decide +kernel
theorem dX7_clear_24 : decode cX7_clear 24 = .ok (.istore 6, 2) := by decide +kernel
theorem dX7_clear_26 : decode cX7_clear 26 = .ok (.iload_n 3, 1) := by decide +kernel
theorem dX7_clear_27 : decode cX7_clear 27 = .ok (.istore 7, 2) := by decide +kernel
theorem dX7_clear_29 : decode cX7_clear 29 = .ok (.iload 7, 2) := by decide +kernel
theorem dX7_clear_31 : decode cX7_clear 31 = .ok (.bipush 45, 2) := by decide +kernel
theorem dX7_clear_33 : decode cX7_clear 33 = .ok (.if_icmp .ge 70, 3) := by decide +kernel
theorem dX7_clear_36 : decode cX7_clear 36 = .ok (.iload 5, 2) := by decide +kernel
theorem dX7_clear_38 : decode cX7_clear 38 = .ok (.ifCond .eq 65, 3) := by decide +kernel
theorem dX7_clear_41 : decode cX7_clear 41 = .ok (.aload_n 0, 1) := by decide +kernel
theorem dX7_clear_42 : decode cX7_clear 42 = .ok (.getfield 53, 3) := by decide +kernel
theorem dX7_clear_45 : decode cX7_clear 45 = .ok (.bipush 45, 2) := by decide +kernel
theorem dX7_clear_47 : decode cX7_clear 47 = .ok (.iload_n 1, 1) := by decide +kernel
theorem dX7_clear_48 : decode cX7_clear 48 = .ok (.imul, 1) := by decide +kernel
theorem dX7_clear_49 : decode cX7_clear 49 = .ok (.iload 7, 2) := by decide +kernel
theorem dX7_clear_51 : decode cX7_clear 51 = .ok (.iadd, 1) := by decide +kernel
theorem dX7_clear_52 : decode cX7_clear 52 = .ok (.iaload, 1) := by decide +kernel
theorem dX7_clear_53 : decode cX7_clear 53 = .ok (.iload 6, 2) := by decide +kernel
theorem dX7_clear_55 : decode cX7_clear 55 = .ok (.imul, 1) := by decide +kernel
theorem dX7_clear_56 : decode cX7_clear 56 = .ok (.aload_n 0, 1) := by decide +kernel
theorem dX7_clear_57 : decode cX7_clear 57 = .ok (.getfield 53, 3) := by decide +kernel
theorem dX7_clear_60 : decode cX7_clear 60 = .ok (.bipush 45, 2) := by decide +kernel
theorem dX7_clear_62 : decode cX7_clear 62 = .ok (.iload_n 2, 1) := by decide +kernel
theorem dX7_clear_63 : decode cX7_clear 63 = .ok (.imul, 1) := by decide +kernel
theorem dX7_clear_64 : decode cX7_clear 64 = .ok (.iload 7, 2) := by decide +kernel
theorem dX7_clear_66 : decode cX7_clear 66 = .ok (.iadd, 1) := by decide +kernel
theorem dX7_clear_67 : decode cX7_clear 67 = .ok (.iaload, 1) := by decide +kernel
theorem dX7_clear_68 : decode cX7_clear 68 = .ok (.iload 5, 2) := by decide +kernel
theorem dX7_clear_70 : decode cX7_clear 70 = .ok (.imul, 1) := by decide +kernel
theorem dX7_clear_71 : decode cX7_clear 71 = .ok (.isub, 1) := by decide +kernel
theorem dX7_clear_72 : decode cX7_clear 72 = .ok (.istore 8, 2) := by decide +kernel
theorem dX7_clear_74 : decode cX7_clear 74 = .ok (.aload_n 0, 1) := by decide +kernel
theorem dX7_clear_75 : decode cX7_clear 75 = .ok (.getfield 53, 3) := by decide +kernel
theorem dX7_clear_78 : decode cX7_clear 78 = .ok (.bipush 45, 2) := by decide +kernel
theorem dX7_clear_80 : decode cX7_clear 80 = .ok (.iload_n 1, 1) := by decide +kernel
theorem dX7_clear_81 : decode cX7_clear 81 = .ok (.imul, 1) := by decide +kernel
theorem dX7_clear_82 : decode cX7_clear 82 = .ok (.iload 7, 2) := by decide +kernel
theorem dX7_clear_84 : decode cX7_clear 84 = .ok (.iadd, 1) := by decide +kernel
theorem dX7_clear_85 : decode cX7_clear 85 = .ok (.iload 8, 2) := by decide +kernel
theorem dX7_clear_87 : decode cX7_clear 87 = .ok (.iload 4, 2) := by decide +kernel
theorem dX7_clear_89 : decode cX7_clear 89 = .ok (.irem, 1) := by decide +kernel
theorem dX7_clear_90 : decode cX7_clear 90 = .ok (.iload 4, 2) := by decide +kernel
theorem dX7_clear_92 : decode cX7_clear 92 = .ok (.iadd, 1) := by decide +kernel
theorem dX7_clear_93 : decode cX7_clear 93 = .ok (.iload 4, 2) := by decide +kernel
theorem dX7_clear_95 : decode cX7_clear 95 = .ok (.irem, 1) := by decide +kernel
theorem dX7_clear_96 : decode cX7_clear 96 = .ok (.iastore, 1) := by decide +kernel
theorem dX7_clear_97 : decode cX7_clear 97 = .ok (.iinc 7 1, 3) := by decide +kernel
theorem dX7_clear_100 : decode cX7_clear 100 = .ok (.goto (-71), 3) := by decide +kernel
theorem dX7_clear_103 : decode cX7_clear 103 = .ok (.return_, 1) := by decide +kernel
set_option maxRecDepth 20000 in
theorem ggX7_maySend_X7_has : GoodIn wsX7_maySend wsX7_has := goodIn_r _ [9] (by decide +kernel) (by decide +kernel)
set_option maxRecDepth 20000 in
theorem gX7_maySend_X7_has : GoodIn wsX7_maySend (va_wsS RX7 133 yX7_has wsX7_has) := goodIn_app (goodIn_of _ (by decide +kernel)) ggX7_maySend_X7_has
theorem dX7_maySend_0 : decode cX7_maySend 0 = .ok (.aload_n 0, 1) := by decide +kernel
theorem dX7_maySend_1 : decode cX7_maySend 1 = .ok (.getfield 68, 3) := by decide +kernel
theorem dX7_maySend_4 : decode cX7_maySend 4 = .ok (.iload_n 1, 1) := by decide +kernel
theorem dX7_maySend_5 : decode cX7_maySend 5 = .ok (.iaload, 1) := by decide +kernel
theorem dX7_maySend_6 : decode cX7_maySend 6 = .ok (.aload_n 0, 1) := by decide +kernel
theorem dX7_maySend_7 : decode cX7_maySend 7 = .ok (.getfield 71, 3) := by decide +kernel
theorem dX7_maySend_10 : decode cX7_maySend 10 = .ok (.iload_n 2, 1) := by decide +kernel
theorem dX7_maySend_11 : decode cX7_maySend 11 = .ok (.iaload, 1) := by decide +kernel
theorem dX7_maySend_12 : decode cX7_maySend 12 = .ok (.if_icmp .ne 7, 3) := by decide +kernel
theorem dX7_maySend_15 : decode cX7_maySend 15 = .ok (.iconst 1, 1) := by decide +kernel
theorem dX7_maySend_16 : decode cX7_maySend 16 = .ok (.goto 4, 3) := by decide +kernel
theorem dX7_maySend_19 : decode cX7_maySend 19 = .ok (.iconst 0, 1) := by decide +kernel
theorem dX7_maySend_20 : decode cX7_maySend 20 = .ok (.istore_n 3, 1) := by decide +kernel
theorem dX7_maySend_21 : decode cX7_maySend 21 = .ok (.iconst 0, 1) := by decide +kernel
theorem dX7_maySend_22 : decode cX7_maySend 22 = .ok (.istore 4, 2) := by decide +kernel
theorem dX7_maySend_24 : decode cX7_maySend 24 = .ok (.iload 4, 2) := by decide +kernel
theorem dX7_maySend_26 : decode cX7_maySend 26 = .ok (.iload_n 1, 1) := by decide +kernel
theorem dX7_maySend_27 : decode cX7_maySend 27 = .ok (.if_icmp .ge 60, 3) := by decide +kernel
theorem dX7_maySend_30 : decode cX7_maySend 30 = .ok (.iload_n 3, 1) := by decide +kernel
theorem dX7_maySend_31 : decode cX7_maySend 31 = .ok (.ifCond .eq 56, 3) := by decide +kernel
theorem dX7_maySend_34 : decode cX7_maySend 34 = .ok (.aload_n 0, 1) := by decide +kernel
theorem dX7_maySend_35 : decode cX7_maySend 35 = .ok (.getfield 59, 3) := by decide +kernel
theorem dX7_maySend_38 : decode cX7_maySend 38 = .ok (.iload 4, 2) := by decide +kernel
theorem dX7_maySend_40 : decode cX7_maySend 40 = .ok (.iaload, 1) := by decide +kernel
theorem dX7_maySend_41 : decode cX7_maySend 41 = .ok (.iload_n 2, 1) := by decide +kernel
theorem dX7_maySend_42 : decode cX7_maySend 42 = .ok (.if_icmp .eq 37, 3) := by decide +kernel
theorem dX7_maySend_45 : decode cX7_maySend 45 = .ok (.aload_n 0, 1) := by decide +kernel
theorem dX7_maySend_46 : decode cX7_maySend 46 = .ok (.getfield 62, 3) := by decide +kernel
theorem dX7_maySend_49 : decode cX7_maySend 49 = .ok (.iload_n 1, 1) := by decide +kernel
theorem dX7_maySend_50 : decode cX7_maySend 50 = .ok (.laload, 1) := by decide +kernel
theorem dX7_maySend_51 : decode cX7_maySend 51 = .ok (.iload 4, 2) := by decide +kernel
theorem dX7_maySend_53 : decode cX7_maySend 53 = .ok (.invokestatic 133, 3) := by decide +kernel
theorem dX7_maySend_56 : decode cX7_maySend 56 = .ok (.aload_n 0, 1) := by decide +kernel
theorem dX7_maySend_57 : decode cX7_maySend 57 = .ok (.getfield 65, 3) := by decide +kernel
theorem dX7_maySend_60 : decode cX7_maySend 60 = .ok (.iload_n 2, 1) := by decide +kernel
theorem dX7_maySend_61 : decode cX7_maySend 61 = .ok (.laload, 1) := by decide +kernel
theorem dX7_maySend_62 : decode cX7_maySend 62 = .ok (.aload_n 0, 1) := by decide +kernel
theorem dX7_maySend_63 : decode cX7_maySend 63 = .ok (.getfield 59, 3) := by decide +kernel
theorem dX7_maySend_66 : decode cX7_maySend 66 = .ok (.iload 4, 2) := by decide +kernel
theorem dX7_maySend_68 : decode cX7_maySend 68 = .ok (.iaload, 1) := by decide +kernel
theorem dX7_maySend_69 : decode cX7_maySend 69 = .ok (.invokestatic 133, 3) := by decide +kernel
theorem dX7_maySend_72 : decode cX7_maySend 72 = .ok (.if_icmp .ne 7, 3) := by decide +kernel
theorem dX7_maySend_75 : decode cX7_maySend 75 = .ok (.iconst 1, 1) := by decide +kernel
theorem dX7_maySend_76 : decode cX7_maySend 76 = .ok (.goto 4, 3) := by decide +kernel
theorem dX7_maySend_79 : decode cX7_maySend 79 = .ok (.iconst 0, 1) := by decide +kernel
theorem dX7_maySend_80 : decode cX7_maySend 80 = .ok (.istore_n 3, 1) := by decide +kernel
theorem dX7_maySend_81 : decode cX7_maySend 81 = .ok (.iinc 4 1, 3) := by decide +kernel
theorem dX7_maySend_84 : decode cX7_maySend 84 = .ok (.goto (-60), 3) := by decide +kernel
theorem dX7_maySend_87 : decode cX7_maySend 87 = .ok (.iload_n 3, 1) := by decide +kernel
theorem dX7_maySend_88 : decode cX7_maySend 88 = .ok (.ireturn, 1) := by decide +kernel
set_option maxRecDepth 20000 in
theorem ggX7_isSent_X7_has : GoodIn wsX7_isSent wsX7_has := goodIn_r _ [8] (by decide +kernel) (by decide +kernel)
set_option maxRecDepth 20000 in
theorem gX7_isSent_X7_has : GoodIn wsX7_isSent (va_wsS RX7 133 yX7_has wsX7_has) := goodIn_app (goodIn_of _ (by decide +kernel)) ggX7_isSent_X7_has
theorem dX7_isSent_0 : decode cX7_isSent 0 = .ok (.aload_n 0, 1) := by decide +kernel
theorem dX7_isSent_1 : decode cX7_isSent 1 = .ok (.getfield 16, 3) := by decide +kernel
theorem dX7_isSent_4 : decode cX7_isSent 4 = .ok (.iload_n 1, 1) := by decide +kernel
theorem dX7_isSent_5 : decode cX7_isSent 5 = .ok (.iaload, 1) := by decide +kernel
theorem dX7_isSent_6 : decode cX7_isSent 6 = .ok (.istore_n 3, 1) := by decide +kernel
theorem dX7_isSent_7 : decode cX7_isSent 7 = .ok (.lconst 0, 1) := by decide +kernel
theorem dX7_isSent_8 : decode cX7_isSent 8 = .ok (.lstore 4, 2) := by decide +kernel
theorem dX7_isSent_10 : decode cX7_isSent 10 = .ok (.iconst 0, 1) := by decide +kernel
theorem dX7_isSent_11 : decode cX7_isSent 11 = .ok (.istore 6, 2) := by decide +kernel
theorem dX7_isSent_13 : decode cX7_isSent 13 = .ok (.iload 6, 2) := by decide +kernel
theorem dX7_isSent_15 : decode cX7_isSent 15 = .ok (.iload_n 3, 1) := by decide +kernel
theorem dX7_isSent_16 : decode cX7_isSent 16 = .ok (.if_icmp .ge 130, 3) := by decide +kernel
theorem dX7_isSent_19 : decode cX7_isSent 19 = .ok (.lconst 0, 1) := by decide +kernel
theorem dX7_isSent_20 : decode cX7_isSent 20 = .ok (.lstore 7, 2) := by decide +kernel
theorem dX7_isSent_22 : decode cX7_isSent 22 = .ok (.iconst 0, 1) := by decide +kernel
theorem dX7_isSent_23 : decode cX7_isSent 23 = .ok (.istore 9, 2) := by decide +kernel
theorem dX7_isSent_25 : decode cX7_isSent 25 = .ok (.iload 9, 2) := by decide +kernel
theorem dX7_isSent_27 : decode cX7_isSent 27 = .ok (.aload_n 0, 1) := by decide +kernel
theorem dX7_isSent_28 : decode cX7_isSent 28 = .ok (.getfield 13, 3) := by decide +kernel
theorem dX7_isSent_31 : decode cX7_isSent 31 = .ok (.iload_n 1, 1) := by decide +kernel
theorem dX7_isSent_32 : decode cX7_isSent 32 = .ok (.iaload, 1) := by decide +kernel
theorem dX7_isSent_33 : decode cX7_isSent 33 = .ok (.if_icmp .ge 47, 3) := by decide +kernel
theorem dX7_isSent_36 : decode cX7_isSent 36 = .ok (.lload 7, 2) := by decide +kernel
theorem dX7_isSent_38 : decode cX7_isSent 38 = .ok (.aload_n 0, 1) := by decide +kernel
theorem dX7_isSent_39 : decode cX7_isSent 39 = .ok (.getfield 25, 3) := by decide +kernel
theorem dX7_isSent_42 : decode cX7_isSent 42 = .ok (.bipush 45, 2) := by decide +kernel
theorem dX7_isSent_44 : decode cX7_isSent 44 = .ok (.iload_n 1, 1) := by decide +kernel
theorem dX7_isSent_45 : decode cX7_isSent 45 = .ok (.imul, 1) := by decide +kernel
theorem dX7_isSent_46 : decode cX7_isSent 46 = .ok (.iload 6, 2) := by decide +kernel
theorem dX7_isSent_48 : decode cX7_isSent 48 = .ok (.iadd, 1) := by decide +kernel
theorem dX7_isSent_49 : decode cX7_isSent 49 = .ok (.laload, 1) := by decide +kernel
theorem dX7_isSent_50 : decode cX7_isSent 50 = .ok (.iload 9, 2) := by decide +kernel
theorem dX7_isSent_52 : decode cX7_isSent 52 = .ok (.invokestatic 133, 3) := by decide +kernel
theorem dX7_isSent_55 : decode cX7_isSent 55 = .ok (.ifCond .eq 15, 3) := by decide +kernel
theorem dX7_isSent_58 : decode cX7_isSent 58 = .ok (.lconst 1, 1) := by decide +kernel
theorem dX7_isSent_59 : decode cX7_isSent 59 = .ok (.aload_n 0, 1) := by decide +kernel
theorem dX7_isSent_60 : decode cX7_isSent 60 = .ok (.getfield 59, 3) := by decide +kernel
theorem dX7_isSent_63 : decode cX7_isSent 63 = .ok (.iload 9, 2) := by decide +kernel
theorem dX7_isSent_65 : decode cX7_isSent 65 = .ok (.iaload, 1) := by decide +kernel
theorem dX7_isSent_66 : decode cX7_isSent 66 = .ok (.lshl, 1) := by decide +kernel
theorem dX7_isSent_67 : decode cX7_isSent 67 = .ok (.goto 4, 3) := by decide +kernel
theorem dX7_isSent_70 : decode cX7_isSent 70 = .ok (.lconst 0, 1) := by decide +kernel
theorem dX7_isSent_71 : decode cX7_isSent 71 = .ok (.lor, 1) := by decide +kernel
theorem dX7_isSent_72 : decode cX7_isSent 72 = .ok (.lstore 7, 2) := by decide +kernel
theorem dX7_isSent_74 : decode cX7_isSent 74 = .ok (.iinc 9 1, 3) := by decide +kernel
theorem dX7_isSent_77 : decode cX7_isSent 77 = .ok (.goto (-52), 3) := by decide +kernel
theorem dX7_isSent_80 : decode cX7_isSent 80 = .ok (.iconst 0, 1) := by decide +kernel
theorem dX7_isSent_81 : decode cX7_isSent 81 = .ok (.istore 9, 2) := by decide +kernel
theorem dX7_isSent_83 : decode cX7_isSent 83 = .ok (.iload 9, 2) := by decide +kernel
theorem dX7_isSent_85 : decode cX7_isSent 85 = .ok (.iload_n 3, 1) := by decide +kernel
theorem dX7_isSent_86 : decode cX7_isSent 86 = .ok (.if_icmp .ge 37, 3) := by decide +kernel
theorem dX7_isSent_89 : decode cX7_isSent 89 = .ok (.lload 4, 2) := by decide +kernel
theorem dX7_isSent_91 : decode cX7_isSent 91 = .ok (.iload 9, 2) := by decide +kernel
theorem dX7_isSent_93 : decode cX7_isSent 93 = .ok (.invokestatic 133, 3) := by decide +kernel
theorem dX7_isSent_96 : decode cX7_isSent 96 = .ok (.ifCond .ne 21, 3) := by decide +kernel
theorem dX7_isSent_99 : decode cX7_isSent 99 = .ok (.aload_n 0, 1) := by decide +kernel
theorem dX7_isSent_100 : decode cX7_isSent 100 = .ok (.getfield 25, 3) := by decide +kernel
theorem dX7_isSent_103 : decode cX7_isSent 103 = .ok (.bipush 45, 2) := by decide +kernel
theorem dX7_isSent_105 : decode cX7_isSent 105 = .ok (.iload_n 2, 1) := by decide +kernel
theorem dX7_isSent_106 : decode cX7_isSent 106 = .ok (.imul, 1) := by decide +kernel
theorem dX7_isSent_107 : decode cX7_isSent 107 = .ok (.iload 9, 2) := by decide +kernel
theorem dX7_isSent_109 : decode cX7_isSent 109 = .ok (.iadd, 1) := by decide +kernel
theorem dX7_isSent_110 : decode cX7_isSent 110 = .ok (.laload, 1) := by decide +kernel
theorem dX7_isSent_111 : decode cX7_isSent 111 = .ok (.lload 7, 2) := by decide +kernel
theorem dX7_isSent_113 : decode cX7_isSent 113 = .ok (.lcmp, 1) := by decide +kernel
theorem dX7_isSent_114 : decode cX7_isSent 114 = .ok (.ifCond .eq 9, 3) := by decide +kernel
theorem dX7_isSent_117 : decode cX7_isSent 117 = .ok (.iinc 9 1, 3) := by decide +kernel
theorem dX7_isSent_120 : decode cX7_isSent 120 = .ok (.goto (-37), 3) := by decide +kernel
theorem dX7_isSent_123 : decode cX7_isSent 123 = .ok (.iload 9, 2) := by decide +kernel
theorem dX7_isSent_125 : decode cX7_isSent 125 = .ok (.iload_n 3, 1) := by decide +kernel
theorem dX7_isSent_126 : decode cX7_isSent 126 = .ok (.if_icmp .ne 5, 3) := by decide +kernel
theorem dX7_isSent_129 : decode cX7_isSent 129 = .ok (.iconst 0, 1) := by decide +kernel
theorem dX7_isSent_130 : decode cX7_isSent 130 = .ok (.ireturn, 1) := by decide +kernel
theorem dX7_isSent_131 : decode cX7_isSent 131 = .ok (.lload 4, 2) := by decide +kernel
theorem dX7_isSent_133 : decode cX7_isSent 133 = .ok (.lconst 1, 1) := by decide +kernel
theorem dX7_isSent_134 : decode cX7_isSent 134 = .ok (.iload 9, 2) := by decide +kernel
theorem dX7_isSent_136 : decode cX7_isSent 136 = .ok (.lshl, 1) := by decide +kernel
theorem dX7_isSent_137 : decode cX7_isSent 137 = .ok (.lor, 1) := by decide +kernel
theorem dX7_isSent_138 : decode cX7_isSent 138 = .ok (.lstore 4, 2) := by decide +kernel
theorem dX7_isSent_140 : decode cX7_isSent 140 = .ok (.iinc 6 1, 3) := by decide +kernel
theorem dX7_isSent_143 : decode cX7_isSent 143 = .ok (.goto (-130), 3) := by decide +kernel
theorem dX7_isSent_146 : decode cX7_isSent 146 = .ok (.iconst 1, 1) := by decide +kernel
theorem dX7_isSent_147 : decode cX7_isSent 147 = .ok (.ireturn, 1) := by decide +kernel
set_option maxRecDepth 20000 in
theorem ggX7_alike_X7_isNumber : GoodIn wsX7_alike wsX7_isNumber := goodIn_r _ [14, 15, 16, 13, 17] (by decide +kernel) (by decide +kernel)
set_option maxRecDepth 20000 in
theorem gX7_alike_X7_isNumber : GoodIn wsX7_alike (va_wsS RX7 95 yX7_isNumber wsX7_isNumber) := goodIn_app (goodIn_of _ (by decide +kernel)) ggX7_alike_X7_isNumber
set_option maxRecDepth 20000 in
theorem ggX7_alike_X7_in : GoodIn wsX7_alike wsX7_in := goodIn_r _ [17] (by decide +kernel) (by decide +kernel)
set_option maxRecDepth 20000 in
theorem gX7_alike_X7_in : GoodIn wsX7_alike (va_wsS RX7 91 yX7_in wsX7_in) := goodIn_app (goodIn_of _ (by decide +kernel)) ggX7_alike_X7_in
set_option maxRecDepth 20000 in
theorem ggX7_alike_X7_meets : GoodIn wsX7_alike wsX7_meets := goodIn_r _ [21, 22, 23, 47, 48, 49, 50, 51, 52, 53, 54, 55, 56, 57, 58, 59, 60, 61, 62, 63, 64, 65, 66, 67, 68, 69, 70, 71, 72, 73, 74, 75, 76, 77, 78, 79] (by decide +kernel) (by decide +kernel)
set_option maxRecDepth 20000 in
theorem gX7_alike_X7_meets : GoodIn wsX7_alike (wsV RX7 99 RX7 yX7_meets wsX7_meets) := goodIn_app (goodIn_of _ (by decide +kernel)) ggX7_alike_X7_meets
set_option maxRecDepth 20000 in
theorem ggX7_alike_X7_nearTo : GoodIn wsX7_alike wsX7_nearTo := goodIn_r _ [27, 4, 28, 29, 30, 13, 31, 47, 48, 49, 50, 51, 52, 53, 54, 55, 56, 57, 58, 59, 60, 61, 62, 63, 64, 65, 66, 67, 68, 69, 70, 71, 72, 73, 74, 75, 76, 77, 78, 79] (by decide +kernel) (by decide +kernel)
set_option maxRecDepth 20000 in
theorem gX7_alike_X7_nearTo : GoodIn wsX7_alike (wsV RX7 148 RX7 yX7_nearTo wsX7_nearTo) := goodIn_app (goodIn_of _ (by decide +kernel)) ggX7_alike_X7_nearTo
set_option maxRecDepth 20000 in
theorem ggX7_alike_X7_through : GoodIn wsX7_alike wsX7_through := goodIn_r _ [35, 4, 28, 29, 30, 13, 31, 47, 48, 49, 50, 51, 52, 53, 54, 55, 56, 57, 58, 59, 60, 61, 62, 63, 64, 65, 66, 67, 68, 69, 70, 71, 72, 73, 74, 75, 76, 77, 78, 79] (by decide +kernel) (by decide +kernel)
set_option maxRecDepth 20000 in
theorem gX7_alike_X7_through : GoodIn wsX7_alike (wsV RX7 140 RX7 yX7_through wsX7_through) := goodIn_app (goodIn_of _ (by decide +kernel)) ggX7_alike_X7_through
set_option maxRecDepth 20000 in
theorem ggX7_alike_X7_bits : GoodIn wsX7_alike wsX7_bits := goodIn_r _ [38] (by decide +kernel) (by decide +kernel)
set_option maxRecDepth 20000 in
theorem gX7_alike_X7_bits : GoodIn wsX7_alike (va_wsS RX7 116 yX7_bits wsX7_bits) := goodIn_app (goodIn_of _ (by decide +kernel)) ggX7_alike_X7_bits
set_option maxRecDepth 20000 in
theorem ggX7_alike_X7_isSent : GoodIn wsX7_alike wsX7_isSent := goodIn_r _ [42, 4, 2, 28, 9, 29, 30, 13, 31, 47, 48, 49, 50, 51, 52, 53, 54, 55, 56, 57, 58, 59, 60, 61, 62, 63, 64, 65, 66, 67, 68, 69, 70, 71, 72, 73, 74, 75, 76, 77, 78, 79] (by decide +kernel) (by decide +kernel)
set_option maxRecDepth 20000 in
theorem gX7_alike_X7_isSent : GoodIn wsX7_alike (wsV RX7 222 RX7 yX7_isSent wsX7_isSent) := goodIn_app (goodIn_of _ (by decide +kernel)) ggX7_alike_X7_isSent
set_option maxRecDepth 20000 in
theorem ggX7_alike_X7_maySend : GoodIn wsX7_alike wsX7_maySend := goodIn_r _ [46, 7, 8, 9, 5, 6, 29, 30, 13, 31, 47, 48, 49, 50, 51, 52, 53, 54, 55, 56, 57, 58, 59, 60, 61, 62, 63, 64, 65, 66, 67, 68, 69, 70, 71, 72, 73, 74, 75, 76, 77, 78, 79] (by decide +kernel) (by decide +kernel)
set_option maxRecDepth 20000 in
theorem gX7_alike_X7_maySend : GoodIn wsX7_alike (wsV RX7 225 RX7 yX7_maySend wsX7_maySend) := goodIn_app (goodIn_of _ (by decide +kernel)) ggX7_alike_X7_maySend
theorem dX7_alike_0 : decode cX7_alike 0 = .ok (.iload_n 1, 1) := by decide +kernel
theorem dX7_alike_1 : decode cX7_alike 1 = .ok (.invokestatic 95, 3) := by decide +kernel
theorem dX7_alike_4 : decode cX7_alike 4 = .ok (.ifCond .eq 20, 3) := by decide +kernel
theorem dX7_alike_7 : decode cX7_alike 7 = .ok (.iload_n 2, 1) := by decide +kernel
theorem dX7_alike_8 : decode cX7_alike 8 = .ok (.invokestatic 95, 3) := by decide +kernel
theorem dX7_alike_11 : decode cX7_alike 11 = .ok (.ifCond .eq 13, 3) := by decide +kernel
theorem dX7_alike_14 : decode cX7_alike 14 = .ok (.iload_n 3, 1) := by decide +kernel
theorem dX7_alike_15 : decode cX7_alike 15 = .ok (.iconst 1, 1) := by decide +kernel
theorem dX7_alike_16 : decode cX7_alike 16 = .ok (.ldc 201, 2) := by decide +kernel
theorem dX7_alike_18 : decode cX7_alike 18 = .ok (.invokestatic 91, 3) := by decide +kernel
theorem dX7_alike_21 : decode cX7_alike 21 = .ok (.ifCond .ne 5, 3) := by decide +kernel
theorem dX7_alike_24 : decode cX7_alike 24 = .ok (.iconst (-1), 1) := by decide +kernel
theorem dX7_alike_25 : decode cX7_alike 25 = .ok (.ireturn, 1) := by decide +kernel
theorem dX7_alike_26 : decode cX7_alike 26 = .ok (.aload_n 0, 1) := by decide +kernel
theorem dX7_alike_27 : decode cX7_alike 27 = .ok (.getfield 13, 3) := by decide +kernel
theorem dX7_alike_30 : decode cX7_alike 30 = .ok (.iload_n 1, 1) := by decide +kernel
theorem dX7_alike_31 : decode cX7_alike 31 = .ok (.iaload, 1) := by decide +kernel
theorem dX7_alike_32 : decode cX7_alike 32 = .ok (.ifCond .eq 12, 3) := by decide +kernel
theorem dX7_alike_35 : decode cX7_alike 35 = .ok (.aload_n 0, 1) := by decide +kernel
theorem dX7_alike_36 : decode cX7_alike 36 = .ok (.getfield 13, 3) := by decide +kernel
theorem dX7_alike_39 : decode cX7_alike 39 = .ok (.iload_n 2, 1) := by decide +kernel
theorem dX7_alike_40 : decode cX7_alike 40 = .ok (.iaload, 1) := by decide +kernel
theorem dX7_alike_41 : decode cX7_alike 41 = .ok (.ifCond .ne 9, 3) := by decide +kernel
theorem dX7_alike_44 : decode cX7_alike 44 = .ok (.aload_n 0, 1) := by decide +kernel
theorem dX7_alike_45 : decode cX7_alike 45 = .ok (.iconst 1, 1) := by decide +kernel
theorem dX7_alike_46 : decode cX7_alike 46 = .ok (.invokevirtual 99, 3) := by decide +kernel
theorem dX7_alike_49 : decode cX7_alike 49 = .ok (.ireturn, 1) := by decide +kernel
theorem dX7_alike_50 : decode cX7_alike 50 = .ok (.aload_n 0, 1) := by decide +kernel
theorem dX7_alike_51 : decode cX7_alike 51 = .ok (.iconst 0, 1) := by decide +kernel
theorem dX7_alike_52 : decode cX7_alike 52 = .ok (.putfield 198, 3) := by decide +kernel
theorem dX7_alike_55 : decode cX7_alike 55 = .ok (.aload_n 0, 1) := by decide +kernel
theorem dX7_alike_56 : decode cX7_alike 56 = .ok (.getfield 13, 3) := by decide +kernel
theorem dX7_alike_59 : decode cX7_alike 59 = .ok (.iload_n 1, 1) := by decide +kernel
theorem dX7_alike_60 : decode cX7_alike 60 = .ok (.iaload, 1) := by decide +kernel
theorem dX7_alike_61 : decode cX7_alike 61 = .ok (.aload_n 0, 1) := by decide +kernel
theorem dX7_alike_62 : decode cX7_alike 62 = .ok (.getfield 13, 3) := by decide +kernel
theorem dX7_alike_65 : decode cX7_alike 65 = .ok (.iload_n 2, 1) := by decide +kernel
theorem dX7_alike_66 : decode cX7_alike 66 = .ok (.iaload, 1) := by decide +kernel
theorem dX7_alike_67 : decode cX7_alike 67 = .ok (.if_icmp .ne 18, 3) := by decide +kernel
theorem dX7_alike_70 : decode cX7_alike 70 = .ok (.aload_n 0, 1) := by decide +kernel
theorem dX7_alike_71 : decode cX7_alike 71 = .ok (.getfield 16, 3) := by decide +kernel
theorem dX7_alike_74 : decode cX7_alike 74 = .ok (.iload_n 1, 1) := by decide +kernel
theorem dX7_alike_75 : decode cX7_alike 75 = .ok (.iaload, 1) := by decide +kernel
theorem dX7_alike_76 : decode cX7_alike 76 = .ok (.aload_n 0, 1) := by decide +kernel
theorem dX7_alike_77 : decode cX7_alike 77 = .ok (.getfield 16, 3) := by decide +kernel
theorem dX7_alike_80 : decode cX7_alike 80 = .ok (.iload_n 2, 1) := by decide +kernel
theorem dX7_alike_81 : decode cX7_alike 81 = .ok (.iaload, 1) := by decide +kernel
theorem dX7_alike_82 : decode cX7_alike 82 = .ok (.if_icmp .eq 5, 3) := by decide +kernel
theorem dX7_alike_85 : decode cX7_alike 85 = .ok (.iconst 0, 1) := by decide +kernel
theorem dX7_alike_86 : decode cX7_alike 86 = .ok (.ireturn, 1) := by decide +kernel
theorem dX7_alike_87 : decode cX7_alike 87 = .ok (.aload_n 0, 1) := by decide +kernel
theorem dX7_alike_88 : decode cX7_alike 88 = .ok (.getfield 13, 3) := by decide +kernel
theorem dX7_alike_91 : decode cX7_alike 91 = .ok (.iload_n 1, 1) := by decide +kernel
theorem dX7_alike_92 : decode cX7_alike 92 = .ok (.iaload, 1) := by decide +kernel
theorem dX7_alike_93 : decode cX7_alike 93 = .ok (.istore 4, 2) := by decide +kernel
theorem dX7_alike_95 : decode cX7_alike 95 = .ok (.iconst 0, 1) := by decide +kernel
theorem dX7_alike_96 : decode cX7_alike 96 = .ok (.istore 5, 2) := by decide +kernel
theorem dX7_alike_98 : decode cX7_alike 98 = .ok (.iload 5, 2) := by decide +kernel
theorem dX7_alike_100 : decode cX7_alike 100 = .ok (.iload 4, 2) := by decide +kernel
theorem dX7_alike_102 : decode cX7_alike 102 = .ok (.if_icmp .ge 71, 3) := by decide +kernel
theorem dX7_alike_105 : decode cX7_alike 105 = .ok (.aload_n 0, 1) := by decide +kernel
theorem dX7_alike_106 : decode cX7_alike 106 = .ok (.getfield 62, 3) := by decide +kernel
theorem dX7_alike_109 : decode cX7_alike 109 = .ok (.iload 5, 2) := by decide +kernel
theorem dX7_alike_111 : decode cX7_alike 111 = .ok (.aload_n 0, 1) := by decide +kernel
theorem dX7_alike_112 : decode cX7_alike 112 = .ok (.iload_n 1, 1) := by decide +kernel
theorem dX7_alike_113 : decode cX7_alike 113 = .ok (.iload 5, 2) := by decide +kernel
theorem dX7_alike_115 : decode cX7_alike 115 = .ok (.invokevirtual 148, 3) := by decide +kernel
theorem dX7_alike_118 : decode cX7_alike 118 = .ok (.lastore, 1) := by decide +kernel
theorem dX7_alike_119 : decode cX7_alike 119 = .ok (.aload_n 0, 1) := by decide +kernel
theorem dX7_alike_120 : decode cX7_alike 120 = .ok (.getfield 65, 3) := by decide +kernel
theorem dX7_alike_123 : decode cX7_alike 123 = .ok (.iload 5, 2) := by decide +kernel
theorem dX7_alike_125 : decode cX7_alike 125 = .ok (.aload_n 0, 1) := by decide +kernel
theorem dX7_alike_126 : decode cX7_alike 126 = .ok (.iload_n 2, 1) := by decide +kernel
theorem dX7_alike_127 : decode cX7_alike 127 = .ok (.iload 5, 2) := by decide +kernel
theorem dX7_alike_129 : decode cX7_alike 129 = .ok (.invokevirtual 148, 3) := by decide +kernel
theorem dX7_alike_132 : decode cX7_alike 132 = .ok (.lastore, 1) := by decide +kernel
theorem dX7_alike_133 : decode cX7_alike 133 = .ok (.aload_n 0, 1) := by decide +kernel
theorem dX7_alike_134 : decode cX7_alike 134 = .ok (.getfield 68, 3) := by decide +kernel
theorem dX7_alike_137 : decode cX7_alike 137 = .ok (.iload 5, 2) := by decide +kernel
theorem dX7_alike_139 : decode cX7_alike 139 = .ok (.aload_n 0, 1) := by decide +kernel
theorem dX7_alike_140 : decode cX7_alike 140 = .ok (.iload_n 1, 1) := by decide +kernel
theorem dX7_alike_141 : decode cX7_alike 141 = .ok (.iload 5, 2) := by decide +kernel
theorem dX7_alike_143 : decode cX7_alike 143 = .ok (.invokevirtual 140, 3) := by decide +kernel
theorem dX7_alike_146 : decode cX7_alike 146 = .ok (.invokestatic 116, 3) := by decide +kernel
theorem dX7_alike_149 : decode cX7_alike 149 = .ok (.iastore, 1) := by decide +kernel
theorem dX7_alike_150 : decode cX7_alike 150 = .ok (.aload_n 0, 1) := by decide +kernel
theorem dX7_alike_151 : decode cX7_alike 151 = .ok (.getfield 71, 3) := by decide +kernel
theorem dX7_alike_154 : decode cX7_alike 154 = .ok (.iload 5, 2) := by decide +kernel
theorem dX7_alike_156 : decode cX7_alike 156 = .ok (.aload_n 0, 1) := by decide +kernel
theorem dX7_alike_157 : decode cX7_alike 157 = .ok (.iload_n 2, 1) := by decide +kernel
theorem dX7_alike_158 : decode cX7_alike 158 = .ok (.iload 5, 2) := by decide +kernel
theorem dX7_alike_160 : decode cX7_alike 160 = .ok (.invokevirtual 140, 3) := by decide +kernel
theorem dX7_alike_163 : decode cX7_alike 163 = .ok (.invokestatic 116, 3) := by decide +kernel
theorem dX7_alike_166 : decode cX7_alike 166 = .ok (.iastore, 1) := by decide +kernel
theorem dX7_alike_167 : decode cX7_alike 167 = .ok (.iinc 5 1, 3) := by decide +kernel
theorem dX7_alike_170 : decode cX7_alike 170 = .ok (.goto (-72), 3) := by decide +kernel
theorem dX7_alike_173 : decode cX7_alike 173 = .ok (.iconst 0, 1) := by decide +kernel
theorem dX7_alike_174 : decode cX7_alike 174 = .ok (.istore 5, 2) := by decide +kernel
theorem dX7_alike_176 : decode cX7_alike 176 = .ok (.aload_n 0, 1) := by decide +kernel
theorem dX7_alike_177 : decode cX7_alike 177 = .ok (.getfield 59, 3) := by decide +kernel
theorem dX7_alike_180 : decode cX7_alike 180 = .ok (.iconst 0, 1) := by decide +kernel
theorem dX7_alike_181 : decode cX7_alike 181 = .ok (.iconst (-1), 1) := by decide +kernel
theorem dX7_alike_182 : decode cX7_alike 182 = .ok (.iastore, 1) := by decide +kernel
theorem dX7_alike_183 : decode cX7_alike 183 = .ok (.iload 5, 2) := by decide +kernel
theorem dX7_alike_185 : decode cX7_alike 185 = .ok (.ifCond .lt 161, 3) := by decide +kernel
theorem dX7_alike_188 : decode cX7_alike 188 = .ok (.iload 5, 2) := by decide +kernel
theorem dX7_alike_190 : decode cX7_alike 190 = .ok (.iload 4, 2) := by decide +kernel
theorem dX7_alike_192 : decode cX7_alike 192 = .ok (.if_icmp .ne 62, 3) := by decide +kernel
theorem dX7_alike_195 : decode cX7_alike 195 = .ok (.aload_n 0, 1) := by decide +kernel
theorem dX7_alike_196 : decode cX7_alike 196 = .ok (.iload_n 1, 1) := by decide +kernel
theorem dX7_alike_197 : decode cX7_alike 197 = .ok (.iload_n 2, 1) := by decide +kernel
theorem dX7_alike_198 : decode cX7_alike 198 = .ok (.invokevirtual 222, 3) := by decide +kernel
theorem dX7_alike_201 : decode cX7_alike 201 = .ok (.ifCond .eq 47, 3) := by decide +kernel
theorem dX7_alike_204 : decode cX7_alike 204 = .ok (.iconst 0, 1) := by decide +kernel
theorem dX7_alike_205 : decode cX7_alike 205 = .ok (.istore 6, 2) := by decide +kernel
theorem dX7_alike_207 : decode cX7_alike 207 = .ok (.iload 6, 2) := by decide +kernel
theorem dX7_alike_209 : decode cX7_alike 209 = .ok (.bipush 45, 2) := by decide +kernel
theorem dX7_alike_211 : decode cX7_alike 211 = .ok (.if_icmp .ge 35, 3) := by decide +kernel
theorem dX7_alike_214 : decode cX7_alike 214 = .ok (.aload_n 0, 1) := by decide +kernel
theorem dX7_alike_215 : decode cX7_alike 215 = .ok (.getfield 56, 3) := by decide +kernel
theorem dX7_alike_218 : decode cX7_alike 218 = .ok (.iload 6, 2) := by decide +kernel
theorem dX7_alike_220 : decode cX7_alike 220 = .ok (.iload 6, 2) := by decide +kernel
theorem dX7_alike_222 : decode cX7_alike 222 = .ok (.iload 4, 2) := by decide +kernel
theorem dX7_alike_224 : decode cX7_alike 224 = .ok (.if_icmp .ge 13, 3) := by decide +kernel
theorem dX7_alike_227 : decode cX7_alike 227 = .ok (.aload_n 0, 1) := by decide +kernel
theorem dX7_alike_228 : decode cX7_alike 228 = .ok (.getfield 59, 3) := by decide +kernel
theorem dX7_alike_231 : decode cX7_alike 231 = .ok (.iload 6, 2) := by decide +kernel
theorem dX7_alike_233 : decode cX7_alike 233 = .ok (.iaload, 1) := by decide +kernel
theorem dX7_alike_234 : decode cX7_alike 234 = .ok (.goto 5, 3) := by decide +kernel
theorem dX7_alike_237 : decode cX7_alike 237 = .ok (.bipush (-9), 2) := by decide +kernel
theorem dX7_alike_239 : decode cX7_alike 239 = .ok (.iastore, 1) := by decide +kernel
theorem dX7_alike_240 : decode cX7_alike 240 = .ok (.iinc 6 1, 3) := by decide +kernel
theorem dX7_alike_243 : decode cX7_alike 243 = .ok (.goto (-36), 3) := by decide +kernel
theorem dX7_alike_246 : decode cX7_alike 246 = .ok (.iconst 1, 1) := by decide +kernel
theorem dX7_alike_247 : decode cX7_alike 247 = .ok (.ireturn, 1) := by decide +kernel
theorem dX7_alike_248 : decode cX7_alike 248 = .ok (.iinc 5 (-1), 3) := by decide +kernel
theorem dX7_alike_251 : decode cX7_alike 251 = .ok (.goto (-68), 3) := by decide +kernel
theorem dX7_alike_254 : decode cX7_alike 254 = .ok (.aload_n 0, 1) := by decide +kernel
theorem dX7_alike_255 : decode cX7_alike 255 = .ok (.getfield 59, 3) := by decide +kernel
theorem dX7_alike_258 : decode cX7_alike 258 = .ok (.iload 5, 2) := by decide +kernel
theorem dX7_alike_260 : decode cX7_alike 260 = .ok (.iaload, 1) := by decide +kernel
theorem dX7_alike_261 : decode cX7_alike 261 = .ok (.iconst 1, 1) := by decide +kernel
theorem dX7_alike_262 : decode cX7_alike 262 = .ok (.iadd, 1) := by decide +kernel
theorem dX7_alike_263 : decode cX7_alike 263 = .ok (.istore 6, 2) := by decide +kernel
theorem dX7_alike_265 : decode cX7_alike 265 = .ok (.iload 6, 2) := by decide +kernel
theorem dX7_alike_267 : decode cX7_alike 267 = .ok (.iload 4, 2) := by decide +kernel
theorem dX7_alike_269 : decode cX7_alike 269 = .ok (.if_icmp .ge 20, 3) := by decide +kernel
theorem dX7_alike_272 : decode cX7_alike 272 = .ok (.aload_n 0, 1) := by decide +kernel
theorem dX7_alike_273 : decode cX7_alike 273 = .ok (.iload 5, 2) := by decide +kernel
theorem dX7_alike_275 : decode cX7_alike 275 = .ok (.iload 6, 2) := by decide +kernel
theorem dX7_alike_277 : decode cX7_alike 277 = .ok (.invokevirtual 225, 3) := by decide +kernel
theorem dX7_alike_280 : decode cX7_alike 280 = .ok (.ifCond .ne 9, 3) := by decide +kernel
theorem dX7_alike_283 : decode cX7_alike 283 = .ok (.iinc 6 1, 3) := by decide +kernel
theorem dX7_alike_286 : decode cX7_alike 286 = .ok (.goto (-21), 3) := by decide +kernel
theorem dX7_alike_289 : decode cX7_alike 289 = .ok (.iload 6, 2) := by decide +kernel
theorem dX7_alike_291 : decode cX7_alike 291 = .ok (.iload 4, 2) := by decide +kernel
theorem dX7_alike_293 : decode cX7_alike 293 = .ok (.if_icmp .ne 9, 3) := by decide +kernel
theorem dX7_alike_296 : decode cX7_alike 296 = .ok (.iinc 5 (-1), 3) := by decide +kernel
theorem dX7_alike_299 : decode cX7_alike 299 = .ok (.goto (-116), 3) := by decide +kernel
theorem dX7_alike_302 : decode cX7_alike 302 = .ok (.aload_n 0, 1) := by decide +kernel
theorem dX7_alike_303 : decode cX7_alike 303 = .ok (.getfield 198, 3) := by decide +kernel
theorem dX7_alike_306 : decode cX7_alike 306 = .ok (.iload_n 3, 1) := by decide +kernel
theorem dX7_alike_307 : decode cX7_alike 307 = .ok (.if_icmp .ne 6, 3) := by decide +kernel
theorem dX7_alike_310 : decode cX7_alike 310 = .ok (.bipush (-6), 2) := by decide +kernel
theorem dX7_alike_312 : decode cX7_alike 312 = .ok (.ireturn, 1) := by decide +kernel
theorem dX7_alike_313 : decode cX7_alike 313 = .ok (.aload_n 0, 1) := by decide +kernel
theorem dX7_alike_314 : decode cX7_alike 314 = .ok (.dup, 1) := by decide +kernel
theorem dX7_alike_315 : decode cX7_alike 315 = .ok (.getfield 198, 3) := by decide +kernel
theorem dX7_alike_318 : decode cX7_alike 318 = .ok (.iconst 1, 1) := by decide +kernel
theorem dX7_alike_319 : decode cX7_alike 319 = .ok (.iadd, 1) := by decide +kernel
theorem dX7_alike_320 : decode cX7_alike 320 = .ok (.putfield 198, 3) := by decide +kernel
theorem dX7_alike_323 : decode cX7_alike 323 = .ok (.aload_n 0, 1) := by decide +kernel
theorem dX7_alike_324 : decode cX7_alike 324 = .ok (.getfield 59, 3) := by decide +kernel
theorem dX7_alike_327 : decode cX7_alike 327 = .ok (.iload 5, 2) := by decide +kernel
theorem dX7_alike_329 : decode cX7_alike 329 = .ok (.iload 6, 2) := by decide +kernel
theorem dX7_alike_331 : decode cX7_alike 331 = .ok (.iastore, 1) := by decide +kernel
theorem dX7_alike_332 : decode cX7_alike 332 = .ok (.iinc 5 1, 3) := by decide +kernel
theorem dX7_alike_335 : decode cX7_alike 335 = .ok (.aload_n 0, 1) := by decide +kernel
theorem dX7_alike_336 : decode cX7_alike 336 = .ok (.getfield 59, 3) := by decide +kernel
theorem dX7_alike_339 : decode cX7_alike 339 = .ok (.iload 5, 2) := by decide +kernel
theorem dX7_alike_341 : decode cX7_alike 341 = .ok (.iconst (-1), 1) := by decide +kernel
theorem dX7_alike_342 : decode cX7_alike 342 = .ok (.iastore, 1) := by decide +kernel
theorem dX7_alike_343 : decode cX7_alike 343 = .ok (.goto (-160), 3) := by decide +kernel
theorem dX7_alike_346 : decode cX7_alike 346 = .ok (.iconst 0, 1) := by decide +kernel
theorem dX7_alike_347 : decode cX7_alike 347 = .ok (.ireturn, 1) := by decide +kernel
set_option maxRecDepth 20000 in
theorem ggX7_sent_X7_in : GoodIn wsX7_sent wsX7_in := goodIn_r _ [5] (by decide +kernel) (by decide +kernel)
set_option maxRecDepth 20000 in
theorem gX7_sent_X7_in : GoodIn wsX7_sent (va_wsS RX7 91 yX7_in wsX7_in) := goodIn_app (goodIn_of _ (by decide +kernel)) ggX7_sent_X7_in
theorem dX7_sent_0 : decode cX7_sent 0 = .ok (.iload_n 1, 1) := by decide +kernel
theorem dX7_sent_1 : decode cX7_sent 1 = .ok (.iconst 0, 1) := by decide +kernel
theorem dX7_sent_2 : decode cX7_sent 2 = .ok (.bipush 44, 2) := by decide +kernel
theorem dX7_sent_4 : decode cX7_sent 4 = .ok (.invokestatic 91, 3) := by decide +kernel
theorem dX7_sent_7 : decode cX7_sent 7 = .ok (.ifCond .eq 12, 3) := by decide +kernel
theorem dX7_sent_10 : decode cX7_sent 10 = .ok (.aload_n 0, 1) := by decide +kernel
theorem dX7_sent_11 : decode cX7_sent 11 = .ok (.getfield 56, 3) := by decide +kernel
theorem dX7_sent_14 : decode cX7_sent 14 = .ok (.iload_n 1, 1) := by decide +kernel
theorem dX7_sent_15 : decode cX7_sent 15 = .ok (.iaload, 1) := by decide +kernel
theorem dX7_sent_16 : decode cX7_sent 16 = .ok (.goto 5, 3) := by decide +kernel
theorem dX7_sent_19 : decode cX7_sent 19 = .ok (.bipush (-9), 2) := by decide +kernel
theorem dX7_sent_21 : decode cX7_sent 21 = .ok (.ireturn, 1) := by decide +kernel
set_option maxRecDepth 20000 in
theorem ggX7_far_X7_looked : GoodIn wsX7_far wsX7_looked := goodIn_r _ [6, 1, 7, 8, 5, 9, 10, 11, 12, 13, 14, 15, 16, 17, 18, 32, 33, 34, 35, 36, 37, 38, 39, 40, 41, 42, 43, 44, 45, 46, 47, 48, 49, 50, 51, 52, 53, 54, 55, 56, 57, 58, 59, 60, 61, 62, 63, 64] (by decide +kernel) (by decide +kernel)
set_option maxRecDepth 20000 in
theorem gX7_far_X7_looked : GoodIn wsX7_far (wsV RX7 137 RX7 yX7_looked wsX7_looked) := goodIn_app (goodIn_of _ (by decide +kernel)) ggX7_far_X7_looked
set_option maxRecDepth 20000 in
theorem ggX7_far_X7_isPoint : GoodIn wsX7_far wsX7_isPoint := goodIn_r _ [22, 1, 10, 11, 5, 12, 32, 33, 34, 35, 36, 37, 38, 39, 40, 41, 42, 43, 44, 45, 46, 47, 48, 49, 50, 51, 52, 53, 54, 55, 56, 57, 58, 59, 60, 61, 62, 63, 64] (by decide +kernel) (by decide +kernel)
set_option maxRecDepth 20000 in
theorem gX7_far_X7_isPoint : GoodIn wsX7_far (wsV RX7 163 RX7 yX7_isPoint wsX7_isPoint) := goodIn_app (goodIn_of _ (by decide +kernel)) ggX7_far_X7_isPoint
set_option maxRecDepth 20000 in
theorem ggX7_far_X7_meets : GoodIn wsX7_far wsX7_meets := goodIn_r _ [16, 17, 18, 32, 33, 34, 35, 36, 37, 38, 39, 40, 41, 42, 43, 44, 45, 46, 47, 48, 49, 50, 51, 52, 53, 54, 55, 56, 57, 58, 59, 60, 61, 62, 63, 64] (by decide +kernel) (by decide +kernel)
set_option maxRecDepth 20000 in
theorem gX7_far_X7_meets : GoodIn wsX7_far (wsV RX7 99 RX7 yX7_meets wsX7_meets) := goodIn_app (goodIn_of _ (by decide +kernel)) ggX7_far_X7_meets
set_option maxRecDepth 20000 in
theorem ggX7_far_X7_has : GoodIn wsX7_far wsX7_has := goodIn_r _ [25] (by decide +kernel) (by decide +kernel)
set_option maxRecDepth 20000 in
theorem gX7_far_X7_has : GoodIn wsX7_far (va_wsS RX7 133 yX7_has wsX7_has) := goodIn_app (goodIn_of _ (by decide +kernel)) ggX7_far_X7_has
set_option maxRecDepth 20000 in
theorem ggX7_far_X7_nearTo : GoodIn wsX7_far wsX7_nearTo := goodIn_r _ [29, 30, 31, 23, 24, 5, 25, 32, 33, 34, 35, 36, 37, 38, 39, 40, 41, 42, 43, 44, 45, 46, 47, 48, 49, 50, 51, 52, 53, 54, 55, 56, 57, 58, 59, 60, 61, 62, 63, 64] (by decide +kernel) (by decide +kernel)
set_option maxRecDepth 20000 in
theorem gX7_far_X7_nearTo : GoodIn wsX7_far (wsV RX7 148 RX7 yX7_nearTo wsX7_nearTo) := goodIn_app (goodIn_of _ (by decide +kernel)) ggX7_far_X7_nearTo
theorem dX7_far_0 : decode cX7_far 0 = .ok (.aload_n 0, 1) := by decide +kernel
theorem dX7_far_1 : decode cX7_far 1 = .ok (.iload_n 1, 1) := by decide +kernel
theorem dX7_far_2 : decode cX7_far 2 = .ok (.invokevirtual 137, 3) := by decide +kernel
theorem dX7_far_5 : decode cX7_far 5 = .ok (.istore 4, 2) := by decide +kernel
theorem dX7_far_7 : decode cX7_far 7 = .ok (.iload 4, 2) := by decide +kernel
theorem dX7_far_9 : decode cX7_far 9 = .ok (.ifCond .ge 6, 3) := by decide +kernel
theorem dX7_far_12 : decode cX7_far 12 = .ok (.iload 4, 2) := by decide +kernel
theorem dX7_far_14 : decode cX7_far 14 = .ok (.ireturn, 1) := by decide +kernel
theorem dX7_far_15 : decode cX7_far 15 = .ok (.aload_n 0, 1) := by decide +kernel
theorem dX7_far_16 : decode cX7_far 16 = .ok (.iload_n 1, 1) := by decide +kernel
theorem dX7_far_17 : decode cX7_far 17 = .ok (.iload_n 2, 1) := by decide +kernel
theorem dX7_far_18 : decode cX7_far 18 = .ok (.invokevirtual 163, 3) := by decide +kernel
theorem dX7_far_21 : decode cX7_far 21 = .ok (.ifCond .eq 12, 3) := by decide +kernel
theorem dX7_far_24 : decode cX7_far 24 = .ok (.aload_n 0, 1) := by decide +kernel
theorem dX7_far_25 : decode cX7_far 25 = .ok (.iload_n 1, 1) := by decide +kernel
theorem dX7_far_26 : decode cX7_far 26 = .ok (.iload_n 3, 1) := by decide +kernel
theorem dX7_far_27 : decode cX7_far 27 = .ok (.invokevirtual 163, 3) := by decide +kernel
theorem dX7_far_30 : decode cX7_far 30 = .ok (.ifCond .ne 9, 3) := by decide +kernel
theorem dX7_far_33 : decode cX7_far 33 = .ok (.aload_n 0, 1) := by decide +kernel
theorem dX7_far_34 : decode cX7_far 34 = .ok (.iconst 2, 1) := by decide +kernel
theorem dX7_far_35 : decode cX7_far 35 = .ok (.invokevirtual 99, 3) := by decide +kernel
theorem dX7_far_38 : decode cX7_far 38 = .ok (.ireturn, 1) := by decide +kernel
theorem dX7_far_39 : decode cX7_far 39 = .ok (.lconst 1, 1) := by decide +kernel
theorem dX7_far_40 : decode cX7_far 40 = .ok (.iload_n 2, 1) := by decide +kernel
theorem dX7_far_41 : decode cX7_far 41 = .ok (.lshl, 1) := by decide +kernel
theorem dX7_far_42 : decode cX7_far 42 = .ok (.lstore 5, 2) := by decide +kernel
theorem dX7_far_44 : decode cX7_far 44 = .ok (.iconst 0, 1) := by decide +kernel
theorem dX7_far_45 : decode cX7_far 45 = .ok (.istore 7, 2) := by decide +kernel
theorem dX7_far_47 : decode cX7_far 47 = .ok (.iload 7, 2) := by decide +kernel
theorem dX7_far_49 : decode cX7_far 49 = .ok (.aload_n 0, 1) := by decide +kernel
theorem dX7_far_50 : decode cX7_far 50 = .ok (.getfield 13, 3) := by decide +kernel
theorem dX7_far_53 : decode cX7_far 53 = .ok (.iload_n 1, 1) := by decide +kernel
theorem dX7_far_54 : decode cX7_far 54 = .ok (.iaload, 1) := by decide +kernel
theorem dX7_far_55 : decode cX7_far 55 = .ok (.if_icmp .gt 75, 3) := by decide +kernel
theorem dX7_far_58 : decode cX7_far 58 = .ok (.lload 5, 2) := by decide +kernel
theorem dX7_far_60 : decode cX7_far 60 = .ok (.iload_n 3, 1) := by decide +kernel
theorem dX7_far_61 : decode cX7_far 61 = .ok (.invokestatic 133, 3) := by decide +kernel
theorem dX7_far_64 : decode cX7_far 64 = .ok (.ifCond .eq 6, 3) := by decide +kernel
theorem dX7_far_67 : decode cX7_far 67 = .ok (.iload 7, 2) := by decide +kernel
theorem dX7_far_69 : decode cX7_far 69 = .ok (.ireturn, 1) := by decide +kernel
theorem dX7_far_70 : decode cX7_far 70 = .ok (.lload 5, 2) := by decide +kernel
theorem dX7_far_72 : decode cX7_far 72 = .ok (.lstore 8, 2) := by decide +kernel
theorem dX7_far_74 : decode cX7_far 74 = .ok (.iconst 0, 1) := by decide +kernel
theorem dX7_far_75 : decode cX7_far 75 = .ok (.istore 10, 2) := by decide +kernel
theorem dX7_far_77 : decode cX7_far 77 = .ok (.iload 10, 2) := by decide +kernel
theorem dX7_far_79 : decode cX7_far 79 = .ok (.aload_n 0, 1) := by decide +kernel
theorem dX7_far_80 : decode cX7_far 80 = .ok (.getfield 13, 3) := by decide +kernel
theorem dX7_far_83 : decode cX7_far 83 = .ok (.iload_n 1, 1) := by decide +kernel
theorem dX7_far_84 : decode cX7_far 84 = .ok (.iaload, 1) := by decide +kernel
theorem dX7_far_85 : decode cX7_far 85 = .ok (.if_icmp .ge 35, 3) := by decide +kernel
theorem dX7_far_88 : decode cX7_far 88 = .ok (.lload 8, 2) := by decide +kernel
theorem dX7_far_90 : decode cX7_far 90 = .ok (.lload 5, 2) := by decide +kernel
theorem dX7_far_92 : decode cX7_far 92 = .ok (.iload 10, 2) := by decide +kernel
theorem dX7_far_94 : decode cX7_far 94 = .ok (.invokestatic 133, 3) := by decide +kernel
theorem dX7_far_97 : decode cX7_far 97 = .ok (.ifCond .eq 13, 3) := by decide +kernel
theorem dX7_far_100 : decode cX7_far 100 = .ok (.aload_n 0, 1) := by decide +kernel
theorem dX7_far_101 : decode cX7_far 101 = .ok (.iload_n 1, 1) := by decide +kernel
theorem dX7_far_102 : decode cX7_far 102 = .ok (.iload 10, 2) := by decide +kernel
theorem dX7_far_104 : decode cX7_far 104 = .ok (.invokevirtual 148, 3) := by decide +kernel
theorem dX7_far_107 : decode cX7_far 107 = .ok (.goto 4, 3) := by decide +kernel
theorem dX7_far_110 : decode cX7_far 110 = .ok (.lconst 0, 1) := by decide +kernel
theorem dX7_far_111 : decode cX7_far 111 = .ok (.lor, 1) := by decide +kernel
theorem dX7_far_112 : decode cX7_far 112 = .ok (.lstore 8, 2) := by decide +kernel
theorem dX7_far_114 : decode cX7_far 114 = .ok (.iinc 10 1, 3) := by decide +kernel
theorem dX7_far_117 : decode cX7_far 117 = .ok (.goto (-40), 3) := by decide +kernel
theorem dX7_far_120 : decode cX7_far 120 = .ok (.lload 8, 2) := by decide +kernel
theorem dX7_far_122 : decode cX7_far 122 = .ok (.lstore 5, 2) := by decide +kernel
theorem dX7_far_124 : decode cX7_far 124 = .ok (.iinc 7 1, 3) := by decide +kernel
theorem dX7_far_127 : decode cX7_far 127 = .ok (.goto (-80), 3) := by decide +kernel
theorem dX7_far_130 : decode cX7_far 130 = .ok (.bipush (-9), 2) := by decide +kernel
theorem dX7_far_132 : decode cX7_far 132 = .ok (.ireturn, 1) := by decide +kernel
set_option maxRecDepth 20000 in
theorem ggX7_isRow_X7_in : GoodIn wsX7_isRow wsX7_in := goodIn_r _ [4] (by decide +kernel) (by decide +kernel)
set_option maxRecDepth 20000 in
theorem gX7_isRow_X7_in : GoodIn wsX7_isRow (va_wsS RX7 91 yX7_in wsX7_in) := goodIn_app (goodIn_of _ (by decide +kernel)) ggX7_isRow_X7_in
theorem dX7_isRow_0 : decode cX7_isRow 0 = .ok (.iload_n 0, 1) := by decide +kernel
theorem dX7_isRow_1 : decode cX7_isRow 1 = .ok (.iconst 0, 1) := by decide +kernel
theorem dX7_isRow_2 : decode cX7_isRow 2 = .ok (.iconst 3, 1) := by decide +kernel
theorem dX7_isRow_3 : decode cX7_isRow 3 = .ok (.invokestatic 91, 3) := by decide +kernel
theorem dX7_isRow_6 : decode cX7_isRow 6 = .ok (.ireturn, 1) := by decide +kernel
set_option maxRecDepth 20000 in
theorem ggX7_askedRow_X7_isRow : GoodIn wsX7_askedRow wsX7_isRow := goodIn_r _ [5, 6, 7, 4, 8] (by decide +kernel) (by decide +kernel)
set_option maxRecDepth 20000 in
theorem gX7_askedRow_X7_isRow : GoodIn wsX7_askedRow (va_wsS RX7 113 yX7_isRow wsX7_isRow) := goodIn_app (goodIn_of _ (by decide +kernel)) ggX7_askedRow_X7_isRow
set_option maxRecDepth 20000 in
theorem ggX7_askedRow_X7_meets : GoodIn wsX7_askedRow wsX7_meets := goodIn_r _ [12, 13, 14, 15, 16, 17, 18, 19, 20, 21, 22, 23, 24, 25, 26, 27, 28, 29, 30, 31, 32, 33, 34, 35, 36, 37, 38, 39, 40, 41, 42, 43, 44, 45, 46, 47] (by decide +kernel) (by decide +kernel)
set_option maxRecDepth 20000 in
theorem gX7_askedRow_X7_meets : GoodIn wsX7_askedRow (wsV RX7 99 RX7 yX7_meets wsX7_meets) := goodIn_app (goodIn_of _ (by decide +kernel)) ggX7_askedRow_X7_meets
theorem dX7_askedRow_0 : decode cX7_askedRow 0 = .ok (.iload_n 1, 1) := by decide +kernel
theorem dX7_askedRow_1 : decode cX7_askedRow 1 = .ok (.invokestatic 113, 3) := by decide +kernel
theorem dX7_askedRow_4 : decode cX7_askedRow 4 = .ok (.ifCond .ne 7, 3) := by decide +kernel
theorem dX7_askedRow_7 : decode cX7_askedRow 7 = .ok (.iconst (-1), 1) := by decide +kernel
theorem dX7_askedRow_8 : decode cX7_askedRow 8 = .ok (.goto 21, 3) := by decide +kernel
theorem dX7_askedRow_11 : decode cX7_askedRow 11 = .ok (.aload_n 0, 1) := by decide +kernel
theorem dX7_askedRow_12 : decode cX7_askedRow 12 = .ok (.getfield 74, 3) := by decide +kernel
theorem dX7_askedRow_15 : decode cX7_askedRow 15 = .ok (.iload_n 1, 1) := by decide +kernel
theorem dX7_askedRow_16 : decode cX7_askedRow 16 = .ok (.iaload, 1) := by decide +kernel
theorem dX7_askedRow_17 : decode cX7_askedRow 17 = .ok (.ifCond .ge 11, 3) := by decide +kernel
theorem dX7_askedRow_20 : decode cX7_askedRow 20 = .ok (.aload_n 0, 1) := by decide +kernel
theorem dX7_askedRow_21 : decode cX7_askedRow 21 = .ok (.iconst 1, 1) := by decide +kernel
theorem dX7_askedRow_22 : decode cX7_askedRow 22 = .ok (.invokevirtual 99, 3) := by decide +kernel
theorem dX7_askedRow_25 : decode cX7_askedRow 25 = .ok (.goto 4, 3) := by decide +kernel
theorem dX7_askedRow_28 : decode cX7_askedRow 28 = .ok (.iconst 0, 1) := by decide +kernel
theorem dX7_askedRow_29 : decode cX7_askedRow 29 = .ok (.ireturn, 1) := by decide +kernel
set_option maxRecDepth 20000 in
theorem ggX7_row_X7_isRow : GoodIn wsX7_row wsX7_isRow := goodIn_r _ [6, 7, 8, 5, 9] (by decide +kernel) (by decide +kernel)
set_option maxRecDepth 20000 in
theorem gX7_row_X7_isRow : GoodIn wsX7_row (va_wsS RX7 113 yX7_isRow wsX7_isRow) := goodIn_app (goodIn_of _ (by decide +kernel)) ggX7_row_X7_isRow
set_option maxRecDepth 20000 in
theorem ggX7_row_X7_meets : GoodIn wsX7_row wsX7_meets := goodIn_r _ [13, 14, 15, 16, 17, 18, 19, 20, 21, 22, 23, 24, 25, 26, 27, 28, 29, 30, 31, 32, 33, 34, 35, 36, 37, 38, 39, 40, 41, 42, 43, 44, 45, 46, 47, 48] (by decide +kernel) (by decide +kernel)
set_option maxRecDepth 20000 in
theorem gX7_row_X7_meets : GoodIn wsX7_row (wsV RX7 99 RX7 yX7_meets wsX7_meets) := goodIn_app (goodIn_of _ (by decide +kernel)) ggX7_row_X7_meets
theorem dX7_row_0 : decode cX7_row 0 = .ok (.iload_n 1, 1) := by decide +kernel
theorem dX7_row_1 : decode cX7_row 1 = .ok (.invokestatic 113, 3) := by decide +kernel
theorem dX7_row_4 : decode cX7_row 4 = .ok (.ifCond .eq 9, 3) := by decide +kernel
theorem dX7_row_7 : decode cX7_row 7 = .ok (.iload_n 2, 1) := by decide +kernel
theorem dX7_row_8 : decode cX7_row 8 = .ok (.bipush 12, 2) := by decide +kernel
theorem dX7_row_10 : decode cX7_row 10 = .ok (.if_icmp .le 5, 3) := by decide +kernel
theorem dX7_row_13 : decode cX7_row 13 = .ok (.iconst (-1), 1) := by decide +kernel
theorem dX7_row_14 : decode cX7_row 14 = .ok (.ireturn, 1) := by decide +kernel
theorem dX7_row_15 : decode cX7_row 15 = .ok (.iload_n 2, 1) := by decide +kernel
theorem dX7_row_16 : decode cX7_row 16 = .ok (.ifCond .ge 9, 3) := by decide +kernel
theorem dX7_row_19 : decode cX7_row 19 = .ok (.aload_n 0, 1) := by decide +kernel
theorem dX7_row_20 : decode cX7_row 20 = .ok (.iconst 5, 1) := by decide +kernel
theorem dX7_row_21 : decode cX7_row 21 = .ok (.invokevirtual 99, 3) := by decide +kernel
theorem dX7_row_24 : decode cX7_row 24 = .ok (.ireturn, 1) := by decide +kernel
theorem dX7_row_25 : decode cX7_row 25 = .ok (.aload_n 0, 1) := by decide +kernel
theorem dX7_row_26 : decode cX7_row 26 = .ok (.getfield 74, 3) := by decide +kernel
theorem dX7_row_29 : decode cX7_row 29 = .ok (.iload_n 1, 1) := by decide +kernel
theorem dX7_row_30 : decode cX7_row 30 = .ok (.iload_n 2, 1) := by decide +kernel
theorem dX7_row_31 : decode cX7_row 31 = .ok (.iastore, 1) := by decide +kernel
theorem dX7_row_32 : decode cX7_row 32 = .ok (.iconst 0, 1) := by decide +kernel
theorem dX7_row_33 : decode cX7_row 33 = .ok (.istore_n 3, 1) := by decide +kernel
theorem dX7_row_34 : decode cX7_row 34 = .ok (.iload_n 3, 1) := by decide +kernel
theorem dX7_row_35 : decode cX7_row 35 = .ok (.bipush 12, 2) := by decide +kernel
theorem dX7_row_37 : decode cX7_row 37 = .ok (.if_icmp .ge 21, 3) := by decide +kernel
theorem dX7_row_40 : decode cX7_row 40 = .ok (.aload_n 0, 1) := by decide +kernel
theorem dX7_row_41 : decode cX7_row 41 = .ok (.getfield 77, 3) := by decide +kernel
theorem dX7_row_44 : decode cX7_row 44 = .ok (.bipush 12, 2) := by decide +kernel
theorem dX7_row_46 : decode cX7_row 46 = .ok (.iload_n 1, 1) := by decide +kernel
theorem dX7_row_47 : decode cX7_row 47 = .ok (.imul, 1) := by decide +kernel
theorem dX7_row_48 : decode cX7_row 48 = .ok (.iload_n 3, 1) := by decide +kernel
theorem dX7_row_49 : decode cX7_row 49 = .ok (.iadd, 1) := by decide +kernel
theorem dX7_row_50 : decode cX7_row 50 = .ok (.iconst 0, 1) := by decide +kernel
theorem dX7_row_51 : decode cX7_row 51 = .ok (.iastore, 1) := by decide +kernel
theorem dX7_row_52 : decode cX7_row 52 = .ok (.iinc 3 1, 3) := by decide +kernel
theorem dX7_row_55 : decode cX7_row 55 = .ok (.goto (-21), 3) := by decide +kernel
theorem dX7_row_58 : decode cX7_row 58 = .ok (.iload_n 2, 1) := by decide +kernel
theorem dX7_row_59 : decode cX7_row 59 = .ok (.ireturn, 1) := by decide +kernel
set_option maxRecDepth 20000 in
theorem ggX7_lay_X7_askedRow : GoodIn wsX7_lay wsX7_askedRow := goodIn_r _ [7, 1, 8, 9, 6, 10, 11, 12, 13, 14, 15, 16, 17, 18, 19, 20, 21, 22, 23, 24, 25, 26, 27, 28, 29, 30, 31, 32, 33, 34, 35, 36, 37, 38, 39, 40, 41, 42, 43, 44, 45, 46, 47, 48, 49, 50, 51, 52] (by decide +kernel) (by decide +kernel)
set_option maxRecDepth 20000 in
theorem gX7_lay_X7_askedRow : GoodIn wsX7_lay (wsV RX7 228 RX7 yX7_askedRow wsX7_askedRow) := goodIn_app (goodIn_of _ (by decide +kernel)) ggX7_lay_X7_askedRow
set_option maxRecDepth 20000 in
theorem ggX7_lay_X7_in : GoodIn wsX7_lay wsX7_in := goodIn_r _ [13] (by decide +kernel) (by decide +kernel)
set_option maxRecDepth 20000 in
theorem gX7_lay_X7_in : GoodIn wsX7_lay (va_wsS RX7 91 yX7_in wsX7_in) := goodIn_app (goodIn_of _ (by decide +kernel)) ggX7_lay_X7_in
set_option maxRecDepth 20000 in
theorem ggX7_lay_X7_meets : GoodIn wsX7_lay wsX7_meets := goodIn_r _ [17, 18, 19, 20, 21, 22, 23, 24, 25, 26, 27, 28, 29, 30, 31, 32, 33, 34, 35, 36, 37, 38, 39, 40, 41, 42, 43, 44, 45, 46, 47, 48, 49, 50, 51, 52] (by decide +kernel) (by decide +kernel)
set_option maxRecDepth 20000 in
theorem gX7_lay_X7_meets : GoodIn wsX7_lay (wsV RX7 99 RX7 yX7_meets wsX7_meets) := goodIn_app (goodIn_of _ (by decide +kernel)) ggX7_lay_X7_meets
theorem dX7_lay_0 : decode cX7_lay 0 = .ok (.aload_n 0, 1) := by decide +kernel
theorem dX7_lay_1 : decode cX7_lay 1 = .ok (.iload_n 1, 1) := by decide +kernel
theorem dX7_lay_2 : decode cX7_lay 2 = .ok (.invokevirtual 228, 3) := by decide +kernel
theorem dX7_lay_5 : decode cX7_lay 5 = .ok (.istore 4, 2) := by decide +kernel
theorem dX7_lay_7 : decode cX7_lay 7 = .ok (.iload 4, 2) := by decide +kernel
theorem dX7_lay_9 : decode cX7_lay 9 = .ok (.ifCond .ge 6, 3) := by decide +kernel
theorem dX7_lay_12 : decode cX7_lay 12 = .ok (.iload 4, 2) := by decide +kernel
theorem dX7_lay_14 : decode cX7_lay 14 = .ok (.ireturn, 1) := by decide +kernel
theorem dX7_lay_15 : decode cX7_lay 15 = .ok (.iload_n 2, 1) := by decide +kernel
theorem dX7_lay_16 : decode cX7_lay 16 = .ok (.iconst 0, 1) := by decide +kernel
theorem dX7_lay_17 : decode cX7_lay 17 = .ok (.aload_n 0, 1) := by decide +kernel
theorem dX7_lay_18 : decode cX7_lay 18 = .ok (.getfield 74, 3) := by decide +kernel
theorem dX7_lay_21 : decode cX7_lay 21 = .ok (.iload_n 1, 1) := by decide +kernel
theorem dX7_lay_22 : decode cX7_lay 22 = .ok (.iaload, 1) := by decide +kernel
theorem dX7_lay_23 : decode cX7_lay 23 = .ok (.iconst 1, 1) := by decide +kernel
theorem dX7_lay_24 : decode cX7_lay 24 = .ok (.isub, 1) := by decide +kernel
theorem dX7_lay_25 : decode cX7_lay 25 = .ok (.invokestatic 91, 3) := by decide +kernel
theorem dX7_lay_28 : decode cX7_lay 28 = .ok (.ifCond .ne 9, 3) := by decide +kernel
theorem dX7_lay_31 : decode cX7_lay 31 = .ok (.aload_n 0, 1) := by decide +kernel
theorem dX7_lay_32 : decode cX7_lay 32 = .ok (.iconst 2, 1) := by decide +kernel
theorem dX7_lay_33 : decode cX7_lay 33 = .ok (.invokevirtual 99, 3) := by decide +kernel
theorem dX7_lay_36 : decode cX7_lay 36 = .ok (.ireturn, 1) := by decide +kernel
theorem dX7_lay_37 : decode cX7_lay 37 = .ok (.aload_n 0, 1) := by decide +kernel
theorem dX7_lay_38 : decode cX7_lay 38 = .ok (.getfield 77, 3) := by decide +kernel
theorem dX7_lay_41 : decode cX7_lay 41 = .ok (.bipush 12, 2) := by decide +kernel
theorem dX7_lay_43 : decode cX7_lay 43 = .ok (.iload_n 1, 1) := by decide +kernel
theorem dX7_lay_44 : decode cX7_lay 44 = .ok (.imul, 1) := by decide +kernel
theorem dX7_lay_45 : decode cX7_lay 45 = .ok (.iload_n 2, 1) := by decide +kernel
theorem dX7_lay_46 : decode cX7_lay 46 = .ok (.iadd, 1) := by decide +kernel
theorem dX7_lay_47 : decode cX7_lay 47 = .ok (.iaload, 1) := by decide +kernel
theorem dX7_lay_48 : decode cX7_lay 48 = .ok (.istore 5, 2) := by decide +kernel
theorem dX7_lay_50 : decode cX7_lay 50 = .ok (.aload_n 0, 1) := by decide +kernel
theorem dX7_lay_51 : decode cX7_lay 51 = .ok (.getfield 77, 3) := by decide +kernel
theorem dX7_lay_54 : decode cX7_lay 54 = .ok (.bipush 12, 2) := by decide +kernel
theorem dX7_lay_56 : decode cX7_lay 56 = .ok (.iload_n 1, 1) := by decide +kernel
theorem dX7_lay_57 : decode cX7_lay 57 = .ok (.imul, 1) := by decide +kernel
theorem dX7_lay_58 : decode cX7_lay 58 = .ok (.iload_n 2, 1) := by decide +kernel
theorem dX7_lay_59 : decode cX7_lay 59 = .ok (.iadd, 1) := by decide +kernel
theorem dX7_lay_60 : decode cX7_lay 60 = .ok (.iload_n 3, 1) := by decide +kernel
theorem dX7_lay_61 : decode cX7_lay 61 = .ok (.iastore, 1) := by decide +kernel
theorem dX7_lay_62 : decode cX7_lay 62 = .ok (.iload 5, 2) := by decide +kernel
theorem dX7_lay_64 : decode cX7_lay 64 = .ok (.sipush 1000, 3) := by decide +kernel
theorem dX7_lay_67 : decode cX7_lay 67 = .ok (.iadd, 1) := by decide +kernel
theorem dX7_lay_68 : decode cX7_lay 68 = .ok (.ireturn, 1) := by decide +kernel
set_option maxRecDepth 20000 in
theorem ggX7_tear_X7_askedRow : GoodIn wsX7_tear wsX7_askedRow := goodIn_r _ [6, 1, 7, 8, 5, 9, 10, 11, 12, 13, 14, 15, 16, 17, 18, 19, 20, 21, 22, 23, 24, 25, 26, 27, 28, 29, 30, 31, 32, 33, 34, 35, 36, 37, 38, 39, 40, 41, 42, 43, 44, 45, 46, 47, 48, 49, 50, 51] (by decide +kernel) (by decide +kernel)
set_option maxRecDepth 20000 in
theorem gX7_tear_X7_askedRow : GoodIn wsX7_tear (wsV RX7 228 RX7 yX7_askedRow wsX7_askedRow) := goodIn_app (goodIn_of _ (by decide +kernel)) ggX7_tear_X7_askedRow
theorem dX7_tear_0 : decode cX7_tear 0 = .ok (.aload_n 0, 1) := by decide +kernel
theorem dX7_tear_1 : decode cX7_tear 1 = .ok (.iload_n 1, 1) := by decide +kernel
theorem dX7_tear_2 : decode cX7_tear 2 = .ok (.invokevirtual 228, 3) := by decide +kernel
theorem dX7_tear_5 : decode cX7_tear 5 = .ok (.istore_n 2, 1) := by decide +kernel
theorem dX7_tear_6 : decode cX7_tear 6 = .ok (.iload_n 2, 1) := by decide +kernel
theorem dX7_tear_7 : decode cX7_tear 7 = .ok (.ifCond .ge 5, 3) := by decide +kernel
theorem dX7_tear_10 : decode cX7_tear 10 = .ok (.iload_n 2, 1) := by decide +kernel
theorem dX7_tear_11 : decode cX7_tear 11 = .ok (.ireturn, 1) := by decide +kernel
theorem dX7_tear_12 : decode cX7_tear 12 = .ok (.aload_n 0, 1) := by decide +kernel
theorem dX7_tear_13 : decode cX7_tear 13 = .ok (.getfield 74, 3) := by decide +kernel
theorem dX7_tear_16 : decode cX7_tear 16 = .ok (.iload_n 1, 1) := by decide +kernel
theorem dX7_tear_17 : decode cX7_tear 17 = .ok (.bipush (-9), 2) := by decide +kernel
theorem dX7_tear_19 : decode cX7_tear 19 = .ok (.iastore, 1) := by decide +kernel
theorem dX7_tear_20 : decode cX7_tear 20 = .ok (.iconst 1, 1) := by decide +kernel
theorem dX7_tear_21 : decode cX7_tear 21 = .ok (.ireturn, 1) := by decide +kernel
set_option maxRecDepth 20000 in
theorem ggX7_copy_X7_isRow : GoodIn wsX7_copy wsX7_isRow := goodIn_r _ [7, 8, 9, 6, 10] (by decide +kernel) (by decide +kernel)
set_option maxRecDepth 20000 in
theorem gX7_copy_X7_isRow : GoodIn wsX7_copy (va_wsS RX7 113 yX7_isRow wsX7_isRow) := goodIn_app (goodIn_of _ (by decide +kernel)) ggX7_copy_X7_isRow
set_option maxRecDepth 20000 in
theorem ggX7_copy_X7_meets : GoodIn wsX7_copy wsX7_meets := goodIn_r _ [14, 15, 16, 17, 18, 19, 20, 21, 22, 23, 24, 25, 26, 27, 28, 29, 30, 31, 32, 33, 34, 35, 36, 37, 38, 39, 40, 41, 42, 43, 44, 45, 46, 47, 48, 49] (by decide +kernel) (by decide +kernel)
set_option maxRecDepth 20000 in
theorem gX7_copy_X7_meets : GoodIn wsX7_copy (wsV RX7 99 RX7 yX7_meets wsX7_meets) := goodIn_app (goodIn_of _ (by decide +kernel)) ggX7_copy_X7_meets
theorem dX7_copy_0 : decode cX7_copy 0 = .ok (.iload_n 1, 1) := by decide +kernel
theorem dX7_copy_1 : decode cX7_copy 1 = .ok (.invokestatic 113, 3) := by decide +kernel
theorem dX7_copy_4 : decode cX7_copy 4 = .ok (.ifCond .eq 10, 3) := by decide +kernel
theorem dX7_copy_7 : decode cX7_copy 7 = .ok (.iload_n 3, 1) := by decide +kernel
theorem dX7_copy_8 : decode cX7_copy 8 = .ok (.invokestatic 113, 3) := by decide +kernel
theorem dX7_copy_11 : decode cX7_copy 11 = .ok (.ifCond .ne 5, 3) := by decide +kernel
theorem dX7_copy_14 : decode cX7_copy 14 = .ok (.iconst (-1), 1) := by decide +kernel
theorem dX7_copy_15 : decode cX7_copy 15 = .ok (.ireturn, 1) := by decide +kernel
theorem dX7_copy_16 : decode cX7_copy 16 = .ok (.iload 5, 2) := by decide +kernel
theorem dX7_copy_18 : decode cX7_copy 18 = .ok (.ifCond .ge 9, 3) := by decide +kernel
theorem dX7_copy_21 : decode cX7_copy 21 = .ok (.aload_n 0, 1) := by decide +kernel
theorem dX7_copy_22 : decode cX7_copy 22 = .ok (.iconst 5, 1) := by decide +kernel
theorem dX7_copy_23 : decode cX7_copy 23 = .ok (.invokevirtual 99, 3) := by decide +kernel
theorem dX7_copy_26 : decode cX7_copy 26 = .ok (.ireturn, 1) := by decide +kernel
theorem dX7_copy_27 : decode cX7_copy 27 = .ok (.aload_n 0, 1) := by decide +kernel
theorem dX7_copy_28 : decode cX7_copy 28 = .ok (.getfield 74, 3) := by decide +kernel
theorem dX7_copy_31 : decode cX7_copy 31 = .ok (.iload_n 1, 1) := by decide +kernel
theorem dX7_copy_32 : decode cX7_copy 32 = .ok (.iaload, 1) := by decide +kernel
theorem dX7_copy_33 : decode cX7_copy 33 = .ok (.ifCond .lt 12, 3) := by decide +kernel
theorem dX7_copy_36 : decode cX7_copy 36 = .ok (.aload_n 0, 1) := by decide +kernel
theorem dX7_copy_37 : decode cX7_copy 37 = .ok (.getfield 74, 3) := by decide +kernel
theorem dX7_copy_40 : decode cX7_copy 40 = .ok (.iload_n 3, 1) := by decide +kernel
theorem dX7_copy_41 : decode cX7_copy 41 = .ok (.iaload, 1) := by decide +kernel
theorem dX7_copy_42 : decode cX7_copy 42 = .ok (.ifCond .ge 9, 3) := by decide +kernel
theorem dX7_copy_45 : decode cX7_copy 45 = .ok (.aload_n 0, 1) := by decide +kernel
theorem dX7_copy_46 : decode cX7_copy 46 = .ok (.iconst 1, 1) := by decide +kernel
theorem dX7_copy_47 : decode cX7_copy 47 = .ok (.invokevirtual 99, 3) := by decide +kernel
theorem dX7_copy_50 : decode cX7_copy 50 = .ok (.ireturn, 1) := by decide +kernel
theorem dX7_copy_51 : decode cX7_copy 51 = .ok (.iload_n 2, 1) := by decide +kernel
theorem dX7_copy_52 : decode cX7_copy 52 = .ok (.ifCond .lt 43, 3) := by decide +kernel
theorem dX7_copy_55 : decode cX7_copy 55 = .ok (.iload 4, 2) := by decide +kernel
theorem dX7_copy_57 : decode cX7_copy 57 = .ok (.ifCond .lt 38, 3) := by decide +kernel
theorem dX7_copy_60 : decode cX7_copy 60 = .ok (.iload_n 2, 1) := by decide +kernel
theorem dX7_copy_61 : decode cX7_copy 61 = .ok (.i2l, 1) := by decide +kernel
theorem dX7_copy_62 : decode cX7_copy 62 = .ok (.iload 5, 2) := by decide +kernel
theorem dX7_copy_64 : decode cX7_copy 64 = .ok (.i2l, 1) := by decide +kernel
theorem dX7_copy_65 : decode cX7_copy 65 = .ok (.ladd, 1) := by decide +kernel
theorem dX7_copy_66 : decode cX7_copy 66 = .ok (.aload_n 0, 1) := by decide +kernel
theorem dX7_copy_67 : decode cX7_copy 67 = .ok (.getfield 74, 3) := by decide +kernel
theorem dX7_copy_70 : decode cX7_copy 70 = .ok (.iload_n 1, 1) := by decide +kernel
theorem dX7_copy_71 : decode cX7_copy 71 = .ok (.iaload, 1) := by decide +kernel
theorem dX7_copy_72 : decode cX7_copy 72 = .ok (.i2l, 1) := by decide +kernel
theorem dX7_copy_73 : decode cX7_copy 73 = .ok (.lcmp, 1) := by decide +kernel
theorem dX7_copy_74 : decode cX7_copy 74 = .ok (.ifCond .gt 21, 3) := by decide +kernel
theorem dX7_copy_77 : decode cX7_copy 77 = .ok (.iload 4, 2) := by decide +kernel
theorem dX7_copy_79 : decode cX7_copy 79 = .ok (.i2l, 1) := by decide +kernel
theorem dX7_copy_80 : decode cX7_copy 80 = .ok (.iload 5, 2) := by decide +kernel
theorem dX7_copy_82 : decode cX7_copy 82 = .ok (.i2l, 1) := by decide +kernel
theorem dX7_copy_83 : decode cX7_copy 83 = .ok (.ladd, 1) := by decide +kernel
theorem dX7_copy_84 : decode cX7_copy 84 = .ok (.aload_n 0, 1) := by decide +kernel
theorem dX7_copy_85 : decode cX7_copy 85 = .ok (.getfield 74, 3) := by decide +kernel
theorem dX7_copy_88 : decode cX7_copy 88 = .ok (.iload_n 3, 1) := by decide +kernel
theorem dX7_copy_89 : decode cX7_copy 89 = .ok (.iaload, 1) := by decide +kernel
theorem dX7_copy_90 : decode cX7_copy 90 = .ok (.i2l, 1) := by decide +kernel
theorem dX7_copy_91 : decode cX7_copy 91 = .ok (.lcmp, 1) := by decide +kernel
theorem dX7_copy_92 : decode cX7_copy 92 = .ok (.ifCond .le 9, 3) := by decide +kernel
theorem dX7_copy_95 : decode cX7_copy 95 = .ok (.aload_n 0, 1) := by decide +kernel
theorem dX7_copy_96 : decode cX7_copy 96 = .ok (.iconst 2, 1) := by decide +kernel
theorem dX7_copy_97 : decode cX7_copy 97 = .ok (.invokevirtual 99, 3) := by decide +kernel
theorem dX7_copy_100 : decode cX7_copy 100 = .ok (.ireturn, 1) := by decide +kernel
theorem dX7_copy_101 : decode cX7_copy 101 = .ok (.iconst 0, 1) := by decide +kernel
theorem dX7_copy_102 : decode cX7_copy 102 = .ok (.istore 6, 2) := by decide +kernel
theorem dX7_copy_104 : decode cX7_copy 104 = .ok (.iload 6, 2) := by decide +kernel
theorem dX7_copy_106 : decode cX7_copy 106 = .ok (.iload 5, 2) := by decide +kernel
theorem dX7_copy_108 : decode cX7_copy 108 = .ok (.if_icmp .ge 30, 3) := by decide +kernel
theorem dX7_copy_111 : decode cX7_copy 111 = .ok (.aload_n 0, 1) := by decide +kernel
theorem dX7_copy_112 : decode cX7_copy 112 = .ok (.getfield 80, 3) := by decide +kernel
theorem dX7_copy_115 : decode cX7_copy 115 = .ok (.iload 6, 2) := by decide +kernel
theorem dX7_copy_117 : decode cX7_copy 117 = .ok (.aload_n 0, 1) := by decide +kernel
theorem dX7_copy_118 : decode cX7_copy 118 = .ok (.getfield 77, 3) := by decide +kernel
theorem dX7_copy_121 : decode cX7_copy 121 = .ok (.bipush 12, 2) := by decide +kernel
theorem dX7_copy_123 : decode cX7_copy 123 = .ok (.iload_n 1, 1) := by decide +kernel
theorem dX7_copy_124 : decode cX7_copy 124 = .ok (.imul, 1) := by decide +kernel
theorem dX7_copy_125 : decode cX7_copy 125 = .ok (.iload_n 2, 1) := by decide +kernel
theorem dX7_copy_126 : decode cX7_copy 126 = .ok (.iadd, 1) := by decide +kernel
theorem dX7_copy_127 : decode cX7_copy 127 = .ok (.iload 6, 2) := by decide +kernel
theorem dX7_copy_129 : decode cX7_copy 129 = .ok (.iadd, 1) := by decide +kernel
theorem dX7_copy_130 : decode cX7_copy 130 = .ok (.iaload, 1) := by decide +kernel
theorem dX7_copy_131 : decode cX7_copy 131 = .ok (.iastore, 1) := by decide +kernel
theorem dX7_copy_132 : decode cX7_copy 132 = .ok (.iinc 6 1, 3) := by decide +kernel
theorem dX7_copy_135 : decode cX7_copy 135 = .ok (.goto (-31), 3) := by decide +kernel
theorem dX7_copy_138 : decode cX7_copy 138 = .ok (.iconst 0, 1) := by decide +kernel
theorem dX7_copy_139 : decode cX7_copy 139 = .ok (.istore 6, 2) := by decide +kernel
theorem dX7_copy_141 : decode cX7_copy 141 = .ok (.iload 6, 2) := by decide +kernel
theorem dX7_copy_143 : decode cX7_copy 143 = .ok (.iload 5, 2) := by decide +kernel
theorem dX7_copy_145 : decode cX7_copy 145 = .ok (.if_icmp .ge 31, 3) := by decide +kernel
theorem dX7_copy_148 : decode cX7_copy 148 = .ok (.aload_n 0, 1) := by decide +kernel
theorem dX7_copy_149 : decode cX7_copy 149 = .ok (.getfield 77, 3) := by decide +kernel
theorem dX7_copy_152 : decode cX7_copy 152 = .ok (.bipush 12, 2) := by decide +kernel
theorem dX7_copy_154 : decode cX7_copy 154 = .ok (.iload_n 3, 1) := by decide +kernel
theorem dX7_copy_155 : decode cX7_copy 155 = .ok (.imul, 1) := by decide +kernel
theorem dX7_copy_156 : decode cX7_copy 156 = .ok (.iload 4, 2) := by decide +kernel
theorem dX7_copy_158 : decode cX7_copy 158 = .ok (.iadd, 1) := by decide +kernel
theorem dX7_copy_159 : decode cX7_copy 159 = .ok (.iload 6, 2) := by decide +kernel
theorem dX7_copy_161 : decode cX7_copy 161 = .ok (.iadd, 1) := by decide +kernel
theorem dX7_copy_162 : decode cX7_copy 162 = .ok (.aload_n 0, 1) := by decide +kernel
theorem dX7_copy_163 : decode cX7_copy 163 = .ok (.getfield 80, 3) := by decide +kernel
theorem dX7_copy_166 : decode cX7_copy 166 = .ok (.iload 6, 2) := by decide +kernel
theorem dX7_copy_168 : decode cX7_copy 168 = .ok (.iaload, 1) := by decide +kernel
theorem dX7_copy_169 : decode cX7_copy 169 = .ok (.iastore, 1) := by decide +kernel
theorem dX7_copy_170 : decode cX7_copy 170 = .ok (.iinc 6 1, 3) := by decide +kernel
theorem dX7_copy_173 : decode cX7_copy 173 = .ok (.goto (-32), 3) := by decide +kernel
theorem dX7_copy_176 : decode cX7_copy 176 = .ok (.iconst 1, 1) := by decide +kernel
theorem dX7_copy_177 : decode cX7_copy 177 = .ok (.ireturn, 1) := by decide +kernel
theorem dX7_asked_0 : decode cX7_asked 0 = .ok (.aload_n 0, 1) := by decide +kernel
theorem dX7_asked_1 : decode cX7_asked 1 = .ok (.getfield 87, 3) := by decide +kernel
theorem dX7_asked_4 : decode cX7_asked 4 = .ok (.lreturn, 1) := by decide +kernel
set_option maxRecDepth 20000 in
theorem ggX7_count_X7_in : GoodIn wsX7_count wsX7_in := goodIn_r _ [7] (by decide +kernel) (by decide +kernel)
set_option maxRecDepth 20000 in
theorem gX7_count_X7_in : GoodIn wsX7_count (va_wsS RX7 91 yX7_in wsX7_in) := goodIn_app (goodIn_of _ (by decide +kernel)) ggX7_count_X7_in
theorem dX7_count_0 : decode cX7_count 0 = .ok (.iconst 0, 1) := by decide +kernel
theorem dX7_count_1 : decode cX7_count 1 = .ok (.istore_n 2, 1) := by decide +kernel
theorem dX7_count_2 : decode cX7_count 2 = .ok (.iconst 0, 1) := by decide +kernel
theorem dX7_count_3 : decode cX7_count 3 = .ok (.istore_n 3, 1) := by decide +kernel
theorem dX7_count_4 : decode cX7_count 4 = .ok (.iload_n 3, 1) := by decide +kernel
theorem dX7_count_5 : decode cX7_count 5 = .ok (.bipush 6, 2) := by decide +kernel
theorem dX7_count_7 : decode cX7_count 7 = .ok (.if_icmp .ge 62, 3) := by decide +kernel
theorem dX7_count_10 : decode cX7_count 10 = .ok (.iload_n 2, 1) := by decide +kernel
theorem dX7_count_11 : decode cX7_count 11 = .ok (.aload_n 0, 1) := by decide +kernel
theorem dX7_count_12 : decode cX7_count 12 = .ok (.getfield 13, 3) := by decide +kernel
theorem dX7_count_15 : decode cX7_count 15 = .ok (.iload_n 3, 1) := by decide +kernel
theorem dX7_count_16 : decode cX7_count 16 = .ok (.iaload, 1) := by decide +kernel
theorem dX7_count_17 : decode cX7_count 17 = .ok (.ifCond .ne 7, 3) := by decide +kernel
theorem dX7_count_20 : decode cX7_count 20 = .ok (.iconst 0, 1) := by decide +kernel
theorem dX7_count_21 : decode cX7_count 21 = .ok (.goto 40, 3) := by decide +kernel
theorem dX7_count_24 : decode cX7_count 24 = .ok (.iload_n 1, 1) := by decide +kernel
theorem dX7_count_25 : decode cX7_count 25 = .ok (.ifCond .ne 7, 3) := by decide +kernel
theorem dX7_count_28 : decode cX7_count 28 = .ok (.iconst 1, 1) := by decide +kernel
theorem dX7_count_29 : decode cX7_count 29 = .ok (.goto 32, 3) := by decide +kernel
theorem dX7_count_32 : decode cX7_count 32 = .ok (.iload_n 1, 1) := by decide +kernel
theorem dX7_count_33 : decode cX7_count 33 = .ok (.iconst 1, 1) := by decide +kernel
theorem dX7_count_34 : decode cX7_count 34 = .ok (.if_icmp .ne 12, 3) := by decide +kernel
theorem dX7_count_37 : decode cX7_count 37 = .ok (.aload_n 0, 1) := by decide +kernel
theorem dX7_count_38 : decode cX7_count 38 = .ok (.getfield 13, 3) := by decide +kernel
theorem dX7_count_41 : decode cX7_count 41 = .ok (.iload_n 3, 1) := by decide +kernel
theorem dX7_count_42 : decode cX7_count 42 = .ok (.iaload, 1) := by decide +kernel
theorem dX7_count_43 : decode cX7_count 43 = .ok (.goto 18, 3) := by decide +kernel
theorem dX7_count_46 : decode cX7_count 46 = .ok (.iload_n 1, 1) := by decide +kernel
theorem dX7_count_47 : decode cX7_count 47 = .ok (.iconst 2, 1) := by decide +kernel
theorem dX7_count_48 : decode cX7_count 48 = .ok (.if_icmp .ne 12, 3) := by decide +kernel
theorem dX7_count_51 : decode cX7_count 51 = .ok (.aload_n 0, 1) := by decide +kernel
theorem dX7_count_52 : decode cX7_count 52 = .ok (.getfield 16, 3) := by decide +kernel
theorem dX7_count_55 : decode cX7_count 55 = .ok (.iload_n 3, 1) := by decide +kernel
theorem dX7_count_56 : decode cX7_count 56 = .ok (.iaload, 1) := by decide +kernel
theorem dX7_count_57 : decode cX7_count 57 = .ok (.goto 4, 3) := by decide +kernel
theorem dX7_count_60 : decode cX7_count 60 = .ok (.iconst 0, 1) := by decide +kernel
theorem dX7_count_61 : decode cX7_count 61 = .ok (.iadd, 1) := by decide +kernel
theorem dX7_count_62 : decode cX7_count 62 = .ok (.istore_n 2, 1) := by decide +kernel
theorem dX7_count_63 : decode cX7_count 63 = .ok (.iinc 3 1, 3) := by decide +kernel
theorem dX7_count_66 : decode cX7_count 66 = .ok (.goto (-62), 3) := by decide +kernel
theorem dX7_count_69 : decode cX7_count 69 = .ok (.iconst 0, 1) := by decide +kernel
theorem dX7_count_70 : decode cX7_count 70 = .ok (.istore_n 3, 1) := by decide +kernel
theorem dX7_count_71 : decode cX7_count 71 = .ok (.iload_n 3, 1) := by decide +kernel
theorem dX7_count_72 : decode cX7_count 72 = .ok (.iconst 4, 1) := by decide +kernel
theorem dX7_count_73 : decode cX7_count 73 = .ok (.if_icmp .ge 31, 3) := by decide +kernel
theorem dX7_count_76 : decode cX7_count 76 = .ok (.iload_n 2, 1) := by decide +kernel
theorem dX7_count_77 : decode cX7_count 77 = .ok (.iload_n 1, 1) := by decide +kernel
theorem dX7_count_78 : decode cX7_count 78 = .ok (.iconst 3, 1) := by decide +kernel
theorem dX7_count_79 : decode cX7_count 79 = .ok (.if_icmp .ne 16, 3) := by decide +kernel
theorem dX7_count_82 : decode cX7_count 82 = .ok (.aload_n 0, 1) := by decide +kernel
theorem dX7_count_83 : decode cX7_count 83 = .ok (.getfield 74, 3) := by decide +kernel
theorem dX7_count_86 : decode cX7_count 86 = .ok (.iload_n 3, 1) := by decide +kernel
theorem dX7_count_87 : decode cX7_count 87 = .ok (.iaload, 1) := by decide +kernel
theorem dX7_count_88 : decode cX7_count 88 = .ok (.ifCond .lt 7, 3) := by decide +kernel
theorem dX7_count_91 : decode cX7_count 91 = .ok (.iconst 1, 1) := by decide +kernel
theorem dX7_count_92 : decode cX7_count 92 = .ok (.goto 4, 3) := by decide +kernel
theorem dX7_count_95 : decode cX7_count 95 = .ok (.iconst 0, 1) := by decide +kernel
theorem dX7_count_96 : decode cX7_count 96 = .ok (.iadd, 1) := by decide +kernel
theorem dX7_count_97 : decode cX7_count 97 = .ok (.istore_n 2, 1) := by decide +kernel
theorem dX7_count_98 : decode cX7_count 98 = .ok (.iinc 3 1, 3) := by decide +kernel
theorem dX7_count_101 : decode cX7_count 101 = .ok (.goto (-30), 3) := by decide +kernel
theorem dX7_count_104 : decode cX7_count 104 = .ok (.iload_n 1, 1) := by decide +kernel
theorem dX7_count_105 : decode cX7_count 105 = .ok (.iconst 0, 1) := by decide +kernel
theorem dX7_count_106 : decode cX7_count 106 = .ok (.iconst 3, 1) := by decide +kernel
theorem dX7_count_107 : decode cX7_count 107 = .ok (.invokestatic 91, 3) := by decide +kernel
theorem dX7_count_110 : decode cX7_count 110 = .ok (.ifCond .eq 7, 3) := by decide +kernel
theorem dX7_count_113 : decode cX7_count 113 = .ok (.iload_n 2, 1) := by decide +kernel
theorem dX7_count_114 : decode cX7_count 114 = .ok (.goto 4, 3) := by decide +kernel
theorem dX7_count_117 : decode cX7_count 117 = .ok (.iconst (-1), 1) := by decide +kernel
theorem dX7_count_118 : decode cX7_count 118 = .ok (.ireturn, 1) := by decide +kernel
theorem dX7_finding_0 : decode cX7_finding 0 = .ok (.aload_n 0, 1) := by decide +kernel
theorem dX7_finding_1 : decode cX7_finding 1 = .ok (.getfield 83, 3) := by decide +kernel
theorem dX7_finding_4 : decode cX7_finding 4 = .ok (.ireturn, 1) := by decide +kernel
set_option maxRecDepth 20000 in
theorem ggX7_findings_X7_in : GoodIn wsX7_findings wsX7_in := goodIn_r _ [5] (by decide +kernel) (by decide +kernel)
set_option maxRecDepth 20000 in
theorem gX7_findings_X7_in : GoodIn wsX7_findings (va_wsS RX7 91 yX7_in wsX7_in) := goodIn_app (goodIn_of _ (by decide +kernel)) ggX7_findings_X7_in
theorem dX7_findings_0 : decode cX7_findings 0 = .ok (.iload_n 1, 1) := by decide +kernel
theorem dX7_findings_1 : decode cX7_findings 1 = .ok (.iconst 1, 1) := by decide +kernel
theorem dX7_findings_2 : decode cX7_findings 2 = .ok (.iconst 5, 1) := by decide +kernel
theorem dX7_findings_3 : decode cX7_findings 3 = .ok (.invokestatic 91, 3) := by decide +kernel
theorem dX7_findings_6 : decode cX7_findings 6 = .ok (.ifCond .eq 12, 3) := by decide +kernel
theorem dX7_findings_9 : decode cX7_findings 9 = .ok (.aload_n 0, 1) := by decide +kernel
theorem dX7_findings_10 : decode cX7_findings 10 = .ok (.getfield 7, 3) := by decide +kernel
theorem dX7_findings_13 : decode cX7_findings 13 = .ok (.iload_n 1, 1) := by decide +kernel
theorem dX7_findings_14 : decode cX7_findings 14 = .ok (.iaload, 1) := by decide +kernel
theorem dX7_findings_15 : decode cX7_findings 15 = .ok (.goto 4, 3) := by decide +kernel
theorem dX7_findings_18 : decode cX7_findings 18 = .ok (.iconst (-1), 1) := by decide +kernel
theorem dX7_findings_19 : decode cX7_findings 19 = .ok (.ireturn, 1) := by decide +kernel
theorem dX7_digest_0 : decode cX7_digest 0 = .ok (.ldc2_w 231, 3) := by decide +kernel
theorem dX7_digest_3 : decode cX7_digest 3 = .ok (.lstore_n 1, 1) := by decide +kernel
theorem dX7_digest_4 : decode cX7_digest 4 = .ok (.iconst 0, 1) := by decide +kernel
theorem dX7_digest_5 : decode cX7_digest 5 = .ok (.istore_n 3, 1) := by decide +kernel
theorem dX7_digest_6 : decode cX7_digest 6 = .ok (.iload_n 3, 1) := by decide +kernel
theorem dX7_digest_7 : decode cX7_digest 7 = .ok (.bipush 6, 2) := by decide +kernel
theorem dX7_digest_9 : decode cX7_digest 9 = .ok (.if_icmp .ge 106, 3) := by decide +kernel
theorem dX7_digest_12 : decode cX7_digest 12 = .ok (.aload_n 0, 1) := by decide +kernel
theorem dX7_digest_13 : decode cX7_digest 13 = .ok (.getfield 13, 3) := by decide +kernel
theorem dX7_digest_16 : decode cX7_digest 16 = .ok (.iload_n 3, 1) := by decide +kernel
theorem dX7_digest_17 : decode cX7_digest 17 = .ok (.iaload, 1) := by decide +kernel
theorem dX7_digest_18 : decode cX7_digest 18 = .ok (.ifCond .ne 14, 3) := by decide +kernel
theorem dX7_digest_21 : decode cX7_digest 21 = .ok (.ldc2_w 233, 3) := by decide +kernel
theorem dX7_digest_24 : decode cX7_digest 24 = .ok (.lload_n 1, 1) := by decide +kernel
theorem dX7_digest_25 : decode cX7_digest 25 = .ok (.lmul, 1) := by decide +kernel
theorem dX7_digest_26 : decode cX7_digest 26 = .ok (.lconst 1, 1) := by decide +kernel
theorem dX7_digest_27 : decode cX7_digest 27 = .ok (.lsub, 1) := by decide +kernel
theorem dX7_digest_28 : decode cX7_digest 28 = .ok (.lstore_n 1, 1) := by decide +kernel
theorem dX7_digest_29 : decode cX7_digest 29 = .ok (.goto 80, 3) := by decide +kernel
theorem dX7_digest_32 : decode cX7_digest 32 = .ok (.ldc2_w 233, 3) := by decide +kernel
theorem dX7_digest_35 : decode cX7_digest 35 = .ok (.ldc2_w 233, 3) := by decide +kernel
theorem dX7_digest_38 : decode cX7_digest 38 = .ok (.ldc2_w 233, 3) := by decide +kernel
theorem dX7_digest_41 : decode cX7_digest 41 = .ok (.lload_n 1, 1) := by decide +kernel
theorem dX7_digest_42 : decode cX7_digest 42 = .ok (.lmul, 1) := by decide +kernel
theorem dX7_digest_43 : decode cX7_digest 43 = .ok (.aload_n 0, 1) := by decide +kernel
theorem dX7_digest_44 : decode cX7_digest 44 = .ok (.getfield 13, 3) := by decide +kernel
theorem dX7_digest_47 : decode cX7_digest 47 = .ok (.iload_n 3, 1) := by decide +kernel
theorem dX7_digest_48 : decode cX7_digest 48 = .ok (.iaload, 1) := by decide +kernel
theorem dX7_digest_49 : decode cX7_digest 49 = .ok (.i2l, 1) := by decide +kernel
theorem dX7_digest_50 : decode cX7_digest 50 = .ok (.ladd, 1) := by decide +kernel
theorem dX7_digest_51 : decode cX7_digest 51 = .ok (.lmul, 1) := by decide +kernel
theorem dX7_digest_52 : decode cX7_digest 52 = .ok (.aload_n 0, 1) := by decide +kernel
theorem dX7_digest_53 : decode cX7_digest 53 = .ok (.getfield 16, 3) := by decide +kernel
theorem dX7_digest_56 : decode cX7_digest 56 = .ok (.iload_n 3, 1) := by decide +kernel
theorem dX7_digest_57 : decode cX7_digest 57 = .ok (.iaload, 1) := by decide +kernel
theorem dX7_digest_58 : decode cX7_digest 58 = .ok (.i2l, 1) := by decide +kernel
theorem dX7_digest_59 : decode cX7_digest 59 = .ok (.ladd, 1) := by decide +kernel
theorem dX7_digest_60 : decode cX7_digest 60 = .ok (.lmul, 1) := by decide +kernel
theorem dX7_digest_61 : decode cX7_digest 61 = .ok (.aload_n 0, 1) := by decide +kernel
theorem dX7_digest_62 : decode cX7_digest 62 = .ok (.getfield 19, 3) := by decide +kernel
theorem dX7_digest_65 : decode cX7_digest 65 = .ok (.iload_n 3, 1) := by decide +kernel
theorem dX7_digest_66 : decode cX7_digest 66 = .ok (.iaload, 1) := by decide +kernel
theorem dX7_digest_67 : decode cX7_digest 67 = .ok (.i2l, 1) := by decide +kernel
theorem dX7_digest_68 : decode cX7_digest 68 = .ok (.ladd, 1) := by decide +kernel
theorem dX7_digest_69 : decode cX7_digest 69 = .ok (.lstore_n 1, 1) := by decide +kernel
theorem dX7_digest_70 : decode cX7_digest 70 = .ok (.iconst 0, 1) := by decide +kernel
theorem dX7_digest_71 : decode cX7_digest 71 = .ok (.istore 4, 2) := by decide +kernel
theorem dX7_digest_73 : decode cX7_digest 73 = .ok (.iload 4, 2) := by decide +kernel
theorem dX7_digest_75 : decode cX7_digest 75 = .ok (.aload_n 0, 1) := by decide +kernel
theorem dX7_digest_76 : decode cX7_digest 76 = .ok (.getfield 16, 3) := by decide +kernel
theorem dX7_digest_79 : decode cX7_digest 79 = .ok (.iload_n 3, 1) := by decide +kernel
theorem dX7_digest_80 : decode cX7_digest 80 = .ok (.iaload, 1) := by decide +kernel
theorem dX7_digest_81 : decode cX7_digest 81 = .ok (.if_icmp .ge 28, 3) := by decide +kernel
theorem dX7_digest_84 : decode cX7_digest 84 = .ok (.ldc2_w 233, 3) := by decide +kernel
theorem dX7_digest_87 : decode cX7_digest 87 = .ok (.lload_n 1, 1) := by decide +kernel
theorem dX7_digest_88 : decode cX7_digest 88 = .ok (.lmul, 1) := by decide +kernel
theorem dX7_digest_89 : decode cX7_digest 89 = .ok (.aload_n 0, 1) := by decide +kernel
theorem dX7_digest_90 : decode cX7_digest 90 = .ok (.getfield 25, 3) := by decide +kernel
theorem dX7_digest_93 : decode cX7_digest 93 = .ok (.bipush 45, 2) := by decide +kernel
theorem dX7_digest_95 : decode cX7_digest 95 = .ok (.iload_n 3, 1) := by decide +kernel
theorem dX7_digest_96 : decode cX7_digest 96 = .ok (.imul, 1) := by decide +kernel
theorem dX7_digest_97 : decode cX7_digest 97 = .ok (.iload 4, 2) := by decide +kernel
theorem dX7_digest_99 : decode cX7_digest 99 = .ok (.iadd, 1) := by decide +kernel
theorem dX7_digest_100 : decode cX7_digest 100 = .ok (.laload, 1) := by decide +kernel
theorem dX7_digest_101 : decode cX7_digest 101 = .ok (.ladd, 1) := by decide +kernel
theorem dX7_digest_102 : decode cX7_digest 102 = .ok (.lstore_n 1, 1) := by decide +kernel
theorem dX7_digest_103 : decode cX7_digest 103 = .ok (.iinc 4 1, 3) := by decide +kernel
theorem dX7_digest_106 : decode cX7_digest 106 = .ok (.goto (-33), 3) := by decide +kernel
theorem dX7_digest_109 : decode cX7_digest 109 = .ok (.iinc 3 1, 3) := by decide +kernel
theorem dX7_digest_112 : decode cX7_digest 112 = .ok (.goto (-106), 3) := by decide +kernel
theorem dX7_digest_115 : decode cX7_digest 115 = .ok (.iconst 0, 1) := by decide +kernel
theorem dX7_digest_116 : decode cX7_digest 116 = .ok (.istore_n 3, 1) := by decide +kernel
theorem dX7_digest_117 : decode cX7_digest 117 = .ok (.iload_n 3, 1) := by decide +kernel
theorem dX7_digest_118 : decode cX7_digest 118 = .ok (.iconst 4, 1) := by decide +kernel
theorem dX7_digest_119 : decode cX7_digest 119 = .ok (.if_icmp .ge 76, 3) := by decide +kernel
theorem dX7_digest_122 : decode cX7_digest 122 = .ok (.ldc2_w 233, 3) := by decide +kernel
theorem dX7_digest_125 : decode cX7_digest 125 = .ok (.lload_n 1, 1) := by decide +kernel
theorem dX7_digest_126 : decode cX7_digest 126 = .ok (.lmul, 1) := by decide +kernel
theorem dX7_digest_127 : decode cX7_digest 127 = .ok (.aload_n 0, 1) := by decide +kernel
theorem dX7_digest_128 : decode cX7_digest 128 = .ok (.getfield 74, 3) := by decide +kernel
theorem dX7_digest_131 : decode cX7_digest 131 = .ok (.iload_n 3, 1) := by decide +kernel
theorem dX7_digest_132 : decode cX7_digest 132 = .ok (.iaload, 1) := by decide +kernel
theorem dX7_digest_133 : decode cX7_digest 133 = .ok (.ifCond .ge 7, 3) := by decide +kernel
theorem dX7_digest_136 : decode cX7_digest 136 = .ok (.iconst (-1), 1) := by decide +kernel
theorem dX7_digest_137 : decode cX7_digest 137 = .ok (.goto 9, 3) := by decide +kernel
theorem dX7_digest_140 : decode cX7_digest 140 = .ok (.aload_n 0, 1) := by decide +kernel
theorem dX7_digest_141 : decode cX7_digest 141 = .ok (.getfield 74, 3) := by decide +kernel
theorem dX7_digest_144 : decode cX7_digest 144 = .ok (.iload_n 3, 1) := by decide +kernel
theorem dX7_digest_145 : decode cX7_digest 145 = .ok (.iaload, 1) := by decide +kernel
theorem dX7_digest_146 : decode cX7_digest 146 = .ok (.i2l, 1) := by decide +kernel
theorem dX7_digest_147 : decode cX7_digest 147 = .ok (.ladd, 1) := by decide +kernel
theorem dX7_digest_148 : decode cX7_digest 148 = .ok (.lstore_n 1, 1) := by decide +kernel
theorem dX7_digest_149 : decode cX7_digest 149 = .ok (.iconst 0, 1) := by decide +kernel
theorem dX7_digest_150 : decode cX7_digest 150 = .ok (.istore 4, 2) := by decide +kernel
theorem dX7_digest_152 : decode cX7_digest 152 = .ok (.iload 4, 2) := by decide +kernel
theorem dX7_digest_154 : decode cX7_digest 154 = .ok (.aload_n 0, 1) := by decide +kernel
theorem dX7_digest_155 : decode cX7_digest 155 = .ok (.getfield 74, 3) := by decide +kernel
theorem dX7_digest_158 : decode cX7_digest 158 = .ok (.iload_n 3, 1) := by decide +kernel
theorem dX7_digest_159 : decode cX7_digest 159 = .ok (.iaload, 1) := by decide +kernel
theorem dX7_digest_160 : decode cX7_digest 160 = .ok (.if_icmp .ge 29, 3) := by decide +kernel
theorem dX7_digest_163 : decode cX7_digest 163 = .ok (.ldc2_w 233, 3) := by decide +kernel
theorem dX7_digest_166 : decode cX7_digest 166 = .ok (.lload_n 1, 1) := by decide +kernel
theorem dX7_digest_167 : decode cX7_digest 167 = .ok (.lmul, 1) := by decide +kernel
theorem dX7_digest_168 : decode cX7_digest 168 = .ok (.aload_n 0, 1) := by decide +kernel
theorem dX7_digest_169 : decode cX7_digest 169 = .ok (.getfield 77, 3) := by decide +kernel
theorem dX7_digest_172 : decode cX7_digest 172 = .ok (.bipush 12, 2) := by decide +kernel
theorem dX7_digest_174 : decode cX7_digest 174 = .ok (.iload_n 3, 1) := by decide +kernel
theorem dX7_digest_175 : decode cX7_digest 175 = .ok (.imul, 1) := by decide +kernel
theorem dX7_digest_176 : decode cX7_digest 176 = .ok (.iload 4, 2) := by decide +kernel
theorem dX7_digest_178 : decode cX7_digest 178 = .ok (.iadd, 1) := by decide +kernel
theorem dX7_digest_179 : decode cX7_digest 179 = .ok (.iaload, 1) := by decide +kernel
theorem dX7_digest_180 : decode cX7_digest 180 = .ok (.i2l, 1) := by decide +kernel
theorem dX7_digest_181 : decode cX7_digest 181 = .ok (.ladd, 1) := by decide +kernel
theorem dX7_digest_182 : decode cX7_digest 182 = .ok (.lstore_n 1, 1) := by decide +kernel
theorem dX7_digest_183 : decode cX7_digest 183 = .ok (.iinc 4 1, 3) := by decide +kernel
theorem dX7_digest_186 : decode cX7_digest 186 = .ok (.goto (-34), 3) := by decide +kernel
theorem dX7_digest_189 : decode cX7_digest 189 = .ok (.iinc 3 1, 3) := by decide +kernel
theorem dX7_digest_192 : decode cX7_digest 192 = .ok (.goto (-75), 3) := by decide +kernel
theorem dX7_digest_195 : decode cX7_digest 195 = .ok (.lload_n 1, 1) := by decide +kernel
theorem dX7_digest_196 : decode cX7_digest 196 = .ok (.lreturn, 1) := by decide +kernel
theorem dJ13_bitCount_95d88_0 : decode cJ13_bitCount_95d88 0 = .ok (.lload_n 0, 1) := by decide +kernel
theorem dJ13_bitCount_95d88_1 : decode cJ13_bitCount_95d88 1 = .ok (.lload_n 0, 1) := by decide +kernel
theorem dJ13_bitCount_95d88_2 : decode cJ13_bitCount_95d88 2 = .ok (.iconst 1, 1) := by decide +kernel
theorem dJ13_bitCount_95d88_3 : decode cJ13_bitCount_95d88 3 = .ok (.lushr, 1) := by decide +kernel
theorem dJ13_bitCount_95d88_4 : decode cJ13_bitCount_95d88 4 = .ok (.ldc2_w 314, 3) := by decide +kernel
theorem dJ13_bitCount_95d88_7 : decode cJ13_bitCount_95d88 7 = .ok (.land, 1) := by decide +kernel
theorem dJ13_bitCount_95d88_8 : decode cJ13_bitCount_95d88 8 = .ok (.lsub, 1) := by decide +kernel
theorem dJ13_bitCount_95d88_9 : decode cJ13_bitCount_95d88 9 = .ok (.lstore_n 0, 1) := by decide +kernel
theorem dJ13_bitCount_95d88_10 : decode cJ13_bitCount_95d88 10 = .ok (.lload_n 0, 1) := by decide +kernel
theorem dJ13_bitCount_95d88_11 : decode cJ13_bitCount_95d88 11 = .ok (.ldc2_w 316, 3) := by decide +kernel
theorem dJ13_bitCount_95d88_14 : decode cJ13_bitCount_95d88 14 = .ok (.land, 1) := by decide +kernel
theorem dJ13_bitCount_95d88_15 : decode cJ13_bitCount_95d88 15 = .ok (.lload_n 0, 1) := by decide +kernel
theorem dJ13_bitCount_95d88_16 : decode cJ13_bitCount_95d88 16 = .ok (.iconst 2, 1) := by decide +kernel
theorem dJ13_bitCount_95d88_17 : decode cJ13_bitCount_95d88 17 = .ok (.lushr, 1) := by decide +kernel
theorem dJ13_bitCount_95d88_18 : decode cJ13_bitCount_95d88 18 = .ok (.ldc2_w 316, 3) := by decide +kernel
theorem dJ13_bitCount_95d88_21 : decode cJ13_bitCount_95d88 21 = .ok (.land, 1) := by decide +kernel
theorem dJ13_bitCount_95d88_22 : decode cJ13_bitCount_95d88 22 = .ok (.ladd, 1) := by decide +kernel
theorem dJ13_bitCount_95d88_23 : decode cJ13_bitCount_95d88 23 = .ok (.lstore_n 0, 1) := by decide +kernel
theorem dJ13_bitCount_95d88_24 : decode cJ13_bitCount_95d88 24 = .ok (.lload_n 0, 1) := by decide +kernel
theorem dJ13_bitCount_95d88_25 : decode cJ13_bitCount_95d88 25 = .ok (.lload_n 0, 1) := by decide +kernel
theorem dJ13_bitCount_95d88_26 : decode cJ13_bitCount_95d88 26 = .ok (.iconst 4, 1) := by decide +kernel
theorem dJ13_bitCount_95d88_27 : decode cJ13_bitCount_95d88 27 = .ok (.lushr, 1) := by decide +kernel
theorem dJ13_bitCount_95d88_28 : decode cJ13_bitCount_95d88 28 = .ok (.ladd, 1) := by decide +kernel
theorem dJ13_bitCount_95d88_29 : decode cJ13_bitCount_95d88 29 = .ok (.ldc2_w 318, 3) := by decide +kernel
theorem dJ13_bitCount_95d88_32 : decode cJ13_bitCount_95d88 32 = .ok (.land, 1) := by decide +kernel
theorem dJ13_bitCount_95d88_33 : decode cJ13_bitCount_95d88 33 = .ok (.lstore_n 0, 1) := by decide +kernel
theorem dJ13_bitCount_95d88_34 : decode cJ13_bitCount_95d88 34 = .ok (.lload_n 0, 1) := by decide +kernel
theorem dJ13_bitCount_95d88_35 : decode cJ13_bitCount_95d88 35 = .ok (.lload_n 0, 1) := by decide +kernel
theorem dJ13_bitCount_95d88_36 : decode cJ13_bitCount_95d88 36 = .ok (.bipush 8, 2) := by decide +kernel
theorem dJ13_bitCount_95d88_38 : decode cJ13_bitCount_95d88 38 = .ok (.lushr, 1) := by decide +kernel
theorem dJ13_bitCount_95d88_39 : decode cJ13_bitCount_95d88 39 = .ok (.ladd, 1) := by decide +kernel
theorem dJ13_bitCount_95d88_40 : decode cJ13_bitCount_95d88 40 = .ok (.lstore_n 0, 1) := by decide +kernel
theorem dJ13_bitCount_95d88_41 : decode cJ13_bitCount_95d88 41 = .ok (.lload_n 0, 1) := by decide +kernel
theorem dJ13_bitCount_95d88_42 : decode cJ13_bitCount_95d88 42 = .ok (.lload_n 0, 1) := by decide +kernel
theorem dJ13_bitCount_95d88_43 : decode cJ13_bitCount_95d88 43 = .ok (.bipush 16, 2) := by decide +kernel
theorem dJ13_bitCount_95d88_45 : decode cJ13_bitCount_95d88 45 = .ok (.lushr, 1) := by decide +kernel
theorem dJ13_bitCount_95d88_46 : decode cJ13_bitCount_95d88 46 = .ok (.ladd, 1) := by decide +kernel
theorem dJ13_bitCount_95d88_47 : decode cJ13_bitCount_95d88 47 = .ok (.lstore_n 0, 1) := by decide +kernel
theorem dJ13_bitCount_95d88_48 : decode cJ13_bitCount_95d88 48 = .ok (.lload_n 0, 1) := by decide +kernel
theorem dJ13_bitCount_95d88_49 : decode cJ13_bitCount_95d88 49 = .ok (.lload_n 0, 1) := by decide +kernel
theorem dJ13_bitCount_95d88_50 : decode cJ13_bitCount_95d88 50 = .ok (.bipush 32, 2) := by decide +kernel
theorem dJ13_bitCount_95d88_52 : decode cJ13_bitCount_95d88 52 = .ok (.lushr, 1) := by decide +kernel
theorem dJ13_bitCount_95d88_53 : decode cJ13_bitCount_95d88 53 = .ok (.ladd, 1) := by decide +kernel
theorem dJ13_bitCount_95d88_54 : decode cJ13_bitCount_95d88 54 = .ok (.lstore_n 0, 1) := by decide +kernel
theorem dJ13_bitCount_95d88_55 : decode cJ13_bitCount_95d88 55 = .ok (.lload_n 0, 1) := by decide +kernel
theorem dJ13_bitCount_95d88_56 : decode cJ13_bitCount_95d88 56 = .ok (.l2i, 1) := by decide +kernel
theorem dJ13_bitCount_95d88_57 : decode cJ13_bitCount_95d88 57 = .ok (.bipush 127, 2) := by decide +kernel
theorem dJ13_bitCount_95d88_59 : decode cJ13_bitCount_95d88 59 = .ok (.iand, 1) := by decide +kernel
theorem dJ13_bitCount_95d88_60 : decode cJ13_bitCount_95d88 60 = .ok (.ireturn, 1) := by decide +kernel
theorem dJ9_floorMod_7cf53_0 : decode cJ9_floorMod_7cf53 0 = .ok (.iload_n 0, 1) := by decide +kernel
theorem dJ9_floorMod_7cf53_1 : decode cJ9_floorMod_7cf53 1 = .ok (.iload_n 1, 1) := by decide +kernel
theorem dJ9_floorMod_7cf53_2 : decode cJ9_floorMod_7cf53 2 = .ok (.irem, 1) := by decide +kernel
theorem dJ9_floorMod_7cf53_3 : decode cJ9_floorMod_7cf53 3 = .ok (.istore_n 2, 1) := by decide +kernel
theorem dJ9_floorMod_7cf53_4 : decode cJ9_floorMod_7cf53 4 = .ok (.iload_n 0, 1) := by decide +kernel
theorem dJ9_floorMod_7cf53_5 : decode cJ9_floorMod_7cf53 5 = .ok (.iload_n 1, 1) := by decide +kernel
theorem dJ9_floorMod_7cf53_6 : decode cJ9_floorMod_7cf53 6 = .ok (.ixor, 1) := by decide +kernel
theorem dJ9_floorMod_7cf53_7 : decode cJ9_floorMod_7cf53 7 = .ok (.ifCond .ge 11, 3) := by decide +kernel
theorem dJ9_floorMod_7cf53_10 : decode cJ9_floorMod_7cf53 10 = .ok (.iload_n 2, 1) := by decide +kernel
theorem dJ9_floorMod_7cf53_11 : decode cJ9_floorMod_7cf53 11 = .ok (.ifCond .eq 7, 3) := by decide +kernel
theorem dJ9_floorMod_7cf53_14 : decode cJ9_floorMod_7cf53 14 = .ok (.iload_n 2, 1) := by decide +kernel
theorem dJ9_floorMod_7cf53_15 : decode cJ9_floorMod_7cf53 15 = .ok (.iload_n 1, 1) := by decide +kernel
theorem dJ9_floorMod_7cf53_16 : decode cJ9_floorMod_7cf53 16 = .ok (.iadd, 1) := by decide +kernel
theorem dJ9_floorMod_7cf53_17 : decode cJ9_floorMod_7cf53 17 = .ok (.ireturn, 1) := by decide +kernel
theorem dJ9_floorMod_7cf53_18 : decode cJ9_floorMod_7cf53 18 = .ok (.iload_n 2, 1) := by decide +kernel
theorem dJ9_floorMod_7cf53_19 : decode cJ9_floorMod_7cf53 19 = .ok (.ireturn, 1) := by decide +kernel
theorem dJ9_max_7cf53_0 : decode cJ9_max_7cf53 0 = .ok (.iload_n 0, 1) := by decide +kernel
theorem dJ9_max_7cf53_1 : decode cJ9_max_7cf53 1 = .ok (.iload_n 1, 1) := by decide +kernel
theorem dJ9_max_7cf53_2 : decode cJ9_max_7cf53 2 = .ok (.if_icmp .lt 7, 3) := by decide +kernel
theorem dJ9_max_7cf53_5 : decode cJ9_max_7cf53 5 = .ok (.iload_n 0, 1) := by decide +kernel
theorem dJ9_max_7cf53_6 : decode cJ9_max_7cf53 6 = .ok (.goto 4, 3) := by decide +kernel
theorem dJ9_max_7cf53_9 : decode cJ9_max_7cf53 9 = .ok (.iload_n 1, 1) := by decide +kernel
theorem dJ9_max_7cf53_10 : decode cJ9_max_7cf53 10 = .ok (.ireturn, 1) := by decide +kernel
theorem dJ9_min_7cf53_0 : decode cJ9_min_7cf53 0 = .ok (.iload_n 0, 1) := by decide +kernel
theorem dJ9_min_7cf53_1 : decode cJ9_min_7cf53 1 = .ok (.iload_n 1, 1) := by decide +kernel
theorem dJ9_min_7cf53_2 : decode cJ9_min_7cf53 2 = .ok (.if_icmp .gt 7, 3) := by decide +kernel
theorem dJ9_min_7cf53_5 : decode cJ9_min_7cf53 5 = .ok (.iload_n 0, 1) := by decide +kernel
theorem dJ9_min_7cf53_6 : decode cJ9_min_7cf53 6 = .ok (.goto 4, 3) := by decide +kernel
theorem dJ9_min_7cf53_9 : decode cJ9_min_7cf53 9 = .ok (.iload_n 1, 1) := by decide +kernel
theorem dJ9_min_7cf53_10 : decode cJ9_min_7cf53 10 = .ok (.ireturn, 1) := by decide +kernel
set_option maxRecDepth 20000 in
theorem ggL_law_X6_init : GoodIn wsL_law wsX6_init := goodIn_r _ [9, 10, 11, 12, 13, 14, 15, 16, 17, 18, 19, 20, 21, 22, 23, 24, 25, 26, 27, 28, 29, 30, 31, 32, 33, 34, 35, 36, 37, 38, 39, 40, 41, 42, 43, 44, 45, 46, 47, 48, 49, 50, 51, 765, 766, 767, 768, 769, 770, 771, 772, 773, 774, 775, 776, 777, 811, 812, 813, 814, 815, 816, 817, 818, 819, 820, 821, 822, 823, 824, 825, 826, 827, 828, 829, 830, 831, 832, 833, 834] (by decide +kernel) (by decide +kernel)
set_option maxRecDepth 20000 in
theorem gL_law_X6_init : GoodIn wsL_law (wsX6_init) := ggL_law_X6_init
set_option maxRecDepth 20000 in
theorem ggL_law_X7_init : GoodIn wsL_law wsX7_init := goodIn_r _ [54, 55, 11, 12, 16, 56, 57, 58, 59, 60, 36, 61, 62, 63, 64, 65, 66, 67, 68, 69, 70, 71, 72, 73, 74, 75, 76, 77, 78, 79, 778, 779, 780, 781, 782, 783, 784, 785, 786, 787, 788, 789, 790, 791, 792, 793, 794, 795, 796, 797, 798, 799, 800, 801, 802, 803, 804, 805, 806, 807, 808, 809, 810] (by decide +kernel) (by decide +kernel)
set_option maxRecDepth 20000 in
theorem gL_law_X7_init : GoodIn wsL_law (wsX7_init) := ggL_law_X7_init
set_option maxRecDepth 20000 in
theorem ggL_law_X6_world : GoodIn wsL_law wsX6_world := goodIn_r _ [83, 14, 84, 85, 2, 86, 87, 88, 89, 31, 90, 91, 92, 93, 94, 95, 50, 51, 765, 766, 767, 768, 769, 770, 771, 772, 773, 774, 775, 776, 777, 827, 828, 829, 830, 831, 832, 833, 834] (by decide +kernel) (by decide +kernel)
set_option maxRecDepth 20000 in
theorem gL_law_X6_world : GoodIn wsL_law (wsV RL 13 RX6 yX6_world wsX6_world) := goodIn_app (goodIn_of _ (by decide +kernel)) ggL_law_X6_world
set_option maxRecDepth 20000 in
theorem ggL_law_X7_world : GoodIn wsL_law wsX7_world := goodIn_r _ [99, 100, 101, 102, 103, 5, 104, 105, 106, 107, 108, 109, 110, 111, 57, 58, 59, 60, 61, 62, 778, 779, 780, 781, 782, 783, 784, 785, 786, 787, 788, 789, 790, 791, 792, 793, 794, 795, 796, 797, 798, 799, 800, 801, 802, 803, 804, 805, 806, 807, 808, 809, 810] (by decide +kernel) (by decide +kernel)
set_option maxRecDepth 20000 in
theorem gL_law_X7_world : GoodIn wsL_law (wsV RL 17 RX7 yX7_world wsX7_world) := goodIn_app (goodIn_of _ (by decide +kernel)) ggL_law_X7_world
set_option maxRecDepth 20000 in
theorem ggL_law_X6_line : GoodIn wsL_law wsX6_line := goodIn_r _ [115, 14, 18, 84, 85, 2, 86, 116, 117, 118, 119, 120, 121, 122, 123, 19, 124, 125, 126, 127, 17, 128, 129, 130, 31, 131, 93, 132, 133, 134, 135, 136, 137, 138, 139, 140, 141, 142, 143, 144, 145, 146, 95, 49, 50, 51, 147, 148, 765, 766, 767, 768, 769, 770, 771, 772, 773, 774, 775, 776, 777, 827, 828, 829, 830, 831, 832, 833, 834] (by decide +kernel) (by decide +kernel)
set_option maxRecDepth 20000 in
theorem gL_law_X6_line : GoodIn wsL_law (wsV RL 18 RX6 yX6_line wsX6_line) := goodIn_app (goodIn_of _ (by decide +kernel)) ggL_law_X6_line
set_option maxRecDepth 20000 in
theorem ggL_law_X7_line : GoodIn wsL_law wsX7_line := goodIn_r _ [152, 57, 58, 77, 59, 78, 61, 102, 103, 5, 104, 105, 106, 107, 153, 154, 155, 156, 157, 158, 159, 160, 56, 161, 162, 163, 778, 779, 780, 781, 782, 783, 784, 785, 786, 787, 788, 789, 790, 791, 792, 793, 794, 795, 796, 797, 798, 799, 800, 801, 802, 803, 804, 805, 806, 807, 808, 809, 810] (by decide +kernel) (by decide +kernel)
set_option maxRecDepth 20000 in
theorem gL_law_X7_line : GoodIn wsL_law (wsV RL 21 RX7 yX7_line wsX7_line) := goodIn_app (goodIn_of _ (by decide +kernel)) ggL_law_X7_line
set_option maxRecDepth 20000 in
theorem ggL_law_X6_grid : GoodIn wsL_law wsX6_grid := goodIn_r _ [167, 14, 84, 85, 2, 86, 168, 169, 170, 171, 172, 88, 89, 31, 90, 91, 92, 93, 94, 95, 50, 51, 173, 174, 175, 144, 145, 146, 49, 147, 148, 765, 766, 767, 768, 769, 770, 771, 772, 773, 774, 775, 776, 777, 827, 828, 829, 830, 831, 832, 833, 834] (by decide +kernel) (by decide +kernel)
set_option maxRecDepth 20000 in
theorem gL_law_X6_grid : GoodIn wsL_law (wsV RL 22 RX6 yX6_grid wsX6_grid) := goodIn_app (goodIn_of _ (by decide +kernel)) ggL_law_X6_grid
set_option maxRecDepth 20000 in
theorem ggL_law_X7_grid : GoodIn wsL_law wsX7_grid := goodIn_r _ [179, 100, 101, 102, 103, 5, 104, 105, 106, 107, 180, 181, 182, 183, 62, 108, 109, 110, 111, 57, 58, 59, 60, 61, 778, 779, 780, 781, 782, 783, 784, 785, 786, 787, 788, 789, 790, 791, 792, 793, 794, 795, 796, 797, 798, 799, 800, 801, 802, 803, 804, 805, 806, 807, 808, 809, 810] (by decide +kernel) (by decide +kernel)
set_option maxRecDepth 20000 in
theorem gL_law_X7_grid : GoodIn wsL_law (wsV RL 26 RX7 yX7_grid wsX7_grid) := goodIn_app (goodIn_of _ (by decide +kernel)) ggL_law_X7_grid
set_option maxRecDepth 20000 in
theorem ggL_law_X6_form : GoodIn wsL_law wsX6_form := goodIn_r _ [187, 14, 84, 85, 2, 86, 188, 189, 170, 190, 172, 88, 89, 31, 90, 91, 92, 93, 94, 95, 50, 51, 191, 192, 193, 194, 195, 196, 197, 198, 199, 200, 201, 202, 203, 147, 148, 173, 174, 175, 144, 145, 146, 49, 765, 766, 767, 768, 769, 770, 771, 772, 773, 774, 775, 776, 777, 827, 828, 829, 830, 831, 832, 833, 834] (by decide +kernel) (by decide +kernel)
set_option maxRecDepth 20000 in
theorem gL_law_X6_form : GoodIn wsL_law (wsV RL 27 RX6 yX6_form wsX6_form) := goodIn_app (goodIn_of _ (by decide +kernel)) ggL_law_X6_form
set_option maxRecDepth 20000 in
theorem ggL_law_X7_form : GoodIn wsL_law wsX7_form := goodIn_r _ [207, 100, 101, 63, 208, 102, 103, 5, 104, 105, 106, 107, 209, 210, 211, 212, 213, 214, 215, 216, 180, 181, 182, 183, 62, 108, 109, 110, 111, 57, 58, 59, 60, 61, 778, 779, 780, 781, 782, 783, 784, 785, 786, 787, 788, 789, 790, 791, 792, 793, 794, 795, 796, 797, 798, 799, 800, 801, 802, 803, 804, 805, 806, 807, 808, 809, 810] (by decide +kernel) (by decide +kernel)
set_option maxRecDepth 20000 in
theorem gL_law_X7_form : GoodIn wsL_law (wsV RL 30 RX7 yX7_form wsX7_form) := goodIn_app (goodIn_of _ (by decide +kernel)) ggL_law_X7_form
set_option maxRecDepth 20000 in
theorem ggL_law_X6_dual : GoodIn wsL_law wsX6_dual := goodIn_r _ [220, 14, 32, 84, 85, 2, 86, 119, 120, 121, 122, 123, 19, 221, 222, 223, 31, 224, 93, 50, 225, 226, 227, 228, 229, 137, 138, 139, 140, 141, 142, 230, 231, 170, 232, 172, 88, 89, 90, 91, 92, 94, 95, 51, 175, 144, 145, 146, 49, 147, 148, 233, 234, 235, 236, 765, 766, 767, 768, 769, 770, 771, 772, 773, 774, 775, 776, 777, 827, 828, 829, 830, 831, 832, 833, 834] (by decide +kernel) (by decide +kernel)
set_option maxRecDepth 20000 in
theorem gL_law_X6_dual : GoodIn wsL_law (wsV RL 31 RX6 yX6_dual wsX6_dual) := goodIn_app (goodIn_of _ (by decide +kernel)) ggL_law_X6_dual
set_option maxRecDepth 20000 in
theorem ggL_law_X7_dual : GoodIn wsL_law wsX7_dual := goodIn_r _ [240, 58, 100, 101, 57, 62, 102, 103, 5, 104, 105, 106, 107, 241, 242, 243, 244, 156, 157, 158, 159, 160, 56, 245, 246, 247, 248, 61, 249, 250, 251, 180, 181, 182, 183, 161, 162, 163, 108, 109, 110, 111, 59, 60, 778, 779, 780, 781, 782, 783, 784, 785, 786, 787, 788, 789, 790, 791, 792, 793, 794, 795, 796, 797, 798, 799, 800, 801, 802, 803, 804, 805, 806, 807, 808, 809, 810] (by decide +kernel) (by decide +kernel)
set_option maxRecDepth 20000 in
theorem gL_law_X7_dual : GoodIn wsL_law (wsV RL 34 RX7 yX7_dual wsX7_dual) := goodIn_app (goodIn_of _ (by decide +kernel)) ggL_law_X7_dual
set_option maxRecDepth 20000 in
theorem ggL_law_X6_derive : GoodIn wsL_law wsX6_derive := goodIn_r _ [255, 14, 32, 84, 85, 2, 86, 119, 120, 121, 122, 123, 19, 128, 129, 130, 31, 131, 93, 256, 257, 258, 259, 95, 49, 229, 137, 138, 139, 140, 141, 142, 260, 261, 262, 263, 50, 264, 265, 266, 267, 268, 269, 270, 271, 272, 273, 274, 275, 276, 277, 278, 147, 148, 279, 280, 281, 282, 283, 284, 201, 202, 203, 51, 285, 286, 287, 288, 289, 290, 291, 292, 173, 174, 293, 294, 170, 295, 296, 297, 172, 88, 89, 90, 91, 92, 94, 298, 299, 300, 175, 144, 145, 146, 301, 233, 234, 235, 236, 765, 766, 767, 768, 769, 770, 771, 772, 773, 774, 775, 776, 777, 827, 828, 829, 830, 831, 832, 833, 834] (by decide +kernel) (by decide +kernel)
set_option maxRecDepth 20000 in
theorem gL_law_X6_derive : GoodIn wsL_law (wsV RL 35 RX6 yX6_derive wsX6_derive) := goodIn_app (goodIn_of _ (by decide +kernel)) ggL_law_X6_derive
set_option maxRecDepth 20000 in
theorem ggL_law_X7_derive : GoodIn wsL_law wsX7_derive := goodIn_r _ [305, 208, 100, 101, 58, 61, 57, 102, 103, 5, 104, 105, 106, 107, 241, 242, 243, 244, 156, 157, 158, 159, 160, 56, 306, 307, 308, 309, 310, 311, 312, 313, 245, 246, 247, 248, 249, 250, 251, 161, 162, 163, 314, 315, 316, 317, 318, 319, 320, 321, 322, 323, 324, 325, 326, 327, 328, 329, 330, 331, 332, 333, 334, 335, 336, 337, 338, 339, 340, 341, 342, 180, 181, 182, 183, 62, 108, 109, 110, 111, 59, 60, 778, 779, 780, 781, 782, 783, 784, 785, 786, 787, 788, 789, 790, 791, 792, 793, 794, 795, 796, 797, 798, 799, 800, 801, 802, 803, 804, 805, 806, 807, 808, 809, 810] (by decide +kernel) (by decide +kernel)
set_option maxRecDepth 20000 in
theorem gL_law_X7_derive : GoodIn wsL_law (wsV RL 38 RX7 yX7_derive wsX7_derive) := goodIn_app (goodIn_of _ (by decide +kernel)) ggL_law_X7_derive
set_option maxRecDepth 20000 in
theorem ggL_law_X6_part : GoodIn wsL_law wsX6_part := goodIn_r _ [346, 14, 32, 84, 85, 2, 86, 119, 120, 121, 122, 123, 19, 347, 348, 349, 31, 350, 93, 351, 173, 174, 352, 353, 354, 355, 95, 49, 356, 357, 227, 358, 229, 137, 138, 139, 140, 141, 142, 359, 360, 170, 361, 297, 172, 88, 89, 90, 91, 92, 94, 50, 51, 298, 299, 300, 147, 148, 175, 144, 145, 146, 233, 234, 235, 236, 765, 766, 767, 768, 769, 770, 771, 772, 773, 774, 775, 776, 777, 827, 828, 829, 830, 831, 832, 833, 834] (by decide +kernel) (by decide +kernel)
set_option maxRecDepth 20000 in
theorem gL_law_X6_part : GoodIn wsL_law (wsV RL 41 RX6 yX6_part wsX6_part) := goodIn_app (goodIn_of _ (by decide +kernel)) ggL_law_X6_part
set_option maxRecDepth 20000 in
theorem ggL_law_X7_part : GoodIn wsL_law wsX7_part := goodIn_r _ [365, 208, 100, 101, 58, 61, 102, 103, 5, 104, 105, 106, 107, 241, 242, 243, 244, 57, 156, 157, 158, 159, 160, 56, 336, 337, 338, 339, 161, 162, 163, 340, 341, 342, 249, 250, 251, 180, 181, 182, 183, 62, 108, 109, 110, 111, 59, 60, 778, 779, 780, 781, 782, 783, 784, 785, 786, 787, 788, 789, 790, 791, 792, 793, 794, 795, 796, 797, 798, 799, 800, 801, 802, 803, 804, 805, 806, 807, 808, 809, 810] (by decide +kernel) (by decide +kernel)
set_option maxRecDepth 20000 in
theorem gL_law_X7_part : GoodIn wsL_law (wsV RL 45 RX7 yX7_part wsX7_part) := goodIn_app (goodIn_of _ (by decide +kernel)) ggL_law_X7_part
set_option maxRecDepth 20000 in
theorem ggL_law_X6_drop : GoodIn wsL_law wsX6_drop := goodIn_r _ [369, 14, 84, 85, 2, 86, 119, 120, 121, 122, 123, 19, 765, 766, 767, 768, 769, 770, 771, 772, 773, 774, 775, 776, 777, 827, 828, 829, 830, 831, 832, 833, 834] (by decide +kernel) (by decide +kernel)
set_option maxRecDepth 20000 in
theorem gL_law_X6_drop : GoodIn wsL_law (wsV RL 46 RX6 yX6_drop wsX6_drop) := goodIn_app (goodIn_of _ (by decide +kernel)) ggL_law_X6_drop
set_option maxRecDepth 20000 in
theorem ggL_law_X7_drop : GoodIn wsL_law wsX7_drop := goodIn_r _ [373, 57, 241, 242, 243, 5, 244, 102, 103, 104, 105, 106, 107, 156, 157, 158, 159, 160, 56, 778, 779, 780, 781, 782, 783, 784, 785, 786, 787, 788, 789, 790, 791, 792, 793, 794, 795, 796, 797, 798, 799, 800, 801, 802, 803, 804, 805, 806, 807, 808, 809, 810] (by decide +kernel) (by decide +kernel)
set_option maxRecDepth 20000 in
theorem gL_law_X7_drop : GoodIn wsL_law (wsV RL 50 RX7 yX7_drop wsX7_drop) := goodIn_app (goodIn_of _ (by decide +kernel)) ggL_law_X7_drop
set_option maxRecDepth 20000 in
theorem ggL_law_X6_told : GoodIn wsL_law wsX6_told := goodIn_r _ [377, 14, 84, 85, 2, 86, 119, 120, 121, 122, 123, 19, 256, 257, 258, 31, 259, 95, 49, 229, 137, 138, 139, 140, 141, 142, 260, 261, 262, 263, 50, 93, 765, 766, 767, 768, 769, 770, 771, 772, 773, 774, 775, 776, 777, 827, 828, 829, 830, 831, 832, 833, 834] (by decide +kernel) (by decide +kernel)
set_option maxRecDepth 20000 in
theorem gL_law_X6_told : GoodIn wsL_law (wsV RL 51 RX6 yX6_told wsX6_told) := goodIn_app (goodIn_of _ (by decide +kernel)) ggL_law_X6_told
set_option maxRecDepth 20000 in
theorem ggL_law_X7_told : GoodIn wsL_law wsX7_told := goodIn_r _ [381, 59, 57, 58, 105, 106, 5, 107, 241, 242, 243, 244, 102, 103, 104, 156, 157, 158, 159, 160, 56, 310, 311, 312, 313, 61, 245, 246, 247, 248, 249, 250, 251, 161, 162, 163, 778, 779, 780, 781, 782, 783, 784, 785, 786, 787, 788, 789, 790, 791, 792, 793, 794, 795, 796, 797, 798, 799, 800, 801, 802, 803, 804, 805, 806, 807, 808, 809, 810] (by decide +kernel) (by decide +kernel)
set_option maxRecDepth 20000 in
theorem gL_law_X7_told : GoodIn wsL_law (wsV RL 54 RX7 yX7_told wsX7_told) := goodIn_app (goodIn_of _ (by decide +kernel)) ggL_law_X7_told
set_option maxRecDepth 20000 in
theorem ggL_law_X6_mark : GoodIn wsL_law wsX6_mark := goodIn_r _ [385, 14, 84, 85, 2, 86, 119, 120, 121, 122, 123, 19, 136, 137, 138, 139, 140, 141, 142, 765, 766, 767, 768, 769, 770, 771, 772, 773, 774, 775, 776, 777, 827, 828, 829, 830, 831, 832, 833, 834] (by decide +kernel) (by decide +kernel)
set_option maxRecDepth 20000 in
theorem gL_law_X6_mark : GoodIn wsL_law (wsV RL 55 RX6 yX6_mark wsX6_mark) := goodIn_app (goodIn_of _ (by decide +kernel)) ggL_law_X6_mark
set_option maxRecDepth 20000 in
theorem ggL_law_X7_mark : GoodIn wsL_law wsX7_mark := goodIn_r _ [389, 59, 60, 105, 106, 5, 107, 241, 242, 243, 244, 57, 102, 103, 104, 156, 157, 158, 159, 160, 56, 245, 246, 247, 248, 58, 61, 249, 250, 251, 161, 162, 163, 778, 779, 780, 781, 782, 783, 784, 785, 786, 787, 788, 789, 790, 791, 792, 793, 794, 795, 796, 797, 798, 799, 800, 801, 802, 803, 804, 805, 806, 807, 808, 809, 810] (by decide +kernel) (by decide +kernel)
set_option maxRecDepth 20000 in
theorem gL_law_X7_mark : GoodIn wsL_law (wsV RL 58 RX7 yX7_mark wsX7_mark) := goodIn_app (goodIn_of _ (by decide +kernel)) ggL_law_X7_mark
set_option maxRecDepth 20000 in
theorem ggL_law_X6_points : GoodIn wsL_law wsX6_points := goodIn_r _ [393, 14, 84, 85, 2, 86, 119, 120, 121, 122, 123, 19, 394, 395, 396, 397, 398, 136, 137, 138, 139, 140, 141, 142, 765, 766, 767, 768, 769, 770, 771, 772, 773, 774, 775, 776, 777, 827, 828, 829, 830, 831, 832, 833, 834] (by decide +kernel) (by decide +kernel)
set_option maxRecDepth 20000 in
theorem gL_law_X6_points : GoodIn wsL_law (wsV RL 59 RX6 yX6_points wsX6_points) := goodIn_app (goodIn_of _ (by decide +kernel)) ggL_law_X6_points
set_option maxRecDepth 20000 in
theorem ggL_law_X7_points : GoodIn wsL_law wsX7_points := goodIn_r _ [402, 58, 61, 241, 242, 243, 5, 244, 57, 102, 103, 104, 105, 106, 107, 156, 157, 158, 159, 160, 56, 161, 162, 163, 403, 404, 405, 406, 407, 778, 779, 780, 781, 782, 783, 784, 785, 786, 787, 788, 789, 790, 791, 792, 793, 794, 795, 796, 797, 798, 799, 800, 801, 802, 803, 804, 805, 806, 807, 808, 809, 810] (by decide +kernel) (by decide +kernel)
set_option maxRecDepth 20000 in
theorem gL_law_X7_points : GoodIn wsL_law (wsV RL 62 RX7 yX7_points wsX7_points) := goodIn_app (goodIn_of _ (by decide +kernel)) ggL_law_X7_points
set_option maxRecDepth 20000 in
theorem ggL_law_X6_lines : GoodIn wsL_law wsX6_lines := goodIn_r _ [411, 14, 84, 85, 2, 86, 119, 120, 121, 122, 123, 19, 128, 129, 130, 31, 131, 93, 394, 395, 396, 397, 398, 136, 137, 138, 139, 140, 141, 142, 765, 766, 767, 768, 769, 770, 771, 772, 773, 774, 775, 776, 777, 827, 828, 829, 830, 831, 832, 833, 834] (by decide +kernel) (by decide +kernel)
set_option maxRecDepth 20000 in
theorem gL_law_X6_lines : GoodIn wsL_law (wsV RL 63 RX6 yX6_lines wsX6_lines) := goodIn_app (goodIn_of _ (by decide +kernel)) ggL_law_X6_lines
set_option maxRecDepth 20000 in
theorem ggL_law_X7_lines : GoodIn wsL_law wsX7_lines := goodIn_r _ [415, 241, 242, 243, 5, 244, 57, 102, 103, 104, 105, 106, 107, 156, 157, 158, 159, 160, 56, 306, 307, 308, 309, 245, 246, 247, 248, 58, 61, 249, 250, 251, 161, 162, 163, 403, 404, 405, 406, 407, 778, 779, 780, 781, 782, 783, 784, 785, 786, 787, 788, 789, 790, 791, 792, 793, 794, 795, 796, 797, 798, 799, 800, 801, 802, 803, 804, 805, 806, 807, 808, 809, 810] (by decide +kernel) (by decide +kernel)
set_option maxRecDepth 20000 in
theorem gL_law_X7_lines : GoodIn wsL_law (wsV RL 66 RX7 yX7_lines wsX7_lines) := goodIn_app (goodIn_of _ (by decide +kernel)) ggL_law_X7_lines
set_option maxRecDepth 20000 in
theorem ggL_law_X6_fault : GoodIn wsL_law wsX6_fault := goodIn_r _ [419, 14, 398, 84, 85, 2, 86, 119, 120, 121, 122, 123, 19, 264, 265, 266, 267, 268, 269, 270, 271, 137, 138, 139, 140, 141, 142, 272, 273, 274, 275, 276, 277, 31, 278, 93, 50, 147, 148, 420, 421, 422, 423, 424, 425, 765, 766, 767, 768, 769, 770, 771, 772, 773, 774, 775, 776, 777, 827, 828, 829, 830, 831, 832, 833, 834] (by decide +kernel) (by decide +kernel)
set_option maxRecDepth 20000 in
theorem gL_law_X6_fault : GoodIn wsL_law (wsV RL 67 RX6 yX6_fault wsX6_fault) := goodIn_app (goodIn_of _ (by decide +kernel)) ggL_law_X6_fault
set_option maxRecDepth 20000 in
theorem ggL_law_X7_fault : GoodIn wsL_law wsX7_fault := goodIn_r _ [429, 319, 241, 242, 243, 5, 244, 57, 102, 103, 104, 105, 106, 107, 156, 157, 158, 159, 160, 56, 314, 315, 316, 317, 58, 61, 318, 161, 162, 163, 249, 250, 251, 403, 404, 405, 406, 407, 778, 779, 780, 781, 782, 783, 784, 785, 786, 787, 788, 789, 790, 791, 792, 793, 794, 795, 796, 797, 798, 799, 800, 801, 802, 803, 804, 805, 806, 807, 808, 809, 810] (by decide +kernel) (by decide +kernel)
set_option maxRecDepth 20000 in
theorem gL_law_X7_fault : GoodIn wsL_law (wsV RL 70 RX7 yX7_fault wsX7_fault) := goodIn_app (goodIn_of _ (by decide +kernel)) ggL_law_X7_fault
set_option maxRecDepth 20000 in
theorem ggL_law_X6_mean : GoodIn wsL_law wsX6_mean := goodIn_r _ [433, 14, 84, 85, 2, 86, 119, 120, 121, 122, 123, 19, 136, 137, 138, 139, 140, 141, 142, 765, 766, 767, 768, 769, 770, 771, 772, 773, 774, 775, 776, 777, 827, 828, 829, 830, 831, 832, 833, 834] (by decide +kernel) (by decide +kernel)
set_option maxRecDepth 20000 in
theorem gL_law_X6_mean : GoodIn wsL_law (wsV RL 71 RX6 yX6_mean wsX6_mean) := goodIn_app (goodIn_of _ (by decide +kernel)) ggL_law_X6_mean
set_option maxRecDepth 20000 in
theorem ggL_law_X7_mean : GoodIn wsL_law wsX7_mean := goodIn_r _ [437, 58, 61, 241, 242, 243, 5, 244, 57, 102, 103, 104, 105, 106, 107, 156, 157, 158, 159, 160, 56, 161, 162, 163, 778, 779, 780, 781, 782, 783, 784, 785, 786, 787, 788, 789, 790, 791, 792, 793, 794, 795, 796, 797, 798, 799, 800, 801, 802, 803, 804, 805, 806, 807, 808, 809, 810] (by decide +kernel) (by decide +kernel)
set_option maxRecDepth 20000 in
theorem gL_law_X7_mean : GoodIn wsL_law (wsV RL 74 RX7 yX7_mean wsX7_mean) := goodIn_app (goodIn_of _ (by decide +kernel)) ggL_law_X7_mean
set_option maxRecDepth 20000 in
theorem ggL_law_X6_perp : GoodIn wsL_law wsX6_perp := goodIn_r _ [441, 14, 84, 85, 2, 86, 119, 120, 121, 122, 123, 19, 347, 348, 349, 31, 350, 93, 351, 173, 174, 442, 290, 291, 292, 51, 147, 148, 394, 395, 396, 397, 398, 136, 137, 138, 139, 140, 141, 142, 765, 766, 767, 768, 769, 770, 771, 772, 773, 774, 775, 776, 777, 827, 828, 829, 830, 831, 832, 833, 834] (by decide +kernel) (by decide +kernel)
set_option maxRecDepth 20000 in
theorem gL_law_X6_perp : GoodIn wsL_law (wsV RL 75 RX6 yX6_perp wsX6_perp) := goodIn_app (goodIn_of _ (by decide +kernel)) ggL_law_X6_perp
set_option maxRecDepth 20000 in
theorem ggL_law_X7_perp : GoodIn wsL_law wsX7_perp := goodIn_r _ [446, 208, 241, 242, 243, 5, 244, 57, 102, 103, 104, 105, 106, 107, 156, 157, 158, 159, 160, 56, 336, 337, 338, 339, 332, 333, 334, 335, 249, 250, 251, 324, 325, 326, 327, 58, 61, 161, 162, 163, 403, 404, 405, 406, 407, 778, 779, 780, 781, 782, 783, 784, 785, 786, 787, 788, 789, 790, 791, 792, 793, 794, 795, 796, 797, 798, 799, 800, 801, 802, 803, 804, 805, 806, 807, 808, 809, 810] (by decide +kernel) (by decide +kernel)
set_option maxRecDepth 20000 in
theorem gL_law_X7_perp : GoodIn wsL_law (wsV RL 79 RX7 yX7_perp wsX7_perp) := goodIn_app (goodIn_of _ (by decide +kernel)) ggL_law_X7_perp
set_option maxRecDepth 20000 in
theorem ggL_law_X6_span : GoodIn wsL_law wsX6_span := goodIn_r _ [450, 14, 84, 85, 2, 86, 119, 120, 121, 122, 123, 19, 128, 129, 130, 31, 131, 93, 451, 201, 202, 203, 51, 147, 148, 452, 286, 287, 288, 289, 290, 291, 292, 173, 174, 394, 395, 396, 397, 398, 136, 137, 138, 139, 140, 141, 142, 765, 766, 767, 768, 769, 770, 771, 772, 773, 774, 775, 776, 777, 827, 828, 829, 830, 831, 832, 833, 834] (by decide +kernel) (by decide +kernel)
set_option maxRecDepth 20000 in
theorem gL_law_X6_span : GoodIn wsL_law (wsV RL 80 RX6 yX6_span wsX6_span) := goodIn_app (goodIn_of _ (by decide +kernel)) ggL_law_X6_span
set_option maxRecDepth 20000 in
theorem ggL_law_X7_span : GoodIn wsL_law wsX7_span := goodIn_r _ [456, 241, 242, 243, 5, 244, 57, 102, 103, 104, 105, 106, 107, 156, 157, 158, 159, 160, 56, 306, 307, 308, 309, 324, 325, 326, 327, 58, 61, 249, 250, 251, 328, 329, 330, 331, 332, 333, 334, 335, 208, 336, 337, 338, 339, 161, 162, 163, 403, 404, 405, 406, 407, 778, 779, 780, 781, 782, 783, 784, 785, 786, 787, 788, 789, 790, 791, 792, 793, 794, 795, 796, 797, 798, 799, 800, 801, 802, 803, 804, 805, 806, 807, 808, 809, 810] (by decide +kernel) (by decide +kernel)
set_option maxRecDepth 20000 in
theorem gL_law_X7_span : GoodIn wsL_law (wsV RL 83 RX7 yX7_span wsX7_span) := goodIn_app (goodIn_of _ (by decide +kernel)) ggL_law_X7_span
set_option maxRecDepth 20000 in
theorem ggL_law_X6_regular : GoodIn wsL_law wsX6_regular := goodIn_r _ [460, 14, 84, 85, 2, 86, 119, 120, 121, 122, 123, 19, 128, 129, 130, 31, 131, 93, 260, 261, 262, 263, 95, 50, 229, 137, 138, 139, 140, 141, 142, 279, 280, 281, 282, 283, 284, 201, 202, 203, 51, 147, 148, 285, 286, 287, 288, 289, 290, 291, 292, 173, 174, 765, 766, 767, 768, 769, 770, 771, 772, 773, 774, 775, 776, 777, 827, 828, 829, 830, 831, 832, 833, 834] (by decide +kernel) (by decide +kernel)
set_option maxRecDepth 20000 in
theorem gL_law_X6_regular : GoodIn wsL_law (wsV RL 84 RX6 yX6_regular wsX6_regular) := goodIn_app (goodIn_of _ (by decide +kernel)) ggL_law_X6_regular
set_option maxRecDepth 20000 in
theorem ggL_law_X7_regular : GoodIn wsL_law wsX7_regular := goodIn_r _ [464, 241, 242, 243, 5, 244, 57, 102, 103, 104, 105, 106, 107, 156, 157, 158, 159, 160, 56, 306, 307, 308, 309, 310, 311, 312, 313, 58, 61, 245, 246, 247, 248, 249, 250, 251, 161, 162, 163, 320, 321, 322, 323, 324, 325, 326, 327, 328, 329, 330, 331, 332, 333, 334, 335, 208, 336, 337, 338, 339, 778, 779, 780, 781, 782, 783, 784, 785, 786, 787, 788, 789, 790, 791, 792, 793, 794, 795, 796, 797, 798, 799, 800, 801, 802, 803, 804, 805, 806, 807, 808, 809, 810] (by decide +kernel) (by decide +kernel)
set_option maxRecDepth 20000 in
theorem gL_law_X7_regular : GoodIn wsL_law (wsV RL 87 RX7 yX7_regular wsX7_regular) := goodIn_app (goodIn_of _ (by decide +kernel)) ggL_law_X7_regular
set_option maxRecDepth 20000 in
theorem ggL_law_X6_centres : GoodIn wsL_law wsX6_centres := goodIn_r _ [468, 14, 84, 85, 2, 86, 119, 120, 121, 122, 123, 19, 128, 129, 130, 31, 131, 93, 136, 137, 138, 139, 140, 141, 142, 765, 766, 767, 768, 769, 770, 771, 772, 773, 774, 775, 776, 777, 827, 828, 829, 830, 831, 832, 833, 834] (by decide +kernel) (by decide +kernel)
set_option maxRecDepth 20000 in
theorem gL_law_X6_centres : GoodIn wsL_law (wsV RL 88 RX6 yX6_centres wsX6_centres) := goodIn_app (goodIn_of _ (by decide +kernel)) ggL_law_X6_centres
set_option maxRecDepth 20000 in
theorem ggL_law_X7_centres : GoodIn wsL_law wsX7_centres := goodIn_r _ [472, 241, 242, 243, 5, 244, 57, 102, 103, 104, 105, 106, 107, 156, 157, 158, 159, 160, 56, 306, 307, 308, 309, 332, 333, 334, 335, 208, 336, 337, 338, 339, 249, 250, 251, 324, 325, 326, 327, 58, 61, 161, 162, 163, 778, 779, 780, 781, 782, 783, 784, 785, 786, 787, 788, 789, 790, 791, 792, 793, 794, 795, 796, 797, 798, 799, 800, 801, 802, 803, 804, 805, 806, 807, 808, 809, 810] (by decide +kernel) (by decide +kernel)
set_option maxRecDepth 20000 in
theorem gL_law_X7_centres : GoodIn wsL_law (wsV RL 92 RX7 yX7_centres wsX7_centres) := goodIn_app (goodIn_of _ (by decide +kernel)) ggL_law_X7_centres
set_option maxRecDepth 20000 in
theorem ggL_law_X6_ovoid : GoodIn wsL_law wsX6_ovoid := goodIn_r _ [476, 14, 25, 84, 85, 2, 86, 477, 478, 479, 480, 119, 120, 121, 122, 123, 19, 481, 482, 483, 24, 484, 485, 486, 487, 488, 489, 37, 38, 490, 39, 173, 174, 491, 492, 493, 494, 495, 496, 497, 498, 136, 137, 138, 139, 140, 141, 142, 147, 148, 499, 500, 501, 502, 503, 504, 505, 506, 507, 394, 395, 396, 397, 398, 765, 766, 767, 768, 769, 770, 771, 772, 773, 774, 775, 776, 777, 827, 828, 829, 830, 831, 832, 833, 834, 811, 812, 813, 814, 815, 816, 817, 818, 819] (by decide +kernel) (by decide +kernel)
set_option maxRecDepth 20000 in
theorem gL_law_X6_ovoid : GoodIn wsL_law (wsV RL 93 RX6 yX6_ovoid wsX6_ovoid) := goodIn_app (goodIn_of _ (by decide +kernel)) ggL_law_X6_ovoid
set_option maxRecDepth 20000 in
theorem ggL_law_X7_ovoid : GoodIn wsL_law wsX7_ovoid := goodIn_r _ [511, 512, 513, 514, 5, 515, 516, 517, 518, 67, 102, 103, 104, 105, 106, 107, 241, 242, 243, 244, 57, 156, 157, 158, 159, 160, 56, 519, 520, 521, 522, 58, 523, 524, 65, 61, 66, 64, 245, 246, 247, 248, 249, 250, 251, 525, 526, 527, 528, 68, 69, 529, 530, 531, 532, 403, 404, 405, 406, 407, 778, 779, 780, 781, 782, 783, 784, 785, 786, 787, 788, 789, 790, 791, 792, 793, 794, 795, 796, 797, 798, 799, 800, 801, 802, 803, 804, 805, 806, 807, 808, 809, 810] (by decide +kernel) (by decide +kernel)
set_option maxRecDepth 20000 in
theorem gL_law_X7_ovoid : GoodIn wsL_law (wsV RL 96 RX7 yX7_ovoid wsX7_ovoid) := goodIn_app (goodIn_of _ (by decide +kernel)) ggL_law_X7_ovoid
set_option maxRecDepth 20000 in
theorem ggL_law_X6_spread : GoodIn wsL_law wsX6_spread := goodIn_r _ [536, 14, 25, 84, 85, 2, 86, 477, 478, 479, 480, 119, 120, 121, 122, 123, 19, 481, 482, 483, 24, 484, 485, 486, 487, 488, 489, 37, 38, 490, 39, 173, 174, 491, 492, 493, 494, 495, 496, 497, 498, 136, 137, 138, 139, 140, 141, 142, 147, 148, 499, 500, 501, 502, 503, 504, 505, 506, 507, 394, 395, 396, 397, 398, 765, 766, 767, 768, 769, 770, 771, 772, 773, 774, 775, 776, 777, 827, 828, 829, 830, 831, 832, 833, 834, 811, 812, 813, 814, 815, 816, 817, 818, 819] (by decide +kernel) (by decide +kernel)
set_option maxRecDepth 20000 in
theorem gL_law_X6_spread : GoodIn wsL_law (wsV RL 97 RX6 yX6_spread wsX6_spread) := goodIn_app (goodIn_of _ (by decide +kernel)) ggL_law_X6_spread
set_option maxRecDepth 20000 in
theorem ggL_law_X7_spread : GoodIn wsL_law wsX7_spread := goodIn_r _ [540, 512, 513, 514, 5, 515, 516, 517, 518, 67, 102, 103, 104, 105, 106, 107, 241, 242, 243, 244, 57, 156, 157, 158, 159, 160, 56, 519, 520, 521, 522, 58, 523, 524, 65, 61, 66, 64, 245, 246, 247, 248, 249, 250, 251, 525, 526, 527, 528, 68, 69, 529, 530, 531, 532, 403, 404, 405, 406, 407, 778, 779, 780, 781, 782, 783, 784, 785, 786, 787, 788, 789, 790, 791, 792, 793, 794, 795, 796, 797, 798, 799, 800, 801, 802, 803, 804, 805, 806, 807, 808, 809, 810] (by decide +kernel) (by decide +kernel)
set_option maxRecDepth 20000 in
theorem gL_law_X7_spread : GoodIn wsL_law (wsV RL 100 RX7 yX7_spread wsX7_spread) := goodIn_app (goodIn_of _ (by decide +kernel)) ggL_law_X7_spread
set_option maxRecDepth 20000 in
theorem ggL_law_X6_ovoids : GoodIn wsL_law wsX6_ovoids := goodIn_r _ [544, 14, 25, 507, 398, 84, 85, 2, 86, 477, 478, 479, 480, 119, 120, 121, 122, 123, 19, 481, 482, 483, 24, 484, 485, 486, 487, 488, 489, 37, 38, 490, 39, 173, 174, 491, 492, 493, 494, 495, 496, 497, 498, 136, 137, 138, 139, 140, 141, 142, 147, 148, 499, 500, 501, 502, 765, 766, 767, 768, 769, 770, 771, 772, 773, 774, 775, 776, 777, 827, 828, 829, 830, 831, 832, 833, 834, 811, 812, 813, 814, 815, 816, 817, 818, 819] (by decide +kernel) (by decide +kernel)
set_option maxRecDepth 20000 in
theorem gL_law_X6_ovoids : GoodIn wsL_law (wsV RL 101 RX6 yX6_ovoids wsX6_ovoids) := goodIn_app (goodIn_of _ (by decide +kernel)) ggL_law_X6_ovoids
set_option maxRecDepth 20000 in
theorem ggL_law_X7_ovoids : GoodIn wsL_law wsX7_ovoids := goodIn_r _ [548, 516, 517, 102, 103, 5, 104, 105, 106, 107, 241, 242, 243, 244, 57, 156, 157, 158, 159, 160, 56, 519, 520, 521, 522, 58, 523, 524, 65, 61, 66, 64, 245, 246, 247, 248, 249, 250, 251, 525, 526, 527, 528, 518, 68, 69, 67, 529, 530, 531, 532, 403, 404, 405, 406, 407, 778, 779, 780, 781, 782, 783, 784, 785, 786, 787, 788, 789, 790, 791, 792, 793, 794, 795, 796, 797, 798, 799, 800, 801, 802, 803, 804, 805, 806, 807, 808, 809, 810] (by decide +kernel) (by decide +kernel)
set_option maxRecDepth 20000 in
theorem gL_law_X7_ovoids : GoodIn wsL_law (wsV RL 104 RX7 yX7_ovoids wsX7_ovoids) := goodIn_app (goodIn_of _ (by decide +kernel)) ggL_law_X7_ovoids
set_option maxRecDepth 20000 in
theorem ggL_law_X6_tries : GoodIn wsL_law wsX6_tries := goodIn_r _ [552, 507, 765, 766, 767, 768, 769, 770, 771, 772, 773, 774, 775, 776, 777] (by decide +kernel) (by decide +kernel)
set_option maxRecDepth 20000 in
theorem gL_law_X6_tries : GoodIn wsL_law (wsV RL 105 RX6 yX6_tries wsX6_tries) := goodIn_app (goodIn_of _ (by decide +kernel)) ggL_law_X6_tries
set_option maxRecDepth 20000 in
theorem ggL_law_X7_tries : GoodIn wsL_law wsX7_tries := goodIn_r _ [556, 517, 778, 779, 780, 781, 782, 783, 784, 785, 786, 787, 788, 789, 790, 791, 792, 793, 794, 795, 796, 797, 798, 799, 800, 801, 802, 803, 804, 805, 806, 807, 808, 809, 810] (by decide +kernel) (by decide +kernel)
set_option maxRecDepth 20000 in
theorem gL_law_X7_tries : GoodIn wsL_law (wsV RL 109 RX7 yX7_tries wsX7_tries) := goodIn_app (goodIn_of _ (by decide +kernel)) ggL_law_X7_tries
set_option maxRecDepth 20000 in
theorem ggL_law_X6_meets : GoodIn wsL_law wsX6_meets := goodIn_r _ [560, 14, 84, 85, 2, 86, 119, 120, 121, 122, 123, 19, 347, 348, 349, 31, 350, 93, 351, 173, 174, 352, 353, 354, 355, 95, 49, 356, 357, 227, 358, 229, 137, 138, 139, 140, 141, 142, 561, 562, 563, 564, 225, 226, 228, 765, 766, 767, 768, 769, 770, 771, 772, 773, 774, 775, 776, 777, 827, 828, 829, 830, 831, 832, 833, 834] (by decide +kernel) (by decide +kernel)
set_option maxRecDepth 20000 in
theorem gL_law_X6_meets : GoodIn wsL_law (wsV RL 110 RX6 yX6_meets wsX6_meets) := goodIn_app (goodIn_of _ (by decide +kernel)) ggL_law_X6_meets
set_option maxRecDepth 20000 in
theorem ggL_law_X7_meets_ : GoodIn wsL_law wsX7_meets_ := goodIn_r _ [568, 208, 58, 61, 241, 242, 243, 5, 244, 57, 102, 103, 104, 105, 106, 107, 156, 157, 158, 159, 160, 56, 336, 337, 338, 339, 161, 162, 163, 778, 779, 780, 781, 782, 783, 784, 785, 786, 787, 788, 789, 790, 791, 792, 793, 794, 795, 796, 797, 798, 799, 800, 801, 802, 803, 804, 805, 806, 807, 808, 809, 810] (by decide +kernel) (by decide +kernel)
set_option maxRecDepth 20000 in
theorem gL_law_X7_meets_ : GoodIn wsL_law (wsV RL 114 RX7 yX7_meets_ wsX7_meets_) := goodIn_app (goodIn_of _ (by decide +kernel)) ggL_law_X7_meets_
set_option maxRecDepth 20000 in
theorem ggL_law_X6_rank : GoodIn wsL_law wsX6_rank := goodIn_r _ [572, 14, 21, 84, 85, 2, 86, 119, 120, 121, 122, 123, 19, 573, 574, 575, 576, 147, 148, 577, 578, 579, 580, 581, 582, 583, 584, 585, 586, 587, 588, 589, 590, 591, 592, 765, 766, 767, 768, 769, 770, 771, 772, 773, 774, 775, 776, 777, 827, 828, 829, 830, 831, 832, 833, 834] (by decide +kernel) (by decide +kernel)
set_option maxRecDepth 20000 in
theorem gL_law_X6_rank : GoodIn wsL_law (wsV RL 115 RX6 yX6_rank wsX6_rank) := goodIn_app (goodIn_of _ (by decide +kernel)) ggL_law_X6_rank
set_option maxRecDepth 20000 in
theorem ggL_law_X7_rank : GoodIn wsL_law wsX7_rank := goodIn_r _ [596, 58, 57, 70, 61, 241, 242, 243, 5, 244, 102, 103, 104, 105, 106, 107, 156, 157, 158, 159, 160, 56, 249, 250, 251, 597, 598, 599, 600, 601, 602, 603, 604, 778, 779, 780, 781, 782, 783, 784, 785, 786, 787, 788, 789, 790, 791, 792, 793, 794, 795, 796, 797, 798, 799, 800, 801, 802, 803, 804, 805, 806, 807, 808, 809, 810] (by decide +kernel) (by decide +kernel)
set_option maxRecDepth 20000 in
theorem gL_law_X7_rank : GoodIn wsL_law (wsV RL 118 RX7 yX7_rank wsX7_rank) := goodIn_app (goodIn_of _ (by decide +kernel)) ggL_law_X7_rank
set_option maxRecDepth 20000 in
theorem ggL_law_X6_alike : GoodIn wsL_law wsX6_alike := goodIn_r _ [608, 14, 29, 507, 609, 20, 610, 611, 612, 613, 84, 85, 2, 86, 477, 478, 479, 480, 119, 120, 121, 122, 123, 19, 614, 615, 616, 28, 617, 618, 619, 620, 621, 44, 622, 45, 623, 624, 625, 626, 627, 628, 629, 630, 631, 173, 174, 632, 633, 634, 635, 43, 147, 148, 636, 637, 638, 639, 137, 138, 139, 140, 141, 142, 640, 641, 642, 643, 497, 498, 136, 765, 766, 767, 768, 769, 770, 771, 772, 773, 774, 775, 776, 777, 827, 828, 829, 830, 831, 832, 833, 834, 820, 821, 822, 823, 824, 825, 826] (by decide +kernel) (by decide +kernel)
set_option maxRecDepth 20000 in
theorem gL_law_X6_alike : GoodIn wsL_law (wsV RL 119 RX6 yX6_alike wsX6_alike) := goodIn_app (goodIn_of _ (by decide +kernel)) ggL_law_X6_alike
set_option maxRecDepth 20000 in
theorem ggL_law_X7_alike : GoodIn wsL_law wsX7_alike := goodIn_r _ [647, 516, 57, 517, 58, 73, 74, 75, 76, 72, 71, 102, 103, 5, 104, 105, 106, 107, 156, 157, 158, 159, 160, 56, 324, 325, 326, 327, 61, 249, 250, 251, 245, 246, 247, 248, 161, 162, 163, 648, 649, 650, 651, 652, 653, 654, 655, 778, 779, 780, 781, 782, 783, 784, 785, 786, 787, 788, 789, 790, 791, 792, 793, 794, 795, 796, 797, 798, 799, 800, 801, 802, 803, 804, 805, 806, 807, 808, 809, 810] (by decide +kernel) (by decide +kernel)
set_option maxRecDepth 20000 in
theorem gL_law_X7_alike : GoodIn wsL_law (wsV RL 122 RX7 yX7_alike wsX7_alike) := goodIn_app (goodIn_of _ (by decide +kernel)) ggL_law_X7_alike
set_option maxRecDepth 20000 in
theorem ggL_law_X6_sent : GoodIn wsL_law wsX6_sent := goodIn_r _ [659, 609, 20, 765, 766, 767, 768, 769, 770, 771, 772, 773, 774, 775, 776, 777] (by decide +kernel) (by decide +kernel)
set_option maxRecDepth 20000 in
theorem gL_law_X6_sent : GoodIn wsL_law (wsV RL 123 RX6 yX6_sent wsX6_sent) := goodIn_app (goodIn_of _ (by decide +kernel)) ggL_law_X6_sent
set_option maxRecDepth 20000 in
theorem ggL_law_X7_sent : GoodIn wsL_law wsX7_sent := goodIn_r _ [663, 71, 105, 106, 5, 107, 778, 779, 780, 781, 782, 783, 784, 785, 786, 787, 788, 789, 790, 791, 792, 793, 794, 795, 796, 797, 798, 799, 800, 801, 802, 803, 804, 805, 806, 807, 808, 809, 810] (by decide +kernel) (by decide +kernel)
set_option maxRecDepth 20000 in
theorem gL_law_X7_sent : GoodIn wsL_law (wsV RL 126 RX7 yX7_sent wsX7_sent) := goodIn_app (goodIn_of _ (by decide +kernel)) ggL_law_X7_sent
set_option maxRecDepth 20000 in
theorem ggL_law_X6_far : GoodIn wsL_law wsX6_far := goodIn_r _ [667, 14, 84, 85, 2, 86, 119, 120, 121, 122, 123, 19, 128, 129, 130, 31, 131, 93, 668, 669, 670, 671, 51, 147, 148, 765, 766, 767, 768, 769, 770, 771, 772, 773, 774, 775, 776, 777, 827, 828, 829, 830, 831, 832, 833, 834] (by decide +kernel) (by decide +kernel)
set_option maxRecDepth 20000 in
theorem gL_law_X6_far : GoodIn wsL_law (wsV RL 127 RX6 yX6_far wsX6_far) := goodIn_app (goodIn_of _ (by decide +kernel)) ggL_law_X6_far
set_option maxRecDepth 20000 in
theorem ggL_law_X7_far : GoodIn wsL_law wsX7_far := goodIn_r _ [675, 57, 241, 242, 243, 5, 244, 102, 103, 104, 105, 106, 107, 156, 157, 158, 159, 160, 56, 306, 307, 308, 309, 249, 250, 251, 324, 325, 326, 327, 58, 61, 778, 779, 780, 781, 782, 783, 784, 785, 786, 787, 788, 789, 790, 791, 792, 793, 794, 795, 796, 797, 798, 799, 800, 801, 802, 803, 804, 805, 806, 807, 808, 809, 810] (by decide +kernel) (by decide +kernel)
set_option maxRecDepth 20000 in
theorem gL_law_X7_far : GoodIn wsL_law (wsV RL 130 RX7 yX7_far wsX7_far) := goodIn_app (goodIn_of _ (by decide +kernel)) ggL_law_X7_far
set_option maxRecDepth 20000 in
theorem ggL_law_X6_row : GoodIn wsL_law wsX6_row := goodIn_r _ [679, 17, 18, 116, 117, 2, 118, 119, 120, 121, 122, 123, 19, 765, 766, 767, 768, 769, 770, 771, 772, 773, 774, 775, 776, 777] (by decide +kernel) (by decide +kernel)
set_option maxRecDepth 20000 in
theorem gL_law_X6_row : GoodIn wsL_law (wsV RL 131 RX6 yX6_row wsX6_row) := goodIn_app (goodIn_of _ (by decide +kernel)) ggL_law_X6_row
set_option maxRecDepth 20000 in
theorem ggL_law_X7_row : GoodIn wsL_law wsX7_row := goodIn_r _ [683, 77, 78, 153, 154, 5, 155, 105, 106, 107, 156, 157, 158, 159, 160, 56, 778, 779, 780, 781, 782, 783, 784, 785, 786, 787, 788, 789, 790, 791, 792, 793, 794, 795, 796, 797, 798, 799, 800, 801, 802, 803, 804, 805, 806, 807, 808, 809, 810] (by decide +kernel) (by decide +kernel)
set_option maxRecDepth 20000 in
theorem gL_law_X7_row : GoodIn wsL_law (wsV RL 134 RX7 yX7_row wsX7_row) := goodIn_app (goodIn_of _ (by decide +kernel)) ggL_law_X7_row
set_option maxRecDepth 20000 in
theorem ggL_law_X6_lay : GoodIn wsL_law wsX6_lay := goodIn_r _ [687, 18, 17, 116, 117, 2, 118, 119, 120, 121, 122, 123, 19, 765, 766, 767, 768, 769, 770, 771, 772, 773, 774, 775, 776, 777] (by decide +kernel) (by decide +kernel)
set_option maxRecDepth 20000 in
theorem gL_law_X6_lay : GoodIn wsL_law (wsV RL 135 RX6 yX6_lay wsX6_lay) := goodIn_app (goodIn_of _ (by decide +kernel)) ggL_law_X6_lay
set_option maxRecDepth 20000 in
theorem ggL_law_X7_lay : GoodIn wsL_law wsX7_lay := goodIn_r _ [691, 77, 78, 692, 693, 694, 5, 695, 153, 154, 155, 105, 106, 107, 156, 157, 158, 159, 160, 56, 778, 779, 780, 781, 782, 783, 784, 785, 786, 787, 788, 789, 790, 791, 792, 793, 794, 795, 796, 797, 798, 799, 800, 801, 802, 803, 804, 805, 806, 807, 808, 809, 810] (by decide +kernel) (by decide +kernel)
set_option maxRecDepth 20000 in
theorem gL_law_X7_lay : GoodIn wsL_law (wsV RL 138 RX7 yX7_lay wsX7_lay) := goodIn_app (goodIn_of _ (by decide +kernel)) ggL_law_X7_lay
set_option maxRecDepth 20000 in
theorem ggL_law_X6_tear : GoodIn wsL_law wsX6_tear := goodIn_r _ [699, 18, 116, 117, 2, 118, 119, 120, 121, 122, 123, 19, 765, 766, 767, 768, 769, 770, 771, 772, 773, 774, 775, 776, 777] (by decide +kernel) (by decide +kernel)
set_option maxRecDepth 20000 in
theorem gL_law_X6_tear : GoodIn wsL_law (wsV RL 139 RX6 yX6_tear wsX6_tear) := goodIn_app (goodIn_of _ (by decide +kernel)) ggL_law_X6_tear
set_option maxRecDepth 20000 in
theorem ggL_law_X7_tear : GoodIn wsL_law wsX7_tear := goodIn_r _ [703, 77, 692, 693, 694, 5, 695, 153, 154, 155, 105, 106, 107, 156, 157, 158, 159, 160, 56, 778, 779, 780, 781, 782, 783, 784, 785, 786, 787, 788, 789, 790, 791, 792, 793, 794, 795, 796, 797, 798, 799, 800, 801, 802, 803, 804, 805, 806, 807, 808, 809, 810] (by decide +kernel) (by decide +kernel)
set_option maxRecDepth 20000 in
theorem gL_law_X7_tear : GoodIn wsL_law (wsV RL 142 RX7 yX7_tear wsX7_tear) := goodIn_app (goodIn_of _ (by decide +kernel)) ggL_law_X7_tear
set_option maxRecDepth 20000 in
theorem ggL_law_X6_copy : GoodIn wsL_law wsX6_copy := goodIn_r _ [707, 18, 17, 610, 611, 612, 613, 116, 117, 2, 118, 119, 120, 121, 122, 123, 19, 708, 709, 710, 711, 765, 766, 767, 768, 769, 770, 771, 772, 773, 774, 775, 776, 777] (by decide +kernel) (by decide +kernel)
set_option maxRecDepth 20000 in
theorem gL_law_X6_copy : GoodIn wsL_law (wsV RL 143 RX6 yX6_copy wsX6_copy) := goodIn_app (goodIn_of _ (by decide +kernel)) ggL_law_X6_copy
set_option maxRecDepth 20000 in
theorem ggL_law_X7_copy : GoodIn wsL_law wsX7_copy := goodIn_r _ [715, 77, 79, 78, 153, 154, 5, 155, 105, 106, 107, 156, 157, 158, 159, 160, 56, 778, 779, 780, 781, 782, 783, 784, 785, 786, 787, 788, 789, 790, 791, 792, 793, 794, 795, 796, 797, 798, 799, 800, 801, 802, 803, 804, 805, 806, 807, 808, 809, 810] (by decide +kernel) (by decide +kernel)
set_option maxRecDepth 20000 in
theorem gL_law_X7_copy : GoodIn wsL_law (wsV RL 147 RX7 yX7_copy wsX7_copy) := goodIn_app (goodIn_of _ (by decide +kernel)) ggL_law_X7_copy
set_option maxRecDepth 20000 in
theorem ggL_law_X6_asked : GoodIn wsL_law wsX6_asked := goodIn_r _ [719, 398, 765, 766, 767, 768, 769, 770, 771, 772, 773, 774, 775, 776, 777] (by decide +kernel) (by decide +kernel)
set_option maxRecDepth 20000 in
theorem gL_law_X6_asked : GoodIn wsL_law (wsV RL 148 RX6 yX6_asked wsX6_asked) := goodIn_app (goodIn_of _ (by decide +kernel)) ggL_law_X6_asked
set_option maxRecDepth 20000 in
theorem ggL_law_X7_asked : GoodIn wsL_law wsX7_asked := goodIn_r _ [723, 407, 778, 779, 780, 781, 782, 783, 784, 785, 786, 787, 788, 789, 790, 791, 792, 793, 794, 795, 796, 797, 798, 799, 800, 801, 802, 803, 804, 805, 806, 807, 808, 809, 810] (by decide +kernel) (by decide +kernel)
set_option maxRecDepth 20000 in
theorem gL_law_X7_asked : GoodIn wsL_law (wsV RL 152 RX7 yX7_asked wsX7_asked) := goodIn_app (goodIn_of _ (by decide +kernel)) ggL_law_X7_asked
set_option maxRecDepth 20000 in
theorem ggL_law_X6_count : GoodIn wsL_law wsX6_count := goodIn_r _ [727, 18, 14, 765, 766, 767, 768, 769, 770, 771, 772, 773, 774, 775, 776, 777, 827, 828, 829, 830, 831, 832, 833, 834] (by decide +kernel) (by decide +kernel)
set_option maxRecDepth 20000 in
theorem gL_law_X6_count : GoodIn wsL_law (wsV RL 153 RX6 yX6_count wsX6_count) := goodIn_app (goodIn_of _ (by decide +kernel)) ggL_law_X6_count
set_option maxRecDepth 20000 in
theorem ggL_law_X7_count : GoodIn wsL_law wsX7_count := goodIn_r _ [731, 57, 58, 77, 105, 106, 5, 107, 778, 779, 780, 781, 782, 783, 784, 785, 786, 787, 788, 789, 790, 791, 792, 793, 794, 795, 796, 797, 798, 799, 800, 801, 802, 803, 804, 805, 806, 807, 808, 809, 810] (by decide +kernel) (by decide +kernel)
set_option maxRecDepth 20000 in
theorem gL_law_X7_count : GoodIn wsL_law (wsV RL 156 RX7 yX7_count wsX7_count) := goodIn_app (goodIn_of _ (by decide +kernel)) ggL_law_X7_count
set_option maxRecDepth 20000 in
theorem ggL_law_X6_finding : GoodIn wsL_law wsX6_finding := goodIn_r _ [735, 123, 765, 766, 767, 768, 769, 770, 771, 772, 773, 774, 775, 776, 777] (by decide +kernel) (by decide +kernel)
set_option maxRecDepth 20000 in
theorem gL_law_X6_finding : GoodIn wsL_law (wsV RL 157 RX6 yX6_finding wsX6_finding) := goodIn_app (goodIn_of _ (by decide +kernel)) ggL_law_X6_finding
set_option maxRecDepth 20000 in
theorem ggL_law_X7_finding : GoodIn wsL_law wsX7_finding := goodIn_r _ [739, 160, 778, 779, 780, 781, 782, 783, 784, 785, 786, 787, 788, 789, 790, 791, 792, 793, 794, 795, 796, 797, 798, 799, 800, 801, 802, 803, 804, 805, 806, 807, 808, 809, 810] (by decide +kernel) (by decide +kernel)
set_option maxRecDepth 20000 in
theorem gL_law_X7_finding : GoodIn wsL_law (wsV RL 160 RX7 yX7_finding wsX7_finding) := goodIn_app (goodIn_of _ (by decide +kernel)) ggL_law_X7_finding
set_option maxRecDepth 20000 in
theorem ggL_law_X6_findings : GoodIn wsL_law wsX6_findings := goodIn_r _ [743, 19, 765, 766, 767, 768, 769, 770, 771, 772, 773, 774, 775, 776, 777] (by decide +kernel) (by decide +kernel)
set_option maxRecDepth 20000 in
theorem gL_law_X6_findings : GoodIn wsL_law (wsV RL 161 RX6 yX6_findings wsX6_findings) := goodIn_app (goodIn_of _ (by decide +kernel)) ggL_law_X6_findings
set_option maxRecDepth 20000 in
theorem ggL_law_X7_findings : GoodIn wsL_law wsX7_findings := goodIn_r _ [747, 56, 105, 106, 5, 107, 778, 779, 780, 781, 782, 783, 784, 785, 786, 787, 788, 789, 790, 791, 792, 793, 794, 795, 796, 797, 798, 799, 800, 801, 802, 803, 804, 805, 806, 807, 808, 809, 810] (by decide +kernel) (by decide +kernel)
set_option maxRecDepth 20000 in
theorem gL_law_X7_findings : GoodIn wsL_law (wsV RL 164 RX7 yX7_findings wsX7_findings) := goodIn_app (goodIn_of _ (by decide +kernel)) ggL_law_X7_findings
set_option maxRecDepth 20000 in
theorem ggL_law_X6_digest : GoodIn wsL_law wsX6_digest := goodIn_r _ [751, 752, 14, 753, 18, 17, 754, 755, 756, 31, 757, 91, 758, 93, 95, 92, 49, 765, 766, 767, 768, 769, 770, 771, 772, 773, 774, 775, 776, 777, 827, 828, 829, 830, 831, 832, 833, 834] (by decide +kernel) (by decide +kernel)
set_option maxRecDepth 20000 in
theorem gL_law_X6_digest : GoodIn wsL_law (wsV RL 165 RX6 yX6_digest wsX6_digest) := goodIn_app (goodIn_of _ (by decide +kernel)) ggL_law_X6_digest
set_option maxRecDepth 20000 in
theorem ggL_law_X7_digest : GoodIn wsL_law wsX7_digest := goodIn_r _ [762, 763, 57, 764, 58, 59, 61, 77, 78, 778, 779, 780, 781, 782, 783, 784, 785, 786, 787, 788, 789, 790, 791, 792, 793, 794, 795, 796, 797, 798, 799, 800, 801, 802, 803, 804, 805, 806, 807, 808, 809, 810] (by decide +kernel) (by decide +kernel)
set_option maxRecDepth 20000 in
theorem gL_law_X7_digest : GoodIn wsL_law (wsV RL 168 RX7 yX7_digest wsX7_digest) := goodIn_app (goodIn_of _ (by decide +kernel)) ggL_law_X7_digest
theorem dL_law_0 : decode cL_law 0 = .ok (.new 7, 3) := by decide +kernel
theorem dL_law_3 : decode cL_law 3 = .ok (.dup, 1) := by decide +kernel
theorem dL_law_4 : decode cL_law 4 = .ok (.invokespecial 9, 3) := by decide +kernel
theorem dL_law_7 : decode cL_law 7 = .ok (.astore_n 1, 1) := by decide +kernel
theorem dL_law_8 : decode cL_law 8 = .ok (.new 10, 3) := by decide +kernel
theorem dL_law_11 : decode cL_law 11 = .ok (.dup, 1) := by decide +kernel
theorem dL_law_12 : decode cL_law 12 = .ok (.invokespecial 12, 3) := by decide +kernel
theorem dL_law_15 : decode cL_law 15 = .ok (.astore_n 2, 1) := by decide +kernel
theorem dL_law_16 : decode cL_law 16 = .ok (.iconst 0, 1) := by decide +kernel
theorem dL_law_17 : decode cL_law 17 = .ok (.istore_n 3, 1) := by decide +kernel
theorem dL_law_18 : decode cL_law 18 = .ok (.iload_n 3, 1) := by decide +kernel
theorem dL_law_19 : decode cL_law 19 = .ok (.aload_n 0, 1) := by decide +kernel
theorem dL_law_20 : decode cL_law 20 = .ok (.arraylength, 1) := by decide +kernel
theorem dL_law_21 : decode cL_law 21 = .ok (.bipush 6, 2) := by decide +kernel
theorem dL_law_23 : decode cL_law 23 = .ok (.isub, 1) := by decide +kernel
theorem dL_law_24 : decode cL_law 24 = .ok (.if_icmp .gt 1450, 3) := by decide +kernel
theorem dL_law_27 : decode cL_law 27 = .ok (.aload_n 0, 1) := by decide +kernel
theorem dL_law_28 : decode cL_law 28 = .ok (.iload_n 3, 1) := by decide +kernel
theorem dL_law_29 : decode cL_law 29 = .ok (.iaload, 1) := by decide +kernel
theorem dL_law_30 : decode cL_law 30 = .ok (.bipush 63, 2) := by decide +kernel
theorem dL_law_32 : decode cL_law 32 = .ok (.iand, 1) := by decide +kernel
theorem dL_law_33 : decode cL_law 33 = .ok (.tableswitch 1435 0 35 #[159, 192, 225, 268, 301, 334, 377, 450, 473, 506, 539, 572, 605, 628, 651, 714, 757, 790, 843, 876, 909, 942, 955, 1044, 1077, 1120, 1143, 1186, 1219, 1262, 1285, 1348, 1362, 1385, 1398, 1421], 159) := by decide +kernel
theorem dL_law_192 : decode cL_law 192 = .ok (.aload_n 1, 1) := by decide +kernel
theorem dL_law_193 : decode cL_law 193 = .ok (.aload_n 0, 1) := by decide +kernel
theorem dL_law_194 : decode cL_law 194 = .ok (.iload_n 3, 1) := by decide +kernel
theorem dL_law_195 : decode cL_law 195 = .ok (.iconst 1, 1) := by decide +kernel
theorem dL_law_196 : decode cL_law 196 = .ok (.iadd, 1) := by decide +kernel
theorem dL_law_197 : decode cL_law 197 = .ok (.iaload, 1) := by decide +kernel
theorem dL_law_198 : decode cL_law 198 = .ok (.aload_n 0, 1) := by decide +kernel
theorem dL_law_199 : decode cL_law 199 = .ok (.iload_n 3, 1) := by decide +kernel
theorem dL_law_200 : decode cL_law 200 = .ok (.iconst 2, 1) := by decide +kernel
theorem dL_law_201 : decode cL_law 201 = .ok (.iadd, 1) := by decide +kernel
theorem dL_law_202 : decode cL_law 202 = .ok (.iaload, 1) := by decide +kernel
theorem dL_law_203 : decode cL_law 203 = .ok (.invokevirtual 13, 3) := by decide +kernel
theorem dL_law_206 : decode cL_law 206 = .ok (.aload_n 2, 1) := by decide +kernel
theorem dL_law_207 : decode cL_law 207 = .ok (.aload_n 0, 1) := by decide +kernel
theorem dL_law_208 : decode cL_law 208 = .ok (.iload_n 3, 1) := by decide +kernel
theorem dL_law_209 : decode cL_law 209 = .ok (.iconst 1, 1) := by decide +kernel
theorem dL_law_210 : decode cL_law 210 = .ok (.iadd, 1) := by decide +kernel
theorem dL_law_211 : decode cL_law 211 = .ok (.iaload, 1) := by decide +kernel
theorem dL_law_212 : decode cL_law 212 = .ok (.aload_n 0, 1) := by decide +kernel
theorem dL_law_213 : decode cL_law 213 = .ok (.iload_n 3, 1) := by decide +kernel
theorem dL_law_214 : decode cL_law 214 = .ok (.iconst 2, 1) := by decide +kernel
theorem dL_law_215 : decode cL_law 215 = .ok (.iadd, 1) := by decide +kernel
theorem dL_law_216 : decode cL_law 216 = .ok (.iaload, 1) := by decide +kernel
theorem dL_law_217 : decode cL_law 217 = .ok (.invokevirtual 17, 3) := by decide +kernel
theorem dL_law_220 : decode cL_law 220 = .ok (.if_icmp .eq 1248, 3) := by decide +kernel
theorem dL_law_223 : decode cL_law 223 = .ok (.iconst 0, 1) := by decide +kernel
theorem dL_law_224 : decode cL_law 224 = .ok (.ireturn, 1) := by decide +kernel
theorem dL_law_225 : decode cL_law 225 = .ok (.aload_n 1, 1) := by decide +kernel
theorem dL_law_226 : decode cL_law 226 = .ok (.aload_n 0, 1) := by decide +kernel
theorem dL_law_227 : decode cL_law 227 = .ok (.iload_n 3, 1) := by decide +kernel
theorem dL_law_228 : decode cL_law 228 = .ok (.iconst 1, 1) := by decide +kernel
theorem dL_law_229 : decode cL_law 229 = .ok (.iadd, 1) := by decide +kernel
theorem dL_law_230 : decode cL_law 230 = .ok (.iaload, 1) := by decide +kernel
theorem dL_law_231 : decode cL_law 231 = .ok (.aload_n 0, 1) := by decide +kernel
theorem dL_law_232 : decode cL_law 232 = .ok (.iload_n 3, 1) := by decide +kernel
theorem dL_law_233 : decode cL_law 233 = .ok (.iconst 2, 1) := by decide +kernel
theorem dL_law_234 : decode cL_law 234 = .ok (.iadd, 1) := by decide +kernel
theorem dL_law_235 : decode cL_law 235 = .ok (.iaload, 1) := by decide +kernel
theorem dL_law_236 : decode cL_law 236 = .ok (.invokevirtual 18, 3) := by decide +kernel
theorem dL_law_239 : decode cL_law 239 = .ok (.aload_n 2, 1) := by decide +kernel
theorem dL_law_240 : decode cL_law 240 = .ok (.aload_n 0, 1) := by decide +kernel
theorem dL_law_241 : decode cL_law 241 = .ok (.iload_n 3, 1) := by decide +kernel
theorem dL_law_242 : decode cL_law 242 = .ok (.iconst 1, 1) := by decide +kernel
theorem dL_law_243 : decode cL_law 243 = .ok (.iadd, 1) := by decide +kernel
theorem dL_law_244 : decode cL_law 244 = .ok (.iaload, 1) := by decide +kernel
theorem dL_law_245 : decode cL_law 245 = .ok (.aload_n 0, 1) := by decide +kernel
theorem dL_law_246 : decode cL_law 246 = .ok (.iload_n 3, 1) := by decide +kernel
theorem dL_law_247 : decode cL_law 247 = .ok (.iconst 2, 1) := by decide +kernel
theorem dL_law_248 : decode cL_law 248 = .ok (.iadd, 1) := by decide +kernel
theorem dL_law_249 : decode cL_law 249 = .ok (.iaload, 1) := by decide +kernel
theorem dL_law_250 : decode cL_law 250 = .ok (.invokevirtual 21, 3) := by decide +kernel
theorem dL_law_253 : decode cL_law 253 = .ok (.if_icmp .eq 1215, 3) := by decide +kernel
theorem dL_law_256 : decode cL_law 256 = .ok (.iconst 0, 1) := by decide +kernel
theorem dL_law_257 : decode cL_law 257 = .ok (.ireturn, 1) := by decide +kernel
theorem dL_law_258 : decode cL_law 258 = .ok (.aload_n 1, 1) := by decide +kernel
theorem dL_law_259 : decode cL_law 259 = .ok (.aload_n 0, 1) := by decide +kernel
theorem dL_law_260 : decode cL_law 260 = .ok (.iload_n 3, 1) := by decide +kernel
theorem dL_law_261 : decode cL_law 261 = .ok (.iconst 1, 1) := by decide +kernel
theorem dL_law_262 : decode cL_law 262 = .ok (.iadd, 1) := by decide +kernel
theorem dL_law_263 : decode cL_law 263 = .ok (.iaload, 1) := by decide +kernel
theorem dL_law_264 : decode cL_law 264 = .ok (.aload_n 0, 1) := by decide +kernel
theorem dL_law_265 : decode cL_law 265 = .ok (.iload_n 3, 1) := by decide +kernel
theorem dL_law_266 : decode cL_law 266 = .ok (.iconst 2, 1) := by decide +kernel
theorem dL_law_267 : decode cL_law 267 = .ok (.iadd, 1) := by decide +kernel
theorem dL_law_268 : decode cL_law 268 = .ok (.iaload, 1) := by decide +kernel
theorem dL_law_269 : decode cL_law 269 = .ok (.aload_n 0, 1) := by decide +kernel
theorem dL_law_270 : decode cL_law 270 = .ok (.iload_n 3, 1) := by decide +kernel
theorem dL_law_271 : decode cL_law 271 = .ok (.iconst 3, 1) := by decide +kernel
theorem dL_law_272 : decode cL_law 272 = .ok (.iadd, 1) := by decide +kernel
theorem dL_law_273 : decode cL_law 273 = .ok (.iaload, 1) := by decide +kernel
theorem dL_law_274 : decode cL_law 274 = .ok (.invokevirtual 22, 3) := by decide +kernel
theorem dL_law_277 : decode cL_law 277 = .ok (.aload_n 2, 1) := by decide +kernel
theorem dL_law_278 : decode cL_law 278 = .ok (.aload_n 0, 1) := by decide +kernel
theorem dL_law_279 : decode cL_law 279 = .ok (.iload_n 3, 1) := by decide +kernel
theorem dL_law_280 : decode cL_law 280 = .ok (.iconst 1, 1) := by decide +kernel
theorem dL_law_281 : decode cL_law 281 = .ok (.iadd, 1) := by decide +kernel
theorem dL_law_282 : decode cL_law 282 = .ok (.iaload, 1) := by decide +kernel
theorem dL_law_283 : decode cL_law 283 = .ok (.aload_n 0, 1) := by decide +kernel
theorem dL_law_284 : decode cL_law 284 = .ok (.iload_n 3, 1) := by decide +kernel
theorem dL_law_285 : decode cL_law 285 = .ok (.iconst 2, 1) := by decide +kernel
theorem dL_law_286 : decode cL_law 286 = .ok (.iadd, 1) := by decide +kernel
theorem dL_law_287 : decode cL_law 287 = .ok (.iaload, 1) := by decide +kernel
theorem dL_law_288 : decode cL_law 288 = .ok (.aload_n 0, 1) := by decide +kernel
theorem dL_law_289 : decode cL_law 289 = .ok (.iload_n 3, 1) := by decide +kernel
theorem dL_law_290 : decode cL_law 290 = .ok (.iconst 3, 1) := by decide +kernel
theorem dL_law_291 : decode cL_law 291 = .ok (.iadd, 1) := by decide +kernel
theorem dL_law_292 : decode cL_law 292 = .ok (.iaload, 1) := by decide +kernel
theorem dL_law_293 : decode cL_law 293 = .ok (.invokevirtual 26, 3) := by decide +kernel
theorem dL_law_296 : decode cL_law 296 = .ok (.if_icmp .eq 1172, 3) := by decide +kernel
theorem dL_law_299 : decode cL_law 299 = .ok (.iconst 0, 1) := by decide +kernel
theorem dL_law_300 : decode cL_law 300 = .ok (.ireturn, 1) := by decide +kernel
theorem dL_law_301 : decode cL_law 301 = .ok (.aload_n 1, 1) := by decide +kernel
theorem dL_law_302 : decode cL_law 302 = .ok (.aload_n 0, 1) := by decide +kernel
theorem dL_law_303 : decode cL_law 303 = .ok (.iload_n 3, 1) := by decide +kernel
theorem dL_law_304 : decode cL_law 304 = .ok (.iconst 1, 1) := by decide +kernel
theorem dL_law_305 : decode cL_law 305 = .ok (.iadd, 1) := by decide +kernel
theorem dL_law_306 : decode cL_law 306 = .ok (.iaload, 1) := by decide +kernel
theorem dL_law_307 : decode cL_law 307 = .ok (.aload_n 0, 1) := by decide +kernel
theorem dL_law_308 : decode cL_law 308 = .ok (.iload_n 3, 1) := by decide +kernel
theorem dL_law_309 : decode cL_law 309 = .ok (.iconst 2, 1) := by decide +kernel
theorem dL_law_310 : decode cL_law 310 = .ok (.iadd, 1) := by decide +kernel
theorem dL_law_311 : decode cL_law 311 = .ok (.iaload, 1) := by decide +kernel
theorem dL_law_312 : decode cL_law 312 = .ok (.invokevirtual 27, 3) := by decide +kernel
theorem dL_law_315 : decode cL_law 315 = .ok (.aload_n 2, 1) := by decide +kernel
theorem dL_law_316 : decode cL_law 316 = .ok (.aload_n 0, 1) := by decide +kernel
theorem dL_law_317 : decode cL_law 317 = .ok (.iload_n 3, 1) := by decide +kernel
theorem dL_law_318 : decode cL_law 318 = .ok (.iconst 1, 1) := by decide +kernel
theorem dL_law_319 : decode cL_law 319 = .ok (.iadd, 1) := by decide +kernel
theorem dL_law_320 : decode cL_law 320 = .ok (.iaload, 1) := by decide +kernel
theorem dL_law_321 : decode cL_law 321 = .ok (.aload_n 0, 1) := by decide +kernel
theorem dL_law_322 : decode cL_law 322 = .ok (.iload_n 3, 1) := by decide +kernel
theorem dL_law_323 : decode cL_law 323 = .ok (.iconst 2, 1) := by decide +kernel
theorem dL_law_324 : decode cL_law 324 = .ok (.iadd, 1) := by decide +kernel
theorem dL_law_325 : decode cL_law 325 = .ok (.iaload, 1) := by decide +kernel
theorem dL_law_326 : decode cL_law 326 = .ok (.invokevirtual 30, 3) := by decide +kernel
theorem dL_law_329 : decode cL_law 329 = .ok (.if_icmp .eq 1139, 3) := by decide +kernel
theorem dL_law_332 : decode cL_law 332 = .ok (.iconst 0, 1) := by decide +kernel
theorem dL_law_333 : decode cL_law 333 = .ok (.ireturn, 1) := by decide +kernel
theorem dL_law_334 : decode cL_law 334 = .ok (.aload_n 1, 1) := by decide +kernel
theorem dL_law_335 : decode cL_law 335 = .ok (.aload_n 0, 1) := by decide +kernel
theorem dL_law_336 : decode cL_law 336 = .ok (.iload_n 3, 1) := by decide +kernel
theorem dL_law_337 : decode cL_law 337 = .ok (.iconst 1, 1) := by decide +kernel
theorem dL_law_338 : decode cL_law 338 = .ok (.iadd, 1) := by decide +kernel
theorem dL_law_339 : decode cL_law 339 = .ok (.iaload, 1) := by decide +kernel
theorem dL_law_340 : decode cL_law 340 = .ok (.aload_n 0, 1) := by decide +kernel
theorem dL_law_341 : decode cL_law 341 = .ok (.iload_n 3, 1) := by decide +kernel
theorem dL_law_342 : decode cL_law 342 = .ok (.iconst 2, 1) := by decide +kernel
theorem dL_law_343 : decode cL_law 343 = .ok (.iadd, 1) := by decide +kernel
theorem dL_law_344 : decode cL_law 344 = .ok (.iaload, 1) := by decide +kernel
theorem dL_law_345 : decode cL_law 345 = .ok (.invokevirtual 31, 3) := by decide +kernel
theorem dL_law_348 : decode cL_law 348 = .ok (.aload_n 2, 1) := by decide +kernel
theorem dL_law_349 : decode cL_law 349 = .ok (.aload_n 0, 1) := by decide +kernel
theorem dL_law_350 : decode cL_law 350 = .ok (.iload_n 3, 1) := by decide +kernel
theorem dL_law_351 : decode cL_law 351 = .ok (.iconst 1, 1) := by decide +kernel
theorem dL_law_352 : decode cL_law 352 = .ok (.iadd, 1) := by decide +kernel
theorem dL_law_353 : decode cL_law 353 = .ok (.iaload, 1) := by decide +kernel
theorem dL_law_354 : decode cL_law 354 = .ok (.aload_n 0, 1) := by decide +kernel
theorem dL_law_355 : decode cL_law 355 = .ok (.iload_n 3, 1) := by decide +kernel
theorem dL_law_356 : decode cL_law 356 = .ok (.iconst 2, 1) := by decide +kernel
theorem dL_law_357 : decode cL_law 357 = .ok (.iadd, 1) := by decide +kernel
theorem dL_law_358 : decode cL_law 358 = .ok (.iaload, 1) := by decide +kernel
theorem dL_law_359 : decode cL_law 359 = .ok (.invokevirtual 34, 3) := by decide +kernel
theorem dL_law_362 : decode cL_law 362 = .ok (.if_icmp .eq 1106, 3) := by decide +kernel
theorem dL_law_365 : decode cL_law 365 = .ok (.iconst 0, 1) := by decide +kernel
theorem dL_law_366 : decode cL_law 366 = .ok (.ireturn, 1) := by decide +kernel
theorem dL_law_367 : decode cL_law 367 = .ok (.aload_n 1, 1) := by decide +kernel
theorem dL_law_368 : decode cL_law 368 = .ok (.aload_n 0, 1) := by decide +kernel
theorem dL_law_369 : decode cL_law 369 = .ok (.iload_n 3, 1) := by decide +kernel
theorem dL_law_370 : decode cL_law 370 = .ok (.iconst 1, 1) := by decide +kernel
theorem dL_law_371 : decode cL_law 371 = .ok (.iadd, 1) := by decide +kernel
theorem dL_law_372 : decode cL_law 372 = .ok (.iaload, 1) := by decide +kernel
theorem dL_law_373 : decode cL_law 373 = .ok (.aload_n 0, 1) := by decide +kernel
theorem dL_law_374 : decode cL_law 374 = .ok (.iload_n 3, 1) := by decide +kernel
theorem dL_law_375 : decode cL_law 375 = .ok (.iconst 2, 1) := by decide +kernel
theorem dL_law_376 : decode cL_law 376 = .ok (.iadd, 1) := by decide +kernel
theorem dL_law_377 : decode cL_law 377 = .ok (.iaload, 1) := by decide +kernel
theorem dL_law_378 : decode cL_law 378 = .ok (.aload_n 0, 1) := by decide +kernel
theorem dL_law_379 : decode cL_law 379 = .ok (.iload_n 3, 1) := by decide +kernel
theorem dL_law_380 : decode cL_law 380 = .ok (.iconst 3, 1) := by decide +kernel
theorem dL_law_381 : decode cL_law 381 = .ok (.iadd, 1) := by decide +kernel
theorem dL_law_382 : decode cL_law 382 = .ok (.iaload, 1) := by decide +kernel
theorem dL_law_383 : decode cL_law 383 = .ok (.invokevirtual 35, 3) := by decide +kernel
theorem dL_law_386 : decode cL_law 386 = .ok (.aload_n 2, 1) := by decide +kernel
theorem dL_law_387 : decode cL_law 387 = .ok (.aload_n 0, 1) := by decide +kernel
theorem dL_law_388 : decode cL_law 388 = .ok (.iload_n 3, 1) := by decide +kernel
theorem dL_law_389 : decode cL_law 389 = .ok (.iconst 1, 1) := by decide +kernel
theorem dL_law_390 : decode cL_law 390 = .ok (.iadd, 1) := by decide +kernel
theorem dL_law_391 : decode cL_law 391 = .ok (.iaload, 1) := by decide +kernel
theorem dL_law_392 : decode cL_law 392 = .ok (.aload_n 0, 1) := by decide +kernel
theorem dL_law_393 : decode cL_law 393 = .ok (.iload_n 3, 1) := by decide +kernel
theorem dL_law_394 : decode cL_law 394 = .ok (.iconst 2, 1) := by decide +kernel
theorem dL_law_395 : decode cL_law 395 = .ok (.iadd, 1) := by decide +kernel
theorem dL_law_396 : decode cL_law 396 = .ok (.iaload, 1) := by decide +kernel
theorem dL_law_397 : decode cL_law 397 = .ok (.aload_n 0, 1) := by decide +kernel
theorem dL_law_398 : decode cL_law 398 = .ok (.iload_n 3, 1) := by decide +kernel
theorem dL_law_399 : decode cL_law 399 = .ok (.iconst 3, 1) := by decide +kernel
theorem dL_law_400 : decode cL_law 400 = .ok (.iadd, 1) := by decide +kernel
theorem dL_law_401 : decode cL_law 401 = .ok (.iaload, 1) := by decide +kernel
theorem dL_law_402 : decode cL_law 402 = .ok (.invokevirtual 38, 3) := by decide +kernel
theorem dL_law_405 : decode cL_law 405 = .ok (.if_icmp .eq 1063, 3) := by decide +kernel
theorem dL_law_408 : decode cL_law 408 = .ok (.iconst 0, 1) := by decide +kernel
theorem dL_law_409 : decode cL_law 409 = .ok (.ireturn, 1) := by decide +kernel
theorem dL_law_410 : decode cL_law 410 = .ok (.aload_n 1, 1) := by decide +kernel
theorem dL_law_411 : decode cL_law 411 = .ok (.aload_n 0, 1) := by decide +kernel
theorem dL_law_412 : decode cL_law 412 = .ok (.iload_n 3, 1) := by decide +kernel
theorem dL_law_413 : decode cL_law 413 = .ok (.iconst 1, 1) := by decide +kernel
theorem dL_law_414 : decode cL_law 414 = .ok (.iadd, 1) := by decide +kernel
theorem dL_law_415 : decode cL_law 415 = .ok (.iaload, 1) := by decide +kernel
theorem dL_law_416 : decode cL_law 416 = .ok (.aload_n 0, 1) := by decide +kernel
theorem dL_law_417 : decode cL_law 417 = .ok (.iload_n 3, 1) := by decide +kernel
theorem dL_law_418 : decode cL_law 418 = .ok (.iconst 2, 1) := by decide +kernel
theorem dL_law_419 : decode cL_law 419 = .ok (.iadd, 1) := by decide +kernel
theorem dL_law_420 : decode cL_law 420 = .ok (.iaload, 1) := by decide +kernel
theorem dL_law_421 : decode cL_law 421 = .ok (.i2l, 1) := by decide +kernel
theorem dL_law_422 : decode cL_law 422 = .ok (.bipush 32, 2) := by decide +kernel
theorem dL_law_424 : decode cL_law 424 = .ok (.lshl, 1) := by decide +kernel
theorem dL_law_425 : decode cL_law 425 = .ok (.aload_n 0, 1) := by decide +kernel
theorem dL_law_426 : decode cL_law 426 = .ok (.iload_n 3, 1) := by decide +kernel
theorem dL_law_427 : decode cL_law 427 = .ok (.iconst 3, 1) := by decide +kernel
theorem dL_law_428 : decode cL_law 428 = .ok (.iadd, 1) := by decide +kernel
theorem dL_law_429 : decode cL_law 429 = .ok (.iaload, 1) := by decide +kernel
theorem dL_law_430 : decode cL_law 430 = .ok (.i2l, 1) := by decide +kernel
theorem dL_law_431 : decode cL_law 431 = .ok (.ldc2_w 39, 3) := by decide +kernel
theorem dL_law_434 : decode cL_law 434 = .ok (.land, 1) := by decide +kernel
theorem dL_law_435 : decode cL_law 435 = .ok (.lor, 1) := by decide +kernel
theorem dL_law_436 : decode cL_law 436 = .ok (.aload_n 0, 1) := by decide +kernel
theorem dL_law_437 : decode cL_law 437 = .ok (.iload_n 3, 1) := by decide +kernel
theorem dL_law_438 : decode cL_law 438 = .ok (.iconst 4, 1) := by decide +kernel
theorem dL_law_439 : decode cL_law 439 = .ok (.iadd, 1) := by decide +kernel
theorem dL_law_440 : decode cL_law 440 = .ok (.iaload, 1) := by decide +kernel
theorem dL_law_441 : decode cL_law 441 = .ok (.invokevirtual 41, 3) := by decide +kernel
theorem dL_law_444 : decode cL_law 444 = .ok (.aload_n 2, 1) := by decide +kernel
theorem dL_law_445 : decode cL_law 445 = .ok (.aload_n 0, 1) := by decide +kernel
theorem dL_law_446 : decode cL_law 446 = .ok (.iload_n 3, 1) := by decide +kernel
theorem dL_law_447 : decode cL_law 447 = .ok (.iconst 1, 1) := by decide +kernel
theorem dL_law_448 : decode cL_law 448 = .ok (.iadd, 1) := by decide +kernel
theorem dL_law_449 : decode cL_law 449 = .ok (.iaload, 1) := by decide +kernel
theorem dL_law_450 : decode cL_law 450 = .ok (.aload_n 0, 1) := by decide +kernel
theorem dL_law_451 : decode cL_law 451 = .ok (.iload_n 3, 1) := by decide +kernel
theorem dL_law_452 : decode cL_law 452 = .ok (.iconst 2, 1) := by decide +kernel
theorem dL_law_453 : decode cL_law 453 = .ok (.iadd, 1) := by decide +kernel
theorem dL_law_454 : decode cL_law 454 = .ok (.iaload, 1) := by decide +kernel
theorem dL_law_455 : decode cL_law 455 = .ok (.i2l, 1) := by decide +kernel
theorem dL_law_456 : decode cL_law 456 = .ok (.bipush 32, 2) := by decide +kernel
theorem dL_law_458 : decode cL_law 458 = .ok (.lshl, 1) := by decide +kernel
theorem dL_law_459 : decode cL_law 459 = .ok (.aload_n 0, 1) := by decide +kernel
theorem dL_law_460 : decode cL_law 460 = .ok (.iload_n 3, 1) := by decide +kernel
theorem dL_law_461 : decode cL_law 461 = .ok (.iconst 3, 1) := by decide +kernel
theorem dL_law_462 : decode cL_law 462 = .ok (.iadd, 1) := by decide +kernel
theorem dL_law_463 : decode cL_law 463 = .ok (.iaload, 1) := by decide +kernel
theorem dL_law_464 : decode cL_law 464 = .ok (.i2l, 1) := by decide +kernel
theorem dL_law_465 : decode cL_law 465 = .ok (.ldc2_w 39, 3) := by decide +kernel
theorem dL_law_468 : decode cL_law 468 = .ok (.land, 1) := by decide +kernel
theorem dL_law_469 : decode cL_law 469 = .ok (.lor, 1) := by decide +kernel
theorem dL_law_470 : decode cL_law 470 = .ok (.aload_n 0, 1) := by decide +kernel
theorem dL_law_471 : decode cL_law 471 = .ok (.iload_n 3, 1) := by decide +kernel
theorem dL_law_472 : decode cL_law 472 = .ok (.iconst 4, 1) := by decide +kernel
theorem dL_law_473 : decode cL_law 473 = .ok (.iadd, 1) := by decide +kernel
theorem dL_law_474 : decode cL_law 474 = .ok (.iaload, 1) := by decide +kernel
theorem dL_law_475 : decode cL_law 475 = .ok (.invokevirtual 45, 3) := by decide +kernel
theorem dL_law_478 : decode cL_law 478 = .ok (.if_icmp .eq 990, 3) := by decide +kernel
theorem dL_law_481 : decode cL_law 481 = .ok (.iconst 0, 1) := by decide +kernel
theorem dL_law_482 : decode cL_law 482 = .ok (.ireturn, 1) := by decide +kernel
theorem dL_law_483 : decode cL_law 483 = .ok (.aload_n 1, 1) := by decide +kernel
theorem dL_law_484 : decode cL_law 484 = .ok (.aload_n 0, 1) := by decide +kernel
theorem dL_law_485 : decode cL_law 485 = .ok (.iload_n 3, 1) := by decide +kernel
theorem dL_law_486 : decode cL_law 486 = .ok (.iconst 1, 1) := by decide +kernel
theorem dL_law_487 : decode cL_law 487 = .ok (.iadd, 1) := by decide +kernel
theorem dL_law_488 : decode cL_law 488 = .ok (.iaload, 1) := by decide +kernel
theorem dL_law_489 : decode cL_law 489 = .ok (.invokevirtual 46, 3) := by decide +kernel
theorem dL_law_492 : decode cL_law 492 = .ok (.aload_n 2, 1) := by decide +kernel
theorem dL_law_493 : decode cL_law 493 = .ok (.aload_n 0, 1) := by decide +kernel
theorem dL_law_494 : decode cL_law 494 = .ok (.iload_n 3, 1) := by decide +kernel
theorem dL_law_495 : decode cL_law 495 = .ok (.iconst 1, 1) := by decide +kernel
theorem dL_law_496 : decode cL_law 496 = .ok (.iadd, 1) := by decide +kernel
theorem dL_law_497 : decode cL_law 497 = .ok (.iaload, 1) := by decide +kernel
theorem dL_law_498 : decode cL_law 498 = .ok (.invokevirtual 50, 3) := by decide +kernel
theorem dL_law_501 : decode cL_law 501 = .ok (.if_icmp .eq 967, 3) := by decide +kernel
theorem dL_law_504 : decode cL_law 504 = .ok (.iconst 0, 1) := by decide +kernel
theorem dL_law_505 : decode cL_law 505 = .ok (.ireturn, 1) := by decide +kernel
theorem dL_law_506 : decode cL_law 506 = .ok (.aload_n 1, 1) := by decide +kernel
theorem dL_law_507 : decode cL_law 507 = .ok (.aload_n 0, 1) := by decide +kernel
theorem dL_law_508 : decode cL_law 508 = .ok (.iload_n 3, 1) := by decide +kernel
theorem dL_law_509 : decode cL_law 509 = .ok (.iconst 1, 1) := by decide +kernel
theorem dL_law_510 : decode cL_law 510 = .ok (.iadd, 1) := by decide +kernel
theorem dL_law_511 : decode cL_law 511 = .ok (.iaload, 1) := by decide +kernel
theorem dL_law_512 : decode cL_law 512 = .ok (.aload_n 0, 1) := by decide +kernel
theorem dL_law_513 : decode cL_law 513 = .ok (.iload_n 3, 1) := by decide +kernel
theorem dL_law_514 : decode cL_law 514 = .ok (.iconst 2, 1) := by decide +kernel
theorem dL_law_515 : decode cL_law 515 = .ok (.iadd, 1) := by decide +kernel
theorem dL_law_516 : decode cL_law 516 = .ok (.iaload, 1) := by decide +kernel
theorem dL_law_517 : decode cL_law 517 = .ok (.invokevirtual 51, 3) := by decide +kernel
theorem dL_law_520 : decode cL_law 520 = .ok (.aload_n 2, 1) := by decide +kernel
theorem dL_law_521 : decode cL_law 521 = .ok (.aload_n 0, 1) := by decide +kernel
theorem dL_law_522 : decode cL_law 522 = .ok (.iload_n 3, 1) := by decide +kernel
theorem dL_law_523 : decode cL_law 523 = .ok (.iconst 1, 1) := by decide +kernel
theorem dL_law_524 : decode cL_law 524 = .ok (.iadd, 1) := by decide +kernel
theorem dL_law_525 : decode cL_law 525 = .ok (.iaload, 1) := by decide +kernel
theorem dL_law_526 : decode cL_law 526 = .ok (.aload_n 0, 1) := by decide +kernel
theorem dL_law_527 : decode cL_law 527 = .ok (.iload_n 3, 1) := by decide +kernel
theorem dL_law_528 : decode cL_law 528 = .ok (.iconst 2, 1) := by decide +kernel
theorem dL_law_529 : decode cL_law 529 = .ok (.iadd, 1) := by decide +kernel
theorem dL_law_530 : decode cL_law 530 = .ok (.iaload, 1) := by decide +kernel
theorem dL_law_531 : decode cL_law 531 = .ok (.invokevirtual 54, 3) := by decide +kernel
theorem dL_law_534 : decode cL_law 534 = .ok (.if_icmp .eq 934, 3) := by decide +kernel
theorem dL_law_537 : decode cL_law 537 = .ok (.iconst 0, 1) := by decide +kernel
theorem dL_law_538 : decode cL_law 538 = .ok (.ireturn, 1) := by decide +kernel
theorem dL_law_539 : decode cL_law 539 = .ok (.aload_n 1, 1) := by decide +kernel
theorem dL_law_540 : decode cL_law 540 = .ok (.aload_n 0, 1) := by decide +kernel
theorem dL_law_541 : decode cL_law 541 = .ok (.iload_n 3, 1) := by decide +kernel
theorem dL_law_542 : decode cL_law 542 = .ok (.iconst 1, 1) := by decide +kernel
theorem dL_law_543 : decode cL_law 543 = .ok (.iadd, 1) := by decide +kernel
theorem dL_law_544 : decode cL_law 544 = .ok (.iaload, 1) := by decide +kernel
theorem dL_law_545 : decode cL_law 545 = .ok (.aload_n 0, 1) := by decide +kernel
theorem dL_law_546 : decode cL_law 546 = .ok (.iload_n 3, 1) := by decide +kernel
theorem dL_law_547 : decode cL_law 547 = .ok (.iconst 2, 1) := by decide +kernel
theorem dL_law_548 : decode cL_law 548 = .ok (.iadd, 1) := by decide +kernel
theorem dL_law_549 : decode cL_law 549 = .ok (.iaload, 1) := by decide +kernel
theorem dL_law_550 : decode cL_law 550 = .ok (.invokevirtual 55, 3) := by decide +kernel
theorem dL_law_553 : decode cL_law 553 = .ok (.aload_n 2, 1) := by decide +kernel
theorem dL_law_554 : decode cL_law 554 = .ok (.aload_n 0, 1) := by decide +kernel
theorem dL_law_555 : decode cL_law 555 = .ok (.iload_n 3, 1) := by decide +kernel
theorem dL_law_556 : decode cL_law 556 = .ok (.iconst 1, 1) := by decide +kernel
theorem dL_law_557 : decode cL_law 557 = .ok (.iadd, 1) := by decide +kernel
theorem dL_law_558 : decode cL_law 558 = .ok (.iaload, 1) := by decide +kernel
theorem dL_law_559 : decode cL_law 559 = .ok (.aload_n 0, 1) := by decide +kernel
theorem dL_law_560 : decode cL_law 560 = .ok (.iload_n 3, 1) := by decide +kernel
theorem dL_law_561 : decode cL_law 561 = .ok (.iconst 2, 1) := by decide +kernel
theorem dL_law_562 : decode cL_law 562 = .ok (.iadd, 1) := by decide +kernel
theorem dL_law_563 : decode cL_law 563 = .ok (.iaload, 1) := by decide +kernel
theorem dL_law_564 : decode cL_law 564 = .ok (.invokevirtual 58, 3) := by decide +kernel
theorem dL_law_567 : decode cL_law 567 = .ok (.if_icmp .eq 901, 3) := by decide +kernel
theorem dL_law_570 : decode cL_law 570 = .ok (.iconst 0, 1) := by decide +kernel
theorem dL_law_571 : decode cL_law 571 = .ok (.ireturn, 1) := by decide +kernel
theorem dL_law_572 : decode cL_law 572 = .ok (.aload_n 1, 1) := by decide +kernel
theorem dL_law_573 : decode cL_law 573 = .ok (.aload_n 0, 1) := by decide +kernel
theorem dL_law_574 : decode cL_law 574 = .ok (.iload_n 3, 1) := by decide +kernel
theorem dL_law_575 : decode cL_law 575 = .ok (.iconst 1, 1) := by decide +kernel
theorem dL_law_576 : decode cL_law 576 = .ok (.iadd, 1) := by decide +kernel
theorem dL_law_577 : decode cL_law 577 = .ok (.iaload, 1) := by decide +kernel
theorem dL_law_578 : decode cL_law 578 = .ok (.aload_n 0, 1) := by decide +kernel
theorem dL_law_579 : decode cL_law 579 = .ok (.iload_n 3, 1) := by decide +kernel
theorem dL_law_580 : decode cL_law 580 = .ok (.iconst 2, 1) := by decide +kernel
theorem dL_law_581 : decode cL_law 581 = .ok (.iadd, 1) := by decide +kernel
theorem dL_law_582 : decode cL_law 582 = .ok (.iaload, 1) := by decide +kernel
theorem dL_law_583 : decode cL_law 583 = .ok (.invokevirtual 59, 3) := by decide +kernel
theorem dL_law_586 : decode cL_law 586 = .ok (.aload_n 2, 1) := by decide +kernel
theorem dL_law_587 : decode cL_law 587 = .ok (.aload_n 0, 1) := by decide +kernel
theorem dL_law_588 : decode cL_law 588 = .ok (.iload_n 3, 1) := by decide +kernel
theorem dL_law_589 : decode cL_law 589 = .ok (.iconst 1, 1) := by decide +kernel
theorem dL_law_590 : decode cL_law 590 = .ok (.iadd, 1) := by decide +kernel
theorem dL_law_591 : decode cL_law 591 = .ok (.iaload, 1) := by decide +kernel
theorem dL_law_592 : decode cL_law 592 = .ok (.aload_n 0, 1) := by decide +kernel
theorem dL_law_593 : decode cL_law 593 = .ok (.iload_n 3, 1) := by decide +kernel
theorem dL_law_594 : decode cL_law 594 = .ok (.iconst 2, 1) := by decide +kernel
theorem dL_law_595 : decode cL_law 595 = .ok (.iadd, 1) := by decide +kernel
theorem dL_law_596 : decode cL_law 596 = .ok (.iaload, 1) := by decide +kernel
theorem dL_law_597 : decode cL_law 597 = .ok (.invokevirtual 62, 3) := by decide +kernel
theorem dL_law_600 : decode cL_law 600 = .ok (.if_icmp .eq 868, 3) := by decide +kernel
theorem dL_law_603 : decode cL_law 603 = .ok (.iconst 0, 1) := by decide +kernel
theorem dL_law_604 : decode cL_law 604 = .ok (.ireturn, 1) := by decide +kernel
theorem dL_law_605 : decode cL_law 605 = .ok (.aload_n 1, 1) := by decide +kernel
theorem dL_law_606 : decode cL_law 606 = .ok (.aload_n 0, 1) := by decide +kernel
theorem dL_law_607 : decode cL_law 607 = .ok (.iload_n 3, 1) := by decide +kernel
theorem dL_law_608 : decode cL_law 608 = .ok (.iconst 1, 1) := by decide +kernel
theorem dL_law_609 : decode cL_law 609 = .ok (.iadd, 1) := by decide +kernel
theorem dL_law_610 : decode cL_law 610 = .ok (.iaload, 1) := by decide +kernel
theorem dL_law_611 : decode cL_law 611 = .ok (.aload_n 0, 1) := by decide +kernel
theorem dL_law_612 : decode cL_law 612 = .ok (.iload_n 3, 1) := by decide +kernel
theorem dL_law_613 : decode cL_law 613 = .ok (.iconst 2, 1) := by decide +kernel
theorem dL_law_614 : decode cL_law 614 = .ok (.iadd, 1) := by decide +kernel
theorem dL_law_615 : decode cL_law 615 = .ok (.iaload, 1) := by decide +kernel
theorem dL_law_616 : decode cL_law 616 = .ok (.invokevirtual 63, 3) := by decide +kernel
theorem dL_law_619 : decode cL_law 619 = .ok (.aload_n 2, 1) := by decide +kernel
theorem dL_law_620 : decode cL_law 620 = .ok (.aload_n 0, 1) := by decide +kernel
theorem dL_law_621 : decode cL_law 621 = .ok (.iload_n 3, 1) := by decide +kernel
theorem dL_law_622 : decode cL_law 622 = .ok (.iconst 1, 1) := by decide +kernel
theorem dL_law_623 : decode cL_law 623 = .ok (.iadd, 1) := by decide +kernel
theorem dL_law_624 : decode cL_law 624 = .ok (.iaload, 1) := by decide +kernel
theorem dL_law_625 : decode cL_law 625 = .ok (.aload_n 0, 1) := by decide +kernel
theorem dL_law_626 : decode cL_law 626 = .ok (.iload_n 3, 1) := by decide +kernel
theorem dL_law_627 : decode cL_law 627 = .ok (.iconst 2, 1) := by decide +kernel
theorem dL_law_628 : decode cL_law 628 = .ok (.iadd, 1) := by decide +kernel
theorem dL_law_629 : decode cL_law 629 = .ok (.iaload, 1) := by decide +kernel
theorem dL_law_630 : decode cL_law 630 = .ok (.invokevirtual 66, 3) := by decide +kernel
theorem dL_law_633 : decode cL_law 633 = .ok (.if_icmp .eq 835, 3) := by decide +kernel
theorem dL_law_636 : decode cL_law 636 = .ok (.iconst 0, 1) := by decide +kernel
theorem dL_law_637 : decode cL_law 637 = .ok (.ireturn, 1) := by decide +kernel
theorem dL_law_638 : decode cL_law 638 = .ok (.aload_n 1, 1) := by decide +kernel
theorem dL_law_639 : decode cL_law 639 = .ok (.aload_n 0, 1) := by decide +kernel
theorem dL_law_640 : decode cL_law 640 = .ok (.iload_n 3, 1) := by decide +kernel
theorem dL_law_641 : decode cL_law 641 = .ok (.iconst 1, 1) := by decide +kernel
theorem dL_law_642 : decode cL_law 642 = .ok (.iadd, 1) := by decide +kernel
theorem dL_law_643 : decode cL_law 643 = .ok (.iaload, 1) := by decide +kernel
theorem dL_law_644 : decode cL_law 644 = .ok (.invokevirtual 67, 3) := by decide +kernel
theorem dL_law_647 : decode cL_law 647 = .ok (.aload_n 2, 1) := by decide +kernel
theorem dL_law_648 : decode cL_law 648 = .ok (.aload_n 0, 1) := by decide +kernel
theorem dL_law_649 : decode cL_law 649 = .ok (.iload_n 3, 1) := by decide +kernel
theorem dL_law_650 : decode cL_law 650 = .ok (.iconst 1, 1) := by decide +kernel
theorem dL_law_651 : decode cL_law 651 = .ok (.iadd, 1) := by decide +kernel
theorem dL_law_652 : decode cL_law 652 = .ok (.iaload, 1) := by decide +kernel
theorem dL_law_653 : decode cL_law 653 = .ok (.invokevirtual 70, 3) := by decide +kernel
theorem dL_law_656 : decode cL_law 656 = .ok (.if_icmp .eq 812, 3) := by decide +kernel
theorem dL_law_659 : decode cL_law 659 = .ok (.iconst 0, 1) := by decide +kernel
theorem dL_law_660 : decode cL_law 660 = .ok (.ireturn, 1) := by decide +kernel
theorem dL_law_661 : decode cL_law 661 = .ok (.aload_n 1, 1) := by decide +kernel
theorem dL_law_662 : decode cL_law 662 = .ok (.aload_n 0, 1) := by decide +kernel
theorem dL_law_663 : decode cL_law 663 = .ok (.iload_n 3, 1) := by decide +kernel
theorem dL_law_664 : decode cL_law 664 = .ok (.iconst 1, 1) := by decide +kernel
theorem dL_law_665 : decode cL_law 665 = .ok (.iadd, 1) := by decide +kernel
theorem dL_law_666 : decode cL_law 666 = .ok (.iaload, 1) := by decide +kernel
theorem dL_law_667 : decode cL_law 667 = .ok (.invokevirtual 71, 3) := by decide +kernel
theorem dL_law_670 : decode cL_law 670 = .ok (.aload_n 2, 1) := by decide +kernel
theorem dL_law_671 : decode cL_law 671 = .ok (.aload_n 0, 1) := by decide +kernel
theorem dL_law_672 : decode cL_law 672 = .ok (.iload_n 3, 1) := by decide +kernel
theorem dL_law_673 : decode cL_law 673 = .ok (.iconst 1, 1) := by decide +kernel
theorem dL_law_674 : decode cL_law 674 = .ok (.iadd, 1) := by decide +kernel
theorem dL_law_675 : decode cL_law 675 = .ok (.iaload, 1) := by decide +kernel
theorem dL_law_676 : decode cL_law 676 = .ok (.invokevirtual 74, 3) := by decide +kernel
theorem dL_law_679 : decode cL_law 679 = .ok (.if_icmp .eq 789, 3) := by decide +kernel
theorem dL_law_682 : decode cL_law 682 = .ok (.iconst 0, 1) := by decide +kernel
theorem dL_law_683 : decode cL_law 683 = .ok (.ireturn, 1) := by decide +kernel
theorem dL_law_684 : decode cL_law 684 = .ok (.aload_n 1, 1) := by decide +kernel
theorem dL_law_685 : decode cL_law 685 = .ok (.aload_n 0, 1) := by decide +kernel
theorem dL_law_686 : decode cL_law 686 = .ok (.iload_n 3, 1) := by decide +kernel
theorem dL_law_687 : decode cL_law 687 = .ok (.iconst 1, 1) := by decide +kernel
theorem dL_law_688 : decode cL_law 688 = .ok (.iadd, 1) := by decide +kernel
theorem dL_law_689 : decode cL_law 689 = .ok (.iaload, 1) := by decide +kernel
theorem dL_law_690 : decode cL_law 690 = .ok (.aload_n 0, 1) := by decide +kernel
theorem dL_law_691 : decode cL_law 691 = .ok (.iload_n 3, 1) := by decide +kernel
theorem dL_law_692 : decode cL_law 692 = .ok (.iconst 2, 1) := by decide +kernel
theorem dL_law_693 : decode cL_law 693 = .ok (.iadd, 1) := by decide +kernel
theorem dL_law_694 : decode cL_law 694 = .ok (.iaload, 1) := by decide +kernel
theorem dL_law_695 : decode cL_law 695 = .ok (.i2l, 1) := by decide +kernel
theorem dL_law_696 : decode cL_law 696 = .ok (.bipush 32, 2) := by decide +kernel
theorem dL_law_698 : decode cL_law 698 = .ok (.lshl, 1) := by decide +kernel
theorem dL_law_699 : decode cL_law 699 = .ok (.aload_n 0, 1) := by decide +kernel
theorem dL_law_700 : decode cL_law 700 = .ok (.iload_n 3, 1) := by decide +kernel
theorem dL_law_701 : decode cL_law 701 = .ok (.iconst 3, 1) := by decide +kernel
theorem dL_law_702 : decode cL_law 702 = .ok (.iadd, 1) := by decide +kernel
theorem dL_law_703 : decode cL_law 703 = .ok (.iaload, 1) := by decide +kernel
theorem dL_law_704 : decode cL_law 704 = .ok (.i2l, 1) := by decide +kernel
theorem dL_law_705 : decode cL_law 705 = .ok (.ldc2_w 39, 3) := by decide +kernel
theorem dL_law_708 : decode cL_law 708 = .ok (.land, 1) := by decide +kernel
theorem dL_law_709 : decode cL_law 709 = .ok (.lor, 1) := by decide +kernel
theorem dL_law_710 : decode cL_law 710 = .ok (.invokevirtual 75, 3) := by decide +kernel
theorem dL_law_713 : decode cL_law 713 = .ok (.aload_n 2, 1) := by decide +kernel
theorem dL_law_714 : decode cL_law 714 = .ok (.aload_n 0, 1) := by decide +kernel
theorem dL_law_715 : decode cL_law 715 = .ok (.iload_n 3, 1) := by decide +kernel
theorem dL_law_716 : decode cL_law 716 = .ok (.iconst 1, 1) := by decide +kernel
theorem dL_law_717 : decode cL_law 717 = .ok (.iadd, 1) := by decide +kernel
theorem dL_law_718 : decode cL_law 718 = .ok (.iaload, 1) := by decide +kernel
theorem dL_law_719 : decode cL_law 719 = .ok (.aload_n 0, 1) := by decide +kernel
theorem dL_law_720 : decode cL_law 720 = .ok (.iload_n 3, 1) := by decide +kernel
theorem dL_law_721 : decode cL_law 721 = .ok (.iconst 2, 1) := by decide +kernel
theorem dL_law_722 : decode cL_law 722 = .ok (.iadd, 1) := by decide +kernel
theorem dL_law_723 : decode cL_law 723 = .ok (.iaload, 1) := by decide +kernel
theorem dL_law_724 : decode cL_law 724 = .ok (.i2l, 1) := by decide +kernel
theorem dL_law_725 : decode cL_law 725 = .ok (.bipush 32, 2) := by decide +kernel
theorem dL_law_727 : decode cL_law 727 = .ok (.lshl, 1) := by decide +kernel
theorem dL_law_728 : decode cL_law 728 = .ok (.aload_n 0, 1) := by decide +kernel
theorem dL_law_729 : decode cL_law 729 = .ok (.iload_n 3, 1) := by decide +kernel
theorem dL_law_730 : decode cL_law 730 = .ok (.iconst 3, 1) := by decide +kernel
theorem dL_law_731 : decode cL_law 731 = .ok (.iadd, 1) := by decide +kernel
theorem dL_law_732 : decode cL_law 732 = .ok (.iaload, 1) := by decide +kernel
theorem dL_law_733 : decode cL_law 733 = .ok (.i2l, 1) := by decide +kernel
theorem dL_law_734 : decode cL_law 734 = .ok (.ldc2_w 39, 3) := by decide +kernel
theorem dL_law_737 : decode cL_law 737 = .ok (.land, 1) := by decide +kernel
theorem dL_law_738 : decode cL_law 738 = .ok (.lor, 1) := by decide +kernel
theorem dL_law_739 : decode cL_law 739 = .ok (.invokevirtual 79, 3) := by decide +kernel
theorem dL_law_742 : decode cL_law 742 = .ok (.if_icmp .eq 726, 3) := by decide +kernel
theorem dL_law_745 : decode cL_law 745 = .ok (.iconst 0, 1) := by decide +kernel
theorem dL_law_746 : decode cL_law 746 = .ok (.ireturn, 1) := by decide +kernel
theorem dL_law_747 : decode cL_law 747 = .ok (.aload_n 1, 1) := by decide +kernel
theorem dL_law_748 : decode cL_law 748 = .ok (.aload_n 0, 1) := by decide +kernel
theorem dL_law_749 : decode cL_law 749 = .ok (.iload_n 3, 1) := by decide +kernel
theorem dL_law_750 : decode cL_law 750 = .ok (.iconst 1, 1) := by decide +kernel
theorem dL_law_751 : decode cL_law 751 = .ok (.iadd, 1) := by decide +kernel
theorem dL_law_752 : decode cL_law 752 = .ok (.iaload, 1) := by decide +kernel
theorem dL_law_753 : decode cL_law 753 = .ok (.aload_n 0, 1) := by decide +kernel
theorem dL_law_754 : decode cL_law 754 = .ok (.iload_n 3, 1) := by decide +kernel
theorem dL_law_755 : decode cL_law 755 = .ok (.iconst 2, 1) := by decide +kernel
theorem dL_law_756 : decode cL_law 756 = .ok (.iadd, 1) := by decide +kernel
theorem dL_law_757 : decode cL_law 757 = .ok (.iaload, 1) := by decide +kernel
theorem dL_law_758 : decode cL_law 758 = .ok (.aload_n 0, 1) := by decide +kernel
theorem dL_law_759 : decode cL_law 759 = .ok (.iload_n 3, 1) := by decide +kernel
theorem dL_law_760 : decode cL_law 760 = .ok (.iconst 3, 1) := by decide +kernel
theorem dL_law_761 : decode cL_law 761 = .ok (.iadd, 1) := by decide +kernel
theorem dL_law_762 : decode cL_law 762 = .ok (.iaload, 1) := by decide +kernel
theorem dL_law_763 : decode cL_law 763 = .ok (.invokevirtual 80, 3) := by decide +kernel
theorem dL_law_766 : decode cL_law 766 = .ok (.aload_n 2, 1) := by decide +kernel
theorem dL_law_767 : decode cL_law 767 = .ok (.aload_n 0, 1) := by decide +kernel
theorem dL_law_768 : decode cL_law 768 = .ok (.iload_n 3, 1) := by decide +kernel
theorem dL_law_769 : decode cL_law 769 = .ok (.iconst 1, 1) := by decide +kernel
theorem dL_law_770 : decode cL_law 770 = .ok (.iadd, 1) := by decide +kernel
theorem dL_law_771 : decode cL_law 771 = .ok (.iaload, 1) := by decide +kernel
theorem dL_law_772 : decode cL_law 772 = .ok (.aload_n 0, 1) := by decide +kernel
theorem dL_law_773 : decode cL_law 773 = .ok (.iload_n 3, 1) := by decide +kernel
theorem dL_law_774 : decode cL_law 774 = .ok (.iconst 2, 1) := by decide +kernel
theorem dL_law_775 : decode cL_law 775 = .ok (.iadd, 1) := by decide +kernel
theorem dL_law_776 : decode cL_law 776 = .ok (.iaload, 1) := by decide +kernel
theorem dL_law_777 : decode cL_law 777 = .ok (.aload_n 0, 1) := by decide +kernel
theorem dL_law_778 : decode cL_law 778 = .ok (.iload_n 3, 1) := by decide +kernel
theorem dL_law_779 : decode cL_law 779 = .ok (.iconst 3, 1) := by decide +kernel
theorem dL_law_780 : decode cL_law 780 = .ok (.iadd, 1) := by decide +kernel
theorem dL_law_781 : decode cL_law 781 = .ok (.iaload, 1) := by decide +kernel
theorem dL_law_782 : decode cL_law 782 = .ok (.invokevirtual 83, 3) := by decide +kernel
theorem dL_law_785 : decode cL_law 785 = .ok (.if_icmp .eq 683, 3) := by decide +kernel
theorem dL_law_788 : decode cL_law 788 = .ok (.iconst 0, 1) := by decide +kernel
theorem dL_law_789 : decode cL_law 789 = .ok (.ireturn, 1) := by decide +kernel
theorem dL_law_790 : decode cL_law 790 = .ok (.aload_n 1, 1) := by decide +kernel
theorem dL_law_791 : decode cL_law 791 = .ok (.aload_n 0, 1) := by decide +kernel
theorem dL_law_792 : decode cL_law 792 = .ok (.iload_n 3, 1) := by decide +kernel
theorem dL_law_793 : decode cL_law 793 = .ok (.iconst 1, 1) := by decide +kernel
theorem dL_law_794 : decode cL_law 794 = .ok (.iadd, 1) := by decide +kernel
theorem dL_law_795 : decode cL_law 795 = .ok (.iaload, 1) := by decide +kernel
theorem dL_law_796 : decode cL_law 796 = .ok (.aload_n 0, 1) := by decide +kernel
theorem dL_law_797 : decode cL_law 797 = .ok (.iload_n 3, 1) := by decide +kernel
theorem dL_law_798 : decode cL_law 798 = .ok (.iconst 2, 1) := by decide +kernel
theorem dL_law_799 : decode cL_law 799 = .ok (.iadd, 1) := by decide +kernel
theorem dL_law_800 : decode cL_law 800 = .ok (.iaload, 1) := by decide +kernel
theorem dL_law_801 : decode cL_law 801 = .ok (.invokevirtual 84, 3) := by decide +kernel
theorem dL_law_804 : decode cL_law 804 = .ok (.aload_n 2, 1) := by decide +kernel
theorem dL_law_805 : decode cL_law 805 = .ok (.aload_n 0, 1) := by decide +kernel
theorem dL_law_806 : decode cL_law 806 = .ok (.iload_n 3, 1) := by decide +kernel
theorem dL_law_807 : decode cL_law 807 = .ok (.iconst 1, 1) := by decide +kernel
theorem dL_law_808 : decode cL_law 808 = .ok (.iadd, 1) := by decide +kernel
theorem dL_law_809 : decode cL_law 809 = .ok (.iaload, 1) := by decide +kernel
theorem dL_law_810 : decode cL_law 810 = .ok (.aload_n 0, 1) := by decide +kernel
theorem dL_law_811 : decode cL_law 811 = .ok (.iload_n 3, 1) := by decide +kernel
theorem dL_law_812 : decode cL_law 812 = .ok (.iconst 2, 1) := by decide +kernel
theorem dL_law_813 : decode cL_law 813 = .ok (.iadd, 1) := by decide +kernel
theorem dL_law_814 : decode cL_law 814 = .ok (.iaload, 1) := by decide +kernel
theorem dL_law_815 : decode cL_law 815 = .ok (.invokevirtual 87, 3) := by decide +kernel
theorem dL_law_818 : decode cL_law 818 = .ok (.if_icmp .eq 650, 3) := by decide +kernel
theorem dL_law_821 : decode cL_law 821 = .ok (.iconst 0, 1) := by decide +kernel
theorem dL_law_822 : decode cL_law 822 = .ok (.ireturn, 1) := by decide +kernel
theorem dL_law_823 : decode cL_law 823 = .ok (.aload_n 1, 1) := by decide +kernel
theorem dL_law_824 : decode cL_law 824 = .ok (.aload_n 0, 1) := by decide +kernel
theorem dL_law_825 : decode cL_law 825 = .ok (.iload_n 3, 1) := by decide +kernel
theorem dL_law_826 : decode cL_law 826 = .ok (.iconst 1, 1) := by decide +kernel
theorem dL_law_827 : decode cL_law 827 = .ok (.iadd, 1) := by decide +kernel
theorem dL_law_828 : decode cL_law 828 = .ok (.iaload, 1) := by decide +kernel
theorem dL_law_829 : decode cL_law 829 = .ok (.aload_n 0, 1) := by decide +kernel
theorem dL_law_830 : decode cL_law 830 = .ok (.iload_n 3, 1) := by decide +kernel
theorem dL_law_831 : decode cL_law 831 = .ok (.iconst 2, 1) := by decide +kernel
theorem dL_law_832 : decode cL_law 832 = .ok (.iadd, 1) := by decide +kernel
theorem dL_law_833 : decode cL_law 833 = .ok (.iaload, 1) := by decide +kernel
theorem dL_law_834 : decode cL_law 834 = .ok (.aload_n 0, 1) := by decide +kernel
theorem dL_law_835 : decode cL_law 835 = .ok (.iload_n 3, 1) := by decide +kernel
theorem dL_law_836 : decode cL_law 836 = .ok (.iconst 3, 1) := by decide +kernel
theorem dL_law_837 : decode cL_law 837 = .ok (.iadd, 1) := by decide +kernel
theorem dL_law_838 : decode cL_law 838 = .ok (.iaload, 1) := by decide +kernel
theorem dL_law_839 : decode cL_law 839 = .ok (.aload_n 0, 1) := by decide +kernel
theorem dL_law_840 : decode cL_law 840 = .ok (.iload_n 3, 1) := by decide +kernel
theorem dL_law_841 : decode cL_law 841 = .ok (.iconst 4, 1) := by decide +kernel
theorem dL_law_842 : decode cL_law 842 = .ok (.iadd, 1) := by decide +kernel
theorem dL_law_843 : decode cL_law 843 = .ok (.iaload, 1) := by decide +kernel
theorem dL_law_844 : decode cL_law 844 = .ok (.invokevirtual 88, 3) := by decide +kernel
theorem dL_law_847 : decode cL_law 847 = .ok (.aload_n 2, 1) := by decide +kernel
theorem dL_law_848 : decode cL_law 848 = .ok (.aload_n 0, 1) := by decide +kernel
theorem dL_law_849 : decode cL_law 849 = .ok (.iload_n 3, 1) := by decide +kernel
theorem dL_law_850 : decode cL_law 850 = .ok (.iconst 1, 1) := by decide +kernel
theorem dL_law_851 : decode cL_law 851 = .ok (.iadd, 1) := by decide +kernel
theorem dL_law_852 : decode cL_law 852 = .ok (.iaload, 1) := by decide +kernel
theorem dL_law_853 : decode cL_law 853 = .ok (.aload_n 0, 1) := by decide +kernel
theorem dL_law_854 : decode cL_law 854 = .ok (.iload_n 3, 1) := by decide +kernel
theorem dL_law_855 : decode cL_law 855 = .ok (.iconst 2, 1) := by decide +kernel
theorem dL_law_856 : decode cL_law 856 = .ok (.iadd, 1) := by decide +kernel
theorem dL_law_857 : decode cL_law 857 = .ok (.iaload, 1) := by decide +kernel
theorem dL_law_858 : decode cL_law 858 = .ok (.aload_n 0, 1) := by decide +kernel
theorem dL_law_859 : decode cL_law 859 = .ok (.iload_n 3, 1) := by decide +kernel
theorem dL_law_860 : decode cL_law 860 = .ok (.iconst 3, 1) := by decide +kernel
theorem dL_law_861 : decode cL_law 861 = .ok (.iadd, 1) := by decide +kernel
theorem dL_law_862 : decode cL_law 862 = .ok (.iaload, 1) := by decide +kernel
theorem dL_law_863 : decode cL_law 863 = .ok (.aload_n 0, 1) := by decide +kernel
theorem dL_law_864 : decode cL_law 864 = .ok (.iload_n 3, 1) := by decide +kernel
theorem dL_law_865 : decode cL_law 865 = .ok (.iconst 4, 1) := by decide +kernel
theorem dL_law_866 : decode cL_law 866 = .ok (.iadd, 1) := by decide +kernel
theorem dL_law_867 : decode cL_law 867 = .ok (.iaload, 1) := by decide +kernel
theorem dL_law_868 : decode cL_law 868 = .ok (.invokevirtual 92, 3) := by decide +kernel
theorem dL_law_871 : decode cL_law 871 = .ok (.if_icmp .eq 597, 3) := by decide +kernel
theorem dL_law_874 : decode cL_law 874 = .ok (.iconst 0, 1) := by decide +kernel
theorem dL_law_875 : decode cL_law 875 = .ok (.ireturn, 1) := by decide +kernel
theorem dL_law_876 : decode cL_law 876 = .ok (.aload_n 1, 1) := by decide +kernel
theorem dL_law_877 : decode cL_law 877 = .ok (.aload_n 0, 1) := by decide +kernel
theorem dL_law_878 : decode cL_law 878 = .ok (.iload_n 3, 1) := by decide +kernel
theorem dL_law_879 : decode cL_law 879 = .ok (.iconst 1, 1) := by decide +kernel
theorem dL_law_880 : decode cL_law 880 = .ok (.iadd, 1) := by decide +kernel
theorem dL_law_881 : decode cL_law 881 = .ok (.iaload, 1) := by decide +kernel
theorem dL_law_882 : decode cL_law 882 = .ok (.aload_n 0, 1) := by decide +kernel
theorem dL_law_883 : decode cL_law 883 = .ok (.iload_n 3, 1) := by decide +kernel
theorem dL_law_884 : decode cL_law 884 = .ok (.iconst 2, 1) := by decide +kernel
theorem dL_law_885 : decode cL_law 885 = .ok (.iadd, 1) := by decide +kernel
theorem dL_law_886 : decode cL_law 886 = .ok (.iaload, 1) := by decide +kernel
theorem dL_law_887 : decode cL_law 887 = .ok (.invokevirtual 93, 3) := by decide +kernel
theorem dL_law_890 : decode cL_law 890 = .ok (.aload_n 2, 1) := by decide +kernel
theorem dL_law_891 : decode cL_law 891 = .ok (.aload_n 0, 1) := by decide +kernel
theorem dL_law_892 : decode cL_law 892 = .ok (.iload_n 3, 1) := by decide +kernel
theorem dL_law_893 : decode cL_law 893 = .ok (.iconst 1, 1) := by decide +kernel
theorem dL_law_894 : decode cL_law 894 = .ok (.iadd, 1) := by decide +kernel
theorem dL_law_895 : decode cL_law 895 = .ok (.iaload, 1) := by decide +kernel
theorem dL_law_896 : decode cL_law 896 = .ok (.aload_n 0, 1) := by decide +kernel
theorem dL_law_897 : decode cL_law 897 = .ok (.iload_n 3, 1) := by decide +kernel
theorem dL_law_898 : decode cL_law 898 = .ok (.iconst 2, 1) := by decide +kernel
theorem dL_law_899 : decode cL_law 899 = .ok (.iadd, 1) := by decide +kernel
theorem dL_law_900 : decode cL_law 900 = .ok (.iaload, 1) := by decide +kernel
theorem dL_law_901 : decode cL_law 901 = .ok (.invokevirtual 96, 3) := by decide +kernel
theorem dL_law_904 : decode cL_law 904 = .ok (.if_icmp .eq 564, 3) := by decide +kernel
theorem dL_law_907 : decode cL_law 907 = .ok (.iconst 0, 1) := by decide +kernel
theorem dL_law_908 : decode cL_law 908 = .ok (.ireturn, 1) := by decide +kernel
theorem dL_law_909 : decode cL_law 909 = .ok (.aload_n 1, 1) := by decide +kernel
theorem dL_law_910 : decode cL_law 910 = .ok (.aload_n 0, 1) := by decide +kernel
theorem dL_law_911 : decode cL_law 911 = .ok (.iload_n 3, 1) := by decide +kernel
theorem dL_law_912 : decode cL_law 912 = .ok (.iconst 1, 1) := by decide +kernel
theorem dL_law_913 : decode cL_law 913 = .ok (.iadd, 1) := by decide +kernel
theorem dL_law_914 : decode cL_law 914 = .ok (.iaload, 1) := by decide +kernel
theorem dL_law_915 : decode cL_law 915 = .ok (.aload_n 0, 1) := by decide +kernel
theorem dL_law_916 : decode cL_law 916 = .ok (.iload_n 3, 1) := by decide +kernel
theorem dL_law_917 : decode cL_law 917 = .ok (.iconst 2, 1) := by decide +kernel
theorem dL_law_918 : decode cL_law 918 = .ok (.iadd, 1) := by decide +kernel
theorem dL_law_919 : decode cL_law 919 = .ok (.iaload, 1) := by decide +kernel
theorem dL_law_920 : decode cL_law 920 = .ok (.invokevirtual 97, 3) := by decide +kernel
theorem dL_law_923 : decode cL_law 923 = .ok (.aload_n 2, 1) := by decide +kernel
theorem dL_law_924 : decode cL_law 924 = .ok (.aload_n 0, 1) := by decide +kernel
theorem dL_law_925 : decode cL_law 925 = .ok (.iload_n 3, 1) := by decide +kernel
theorem dL_law_926 : decode cL_law 926 = .ok (.iconst 1, 1) := by decide +kernel
theorem dL_law_927 : decode cL_law 927 = .ok (.iadd, 1) := by decide +kernel
theorem dL_law_928 : decode cL_law 928 = .ok (.iaload, 1) := by decide +kernel
theorem dL_law_929 : decode cL_law 929 = .ok (.aload_n 0, 1) := by decide +kernel
theorem dL_law_930 : decode cL_law 930 = .ok (.iload_n 3, 1) := by decide +kernel
theorem dL_law_931 : decode cL_law 931 = .ok (.iconst 2, 1) := by decide +kernel
theorem dL_law_932 : decode cL_law 932 = .ok (.iadd, 1) := by decide +kernel
theorem dL_law_933 : decode cL_law 933 = .ok (.iaload, 1) := by decide +kernel
theorem dL_law_934 : decode cL_law 934 = .ok (.invokevirtual 100, 3) := by decide +kernel
theorem dL_law_937 : decode cL_law 937 = .ok (.if_icmp .eq 531, 3) := by decide +kernel
theorem dL_law_940 : decode cL_law 940 = .ok (.iconst 0, 1) := by decide +kernel
theorem dL_law_941 : decode cL_law 941 = .ok (.ireturn, 1) := by decide +kernel
theorem dL_law_942 : decode cL_law 942 = .ok (.aload_n 1, 1) := by decide +kernel
theorem dL_law_943 : decode cL_law 943 = .ok (.aload_n 0, 1) := by decide +kernel
theorem dL_law_944 : decode cL_law 944 = .ok (.iload_n 3, 1) := by decide +kernel
theorem dL_law_945 : decode cL_law 945 = .ok (.iconst 1, 1) := by decide +kernel
theorem dL_law_946 : decode cL_law 946 = .ok (.iadd, 1) := by decide +kernel
theorem dL_law_947 : decode cL_law 947 = .ok (.iaload, 1) := by decide +kernel
theorem dL_law_948 : decode cL_law 948 = .ok (.aload_n 0, 1) := by decide +kernel
theorem dL_law_949 : decode cL_law 949 = .ok (.iload_n 3, 1) := by decide +kernel
theorem dL_law_950 : decode cL_law 950 = .ok (.iconst 2, 1) := by decide +kernel
theorem dL_law_951 : decode cL_law 951 = .ok (.iadd, 1) := by decide +kernel
theorem dL_law_952 : decode cL_law 952 = .ok (.iaload, 1) := by decide +kernel
theorem dL_law_953 : decode cL_law 953 = .ok (.invokevirtual 101, 3) := by decide +kernel
theorem dL_law_956 : decode cL_law 956 = .ok (.aload_n 2, 1) := by decide +kernel
theorem dL_law_957 : decode cL_law 957 = .ok (.aload_n 0, 1) := by decide +kernel
theorem dL_law_958 : decode cL_law 958 = .ok (.iload_n 3, 1) := by decide +kernel
theorem dL_law_959 : decode cL_law 959 = .ok (.iconst 1, 1) := by decide +kernel
theorem dL_law_960 : decode cL_law 960 = .ok (.iadd, 1) := by decide +kernel
theorem dL_law_961 : decode cL_law 961 = .ok (.iaload, 1) := by decide +kernel
theorem dL_law_962 : decode cL_law 962 = .ok (.aload_n 0, 1) := by decide +kernel
theorem dL_law_963 : decode cL_law 963 = .ok (.iload_n 3, 1) := by decide +kernel
theorem dL_law_964 : decode cL_law 964 = .ok (.iconst 2, 1) := by decide +kernel
theorem dL_law_965 : decode cL_law 965 = .ok (.iadd, 1) := by decide +kernel
theorem dL_law_966 : decode cL_law 966 = .ok (.iaload, 1) := by decide +kernel
theorem dL_law_967 : decode cL_law 967 = .ok (.invokevirtual 104, 3) := by decide +kernel
theorem dL_law_970 : decode cL_law 970 = .ok (.if_icmp .eq 498, 3) := by decide +kernel
theorem dL_law_973 : decode cL_law 973 = .ok (.iconst 0, 1) := by decide +kernel
theorem dL_law_974 : decode cL_law 974 = .ok (.ireturn, 1) := by decide +kernel
theorem dL_law_975 : decode cL_law 975 = .ok (.aload_n 1, 1) := by decide +kernel
theorem dL_law_976 : decode cL_law 976 = .ok (.invokevirtual 105, 3) := by decide +kernel
theorem dL_law_979 : decode cL_law 979 = .ok (.aload_n 2, 1) := by decide +kernel
theorem dL_law_980 : decode cL_law 980 = .ok (.invokevirtual 109, 3) := by decide +kernel
theorem dL_law_983 : decode cL_law 983 = .ok (.if_icmp .eq 485, 3) := by decide +kernel
theorem dL_law_986 : decode cL_law 986 = .ok (.iconst 0, 1) := by decide +kernel
theorem dL_law_987 : decode cL_law 987 = .ok (.ireturn, 1) := by decide +kernel
theorem dL_law_988 : decode cL_law 988 = .ok (.aload_n 1, 1) := by decide +kernel
theorem dL_law_989 : decode cL_law 989 = .ok (.aload_n 0, 1) := by decide +kernel
theorem dL_law_990 : decode cL_law 990 = .ok (.iload_n 3, 1) := by decide +kernel
theorem dL_law_991 : decode cL_law 991 = .ok (.iconst 1, 1) := by decide +kernel
theorem dL_law_992 : decode cL_law 992 = .ok (.iadd, 1) := by decide +kernel
theorem dL_law_993 : decode cL_law 993 = .ok (.iaload, 1) := by decide +kernel
theorem dL_law_994 : decode cL_law 994 = .ok (.aload_n 0, 1) := by decide +kernel
theorem dL_law_995 : decode cL_law 995 = .ok (.iload_n 3, 1) := by decide +kernel
theorem dL_law_996 : decode cL_law 996 = .ok (.iconst 2, 1) := by decide +kernel
theorem dL_law_997 : decode cL_law 997 = .ok (.iadd, 1) := by decide +kernel
theorem dL_law_998 : decode cL_law 998 = .ok (.iaload, 1) := by decide +kernel
theorem dL_law_999 : decode cL_law 999 = .ok (.i2l, 1) := by decide +kernel
theorem dL_law_1000 : decode cL_law 1000 = .ok (.bipush 32, 2) := by decide +kernel
theorem dL_law_1002 : decode cL_law 1002 = .ok (.lshl, 1) := by decide +kernel
theorem dL_law_1003 : decode cL_law 1003 = .ok (.aload_n 0, 1) := by decide +kernel
theorem dL_law_1004 : decode cL_law 1004 = .ok (.iload_n 3, 1) := by decide +kernel
theorem dL_law_1005 : decode cL_law 1005 = .ok (.iconst 3, 1) := by decide +kernel
theorem dL_law_1006 : decode cL_law 1006 = .ok (.iadd, 1) := by decide +kernel
theorem dL_law_1007 : decode cL_law 1007 = .ok (.iaload, 1) := by decide +kernel
theorem dL_law_1008 : decode cL_law 1008 = .ok (.i2l, 1) := by decide +kernel
theorem dL_law_1009 : decode cL_law 1009 = .ok (.ldc2_w 39, 3) := by decide +kernel
theorem dL_law_1012 : decode cL_law 1012 = .ok (.land, 1) := by decide +kernel
theorem dL_law_1013 : decode cL_law 1013 = .ok (.lor, 1) := by decide +kernel
theorem dL_law_1014 : decode cL_law 1014 = .ok (.aload_n 0, 1) := by decide +kernel
theorem dL_law_1015 : decode cL_law 1015 = .ok (.iload_n 3, 1) := by decide +kernel
theorem dL_law_1016 : decode cL_law 1016 = .ok (.iconst 4, 1) := by decide +kernel
theorem dL_law_1017 : decode cL_law 1017 = .ok (.iadd, 1) := by decide +kernel
theorem dL_law_1018 : decode cL_law 1018 = .ok (.iaload, 1) := by decide +kernel
theorem dL_law_1019 : decode cL_law 1019 = .ok (.ifCond .eq 7, 3) := by decide +kernel
theorem dL_law_1022 : decode cL_law 1022 = .ok (.iconst 1, 1) := by decide +kernel
theorem dL_law_1023 : decode cL_law 1023 = .ok (.goto 4, 3) := by decide +kernel
theorem dL_law_1026 : decode cL_law 1026 = .ok (.iconst 0, 1) := by decide +kernel
theorem dL_law_1027 : decode cL_law 1027 = .ok (.invokevirtual 110, 3) := by decide +kernel
theorem dL_law_1030 : decode cL_law 1030 = .ok (.aload_n 2, 1) := by decide +kernel
theorem dL_law_1031 : decode cL_law 1031 = .ok (.aload_n 0, 1) := by decide +kernel
theorem dL_law_1032 : decode cL_law 1032 = .ok (.iload_n 3, 1) := by decide +kernel
theorem dL_law_1033 : decode cL_law 1033 = .ok (.iconst 1, 1) := by decide +kernel
theorem dL_law_1034 : decode cL_law 1034 = .ok (.iadd, 1) := by decide +kernel
theorem dL_law_1035 : decode cL_law 1035 = .ok (.iaload, 1) := by decide +kernel
theorem dL_law_1036 : decode cL_law 1036 = .ok (.aload_n 0, 1) := by decide +kernel
theorem dL_law_1037 : decode cL_law 1037 = .ok (.iload_n 3, 1) := by decide +kernel
theorem dL_law_1038 : decode cL_law 1038 = .ok (.iconst 2, 1) := by decide +kernel
theorem dL_law_1039 : decode cL_law 1039 = .ok (.iadd, 1) := by decide +kernel
theorem dL_law_1040 : decode cL_law 1040 = .ok (.iaload, 1) := by decide +kernel
theorem dL_law_1041 : decode cL_law 1041 = .ok (.i2l, 1) := by decide +kernel
theorem dL_law_1042 : decode cL_law 1042 = .ok (.bipush 32, 2) := by decide +kernel
theorem dL_law_1044 : decode cL_law 1044 = .ok (.lshl, 1) := by decide +kernel
theorem dL_law_1045 : decode cL_law 1045 = .ok (.aload_n 0, 1) := by decide +kernel
theorem dL_law_1046 : decode cL_law 1046 = .ok (.iload_n 3, 1) := by decide +kernel
theorem dL_law_1047 : decode cL_law 1047 = .ok (.iconst 3, 1) := by decide +kernel
theorem dL_law_1048 : decode cL_law 1048 = .ok (.iadd, 1) := by decide +kernel
theorem dL_law_1049 : decode cL_law 1049 = .ok (.iaload, 1) := by decide +kernel
theorem dL_law_1050 : decode cL_law 1050 = .ok (.i2l, 1) := by decide +kernel
theorem dL_law_1051 : decode cL_law 1051 = .ok (.ldc2_w 39, 3) := by decide +kernel
theorem dL_law_1054 : decode cL_law 1054 = .ok (.land, 1) := by decide +kernel
theorem dL_law_1055 : decode cL_law 1055 = .ok (.lor, 1) := by decide +kernel
theorem dL_law_1056 : decode cL_law 1056 = .ok (.aload_n 0, 1) := by decide +kernel
theorem dL_law_1057 : decode cL_law 1057 = .ok (.iload_n 3, 1) := by decide +kernel
theorem dL_law_1058 : decode cL_law 1058 = .ok (.iconst 4, 1) := by decide +kernel
theorem dL_law_1059 : decode cL_law 1059 = .ok (.iadd, 1) := by decide +kernel
theorem dL_law_1060 : decode cL_law 1060 = .ok (.iaload, 1) := by decide +kernel
theorem dL_law_1061 : decode cL_law 1061 = .ok (.ifCond .eq 7, 3) := by decide +kernel
theorem dL_law_1064 : decode cL_law 1064 = .ok (.iconst 1, 1) := by decide +kernel
theorem dL_law_1065 : decode cL_law 1065 = .ok (.goto 4, 3) := by decide +kernel
theorem dL_law_1068 : decode cL_law 1068 = .ok (.iconst 0, 1) := by decide +kernel
theorem dL_law_1069 : decode cL_law 1069 = .ok (.invokevirtual 114, 3) := by decide +kernel
theorem dL_law_1072 : decode cL_law 1072 = .ok (.if_icmp .eq 396, 3) := by decide +kernel
theorem dL_law_1075 : decode cL_law 1075 = .ok (.iconst 0, 1) := by decide +kernel
theorem dL_law_1076 : decode cL_law 1076 = .ok (.ireturn, 1) := by decide +kernel
theorem dL_law_1077 : decode cL_law 1077 = .ok (.aload_n 1, 1) := by decide +kernel
theorem dL_law_1078 : decode cL_law 1078 = .ok (.aload_n 0, 1) := by decide +kernel
theorem dL_law_1079 : decode cL_law 1079 = .ok (.iload_n 3, 1) := by decide +kernel
theorem dL_law_1080 : decode cL_law 1080 = .ok (.iconst 1, 1) := by decide +kernel
theorem dL_law_1081 : decode cL_law 1081 = .ok (.iadd, 1) := by decide +kernel
theorem dL_law_1082 : decode cL_law 1082 = .ok (.iaload, 1) := by decide +kernel
theorem dL_law_1083 : decode cL_law 1083 = .ok (.aload_n 0, 1) := by decide +kernel
theorem dL_law_1084 : decode cL_law 1084 = .ok (.iload_n 3, 1) := by decide +kernel
theorem dL_law_1085 : decode cL_law 1085 = .ok (.iconst 2, 1) := by decide +kernel
theorem dL_law_1086 : decode cL_law 1086 = .ok (.iadd, 1) := by decide +kernel
theorem dL_law_1087 : decode cL_law 1087 = .ok (.iaload, 1) := by decide +kernel
theorem dL_law_1088 : decode cL_law 1088 = .ok (.invokevirtual 115, 3) := by decide +kernel
theorem dL_law_1091 : decode cL_law 1091 = .ok (.aload_n 2, 1) := by decide +kernel
theorem dL_law_1092 : decode cL_law 1092 = .ok (.aload_n 0, 1) := by decide +kernel
theorem dL_law_1093 : decode cL_law 1093 = .ok (.iload_n 3, 1) := by decide +kernel
theorem dL_law_1094 : decode cL_law 1094 = .ok (.iconst 1, 1) := by decide +kernel
theorem dL_law_1095 : decode cL_law 1095 = .ok (.iadd, 1) := by decide +kernel
theorem dL_law_1096 : decode cL_law 1096 = .ok (.iaload, 1) := by decide +kernel
theorem dL_law_1097 : decode cL_law 1097 = .ok (.aload_n 0, 1) := by decide +kernel
theorem dL_law_1098 : decode cL_law 1098 = .ok (.iload_n 3, 1) := by decide +kernel
theorem dL_law_1099 : decode cL_law 1099 = .ok (.iconst 2, 1) := by decide +kernel
theorem dL_law_1100 : decode cL_law 1100 = .ok (.iadd, 1) := by decide +kernel
theorem dL_law_1101 : decode cL_law 1101 = .ok (.iaload, 1) := by decide +kernel
theorem dL_law_1102 : decode cL_law 1102 = .ok (.invokevirtual 118, 3) := by decide +kernel
theorem dL_law_1105 : decode cL_law 1105 = .ok (.if_icmp .eq 363, 3) := by decide +kernel
theorem dL_law_1108 : decode cL_law 1108 = .ok (.iconst 0, 1) := by decide +kernel
theorem dL_law_1109 : decode cL_law 1109 = .ok (.ireturn, 1) := by decide +kernel
theorem dL_law_1110 : decode cL_law 1110 = .ok (.aload_n 1, 1) := by decide +kernel
theorem dL_law_1111 : decode cL_law 1111 = .ok (.aload_n 0, 1) := by decide +kernel
theorem dL_law_1112 : decode cL_law 1112 = .ok (.iload_n 3, 1) := by decide +kernel
theorem dL_law_1113 : decode cL_law 1113 = .ok (.iconst 1, 1) := by decide +kernel
theorem dL_law_1114 : decode cL_law 1114 = .ok (.iadd, 1) := by decide +kernel
theorem dL_law_1115 : decode cL_law 1115 = .ok (.iaload, 1) := by decide +kernel
theorem dL_law_1116 : decode cL_law 1116 = .ok (.aload_n 0, 1) := by decide +kernel
theorem dL_law_1117 : decode cL_law 1117 = .ok (.iload_n 3, 1) := by decide +kernel
theorem dL_law_1118 : decode cL_law 1118 = .ok (.iconst 2, 1) := by decide +kernel
theorem dL_law_1119 : decode cL_law 1119 = .ok (.iadd, 1) := by decide +kernel
theorem dL_law_1120 : decode cL_law 1120 = .ok (.iaload, 1) := by decide +kernel
theorem dL_law_1121 : decode cL_law 1121 = .ok (.aload_n 0, 1) := by decide +kernel
theorem dL_law_1122 : decode cL_law 1122 = .ok (.iload_n 3, 1) := by decide +kernel
theorem dL_law_1123 : decode cL_law 1123 = .ok (.iconst 3, 1) := by decide +kernel
theorem dL_law_1124 : decode cL_law 1124 = .ok (.iadd, 1) := by decide +kernel
theorem dL_law_1125 : decode cL_law 1125 = .ok (.iaload, 1) := by decide +kernel
theorem dL_law_1126 : decode cL_law 1126 = .ok (.invokevirtual 119, 3) := by decide +kernel
theorem dL_law_1129 : decode cL_law 1129 = .ok (.aload_n 2, 1) := by decide +kernel
theorem dL_law_1130 : decode cL_law 1130 = .ok (.aload_n 0, 1) := by decide +kernel
theorem dL_law_1131 : decode cL_law 1131 = .ok (.iload_n 3, 1) := by decide +kernel
theorem dL_law_1132 : decode cL_law 1132 = .ok (.iconst 1, 1) := by decide +kernel
theorem dL_law_1133 : decode cL_law 1133 = .ok (.iadd, 1) := by decide +kernel
theorem dL_law_1134 : decode cL_law 1134 = .ok (.iaload, 1) := by decide +kernel
theorem dL_law_1135 : decode cL_law 1135 = .ok (.aload_n 0, 1) := by decide +kernel
theorem dL_law_1136 : decode cL_law 1136 = .ok (.iload_n 3, 1) := by decide +kernel
theorem dL_law_1137 : decode cL_law 1137 = .ok (.iconst 2, 1) := by decide +kernel
theorem dL_law_1138 : decode cL_law 1138 = .ok (.iadd, 1) := by decide +kernel
theorem dL_law_1139 : decode cL_law 1139 = .ok (.iaload, 1) := by decide +kernel
theorem dL_law_1140 : decode cL_law 1140 = .ok (.aload_n 0, 1) := by decide +kernel
theorem dL_law_1141 : decode cL_law 1141 = .ok (.iload_n 3, 1) := by decide +kernel
theorem dL_law_1142 : decode cL_law 1142 = .ok (.iconst 3, 1) := by decide +kernel
theorem dL_law_1143 : decode cL_law 1143 = .ok (.iadd, 1) := by decide +kernel
theorem dL_law_1144 : decode cL_law 1144 = .ok (.iaload, 1) := by decide +kernel
theorem dL_law_1145 : decode cL_law 1145 = .ok (.invokevirtual 122, 3) := by decide +kernel
theorem dL_law_1148 : decode cL_law 1148 = .ok (.if_icmp .eq 320, 3) := by decide +kernel
theorem dL_law_1151 : decode cL_law 1151 = .ok (.iconst 0, 1) := by decide +kernel
theorem dL_law_1152 : decode cL_law 1152 = .ok (.ireturn, 1) := by decide +kernel
theorem dL_law_1153 : decode cL_law 1153 = .ok (.aload_n 1, 1) := by decide +kernel
theorem dL_law_1154 : decode cL_law 1154 = .ok (.aload_n 0, 1) := by decide +kernel
theorem dL_law_1155 : decode cL_law 1155 = .ok (.iload_n 3, 1) := by decide +kernel
theorem dL_law_1156 : decode cL_law 1156 = .ok (.iconst 1, 1) := by decide +kernel
theorem dL_law_1157 : decode cL_law 1157 = .ok (.iadd, 1) := by decide +kernel
theorem dL_law_1158 : decode cL_law 1158 = .ok (.iaload, 1) := by decide +kernel
theorem dL_law_1159 : decode cL_law 1159 = .ok (.invokevirtual 123, 3) := by decide +kernel
theorem dL_law_1162 : decode cL_law 1162 = .ok (.aload_n 2, 1) := by decide +kernel
theorem dL_law_1163 : decode cL_law 1163 = .ok (.aload_n 0, 1) := by decide +kernel
theorem dL_law_1164 : decode cL_law 1164 = .ok (.iload_n 3, 1) := by decide +kernel
theorem dL_law_1165 : decode cL_law 1165 = .ok (.iconst 1, 1) := by decide +kernel
theorem dL_law_1166 : decode cL_law 1166 = .ok (.iadd, 1) := by decide +kernel
theorem dL_law_1167 : decode cL_law 1167 = .ok (.iaload, 1) := by decide +kernel
theorem dL_law_1168 : decode cL_law 1168 = .ok (.invokevirtual 126, 3) := by decide +kernel
theorem dL_law_1171 : decode cL_law 1171 = .ok (.if_icmp .eq 297, 3) := by decide +kernel
theorem dL_law_1174 : decode cL_law 1174 = .ok (.iconst 0, 1) := by decide +kernel
theorem dL_law_1175 : decode cL_law 1175 = .ok (.ireturn, 1) := by decide +kernel
theorem dL_law_1176 : decode cL_law 1176 = .ok (.aload_n 1, 1) := by decide +kernel
theorem dL_law_1177 : decode cL_law 1177 = .ok (.aload_n 0, 1) := by decide +kernel
theorem dL_law_1178 : decode cL_law 1178 = .ok (.iload_n 3, 1) := by decide +kernel
theorem dL_law_1179 : decode cL_law 1179 = .ok (.iconst 1, 1) := by decide +kernel
theorem dL_law_1180 : decode cL_law 1180 = .ok (.iadd, 1) := by decide +kernel
theorem dL_law_1181 : decode cL_law 1181 = .ok (.iaload, 1) := by decide +kernel
theorem dL_law_1182 : decode cL_law 1182 = .ok (.aload_n 0, 1) := by decide +kernel
theorem dL_law_1183 : decode cL_law 1183 = .ok (.iload_n 3, 1) := by decide +kernel
theorem dL_law_1184 : decode cL_law 1184 = .ok (.iconst 2, 1) := by decide +kernel
theorem dL_law_1185 : decode cL_law 1185 = .ok (.iadd, 1) := by decide +kernel
theorem dL_law_1186 : decode cL_law 1186 = .ok (.iaload, 1) := by decide +kernel
theorem dL_law_1187 : decode cL_law 1187 = .ok (.aload_n 0, 1) := by decide +kernel
theorem dL_law_1188 : decode cL_law 1188 = .ok (.iload_n 3, 1) := by decide +kernel
theorem dL_law_1189 : decode cL_law 1189 = .ok (.iconst 3, 1) := by decide +kernel
theorem dL_law_1190 : decode cL_law 1190 = .ok (.iadd, 1) := by decide +kernel
theorem dL_law_1191 : decode cL_law 1191 = .ok (.iaload, 1) := by decide +kernel
theorem dL_law_1192 : decode cL_law 1192 = .ok (.invokevirtual 127, 3) := by decide +kernel
theorem dL_law_1195 : decode cL_law 1195 = .ok (.aload_n 2, 1) := by decide +kernel
theorem dL_law_1196 : decode cL_law 1196 = .ok (.aload_n 0, 1) := by decide +kernel
theorem dL_law_1197 : decode cL_law 1197 = .ok (.iload_n 3, 1) := by decide +kernel
theorem dL_law_1198 : decode cL_law 1198 = .ok (.iconst 1, 1) := by decide +kernel
theorem dL_law_1199 : decode cL_law 1199 = .ok (.iadd, 1) := by decide +kernel
theorem dL_law_1200 : decode cL_law 1200 = .ok (.iaload, 1) := by decide +kernel
theorem dL_law_1201 : decode cL_law 1201 = .ok (.aload_n 0, 1) := by decide +kernel
theorem dL_law_1202 : decode cL_law 1202 = .ok (.iload_n 3, 1) := by decide +kernel
theorem dL_law_1203 : decode cL_law 1203 = .ok (.iconst 2, 1) := by decide +kernel
theorem dL_law_1204 : decode cL_law 1204 = .ok (.iadd, 1) := by decide +kernel
theorem dL_law_1205 : decode cL_law 1205 = .ok (.iaload, 1) := by decide +kernel
theorem dL_law_1206 : decode cL_law 1206 = .ok (.aload_n 0, 1) := by decide +kernel
theorem dL_law_1207 : decode cL_law 1207 = .ok (.iload_n 3, 1) := by decide +kernel
theorem dL_law_1208 : decode cL_law 1208 = .ok (.iconst 3, 1) := by decide +kernel
theorem dL_law_1209 : decode cL_law 1209 = .ok (.iadd, 1) := by decide +kernel
theorem dL_law_1210 : decode cL_law 1210 = .ok (.iaload, 1) := by decide +kernel
theorem dL_law_1211 : decode cL_law 1211 = .ok (.invokevirtual 130, 3) := by decide +kernel
theorem dL_law_1214 : decode cL_law 1214 = .ok (.if_icmp .eq 254, 3) := by decide +kernel
theorem dL_law_1217 : decode cL_law 1217 = .ok (.iconst 0, 1) := by decide +kernel
theorem dL_law_1218 : decode cL_law 1218 = .ok (.ireturn, 1) := by decide +kernel
theorem dL_law_1219 : decode cL_law 1219 = .ok (.aload_n 1, 1) := by decide +kernel
theorem dL_law_1220 : decode cL_law 1220 = .ok (.aload_n 0, 1) := by decide +kernel
theorem dL_law_1221 : decode cL_law 1221 = .ok (.iload_n 3, 1) := by decide +kernel
theorem dL_law_1222 : decode cL_law 1222 = .ok (.iconst 1, 1) := by decide +kernel
theorem dL_law_1223 : decode cL_law 1223 = .ok (.iadd, 1) := by decide +kernel
theorem dL_law_1224 : decode cL_law 1224 = .ok (.iaload, 1) := by decide +kernel
theorem dL_law_1225 : decode cL_law 1225 = .ok (.aload_n 0, 1) := by decide +kernel
theorem dL_law_1226 : decode cL_law 1226 = .ok (.iload_n 3, 1) := by decide +kernel
theorem dL_law_1227 : decode cL_law 1227 = .ok (.iconst 2, 1) := by decide +kernel
theorem dL_law_1228 : decode cL_law 1228 = .ok (.iadd, 1) := by decide +kernel
theorem dL_law_1229 : decode cL_law 1229 = .ok (.iaload, 1) := by decide +kernel
theorem dL_law_1230 : decode cL_law 1230 = .ok (.invokevirtual 131, 3) := by decide +kernel
theorem dL_law_1233 : decode cL_law 1233 = .ok (.aload_n 2, 1) := by decide +kernel
theorem dL_law_1234 : decode cL_law 1234 = .ok (.aload_n 0, 1) := by decide +kernel
theorem dL_law_1235 : decode cL_law 1235 = .ok (.iload_n 3, 1) := by decide +kernel
theorem dL_law_1236 : decode cL_law 1236 = .ok (.iconst 1, 1) := by decide +kernel
theorem dL_law_1237 : decode cL_law 1237 = .ok (.iadd, 1) := by decide +kernel
theorem dL_law_1238 : decode cL_law 1238 = .ok (.iaload, 1) := by decide +kernel
theorem dL_law_1239 : decode cL_law 1239 = .ok (.aload_n 0, 1) := by decide +kernel
theorem dL_law_1240 : decode cL_law 1240 = .ok (.iload_n 3, 1) := by decide +kernel
theorem dL_law_1241 : decode cL_law 1241 = .ok (.iconst 2, 1) := by decide +kernel
theorem dL_law_1242 : decode cL_law 1242 = .ok (.iadd, 1) := by decide +kernel
theorem dL_law_1243 : decode cL_law 1243 = .ok (.iaload, 1) := by decide +kernel
theorem dL_law_1244 : decode cL_law 1244 = .ok (.invokevirtual 134, 3) := by decide +kernel
theorem dL_law_1247 : decode cL_law 1247 = .ok (.if_icmp .eq 221, 3) := by decide +kernel
theorem dL_law_1250 : decode cL_law 1250 = .ok (.iconst 0, 1) := by decide +kernel
theorem dL_law_1251 : decode cL_law 1251 = .ok (.ireturn, 1) := by decide +kernel
theorem dL_law_1252 : decode cL_law 1252 = .ok (.aload_n 1, 1) := by decide +kernel
theorem dL_law_1253 : decode cL_law 1253 = .ok (.aload_n 0, 1) := by decide +kernel
theorem dL_law_1254 : decode cL_law 1254 = .ok (.iload_n 3, 1) := by decide +kernel
theorem dL_law_1255 : decode cL_law 1255 = .ok (.iconst 1, 1) := by decide +kernel
theorem dL_law_1256 : decode cL_law 1256 = .ok (.iadd, 1) := by decide +kernel
theorem dL_law_1257 : decode cL_law 1257 = .ok (.iaload, 1) := by decide +kernel
theorem dL_law_1258 : decode cL_law 1258 = .ok (.aload_n 0, 1) := by decide +kernel
theorem dL_law_1259 : decode cL_law 1259 = .ok (.iload_n 3, 1) := by decide +kernel
theorem dL_law_1260 : decode cL_law 1260 = .ok (.iconst 2, 1) := by decide +kernel
theorem dL_law_1261 : decode cL_law 1261 = .ok (.iadd, 1) := by decide +kernel
theorem dL_law_1262 : decode cL_law 1262 = .ok (.iaload, 1) := by decide +kernel
theorem dL_law_1263 : decode cL_law 1263 = .ok (.aload_n 0, 1) := by decide +kernel
theorem dL_law_1264 : decode cL_law 1264 = .ok (.iload_n 3, 1) := by decide +kernel
theorem dL_law_1265 : decode cL_law 1265 = .ok (.iconst 3, 1) := by decide +kernel
theorem dL_law_1266 : decode cL_law 1266 = .ok (.iadd, 1) := by decide +kernel
theorem dL_law_1267 : decode cL_law 1267 = .ok (.iaload, 1) := by decide +kernel
theorem dL_law_1268 : decode cL_law 1268 = .ok (.invokevirtual 135, 3) := by decide +kernel
theorem dL_law_1271 : decode cL_law 1271 = .ok (.aload_n 2, 1) := by decide +kernel
theorem dL_law_1272 : decode cL_law 1272 = .ok (.aload_n 0, 1) := by decide +kernel
theorem dL_law_1273 : decode cL_law 1273 = .ok (.iload_n 3, 1) := by decide +kernel
theorem dL_law_1274 : decode cL_law 1274 = .ok (.iconst 1, 1) := by decide +kernel
theorem dL_law_1275 : decode cL_law 1275 = .ok (.iadd, 1) := by decide +kernel
theorem dL_law_1276 : decode cL_law 1276 = .ok (.iaload, 1) := by decide +kernel
theorem dL_law_1277 : decode cL_law 1277 = .ok (.aload_n 0, 1) := by decide +kernel
theorem dL_law_1278 : decode cL_law 1278 = .ok (.iload_n 3, 1) := by decide +kernel
theorem dL_law_1279 : decode cL_law 1279 = .ok (.iconst 2, 1) := by decide +kernel
theorem dL_law_1280 : decode cL_law 1280 = .ok (.iadd, 1) := by decide +kernel
theorem dL_law_1281 : decode cL_law 1281 = .ok (.iaload, 1) := by decide +kernel
theorem dL_law_1282 : decode cL_law 1282 = .ok (.aload_n 0, 1) := by decide +kernel
theorem dL_law_1283 : decode cL_law 1283 = .ok (.iload_n 3, 1) := by decide +kernel
theorem dL_law_1284 : decode cL_law 1284 = .ok (.iconst 3, 1) := by decide +kernel
theorem dL_law_1285 : decode cL_law 1285 = .ok (.iadd, 1) := by decide +kernel
theorem dL_law_1286 : decode cL_law 1286 = .ok (.iaload, 1) := by decide +kernel
theorem dL_law_1287 : decode cL_law 1287 = .ok (.invokevirtual 138, 3) := by decide +kernel
theorem dL_law_1290 : decode cL_law 1290 = .ok (.if_icmp .eq 178, 3) := by decide +kernel
theorem dL_law_1293 : decode cL_law 1293 = .ok (.iconst 0, 1) := by decide +kernel
theorem dL_law_1294 : decode cL_law 1294 = .ok (.ireturn, 1) := by decide +kernel
theorem dL_law_1295 : decode cL_law 1295 = .ok (.aload_n 1, 1) := by decide +kernel
theorem dL_law_1296 : decode cL_law 1296 = .ok (.aload_n 0, 1) := by decide +kernel
theorem dL_law_1297 : decode cL_law 1297 = .ok (.iload_n 3, 1) := by decide +kernel
theorem dL_law_1298 : decode cL_law 1298 = .ok (.iconst 1, 1) := by decide +kernel
theorem dL_law_1299 : decode cL_law 1299 = .ok (.iadd, 1) := by decide +kernel
theorem dL_law_1300 : decode cL_law 1300 = .ok (.iaload, 1) := by decide +kernel
theorem dL_law_1301 : decode cL_law 1301 = .ok (.invokevirtual 139, 3) := by decide +kernel
theorem dL_law_1304 : decode cL_law 1304 = .ok (.aload_n 2, 1) := by decide +kernel
theorem dL_law_1305 : decode cL_law 1305 = .ok (.aload_n 0, 1) := by decide +kernel
theorem dL_law_1306 : decode cL_law 1306 = .ok (.iload_n 3, 1) := by decide +kernel
theorem dL_law_1307 : decode cL_law 1307 = .ok (.iconst 1, 1) := by decide +kernel
theorem dL_law_1308 : decode cL_law 1308 = .ok (.iadd, 1) := by decide +kernel
theorem dL_law_1309 : decode cL_law 1309 = .ok (.iaload, 1) := by decide +kernel
theorem dL_law_1310 : decode cL_law 1310 = .ok (.invokevirtual 142, 3) := by decide +kernel
theorem dL_law_1313 : decode cL_law 1313 = .ok (.if_icmp .eq 155, 3) := by decide +kernel
theorem dL_law_1316 : decode cL_law 1316 = .ok (.iconst 0, 1) := by decide +kernel
theorem dL_law_1317 : decode cL_law 1317 = .ok (.ireturn, 1) := by decide +kernel
theorem dL_law_1318 : decode cL_law 1318 = .ok (.aload_n 1, 1) := by decide +kernel
theorem dL_law_1319 : decode cL_law 1319 = .ok (.aload_n 0, 1) := by decide +kernel
theorem dL_law_1320 : decode cL_law 1320 = .ok (.iload_n 3, 1) := by decide +kernel
theorem dL_law_1321 : decode cL_law 1321 = .ok (.iconst 1, 1) := by decide +kernel
theorem dL_law_1322 : decode cL_law 1322 = .ok (.iadd, 1) := by decide +kernel
theorem dL_law_1323 : decode cL_law 1323 = .ok (.iaload, 1) := by decide +kernel
theorem dL_law_1324 : decode cL_law 1324 = .ok (.aload_n 0, 1) := by decide +kernel
theorem dL_law_1325 : decode cL_law 1325 = .ok (.iload_n 3, 1) := by decide +kernel
theorem dL_law_1326 : decode cL_law 1326 = .ok (.iconst 2, 1) := by decide +kernel
theorem dL_law_1327 : decode cL_law 1327 = .ok (.iadd, 1) := by decide +kernel
theorem dL_law_1328 : decode cL_law 1328 = .ok (.iaload, 1) := by decide +kernel
theorem dL_law_1329 : decode cL_law 1329 = .ok (.aload_n 0, 1) := by decide +kernel
theorem dL_law_1330 : decode cL_law 1330 = .ok (.iload_n 3, 1) := by decide +kernel
theorem dL_law_1331 : decode cL_law 1331 = .ok (.iconst 3, 1) := by decide +kernel
theorem dL_law_1332 : decode cL_law 1332 = .ok (.iadd, 1) := by decide +kernel
theorem dL_law_1333 : decode cL_law 1333 = .ok (.iaload, 1) := by decide +kernel
theorem dL_law_1334 : decode cL_law 1334 = .ok (.aload_n 0, 1) := by decide +kernel
theorem dL_law_1335 : decode cL_law 1335 = .ok (.iload_n 3, 1) := by decide +kernel
theorem dL_law_1336 : decode cL_law 1336 = .ok (.iconst 4, 1) := by decide +kernel
theorem dL_law_1337 : decode cL_law 1337 = .ok (.iadd, 1) := by decide +kernel
theorem dL_law_1338 : decode cL_law 1338 = .ok (.iaload, 1) := by decide +kernel
theorem dL_law_1339 : decode cL_law 1339 = .ok (.aload_n 0, 1) := by decide +kernel
theorem dL_law_1340 : decode cL_law 1340 = .ok (.iload_n 3, 1) := by decide +kernel
theorem dL_law_1341 : decode cL_law 1341 = .ok (.iconst 5, 1) := by decide +kernel
theorem dL_law_1342 : decode cL_law 1342 = .ok (.iadd, 1) := by decide +kernel
theorem dL_law_1343 : decode cL_law 1343 = .ok (.iaload, 1) := by decide +kernel
theorem dL_law_1344 : decode cL_law 1344 = .ok (.invokevirtual 143, 3) := by decide +kernel
theorem dL_law_1347 : decode cL_law 1347 = .ok (.aload_n 2, 1) := by decide +kernel
theorem dL_law_1348 : decode cL_law 1348 = .ok (.aload_n 0, 1) := by decide +kernel
theorem dL_law_1349 : decode cL_law 1349 = .ok (.iload_n 3, 1) := by decide +kernel
theorem dL_law_1350 : decode cL_law 1350 = .ok (.iconst 1, 1) := by decide +kernel
theorem dL_law_1351 : decode cL_law 1351 = .ok (.iadd, 1) := by decide +kernel
theorem dL_law_1352 : decode cL_law 1352 = .ok (.iaload, 1) := by decide +kernel
theorem dL_law_1353 : decode cL_law 1353 = .ok (.aload_n 0, 1) := by decide +kernel
theorem dL_law_1354 : decode cL_law 1354 = .ok (.iload_n 3, 1) := by decide +kernel
theorem dL_law_1355 : decode cL_law 1355 = .ok (.iconst 2, 1) := by decide +kernel
theorem dL_law_1356 : decode cL_law 1356 = .ok (.iadd, 1) := by decide +kernel
theorem dL_law_1357 : decode cL_law 1357 = .ok (.iaload, 1) := by decide +kernel
theorem dL_law_1358 : decode cL_law 1358 = .ok (.aload_n 0, 1) := by decide +kernel
theorem dL_law_1359 : decode cL_law 1359 = .ok (.iload_n 3, 1) := by decide +kernel
theorem dL_law_1360 : decode cL_law 1360 = .ok (.iconst 3, 1) := by decide +kernel
theorem dL_law_1361 : decode cL_law 1361 = .ok (.iadd, 1) := by decide +kernel
theorem dL_law_1362 : decode cL_law 1362 = .ok (.iaload, 1) := by decide +kernel
theorem dL_law_1363 : decode cL_law 1363 = .ok (.aload_n 0, 1) := by decide +kernel
theorem dL_law_1364 : decode cL_law 1364 = .ok (.iload_n 3, 1) := by decide +kernel
theorem dL_law_1365 : decode cL_law 1365 = .ok (.iconst 4, 1) := by decide +kernel
theorem dL_law_1366 : decode cL_law 1366 = .ok (.iadd, 1) := by decide +kernel
theorem dL_law_1367 : decode cL_law 1367 = .ok (.iaload, 1) := by decide +kernel
theorem dL_law_1368 : decode cL_law 1368 = .ok (.aload_n 0, 1) := by decide +kernel
theorem dL_law_1369 : decode cL_law 1369 = .ok (.iload_n 3, 1) := by decide +kernel
theorem dL_law_1370 : decode cL_law 1370 = .ok (.iconst 5, 1) := by decide +kernel
theorem dL_law_1371 : decode cL_law 1371 = .ok (.iadd, 1) := by decide +kernel
theorem dL_law_1372 : decode cL_law 1372 = .ok (.iaload, 1) := by decide +kernel
theorem dL_law_1373 : decode cL_law 1373 = .ok (.invokevirtual 147, 3) := by decide +kernel
theorem dL_law_1376 : decode cL_law 1376 = .ok (.if_icmp .eq 92, 3) := by decide +kernel
theorem dL_law_1379 : decode cL_law 1379 = .ok (.iconst 0, 1) := by decide +kernel
theorem dL_law_1380 : decode cL_law 1380 = .ok (.ireturn, 1) := by decide +kernel
theorem dL_law_1381 : decode cL_law 1381 = .ok (.aload_n 1, 1) := by decide +kernel
theorem dL_law_1382 : decode cL_law 1382 = .ok (.invokevirtual 148, 3) := by decide +kernel
theorem dL_law_1385 : decode cL_law 1385 = .ok (.aload_n 2, 1) := by decide +kernel
theorem dL_law_1386 : decode cL_law 1386 = .ok (.invokevirtual 152, 3) := by decide +kernel
theorem dL_law_1389 : decode cL_law 1389 = .ok (.lcmp, 1) := by decide +kernel
theorem dL_law_1390 : decode cL_law 1390 = .ok (.ifCond .eq 78, 3) := by decide +kernel
theorem dL_law_1393 : decode cL_law 1393 = .ok (.iconst 0, 1) := by decide +kernel
theorem dL_law_1394 : decode cL_law 1394 = .ok (.ireturn, 1) := by decide +kernel
theorem dL_law_1395 : decode cL_law 1395 = .ok (.aload_n 1, 1) := by decide +kernel
theorem dL_law_1396 : decode cL_law 1396 = .ok (.aload_n 0, 1) := by decide +kernel
theorem dL_law_1397 : decode cL_law 1397 = .ok (.iload_n 3, 1) := by decide +kernel
theorem dL_law_1398 : decode cL_law 1398 = .ok (.iconst 1, 1) := by decide +kernel
theorem dL_law_1399 : decode cL_law 1399 = .ok (.iadd, 1) := by decide +kernel
theorem dL_law_1400 : decode cL_law 1400 = .ok (.iaload, 1) := by decide +kernel
theorem dL_law_1401 : decode cL_law 1401 = .ok (.invokevirtual 153, 3) := by decide +kernel
theorem dL_law_1404 : decode cL_law 1404 = .ok (.aload_n 2, 1) := by decide +kernel
theorem dL_law_1405 : decode cL_law 1405 = .ok (.aload_n 0, 1) := by decide +kernel
theorem dL_law_1406 : decode cL_law 1406 = .ok (.iload_n 3, 1) := by decide +kernel
theorem dL_law_1407 : decode cL_law 1407 = .ok (.iconst 1, 1) := by decide +kernel
theorem dL_law_1408 : decode cL_law 1408 = .ok (.iadd, 1) := by decide +kernel
theorem dL_law_1409 : decode cL_law 1409 = .ok (.iaload, 1) := by decide +kernel
theorem dL_law_1410 : decode cL_law 1410 = .ok (.invokevirtual 156, 3) := by decide +kernel
theorem dL_law_1413 : decode cL_law 1413 = .ok (.if_icmp .eq 55, 3) := by decide +kernel
theorem dL_law_1416 : decode cL_law 1416 = .ok (.iconst 0, 1) := by decide +kernel
theorem dL_law_1417 : decode cL_law 1417 = .ok (.ireturn, 1) := by decide +kernel
theorem dL_law_1418 : decode cL_law 1418 = .ok (.aload_n 1, 1) := by decide +kernel
theorem dL_law_1419 : decode cL_law 1419 = .ok (.invokevirtual 157, 3) := by decide +kernel
theorem dL_law_1422 : decode cL_law 1422 = .ok (.aload_n 2, 1) := by decide +kernel
theorem dL_law_1423 : decode cL_law 1423 = .ok (.invokevirtual 160, 3) := by decide +kernel
theorem dL_law_1426 : decode cL_law 1426 = .ok (.if_icmp .eq 42, 3) := by decide +kernel
theorem dL_law_1429 : decode cL_law 1429 = .ok (.iconst 0, 1) := by decide +kernel
theorem dL_law_1430 : decode cL_law 1430 = .ok (.ireturn, 1) := by decide +kernel
theorem dL_law_1431 : decode cL_law 1431 = .ok (.aload_n 1, 1) := by decide +kernel
theorem dL_law_1432 : decode cL_law 1432 = .ok (.aload_n 0, 1) := by decide +kernel
theorem dL_law_1433 : decode cL_law 1433 = .ok (.iload_n 3, 1) := by decide +kernel
theorem dL_law_1434 : decode cL_law 1434 = .ok (.iconst 1, 1) := by decide +kernel
theorem dL_law_1435 : decode cL_law 1435 = .ok (.iadd, 1) := by decide +kernel
theorem dL_law_1436 : decode cL_law 1436 = .ok (.iaload, 1) := by decide +kernel
theorem dL_law_1437 : decode cL_law 1437 = .ok (.invokevirtual 161, 3) := by decide +kernel
theorem dL_law_1440 : decode cL_law 1440 = .ok (.aload_n 2, 1) := by decide +kernel
theorem dL_law_1441 : decode cL_law 1441 = .ok (.aload_n 0, 1) := by decide +kernel
theorem dL_law_1442 : decode cL_law 1442 = .ok (.iload_n 3, 1) := by decide +kernel
theorem dL_law_1443 : decode cL_law 1443 = .ok (.iconst 1, 1) := by decide +kernel
theorem dL_law_1444 : decode cL_law 1444 = .ok (.iadd, 1) := by decide +kernel
theorem dL_law_1445 : decode cL_law 1445 = .ok (.iaload, 1) := by decide +kernel
theorem dL_law_1446 : decode cL_law 1446 = .ok (.invokevirtual 164, 3) := by decide +kernel
theorem dL_law_1449 : decode cL_law 1449 = .ok (.if_icmp .eq 19, 3) := by decide +kernel
theorem dL_law_1452 : decode cL_law 1452 = .ok (.iconst 0, 1) := by decide +kernel
theorem dL_law_1453 : decode cL_law 1453 = .ok (.ireturn, 1) := by decide +kernel
theorem dL_law_1454 : decode cL_law 1454 = .ok (.aload_n 1, 1) := by decide +kernel
theorem dL_law_1455 : decode cL_law 1455 = .ok (.invokevirtual 165, 3) := by decide +kernel
theorem dL_law_1458 : decode cL_law 1458 = .ok (.aload_n 2, 1) := by decide +kernel
theorem dL_law_1459 : decode cL_law 1459 = .ok (.invokevirtual 168, 3) := by decide +kernel
theorem dL_law_1462 : decode cL_law 1462 = .ok (.lcmp, 1) := by decide +kernel
theorem dL_law_1463 : decode cL_law 1463 = .ok (.ifCond .eq 5, 3) := by decide +kernel
theorem dL_law_1466 : decode cL_law 1466 = .ok (.iconst 0, 1) := by decide +kernel
theorem dL_law_1467 : decode cL_law 1467 = .ok (.ireturn, 1) := by decide +kernel
theorem dL_law_1468 : decode cL_law 1468 = .ok (.iinc 3 6, 3) := by decide +kernel
theorem dL_law_1471 : decode cL_law 1471 = .ok (.goto (-1453), 3) := by decide +kernel
theorem dL_law_1474 : decode cL_law 1474 = .ok (.iconst 1, 1) := by decide +kernel
theorem dL_law_1475 : decode cL_law 1475 = .ok (.ireturn, 1) := by decide +kernel
abbrev vwCl : List vw_C := [(RX2, TX2, 7), (RX4, TX4, 9), (RX5, TX5, 8), (RX6, TX6, 13), (RX7, TX7, 33)]
