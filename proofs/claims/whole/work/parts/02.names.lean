theorem dX5_areNear_6 : decode cX5_areNear 6 = .ok (.iload_n 2, 1) := by decide +kernel
theorem dX5_areNear_7 : decode cX5_areNear 7 = .ok (.invokestatic 38, 3) := by decide +kernel
theorem dX5_areNear_10 : decode cX5_areNear 10 = .ok (.ireturn, 1) := by decide +kernel
set_option maxRecDepth 20000 in
theorem ggX5_nearToAll_X6_below : GoodIn wsX5_nearToAll wsX6_below := goodIn_r _ [5] (by decide +kernel) (by decide +kernel)
set_option maxRecDepth 20000 in
theorem gX5_nearToAll_X6_below_n42 : GoodIn wsX5_nearToAll (wsX6_below) := ggX5_nearToAll_X6_below
set_option maxRecDepth 20000 in
theorem ggX5_nearToAll_X6_has : GoodIn wsX5_nearToAll wsX6_has := goodIn_r _ [7] (by decide +kernel) (by decide +kernel)
set_option maxRecDepth 20000 in
theorem gX5_nearToAll_X6_has_n38 : GoodIn wsX5_nearToAll (wsX6_has) := ggX5_nearToAll_X6_has
theorem dX5_nearToAll_0 : decode cX5_nearToAll 0 = .ok (.aload_n 0, 1) := by decide +kernel
theorem dX5_nearToAll_1 : decode cX5_nearToAll 1 = .ok (.getfield 29, 3) := by decide +kernel
theorem dX5_nearToAll_4 : decode cX5_nearToAll 4 = .ok (.invokestatic 42, 3) := by decide +kernel
theorem dX5_nearToAll_7 : decode cX5_nearToAll 7 = .ok (.lstore_n 3, 1) := by decide +kernel
theorem dX5_nearToAll_8 : decode cX5_nearToAll 8 = .ok (.iconst 0, 1) := by decide +kernel
theorem dX5_nearToAll_9 : decode cX5_nearToAll 9 = .ok (.istore 5, 2) := by decide +kernel
theorem dX5_nearToAll_11 : decode cX5_nearToAll 11 = .ok (.iload 5, 2) := by decide +kernel
theorem dX5_nearToAll_13 : decode cX5_nearToAll 13 = .ok (.aload_n 0, 1) := by decide +kernel
theorem dX5_nearToAll_14 : decode cX5_nearToAll 14 = .ok (.getfield 29, 3) := by decide +kernel
theorem dX5_nearToAll_17 : decode cX5_nearToAll 17 = .ok (.if_icmp .ge 28, 3) := by decide +kernel
theorem dX5_nearToAll_20 : decode cX5_nearToAll 20 = .ok (.lload_n 1, 1) := by decide +kernel
theorem dX5_nearToAll_21 : decode cX5_nearToAll 21 = .ok (.iload 5, 2) := by decide +kernel
theorem dX5_nearToAll_23 : decode cX5_nearToAll 23 = .ok (.invokestatic 38, 3) := by decide +kernel
theorem dX5_nearToAll_26 : decode cX5_nearToAll 26 = .ok (.ifCond .eq 13, 3) := by decide +kernel
theorem dX5_nearToAll_29 : decode cX5_nearToAll 29 = .ok (.lload_n 3, 1) := by decide +kernel
theorem dX5_nearToAll_30 : decode cX5_nearToAll 30 = .ok (.aload_n 0, 1) := by decide +kernel
theorem dX5_nearToAll_31 : decode cX5_nearToAll 31 = .ok (.getfield 18, 3) := by decide +kernel
theorem dX5_nearToAll_34 : decode cX5_nearToAll 34 = .ok (.iload 5, 2) := by decide +kernel
theorem dX5_nearToAll_36 : decode cX5_nearToAll 36 = .ok (.laload, 1) := by decide +kernel
theorem dX5_nearToAll_37 : decode cX5_nearToAll 37 = .ok (.land, 1) := by decide +kernel
theorem dX5_nearToAll_38 : decode cX5_nearToAll 38 = .ok (.lstore_n 3, 1) := by decide +kernel
theorem dX5_nearToAll_39 : decode cX5_nearToAll 39 = .ok (.iinc 5 1, 3) := by decide +kernel
theorem dX5_nearToAll_42 : decode cX5_nearToAll 42 = .ok (.goto (-31), 3) := by decide +kernel
theorem dX5_nearToAll_45 : decode cX5_nearToAll 45 = .ok (.lload_n 3, 1) := by decide +kernel
theorem dX5_nearToAll_46 : decode cX5_nearToAll 46 = .ok (.lreturn, 1) := by decide +kernel
set_option maxRecDepth 20000 in
theorem ggX5_spanSet_X5_nearToAll : GoodIn wsX5_spanSet wsX5_nearToAll := goodIn_r _ [6, 7, 1, 8, 9, 10, 11, 12, 13, 14, 15, 16, 17, 18, 19, 20] (by decide +kernel) (by decide +kernel)
set_option maxRecDepth 20000 in
theorem gX5_spanSet_X5_nearToAll : GoodIn wsX5_spanSet (wsV RX5 48 RX5 yX5_nearToAll wsX5_nearToAll) := goodIn_app (goodIn_of _ (by decide +kernel)) ggX5_spanSet_X5_nearToAll
theorem dX5_spanSet_0 : decode cX5_spanSet 0 = .ok (.aload_n 0, 1) := by decide +kernel
theorem dX5_spanSet_1 : decode cX5_spanSet 1 = .ok (.aload_n 0, 1) := by decide +kernel
theorem dX5_spanSet_2 : decode cX5_spanSet 2 = .ok (.getfield 18, 3) := by decide +kernel
theorem dX5_spanSet_5 : decode cX5_spanSet 5 = .ok (.iload_n 1, 1) := by decide +kernel
theorem dX5_spanSet_6 : decode cX5_spanSet 6 = .ok (.laload, 1) := by decide +kernel
theorem dX5_spanSet_7 : decode cX5_spanSet 7 = .ok (.aload_n 0, 1) := by decide +kernel
theorem dX5_spanSet_8 : decode cX5_spanSet 8 = .ok (.getfield 18, 3) := by decide +kernel
theorem dX5_spanSet_11 : decode cX5_spanSet 11 = .ok (.iload_n 2, 1) := by decide +kernel
theorem dX5_spanSet_12 : decode cX5_spanSet 12 = .ok (.laload, 1) := by decide +kernel
theorem dX5_spanSet_13 : decode cX5_spanSet 13 = .ok (.land, 1) := by decide +kernel
theorem dX5_spanSet_14 : decode cX5_spanSet 14 = .ok (.invokevirtual 48, 3) := by decide +kernel
theorem dX5_spanSet_17 : decode cX5_spanSet 17 = .ok (.lreturn, 1) := by decide +kernel
set_option maxRecDepth 20000 in
theorem ggX5_isRegular_X5_orderOfPoints : GoodIn wsX5_isRegular wsX5_orderOfPoints := goodIn_r _ [6, 7, 8, 1, 9, 10, 11, 12, 13, 14, 15, 34, 35, 36, 37, 38, 39, 40, 41] (by decide +kernel) (by decide +kernel)
set_option maxRecDepth 20000 in
theorem gX5_isRegular_X5_orderOfPoints : GoodIn wsX5_isRegular (wsV RX5 52 RX5 yX5_orderOfPoints wsX5_orderOfPoints) := goodIn_app (goodIn_of _ (by decide +kernel)) ggX5_isRegular_X5_orderOfPoints
set_option maxRecDepth 20000 in
theorem ggX5_isRegular_X5_areNear : GoodIn wsX5_isRegular wsX5_areNear := goodIn_r _ [19, 20, 21, 22, 23, 34, 35, 36, 37, 38, 39, 40, 41] (by decide +kernel) (by decide +kernel)
set_option maxRecDepth 20000 in
theorem gX5_isRegular_X5_areNear : GoodIn wsX5_isRegular (wsV RX5 56 RX5 yX5_areNear wsX5_areNear) := goodIn_app (goodIn_of _ (by decide +kernel)) ggX5_isRegular_X5_areNear
set_option maxRecDepth 20000 in
theorem ggX5_isRegular_X5_spanSet : GoodIn wsX5_isRegular wsX5_spanSet := goodIn_r _ [27, 20, 28, 29, 30, 5, 31, 1, 32, 22, 33, 21, 23, 34, 35, 36, 37, 38, 39, 40, 41] (by decide +kernel) (by decide +kernel)
set_option maxRecDepth 20000 in
theorem gX5_isRegular_X5_spanSet : GoodIn wsX5_isRegular (wsV RX5 60 RX5 yX5_spanSet wsX5_spanSet) := goodIn_app (goodIn_of _ (by decide +kernel)) ggX5_isRegular_X5_spanSet
set_option maxRecDepth 20000 in
theorem ggX5_isRegular_J13_bitCount_95d88 : GoodIn wsX5_isRegular wsJ13_bitCount_95d88 := goodIn_r _ [12, 13, 14, 15] (by decide +kernel) (by decide +kernel)
set_option maxRecDepth 20000 in
theorem gX5_isRegular_J13_bitCount_95d88 : GoodIn wsX5_isRegular (va_wsS RX5 64 yJ13_bitCount_95d88 wsJ13_bitCount_95d88) := goodIn_app (goodIn_of _ (by decide +kernel)) ggX5_isRegular_J13_bitCount_95d88
theorem dX5_isRegular_0 : decode cX5_isRegular 0 = .ok (.aload_n 0, 1) := by decide +kernel
theorem dX5_isRegular_1 : decode cX5_isRegular 1 = .ok (.invokevirtual 52, 3) := by decide +kernel
theorem dX5_isRegular_4 : decode cX5_isRegular 4 = .ok (.iconst 1, 1) := by decide +kernel
theorem dX5_isRegular_5 : decode cX5_isRegular 5 = .ok (.iadd, 1) := by decide +kernel
theorem dX5_isRegular_6 : decode cX5_isRegular 6 = .ok (.istore_n 2, 1) := by decide +kernel
theorem dX5_isRegular_7 : decode cX5_isRegular 7 = .ok (.iconst 0, 1) := by decide +kernel
theorem dX5_isRegular_8 : decode cX5_isRegular 8 = .ok (.istore_n 3, 1) := by decide +kernel
theorem dX5_isRegular_9 : decode cX5_isRegular 9 = .ok (.iload_n 3, 1) := by decide +kernel
theorem dX5_isRegular_10 : decode cX5_isRegular 10 = .ok (.aload_n 0, 1) := by decide +kernel
theorem dX5_isRegular_11 : decode cX5_isRegular 11 = .ok (.getfield 29, 3) := by decide +kernel
theorem dX5_isRegular_14 : decode cX5_isRegular 14 = .ok (.if_icmp .ge 33, 3) := by decide +kernel
theorem dX5_isRegular_17 : decode cX5_isRegular 17 = .ok (.aload_n 0, 1) := by decide +kernel
theorem dX5_isRegular_18 : decode cX5_isRegular 18 = .ok (.iload_n 1, 1) := by decide +kernel
theorem dX5_isRegular_19 : decode cX5_isRegular 19 = .ok (.iload_n 3, 1) := by decide +kernel
theorem dX5_isRegular_20 : decode cX5_isRegular 20 = .ok (.invokevirtual 56, 3) := by decide +kernel
theorem dX5_isRegular_23 : decode cX5_isRegular 23 = .ok (.ifCond .ne 18, 3) := by decide +kernel
theorem dX5_isRegular_26 : decode cX5_isRegular 26 = .ok (.aload_n 0, 1) := by decide +kernel
theorem dX5_isRegular_27 : decode cX5_isRegular 27 = .ok (.iload_n 1, 1) := by decide +kernel
theorem dX5_isRegular_28 : decode cX5_isRegular 28 = .ok (.iload_n 3, 1) := by decide +kernel
theorem dX5_isRegular_29 : decode cX5_isRegular 29 = .ok (.invokevirtual 60, 3) := by decide +kernel
theorem dX5_isRegular_32 : decode cX5_isRegular 32 = .ok (.invokestatic 64, 3) := by decide +kernel
theorem dX5_isRegular_35 : decode cX5_isRegular 35 = .ok (.iload_n 2, 1) := by decide +kernel
theorem dX5_isRegular_36 : decode cX5_isRegular 36 = .ok (.if_icmp .eq 5, 3) := by decide +kernel
theorem dX5_isRegular_39 : decode cX5_isRegular 39 = .ok (.iconst 0, 1) := by decide +kernel
theorem dX5_isRegular_40 : decode cX5_isRegular 40 = .ok (.ireturn, 1) := by decide +kernel
theorem dX5_isRegular_41 : decode cX5_isRegular 41 = .ok (.iinc 3 1, 3) := by decide +kernel
theorem dX5_isRegular_44 : decode cX5_isRegular 44 = .ok (.goto (-35), 3) := by decide +kernel
theorem dX5_isRegular_47 : decode cX5_isRegular 47 = .ok (.iconst 1, 1) := by decide +kernel
theorem dX5_isRegular_48 : decode cX5_isRegular 48 = .ok (.ireturn, 1) := by decide +kernel
set_option maxRecDepth 20000 in
theorem ggX5_orderOfLines_J13_bitCount_95d88 : GoodIn wsX5_orderOfLines wsJ13_bitCount_95d88 := goodIn_r _ [6, 7, 8, 9] (by decide +kernel) (by decide +kernel)
set_option maxRecDepth 20000 in
theorem gX5_orderOfLines_J13_bitCount_95d88 : GoodIn wsX5_orderOfLines (va_wsS RX5 64 yJ13_bitCount_95d88 wsJ13_bitCount_95d88) := goodIn_app (goodIn_of _ (by decide +kernel)) ggX5_orderOfLines_J13_bitCount_95d88
theorem dX5_orderOfLines_0 : decode cX5_orderOfLines 0 = .ok (.aload_n 0, 1) := by decide +kernel
theorem dX5_orderOfLines_1 : decode cX5_orderOfLines 1 = .ok (.getfield 35, 3) := by decide +kernel
theorem dX5_orderOfLines_4 : decode cX5_orderOfLines 4 = .ok (.ifCond .ne 6, 3) := by decide +kernel
theorem dX5_orderOfLines_7 : decode cX5_orderOfLines 7 = .ok (.bipush (-9), 2) := by decide +kernel
theorem dX5_orderOfLines_9 : decode cX5_orderOfLines 9 = .ok (.ireturn, 1) := by decide +kernel
theorem dX5_orderOfLines_10 : decode cX5_orderOfLines 10 = .ok (.aload_n 0, 1) := by decide +kernel
theorem dX5_orderOfLines_11 : decode cX5_orderOfLines 11 = .ok (.getfield 9, 3) := by decide +kernel
theorem dX5_orderOfLines_14 : decode cX5_orderOfLines 14 = .ok (.iconst 0, 1) := by decide +kernel
theorem dX5_orderOfLines_15 : decode cX5_orderOfLines 15 = .ok (.laload, 1) := by decide +kernel
theorem dX5_orderOfLines_16 : decode cX5_orderOfLines 16 = .ok (.invokestatic 64, 3) := by decide +kernel
theorem dX5_orderOfLines_19 : decode cX5_orderOfLines 19 = .ok (.istore_n 1, 1) := by decide +kernel
theorem dX5_orderOfLines_20 : decode cX5_orderOfLines 20 = .ok (.iconst 1, 1) := by decide +kernel
theorem dX5_orderOfLines_21 : decode cX5_orderOfLines 21 = .ok (.istore_n 2, 1) := by decide +kernel
theorem dX5_orderOfLines_22 : decode cX5_orderOfLines 22 = .ok (.iload_n 2, 1) := by decide +kernel
theorem dX5_orderOfLines_23 : decode cX5_orderOfLines 23 = .ok (.aload_n 0, 1) := by decide +kernel
theorem dX5_orderOfLines_24 : decode cX5_orderOfLines 24 = .ok (.getfield 35, 3) := by decide +kernel
theorem dX5_orderOfLines_27 : decode cX5_orderOfLines 27 = .ok (.if_icmp .ge 25, 3) := by decide +kernel
theorem dX5_orderOfLines_30 : decode cX5_orderOfLines 30 = .ok (.aload_n 0, 1) := by decide +kernel
theorem dX5_orderOfLines_31 : decode cX5_orderOfLines 31 = .ok (.getfield 9, 3) := by decide +kernel
theorem dX5_orderOfLines_34 : decode cX5_orderOfLines 34 = .ok (.iload_n 2, 1) := by decide +kernel
theorem dX5_orderOfLines_35 : decode cX5_orderOfLines 35 = .ok (.laload, 1) := by decide +kernel
theorem dX5_orderOfLines_36 : decode cX5_orderOfLines 36 = .ok (.invokestatic 64, 3) := by decide +kernel
theorem dX5_orderOfLines_39 : decode cX5_orderOfLines 39 = .ok (.iload_n 1, 1) := by decide +kernel
theorem dX5_orderOfLines_40 : decode cX5_orderOfLines 40 = .ok (.if_icmp .eq 6, 3) := by decide +kernel
theorem dX5_orderOfLines_43 : decode cX5_orderOfLines 43 = .ok (.bipush (-9), 2) := by decide +kernel
theorem dX5_orderOfLines_45 : decode cX5_orderOfLines 45 = .ok (.ireturn, 1) := by decide +kernel
theorem dX5_orderOfLines_46 : decode cX5_orderOfLines 46 = .ok (.iinc 2 1, 3) := by decide +kernel
theorem dX5_orderOfLines_49 : decode cX5_orderOfLines 49 = .ok (.goto (-27), 3) := by decide +kernel
theorem dX5_orderOfLines_52 : decode cX5_orderOfLines 52 = .ok (.iload_n 1, 1) := by decide +kernel
theorem dX5_orderOfLines_53 : decode cX5_orderOfLines 53 = .ok (.iconst 1, 1) := by decide +kernel
theorem dX5_orderOfLines_54 : decode cX5_orderOfLines 54 = .ok (.isub, 1) := by decide +kernel
theorem dX5_orderOfLines_55 : decode cX5_orderOfLines 55 = .ok (.ireturn, 1) := by decide +kernel
set_option maxRecDepth 20000 in
theorem ggX5_orderOfPoints_J13_bitCount_95d88 : GoodIn wsX5_orderOfPoints wsJ13_bitCount_95d88 := goodIn_r _ [7, 8, 9, 10] (by decide +kernel) (by decide +kernel)
set_option maxRecDepth 20000 in
theorem gX5_orderOfPoints_J13_bitCount_95d88 : GoodIn wsX5_orderOfPoints (va_wsS RX5 64 yJ13_bitCount_95d88 wsJ13_bitCount_95d88) := goodIn_app (goodIn_of _ (by decide +kernel)) ggX5_orderOfPoints_J13_bitCount_95d88
theorem dX5_orderOfPoints_0 : decode cX5_orderOfPoints 0 = .ok (.aload_n 0, 1) := by decide +kernel
theorem dX5_orderOfPoints_1 : decode cX5_orderOfPoints 1 = .ok (.getfield 35, 3) := by decide +kernel
theorem dX5_orderOfPoints_4 : decode cX5_orderOfPoints 4 = .ok (.ifCond .ne 6, 3) := by decide +kernel
theorem dX5_orderOfPoints_7 : decode cX5_orderOfPoints 7 = .ok (.bipush (-9), 2) := by decide +kernel
theorem dX5_orderOfPoints_9 : decode cX5_orderOfPoints 9 = .ok (.ireturn, 1) := by decide +kernel
theorem dX5_orderOfPoints_10 : decode cX5_orderOfPoints 10 = .ok (.aload_n 0, 1) := by decide +kernel
theorem dX5_orderOfPoints_11 : decode cX5_orderOfPoints 11 = .ok (.getfield 15, 3) := by decide +kernel
theorem dX5_orderOfPoints_14 : decode cX5_orderOfPoints 14 = .ok (.iconst 0, 1) := by decide +kernel
theorem dX5_orderOfPoints_15 : decode cX5_orderOfPoints 15 = .ok (.laload, 1) := by decide +kernel
theorem dX5_orderOfPoints_16 : decode cX5_orderOfPoints 16 = .ok (.invokestatic 64, 3) := by decide +kernel
theorem dX5_orderOfPoints_19 : decode cX5_orderOfPoints 19 = .ok (.istore_n 1, 1) := by decide +kernel
theorem dX5_orderOfPoints_20 : decode cX5_orderOfPoints 20 = .ok (.iconst 1, 1) := by decide +kernel
theorem dX5_orderOfPoints_21 : decode cX5_orderOfPoints 21 = .ok (.istore_n 2, 1) := by decide +kernel
theorem dX5_orderOfPoints_22 : decode cX5_orderOfPoints 22 = .ok (.iload_n 2, 1) := by decide +kernel
theorem dX5_orderOfPoints_23 : decode cX5_orderOfPoints 23 = .ok (.aload_n 0, 1) := by decide +kernel
theorem dX5_orderOfPoints_24 : decode cX5_orderOfPoints 24 = .ok (.getfield 29, 3) := by decide +kernel
theorem dX5_orderOfPoints_27 : decode cX5_orderOfPoints 27 = .ok (.if_icmp .ge 25, 3) := by decide +kernel
theorem dX5_orderOfPoints_30 : decode cX5_orderOfPoints 30 = .ok (.aload_n 0, 1) := by decide +kernel
theorem dX5_orderOfPoints_31 : decode cX5_orderOfPoints 31 = .ok (.getfield 15, 3) := by decide +kernel
theorem dX5_orderOfPoints_34 : decode cX5_orderOfPoints 34 = .ok (.iload_n 2, 1) := by decide +kernel
theorem dX5_orderOfPoints_35 : decode cX5_orderOfPoints 35 = .ok (.laload, 1) := by decide +kernel
theorem dX5_orderOfPoints_36 : decode cX5_orderOfPoints 36 = .ok (.invokestatic 64, 3) := by decide +kernel
theorem dX5_orderOfPoints_39 : decode cX5_orderOfPoints 39 = .ok (.iload_n 1, 1) := by decide +kernel
theorem dX5_orderOfPoints_40 : decode cX5_orderOfPoints 40 = .ok (.if_icmp .eq 6, 3) := by decide +kernel
theorem dX5_orderOfPoints_43 : decode cX5_orderOfPoints 43 = .ok (.bipush (-9), 2) := by decide +kernel
theorem dX5_orderOfPoints_45 : decode cX5_orderOfPoints 45 = .ok (.ireturn, 1) := by decide +kernel
theorem dX5_orderOfPoints_46 : decode cX5_orderOfPoints 46 = .ok (.iinc 2 1, 3) := by decide +kernel
theorem dX5_orderOfPoints_49 : decode cX5_orderOfPoints 49 = .ok (.goto (-27), 3) := by decide +kernel
theorem dX5_orderOfPoints_52 : decode cX5_orderOfPoints 52 = .ok (.iload_n 1, 1) := by decide +kernel
theorem dX5_orderOfPoints_53 : decode cX5_orderOfPoints 53 = .ok (.iconst 1, 1) := by decide +kernel
theorem dX5_orderOfPoints_54 : decode cX5_orderOfPoints 54 = .ok (.isub, 1) := by decide +kernel
theorem dX5_orderOfPoints_55 : decode cX5_orderOfPoints 55 = .ok (.ireturn, 1) := by decide +kernel
set_option maxRecDepth 20000 in
theorem ggX5_leastThrough_J13_bitCount_95d88 : GoodIn wsX5_leastThrough wsJ13_bitCount_95d88 := goodIn_r _ [10, 11, 12, 13] (by decide +kernel) (by decide +kernel)
set_option maxRecDepth 20000 in
theorem gX5_leastThrough_J13_bitCount_95d88 : GoodIn wsX5_leastThrough (va_wsS RX5 64 yJ13_bitCount_95d88 wsJ13_bitCount_95d88) := goodIn_app (goodIn_of _ (by decide +kernel)) ggX5_leastThrough_J13_bitCount_95d88
theorem dX5_leastThrough_0 : decode cX5_leastThrough 0 = .ok (.bipush 45, 2) := by decide +kernel
theorem dX5_leastThrough_2 : decode cX5_leastThrough 2 = .ok (.istore_n 1, 1) := by decide +kernel
theorem dX5_leastThrough_3 : decode cX5_leastThrough 3 = .ok (.iconst 0, 1) := by decide +kernel
theorem dX5_leastThrough_4 : decode cX5_leastThrough 4 = .ok (.istore_n 2, 1) := by decide +kernel
theorem dX5_leastThrough_5 : decode cX5_leastThrough 5 = .ok (.iload_n 2, 1) := by decide +kernel
theorem dX5_leastThrough_6 : decode cX5_leastThrough 6 = .ok (.aload_n 0, 1) := by decide +kernel
theorem dX5_leastThrough_7 : decode cX5_leastThrough 7 = .ok (.getfield 29, 3) := by decide +kernel
theorem dX5_leastThrough_10 : decode cX5_leastThrough 10 = .ok (.if_icmp .ge 23, 3) := by decide +kernel
theorem dX5_leastThrough_13 : decode cX5_leastThrough 13 = .ok (.iload_n 1, 1) := by decide +kernel
theorem dX5_leastThrough_14 : decode cX5_leastThrough 14 = .ok (.aload_n 0, 1) := by decide +kernel
theorem dX5_leastThrough_15 : decode cX5_leastThrough 15 = .ok (.getfield 15, 3) := by decide +kernel
theorem dX5_leastThrough_18 : decode cX5_leastThrough 18 = .ok (.iload_n 2, 1) := by decide +kernel
theorem dX5_leastThrough_19 : decode cX5_leastThrough 19 = .ok (.laload, 1) := by decide +kernel
theorem dX5_leastThrough_20 : decode cX5_leastThrough 20 = .ok (.invokestatic 64, 3) := by decide +kernel
theorem dX5_leastThrough_23 : decode cX5_leastThrough 23 = .ok (.invokestatic 70, 3) := by decide +kernel
theorem dX5_leastThrough_26 : decode cX5_leastThrough 26 = .ok (.istore_n 1, 1) := by decide +kernel
theorem dX5_leastThrough_27 : decode cX5_leastThrough 27 = .ok (.iinc 2 1, 3) := by decide +kernel
theorem dX5_leastThrough_30 : decode cX5_leastThrough 30 = .ok (.goto (-25), 3) := by decide +kernel
theorem dX5_leastThrough_33 : decode cX5_leastThrough 33 = .ok (.iload_n 1, 1) := by decide +kernel
theorem dX5_leastThrough_34 : decode cX5_leastThrough 34 = .ok (.ireturn, 1) := by decide +kernel
set_option maxRecDepth 20000 in
theorem ggX5_mostOnLine_J13_bitCount_95d88 : GoodIn wsX5_mostOnLine wsJ13_bitCount_95d88 := goodIn_r _ [10, 11, 12, 13] (by decide +kernel) (by decide +kernel)
set_option maxRecDepth 20000 in
theorem gX5_mostOnLine_J13_bitCount_95d88 : GoodIn wsX5_mostOnLine (va_wsS RX5 64 yJ13_bitCount_95d88 wsJ13_bitCount_95d88) := goodIn_app (goodIn_of _ (by decide +kernel)) ggX5_mostOnLine_J13_bitCount_95d88
theorem dX5_mostOnLine_0 : decode cX5_mostOnLine 0 = .ok (.iconst 0, 1) := by decide +kernel
theorem dX5_mostOnLine_1 : decode cX5_mostOnLine 1 = .ok (.istore_n 3, 1) := by decide +kernel
theorem dX5_mostOnLine_2 : decode cX5_mostOnLine 2 = .ok (.iconst 0, 1) := by decide +kernel
theorem dX5_mostOnLine_3 : decode cX5_mostOnLine 3 = .ok (.istore 4, 2) := by decide +kernel
theorem dX5_mostOnLine_5 : decode cX5_mostOnLine 5 = .ok (.iload 4, 2) := by decide +kernel
theorem dX5_mostOnLine_7 : decode cX5_mostOnLine 7 = .ok (.aload_n 0, 1) := by decide +kernel
theorem dX5_mostOnLine_8 : decode cX5_mostOnLine 8 = .ok (.getfield 35, 3) := by decide +kernel
theorem dX5_mostOnLine_11 : decode cX5_mostOnLine 11 = .ok (.if_icmp .ge 26, 3) := by decide +kernel
theorem dX5_mostOnLine_14 : decode cX5_mostOnLine 14 = .ok (.iload_n 3, 1) := by decide +kernel
theorem dX5_mostOnLine_15 : decode cX5_mostOnLine 15 = .ok (.aload_n 0, 1) := by decide +kernel
theorem dX5_mostOnLine_16 : decode cX5_mostOnLine 16 = .ok (.getfield 9, 3) := by decide +kernel
theorem dX5_mostOnLine_19 : decode cX5_mostOnLine 19 = .ok (.iload 4, 2) := by decide +kernel
theorem dX5_mostOnLine_21 : decode cX5_mostOnLine 21 = .ok (.laload, 1) := by decide +kernel
theorem dX5_mostOnLine_22 : decode cX5_mostOnLine 22 = .ok (.lload_n 1, 1) := by decide +kernel
theorem dX5_mostOnLine_23 : decode cX5_mostOnLine 23 = .ok (.land, 1) := by decide +kernel
theorem dX5_mostOnLine_24 : decode cX5_mostOnLine 24 = .ok (.invokestatic 64, 3) := by decide +kernel
theorem dX5_mostOnLine_27 : decode cX5_mostOnLine 27 = .ok (.invokestatic 76, 3) := by decide +kernel
theorem dX5_mostOnLine_30 : decode cX5_mostOnLine 30 = .ok (.istore_n 3, 1) := by decide +kernel
theorem dX5_mostOnLine_31 : decode cX5_mostOnLine 31 = .ok (.iinc 4 1, 3) := by decide +kernel
theorem dX5_mostOnLine_34 : decode cX5_mostOnLine 34 = .ok (.goto (-29), 3) := by decide +kernel
theorem dX5_mostOnLine_37 : decode cX5_mostOnLine 37 = .ok (.iload_n 3, 1) := by decide +kernel
theorem dX5_mostOnLine_38 : decode cX5_mostOnLine 38 = .ok (.ireturn, 1) := by decide +kernel
set_option maxRecDepth 20000 in
theorem ggX5_leastOnLine_J13_bitCount_95d88 : GoodIn wsX5_leastOnLine wsJ13_bitCount_95d88 := goodIn_r _ [10, 11, 12, 13] (by decide +kernel) (by decide +kernel)
set_option maxRecDepth 20000 in
theorem gX5_leastOnLine_J13_bitCount_95d88 : GoodIn wsX5_leastOnLine (va_wsS RX5 64 yJ13_bitCount_95d88 wsJ13_bitCount_95d88) := goodIn_app (goodIn_of _ (by decide +kernel)) ggX5_leastOnLine_J13_bitCount_95d88
theorem dX5_leastOnLine_0 : decode cX5_leastOnLine 0 = .ok (.bipush 45, 2) := by decide +kernel
theorem dX5_leastOnLine_2 : decode cX5_leastOnLine 2 = .ok (.istore_n 3, 1) := by decide +kernel
theorem dX5_leastOnLine_3 : decode cX5_leastOnLine 3 = .ok (.iconst 0, 1) := by decide +kernel
theorem dX5_leastOnLine_4 : decode cX5_leastOnLine 4 = .ok (.istore 4, 2) := by decide +kernel
theorem dX5_leastOnLine_6 : decode cX5_leastOnLine 6 = .ok (.iload 4, 2) := by decide +kernel
theorem dX5_leastOnLine_8 : decode cX5_leastOnLine 8 = .ok (.aload_n 0, 1) := by decide +kernel
theorem dX5_leastOnLine_9 : decode cX5_leastOnLine 9 = .ok (.getfield 35, 3) := by decide +kernel
theorem dX5_leastOnLine_12 : decode cX5_leastOnLine 12 = .ok (.if_icmp .ge 26, 3) := by decide +kernel
theorem dX5_leastOnLine_15 : decode cX5_leastOnLine 15 = .ok (.iload_n 3, 1) := by decide +kernel
theorem dX5_leastOnLine_16 : decode cX5_leastOnLine 16 = .ok (.aload_n 0, 1) := by decide +kernel
theorem dX5_leastOnLine_17 : decode cX5_leastOnLine 17 = .ok (.getfield 9, 3) := by decide +kernel
theorem dX5_leastOnLine_20 : decode cX5_leastOnLine 20 = .ok (.iload 4, 2) := by decide +kernel
theorem dX5_leastOnLine_22 : decode cX5_leastOnLine 22 = .ok (.laload, 1) := by decide +kernel
theorem dX5_leastOnLine_23 : decode cX5_leastOnLine 23 = .ok (.lload_n 1, 1) := by decide +kernel
theorem dX5_leastOnLine_24 : decode cX5_leastOnLine 24 = .ok (.land, 1) := by decide +kernel
theorem dX5_leastOnLine_25 : decode cX5_leastOnLine 25 = .ok (.invokestatic 64, 3) := by decide +kernel
theorem dX5_leastOnLine_28 : decode cX5_leastOnLine 28 = .ok (.invokestatic 70, 3) := by decide +kernel
theorem dX5_leastOnLine_31 : decode cX5_leastOnLine 31 = .ok (.istore_n 3, 1) := by decide +kernel
theorem dX5_leastOnLine_32 : decode cX5_leastOnLine 32 = .ok (.iinc 4 1, 3) := by decide +kernel
theorem dX5_leastOnLine_35 : decode cX5_leastOnLine 35 = .ok (.goto (-29), 3) := by decide +kernel
theorem dX5_leastOnLine_38 : decode cX5_leastOnLine 38 = .ok (.iload_n 3, 1) := by decide +kernel
theorem dX5_leastOnLine_39 : decode cX5_leastOnLine 39 = .ok (.ireturn, 1) := by decide +kernel
set_option maxRecDepth 20000 in
theorem ggX5_linesMeeting_X6_has : GoodIn wsX5_linesMeeting wsX6_has := goodIn_r _ [5] (by decide +kernel) (by decide +kernel)
set_option maxRecDepth 20000 in
theorem gX5_linesMeeting_X6_has_n38 : GoodIn wsX5_linesMeeting (wsX6_has) := ggX5_linesMeeting_X6_has
theorem dX5_linesMeeting_0 : decode cX5_linesMeeting 0 = .ok (.lconst 0, 1) := by decide +kernel
theorem dX5_linesMeeting_1 : decode cX5_linesMeeting 1 = .ok (.lstore_n 3, 1) := by decide +kernel
theorem dX5_linesMeeting_2 : decode cX5_linesMeeting 2 = .ok (.iconst 0, 1) := by decide +kernel
theorem dX5_linesMeeting_3 : decode cX5_linesMeeting 3 = .ok (.istore 5, 2) := by decide +kernel
theorem dX5_linesMeeting_5 : decode cX5_linesMeeting 5 = .ok (.iload 5, 2) := by decide +kernel
theorem dX5_linesMeeting_7 : decode cX5_linesMeeting 7 = .ok (.aload_n 0, 1) := by decide +kernel
theorem dX5_linesMeeting_8 : decode cX5_linesMeeting 8 = .ok (.getfield 29, 3) := by decide +kernel
theorem dX5_linesMeeting_11 : decode cX5_linesMeeting 11 = .ok (.if_icmp .ge 28, 3) := by decide +kernel
theorem dX5_linesMeeting_14 : decode cX5_linesMeeting 14 = .ok (.lload_n 1, 1) := by decide +kernel
theorem dX5_linesMeeting_15 : decode cX5_linesMeeting 15 = .ok (.iload 5, 2) := by decide +kernel
theorem dX5_linesMeeting_17 : decode cX5_linesMeeting 17 = .ok (.invokestatic 38, 3) := by decide +kernel
theorem dX5_linesMeeting_20 : decode cX5_linesMeeting 20 = .ok (.ifCond .eq 13, 3) := by decide +kernel
theorem dX5_linesMeeting_23 : decode cX5_linesMeeting 23 = .ok (.lload_n 3, 1) := by decide +kernel
theorem dX5_linesMeeting_24 : decode cX5_linesMeeting 24 = .ok (.aload_n 0, 1) := by decide +kernel
theorem dX5_linesMeeting_25 : decode cX5_linesMeeting 25 = .ok (.getfield 15, 3) := by decide +kernel
theorem dX5_linesMeeting_28 : decode cX5_linesMeeting 28 = .ok (.iload 5, 2) := by decide +kernel
theorem dX5_linesMeeting_30 : decode cX5_linesMeeting 30 = .ok (.laload, 1) := by decide +kernel
theorem dX5_linesMeeting_31 : decode cX5_linesMeeting 31 = .ok (.lor, 1) := by decide +kernel
theorem dX5_linesMeeting_32 : decode cX5_linesMeeting 32 = .ok (.lstore_n 3, 1) := by decide +kernel
theorem dX5_linesMeeting_33 : decode cX5_linesMeeting 33 = .ok (.iinc 5 1, 3) := by decide +kernel
theorem dX5_linesMeeting_36 : decode cX5_linesMeeting 36 = .ok (.goto (-31), 3) := by decide +kernel
theorem dX5_linesMeeting_39 : decode cX5_linesMeeting 39 = .ok (.lload_n 3, 1) := by decide +kernel
theorem dX5_linesMeeting_40 : decode cX5_linesMeeting 40 = .ok (.lreturn, 1) := by decide +kernel
set_option maxRecDepth 20000 in
theorem ggX5_stepsBetween_X6_has : GoodIn wsX5_stepsBetween wsX6_has := goodIn_r _ [5] (by decide +kernel) (by decide +kernel)
set_option maxRecDepth 20000 in
theorem gX5_stepsBetween_X6_has_n38 : GoodIn wsX5_stepsBetween (wsX6_has) := ggX5_stepsBetween_X6_has
theorem dX5_stepsBetween_0 : decode cX5_stepsBetween 0 = .ok (.lconst 1, 1) := by decide +kernel
theorem dX5_stepsBetween_1 : decode cX5_stepsBetween 1 = .ok (.iload_n 1, 1) := by decide +kernel
theorem dX5_stepsBetween_2 : decode cX5_stepsBetween 2 = .ok (.lshl, 1) := by decide +kernel
theorem dX5_stepsBetween_3 : decode cX5_stepsBetween 3 = .ok (.lstore_n 3, 1) := by decide +kernel
theorem dX5_stepsBetween_4 : decode cX5_stepsBetween 4 = .ok (.iconst 0, 1) := by decide +kernel
theorem dX5_stepsBetween_5 : decode cX5_stepsBetween 5 = .ok (.istore 5, 2) := by decide +kernel
theorem dX5_stepsBetween_7 : decode cX5_stepsBetween 7 = .ok (.iload 5, 2) := by decide +kernel
theorem dX5_stepsBetween_9 : decode cX5_stepsBetween 9 = .ok (.aload_n 0, 1) := by decide +kernel
theorem dX5_stepsBetween_10 : decode cX5_stepsBetween 10 = .ok (.getfield 29, 3) := by decide +kernel
theorem dX5_stepsBetween_13 : decode cX5_stepsBetween 13 = .ok (.if_icmp .ge 65, 3) := by decide +kernel
theorem dX5_stepsBetween_16 : decode cX5_stepsBetween 16 = .ok (.lload_n 3, 1) := by decide +kernel
theorem dX5_stepsBetween_17 : decode cX5_stepsBetween 17 = .ok (.iload_n 2, 1) := by decide +kernel
theorem dX5_stepsBetween_18 : decode cX5_stepsBetween 18 = .ok (.invokestatic 38, 3) := by decide +kernel
theorem dX5_stepsBetween_21 : decode cX5_stepsBetween 21 = .ok (.ifCond .eq 6, 3) := by decide +kernel
theorem dX5_stepsBetween_24 : decode cX5_stepsBetween 24 = .ok (.iload 5, 2) := by decide +kernel
theorem dX5_stepsBetween_26 : decode cX5_stepsBetween 26 = .ok (.ireturn, 1) := by decide +kernel
theorem dX5_stepsBetween_27 : decode cX5_stepsBetween 27 = .ok (.lload_n 3, 1) := by decide +kernel
theorem dX5_stepsBetween_28 : decode cX5_stepsBetween 28 = .ok (.lstore 6, 2) := by decide +kernel
theorem dX5_stepsBetween_30 : decode cX5_stepsBetween 30 = .ok (.iconst 0, 1) := by decide +kernel
theorem dX5_stepsBetween_31 : decode cX5_stepsBetween 31 = .ok (.istore 8, 2) := by decide +kernel
theorem dX5_stepsBetween_33 : decode cX5_stepsBetween 33 = .ok (.iload 8, 2) := by decide +kernel
theorem dX5_stepsBetween_35 : decode cX5_stepsBetween 35 = .ok (.aload_n 0, 1) := by decide +kernel
theorem dX5_stepsBetween_36 : decode cX5_stepsBetween 36 = .ok (.getfield 29, 3) := by decide +kernel
theorem dX5_stepsBetween_39 : decode cX5_stepsBetween 39 = .ok (.if_icmp .ge 30, 3) := by decide +kernel
theorem dX5_stepsBetween_42 : decode cX5_stepsBetween 42 = .ok (.lload_n 3, 1) := by decide +kernel
theorem dX5_stepsBetween_43 : decode cX5_stepsBetween 43 = .ok (.iload 8, 2) := by decide +kernel
theorem dX5_stepsBetween_45 : decode cX5_stepsBetween 45 = .ok (.invokestatic 38, 3) := by decide +kernel
theorem dX5_stepsBetween_48 : decode cX5_stepsBetween 48 = .ok (.ifCond .eq 15, 3) := by decide +kernel
theorem dX5_stepsBetween_51 : decode cX5_stepsBetween 51 = .ok (.lload 6, 2) := by decide +kernel
theorem dX5_stepsBetween_53 : decode cX5_stepsBetween 53 = .ok (.aload_n 0, 1) := by decide +kernel
theorem dX5_stepsBetween_54 : decode cX5_stepsBetween 54 = .ok (.getfield 18, 3) := by decide +kernel
theorem dX5_stepsBetween_57 : decode cX5_stepsBetween 57 = .ok (.iload 8, 2) := by decide +kernel
theorem dX5_stepsBetween_59 : decode cX5_stepsBetween 59 = .ok (.laload, 1) := by decide +kernel
theorem dX5_stepsBetween_60 : decode cX5_stepsBetween 60 = .ok (.lor, 1) := by decide +kernel
theorem dX5_stepsBetween_61 : decode cX5_stepsBetween 61 = .ok (.lstore 6, 2) := by decide +kernel
theorem dX5_stepsBetween_63 : decode cX5_stepsBetween 63 = .ok (.iinc 8 1, 3) := by decide +kernel
theorem dX5_stepsBetween_66 : decode cX5_stepsBetween 66 = .ok (.goto (-33), 3) := by decide +kernel
theorem dX5_stepsBetween_69 : decode cX5_stepsBetween 69 = .ok (.lload 6, 2) := by decide +kernel
theorem dX5_stepsBetween_71 : decode cX5_stepsBetween 71 = .ok (.lstore_n 3, 1) := by decide +kernel
theorem dX5_stepsBetween_72 : decode cX5_stepsBetween 72 = .ok (.iinc 5 1, 3) := by decide +kernel
theorem dX5_stepsBetween_75 : decode cX5_stepsBetween 75 = .ok (.goto (-68), 3) := by decide +kernel
theorem dX5_stepsBetween_78 : decode cX5_stepsBetween 78 = .ok (.bipush (-9), 2) := by decide +kernel
theorem dX5_stepsBetween_80 : decode cX5_stepsBetween 80 = .ok (.ireturn, 1) := by decide +kernel
theorem dX5_digestOn_0 : decode cX5_digestOn 0 = .ok (.aload_n 0, 1) := by decide +kernel
theorem dX5_digestOn_1 : decode cX5_digestOn 1 = .ok (.getfield 21, 3) := by decide +kernel
theorem dX5_digestOn_4 : decode cX5_digestOn 4 = .ok (.ifCond .ne 11, 3) := by decide +kernel
theorem dX5_digestOn_7 : decode cX5_digestOn 7 = .ok (.ldc2_w 79, 3) := by decide +kernel
theorem dX5_digestOn_10 : decode cX5_digestOn 10 = .ok (.lload_n 1, 1) := by decide +kernel
theorem dX5_digestOn_11 : decode cX5_digestOn 11 = .ok (.lmul, 1) := by decide +kernel
theorem dX5_digestOn_12 : decode cX5_digestOn 12 = .ok (.lconst 1, 1) := by decide +kernel
theorem dX5_digestOn_13 : decode cX5_digestOn 13 = .ok (.lsub, 1) := by decide +kernel
theorem dX5_digestOn_14 : decode cX5_digestOn 14 = .ok (.lreturn, 1) := by decide +kernel
theorem dX5_digestOn_15 : decode cX5_digestOn 15 = .ok (.ldc2_w 79, 3) := by decide +kernel
theorem dX5_digestOn_18 : decode cX5_digestOn 18 = .ok (.lload_n 1, 1) := by decide +kernel
theorem dX5_digestOn_19 : decode cX5_digestOn 19 = .ok (.lmul, 1) := by decide +kernel
theorem dX5_digestOn_20 : decode cX5_digestOn 20 = .ok (.aload_n 0, 1) := by decide +kernel
theorem dX5_digestOn_21 : decode cX5_digestOn 21 = .ok (.getfield 29, 3) := by decide +kernel
theorem dX5_digestOn_24 : decode cX5_digestOn 24 = .ok (.i2l, 1) := by decide +kernel
theorem dX5_digestOn_25 : decode cX5_digestOn 25 = .ok (.ladd, 1) := by decide +kernel
theorem dX5_digestOn_26 : decode cX5_digestOn 26 = .ok (.lstore_n 3, 1) := by decide +kernel
theorem dX5_digestOn_27 : decode cX5_digestOn 27 = .ok (.ldc2_w 79, 3) := by decide +kernel
theorem dX5_digestOn_30 : decode cX5_digestOn 30 = .ok (.lload_n 3, 1) := by decide +kernel
theorem dX5_digestOn_31 : decode cX5_digestOn 31 = .ok (.lmul, 1) := by decide +kernel
theorem dX5_digestOn_32 : decode cX5_digestOn 32 = .ok (.aload_n 0, 1) := by decide +kernel
theorem dX5_digestOn_33 : decode cX5_digestOn 33 = .ok (.getfield 35, 3) := by decide +kernel
theorem dX5_digestOn_36 : decode cX5_digestOn 36 = .ok (.i2l, 1) := by decide +kernel
theorem dX5_digestOn_37 : decode cX5_digestOn 37 = .ok (.ladd, 1) := by decide +kernel
theorem dX5_digestOn_38 : decode cX5_digestOn 38 = .ok (.lstore_n 3, 1) := by decide +kernel
theorem dX5_digestOn_39 : decode cX5_digestOn 39 = .ok (.ldc2_w 79, 3) := by decide +kernel
theorem dX5_digestOn_42 : decode cX5_digestOn 42 = .ok (.lload_n 3, 1) := by decide +kernel
theorem dX5_digestOn_43 : decode cX5_digestOn 43 = .ok (.lmul, 1) := by decide +kernel
theorem dX5_digestOn_44 : decode cX5_digestOn 44 = .ok (.aload_n 0, 1) := by decide +kernel
theorem dX5_digestOn_45 : decode cX5_digestOn 45 = .ok (.getfield 25, 3) := by decide +kernel
theorem dX5_digestOn_48 : decode cX5_digestOn 48 = .ok (.i2l, 1) := by decide +kernel
theorem dX5_digestOn_49 : decode cX5_digestOn 49 = .ok (.ladd, 1) := by decide +kernel
theorem dX5_digestOn_50 : decode cX5_digestOn 50 = .ok (.lstore_n 3, 1) := by decide +kernel
theorem dX5_digestOn_51 : decode cX5_digestOn 51 = .ok (.iconst 0, 1) := by decide +kernel
theorem dX5_digestOn_52 : decode cX5_digestOn 52 = .ok (.istore 5, 2) := by decide +kernel
theorem dX5_digestOn_54 : decode cX5_digestOn 54 = .ok (.iload 5, 2) := by decide +kernel
theorem dX5_digestOn_56 : decode cX5_digestOn 56 = .ok (.aload_n 0, 1) := by decide +kernel
theorem dX5_digestOn_57 : decode cX5_digestOn 57 = .ok (.getfield 35, 3) := by decide +kernel
theorem dX5_digestOn_60 : decode cX5_digestOn 60 = .ok (.if_icmp .ge 23, 3) := by decide +kernel
theorem dX5_digestOn_63 : decode cX5_digestOn 63 = .ok (.ldc2_w 79, 3) := by decide +kernel
theorem dX5_digestOn_66 : decode cX5_digestOn 66 = .ok (.lload_n 3, 1) := by decide +kernel
theorem dX5_digestOn_67 : decode cX5_digestOn 67 = .ok (.lmul, 1) := by decide +kernel
theorem dX5_digestOn_68 : decode cX5_digestOn 68 = .ok (.aload_n 0, 1) := by decide +kernel
theorem dX5_digestOn_69 : decode cX5_digestOn 69 = .ok (.getfield 9, 3) := by decide +kernel
theorem dX5_digestOn_72 : decode cX5_digestOn 72 = .ok (.iload 5, 2) := by decide +kernel
theorem dX5_digestOn_74 : decode cX5_digestOn 74 = .ok (.laload, 1) := by decide +kernel
theorem dX5_digestOn_75 : decode cX5_digestOn 75 = .ok (.ladd, 1) := by decide +kernel
theorem dX5_digestOn_76 : decode cX5_digestOn 76 = .ok (.lstore_n 3, 1) := by decide +kernel
theorem dX5_digestOn_77 : decode cX5_digestOn 77 = .ok (.iinc 5 1, 3) := by decide +kernel
theorem dX5_digestOn_80 : decode cX5_digestOn 80 = .ok (.goto (-26), 3) := by decide +kernel
theorem dX5_digestOn_83 : decode cX5_digestOn 83 = .ok (.lload_n 3, 1) := by decide +kernel
theorem dX5_digestOn_84 : decode cX5_digestOn 84 = .ok (.lreturn, 1) := by decide +kernel
set_option maxRecDepth 20000 in
theorem ggX6_init_X4_init : GoodIn wsX6_init wsX4_init := goodIn_r _ [25, 26, 2, 3, 27, 28, 29, 30, 56, 57, 58, 59, 60, 61, 62, 63, 64] (by decide +kernel) (by decide +kernel)
set_option maxRecDepth 20000 in
theorem gX6_init_X4_init_n35 : GoodIn wsX6_init (wsX4_init) := ggX6_init_X4_init
set_option maxRecDepth 20000 in
theorem ggX6_init_X2_init : GoodIn wsX6_init wsX2_init := goodIn_r _ [32, 33, 2, 3, 7, 34, 27, 35, 36, 65, 66, 67, 68, 69, 70, 71] (by decide +kernel) (by decide +kernel)
set_option maxRecDepth 20000 in
theorem gX6_init_X2_init_n42 : GoodIn wsX6_init (wsX2_init) := ggX6_init_X2_init
set_option maxRecDepth 20000 in
theorem ggX6_init_X5_init : GoodIn wsX6_init wsX5_init := goodIn_r _ [38, 39, 2, 3, 27, 40, 41, 42, 72, 73, 74, 75, 76, 77, 78, 79] (by decide +kernel) (by decide +kernel)
set_option maxRecDepth 20000 in
theorem gX6_init_X5_init_n47 : GoodIn wsX6_init (wsX5_init) := ggX6_init_X5_init
theorem dX6_init_0 : decode cX6_init 0 = .ok (.aload_n 0, 1) := by decide +kernel
theorem dX6_init_1 : decode cX6_init 1 = .ok (.invokespecial 1, 3) := by decide +kernel
theorem dX6_init_4 : decode cX6_init 4 = .ok (.aload_n 0, 1) := by decide +kernel
theorem dX6_init_5 : decode cX6_init 5 = .ok (.bipush 6, 2) := by decide +kernel
theorem dX6_init_7 : decode cX6_init 7 = .ok (.anewarray 9, 3) := by decide +kernel
theorem dX6_init_10 : decode cX6_init 10 = .ok (.putfield 11, 3) := by decide +kernel
theorem dX6_init_13 : decode cX6_init 13 = .ok (.aload_n 0, 1) := by decide +kernel
theorem dX6_init_14 : decode cX6_init 14 = .ok (.iconst 4, 1) := by decide +kernel
theorem dX6_init_15 : decode cX6_init 15 = .ok (.bipush 12, 2) := by decide +kernel
theorem dX6_init_17 : decode cX6_init 17 = .ok (.multianewarray 15 2, 4) := by decide +kernel
theorem dX6_init_21 : decode cX6_init 21 = .ok (.putfield 17, 3) := by decide +kernel
theorem dX6_init_24 : decode cX6_init 24 = .ok (.aload_n 0, 1) := by decide +kernel
theorem dX6_init_25 : decode cX6_init 25 = .ok (.iconst 4, 1) := by decide +kernel
theorem dX6_init_26 : decode cX6_init 26 = .ok (.newarray .int, 2) := by decide +kernel
theorem dX6_init_28 : decode cX6_init 28 = .ok (.putfield 20, 3) := by decide +kernel
theorem dX6_init_31 : decode cX6_init 31 = .ok (.aload_n 0, 1) := by decide +kernel
theorem dX6_init_32 : decode cX6_init 32 = .ok (.bipush 6, 2) := by decide +kernel
theorem dX6_init_34 : decode cX6_init 34 = .ok (.newarray .int, 2) := by decide +kernel
theorem dX6_init_36 : decode cX6_init 36 = .ok (.putfield 24, 3) := by decide +kernel
theorem dX6_init_39 : decode cX6_init 39 = .ok (.aload_n 0, 1) := by decide +kernel
theorem dX6_init_40 : decode cX6_init 40 = .ok (.bipush 45, 2) := by decide +kernel
theorem dX6_init_42 : decode cX6_init 42 = .ok (.newarray .int, 2) := by decide +kernel
theorem dX6_init_44 : decode cX6_init 44 = .ok (.putfield 27, 3) := by decide +kernel
theorem dX6_init_47 : decode cX6_init 47 = .ok (.aload_n 0, 1) := by decide +kernel
theorem dX6_init_48 : decode cX6_init 48 = .ok (.sipush 2025, 3) := by decide +kernel
theorem dX6_init_51 : decode cX6_init 51 = .ok (.newarray .int, 2) := by decide +kernel
theorem dX6_init_53 : decode cX6_init 53 = .ok (.putfield 30, 3) := by decide +kernel
theorem dX6_init_56 : decode cX6_init 56 = .ok (.aload_n 0, 1) := by decide +kernel
theorem dX6_init_57 : decode cX6_init 57 = .ok (.new 33, 3) := by decide +kernel
theorem dX6_init_60 : decode cX6_init 60 = .ok (.dup, 1) := by decide +kernel
theorem dX6_init_61 : decode cX6_init 61 = .ok (.invokespecial 35, 3) := by decide +kernel
theorem dX6_init_64 : decode cX6_init 64 = .ok (.putfield 36, 3) := by decide +kernel
theorem dX6_init_67 : decode cX6_init 67 = .ok (.aload_n 0, 1) := by decide +kernel
theorem dX6_init_68 : decode cX6_init 68 = .ok (.new 40, 3) := by decide +kernel
theorem dX6_init_71 : decode cX6_init 71 = .ok (.dup, 1) := by decide +kernel
theorem dX6_init_72 : decode cX6_init 72 = .ok (.invokespecial 42, 3) := by decide +kernel
theorem dX6_init_75 : decode cX6_init 75 = .ok (.putfield 43, 3) := by decide +kernel
theorem dX6_init_78 : decode cX6_init 78 = .ok (.iconst 0, 1) := by decide +kernel
theorem dX6_init_79 : decode cX6_init 79 = .ok (.istore_n 1, 1) := by decide +kernel
theorem dX6_init_80 : decode cX6_init 80 = .ok (.iload_n 1, 1) := by decide +kernel
theorem dX6_init_81 : decode cX6_init 81 = .ok (.bipush 6, 2) := by decide +kernel
theorem dX6_init_83 : decode cX6_init 83 = .ok (.if_icmp .ge 22, 3) := by decide +kernel
theorem dX6_init_86 : decode cX6_init 86 = .ok (.aload_n 0, 1) := by decide +kernel
theorem dX6_init_87 : decode cX6_init 87 = .ok (.getfield 11, 3) := by decide +kernel
theorem dX6_init_90 : decode cX6_init 90 = .ok (.iload_n 1, 1) := by decide +kernel
theorem dX6_init_91 : decode cX6_init 91 = .ok (.new 9, 3) := by decide +kernel
theorem dX6_init_94 : decode cX6_init 94 = .ok (.dup, 1) := by decide +kernel
theorem dX6_init_95 : decode cX6_init 95 = .ok (.invokespecial 47, 3) := by decide +kernel
theorem dX6_init_98 : decode cX6_init 98 = .ok (.aastore, 1) := by decide +kernel
theorem dX6_init_99 : decode cX6_init 99 = .ok (.iinc 1 1, 3) := by decide +kernel
theorem dX6_init_102 : decode cX6_init 102 = .ok (.goto (-22), 3) := by decide +kernel
theorem dX6_init_105 : decode cX6_init 105 = .ok (.iconst 0, 1) := by decide +kernel
theorem dX6_init_106 : decode cX6_init 106 = .ok (.istore_n 1, 1) := by decide +kernel
theorem dX6_init_107 : decode cX6_init 107 = .ok (.iload_n 1, 1) := by decide +kernel
theorem dX6_init_108 : decode cX6_init 108 = .ok (.iconst 4, 1) := by decide +kernel
theorem dX6_init_109 : decode cX6_init 109 = .ok (.if_icmp .ge 16, 3) := by decide +kernel
theorem dX6_init_112 : decode cX6_init 112 = .ok (.aload_n 0, 1) := by decide +kernel
theorem dX6_init_113 : decode cX6_init 113 = .ok (.getfield 20, 3) := by decide +kernel
theorem dX6_init_116 : decode cX6_init 116 = .ok (.iload_n 1, 1) := by decide +kernel
theorem dX6_init_117 : decode cX6_init 117 = .ok (.iconst (-1), 1) := by decide +kernel
theorem dX6_init_118 : decode cX6_init 118 = .ok (.iastore, 1) := by decide +kernel
theorem dX6_init_119 : decode cX6_init 119 = .ok (.iinc 1 1, 3) := by decide +kernel
theorem dX6_init_122 : decode cX6_init 122 = .ok (.goto (-15), 3) := by decide +kernel
theorem dX6_init_125 : decode cX6_init 125 = .ok (.aload_n 0, 1) := by decide +kernel
theorem dX6_init_126 : decode cX6_init 126 = .ok (.new 9, 3) := by decide +kernel
theorem dX6_init_129 : decode cX6_init 129 = .ok (.dup, 1) := by decide +kernel
theorem dX6_init_130 : decode cX6_init 130 = .ok (.invokespecial 47, 3) := by decide +kernel
theorem dX6_init_133 : decode cX6_init 133 = .ok (.putfield 48, 3) := by decide +kernel
theorem dX6_init_136 : decode cX6_init 136 = .ok (.return_, 1) := by decide +kernel
set_option maxRecDepth 20000 in
theorem ggX6_world_X6_isWorldNumber : GoodIn wsX6_world wsX6_isWorldNumber := goodIn_r _ [5] (by decide +kernel) (by decide +kernel)
set_option maxRecDepth 20000 in
theorem gX6_world_X6_isWorldNumber : GoodIn wsX6_world (va_wsS RX6 52 yX6_isWorldNumber wsX6_isWorldNumber) := goodIn_app (goodIn_of _ (by decide +kernel)) ggX6_world_X6_isWorldNumber
set_option maxRecDepth 20000 in
theorem ggX6_world_X5_begin : GoodIn wsX6_world wsX5_begin := goodIn_r _ [10, 11, 12, 13, 14, 15, 16, 17, 31, 32, 33, 34, 35, 36, 37, 38] (by decide +kernel) (by decide +kernel)
set_option maxRecDepth 20000 in
theorem gX6_world_X5_begin : GoodIn wsX6_world (wsV RX6 56 RX5 yX5_begin wsX5_begin) := goodIn_app (goodIn_of _ (by decide +kernel)) ggX6_world_X5_begin
theorem dX6_world_0 : decode cX6_world 0 = .ok (.iload_n 1, 1) := by decide +kernel
theorem dX6_world_1 : decode cX6_world 1 = .ok (.invokestatic 52, 3) := by decide +kernel
theorem dX6_world_4 : decode cX6_world 4 = .ok (.ifCond .eq 14, 3) := by decide +kernel
theorem dX6_world_7 : decode cX6_world 7 = .ok (.iload_n 2, 1) := by decide +kernel
theorem dX6_world_8 : decode cX6_world 8 = .ok (.iconst 2, 1) := by decide +kernel
theorem dX6_world_9 : decode cX6_world 9 = .ok (.if_icmp .lt 9, 3) := by decide +kernel
theorem dX6_world_12 : decode cX6_world 12 = .ok (.iload_n 2, 1) := by decide +kernel
theorem dX6_world_13 : decode cX6_world 13 = .ok (.bipush 45, 2) := by decide +kernel
theorem dX6_world_15 : decode cX6_world 15 = .ok (.if_icmp .le 5, 3) := by decide +kernel
theorem dX6_world_18 : decode cX6_world 18 = .ok (.iconst (-1), 1) := by decide +kernel
theorem dX6_world_19 : decode cX6_world 19 = .ok (.ireturn, 1) := by decide +kernel
theorem dX6_world_20 : decode cX6_world 20 = .ok (.aload_n 0, 1) := by decide +kernel
theorem dX6_world_21 : decode cX6_world 21 = .ok (.getfield 11, 3) := by decide +kernel
theorem dX6_world_24 : decode cX6_world 24 = .ok (.iload_n 1, 1) := by decide +kernel
theorem dX6_world_25 : decode cX6_world 25 = .ok (.aaload, 1) := by decide +kernel
theorem dX6_world_26 : decode cX6_world 26 = .ok (.iconst 0, 1) := by decide +kernel
theorem dX6_world_27 : decode cX6_world 27 = .ok (.iload_n 2, 1) := by decide +kernel
theorem dX6_world_28 : decode cX6_world 28 = .ok (.iconst 0, 1) := by decide +kernel
theorem dX6_world_29 : decode cX6_world 29 = .ok (.invokevirtual 56, 3) := by decide +kernel
theorem dX6_world_32 : decode cX6_world 32 = .ok (.iload_n 2, 1) := by decide +kernel
theorem dX6_world_33 : decode cX6_world 33 = .ok (.ireturn, 1) := by decide +kernel
set_option maxRecDepth 20000 in
theorem ggX6_line_X6_isWorldNumber : GoodIn wsX6_line wsX6_isWorldNumber := goodIn_r _ [6] (by decide +kernel) (by decide +kernel)
set_option maxRecDepth 20000 in
theorem gX6_line_X6_isWorldNumber : GoodIn wsX6_line (va_wsS RX6 52 yX6_isWorldNumber wsX6_isWorldNumber) := goodIn_app (goodIn_of _ (by decide +kernel)) ggX6_line_X6_isWorldNumber
set_option maxRecDepth 20000 in
theorem ggX6_line_X6_isRowNumber : GoodIn wsX6_line wsX6_isRowNumber := goodIn_r _ [9] (by decide +kernel) (by decide +kernel)
set_option maxRecDepth 20000 in
theorem gX6_line_X6_isRowNumber : GoodIn wsX6_line (va_wsS RX6 60 yX6_isRowNumber wsX6_isRowNumber) := goodIn_app (goodIn_of _ (by decide +kernel)) ggX6_line_X6_isRowNumber
set_option maxRecDepth 20000 in
theorem ggX6_line_X6_refused : GoodIn wsX6_line wsX6_refused := goodIn_r _ [13, 14, 15, 48, 49, 50, 51, 52, 53, 54, 55, 56, 57, 58, 59, 60] (by decide +kernel) (by decide +kernel)
set_option maxRecDepth 20000 in
theorem gX6_line_X6_refused : GoodIn wsX6_line (wsV RX6 71 RX6 yX6_refused wsX6_refused) := goodIn_app (goodIn_of _ (by decide +kernel)) ggX6_line_X6_refused
set_option maxRecDepth 20000 in
theorem ggX6_line_X6_rowHasPointsOf : GoodIn wsX6_line wsX6_rowHasPointsOf := goodIn_r _ [19, 2, 20, 21, 22, 23, 24, 25, 26, 48, 49, 50, 51, 52, 53, 54, 55, 56, 57, 58, 59, 60, 61, 62, 63, 64, 65, 66, 67, 68] (by decide +kernel) (by decide +kernel)
set_option maxRecDepth 20000 in
theorem gX6_line_X6_rowHasPointsOf : GoodIn wsX6_line (wsV RX6 78 RX6 yX6_rowHasPointsOf wsX6_rowHasPointsOf) := goodIn_app (goodIn_of _ (by decide +kernel)) ggX6_line_X6_rowHasPointsOf
set_option maxRecDepth 20000 in
theorem ggX6_line_X6_setOfRow : GoodIn wsX6_line wsX6_setOfRow := goodIn_r _ [30, 2, 20, 48, 49, 50, 51, 52, 53, 54, 55, 56, 57, 58, 59, 60] (by decide +kernel) (by decide +kernel)
set_option maxRecDepth 20000 in
theorem gX6_line_X6_setOfRow : GoodIn wsX6_line (wsV RX6 82 RX6 yX6_setOfRow wsX6_setOfRow) := goodIn_app (goodIn_of _ (by decide +kernel)) ggX6_line_X6_setOfRow
set_option maxRecDepth 20000 in
theorem ggX6_line_J13_bitCount_95d88 : GoodIn wsX6_line wsJ13_bitCount_95d88 := goodIn_r _ [34, 35, 36, 37] (by decide +kernel) (by decide +kernel)
set_option maxRecDepth 20000 in
theorem gX6_line_J13_bitCount_95d88 : GoodIn wsX6_line (va_wsS RX6 86 yJ13_bitCount_95d88 wsJ13_bitCount_95d88) := goodIn_app (goodIn_of _ (by decide +kernel)) ggX6_line_J13_bitCount_95d88
set_option maxRecDepth 20000 in
theorem ggX6_line_X5_add : GoodIn wsX6_line wsX5_add := goodIn_r _ [41, 42, 43, 26, 44, 45, 46, 5, 47, 61, 62, 63, 64, 65, 66, 67, 68] (by decide +kernel) (by decide +kernel)
set_option maxRecDepth 20000 in
theorem gX6_line_X5_add : GoodIn wsX6_line (wsV RX6 92 RX5 yX5_add wsX5_add) := goodIn_app (goodIn_of _ (by decide +kernel)) ggX6_line_X5_add
theorem dX6_line_0 : decode cX6_line 0 = .ok (.iload_n 1, 1) := by decide +kernel
theorem dX6_line_1 : decode cX6_line 1 = .ok (.invokestatic 52, 3) := by decide +kernel
theorem dX6_line_4 : decode cX6_line 4 = .ok (.ifCond .eq 10, 3) := by decide +kernel
theorem dX6_line_7 : decode cX6_line 7 = .ok (.iload_n 2, 1) := by decide +kernel
theorem dX6_line_8 : decode cX6_line 8 = .ok (.invokestatic 60, 3) := by decide +kernel
theorem dX6_line_11 : decode cX6_line 11 = .ok (.ifCond .ne 5, 3) := by decide +kernel
theorem dX6_line_14 : decode cX6_line 14 = .ok (.iconst (-1), 1) := by decide +kernel
theorem dX6_line_15 : decode cX6_line 15 = .ok (.ireturn, 1) := by decide +kernel
theorem dX6_line_16 : decode cX6_line 16 = .ok (.aload_n 0, 1) := by decide +kernel
theorem dX6_line_17 : decode cX6_line 17 = .ok (.getfield 11, 3) := by decide +kernel
theorem dX6_line_20 : decode cX6_line 20 = .ok (.iload_n 1, 1) := by decide +kernel
theorem dX6_line_21 : decode cX6_line 21 = .ok (.aaload, 1) := by decide +kernel
theorem dX6_line_22 : decode cX6_line 22 = .ok (.astore_n 3, 1) := by decide +kernel
theorem dX6_line_23 : decode cX6_line 23 = .ok (.aload_n 3, 1) := by decide +kernel
theorem dX6_line_24 : decode cX6_line 24 = .ok (.getfield 63, 3) := by decide +kernel
theorem dX6_line_27 : decode cX6_line 27 = .ok (.ifCond .eq 15, 3) := by decide +kernel
theorem dX6_line_30 : decode cX6_line 30 = .ok (.aload_n 3, 1) := by decide +kernel
theorem dX6_line_31 : decode cX6_line 31 = .ok (.getfield 67, 3) := by decide +kernel
theorem dX6_line_34 : decode cX6_line 34 = .ok (.bipush 45, 2) := by decide +kernel
theorem dX6_line_36 : decode cX6_line 36 = .ok (.if_icmp .lt 6, 3) := by decide +kernel
theorem dX6_line_39 : decode cX6_line 39 = .ok (.bipush (-2), 2) := by decide +kernel
theorem dX6_line_41 : decode cX6_line 41 = .ok (.ireturn, 1) := by decide +kernel
theorem dX6_line_42 : decode cX6_line 42 = .ok (.aload_n 3, 1) := by decide +kernel
theorem dX6_line_43 : decode cX6_line 43 = .ok (.getfield 63, 3) := by decide +kernel
theorem dX6_line_46 : decode cX6_line 46 = .ok (.ifCond .eq 12, 3) := by decide +kernel
theorem dX6_line_49 : decode cX6_line 49 = .ok (.aload_n 0, 1) := by decide +kernel
theorem dX6_line_50 : decode cX6_line 50 = .ok (.getfield 20, 3) := by decide +kernel
theorem dX6_line_53 : decode cX6_line 53 = .ok (.iload_n 2, 1) := by decide +kernel
theorem dX6_line_54 : decode cX6_line 54 = .ok (.iaload, 1) := by decide +kernel
theorem dX6_line_55 : decode cX6_line 55 = .ok (.ifCond .ge 9, 3) := by decide +kernel
theorem dX6_line_58 : decode cX6_line 58 = .ok (.aload_n 0, 1) := by decide +kernel
theorem dX6_line_59 : decode cX6_line 59 = .ok (.iconst 1, 1) := by decide +kernel
theorem dX6_line_60 : decode cX6_line 60 = .ok (.invokevirtual 71, 3) := by decide +kernel
theorem dX6_line_63 : decode cX6_line 63 = .ok (.ireturn, 1) := by decide +kernel
theorem dX6_line_64 : decode cX6_line 64 = .ok (.aload_n 3, 1) := by decide +kernel
theorem dX6_line_65 : decode cX6_line 65 = .ok (.getfield 75, 3) := by decide +kernel
theorem dX6_line_68 : decode cX6_line 68 = .ok (.ifCond .eq 9, 3) := by decide +kernel
theorem dX6_line_71 : decode cX6_line 71 = .ok (.aload_n 0, 1) := by decide +kernel
theorem dX6_line_72 : decode cX6_line 72 = .ok (.iconst 3, 1) := by decide +kernel
theorem dX6_line_73 : decode cX6_line 73 = .ok (.invokevirtual 71, 3) := by decide +kernel
theorem dX6_line_76 : decode cX6_line 76 = .ok (.ireturn, 1) := by decide +kernel
theorem dX6_line_77 : decode cX6_line 77 = .ok (.aload_n 0, 1) := by decide +kernel
theorem dX6_line_78 : decode cX6_line 78 = .ok (.iload_n 2, 1) := by decide +kernel
theorem dX6_line_79 : decode cX6_line 79 = .ok (.aload_n 3, 1) := by decide +kernel
theorem dX6_line_80 : decode cX6_line 80 = .ok (.invokevirtual 78, 3) := by decide +kernel
theorem dX6_line_83 : decode cX6_line 83 = .ok (.ifCond .ne 9, 3) := by decide +kernel
theorem dX6_line_86 : decode cX6_line 86 = .ok (.aload_n 0, 1) := by decide +kernel
theorem dX6_line_87 : decode cX6_line 87 = .ok (.iconst 2, 1) := by decide +kernel
theorem dX6_line_88 : decode cX6_line 88 = .ok (.invokevirtual 71, 3) := by decide +kernel
theorem dX6_line_91 : decode cX6_line 91 = .ok (.ireturn, 1) := by decide +kernel
theorem dX6_line_92 : decode cX6_line 92 = .ok (.aload_n 0, 1) := by decide +kernel
theorem dX6_line_93 : decode cX6_line 93 = .ok (.iload_n 2, 1) := by decide +kernel
theorem dX6_line_94 : decode cX6_line 94 = .ok (.invokevirtual 82, 3) := by decide +kernel
theorem dX6_line_97 : decode cX6_line 97 = .ok (.lstore 4, 2) := by decide +kernel
theorem dX6_line_99 : decode cX6_line 99 = .ok (.lload 4, 2) := by decide +kernel
theorem dX6_line_101 : decode cX6_line 101 = .ok (.invokestatic 86, 3) := by decide +kernel
theorem dX6_line_104 : decode cX6_line 104 = .ok (.iconst 2, 1) := by decide +kernel
theorem dX6_line_105 : decode cX6_line 105 = .ok (.if_icmp .ge 9, 3) := by decide +kernel
theorem dX6_line_108 : decode cX6_line 108 = .ok (.aload_n 0, 1) := by decide +kernel
theorem dX6_line_109 : decode cX6_line 109 = .ok (.iconst 5, 1) := by decide +kernel
theorem dX6_line_110 : decode cX6_line 110 = .ok (.invokevirtual 71, 3) := by decide +kernel
theorem dX6_line_113 : decode cX6_line 113 = .ok (.ireturn, 1) := by decide +kernel
theorem dX6_line_114 : decode cX6_line 114 = .ok (.aload_n 3, 1) := by decide +kernel
theorem dX6_line_115 : decode cX6_line 115 = .ok (.lload 4, 2) := by decide +kernel
theorem dX6_line_117 : decode cX6_line 117 = .ok (.invokevirtual 92, 3) := by decide +kernel
theorem dX6_line_120 : decode cX6_line 120 = .ok (.pop, 1) := by decide +kernel
theorem dX6_line_121 : decode cX6_line 121 = .ok (.aload_n 3, 1) := by decide +kernel
theorem dX6_line_122 : decode cX6_line 122 = .ok (.getfield 67, 3) := by decide +kernel
theorem dX6_line_125 : decode cX6_line 125 = .ok (.iconst 1, 1) := by decide +kernel
theorem dX6_line_126 : decode cX6_line 126 = .ok (.isub, 1) := by decide +kernel
theorem dX6_line_127 : decode cX6_line 127 = .ok (.ireturn, 1) := by decide +kernel
set_option maxRecDepth 20000 in
theorem ggX6_grid_X6_isWorldNumber : GoodIn wsX6_grid wsX6_isWorldNumber := goodIn_r _ [5] (by decide +kernel) (by decide +kernel)
set_option maxRecDepth 20000 in
theorem gX6_grid_X6_isWorldNumber : GoodIn wsX6_grid (va_wsS RX6 52 yX6_isWorldNumber wsX6_isWorldNumber) := goodIn_app (goodIn_of _ (by decide +kernel)) ggX6_grid_X6_isWorldNumber
set_option maxRecDepth 20000 in
theorem ggX6_grid_X1_makeGrid : GoodIn wsX6_grid wsX1_makeGrid := goodIn_r _ [9, 10, 11, 12, 13, 14, 15, 16, 17, 18, 19, 20, 21, 22, 4, 23, 24, 25, 26, 27, 28, 29, 30, 44, 45, 46, 47, 48, 49, 50, 51] (by decide +kernel) (by decide +kernel)
set_option maxRecDepth 20000 in
theorem gX6_grid_X1_makeGrid : GoodIn wsX6_grid (va_wsS RX6 96 yX1_makeGrid wsX1_makeGrid) := goodIn_app (goodIn_of _ (by decide +kernel)) ggX6_grid_X1_makeGrid
theorem dX6_grid_0 : decode cX6_grid 0 = .ok (.iload_n 1, 1) := by decide +kernel
theorem dX6_grid_1 : decode cX6_grid 1 = .ok (.invokestatic 52, 3) := by decide +kernel
theorem dX6_grid_4 : decode cX6_grid 4 = .ok (.ifCond .eq 25, 3) := by decide +kernel
theorem dX6_grid_7 : decode cX6_grid 7 = .ok (.iload_n 2, 1) := by decide +kernel
theorem dX6_grid_8 : decode cX6_grid 8 = .ok (.iconst 2, 1) := by decide +kernel
theorem dX6_grid_9 : decode cX6_grid 9 = .ok (.if_icmp .lt 20, 3) := by decide +kernel
theorem dX6_grid_12 : decode cX6_grid 12 = .ok (.iload_n 2, 1) := by decide +kernel
theorem dX6_grid_13 : decode cX6_grid 13 = .ok (.bipush 6, 2) := by decide +kernel
theorem dX6_grid_15 : decode cX6_grid 15 = .ok (.if_icmp .gt 14, 3) := by decide +kernel
theorem dX6_grid_18 : decode cX6_grid 18 = .ok (.iload_n 3, 1) := by decide +kernel
theorem dX6_grid_19 : decode cX6_grid 19 = .ok (.iconst 2, 1) := by decide +kernel
theorem dX6_grid_20 : decode cX6_grid 20 = .ok (.if_icmp .lt 9, 3) := by decide +kernel
theorem dX6_grid_23 : decode cX6_grid 23 = .ok (.iload_n 3, 1) := by decide +kernel
theorem dX6_grid_24 : decode cX6_grid 24 = .ok (.bipush 6, 2) := by decide +kernel
theorem dX6_grid_26 : decode cX6_grid 26 = .ok (.if_icmp .le 5, 3) := by decide +kernel
theorem dX6_grid_29 : decode cX6_grid 29 = .ok (.iconst (-1), 1) := by decide +kernel
theorem dX6_grid_30 : decode cX6_grid 30 = .ok (.ireturn, 1) := by decide +kernel
theorem dX6_grid_31 : decode cX6_grid 31 = .ok (.aload_n 0, 1) := by decide +kernel
theorem dX6_grid_32 : decode cX6_grid 32 = .ok (.getfield 11, 3) := by decide +kernel
theorem dX6_grid_35 : decode cX6_grid 35 = .ok (.iload_n 1, 1) := by decide +kernel
theorem dX6_grid_36 : decode cX6_grid 36 = .ok (.aaload, 1) := by decide +kernel
theorem dX6_grid_37 : decode cX6_grid 37 = .ok (.iload_n 2, 1) := by decide +kernel
theorem dX6_grid_38 : decode cX6_grid 38 = .ok (.iload_n 3, 1) := by decide +kernel
theorem dX6_grid_39 : decode cX6_grid 39 = .ok (.invokestatic 96, 3) := by decide +kernel
theorem dX6_grid_42 : decode cX6_grid 42 = .ok (.aload_n 0, 1) := by decide +kernel
theorem dX6_grid_43 : decode cX6_grid 43 = .ok (.getfield 11, 3) := by decide +kernel
theorem dX6_grid_46 : decode cX6_grid 46 = .ok (.iload_n 1, 1) := by decide +kernel
theorem dX6_grid_47 : decode cX6_grid 47 = .ok (.aaload, 1) := by decide +kernel
theorem dX6_grid_48 : decode cX6_grid 48 = .ok (.getfield 102, 3) := by decide +kernel
theorem dX6_grid_51 : decode cX6_grid 51 = .ok (.ireturn, 1) := by decide +kernel
set_option maxRecDepth 20000 in
theorem ggX6_form_X6_isWorldNumber : GoodIn wsX6_form wsX6_isWorldNumber := goodIn_r _ [5] (by decide +kernel) (by decide +kernel)
set_option maxRecDepth 20000 in
theorem gX6_form_X6_isWorldNumber : GoodIn wsX6_form (va_wsS RX6 52 yX6_isWorldNumber wsX6_isWorldNumber) := goodIn_app (goodIn_of _ (by decide +kernel)) ggX6_form_X6_isWorldNumber
set_option maxRecDepth 20000 in
theorem ggX6_form_X1_makeForm : GoodIn wsX6_form wsX1_makeForm := goodIn_r _ [9, 10, 11, 12, 13, 14, 15, 16, 17, 18, 19, 20, 21, 22, 23, 8, 24, 25, 26, 27, 28, 29, 30, 31, 32, 33, 34, 35, 4, 36, 37, 38, 39, 40, 41, 42, 43, 57, 58, 59, 60, 61, 62, 63, 64] (by decide +kernel) (by decide +kernel)
set_option maxRecDepth 20000 in
theorem gX6_form_X1_makeForm : GoodIn wsX6_form (va_wsS RX6 105 yX1_makeForm wsX1_makeForm) := goodIn_app (goodIn_of _ (by decide +kernel)) ggX6_form_X1_makeForm
theorem dX6_form_0 : decode cX6_form 0 = .ok (.iload_n 1, 1) := by decide +kernel
theorem dX6_form_1 : decode cX6_form 1 = .ok (.invokestatic 52, 3) := by decide +kernel
theorem dX6_form_4 : decode cX6_form 4 = .ok (.ifCond .eq 13, 3) := by decide +kernel
theorem dX6_form_7 : decode cX6_form 7 = .ok (.iload_n 2, 1) := by decide +kernel
theorem dX6_form_8 : decode cX6_form 8 = .ok (.iconst 2, 1) := by decide +kernel
theorem dX6_form_9 : decode cX6_form 9 = .ok (.if_icmp .lt 8, 3) := by decide +kernel
theorem dX6_form_12 : decode cX6_form 12 = .ok (.iload_n 2, 1) := by decide +kernel
theorem dX6_form_13 : decode cX6_form 13 = .ok (.iconst 3, 1) := by decide +kernel
theorem dX6_form_14 : decode cX6_form 14 = .ok (.if_icmp .le 5, 3) := by decide +kernel
theorem dX6_form_17 : decode cX6_form 17 = .ok (.iconst (-1), 1) := by decide +kernel
theorem dX6_form_18 : decode cX6_form 18 = .ok (.ireturn, 1) := by decide +kernel
theorem dX6_form_19 : decode cX6_form 19 = .ok (.aload_n 0, 1) := by decide +kernel
theorem dX6_form_20 : decode cX6_form 20 = .ok (.getfield 11, 3) := by decide +kernel
theorem dX6_form_23 : decode cX6_form 23 = .ok (.iload_n 1, 1) := by decide +kernel
theorem dX6_form_24 : decode cX6_form 24 = .ok (.aaload, 1) := by decide +kernel
theorem dX6_form_25 : decode cX6_form 25 = .ok (.iload_n 2, 1) := by decide +kernel
theorem dX6_form_26 : decode cX6_form 26 = .ok (.invokestatic 105, 3) := by decide +kernel
theorem dX6_form_29 : decode cX6_form 29 = .ok (.aload_n 0, 1) := by decide +kernel
theorem dX6_form_30 : decode cX6_form 30 = .ok (.getfield 11, 3) := by decide +kernel
theorem dX6_form_33 : decode cX6_form 33 = .ok (.iload_n 1, 1) := by decide +kernel
theorem dX6_form_34 : decode cX6_form 34 = .ok (.aaload, 1) := by decide +kernel
theorem dX6_form_35 : decode cX6_form 35 = .ok (.getfield 102, 3) := by decide +kernel
theorem dX6_form_38 : decode cX6_form 38 = .ok (.ireturn, 1) := by decide +kernel
set_option maxRecDepth 20000 in
theorem ggX6_dual_X6_isWorldNumber : GoodIn wsX6_dual wsX6_isWorldNumber := goodIn_r _ [6] (by decide +kernel) (by decide +kernel)
set_option maxRecDepth 20000 in
theorem gX6_dual_X6_isWorldNumber : GoodIn wsX6_dual (va_wsS RX6 52 yX6_isWorldNumber wsX6_isWorldNumber) := goodIn_app (goodIn_of _ (by decide +kernel)) ggX6_dual_X6_isWorldNumber
set_option maxRecDepth 20000 in
theorem ggX6_dual_X6_refused : GoodIn wsX6_dual wsX6_refused := goodIn_r _ [10, 11, 12, 55, 56, 57, 58, 59, 60, 61, 62, 63, 64, 65, 66, 67] (by decide +kernel) (by decide +kernel)
set_option maxRecDepth 20000 in
theorem gX6_dual_X6_refused : GoodIn wsX6_dual (wsV RX6 71 RX6 yX6_refused wsX6_refused) := goodIn_app (goodIn_of _ (by decide +kernel)) ggX6_dual_X6_refused
set_option maxRecDepth 20000 in
theorem ggX6_dual_X5_leastThrough : GoodIn wsX6_dual wsX5_leastThrough := goodIn_r _ [17, 18, 19, 20, 21, 22, 23, 24, 25, 26, 27, 28, 29, 30, 68, 69, 70, 71, 72, 73, 74, 75] (by decide +kernel) (by decide +kernel)
set_option maxRecDepth 20000 in
theorem gX6_dual_X5_leastThrough : GoodIn wsX6_dual (wsV RX6 109 RX5 yX5_leastThrough wsX5_leastThrough) := goodIn_app (goodIn_of _ (by decide +kernel)) ggX6_dual_X5_leastThrough
set_option maxRecDepth 20000 in
theorem ggX6_dual_X1_makeTurned : GoodIn wsX6_dual wsX1_makeTurned := goodIn_r _ [34, 35, 36, 37, 16, 38, 39, 40, 18, 41, 42, 19, 43, 44, 45, 46, 47, 48, 49, 5, 50, 68, 69, 70, 71, 72, 73, 74, 75] (by decide +kernel) (by decide +kernel)
set_option maxRecDepth 20000 in
theorem gX6_dual_X1_makeTurned : GoodIn wsX6_dual (va_wsS RX6 113 yX1_makeTurned wsX1_makeTurned) := goodIn_app (goodIn_of _ (by decide +kernel)) ggX6_dual_X1_makeTurned
set_option maxRecDepth 20000 in
theorem ggX6_dual_X6_putSpare : GoodIn wsX6_dual wsX6_putSpare := goodIn_r _ [54, 2, 1, 55, 56, 57, 58, 59, 60, 61, 62, 63, 64, 65, 66, 67, 68, 69, 70, 71, 72, 73, 74, 75] (by decide +kernel) (by decide +kernel)
set_option maxRecDepth 20000 in
theorem gX6_dual_X6_putSpare : GoodIn wsX6_dual (wsV RX6 117 RX6 yX6_putSpare wsX6_putSpare) := goodIn_app (goodIn_of _ (by decide +kernel)) ggX6_dual_X6_putSpare
theorem dX6_dual_0 : decode cX6_dual 0 = .ok (.iload_n 1, 1) := by decide +kernel
theorem dX6_dual_1 : decode cX6_dual 1 = .ok (.invokestatic 52, 3) := by decide +kernel
theorem dX6_dual_4 : decode cX6_dual 4 = .ok (.ifCond .eq 10, 3) := by decide +kernel
theorem dX6_dual_7 : decode cX6_dual 7 = .ok (.iload_n 2, 1) := by decide +kernel
theorem dX6_dual_8 : decode cX6_dual 8 = .ok (.invokestatic 52, 3) := by decide +kernel
theorem dX6_dual_11 : decode cX6_dual 11 = .ok (.ifCond .ne 5, 3) := by decide +kernel
theorem dX6_dual_14 : decode cX6_dual 14 = .ok (.iconst (-1), 1) := by decide +kernel
theorem dX6_dual_15 : decode cX6_dual 15 = .ok (.ireturn, 1) := by decide +kernel
theorem dX6_dual_16 : decode cX6_dual 16 = .ok (.aload_n 0, 1) := by decide +kernel
theorem dX6_dual_17 : decode cX6_dual 17 = .ok (.getfield 11, 3) := by decide +kernel
theorem dX6_dual_20 : decode cX6_dual 20 = .ok (.iload_n 1, 1) := by decide +kernel
theorem dX6_dual_21 : decode cX6_dual 21 = .ok (.aaload, 1) := by decide +kernel
theorem dX6_dual_22 : decode cX6_dual 22 = .ok (.astore_n 3, 1) := by decide +kernel
theorem dX6_dual_23 : decode cX6_dual 23 = .ok (.aload_n 3, 1) := by decide +kernel
theorem dX6_dual_24 : decode cX6_dual 24 = .ok (.getfield 63, 3) := by decide +kernel
theorem dX6_dual_27 : decode cX6_dual 27 = .ok (.ifCond .ne 9, 3) := by decide +kernel
theorem dX6_dual_30 : decode cX6_dual 30 = .ok (.aload_n 0, 1) := by decide +kernel
theorem dX6_dual_31 : decode cX6_dual 31 = .ok (.iconst 1, 1) := by decide +kernel
theorem dX6_dual_32 : decode cX6_dual 32 = .ok (.invokevirtual 71, 3) := by decide +kernel
theorem dX6_dual_35 : decode cX6_dual 35 = .ok (.ireturn, 1) := by decide +kernel
theorem dX6_dual_36 : decode cX6_dual 36 = .ok (.aload_n 3, 1) := by decide +kernel
theorem dX6_dual_37 : decode cX6_dual 37 = .ok (.invokevirtual 109, 3) := by decide +kernel
theorem dX6_dual_40 : decode cX6_dual 40 = .ok (.iconst 2, 1) := by decide +kernel
theorem dX6_dual_41 : decode cX6_dual 41 = .ok (.if_icmp .ge 6, 3) := by decide +kernel
theorem dX6_dual_44 : decode cX6_dual 44 = .ok (.bipush (-4), 2) := by decide +kernel
theorem dX6_dual_46 : decode cX6_dual 46 = .ok (.ireturn, 1) := by decide +kernel
theorem dX6_dual_47 : decode cX6_dual 47 = .ok (.aload_n 3, 1) := by decide +kernel
theorem dX6_dual_48 : decode cX6_dual 48 = .ok (.aload_n 0, 1) := by decide +kernel
theorem dX6_dual_49 : decode cX6_dual 49 = .ok (.getfield 48, 3) := by decide +kernel
theorem dX6_dual_52 : decode cX6_dual 52 = .ok (.invokestatic 113, 3) := by decide +kernel
theorem dX6_dual_55 : decode cX6_dual 55 = .ok (.aload_n 0, 1) := by decide +kernel
theorem dX6_dual_56 : decode cX6_dual 56 = .ok (.iload_n 2, 1) := by decide +kernel
theorem dX6_dual_57 : decode cX6_dual 57 = .ok (.invokevirtual 117, 3) := by decide +kernel
theorem dX6_dual_60 : decode cX6_dual 60 = .ok (.ireturn, 1) := by decide +kernel
set_option maxRecDepth 20000 in
theorem ggX6_derive_X6_isWorldNumber : GoodIn wsX6_derive wsX6_isWorldNumber := goodIn_r _ [6] (by decide +kernel) (by decide +kernel)
set_option maxRecDepth 20000 in
theorem gX6_derive_X6_isWorldNumber : GoodIn wsX6_derive (va_wsS RX6 52 yX6_isWorldNumber wsX6_isWorldNumber) := goodIn_app (goodIn_of _ (by decide +kernel)) ggX6_derive_X6_isWorldNumber
set_option maxRecDepth 20000 in
theorem ggX6_derive_X6_refused : GoodIn wsX6_derive wsX6_refused := goodIn_r _ [10, 11, 12, 99, 100, 101, 102, 103, 104, 105, 106, 107, 108, 109, 110, 111] (by decide +kernel) (by decide +kernel)
set_option maxRecDepth 20000 in
theorem gX6_derive_X6_refused : GoodIn wsX6_derive (wsV RX6 71 RX6 yX6_refused wsX6_refused) := goodIn_app (goodIn_of _ (by decide +kernel)) ggX6_derive_X6_refused
set_option maxRecDepth 20000 in
theorem ggX6_derive_X5_hasPoint : GoodIn wsX6_derive wsX5_hasPoint := goodIn_r _ [17, 18, 112, 113, 114, 115, 116, 117, 118, 119] (by decide +kernel) (by decide +kernel)
set_option maxRecDepth 20000 in
theorem gX6_derive_X5_hasPoint : GoodIn wsX6_derive (wsV RX6 120 RX5 yX5_hasPoint wsX5_hasPoint) := goodIn_app (goodIn_of _ (by decide +kernel)) ggX6_derive_X5_hasPoint
set_option maxRecDepth 20000 in
theorem ggX6_derive_X5_orderOfLines : GoodIn wsX6_derive wsX5_orderOfLines := goodIn_r _ [22, 23, 24, 25, 26, 27, 28, 29, 30, 31, 112, 113, 114, 115, 116, 117, 118, 119] (by decide +kernel) (by decide +kernel)
set_option maxRecDepth 20000 in
theorem gX6_derive_X5_orderOfLines : GoodIn wsX6_derive (wsV RX6 123 RX5 yX5_orderOfLines wsX5_orderOfLines) := goodIn_app (goodIn_of _ (by decide +kernel)) ggX6_derive_X5_orderOfLines
set_option maxRecDepth 20000 in
theorem ggX6_derive_X5_orderOfPoints : GoodIn wsX6_derive wsX5_orderOfPoints := goodIn_r _ [35, 23, 36, 18, 25, 26, 27, 28, 29, 30, 31, 112, 113, 114, 115, 116, 117, 118, 119] (by decide +kernel) (by decide +kernel)
set_option maxRecDepth 20000 in
theorem gX6_derive_X5_orderOfPoints : GoodIn wsX6_derive (wsV RX6 126 RX5 yX5_orderOfPoints wsX5_orderOfPoints) := goodIn_app (goodIn_of _ (by decide +kernel)) ggX6_derive_X5_orderOfPoints
set_option maxRecDepth 20000 in
theorem ggX6_derive_X0_firstOf : GoodIn wsX6_derive wsX0_firstOf := goodIn_r _ [40, 41, 42, 39, 43, 44, 26, 27, 28, 29, 30, 31, 45, 46, 47, 48, 49, 50, 16, 51, 18, 36, 52, 5, 53, 112, 113, 114, 115, 116, 117, 118, 119] (by decide +kernel) (by decide +kernel)
set_option maxRecDepth 20000 in
theorem gX6_derive_X0_firstOf : GoodIn wsX6_derive (va_wsS RX6 129 yX0_firstOf wsX0_firstOf) := goodIn_app (goodIn_of _ (by decide +kernel)) ggX6_derive_X0_firstOf
set_option maxRecDepth 20000 in
theorem ggX6_derive_X5_isRegular : GoodIn wsX6_derive wsX5_isRegular := goodIn_r _ [57, 18, 58, 33, 34, 16, 35, 23, 36, 25, 26, 27, 28, 29, 30, 31, 59, 60, 61, 62, 63, 52, 5, 53, 64, 65, 66, 67, 68, 69, 70, 71, 72, 73, 112, 113, 114, 115, 116, 117, 118, 119] (by decide +kernel) (by decide +kernel)
set_option maxRecDepth 20000 in
theorem gX6_derive_X5_isRegular : GoodIn wsX6_derive (wsV RX6 135 RX5 yX5_isRegular wsX5_isRegular) := goodIn_app (goodIn_of _ (by decide +kernel)) ggX6_derive_X5_isRegular
set_option maxRecDepth 20000 in
theorem ggX6_derive_X1_makeAbout : GoodIn wsX6_derive wsX1_makeAbout := goodIn_r _ [77, 78, 72, 5, 73, 79, 26, 27, 28, 29, 30, 31, 80, 81, 82, 16, 83, 84, 85, 18, 86, 23, 36, 63, 52, 53, 87, 88, 76, 89, 90, 91, 92, 93, 24, 94, 65, 66, 67, 68, 69, 70, 71, 112, 113, 114, 115, 116, 117, 118, 119] (by decide +kernel) (by decide +kernel)
set_option maxRecDepth 20000 in
theorem gX6_derive_X1_makeAbout : GoodIn wsX6_derive (va_wsS RX6 138 yX1_makeAbout wsX1_makeAbout) := goodIn_app (goodIn_of _ (by decide +kernel)) ggX6_derive_X1_makeAbout
set_option maxRecDepth 20000 in
theorem ggX6_derive_X6_putSpare : GoodIn wsX6_derive wsX6_putSpare := goodIn_r _ [98, 2, 1, 99, 100, 101, 102, 103, 104, 105, 106, 107, 108, 109, 110, 111, 112, 113, 114, 115, 116, 117, 118, 119] (by decide +kernel) (by decide +kernel)
set_option maxRecDepth 20000 in
theorem gX6_derive_X6_putSpare : GoodIn wsX6_derive (wsV RX6 117 RX6 yX6_putSpare wsX6_putSpare) := goodIn_app (goodIn_of _ (by decide +kernel)) ggX6_derive_X6_putSpare
theorem dX6_derive_0 : decode cX6_derive 0 = .ok (.iload_n 1, 1) := by decide +kernel
theorem dX6_derive_1 : decode cX6_derive 1 = .ok (.invokestatic 52, 3) := by decide +kernel
theorem dX6_derive_4 : decode cX6_derive 4 = .ok (.ifCond .eq 10, 3) := by decide +kernel
theorem dX6_derive_7 : decode cX6_derive 7 = .ok (.iload_n 3, 1) := by decide +kernel
theorem dX6_derive_8 : decode cX6_derive 8 = .ok (.invokestatic 52, 3) := by decide +kernel
theorem dX6_derive_11 : decode cX6_derive 11 = .ok (.ifCond .ne 5, 3) := by decide +kernel
theorem dX6_derive_14 : decode cX6_derive 14 = .ok (.iconst (-1), 1) := by decide +kernel
theorem dX6_derive_15 : decode cX6_derive 15 = .ok (.ireturn, 1) := by decide +kernel
theorem dX6_derive_16 : decode cX6_derive 16 = .ok (.aload_n 0, 1) := by decide +kernel
theorem dX6_derive_17 : decode cX6_derive 17 = .ok (.getfield 11, 3) := by decide +kernel
theorem dX6_derive_20 : decode cX6_derive 20 = .ok (.iload_n 1, 1) := by decide +kernel
theorem dX6_derive_21 : decode cX6_derive 21 = .ok (.aaload, 1) := by decide +kernel
theorem dX6_derive_22 : decode cX6_derive 22 = .ok (.astore 4, 2) := by decide +kernel
theorem dX6_derive_24 : decode cX6_derive 24 = .ok (.aload 4, 2) := by decide +kernel
theorem dX6_derive_26 : decode cX6_derive 26 = .ok (.getfield 63, 3) := by decide +kernel
theorem dX6_derive_29 : decode cX6_derive 29 = .ok (.ifCond .ne 9, 3) := by decide +kernel
theorem dX6_derive_32 : decode cX6_derive 32 = .ok (.aload_n 0, 1) := by decide +kernel
theorem dX6_derive_33 : decode cX6_derive 33 = .ok (.iconst 1, 1) := by decide +kernel
theorem dX6_derive_34 : decode cX6_derive 34 = .ok (.invokevirtual 71, 3) := by decide +kernel
theorem dX6_derive_37 : decode cX6_derive 37 = .ok (.ireturn, 1) := by decide +kernel
theorem dX6_derive_38 : decode cX6_derive 38 = .ok (.aload 4, 2) := by decide +kernel
theorem dX6_derive_40 : decode cX6_derive 40 = .ok (.iload_n 2, 1) := by decide +kernel
theorem dX6_derive_41 : decode cX6_derive 41 = .ok (.invokevirtual 120, 3) := by decide +kernel
theorem dX6_derive_44 : decode cX6_derive 44 = .ok (.ifCond .ne 9, 3) := by decide +kernel
theorem dX6_derive_47 : decode cX6_derive 47 = .ok (.aload_n 0, 1) := by decide +kernel
theorem dX6_derive_48 : decode cX6_derive 48 = .ok (.iconst 2, 1) := by decide +kernel
theorem dX6_derive_49 : decode cX6_derive 49 = .ok (.invokevirtual 71, 3) := by decide +kernel
theorem dX6_derive_52 : decode cX6_derive 52 = .ok (.ireturn, 1) := by decide +kernel
theorem dX6_derive_53 : decode cX6_derive 53 = .ok (.aload 4, 2) := by decide +kernel
theorem dX6_derive_55 : decode cX6_derive 55 = .ok (.invokevirtual 123, 3) := by decide +kernel
theorem dX6_derive_58 : decode cX6_derive 58 = .ok (.istore 5, 2) := by decide +kernel
theorem dX6_derive_60 : decode cX6_derive 60 = .ok (.iload 5, 2) := by decide +kernel
theorem dX6_derive_62 : decode cX6_derive 62 = .ok (.iconst 2, 1) := by decide +kernel
theorem dX6_derive_63 : decode cX6_derive 63 = .ok (.if_icmp .lt 30, 3) := by decide +kernel
theorem dX6_derive_66 : decode cX6_derive 66 = .ok (.iload 5, 2) := by decide +kernel
theorem dX6_derive_68 : decode cX6_derive 68 = .ok (.aload 4, 2) := by decide +kernel
theorem dX6_derive_70 : decode cX6_derive 70 = .ok (.invokevirtual 126, 3) := by decide +kernel
theorem dX6_derive_73 : decode cX6_derive 73 = .ok (.if_icmp .ne 20, 3) := by decide +kernel
theorem dX6_derive_76 : decode cX6_derive 76 = .ok (.aload 4, 2) := by decide +kernel
theorem dX6_derive_78 : decode cX6_derive 78 = .ok (.invokestatic 129, 3) := by decide +kernel
theorem dX6_derive_81 : decode cX6_derive 81 = .ok (.ifCond .ne 12, 3) := by decide +kernel
theorem dX6_derive_84 : decode cX6_derive 84 = .ok (.aload 4, 2) := by decide +kernel
theorem dX6_derive_86 : decode cX6_derive 86 = .ok (.iload_n 2, 1) := by decide +kernel
theorem dX6_derive_87 : decode cX6_derive 87 = .ok (.invokevirtual 135, 3) := by decide +kernel
theorem dX6_derive_90 : decode cX6_derive 90 = .ok (.ifCond .ne 6, 3) := by decide +kernel
theorem dX6_derive_93 : decode cX6_derive 93 = .ok (.bipush (-4), 2) := by decide +kernel
theorem dX6_derive_95 : decode cX6_derive 95 = .ok (.ireturn, 1) := by decide +kernel
theorem dX6_derive_96 : decode cX6_derive 96 = .ok (.aload 4, 2) := by decide +kernel
theorem dX6_derive_98 : decode cX6_derive 98 = .ok (.iload_n 2, 1) := by decide +kernel
theorem dX6_derive_99 : decode cX6_derive 99 = .ok (.aload_n 0, 1) := by decide +kernel
theorem dX6_derive_100 : decode cX6_derive 100 = .ok (.getfield 48, 3) := by decide +kernel
theorem dX6_derive_103 : decode cX6_derive 103 = .ok (.invokestatic 138, 3) := by decide +kernel
theorem dX6_derive_106 : decode cX6_derive 106 = .ok (.ifCond .ne 6, 3) := by decide +kernel
theorem dX6_derive_109 : decode cX6_derive 109 = .ok (.bipush (-2), 2) := by decide +kernel
theorem dX6_derive_111 : decode cX6_derive 111 = .ok (.ireturn, 1) := by decide +kernel
theorem dX6_derive_112 : decode cX6_derive 112 = .ok (.aload_n 0, 1) := by decide +kernel
theorem dX6_derive_113 : decode cX6_derive 113 = .ok (.iload_n 3, 1) := by decide +kernel
theorem dX6_derive_114 : decode cX6_derive 114 = .ok (.invokevirtual 117, 3) := by decide +kernel
theorem dX6_derive_117 : decode cX6_derive 117 = .ok (.ireturn, 1) := by decide +kernel
set_option maxRecDepth 20000 in
theorem ggX6_part_X6_isWorldNumber : GoodIn wsX6_part wsX6_isWorldNumber := goodIn_r _ [6] (by decide +kernel) (by decide +kernel)
set_option maxRecDepth 20000 in
theorem gX6_part_X6_isWorldNumber : GoodIn wsX6_part (va_wsS RX6 52 yX6_isWorldNumber wsX6_isWorldNumber) := goodIn_app (goodIn_of _ (by decide +kernel)) ggX6_part_X6_isWorldNumber
set_option maxRecDepth 20000 in
theorem ggX6_part_X6_refused : GoodIn wsX6_part wsX6_refused := goodIn_r _ [10, 11, 12, 66, 67, 68, 69, 70, 71, 72, 73, 74, 75, 76, 77, 78] (by decide +kernel) (by decide +kernel)
set_option maxRecDepth 20000 in
theorem gX6_part_X6_refused : GoodIn wsX6_part (wsV RX6 71 RX6 yX6_refused wsX6_refused) := goodIn_app (goodIn_of _ (by decide +kernel)) ggX6_part_X6_refused
set_option maxRecDepth 20000 in
theorem ggX6_part_X5_hasAll : GoodIn wsX6_part wsX5_hasAll := goodIn_r _ [17, 18, 19, 20, 5, 21, 79, 80, 81, 82, 83, 84, 85, 86] (by decide +kernel) (by decide +kernel)
set_option maxRecDepth 20000 in
theorem gX6_part_X5_hasAll : GoodIn wsX6_part (wsV RX6 142 RX5 yX5_hasAll wsX5_hasAll) := goodIn_app (goodIn_of _ (by decide +kernel)) ggX6_part_X5_hasAll
set_option maxRecDepth 20000 in
theorem ggX6_part_X5_mostOnLine : GoodIn wsX6_part wsX5_mostOnLine := goodIn_r _ [25, 26, 27, 28, 29, 30, 31, 32, 33, 34, 35, 36, 37, 38, 79, 80, 81, 82, 83, 84, 85, 86] (by decide +kernel) (by decide +kernel)
set_option maxRecDepth 20000 in
theorem gX6_part_X5_mostOnLine : GoodIn wsX6_part (wsV RX6 145 RX5 yX5_mostOnLine wsX5_mostOnLine) := goodIn_app (goodIn_of _ (by decide +kernel)) ggX6_part_X5_mostOnLine
set_option maxRecDepth 20000 in
theorem ggX6_part_X1_makePart : GoodIn wsX6_part wsX1_makePart := goodIn_r _ [42, 43, 33, 34, 35, 36, 37, 38, 44, 45, 46, 16, 47, 48, 49, 18, 50, 26, 51, 52, 53, 54, 41, 55, 56, 5, 57, 58, 59, 60, 61, 27, 79, 80, 81, 82, 83, 84, 85, 86] (by decide +kernel) (by decide +kernel)
set_option maxRecDepth 20000 in
theorem gX6_part_X1_makePart : GoodIn wsX6_part (va_wsS RX6 148 yX1_makePart wsX1_makePart) := goodIn_app (goodIn_of _ (by decide +kernel)) ggX6_part_X1_makePart
set_option maxRecDepth 20000 in
theorem ggX6_part_X6_putSpare : GoodIn wsX6_part wsX6_putSpare := goodIn_r _ [65, 2, 1, 66, 67, 68, 69, 70, 71, 72, 73, 74, 75, 76, 77, 78, 79, 80, 81, 82, 83, 84, 85, 86] (by decide +kernel) (by decide +kernel)
set_option maxRecDepth 20000 in
theorem gX6_part_X6_putSpare : GoodIn wsX6_part (wsV RX6 117 RX6 yX6_putSpare wsX6_putSpare) := goodIn_app (goodIn_of _ (by decide +kernel)) ggX6_part_X6_putSpare
theorem dX6_part_0 : decode cX6_part 0 = .ok (.iload_n 1, 1) := by decide +kernel
theorem dX6_part_1 : decode cX6_part 1 = .ok (.invokestatic 52, 3) := by decide +kernel
theorem dX6_part_4 : decode cX6_part 4 = .ok (.ifCond .eq 11, 3) := by decide +kernel
theorem dX6_part_7 : decode cX6_part 7 = .ok (.iload 4, 2) := by decide +kernel
theorem dX6_part_9 : decode cX6_part 9 = .ok (.invokestatic 52, 3) := by decide +kernel
theorem dX6_part_12 : decode cX6_part 12 = .ok (.ifCond .ne 5, 3) := by decide +kernel
theorem dX6_part_15 : decode cX6_part 15 = .ok (.iconst (-1), 1) := by decide +kernel
theorem dX6_part_16 : decode cX6_part 16 = .ok (.ireturn, 1) := by decide +kernel
theorem dX6_part_17 : decode cX6_part 17 = .ok (.aload_n 0, 1) := by decide +kernel
theorem dX6_part_18 : decode cX6_part 18 = .ok (.getfield 11, 3) := by decide +kernel
theorem dX6_part_21 : decode cX6_part 21 = .ok (.iload_n 1, 1) := by decide +kernel
theorem dX6_part_22 : decode cX6_part 22 = .ok (.aaload, 1) := by decide +kernel
theorem dX6_part_23 : decode cX6_part 23 = .ok (.astore 5, 2) := by decide +kernel
theorem dX6_part_25 : decode cX6_part 25 = .ok (.aload 5, 2) := by decide +kernel
theorem dX6_part_27 : decode cX6_part 27 = .ok (.getfield 63, 3) := by decide +kernel
theorem dX6_part_30 : decode cX6_part 30 = .ok (.ifCond .ne 9, 3) := by decide +kernel
theorem dX6_part_33 : decode cX6_part 33 = .ok (.aload_n 0, 1) := by decide +kernel
theorem dX6_part_34 : decode cX6_part 34 = .ok (.iconst 1, 1) := by decide +kernel
theorem dX6_part_35 : decode cX6_part 35 = .ok (.invokevirtual 71, 3) := by decide +kernel
theorem dX6_part_38 : decode cX6_part 38 = .ok (.ireturn, 1) := by decide +kernel
theorem dX6_part_39 : decode cX6_part 39 = .ok (.aload 5, 2) := by decide +kernel
theorem dX6_part_41 : decode cX6_part 41 = .ok (.lload_n 2, 1) := by decide +kernel
theorem dX6_part_42 : decode cX6_part 42 = .ok (.invokevirtual 142, 3) := by decide +kernel
theorem dX6_part_45 : decode cX6_part 45 = .ok (.ifCond .ne 5, 3) := by decide +kernel
theorem dX6_part_48 : decode cX6_part 48 = .ok (.iconst (-1), 1) := by decide +kernel
theorem dX6_part_49 : decode cX6_part 49 = .ok (.ireturn, 1) := by decide +kernel
theorem dX6_part_50 : decode cX6_part 50 = .ok (.aload 5, 2) := by decide +kernel
theorem dX6_part_52 : decode cX6_part 52 = .ok (.lload_n 2, 1) := by decide +kernel
theorem dX6_part_53 : decode cX6_part 53 = .ok (.invokevirtual 145, 3) := by decide +kernel
theorem dX6_part_56 : decode cX6_part 56 = .ok (.iconst 2, 1) := by decide +kernel
theorem dX6_part_57 : decode cX6_part 57 = .ok (.if_icmp .ge 6, 3) := by decide +kernel
theorem dX6_part_60 : decode cX6_part 60 = .ok (.bipush (-4), 2) := by decide +kernel
theorem dX6_part_62 : decode cX6_part 62 = .ok (.ireturn, 1) := by decide +kernel
theorem dX6_part_63 : decode cX6_part 63 = .ok (.aload 5, 2) := by decide +kernel
theorem dX6_part_65 : decode cX6_part 65 = .ok (.lload_n 2, 1) := by decide +kernel
theorem dX6_part_66 : decode cX6_part 66 = .ok (.aload_n 0, 1) := by decide +kernel
theorem dX6_part_67 : decode cX6_part 67 = .ok (.getfield 48, 3) := by decide +kernel
theorem dX6_part_70 : decode cX6_part 70 = .ok (.invokestatic 148, 3) := by decide +kernel
theorem dX6_part_73 : decode cX6_part 73 = .ok (.aload_n 0, 1) := by decide +kernel
theorem dX6_part_74 : decode cX6_part 74 = .ok (.iload 4, 2) := by decide +kernel
theorem dX6_part_76 : decode cX6_part 76 = .ok (.invokevirtual 117, 3) := by decide +kernel
theorem dX6_part_79 : decode cX6_part 79 = .ok (.ireturn, 1) := by decide +kernel
set_option maxRecDepth 20000 in
theorem ggX6_drop_X6_isWorldNumber : GoodIn wsX6_drop wsX6_isWorldNumber := goodIn_r _ [5] (by decide +kernel) (by decide +kernel)
set_option maxRecDepth 20000 in
theorem gX6_drop_X6_isWorldNumber : GoodIn wsX6_drop (va_wsS RX6 52 yX6_isWorldNumber wsX6_isWorldNumber) := goodIn_app (goodIn_of _ (by decide +kernel)) ggX6_drop_X6_isWorldNumber
set_option maxRecDepth 20000 in
theorem ggX6_drop_X6_refused : GoodIn wsX6_drop wsX6_refused := goodIn_r _ [9, 10, 11, 12, 13, 14, 15, 16, 17, 18, 19, 20, 21, 22, 23, 24] (by decide +kernel) (by decide +kernel)
set_option maxRecDepth 20000 in
theorem gX6_drop_X6_refused : GoodIn wsX6_drop (wsV RX6 71 RX6 yX6_refused wsX6_refused) := goodIn_app (goodIn_of _ (by decide +kernel)) ggX6_drop_X6_refused
theorem dX6_drop_0 : decode cX6_drop 0 = .ok (.iload_n 1, 1) := by decide +kernel
theorem dX6_drop_1 : decode cX6_drop 1 = .ok (.invokestatic 52, 3) := by decide +kernel
theorem dX6_drop_4 : decode cX6_drop 4 = .ok (.ifCond .ne 5, 3) := by decide +kernel
theorem dX6_drop_7 : decode cX6_drop 7 = .ok (.iconst (-1), 1) := by decide +kernel
theorem dX6_drop_8 : decode cX6_drop 8 = .ok (.ireturn, 1) := by decide +kernel
theorem dX6_drop_9 : decode cX6_drop 9 = .ok (.aload_n 0, 1) := by decide +kernel
theorem dX6_drop_10 : decode cX6_drop 10 = .ok (.getfield 11, 3) := by decide +kernel
theorem dX6_drop_13 : decode cX6_drop 13 = .ok (.iload_n 1, 1) := by decide +kernel
theorem dX6_drop_14 : decode cX6_drop 14 = .ok (.aaload, 1) := by decide +kernel
theorem dX6_drop_15 : decode cX6_drop 15 = .ok (.getfield 63, 3) := by decide +kernel
theorem dX6_drop_18 : decode cX6_drop 18 = .ok (.ifCond .ne 9, 3) := by decide +kernel
theorem dX6_drop_21 : decode cX6_drop 21 = .ok (.aload_n 0, 1) := by decide +kernel
theorem dX6_drop_22 : decode cX6_drop 22 = .ok (.iconst 1, 1) := by decide +kernel
theorem dX6_drop_23 : decode cX6_drop 23 = .ok (.invokevirtual 71, 3) := by decide +kernel
theorem dX6_drop_26 : decode cX6_drop 26 = .ok (.ireturn, 1) := by decide +kernel
theorem dX6_drop_27 : decode cX6_drop 27 = .ok (.aload_n 0, 1) := by decide +kernel
theorem dX6_drop_28 : decode cX6_drop 28 = .ok (.getfield 11, 3) := by decide +kernel
theorem dX6_drop_31 : decode cX6_drop 31 = .ok (.iload_n 1, 1) := by decide +kernel
theorem dX6_drop_32 : decode cX6_drop 32 = .ok (.aaload, 1) := by decide +kernel
theorem dX6_drop_33 : decode cX6_drop 33 = .ok (.iconst 0, 1) := by decide +kernel
theorem dX6_drop_34 : decode cX6_drop 34 = .ok (.putfield 63, 3) := by decide +kernel
theorem dX6_drop_37 : decode cX6_drop 37 = .ok (.iconst 1, 1) := by decide +kernel
theorem dX6_drop_38 : decode cX6_drop 38 = .ok (.ireturn, 1) := by decide +kernel
set_option maxRecDepth 20000 in
theorem ggX6_told_X6_isWorldNumber : GoodIn wsX6_told wsX6_isWorldNumber := goodIn_r _ [5] (by decide +kernel) (by decide +kernel)
set_option maxRecDepth 20000 in
theorem gX6_told_X6_isWorldNumber : GoodIn wsX6_told (va_wsS RX6 52 yX6_isWorldNumber wsX6_isWorldNumber) := goodIn_app (goodIn_of _ (by decide +kernel)) ggX6_told_X6_isWorldNumber
set_option maxRecDepth 20000 in
theorem ggX6_told_X6_refused : GoodIn wsX6_told wsX6_refused := goodIn_r _ [9, 10, 11, 32, 33, 34, 35, 36, 37, 38, 39, 40, 41, 42, 43, 44] (by decide +kernel) (by decide +kernel)
set_option maxRecDepth 20000 in
theorem gX6_told_X6_refused : GoodIn wsX6_told (wsV RX6 71 RX6 yX6_refused wsX6_refused) := goodIn_app (goodIn_of _ (by decide +kernel)) ggX6_told_X6_refused
set_option maxRecDepth 20000 in
theorem ggX6_told_X5_orderOfLines : GoodIn wsX6_told wsX5_orderOfLines := goodIn_r _ [16, 17, 18, 19, 20, 21, 22, 23, 24, 25, 45, 46, 47, 48, 49, 50, 51, 52] (by decide +kernel) (by decide +kernel)
set_option maxRecDepth 20000 in
theorem gX6_told_X5_orderOfLines : GoodIn wsX6_told (wsV RX6 123 RX5 yX5_orderOfLines wsX5_orderOfLines) := goodIn_app (goodIn_of _ (by decide +kernel)) ggX6_told_X5_orderOfLines
set_option maxRecDepth 20000 in
theorem ggX6_told_X5_orderOfPoints : GoodIn wsX6_told wsX5_orderOfPoints := goodIn_r _ [29, 17, 30, 31, 19, 20, 21, 22, 23, 24, 25, 45, 46, 47, 48, 49, 50, 51, 52] (by decide +kernel) (by decide +kernel)
set_option maxRecDepth 20000 in
theorem gX6_told_X5_orderOfPoints : GoodIn wsX6_told (wsV RX6 126 RX5 yX5_orderOfPoints wsX5_orderOfPoints) := goodIn_app (goodIn_of _ (by decide +kernel)) ggX6_told_X5_orderOfPoints
theorem dX6_told_0 : decode cX6_told 0 = .ok (.iload_n 1, 1) := by decide +kernel
theorem dX6_told_1 : decode cX6_told 1 = .ok (.invokestatic 52, 3) := by decide +kernel
theorem dX6_told_4 : decode cX6_told 4 = .ok (.ifCond .eq 12, 3) := by decide +kernel
theorem dX6_told_7 : decode cX6_told 7 = .ok (.iload_n 2, 1) := by decide +kernel
theorem dX6_told_8 : decode cX6_told 8 = .ok (.ifCond .lt 8, 3) := by decide +kernel
theorem dX6_told_11 : decode cX6_told 11 = .ok (.iload_n 2, 1) := by decide +kernel
theorem dX6_told_12 : decode cX6_told 12 = .ok (.iconst 4, 1) := by decide +kernel
theorem dX6_told_13 : decode cX6_told 13 = .ok (.if_icmp .le 5, 3) := by decide +kernel
theorem dX6_told_16 : decode cX6_told 16 = .ok (.iconst (-1), 1) := by decide +kernel
theorem dX6_told_17 : decode cX6_told 17 = .ok (.ireturn, 1) := by decide +kernel
theorem dX6_told_18 : decode cX6_told 18 = .ok (.aload_n 0, 1) := by decide +kernel
theorem dX6_told_19 : decode cX6_told 19 = .ok (.getfield 11, 3) := by decide +kernel
theorem dX6_told_22 : decode cX6_told 22 = .ok (.iload_n 1, 1) := by decide +kernel
theorem dX6_told_23 : decode cX6_told 23 = .ok (.aaload, 1) := by decide +kernel
theorem dX6_told_24 : decode cX6_told 24 = .ok (.astore_n 3, 1) := by decide +kernel
theorem dX6_told_25 : decode cX6_told 25 = .ok (.aload_n 3, 1) := by decide +kernel
theorem dX6_told_26 : decode cX6_told 26 = .ok (.getfield 63, 3) := by decide +kernel
theorem dX6_told_29 : decode cX6_told 29 = .ok (.ifCond .ne 9, 3) := by decide +kernel
theorem dX6_told_32 : decode cX6_told 32 = .ok (.aload_n 0, 1) := by decide +kernel
theorem dX6_told_33 : decode cX6_told 33 = .ok (.iconst 1, 1) := by decide +kernel
theorem dX6_told_34 : decode cX6_told 34 = .ok (.invokevirtual 71, 3) := by decide +kernel
theorem dX6_told_37 : decode cX6_told 37 = .ok (.ireturn, 1) := by decide +kernel
theorem dX6_told_38 : decode cX6_told 38 = .ok (.iload_n 2, 1) := by decide +kernel
theorem dX6_told_39 : decode cX6_told 39 = .ok (.tableswitch 49 0 3 #[29, 34, 39, 44], 29) := by decide +kernel
theorem dX6_told_68 : decode cX6_told 68 = .ok (.aload_n 3, 1) := by decide +kernel
theorem dX6_told_69 : decode cX6_told 69 = .ok (.getfield 75, 3) := by decide +kernel
theorem dX6_told_72 : decode cX6_told 72 = .ok (.ireturn, 1) := by decide +kernel
theorem dX6_told_73 : decode cX6_told 73 = .ok (.aload_n 3, 1) := by decide +kernel
theorem dX6_told_74 : decode cX6_told 74 = .ok (.getfield 102, 3) := by decide +kernel
theorem dX6_told_77 : decode cX6_told 77 = .ok (.ireturn, 1) := by decide +kernel
theorem dX6_told_78 : decode cX6_told 78 = .ok (.aload_n 3, 1) := by decide +kernel
theorem dX6_told_79 : decode cX6_told 79 = .ok (.getfield 67, 3) := by decide +kernel
theorem dX6_told_82 : decode cX6_told 82 = .ok (.ireturn, 1) := by decide +kernel
theorem dX6_told_83 : decode cX6_told 83 = .ok (.aload_n 3, 1) := by decide +kernel
theorem dX6_told_84 : decode cX6_told 84 = .ok (.invokevirtual 123, 3) := by decide +kernel
theorem dX6_told_87 : decode cX6_told 87 = .ok (.ireturn, 1) := by decide +kernel
theorem dX6_told_88 : decode cX6_told 88 = .ok (.aload_n 3, 1) := by decide +kernel
theorem dX6_told_89 : decode cX6_told 89 = .ok (.invokevirtual 126, 3) := by decide +kernel
theorem dX6_told_92 : decode cX6_told 92 = .ok (.ireturn, 1) := by decide +kernel
set_option maxRecDepth 20000 in
theorem ggX6_mark_X6_isWorldNumber : GoodIn wsX6_mark wsX6_isWorldNumber := goodIn_r _ [5] (by decide +kernel) (by decide +kernel)
set_option maxRecDepth 20000 in
theorem gX6_mark_X6_isWorldNumber : GoodIn wsX6_mark (va_wsS RX6 52 yX6_isWorldNumber wsX6_isWorldNumber) := goodIn_app (goodIn_of _ (by decide +kernel)) ggX6_mark_X6_isWorldNumber
set_option maxRecDepth 20000 in
theorem ggX6_mark_X6_refused : GoodIn wsX6_mark wsX6_refused := goodIn_r _ [9, 10, 11, 19, 20, 21, 22, 23, 24, 25, 26, 27, 28, 29, 30, 31] (by decide +kernel) (by decide +kernel)
set_option maxRecDepth 20000 in
theorem gX6_mark_X6_refused : GoodIn wsX6_mark (wsV RX6 71 RX6 yX6_refused wsX6_refused) := goodIn_app (goodIn_of _ (by decide +kernel)) ggX6_mark_X6_refused
set_option maxRecDepth 20000 in
theorem ggX6_mark_J13_bitCount_95d88 : GoodIn wsX6_mark wsJ13_bitCount_95d88 := goodIn_r _ [15, 16, 17, 18] (by decide +kernel) (by decide +kernel)
set_option maxRecDepth 20000 in
theorem gX6_mark_J13_bitCount_95d88 : GoodIn wsX6_mark (va_wsS RX6 86 yJ13_bitCount_95d88 wsJ13_bitCount_95d88) := goodIn_app (goodIn_of _ (by decide +kernel)) ggX6_mark_J13_bitCount_95d88
theorem dX6_mark_0 : decode cX6_mark 0 = .ok (.iload_n 1, 1) := by decide +kernel
theorem dX6_mark_1 : decode cX6_mark 1 = .ok (.invokestatic 52, 3) := by decide +kernel
theorem dX6_mark_4 : decode cX6_mark 4 = .ok (.ifCond .eq 13, 3) := by decide +kernel
theorem dX6_mark_7 : decode cX6_mark 7 = .ok (.iload_n 2, 1) := by decide +kernel
theorem dX6_mark_8 : decode cX6_mark 8 = .ok (.iconst 1, 1) := by decide +kernel
theorem dX6_mark_9 : decode cX6_mark 9 = .ok (.if_icmp .lt 8, 3) := by decide +kernel
theorem dX6_mark_12 : decode cX6_mark 12 = .ok (.iload_n 2, 1) := by decide +kernel
theorem dX6_mark_13 : decode cX6_mark 13 = .ok (.iconst 3, 1) := by decide +kernel
theorem dX6_mark_14 : decode cX6_mark 14 = .ok (.if_icmp .le 5, 3) := by decide +kernel
theorem dX6_mark_17 : decode cX6_mark 17 = .ok (.iconst (-1), 1) := by decide +kernel
theorem dX6_mark_18 : decode cX6_mark 18 = .ok (.ireturn, 1) := by decide +kernel
theorem dX6_mark_19 : decode cX6_mark 19 = .ok (.aload_n 0, 1) := by decide +kernel
theorem dX6_mark_20 : decode cX6_mark 20 = .ok (.getfield 11, 3) := by decide +kernel
theorem dX6_mark_23 : decode cX6_mark 23 = .ok (.iload_n 1, 1) := by decide +kernel
theorem dX6_mark_24 : decode cX6_mark 24 = .ok (.aaload, 1) := by decide +kernel
theorem dX6_mark_25 : decode cX6_mark 25 = .ok (.astore_n 3, 1) := by decide +kernel
theorem dX6_mark_26 : decode cX6_mark 26 = .ok (.aload_n 3, 1) := by decide +kernel
theorem dX6_mark_27 : decode cX6_mark 27 = .ok (.getfield 63, 3) := by decide +kernel
theorem dX6_mark_30 : decode cX6_mark 30 = .ok (.ifCond .ne 9, 3) := by decide +kernel
theorem dX6_mark_33 : decode cX6_mark 33 = .ok (.aload_n 0, 1) := by decide +kernel
theorem dX6_mark_34 : decode cX6_mark 34 = .ok (.iconst 1, 1) := by decide +kernel
theorem dX6_mark_35 : decode cX6_mark 35 = .ok (.invokevirtual 71, 3) := by decide +kernel
theorem dX6_mark_38 : decode cX6_mark 38 = .ok (.ireturn, 1) := by decide +kernel
theorem dX6_mark_39 : decode cX6_mark 39 = .ok (.aload_n 3, 1) := by decide +kernel
theorem dX6_mark_40 : decode cX6_mark 40 = .ok (.getfield 75, 3) := by decide +kernel
theorem dX6_mark_43 : decode cX6_mark 43 = .ok (.iload_n 2, 1) := by decide +kernel
theorem dX6_mark_44 : decode cX6_mark 44 = .ok (.if_icmp .eq 9, 3) := by decide +kernel
theorem dX6_mark_47 : decode cX6_mark 47 = .ok (.aload_n 0, 1) := by decide +kernel
theorem dX6_mark_48 : decode cX6_mark 48 = .ok (.iconst 3, 1) := by decide +kernel
theorem dX6_mark_49 : decode cX6_mark 49 = .ok (.invokevirtual 71, 3) := by decide +kernel
theorem dX6_mark_52 : decode cX6_mark 52 = .ok (.ireturn, 1) := by decide +kernel
theorem dX6_mark_53 : decode cX6_mark 53 = .ok (.iload_n 2, 1) := by decide +kernel
theorem dX6_mark_54 : decode cX6_mark 54 = .ok (.iconst 3, 1) := by decide +kernel
theorem dX6_mark_55 : decode cX6_mark 55 = .ok (.if_icmp .ne 15, 3) := by decide +kernel
theorem dX6_mark_58 : decode cX6_mark 58 = .ok (.aload_n 3, 1) := by decide +kernel
theorem dX6_mark_59 : decode cX6_mark 59 = .ok (.getfield 152, 3) := by decide +kernel
theorem dX6_mark_62 : decode cX6_mark 62 = .ok (.iconst 0, 1) := by decide +kernel
theorem dX6_mark_63 : decode cX6_mark 63 = .ok (.laload, 1) := by decide +kernel
theorem dX6_mark_64 : decode cX6_mark 64 = .ok (.invokestatic 86, 3) := by decide +kernel
theorem dX6_mark_67 : decode cX6_mark 67 = .ok (.goto 7, 3) := by decide +kernel
theorem dX6_mark_70 : decode cX6_mark 70 = .ok (.aload_n 3, 1) := by decide +kernel
theorem dX6_mark_71 : decode cX6_mark 71 = .ok (.getfield 156, 3) := by decide +kernel
theorem dX6_mark_74 : decode cX6_mark 74 = .ok (.ireturn, 1) := by decide +kernel
set_option maxRecDepth 20000 in
theorem ggX6_points_X6_isWorldNumber : GoodIn wsX6_points wsX6_isWorldNumber := goodIn_r _ [5] (by decide +kernel) (by decide +kernel)
set_option maxRecDepth 20000 in
theorem gX6_points_X6_isWorldNumber : GoodIn wsX6_points (va_wsS RX6 52 yX6_isWorldNumber wsX6_isWorldNumber) := goodIn_app (goodIn_of _ (by decide +kernel)) ggX6_points_X6_isWorldNumber
set_option maxRecDepth 20000 in
theorem ggX6_points_X6_refused : GoodIn wsX6_points wsX6_refused := goodIn_r _ [9, 10, 11, 24, 25, 26, 27, 28, 29, 30, 31, 32, 33, 34, 35, 36] (by decide +kernel) (by decide +kernel)
set_option maxRecDepth 20000 in
theorem gX6_points_X6_refused : GoodIn wsX6_points (wsV RX6 71 RX6 yX6_refused wsX6_refused) := goodIn_app (goodIn_of _ (by decide +kernel)) ggX6_points_X6_refused
set_option maxRecDepth 20000 in
theorem ggX6_points_X6_askedSet : GoodIn wsX6_points wsX6_askedSet := goodIn_r _ [15, 16, 17, 18, 19, 20, 21, 22, 23, 24, 25, 26, 27, 28, 29, 30, 31, 32, 33, 34, 35, 36] (by decide +kernel) (by decide +kernel)
set_option maxRecDepth 20000 in
theorem gX6_points_X6_askedSet : GoodIn wsX6_points (wsV RX6 162 RX6 yX6_askedSet wsX6_askedSet) := goodIn_app (goodIn_of _ (by decide +kernel)) ggX6_points_X6_askedSet
theorem dX6_points_0 : decode cX6_points 0 = .ok (.iload_n 1, 1) := by decide +kernel
theorem dX6_points_1 : decode cX6_points 1 = .ok (.invokestatic 52, 3) := by decide +kernel
theorem dX6_points_4 : decode cX6_points 4 = .ok (.ifCond .ne 5, 3) := by decide +kernel
theorem dX6_points_7 : decode cX6_points 7 = .ok (.iconst (-1), 1) := by decide +kernel
theorem dX6_points_8 : decode cX6_points 8 = .ok (.ireturn, 1) := by decide +kernel
theorem dX6_points_9 : decode cX6_points 9 = .ok (.aload_n 0, 1) := by decide +kernel
theorem dX6_points_10 : decode cX6_points 10 = .ok (.getfield 11, 3) := by decide +kernel
theorem dX6_points_13 : decode cX6_points 13 = .ok (.iload_n 1, 1) := by decide +kernel
theorem dX6_points_14 : decode cX6_points 14 = .ok (.aaload, 1) := by decide +kernel
theorem dX6_points_15 : decode cX6_points 15 = .ok (.astore_n 3, 1) := by decide +kernel
theorem dX6_points_16 : decode cX6_points 16 = .ok (.aload_n 3, 1) := by decide +kernel
theorem dX6_points_17 : decode cX6_points 17 = .ok (.getfield 63, 3) := by decide +kernel
theorem dX6_points_20 : decode cX6_points 20 = .ok (.ifCond .ne 9, 3) := by decide +kernel
theorem dX6_points_23 : decode cX6_points 23 = .ok (.aload_n 0, 1) := by decide +kernel
theorem dX6_points_24 : decode cX6_points 24 = .ok (.iconst 1, 1) := by decide +kernel
theorem dX6_points_25 : decode cX6_points 25 = .ok (.invokevirtual 71, 3) := by decide +kernel
theorem dX6_points_28 : decode cX6_points 28 = .ok (.ireturn, 1) := by decide +kernel
theorem dX6_points_29 : decode cX6_points 29 = .ok (.iload_n 2, 1) := by decide +kernel
theorem dX6_points_30 : decode cX6_points 30 = .ok (.ifCond .lt 11, 3) := by decide +kernel
theorem dX6_points_33 : decode cX6_points 33 = .ok (.iload_n 2, 1) := by decide +kernel
theorem dX6_points_34 : decode cX6_points 34 = .ok (.aload_n 3, 1) := by decide +kernel
theorem dX6_points_35 : decode cX6_points 35 = .ok (.getfield 67, 3) := by decide +kernel
theorem dX6_points_38 : decode cX6_points 38 = .ok (.if_icmp .lt 9, 3) := by decide +kernel
theorem dX6_points_41 : decode cX6_points 41 = .ok (.aload_n 0, 1) := by decide +kernel
theorem dX6_points_42 : decode cX6_points 42 = .ok (.iconst 2, 1) := by decide +kernel
theorem dX6_points_43 : decode cX6_points 43 = .ok (.invokevirtual 71, 3) := by decide +kernel
theorem dX6_points_46 : decode cX6_points 46 = .ok (.ireturn, 1) := by decide +kernel
theorem dX6_points_47 : decode cX6_points 47 = .ok (.aload_n 0, 1) := by decide +kernel
theorem dX6_points_48 : decode cX6_points 48 = .ok (.aload_n 3, 1) := by decide +kernel
theorem dX6_points_49 : decode cX6_points 49 = .ok (.getfield 159, 3) := by decide +kernel
theorem dX6_points_52 : decode cX6_points 52 = .ok (.iload_n 2, 1) := by decide +kernel
theorem dX6_points_53 : decode cX6_points 53 = .ok (.laload, 1) := by decide +kernel
theorem dX6_points_54 : decode cX6_points 54 = .ok (.invokevirtual 162, 3) := by decide +kernel
theorem dX6_points_57 : decode cX6_points 57 = .ok (.ireturn, 1) := by decide +kernel
set_option maxRecDepth 20000 in
theorem ggX6_lines_X6_isWorldNumber : GoodIn wsX6_lines wsX6_isWorldNumber := goodIn_r _ [5] (by decide +kernel) (by decide +kernel)
set_option maxRecDepth 20000 in
theorem gX6_lines_X6_isWorldNumber : GoodIn wsX6_lines (va_wsS RX6 52 yX6_isWorldNumber wsX6_isWorldNumber) := goodIn_app (goodIn_of _ (by decide +kernel)) ggX6_lines_X6_isWorldNumber
set_option maxRecDepth 20000 in
theorem ggX6_lines_X6_refused : GoodIn wsX6_lines wsX6_refused := goodIn_r _ [9, 10, 11, 30, 31, 32, 33, 34, 35, 36, 37, 38, 39, 40, 41, 42] (by decide +kernel) (by decide +kernel)
set_option maxRecDepth 20000 in
theorem gX6_lines_X6_refused : GoodIn wsX6_lines (wsV RX6 71 RX6 yX6_refused wsX6_refused) := goodIn_app (goodIn_of _ (by decide +kernel)) ggX6_lines_X6_refused
set_option maxRecDepth 20000 in
theorem ggX6_lines_X5_hasPoint : GoodIn wsX6_lines wsX5_hasPoint := goodIn_r _ [16, 17, 43, 44, 45, 46, 47, 48, 49, 50] (by decide +kernel) (by decide +kernel)
set_option maxRecDepth 20000 in
theorem gX6_lines_X5_hasPoint : GoodIn wsX6_lines (wsV RX6 120 RX5 yX5_hasPoint wsX5_hasPoint) := goodIn_app (goodIn_of _ (by decide +kernel)) ggX6_lines_X5_hasPoint
set_option maxRecDepth 20000 in
theorem ggX6_lines_X6_askedSet : GoodIn wsX6_lines wsX6_askedSet := goodIn_r _ [21, 22, 23, 24, 25, 26, 27, 28, 29, 30, 31, 32, 33, 34, 35, 36, 37, 38, 39, 40, 41, 42] (by decide +kernel) (by decide +kernel)
set_option maxRecDepth 20000 in
theorem gX6_lines_X6_askedSet : GoodIn wsX6_lines (wsV RX6 162 RX6 yX6_askedSet wsX6_askedSet) := goodIn_app (goodIn_of _ (by decide +kernel)) ggX6_lines_X6_askedSet
theorem dX6_lines_0 : decode cX6_lines 0 = .ok (.iload_n 1, 1) := by decide +kernel
theorem dX6_lines_1 : decode cX6_lines 1 = .ok (.invokestatic 52, 3) := by decide +kernel
theorem dX6_lines_4 : decode cX6_lines 4 = .ok (.ifCond .ne 5, 3) := by decide +kernel
theorem dX6_lines_7 : decode cX6_lines 7 = .ok (.iconst (-1), 1) := by decide +kernel
theorem dX6_lines_8 : decode cX6_lines 8 = .ok (.ireturn, 1) := by decide +kernel
theorem dX6_lines_9 : decode cX6_lines 9 = .ok (.aload_n 0, 1) := by decide +kernel
theorem dX6_lines_10 : decode cX6_lines 10 = .ok (.getfield 11, 3) := by decide +kernel
theorem dX6_lines_13 : decode cX6_lines 13 = .ok (.iload_n 1, 1) := by decide +kernel
theorem dX6_lines_14 : decode cX6_lines 14 = .ok (.aaload, 1) := by decide +kernel
theorem dX6_lines_15 : decode cX6_lines 15 = .ok (.astore_n 3, 1) := by decide +kernel
theorem dX6_lines_16 : decode cX6_lines 16 = .ok (.aload_n 3, 1) := by decide +kernel
theorem dX6_lines_17 : decode cX6_lines 17 = .ok (.getfield 63, 3) := by decide +kernel
theorem dX6_lines_20 : decode cX6_lines 20 = .ok (.ifCond .ne 9, 3) := by decide +kernel
theorem dX6_lines_23 : decode cX6_lines 23 = .ok (.aload_n 0, 1) := by decide +kernel
theorem dX6_lines_24 : decode cX6_lines 24 = .ok (.iconst 1, 1) := by decide +kernel
theorem dX6_lines_25 : decode cX6_lines 25 = .ok (.invokevirtual 71, 3) := by decide +kernel
theorem dX6_lines_28 : decode cX6_lines 28 = .ok (.ireturn, 1) := by decide +kernel
theorem dX6_lines_29 : decode cX6_lines 29 = .ok (.aload_n 3, 1) := by decide +kernel
theorem dX6_lines_30 : decode cX6_lines 30 = .ok (.iload_n 2, 1) := by decide +kernel
theorem dX6_lines_31 : decode cX6_lines 31 = .ok (.invokevirtual 120, 3) := by decide +kernel
theorem dX6_lines_34 : decode cX6_lines 34 = .ok (.ifCond .ne 9, 3) := by decide +kernel
theorem dX6_lines_37 : decode cX6_lines 37 = .ok (.aload_n 0, 1) := by decide +kernel
theorem dX6_lines_38 : decode cX6_lines 38 = .ok (.iconst 2, 1) := by decide +kernel
theorem dX6_lines_39 : decode cX6_lines 39 = .ok (.invokevirtual 71, 3) := by decide +kernel
theorem dX6_lines_42 : decode cX6_lines 42 = .ok (.ireturn, 1) := by decide +kernel
theorem dX6_lines_43 : decode cX6_lines 43 = .ok (.aload_n 0, 1) := by decide +kernel
theorem dX6_lines_44 : decode cX6_lines 44 = .ok (.aload_n 3, 1) := by decide +kernel
theorem dX6_lines_45 : decode cX6_lines 45 = .ok (.getfield 152, 3) := by decide +kernel
theorem dX6_lines_48 : decode cX6_lines 48 = .ok (.iload_n 2, 1) := by decide +kernel
theorem dX6_lines_49 : decode cX6_lines 49 = .ok (.laload, 1) := by decide +kernel
theorem dX6_lines_50 : decode cX6_lines 50 = .ok (.invokevirtual 162, 3) := by decide +kernel
theorem dX6_lines_53 : decode cX6_lines 53 = .ok (.ireturn, 1) := by decide +kernel
set_option maxRecDepth 20000 in
theorem ggX6_fault_X6_isWorldNumber : GoodIn wsX6_fault wsX6_isWorldNumber := goodIn_r _ [6] (by decide +kernel) (by decide +kernel)
set_option maxRecDepth 20000 in
theorem gX6_fault_X6_isWorldNumber : GoodIn wsX6_fault (va_wsS RX6 52 yX6_isWorldNumber wsX6_isWorldNumber) := goodIn_app (goodIn_of _ (by decide +kernel)) ggX6_fault_X6_isWorldNumber
set_option maxRecDepth 20000 in
theorem ggX6_fault_X6_refused : GoodIn wsX6_fault wsX6_refused := goodIn_r _ [10, 11, 12, 45, 46, 47, 48, 49, 50, 51, 52, 53, 54, 55, 56, 57] (by decide +kernel) (by decide +kernel)
set_option maxRecDepth 20000 in
theorem gX6_fault_X6_refused : GoodIn wsX6_fault (wsV RX6 71 RX6 yX6_refused wsX6_refused) := goodIn_app (goodIn_of _ (by decide +kernel)) ggX6_fault_X6_refused
set_option maxRecDepth 20000 in
theorem ggX6_fault_X0_firstOf : GoodIn wsX6_fault wsX0_firstOf := goodIn_r _ [16, 17, 18, 15, 19, 20, 21, 22, 23, 24, 25, 26, 27, 28, 29, 30, 31, 32, 33, 34, 35, 36, 37, 5, 38, 58, 59, 60, 61, 62, 63, 64, 65] (by decide +kernel) (by decide +kernel)
set_option maxRecDepth 20000 in
theorem gX6_fault_X0_firstOf : GoodIn wsX6_fault (va_wsS RX6 129 yX0_firstOf wsX0_firstOf) := goodIn_app (goodIn_of _ (by decide +kernel)) ggX6_fault_X0_firstOf
set_option maxRecDepth 20000 in
theorem ggX6_fault_X0_placeIn : GoodIn wsX6_fault wsX0_placeIn := goodIn_r _ [41] (by decide +kernel) (by decide +kernel)
set_option maxRecDepth 20000 in
theorem gX6_fault_X0_placeIn : GoodIn wsX6_fault (va_wsS RX6 165 yX0_placeIn wsX0_placeIn) := goodIn_app (goodIn_of _ (by decide +kernel)) ggX6_fault_X0_placeIn
set_option maxRecDepth 20000 in
theorem ggX6_fault_X0_sortOf : GoodIn wsX6_fault wsX0_sortOf := goodIn_r _ [44] (by decide +kernel) (by decide +kernel)
set_option maxRecDepth 20000 in
theorem gX6_fault_X0_sortOf : GoodIn wsX6_fault (va_wsS RX6 172 yX0_sortOf wsX0_sortOf) := goodIn_app (goodIn_of _ (by decide +kernel)) ggX6_fault_X0_sortOf
theorem dX6_fault_0 : decode cX6_fault 0 = .ok (.iload_n 1, 1) := by decide +kernel
theorem dX6_fault_1 : decode cX6_fault 1 = .ok (.invokestatic 52, 3) := by decide +kernel
theorem dX6_fault_4 : decode cX6_fault 4 = .ok (.ifCond .ne 5, 3) := by decide +kernel
theorem dX6_fault_7 : decode cX6_fault 7 = .ok (.iconst (-1), 1) := by decide +kernel
theorem dX6_fault_8 : decode cX6_fault 8 = .ok (.ireturn, 1) := by decide +kernel
theorem dX6_fault_9 : decode cX6_fault 9 = .ok (.aload_n 0, 1) := by decide +kernel
theorem dX6_fault_10 : decode cX6_fault 10 = .ok (.getfield 11, 3) := by decide +kernel
theorem dX6_fault_13 : decode cX6_fault 13 = .ok (.iload_n 1, 1) := by decide +kernel
theorem dX6_fault_14 : decode cX6_fault 14 = .ok (.aaload, 1) := by decide +kernel
theorem dX6_fault_15 : decode cX6_fault 15 = .ok (.getfield 63, 3) := by decide +kernel
theorem dX6_fault_18 : decode cX6_fault 18 = .ok (.ifCond .ne 9, 3) := by decide +kernel
theorem dX6_fault_21 : decode cX6_fault 21 = .ok (.aload_n 0, 1) := by decide +kernel
theorem dX6_fault_22 : decode cX6_fault 22 = .ok (.iconst 1, 1) := by decide +kernel
theorem dX6_fault_23 : decode cX6_fault 23 = .ok (.invokevirtual 71, 3) := by decide +kernel
theorem dX6_fault_26 : decode cX6_fault 26 = .ok (.ireturn, 1) := by decide +kernel
theorem dX6_fault_27 : decode cX6_fault 27 = .ok (.aload_n 0, 1) := by decide +kernel
theorem dX6_fault_28 : decode cX6_fault 28 = .ok (.getfield 11, 3) := by decide +kernel
theorem dX6_fault_31 : decode cX6_fault 31 = .ok (.iload_n 1, 1) := by decide +kernel
theorem dX6_fault_32 : decode cX6_fault 32 = .ok (.aaload, 1) := by decide +kernel
theorem dX6_fault_33 : decode cX6_fault 33 = .ok (.invokestatic 129, 3) := by decide +kernel
theorem dX6_fault_36 : decode cX6_fault 36 = .ok (.istore_n 2, 1) := by decide +kernel
theorem dX6_fault_37 : decode cX6_fault 37 = .ok (.iload_n 2, 1) := by decide +kernel
theorem dX6_fault_38 : decode cX6_fault 38 = .ok (.ifCond .ne 5, 3) := by decide +kernel
theorem dX6_fault_41 : decode cX6_fault 41 = .ok (.iconst 0, 1) := by decide +kernel
theorem dX6_fault_42 : decode cX6_fault 42 = .ok (.ireturn, 1) := by decide +kernel
theorem dX6_fault_43 : decode cX6_fault 43 = .ok (.aload_n 0, 1) := by decide +kernel
theorem dX6_fault_44 : decode cX6_fault 44 = .ok (.iload_n 2, 1) := by decide +kernel
theorem dX6_fault_45 : decode cX6_fault 45 = .ok (.invokestatic 165, 3) := by decide +kernel
theorem dX6_fault_48 : decode cX6_fault 48 = .ok (.i2l, 1) := by decide +kernel
theorem dX6_fault_49 : decode cX6_fault 49 = .ok (.putfield 168, 3) := by decide +kernel
theorem dX6_fault_52 : decode cX6_fault 52 = .ok (.iload_n 2, 1) := by decide +kernel
theorem dX6_fault_53 : decode cX6_fault 53 = .ok (.invokestatic 172, 3) := by decide +kernel
theorem dX6_fault_56 : decode cX6_fault 56 = .ok (.ireturn, 1) := by decide +kernel
set_option maxRecDepth 20000 in
theorem ggX6_mean_X6_isWorldNumber : GoodIn wsX6_mean wsX6_isWorldNumber := goodIn_r _ [5] (by decide +kernel) (by decide +kernel)
set_option maxRecDepth 20000 in
theorem gX6_mean_X6_isWorldNumber : GoodIn wsX6_mean (va_wsS RX6 52 yX6_isWorldNumber wsX6_isWorldNumber) := goodIn_app (goodIn_of _ (by decide +kernel)) ggX6_mean_X6_isWorldNumber
set_option maxRecDepth 20000 in
theorem ggX6_mean_X6_refused : GoodIn wsX6_mean wsX6_refused := goodIn_r _ [9, 10, 11, 19, 20, 21, 22, 23, 24, 25, 26, 27, 28, 29, 30, 31] (by decide +kernel) (by decide +kernel)
set_option maxRecDepth 20000 in
theorem gX6_mean_X6_refused : GoodIn wsX6_mean (wsV RX6 71 RX6 yX6_refused wsX6_refused) := goodIn_app (goodIn_of _ (by decide +kernel)) ggX6_mean_X6_refused
set_option maxRecDepth 20000 in
theorem ggX6_mean_J13_bitCount_95d88 : GoodIn wsX6_mean wsJ13_bitCount_95d88 := goodIn_r _ [15, 16, 17, 18] (by decide +kernel) (by decide +kernel)
set_option maxRecDepth 20000 in
theorem gX6_mean_J13_bitCount_95d88 : GoodIn wsX6_mean (va_wsS RX6 86 yJ13_bitCount_95d88 wsJ13_bitCount_95d88) := goodIn_app (goodIn_of _ (by decide +kernel)) ggX6_mean_J13_bitCount_95d88
theorem dX6_mean_0 : decode cX6_mean 0 = .ok (.iload_n 1, 1) := by decide +kernel
theorem dX6_mean_1 : decode cX6_mean 1 = .ok (.invokestatic 52, 3) := by decide +kernel
theorem dX6_mean_4 : decode cX6_mean 4 = .ok (.ifCond .ne 5, 3) := by decide +kernel
theorem dX6_mean_7 : decode cX6_mean 7 = .ok (.iconst (-1), 1) := by decide +kernel
theorem dX6_mean_8 : decode cX6_mean 8 = .ok (.ireturn, 1) := by decide +kernel
theorem dX6_mean_9 : decode cX6_mean 9 = .ok (.aload_n 0, 1) := by decide +kernel
theorem dX6_mean_10 : decode cX6_mean 10 = .ok (.getfield 11, 3) := by decide +kernel
theorem dX6_mean_13 : decode cX6_mean 13 = .ok (.iload_n 1, 1) := by decide +kernel
theorem dX6_mean_14 : decode cX6_mean 14 = .ok (.aaload, 1) := by decide +kernel
theorem dX6_mean_15 : decode cX6_mean 15 = .ok (.astore_n 2, 1) := by decide +kernel
theorem dX6_mean_16 : decode cX6_mean 16 = .ok (.aload_n 2, 1) := by decide +kernel
theorem dX6_mean_17 : decode cX6_mean 17 = .ok (.getfield 63, 3) := by decide +kernel
theorem dX6_mean_20 : decode cX6_mean 20 = .ok (.ifCond .ne 9, 3) := by decide +kernel
theorem dX6_mean_23 : decode cX6_mean 23 = .ok (.aload_n 0, 1) := by decide +kernel
theorem dX6_mean_24 : decode cX6_mean 24 = .ok (.iconst 1, 1) := by decide +kernel
theorem dX6_mean_25 : decode cX6_mean 25 = .ok (.invokevirtual 71, 3) := by decide +kernel
theorem dX6_mean_28 : decode cX6_mean 28 = .ok (.ireturn, 1) := by decide +kernel
theorem dX6_mean_29 : decode cX6_mean 29 = .ok (.aload_n 2, 1) := by decide +kernel
theorem dX6_mean_30 : decode cX6_mean 30 = .ok (.getfield 67, 3) := by decide +kernel
theorem dX6_mean_33 : decode cX6_mean 33 = .ok (.ifCond .ne 9, 3) := by decide +kernel
theorem dX6_mean_36 : decode cX6_mean 36 = .ok (.aload_n 0, 1) := by decide +kernel
theorem dX6_mean_37 : decode cX6_mean 37 = .ok (.iconst 4, 1) := by decide +kernel
theorem dX6_mean_38 : decode cX6_mean 38 = .ok (.invokevirtual 71, 3) := by decide +kernel
theorem dX6_mean_41 : decode cX6_mean 41 = .ok (.ireturn, 1) := by decide +kernel
theorem dX6_mean_42 : decode cX6_mean 42 = .ok (.iconst 0, 1) := by decide +kernel
theorem dX6_mean_43 : decode cX6_mean 43 = .ok (.istore_n 3, 1) := by decide +kernel
theorem dX6_mean_44 : decode cX6_mean 44 = .ok (.iconst 0, 1) := by decide +kernel
theorem dX6_mean_45 : decode cX6_mean 45 = .ok (.istore 4, 2) := by decide +kernel
theorem dX6_mean_47 : decode cX6_mean 47 = .ok (.iload 4, 2) := by decide +kernel
theorem dX6_mean_49 : decode cX6_mean 49 = .ok (.aload_n 2, 1) := by decide +kernel
theorem dX6_mean_50 : decode cX6_mean 50 = .ok (.getfield 67, 3) := by decide +kernel
theorem dX6_mean_53 : decode cX6_mean 53 = .ok (.if_icmp .ge 22, 3) := by decide +kernel
theorem dX6_mean_56 : decode cX6_mean 56 = .ok (.iload_n 3, 1) := by decide +kernel
theorem dX6_mean_57 : decode cX6_mean 57 = .ok (.aload_n 2, 1) := by decide +kernel
theorem dX6_mean_58 : decode cX6_mean 58 = .ok (.getfield 159, 3) := by decide +kernel
theorem dX6_mean_61 : decode cX6_mean 61 = .ok (.iload 4, 2) := by decide +kernel
theorem dX6_mean_63 : decode cX6_mean 63 = .ok (.laload, 1) := by decide +kernel
theorem dX6_mean_64 : decode cX6_mean 64 = .ok (.invokestatic 86, 3) := by decide +kernel
theorem dX6_mean_67 : decode cX6_mean 67 = .ok (.iadd, 1) := by decide +kernel
theorem dX6_mean_68 : decode cX6_mean 68 = .ok (.istore_n 3, 1) := by decide +kernel
theorem dX6_mean_69 : decode cX6_mean 69 = .ok (.iinc 4 1, 3) := by decide +kernel
theorem dX6_mean_72 : decode cX6_mean 72 = .ok (.goto (-25), 3) := by decide +kernel
theorem dX6_mean_75 : decode cX6_mean 75 = .ok (.iload_n 3, 1) := by decide +kernel
theorem dX6_mean_76 : decode cX6_mean 76 = .ok (.aload_n 2, 1) := by decide +kernel
theorem dX6_mean_77 : decode cX6_mean 77 = .ok (.getfield 67, 3) := by decide +kernel
theorem dX6_mean_80 : decode cX6_mean 80 = .ok (.idiv, 1) := by decide +kernel
theorem dX6_mean_81 : decode cX6_mean 81 = .ok (.ireturn, 1) := by decide +kernel
set_option maxRecDepth 20000 in
theorem ggX6_perp_X6_isWorldNumber : GoodIn wsX6_perp wsX6_isWorldNumber := goodIn_r _ [5] (by decide +kernel) (by decide +kernel)
set_option maxRecDepth 20000 in
theorem gX6_perp_X6_isWorldNumber : GoodIn wsX6_perp (va_wsS RX6 52 yX6_isWorldNumber wsX6_isWorldNumber) := goodIn_app (goodIn_of _ (by decide +kernel)) ggX6_perp_X6_isWorldNumber
set_option maxRecDepth 20000 in
theorem ggX6_perp_X6_refused : GoodIn wsX6_perp wsX6_refused := goodIn_r _ [9, 10, 11, 40, 41, 42, 43, 44, 45, 46, 47, 48, 49, 50, 51, 52] (by decide +kernel) (by decide +kernel)
set_option maxRecDepth 20000 in
theorem gX6_perp_X6_refused : GoodIn wsX6_perp (wsV RX6 71 RX6 yX6_refused wsX6_refused) := goodIn_app (goodIn_of _ (by decide +kernel)) ggX6_perp_X6_refused
set_option maxRecDepth 20000 in
theorem ggX6_perp_X5_hasAll : GoodIn wsX6_perp wsX5_hasAll := goodIn_r _ [16, 17, 18, 19, 4, 20, 53, 54, 55, 56, 57, 58, 59, 60] (by decide +kernel) (by decide +kernel)
set_option maxRecDepth 20000 in
theorem gX6_perp_X5_hasAll : GoodIn wsX6_perp (wsV RX6 142 RX5 yX5_hasAll wsX5_hasAll) := goodIn_app (goodIn_of _ (by decide +kernel)) ggX6_perp_X5_hasAll
set_option maxRecDepth 20000 in
theorem ggX6_perp_X5_nearToAll : GoodIn wsX6_perp wsX5_nearToAll := goodIn_r _ [24, 17, 25, 19, 4, 20, 26, 27, 53, 54, 55, 56, 57, 58, 59, 60] (by decide +kernel) (by decide +kernel)
set_option maxRecDepth 20000 in
theorem gX6_perp_X5_nearToAll : GoodIn wsX6_perp (wsV RX6 175 RX5 yX5_nearToAll wsX5_nearToAll) := goodIn_app (goodIn_of _ (by decide +kernel)) ggX6_perp_X5_nearToAll
set_option maxRecDepth 20000 in
theorem ggX6_perp_X6_askedSet : GoodIn wsX6_perp wsX6_askedSet := goodIn_r _ [31, 32, 33, 34, 35, 36, 37, 38, 39, 40, 41, 42, 43, 44, 45, 46, 47, 48, 49, 50, 51, 52] (by decide +kernel) (by decide +kernel)
set_option maxRecDepth 20000 in
theorem gX6_perp_X6_askedSet : GoodIn wsX6_perp (wsV RX6 162 RX6 yX6_askedSet wsX6_askedSet) := goodIn_app (goodIn_of _ (by decide +kernel)) ggX6_perp_X6_askedSet
theorem dX6_perp_0 : decode cX6_perp 0 = .ok (.iload_n 1, 1) := by decide +kernel
theorem dX6_perp_1 : decode cX6_perp 1 = .ok (.invokestatic 52, 3) := by decide +kernel
theorem dX6_perp_4 : decode cX6_perp 4 = .ok (.ifCond .ne 5, 3) := by decide +kernel
theorem dX6_perp_7 : decode cX6_perp 7 = .ok (.iconst (-1), 1) := by decide +kernel
theorem dX6_perp_8 : decode cX6_perp 8 = .ok (.ireturn, 1) := by decide +kernel
theorem dX6_perp_9 : decode cX6_perp 9 = .ok (.aload_n 0, 1) := by decide +kernel
theorem dX6_perp_10 : decode cX6_perp 10 = .ok (.getfield 11, 3) := by decide +kernel
theorem dX6_perp_13 : decode cX6_perp 13 = .ok (.iload_n 1, 1) := by decide +kernel
theorem dX6_perp_14 : decode cX6_perp 14 = .ok (.aaload, 1) := by decide +kernel
theorem dX6_perp_15 : decode cX6_perp 15 = .ok (.astore 4, 2) := by decide +kernel
theorem dX6_perp_17 : decode cX6_perp 17 = .ok (.aload 4, 2) := by decide +kernel
theorem dX6_perp_19 : decode cX6_perp 19 = .ok (.getfield 63, 3) := by decide +kernel
theorem dX6_perp_22 : decode cX6_perp 22 = .ok (.ifCond .ne 9, 3) := by decide +kernel
theorem dX6_perp_25 : decode cX6_perp 25 = .ok (.aload_n 0, 1) := by decide +kernel
theorem dX6_perp_26 : decode cX6_perp 26 = .ok (.iconst 1, 1) := by decide +kernel
theorem dX6_perp_27 : decode cX6_perp 27 = .ok (.invokevirtual 71, 3) := by decide +kernel
theorem dX6_perp_30 : decode cX6_perp 30 = .ok (.ireturn, 1) := by decide +kernel
theorem dX6_perp_31 : decode cX6_perp 31 = .ok (.aload 4, 2) := by decide +kernel
theorem dX6_perp_33 : decode cX6_perp 33 = .ok (.lload_n 2, 1) := by decide +kernel
theorem dX6_perp_34 : decode cX6_perp 34 = .ok (.invokevirtual 142, 3) := by decide +kernel
theorem dX6_perp_37 : decode cX6_perp 37 = .ok (.ifCond .ne 5, 3) := by decide +kernel
theorem dX6_perp_40 : decode cX6_perp 40 = .ok (.iconst (-1), 1) := by decide +kernel
theorem dX6_perp_41 : decode cX6_perp 41 = .ok (.ireturn, 1) := by decide +kernel
theorem dX6_perp_42 : decode cX6_perp 42 = .ok (.aload_n 0, 1) := by decide +kernel
theorem dX6_perp_43 : decode cX6_perp 43 = .ok (.aload 4, 2) := by decide +kernel
theorem dX6_perp_45 : decode cX6_perp 45 = .ok (.lload_n 2, 1) := by decide +kernel
theorem dX6_perp_46 : decode cX6_perp 46 = .ok (.invokevirtual 175, 3) := by decide +kernel
theorem dX6_perp_49 : decode cX6_perp 49 = .ok (.invokevirtual 162, 3) := by decide +kernel
theorem dX6_perp_52 : decode cX6_perp 52 = .ok (.ireturn, 1) := by decide +kernel
set_option maxRecDepth 20000 in
theorem ggX6_span_X6_isWorldNumber : GoodIn wsX6_span wsX6_isWorldNumber := goodIn_r _ [5] (by decide +kernel) (by decide +kernel)
set_option maxRecDepth 20000 in
theorem gX6_span_X6_isWorldNumber : GoodIn wsX6_span (va_wsS RX6 52 yX6_isWorldNumber wsX6_isWorldNumber) := goodIn_app (goodIn_of _ (by decide +kernel)) ggX6_span_X6_isWorldNumber
set_option maxRecDepth 20000 in
theorem ggX6_span_X6_refused : GoodIn wsX6_span wsX6_refused := goodIn_r _ [9, 10, 11, 47, 48, 49, 50, 51, 52, 53, 54, 55, 56, 57, 58, 59] (by decide +kernel) (by decide +kernel)
set_option maxRecDepth 20000 in
theorem gX6_span_X6_refused : GoodIn wsX6_span (wsV RX6 71 RX6 yX6_refused wsX6_refused) := goodIn_app (goodIn_of _ (by decide +kernel)) ggX6_span_X6_refused
set_option maxRecDepth 20000 in
theorem ggX6_span_X5_hasPoint : GoodIn wsX6_span wsX5_hasPoint := goodIn_r _ [16, 17, 60, 61, 62, 63, 64, 65, 66, 67] (by decide +kernel) (by decide +kernel)
set_option maxRecDepth 20000 in
theorem gX6_span_X5_hasPoint : GoodIn wsX6_span (wsV RX6 120 RX5 yX5_hasPoint wsX5_hasPoint) := goodIn_app (goodIn_of _ (by decide +kernel)) ggX6_span_X5_hasPoint
set_option maxRecDepth 20000 in
theorem ggX6_span_X5_areNear : GoodIn wsX6_span wsX5_areNear := goodIn_r _ [21, 22, 23, 4, 24, 60, 61, 62, 63, 64, 65, 66, 67] (by decide +kernel) (by decide +kernel)
set_option maxRecDepth 20000 in
theorem gX6_span_X5_areNear : GoodIn wsX6_span (wsV RX6 179 RX5 yX5_areNear wsX5_areNear) := goodIn_app (goodIn_of _ (by decide +kernel)) ggX6_span_X5_areNear
set_option maxRecDepth 20000 in
theorem ggX6_span_X5_spanSet : GoodIn wsX6_span wsX5_spanSet := goodIn_r _ [28, 22, 29, 30, 31, 15, 32, 17, 33, 4, 34, 23, 24, 60, 61, 62, 63, 64, 65, 66, 67] (by decide +kernel) (by decide +kernel)
set_option maxRecDepth 20000 in
theorem gX6_span_X5_spanSet : GoodIn wsX6_span (wsV RX6 183 RX5 yX5_spanSet wsX5_spanSet) := goodIn_app (goodIn_of _ (by decide +kernel)) ggX6_span_X5_spanSet
set_option maxRecDepth 20000 in
theorem ggX6_span_X6_askedSet : GoodIn wsX6_span wsX6_askedSet := goodIn_r _ [38, 39, 40, 41, 42, 43, 44, 45, 46, 47, 48, 49, 50, 51, 52, 53, 54, 55, 56, 57, 58, 59] (by decide +kernel) (by decide +kernel)
set_option maxRecDepth 20000 in
theorem gX6_span_X6_askedSet : GoodIn wsX6_span (wsV RX6 162 RX6 yX6_askedSet wsX6_askedSet) := goodIn_app (goodIn_of _ (by decide +kernel)) ggX6_span_X6_askedSet
theorem dX6_span_0 : decode cX6_span 0 = .ok (.iload_n 1, 1) := by decide +kernel
theorem dX6_span_1 : decode cX6_span 1 = .ok (.invokestatic 52, 3) := by decide +kernel
theorem dX6_span_4 : decode cX6_span 4 = .ok (.ifCond .ne 5, 3) := by decide +kernel
theorem dX6_span_7 : decode cX6_span 7 = .ok (.iconst (-1), 1) := by decide +kernel
theorem dX6_span_8 : decode cX6_span 8 = .ok (.ireturn, 1) := by decide +kernel
theorem dX6_span_9 : decode cX6_span 9 = .ok (.aload_n 0, 1) := by decide +kernel
theorem dX6_span_10 : decode cX6_span 10 = .ok (.getfield 11, 3) := by decide +kernel
theorem dX6_span_13 : decode cX6_span 13 = .ok (.iload_n 1, 1) := by decide +kernel
theorem dX6_span_14 : decode cX6_span 14 = .ok (.aaload, 1) := by decide +kernel
theorem dX6_span_15 : decode cX6_span 15 = .ok (.astore 4, 2) := by decide +kernel
theorem dX6_span_17 : decode cX6_span 17 = .ok (.aload 4, 2) := by decide +kernel
theorem dX6_span_19 : decode cX6_span 19 = .ok (.getfield 63, 3) := by decide +kernel
theorem dX6_span_22 : decode cX6_span 22 = .ok (.ifCond .ne 9, 3) := by decide +kernel
theorem dX6_span_25 : decode cX6_span 25 = .ok (.aload_n 0, 1) := by decide +kernel
theorem dX6_span_26 : decode cX6_span 26 = .ok (.iconst 1, 1) := by decide +kernel
theorem dX6_span_27 : decode cX6_span 27 = .ok (.invokevirtual 71, 3) := by decide +kernel
theorem dX6_span_30 : decode cX6_span 30 = .ok (.ireturn, 1) := by decide +kernel
theorem dX6_span_31 : decode cX6_span 31 = .ok (.aload 4, 2) := by decide +kernel
theorem dX6_span_33 : decode cX6_span 33 = .ok (.iload_n 2, 1) := by decide +kernel
theorem dX6_span_34 : decode cX6_span 34 = .ok (.invokevirtual 120, 3) := by decide +kernel
theorem dX6_span_37 : decode cX6_span 37 = .ok (.ifCond .eq 12, 3) := by decide +kernel
theorem dX6_span_40 : decode cX6_span 40 = .ok (.aload 4, 2) := by decide +kernel
theorem dX6_span_42 : decode cX6_span 42 = .ok (.iload_n 3, 1) := by decide +kernel
theorem dX6_span_43 : decode cX6_span 43 = .ok (.invokevirtual 120, 3) := by decide +kernel
theorem dX6_span_46 : decode cX6_span 46 = .ok (.ifCond .ne 9, 3) := by decide +kernel
theorem dX6_span_49 : decode cX6_span 49 = .ok (.aload_n 0, 1) := by decide +kernel
theorem dX6_span_50 : decode cX6_span 50 = .ok (.iconst 2, 1) := by decide +kernel
theorem dX6_span_51 : decode cX6_span 51 = .ok (.invokevirtual 71, 3) := by decide +kernel
theorem dX6_span_54 : decode cX6_span 54 = .ok (.ireturn, 1) := by decide +kernel
theorem dX6_span_55 : decode cX6_span 55 = .ok (.aload 4, 2) := by decide +kernel
theorem dX6_span_57 : decode cX6_span 57 = .ok (.iload_n 2, 1) := by decide +kernel
theorem dX6_span_58 : decode cX6_span 58 = .ok (.iload_n 3, 1) := by decide +kernel
theorem dX6_span_59 : decode cX6_span 59 = .ok (.invokevirtual 179, 3) := by decide +kernel
theorem dX6_span_62 : decode cX6_span 62 = .ok (.ifCond .eq 6, 3) := by decide +kernel
theorem dX6_span_65 : decode cX6_span 65 = .ok (.bipush (-4), 2) := by decide +kernel
theorem dX6_span_67 : decode cX6_span 67 = .ok (.ireturn, 1) := by decide +kernel
theorem dX6_span_68 : decode cX6_span 68 = .ok (.aload_n 0, 1) := by decide +kernel
theorem dX6_span_69 : decode cX6_span 69 = .ok (.aload 4, 2) := by decide +kernel
theorem dX6_span_71 : decode cX6_span 71 = .ok (.iload_n 2, 1) := by decide +kernel
theorem dX6_span_72 : decode cX6_span 72 = .ok (.iload_n 3, 1) := by decide +kernel
theorem dX6_span_73 : decode cX6_span 73 = .ok (.invokevirtual 183, 3) := by decide +kernel
theorem dX6_span_76 : decode cX6_span 76 = .ok (.invokevirtual 162, 3) := by decide +kernel
theorem dX6_span_79 : decode cX6_span 79 = .ok (.ireturn, 1) := by decide +kernel
set_option maxRecDepth 20000 in
theorem ggX6_regular_X6_isWorldNumber : GoodIn wsX6_regular wsX6_isWorldNumber := goodIn_r _ [5] (by decide +kernel) (by decide +kernel)
set_option maxRecDepth 20000 in
theorem gX6_regular_X6_isWorldNumber : GoodIn wsX6_regular (va_wsS RX6 52 yX6_isWorldNumber wsX6_isWorldNumber) := goodIn_app (goodIn_of _ (by decide +kernel)) ggX6_regular_X6_isWorldNumber
set_option maxRecDepth 20000 in
theorem ggX6_regular_X6_refused : GoodIn wsX6_regular wsX6_refused := goodIn_r _ [9, 10, 11, 53, 54, 55, 56, 57, 58, 59, 60, 61, 62, 63, 64, 65] (by decide +kernel) (by decide +kernel)
set_option maxRecDepth 20000 in
theorem gX6_regular_X6_refused : GoodIn wsX6_regular (wsV RX6 71 RX6 yX6_refused wsX6_refused) := goodIn_app (goodIn_of _ (by decide +kernel)) ggX6_regular_X6_refused
set_option maxRecDepth 20000 in
theorem ggX6_regular_X5_hasPoint : GoodIn wsX6_regular wsX5_hasPoint := goodIn_r _ [16, 17, 66, 67, 68, 69, 70, 71, 72, 73] (by decide +kernel) (by decide +kernel)
set_option maxRecDepth 20000 in
theorem gX6_regular_X5_hasPoint : GoodIn wsX6_regular (wsV RX6 120 RX5 yX5_hasPoint wsX5_hasPoint) := goodIn_app (goodIn_of _ (by decide +kernel)) ggX6_regular_X5_hasPoint
set_option maxRecDepth 20000 in
theorem ggX6_regular_X5_orderOfPoints : GoodIn wsX6_regular wsX5_orderOfPoints := goodIn_r _ [21, 22, 23, 17, 24, 25, 26, 27, 28, 29, 30, 66, 67, 68, 69, 70, 71, 72, 73] (by decide +kernel) (by decide +kernel)
set_option maxRecDepth 20000 in
theorem gX6_regular_X5_orderOfPoints : GoodIn wsX6_regular (wsV RX6 126 RX5 yX5_orderOfPoints wsX5_orderOfPoints) := goodIn_app (goodIn_of _ (by decide +kernel)) ggX6_regular_X5_orderOfPoints
set_option maxRecDepth 20000 in
theorem ggX6_regular_X5_isRegular : GoodIn wsX6_regular wsX5_isRegular := goodIn_r _ [34, 17, 35, 19, 20, 15, 21, 22, 23, 24, 25, 26, 27, 28, 29, 30, 36, 37, 38, 39, 40, 41, 4, 42, 43, 44, 45, 46, 47, 48, 49, 50, 51, 52, 66, 67, 68, 69, 70, 71, 72, 73] (by decide +kernel) (by decide +kernel)
set_option maxRecDepth 20000 in
theorem gX6_regular_X5_isRegular : GoodIn wsX6_regular (wsV RX6 135 RX5 yX5_isRegular wsX5_isRegular) := goodIn_app (goodIn_of _ (by decide +kernel)) ggX6_regular_X5_isRegular
theorem dX6_regular_0 : decode cX6_regular 0 = .ok (.iload_n 1, 1) := by decide +kernel
theorem dX6_regular_1 : decode cX6_regular 1 = .ok (.invokestatic 52, 3) := by decide +kernel
theorem dX6_regular_4 : decode cX6_regular 4 = .ok (.ifCond .ne 5, 3) := by decide +kernel
theorem dX6_regular_7 : decode cX6_regular 7 = .ok (.iconst (-1), 1) := by decide +kernel
theorem dX6_regular_8 : decode cX6_regular 8 = .ok (.ireturn, 1) := by decide +kernel
theorem dX6_regular_9 : decode cX6_regular 9 = .ok (.aload_n 0, 1) := by decide +kernel
theorem dX6_regular_10 : decode cX6_regular 10 = .ok (.getfield 11, 3) := by decide +kernel
theorem dX6_regular_13 : decode cX6_regular 13 = .ok (.iload_n 1, 1) := by decide +kernel
theorem dX6_regular_14 : decode cX6_regular 14 = .ok (.aaload, 1) := by decide +kernel
theorem dX6_regular_15 : decode cX6_regular 15 = .ok (.astore_n 3, 1) := by decide +kernel
theorem dX6_regular_16 : decode cX6_regular 16 = .ok (.aload_n 3, 1) := by decide +kernel
theorem dX6_regular_17 : decode cX6_regular 17 = .ok (.getfield 63, 3) := by decide +kernel
theorem dX6_regular_20 : decode cX6_regular 20 = .ok (.ifCond .ne 9, 3) := by decide +kernel
theorem dX6_regular_23 : decode cX6_regular 23 = .ok (.aload_n 0, 1) := by decide +kernel
theorem dX6_regular_24 : decode cX6_regular 24 = .ok (.iconst 1, 1) := by decide +kernel
theorem dX6_regular_25 : decode cX6_regular 25 = .ok (.invokevirtual 71, 3) := by decide +kernel
theorem dX6_regular_28 : decode cX6_regular 28 = .ok (.ireturn, 1) := by decide +kernel
theorem dX6_regular_29 : decode cX6_regular 29 = .ok (.aload_n 3, 1) := by decide +kernel
theorem dX6_regular_30 : decode cX6_regular 30 = .ok (.iload_n 2, 1) := by decide +kernel
theorem dX6_regular_31 : decode cX6_regular 31 = .ok (.invokevirtual 120, 3) := by decide +kernel
theorem dX6_regular_34 : decode cX6_regular 34 = .ok (.ifCond .ne 9, 3) := by decide +kernel
theorem dX6_regular_37 : decode cX6_regular 37 = .ok (.aload_n 0, 1) := by decide +kernel
theorem dX6_regular_38 : decode cX6_regular 38 = .ok (.iconst 2, 1) := by decide +kernel
theorem dX6_regular_39 : decode cX6_regular 39 = .ok (.invokevirtual 71, 3) := by decide +kernel
theorem dX6_regular_42 : decode cX6_regular 42 = .ok (.ireturn, 1) := by decide +kernel
theorem dX6_regular_43 : decode cX6_regular 43 = .ok (.aload_n 3, 1) := by decide +kernel
theorem dX6_regular_44 : decode cX6_regular 44 = .ok (.invokevirtual 126, 3) := by decide +kernel
theorem dX6_regular_47 : decode cX6_regular 47 = .ok (.bipush (-9), 2) := by decide +kernel
theorem dX6_regular_49 : decode cX6_regular 49 = .ok (.if_icmp .ne 6, 3) := by decide +kernel
theorem dX6_regular_52 : decode cX6_regular 52 = .ok (.bipush (-4), 2) := by decide +kernel
theorem dX6_regular_54 : decode cX6_regular 54 = .ok (.ireturn, 1) := by decide +kernel
theorem dX6_regular_55 : decode cX6_regular 55 = .ok (.aload_n 3, 1) := by decide +kernel
theorem dX6_regular_56 : decode cX6_regular 56 = .ok (.iload_n 2, 1) := by decide +kernel
theorem dX6_regular_57 : decode cX6_regular 57 = .ok (.invokevirtual 135, 3) := by decide +kernel
theorem dX6_regular_60 : decode cX6_regular 60 = .ok (.ifCond .eq 7, 3) := by decide +kernel
theorem dX6_regular_63 : decode cX6_regular 63 = .ok (.iconst 1, 1) := by decide +kernel
theorem dX6_regular_64 : decode cX6_regular 64 = .ok (.goto 4, 3) := by decide +kernel
theorem dX6_regular_67 : decode cX6_regular 67 = .ok (.iconst 0, 1) := by decide +kernel
theorem dX6_regular_68 : decode cX6_regular 68 = .ok (.ireturn, 1) := by decide +kernel
set_option maxRecDepth 20000 in
theorem ggX6_centres_X6_isWorldNumber : GoodIn wsX6_centres wsX6_isWorldNumber := goodIn_r _ [5] (by decide +kernel) (by decide +kernel)
set_option maxRecDepth 20000 in
theorem gX6_centres_X6_isWorldNumber : GoodIn wsX6_centres (va_wsS RX6 52 yX6_isWorldNumber wsX6_isWorldNumber) := goodIn_app (goodIn_of _ (by decide +kernel)) ggX6_centres_X6_isWorldNumber
set_option maxRecDepth 20000 in
theorem ggX6_centres_X6_refused : GoodIn wsX6_centres wsX6_refused := goodIn_r _ [9, 10, 11, 25, 26, 27, 28, 29, 30, 31, 32, 33, 34, 35, 36, 37] (by decide +kernel) (by decide +kernel)
set_option maxRecDepth 20000 in
theorem gX6_centres_X6_refused : GoodIn wsX6_centres (wsV RX6 71 RX6 yX6_refused wsX6_refused) := goodIn_app (goodIn_of _ (by decide +kernel)) ggX6_centres_X6_refused
set_option maxRecDepth 20000 in
theorem ggX6_centres_X5_hasPoint : GoodIn wsX6_centres wsX5_hasPoint := goodIn_r _ [16, 17, 38, 39, 40, 41, 42, 43, 44, 45] (by decide +kernel) (by decide +kernel)
set_option maxRecDepth 20000 in
theorem gX6_centres_X5_hasPoint : GoodIn wsX6_centres (wsV RX6 120 RX5 yX5_hasPoint wsX5_hasPoint) := goodIn_app (goodIn_of _ (by decide +kernel)) ggX6_centres_X5_hasPoint
set_option maxRecDepth 20000 in
theorem ggX6_centres_J13_bitCount_95d88 : GoodIn wsX6_centres wsJ13_bitCount_95d88 := goodIn_r _ [21, 22, 23, 24] (by decide +kernel) (by decide +kernel)
set_option maxRecDepth 20000 in
theorem gX6_centres_J13_bitCount_95d88 : GoodIn wsX6_centres (va_wsS RX6 86 yJ13_bitCount_95d88 wsJ13_bitCount_95d88) := goodIn_app (goodIn_of _ (by decide +kernel)) ggX6_centres_J13_bitCount_95d88
theorem dX6_centres_0 : decode cX6_centres 0 = .ok (.iload_n 1, 1) := by decide +kernel
theorem dX6_centres_1 : decode cX6_centres 1 = .ok (.invokestatic 52, 3) := by decide +kernel
theorem dX6_centres_4 : decode cX6_centres 4 = .ok (.ifCond .ne 5, 3) := by decide +kernel
theorem dX6_centres_7 : decode cX6_centres 7 = .ok (.iconst (-1), 1) := by decide +kernel
theorem dX6_centres_8 : decode cX6_centres 8 = .ok (.ireturn, 1) := by decide +kernel
theorem dX6_centres_9 : decode cX6_centres 9 = .ok (.aload_n 0, 1) := by decide +kernel
theorem dX6_centres_10 : decode cX6_centres 10 = .ok (.getfield 11, 3) := by decide +kernel
theorem dX6_centres_13 : decode cX6_centres 13 = .ok (.iload_n 1, 1) := by decide +kernel
theorem dX6_centres_14 : decode cX6_centres 14 = .ok (.aaload, 1) := by decide +kernel
theorem dX6_centres_15 : decode cX6_centres 15 = .ok (.astore 5, 2) := by decide +kernel
theorem dX6_centres_17 : decode cX6_centres 17 = .ok (.aload 5, 2) := by decide +kernel
theorem dX6_centres_19 : decode cX6_centres 19 = .ok (.getfield 63, 3) := by decide +kernel
theorem dX6_centres_22 : decode cX6_centres 22 = .ok (.ifCond .ne 9, 3) := by decide +kernel
theorem dX6_centres_25 : decode cX6_centres 25 = .ok (.aload_n 0, 1) := by decide +kernel
theorem dX6_centres_26 : decode cX6_centres 26 = .ok (.iconst 1, 1) := by decide +kernel
theorem dX6_centres_27 : decode cX6_centres 27 = .ok (.invokevirtual 71, 3) := by decide +kernel
theorem dX6_centres_30 : decode cX6_centres 30 = .ok (.ireturn, 1) := by decide +kernel
theorem dX6_centres_31 : decode cX6_centres 31 = .ok (.aload 5, 2) := by decide +kernel
theorem dX6_centres_33 : decode cX6_centres 33 = .ok (.iload_n 2, 1) := by decide +kernel
theorem dX6_centres_34 : decode cX6_centres 34 = .ok (.invokevirtual 120, 3) := by decide +kernel
theorem dX6_centres_37 : decode cX6_centres 37 = .ok (.ifCond .eq 22, 3) := by decide +kernel
theorem dX6_centres_40 : decode cX6_centres 40 = .ok (.aload 5, 2) := by decide +kernel
theorem dX6_centres_42 : decode cX6_centres 42 = .ok (.iload_n 3, 1) := by decide +kernel
theorem dX6_centres_43 : decode cX6_centres 43 = .ok (.invokevirtual 120, 3) := by decide +kernel
theorem dX6_centres_46 : decode cX6_centres 46 = .ok (.ifCond .eq 13, 3) := by decide +kernel
theorem dX6_centres_49 : decode cX6_centres 49 = .ok (.aload 5, 2) := by decide +kernel
theorem dX6_centres_51 : decode cX6_centres 51 = .ok (.iload 4, 2) := by decide +kernel
theorem dX6_centres_53 : decode cX6_centres 53 = .ok (.invokevirtual 120, 3) := by decide +kernel
theorem dX6_centres_56 : decode cX6_centres 56 = .ok (.ifCond .ne 9, 3) := by decide +kernel
theorem dX6_centres_59 : decode cX6_centres 59 = .ok (.aload_n 0, 1) := by decide +kernel
theorem dX6_centres_60 : decode cX6_centres 60 = .ok (.iconst 2, 1) := by decide +kernel
theorem dX6_centres_61 : decode cX6_centres 61 = .ok (.invokevirtual 71, 3) := by decide +kernel
theorem dX6_centres_64 : decode cX6_centres 64 = .ok (.ireturn, 1) := by decide +kernel
theorem dX6_centres_65 : decode cX6_centres 65 = .ok (.aload 5, 2) := by decide +kernel
theorem dX6_centres_67 : decode cX6_centres 67 = .ok (.getfield 187, 3) := by decide +kernel
theorem dX6_centres_70 : decode cX6_centres 70 = .ok (.iload_n 2, 1) := by decide +kernel
theorem dX6_centres_71 : decode cX6_centres 71 = .ok (.laload, 1) := by decide +kernel
theorem dX6_centres_72 : decode cX6_centres 72 = .ok (.aload 5, 2) := by decide +kernel
theorem dX6_centres_74 : decode cX6_centres 74 = .ok (.getfield 187, 3) := by decide +kernel
theorem dX6_centres_77 : decode cX6_centres 77 = .ok (.iload_n 3, 1) := by decide +kernel
theorem dX6_centres_78 : decode cX6_centres 78 = .ok (.laload, 1) := by decide +kernel
theorem dX6_centres_79 : decode cX6_centres 79 = .ok (.land, 1) := by decide +kernel
theorem dX6_centres_80 : decode cX6_centres 80 = .ok (.aload 5, 2) := by decide +kernel
theorem dX6_centres_82 : decode cX6_centres 82 = .ok (.getfield 187, 3) := by decide +kernel
theorem dX6_centres_85 : decode cX6_centres 85 = .ok (.iload 4, 2) := by decide +kernel
theorem dX6_centres_87 : decode cX6_centres 87 = .ok (.laload, 1) := by decide +kernel
theorem dX6_centres_88 : decode cX6_centres 88 = .ok (.land, 1) := by decide +kernel
theorem dX6_centres_89 : decode cX6_centres 89 = .ok (.invokestatic 86, 3) := by decide +kernel
theorem dX6_centres_92 : decode cX6_centres 92 = .ok (.ireturn, 1) := by decide +kernel
set_option maxRecDepth 20000 in
theorem ggX6_ovoid_X6_isWorldNumber : GoodIn wsX6_ovoid wsX6_isWorldNumber := goodIn_r _ [6] (by decide +kernel) (by decide +kernel)
set_option maxRecDepth 20000 in
theorem gX6_ovoid_X6_isWorldNumber : GoodIn wsX6_ovoid (va_wsS RX6 52 yX6_isWorldNumber wsX6_isWorldNumber) := goodIn_app (goodIn_of _ (by decide +kernel)) ggX6_ovoid_X6_isWorldNumber
set_option maxRecDepth 20000 in
theorem ggX6_ovoid_X6_isNumberOfTries : GoodIn wsX6_ovoid wsX6_isNumberOfTries := goodIn_r _ [9, 10] (by decide +kernel) (by decide +kernel)
set_option maxRecDepth 20000 in
theorem gX6_ovoid_X6_isNumberOfTries : GoodIn wsX6_ovoid (va_wsS RX6 190 yX6_isNumberOfTries wsX6_isNumberOfTries) := goodIn_app (goodIn_of _ (by decide +kernel)) ggX6_ovoid_X6_isNumberOfTries
set_option maxRecDepth 20000 in
theorem ggX6_ovoid_X6_refused : GoodIn wsX6_ovoid wsX6_refused := goodIn_r _ [14, 15, 16, 64, 65, 66, 67, 68, 69, 70, 71, 72, 73, 74, 75, 76] (by decide +kernel) (by decide +kernel)
set_option maxRecDepth 20000 in
theorem gX6_ovoid_X6_refused : GoodIn wsX6_ovoid (wsV RX6 71 RX6 yX6_refused wsX6_refused) := goodIn_app (goodIn_of _ (by decide +kernel)) ggX6_ovoid_X6_refused
set_option maxRecDepth 20000 in
theorem ggX6_ovoid_X4_seek : GoodIn wsX6_ovoid wsX4_seek := goodIn_r _ [21, 22, 23, 24, 25, 26, 27, 28, 29, 30, 31, 5, 32, 33, 34, 35, 20, 36, 37, 38, 39, 40, 41, 42, 43, 44, 45, 46, 47, 48, 49, 50, 51, 52, 53, 85, 86, 87, 88, 89, 90, 91, 92, 93] (by decide +kernel) (by decide +kernel)
set_option maxRecDepth 20000 in
theorem gX6_ovoid_X4_seek : GoodIn wsX6_ovoid (wsV RX6 193 RX4 yX4_seek wsX4_seek) := goodIn_app (goodIn_of _ (by decide +kernel)) ggX6_ovoid_X4_seek
set_option maxRecDepth 20000 in
theorem ggX6_ovoid_X6_firstFound : GoodIn wsX6_ovoid wsX6_firstFound := goodIn_r _ [57, 2, 58, 59, 60, 61, 5, 62, 63, 41, 42, 43, 44, 45, 46, 47, 64, 65, 66, 67, 68, 69, 70, 71, 72, 73, 74, 75, 76, 85, 86, 87, 88, 89, 90, 91, 92, 93] (by decide +kernel) (by decide +kernel)
set_option maxRecDepth 20000 in
theorem gX6_ovoid_X6_firstFound : GoodIn wsX6_ovoid (wsV RX6 197 RX6 yX6_firstFound wsX6_firstFound) := goodIn_app (goodIn_of _ (by decide +kernel)) ggX6_ovoid_X6_firstFound
theorem dX6_ovoid_0 : decode cX6_ovoid 0 = .ok (.iload_n 1, 1) := by decide +kernel
theorem dX6_ovoid_1 : decode cX6_ovoid 1 = .ok (.invokestatic 52, 3) := by decide +kernel
theorem dX6_ovoid_4 : decode cX6_ovoid 4 = .ok (.ifCond .eq 10, 3) := by decide +kernel
theorem dX6_ovoid_7 : decode cX6_ovoid 7 = .ok (.iload_n 2, 1) := by decide +kernel
theorem dX6_ovoid_8 : decode cX6_ovoid 8 = .ok (.invokestatic 190, 3) := by decide +kernel
theorem dX6_ovoid_11 : decode cX6_ovoid 11 = .ok (.ifCond .ne 5, 3) := by decide +kernel
theorem dX6_ovoid_14 : decode cX6_ovoid 14 = .ok (.iconst (-1), 1) := by decide +kernel
theorem dX6_ovoid_15 : decode cX6_ovoid 15 = .ok (.ireturn, 1) := by decide +kernel
theorem dX6_ovoid_16 : decode cX6_ovoid 16 = .ok (.aload_n 0, 1) := by decide +kernel
theorem dX6_ovoid_17 : decode cX6_ovoid 17 = .ok (.getfield 11, 3) := by decide +kernel
theorem dX6_ovoid_20 : decode cX6_ovoid 20 = .ok (.iload_n 1, 1) := by decide +kernel
theorem dX6_ovoid_21 : decode cX6_ovoid 21 = .ok (.aaload, 1) := by decide +kernel
theorem dX6_ovoid_22 : decode cX6_ovoid 22 = .ok (.astore_n 3, 1) := by decide +kernel
theorem dX6_ovoid_23 : decode cX6_ovoid 23 = .ok (.aload_n 3, 1) := by decide +kernel
theorem dX6_ovoid_24 : decode cX6_ovoid 24 = .ok (.getfield 63, 3) := by decide +kernel
theorem dX6_ovoid_27 : decode cX6_ovoid 27 = .ok (.ifCond .ne 9, 3) := by decide +kernel
theorem dX6_ovoid_30 : decode cX6_ovoid 30 = .ok (.aload_n 0, 1) := by decide +kernel
theorem dX6_ovoid_31 : decode cX6_ovoid 31 = .ok (.iconst 1, 1) := by decide +kernel
theorem dX6_ovoid_32 : decode cX6_ovoid 32 = .ok (.invokevirtual 71, 3) := by decide +kernel
theorem dX6_ovoid_35 : decode cX6_ovoid 35 = .ok (.ireturn, 1) := by decide +kernel
theorem dX6_ovoid_36 : decode cX6_ovoid 36 = .ok (.aload_n 0, 1) := by decide +kernel
theorem dX6_ovoid_37 : decode cX6_ovoid 37 = .ok (.getfield 36, 3) := by decide +kernel
theorem dX6_ovoid_40 : decode cX6_ovoid 40 = .ok (.aload_n 3, 1) := by decide +kernel
theorem dX6_ovoid_41 : decode cX6_ovoid 41 = .ok (.getfield 67, 3) := by decide +kernel
theorem dX6_ovoid_44 : decode cX6_ovoid 44 = .ok (.aload_n 3, 1) := by decide +kernel
theorem dX6_ovoid_45 : decode cX6_ovoid 45 = .ok (.getfield 159, 3) := by decide +kernel
theorem dX6_ovoid_48 : decode cX6_ovoid 48 = .ok (.aload_n 3, 1) := by decide +kernel
theorem dX6_ovoid_49 : decode cX6_ovoid 49 = .ok (.getfield 152, 3) := by decide +kernel
theorem dX6_ovoid_52 : decode cX6_ovoid 52 = .ok (.iload_n 2, 1) := by decide +kernel
theorem dX6_ovoid_53 : decode cX6_ovoid 53 = .ok (.iconst 0, 1) := by decide +kernel
theorem dX6_ovoid_54 : decode cX6_ovoid 54 = .ok (.invokevirtual 193, 3) := by decide +kernel
theorem dX6_ovoid_57 : decode cX6_ovoid 57 = .ok (.aload_n 0, 1) := by decide +kernel
theorem dX6_ovoid_58 : decode cX6_ovoid 58 = .ok (.invokevirtual 197, 3) := by decide +kernel
theorem dX6_ovoid_61 : decode cX6_ovoid 61 = .ok (.ireturn, 1) := by decide +kernel
set_option maxRecDepth 20000 in
theorem ggX6_spread_X6_isWorldNumber : GoodIn wsX6_spread wsX6_isWorldNumber := goodIn_r _ [6] (by decide +kernel) (by decide +kernel)
set_option maxRecDepth 20000 in
theorem gX6_spread_X6_isWorldNumber : GoodIn wsX6_spread (va_wsS RX6 52 yX6_isWorldNumber wsX6_isWorldNumber) := goodIn_app (goodIn_of _ (by decide +kernel)) ggX6_spread_X6_isWorldNumber
set_option maxRecDepth 20000 in
theorem ggX6_spread_X6_isNumberOfTries : GoodIn wsX6_spread wsX6_isNumberOfTries := goodIn_r _ [9, 10] (by decide +kernel) (by decide +kernel)
set_option maxRecDepth 20000 in
theorem gX6_spread_X6_isNumberOfTries : GoodIn wsX6_spread (va_wsS RX6 190 yX6_isNumberOfTries wsX6_isNumberOfTries) := goodIn_app (goodIn_of _ (by decide +kernel)) ggX6_spread_X6_isNumberOfTries
set_option maxRecDepth 20000 in
theorem ggX6_spread_X6_refused : GoodIn wsX6_spread wsX6_refused := goodIn_r _ [14, 15, 16, 64, 65, 66, 67, 68, 69, 70, 71, 72, 73, 74, 75, 76] (by decide +kernel) (by decide +kernel)
set_option maxRecDepth 20000 in
theorem gX6_spread_X6_refused : GoodIn wsX6_spread (wsV RX6 71 RX6 yX6_refused wsX6_refused) := goodIn_app (goodIn_of _ (by decide +kernel)) ggX6_spread_X6_refused
set_option maxRecDepth 20000 in
theorem ggX6_spread_X4_seek : GoodIn wsX6_spread wsX4_seek := goodIn_r _ [21, 22, 23, 24, 25, 26, 27, 28, 29, 30, 31, 5, 32, 33, 34, 35, 20, 36, 37, 38, 39, 40, 41, 42, 43, 44, 45, 46, 47, 48, 49, 50, 51, 52, 53, 85, 86, 87, 88, 89, 90, 91, 92, 93] (by decide +kernel) (by decide +kernel)
set_option maxRecDepth 20000 in
theorem gX6_spread_X4_seek : GoodIn wsX6_spread (wsV RX6 193 RX4 yX4_seek wsX4_seek) := goodIn_app (goodIn_of _ (by decide +kernel)) ggX6_spread_X4_seek
set_option maxRecDepth 20000 in
theorem ggX6_spread_X6_firstFound : GoodIn wsX6_spread wsX6_firstFound := goodIn_r _ [57, 2, 58, 59, 60, 61, 5, 62, 63, 41, 42, 43, 44, 45, 46, 47, 64, 65, 66, 67, 68, 69, 70, 71, 72, 73, 74, 75, 76, 85, 86, 87, 88, 89, 90, 91, 92, 93] (by decide +kernel) (by decide +kernel)
set_option maxRecDepth 20000 in
theorem gX6_spread_X6_firstFound : GoodIn wsX6_spread (wsV RX6 197 RX6 yX6_firstFound wsX6_firstFound) := goodIn_app (goodIn_of _ (by decide +kernel)) ggX6_spread_X6_firstFound
theorem dX6_spread_0 : decode cX6_spread 0 = .ok (.iload_n 1, 1) := by decide +kernel
theorem dX6_spread_1 : decode cX6_spread 1 = .ok (.invokestatic 52, 3) := by decide +kernel
theorem dX6_spread_4 : decode cX6_spread 4 = .ok (.ifCond .eq 10, 3) := by decide +kernel
theorem dX6_spread_7 : decode cX6_spread 7 = .ok (.iload_n 2, 1) := by decide +kernel
theorem dX6_spread_8 : decode cX6_spread 8 = .ok (.invokestatic 190, 3) := by decide +kernel
theorem dX6_spread_11 : decode cX6_spread 11 = .ok (.ifCond .ne 5, 3) := by decide +kernel
theorem dX6_spread_14 : decode cX6_spread 14 = .ok (.iconst (-1), 1) := by decide +kernel
theorem dX6_spread_15 : decode cX6_spread 15 = .ok (.ireturn, 1) := by decide +kernel
theorem dX6_spread_16 : decode cX6_spread 16 = .ok (.aload_n 0, 1) := by decide +kernel
theorem dX6_spread_17 : decode cX6_spread 17 = .ok (.getfield 11, 3) := by decide +kernel
theorem dX6_spread_20 : decode cX6_spread 20 = .ok (.iload_n 1, 1) := by decide +kernel
theorem dX6_spread_21 : decode cX6_spread 21 = .ok (.aaload, 1) := by decide +kernel
theorem dX6_spread_22 : decode cX6_spread 22 = .ok (.astore_n 3, 1) := by decide +kernel
theorem dX6_spread_23 : decode cX6_spread 23 = .ok (.aload_n 3, 1) := by decide +kernel
theorem dX6_spread_24 : decode cX6_spread 24 = .ok (.getfield 63, 3) := by decide +kernel
theorem dX6_spread_27 : decode cX6_spread 27 = .ok (.ifCond .ne 9, 3) := by decide +kernel
theorem dX6_spread_30 : decode cX6_spread 30 = .ok (.aload_n 0, 1) := by decide +kernel
theorem dX6_spread_31 : decode cX6_spread 31 = .ok (.iconst 1, 1) := by decide +kernel
theorem dX6_spread_32 : decode cX6_spread 32 = .ok (.invokevirtual 71, 3) := by decide +kernel
theorem dX6_spread_35 : decode cX6_spread 35 = .ok (.ireturn, 1) := by decide +kernel
theorem dX6_spread_36 : decode cX6_spread 36 = .ok (.aload_n 0, 1) := by decide +kernel
theorem dX6_spread_37 : decode cX6_spread 37 = .ok (.getfield 36, 3) := by decide +kernel
theorem dX6_spread_40 : decode cX6_spread 40 = .ok (.aload_n 3, 1) := by decide +kernel
theorem dX6_spread_41 : decode cX6_spread 41 = .ok (.getfield 102, 3) := by decide +kernel
theorem dX6_spread_44 : decode cX6_spread 44 = .ok (.aload_n 3, 1) := by decide +kernel
theorem dX6_spread_45 : decode cX6_spread 45 = .ok (.getfield 152, 3) := by decide +kernel
theorem dX6_spread_48 : decode cX6_spread 48 = .ok (.aload_n 3, 1) := by decide +kernel
theorem dX6_spread_49 : decode cX6_spread 49 = .ok (.getfield 159, 3) := by decide +kernel
theorem dX6_spread_52 : decode cX6_spread 52 = .ok (.iload_n 2, 1) := by decide +kernel
theorem dX6_spread_53 : decode cX6_spread 53 = .ok (.iconst 0, 1) := by decide +kernel
theorem dX6_spread_54 : decode cX6_spread 54 = .ok (.invokevirtual 193, 3) := by decide +kernel
theorem dX6_spread_57 : decode cX6_spread 57 = .ok (.aload_n 0, 1) := by decide +kernel
theorem dX6_spread_58 : decode cX6_spread 58 = .ok (.invokevirtual 197, 3) := by decide +kernel
theorem dX6_spread_61 : decode cX6_spread 61 = .ok (.ireturn, 1) := by decide +kernel
set_option maxRecDepth 20000 in
theorem ggX6_ovoids_X6_isWorldNumber : GoodIn wsX6_ovoids wsX6_isWorldNumber := goodIn_r _ [8] (by decide +kernel) (by decide +kernel)
set_option maxRecDepth 20000 in
theorem gX6_ovoids_X6_isWorldNumber : GoodIn wsX6_ovoids (va_wsS RX6 52 yX6_isWorldNumber wsX6_isWorldNumber) := goodIn_app (goodIn_of _ (by decide +kernel)) ggX6_ovoids_X6_isWorldNumber
set_option maxRecDepth 20000 in
theorem ggX6_ovoids_X6_isNumberOfTries : GoodIn wsX6_ovoids wsX6_isNumberOfTries := goodIn_r _ [11, 12] (by decide +kernel) (by decide +kernel)
set_option maxRecDepth 20000 in
theorem gX6_ovoids_X6_isNumberOfTries : GoodIn wsX6_ovoids (va_wsS RX6 190 yX6_isNumberOfTries wsX6_isNumberOfTries) := goodIn_app (goodIn_of _ (by decide +kernel)) ggX6_ovoids_X6_isNumberOfTries
set_option maxRecDepth 20000 in
theorem ggX6_ovoids_X6_refused : GoodIn wsX6_ovoids wsX6_refused := goodIn_r _ [16, 17, 18, 56, 57, 58, 59, 60, 61, 62, 63, 64, 65, 66, 67, 68] (by decide +kernel) (by decide +kernel)
set_option maxRecDepth 20000 in
theorem gX6_ovoids_X6_refused : GoodIn wsX6_ovoids (wsV RX6 71 RX6 yX6_refused wsX6_refused) := goodIn_app (goodIn_of _ (by decide +kernel)) ggX6_ovoids_X6_refused
set_option maxRecDepth 20000 in
theorem ggX6_ovoids_X4_seek : GoodIn wsX6_ovoids wsX4_seek := goodIn_r _ [23, 24, 25, 26, 27, 28, 29, 30, 31, 32, 33, 7, 34, 35, 36, 37, 22, 38, 39, 40, 41, 42, 43, 44, 45, 46, 47, 48, 49, 50, 51, 52, 53, 54, 55, 77, 78, 79, 80, 81, 82, 83, 84, 85] (by decide +kernel) (by decide +kernel)
set_option maxRecDepth 20000 in
theorem gX6_ovoids_X4_seek : GoodIn wsX6_ovoids (wsV RX6 193 RX4 yX4_seek wsX4_seek) := goodIn_app (goodIn_of _ (by decide +kernel)) ggX6_ovoids_X4_seek
theorem dX6_ovoids_0 : decode cX6_ovoids 0 = .ok (.iload_n 1, 1) := by decide +kernel
theorem dX6_ovoids_1 : decode cX6_ovoids 1 = .ok (.invokestatic 52, 3) := by decide +kernel
theorem dX6_ovoids_4 : decode cX6_ovoids 4 = .ok (.ifCond .eq 10, 3) := by decide +kernel
theorem dX6_ovoids_7 : decode cX6_ovoids 7 = .ok (.iload_n 2, 1) := by decide +kernel
theorem dX6_ovoids_8 : decode cX6_ovoids 8 = .ok (.invokestatic 190, 3) := by decide +kernel
theorem dX6_ovoids_11 : decode cX6_ovoids 11 = .ok (.ifCond .ne 5, 3) := by decide +kernel
theorem dX6_ovoids_14 : decode cX6_ovoids 14 = .ok (.iconst (-1), 1) := by decide +kernel
theorem dX6_ovoids_15 : decode cX6_ovoids 15 = .ok (.ireturn, 1) := by decide +kernel
theorem dX6_ovoids_16 : decode cX6_ovoids 16 = .ok (.aload_n 0, 1) := by decide +kernel
theorem dX6_ovoids_17 : decode cX6_ovoids 17 = .ok (.getfield 11, 3) := by decide +kernel
theorem dX6_ovoids_20 : decode cX6_ovoids 20 = .ok (.iload_n 1, 1) := by decide +kernel
theorem dX6_ovoids_21 : decode cX6_ovoids 21 = .ok (.aaload, 1) := by decide +kernel
theorem dX6_ovoids_22 : decode cX6_ovoids 22 = .ok (.astore_n 3, 1) := by decide +kernel
theorem dX6_ovoids_23 : decode cX6_ovoids 23 = .ok (.aload_n 3, 1) := by decide +kernel
theorem dX6_ovoids_24 : decode cX6_ovoids 24 = .ok (.getfield 63, 3) := by decide +kernel
theorem dX6_ovoids_27 : decode cX6_ovoids 27 = .ok (.ifCond .ne 9, 3) := by decide +kernel
theorem dX6_ovoids_30 : decode cX6_ovoids 30 = .ok (.aload_n 0, 1) := by decide +kernel
theorem dX6_ovoids_31 : decode cX6_ovoids 31 = .ok (.iconst 1, 1) := by decide +kernel
theorem dX6_ovoids_32 : decode cX6_ovoids 32 = .ok (.invokevirtual 71, 3) := by decide +kernel
theorem dX6_ovoids_35 : decode cX6_ovoids 35 = .ok (.ireturn, 1) := by decide +kernel
theorem dX6_ovoids_36 : decode cX6_ovoids 36 = .ok (.aload_n 0, 1) := by decide +kernel
theorem dX6_ovoids_37 : decode cX6_ovoids 37 = .ok (.getfield 36, 3) := by decide +kernel
theorem dX6_ovoids_40 : decode cX6_ovoids 40 = .ok (.aload_n 3, 1) := by decide +kernel
theorem dX6_ovoids_41 : decode cX6_ovoids 41 = .ok (.getfield 67, 3) := by decide +kernel
theorem dX6_ovoids_44 : decode cX6_ovoids 44 = .ok (.aload_n 3, 1) := by decide +kernel
theorem dX6_ovoids_45 : decode cX6_ovoids 45 = .ok (.getfield 159, 3) := by decide +kernel
theorem dX6_ovoids_48 : decode cX6_ovoids 48 = .ok (.aload_n 3, 1) := by decide +kernel
theorem dX6_ovoids_49 : decode cX6_ovoids 49 = .ok (.getfield 152, 3) := by decide +kernel
theorem dX6_ovoids_52 : decode cX6_ovoids 52 = .ok (.iload_n 2, 1) := by decide +kernel
theorem dX6_ovoids_53 : decode cX6_ovoids 53 = .ok (.iconst 1, 1) := by decide +kernel
theorem dX6_ovoids_54 : decode cX6_ovoids 54 = .ok (.invokevirtual 193, 3) := by decide +kernel
theorem dX6_ovoids_57 : decode cX6_ovoids 57 = .ok (.aload_n 0, 1) := by decide +kernel
theorem dX6_ovoids_58 : decode cX6_ovoids 58 = .ok (.aload_n 0, 1) := by decide +kernel
theorem dX6_ovoids_59 : decode cX6_ovoids 59 = .ok (.getfield 36, 3) := by decide +kernel
theorem dX6_ovoids_62 : decode cX6_ovoids 62 = .ok (.getfield 200, 3) := by decide +kernel
theorem dX6_ovoids_65 : decode cX6_ovoids 65 = .ok (.putfield 203, 3) := by decide +kernel
theorem dX6_ovoids_68 : decode cX6_ovoids 68 = .ok (.aload_n 0, 1) := by decide +kernel
theorem dX6_ovoids_69 : decode cX6_ovoids 69 = .ok (.getfield 36, 3) := by decide +kernel
theorem dX6_ovoids_72 : decode cX6_ovoids 72 = .ok (.getfield 206, 3) := by decide +kernel
theorem dX6_ovoids_75 : decode cX6_ovoids 75 = .ok (.ifCond .eq 6, 3) := by decide +kernel
theorem dX6_ovoids_78 : decode cX6_ovoids 78 = .ok (.bipush (-6), 2) := by decide +kernel
theorem dX6_ovoids_80 : decode cX6_ovoids 80 = .ok (.ireturn, 1) := by decide +kernel
theorem dX6_ovoids_81 : decode cX6_ovoids 81 = .ok (.aload_n 0, 1) := by decide +kernel
theorem dX6_ovoids_82 : decode cX6_ovoids 82 = .ok (.aload_n 0, 1) := by decide +kernel
theorem dX6_ovoids_83 : decode cX6_ovoids 83 = .ok (.getfield 36, 3) := by decide +kernel
theorem dX6_ovoids_86 : decode cX6_ovoids 86 = .ok (.getfield 209, 3) := by decide +kernel
theorem dX6_ovoids_89 : decode cX6_ovoids 89 = .ok (.i2l, 1) := by decide +kernel
theorem dX6_ovoids_90 : decode cX6_ovoids 90 = .ok (.putfield 168, 3) := by decide +kernel
theorem dX6_ovoids_93 : decode cX6_ovoids 93 = .ok (.iconst 1, 1) := by decide +kernel
theorem dX6_ovoids_94 : decode cX6_ovoids 94 = .ok (.ireturn, 1) := by decide +kernel
theorem dX6_tries_0 : decode cX6_tries 0 = .ok (.aload_n 0, 1) := by decide +kernel
theorem dX6_tries_1 : decode cX6_tries 1 = .ok (.getfield 203, 3) := by decide +kernel
theorem dX6_tries_4 : decode cX6_tries 4 = .ok (.ireturn, 1) := by decide +kernel
set_option maxRecDepth 20000 in
theorem ggX6_meets_X6_isWorldNumber : GoodIn wsX6_meets wsX6_isWorldNumber := goodIn_r _ [5] (by decide +kernel) (by decide +kernel)
set_option maxRecDepth 20000 in
theorem gX6_meets_X6_isWorldNumber : GoodIn wsX6_meets (va_wsS RX6 52 yX6_isWorldNumber wsX6_isWorldNumber) := goodIn_app (goodIn_of _ (by decide +kernel)) ggX6_meets_X6_isWorldNumber
set_option maxRecDepth 20000 in
theorem ggX6_meets_X6_refused : GoodIn wsX6_meets wsX6_refused := goodIn_r _ [9, 10, 11, 45, 46, 47, 48, 49, 50, 51, 52, 53, 54, 55, 56, 57] (by decide +kernel) (by decide +kernel)
set_option maxRecDepth 20000 in
theorem gX6_meets_X6_refused : GoodIn wsX6_meets (wsV RX6 71 RX6 yX6_refused wsX6_refused) := goodIn_app (goodIn_of _ (by decide +kernel)) ggX6_meets_X6_refused
set_option maxRecDepth 20000 in
theorem ggX6_meets_X5_hasAll : GoodIn wsX6_meets wsX5_hasAll := goodIn_r _ [16, 17, 18, 19, 4, 20, 58, 59, 60, 61, 62, 63, 64, 65] (by decide +kernel) (by decide +kernel)
set_option maxRecDepth 20000 in
theorem gX6_meets_X5_hasAll : GoodIn wsX6_meets (wsV RX6 142 RX5 yX5_hasAll wsX5_hasAll) := goodIn_app (goodIn_of _ (by decide +kernel)) ggX6_meets_X5_hasAll
set_option maxRecDepth 20000 in
theorem ggX6_meets_X5_mostOnLine : GoodIn wsX6_meets wsX5_mostOnLine := goodIn_r _ [24, 25, 26, 27, 28, 29, 30, 31, 32, 33, 34, 35, 36, 37, 58, 59, 60, 61, 62, 63, 64, 65] (by decide +kernel) (by decide +kernel)
set_option maxRecDepth 20000 in
theorem gX6_meets_X5_mostOnLine : GoodIn wsX6_meets (wsV RX6 145 RX5 yX5_mostOnLine wsX5_mostOnLine) := goodIn_app (goodIn_of _ (by decide +kernel)) ggX6_meets_X5_mostOnLine
set_option maxRecDepth 20000 in
theorem ggX6_meets_X5_leastOnLine : GoodIn wsX6_meets wsX5_leastOnLine := goodIn_r _ [41, 25, 26, 42, 43, 29, 44, 31, 32, 33, 34, 35, 36, 37, 58, 59, 60, 61, 62, 63, 64, 65] (by decide +kernel) (by decide +kernel)
set_option maxRecDepth 20000 in
theorem gX6_meets_X5_leastOnLine : GoodIn wsX6_meets (wsV RX6 212 RX5 yX5_leastOnLine wsX5_leastOnLine) := goodIn_app (goodIn_of _ (by decide +kernel)) ggX6_meets_X5_leastOnLine
theorem dX6_meets_0 : decode cX6_meets 0 = .ok (.iload_n 1, 1) := by decide +kernel
theorem dX6_meets_1 : decode cX6_meets 1 = .ok (.invokestatic 52, 3) := by decide +kernel
theorem dX6_meets_4 : decode cX6_meets 4 = .ok (.ifCond .ne 5, 3) := by decide +kernel
theorem dX6_meets_7 : decode cX6_meets 7 = .ok (.iconst (-1), 1) := by decide +kernel
theorem dX6_meets_8 : decode cX6_meets 8 = .ok (.ireturn, 1) := by decide +kernel
theorem dX6_meets_9 : decode cX6_meets 9 = .ok (.aload_n 0, 1) := by decide +kernel
theorem dX6_meets_10 : decode cX6_meets 10 = .ok (.getfield 11, 3) := by decide +kernel
theorem dX6_meets_13 : decode cX6_meets 13 = .ok (.iload_n 1, 1) := by decide +kernel
theorem dX6_meets_14 : decode cX6_meets 14 = .ok (.aaload, 1) := by decide +kernel
theorem dX6_meets_15 : decode cX6_meets 15 = .ok (.astore 5, 2) := by decide +kernel
theorem dX6_meets_17 : decode cX6_meets 17 = .ok (.aload 5, 2) := by decide +kernel
theorem dX6_meets_19 : decode cX6_meets 19 = .ok (.getfield 63, 3) := by decide +kernel
theorem dX6_meets_22 : decode cX6_meets 22 = .ok (.ifCond .ne 9, 3) := by decide +kernel
theorem dX6_meets_25 : decode cX6_meets 25 = .ok (.aload_n 0, 1) := by decide +kernel
theorem dX6_meets_26 : decode cX6_meets 26 = .ok (.iconst 1, 1) := by decide +kernel
theorem dX6_meets_27 : decode cX6_meets 27 = .ok (.invokevirtual 71, 3) := by decide +kernel
theorem dX6_meets_30 : decode cX6_meets 30 = .ok (.ireturn, 1) := by decide +kernel
theorem dX6_meets_31 : decode cX6_meets 31 = .ok (.aload 5, 2) := by decide +kernel
theorem dX6_meets_33 : decode cX6_meets 33 = .ok (.lload_n 2, 1) := by decide +kernel
theorem dX6_meets_34 : decode cX6_meets 34 = .ok (.invokevirtual 142, 3) := by decide +kernel
theorem dX6_meets_37 : decode cX6_meets 37 = .ok (.ifCond .ne 5, 3) := by decide +kernel
theorem dX6_meets_40 : decode cX6_meets 40 = .ok (.iconst (-1), 1) := by decide +kernel
theorem dX6_meets_41 : decode cX6_meets 41 = .ok (.ireturn, 1) := by decide +kernel
theorem dX6_meets_42 : decode cX6_meets 42 = .ok (.aload 5, 2) := by decide +kernel
theorem dX6_meets_44 : decode cX6_meets 44 = .ok (.getfield 67, 3) := by decide +kernel
theorem dX6_meets_47 : decode cX6_meets 47 = .ok (.ifCond .ne 9, 3) := by decide +kernel
theorem dX6_meets_50 : decode cX6_meets 50 = .ok (.aload_n 0, 1) := by decide +kernel
theorem dX6_meets_51 : decode cX6_meets 51 = .ok (.iconst 4, 1) := by decide +kernel
theorem dX6_meets_52 : decode cX6_meets 52 = .ok (.invokevirtual 71, 3) := by decide +kernel
theorem dX6_meets_55 : decode cX6_meets 55 = .ok (.ireturn, 1) := by decide +kernel
theorem dX6_meets_56 : decode cX6_meets 56 = .ok (.iload 4, 2) := by decide +kernel
theorem dX6_meets_58 : decode cX6_meets 58 = .ok (.ifCond .eq 12, 3) := by decide +kernel
theorem dX6_meets_61 : decode cX6_meets 61 = .ok (.aload 5, 2) := by decide +kernel
theorem dX6_meets_63 : decode cX6_meets 63 = .ok (.lload_n 2, 1) := by decide +kernel
theorem dX6_meets_64 : decode cX6_meets 64 = .ok (.invokevirtual 145, 3) := by decide +kernel
theorem dX6_meets_67 : decode cX6_meets 67 = .ok (.goto 9, 3) := by decide +kernel
theorem dX6_meets_70 : decode cX6_meets 70 = .ok (.aload 5, 2) := by decide +kernel
theorem dX6_meets_72 : decode cX6_meets 72 = .ok (.lload_n 2, 1) := by decide +kernel
theorem dX6_meets_73 : decode cX6_meets 73 = .ok (.invokevirtual 212, 3) := by decide +kernel
theorem dX6_meets_76 : decode cX6_meets 76 = .ok (.ireturn, 1) := by decide +kernel
set_option maxRecDepth 20000 in
theorem ggX6_rank_X6_isWorldNumber : GoodIn wsX6_rank wsX6_isWorldNumber := goodIn_r _ [6] (by decide +kernel) (by decide +kernel)
set_option maxRecDepth 20000 in
theorem gX6_rank_X6_isWorldNumber : GoodIn wsX6_rank (va_wsS RX6 52 yX6_isWorldNumber wsX6_isWorldNumber) := goodIn_app (goodIn_of _ (by decide +kernel)) ggX6_rank_X6_isWorldNumber
set_option maxRecDepth 20000 in
theorem ggX6_rank_X6_refused : GoodIn wsX6_rank wsX6_refused := goodIn_r _ [10, 11, 12, 35, 36, 37, 38, 39, 40, 41, 42, 43, 44, 45, 46, 47] (by decide +kernel) (by decide +kernel)
set_option maxRecDepth 20000 in
theorem gX6_rank_X6_refused : GoodIn wsX6_rank (wsV RX6 71 RX6 yX6_refused wsX6_refused) := goodIn_app (goodIn_of _ (by decide +kernel)) ggX6_rank_X6_refused
set_option maxRecDepth 20000 in
theorem ggX6_rank_X3_rankOf : GoodIn wsX6_rank wsX3_rankOf := goodIn_r _ [16, 17, 5, 18, 19, 20, 15, 21, 22, 23, 24, 25, 26, 27, 28, 29, 30, 31, 32, 33, 34, 48, 49, 50, 51, 52, 53, 54, 55] (by decide +kernel) (by decide +kernel)
set_option maxRecDepth 20000 in
theorem gX6_rank_X3_rankOf : GoodIn wsX6_rank (va_wsS RX6 215 yX3_rankOf wsX3_rankOf) := goodIn_app (goodIn_of _ (by decide +kernel)) ggX6_rank_X3_rankOf
theorem dX6_rank_0 : decode cX6_rank 0 = .ok (.iload_n 1, 1) := by decide +kernel
theorem dX6_rank_1 : decode cX6_rank 1 = .ok (.invokestatic 52, 3) := by decide +kernel
theorem dX6_rank_4 : decode cX6_rank 4 = .ok (.ifCond .eq 18, 3) := by decide +kernel
theorem dX6_rank_7 : decode cX6_rank 7 = .ok (.iload_n 2, 1) := by decide +kernel
theorem dX6_rank_8 : decode cX6_rank 8 = .ok (.iconst 2, 1) := by decide +kernel
theorem dX6_rank_9 : decode cX6_rank 9 = .ok (.if_icmp .eq 15, 3) := by decide +kernel
theorem dX6_rank_12 : decode cX6_rank 12 = .ok (.iload_n 2, 1) := by decide +kernel
theorem dX6_rank_13 : decode cX6_rank 13 = .ok (.iconst 3, 1) := by decide +kernel
theorem dX6_rank_14 : decode cX6_rank 14 = .ok (.if_icmp .eq 10, 3) := by decide +kernel
theorem dX6_rank_17 : decode cX6_rank 17 = .ok (.iload_n 2, 1) := by decide +kernel
theorem dX6_rank_18 : decode cX6_rank 18 = .ok (.iconst 5, 1) := by decide +kernel
theorem dX6_rank_19 : decode cX6_rank 19 = .ok (.if_icmp .eq 5, 3) := by decide +kernel
theorem dX6_rank_22 : decode cX6_rank 22 = .ok (.iconst (-1), 1) := by decide +kernel
theorem dX6_rank_23 : decode cX6_rank 23 = .ok (.ireturn, 1) := by decide +kernel
theorem dX6_rank_24 : decode cX6_rank 24 = .ok (.aload_n 0, 1) := by decide +kernel
theorem dX6_rank_25 : decode cX6_rank 25 = .ok (.getfield 11, 3) := by decide +kernel
theorem dX6_rank_28 : decode cX6_rank 28 = .ok (.iload_n 1, 1) := by decide +kernel
theorem dX6_rank_29 : decode cX6_rank 29 = .ok (.aaload, 1) := by decide +kernel
theorem dX6_rank_30 : decode cX6_rank 30 = .ok (.getfield 63, 3) := by decide +kernel
theorem dX6_rank_33 : decode cX6_rank 33 = .ok (.ifCond .ne 9, 3) := by decide +kernel
theorem dX6_rank_36 : decode cX6_rank 36 = .ok (.aload_n 0, 1) := by decide +kernel
theorem dX6_rank_37 : decode cX6_rank 37 = .ok (.iconst 1, 1) := by decide +kernel
theorem dX6_rank_38 : decode cX6_rank 38 = .ok (.invokevirtual 71, 3) := by decide +kernel
theorem dX6_rank_41 : decode cX6_rank 41 = .ok (.ireturn, 1) := by decide +kernel
theorem dX6_rank_42 : decode cX6_rank 42 = .ok (.aload_n 0, 1) := by decide +kernel
theorem dX6_rank_43 : decode cX6_rank 43 = .ok (.getfield 11, 3) := by decide +kernel
theorem dX6_rank_46 : decode cX6_rank 46 = .ok (.iload_n 1, 1) := by decide +kernel
theorem dX6_rank_47 : decode cX6_rank 47 = .ok (.aaload, 1) := by decide +kernel
theorem dX6_rank_48 : decode cX6_rank 48 = .ok (.iload_n 2, 1) := by decide +kernel
theorem dX6_rank_49 : decode cX6_rank 49 = .ok (.aload_n 0, 1) := by decide +kernel
theorem dX6_rank_50 : decode cX6_rank 50 = .ok (.getfield 30, 3) := by decide +kernel
theorem dX6_rank_53 : decode cX6_rank 53 = .ok (.invokestatic 215, 3) := by decide +kernel
theorem dX6_rank_56 : decode cX6_rank 56 = .ok (.ireturn, 1) := by decide +kernel
set_option maxRecDepth 20000 in
theorem ggX6_alike_X6_isWorldNumber : GoodIn wsX6_alike wsX6_isWorldNumber := goodIn_r _ [13] (by decide +kernel) (by decide +kernel)
set_option maxRecDepth 20000 in
theorem gX6_alike_X6_isWorldNumber : GoodIn wsX6_alike (va_wsS RX6 52 yX6_isWorldNumber wsX6_isWorldNumber) := goodIn_app (goodIn_of _ (by decide +kernel)) ggX6_alike_X6_isWorldNumber
set_option maxRecDepth 20000 in
theorem ggX6_alike_X6_isNumberOfTries : GoodIn wsX6_alike wsX6_isNumberOfTries := goodIn_r _ [16, 17] (by decide +kernel) (by decide +kernel)
set_option maxRecDepth 20000 in
theorem gX6_alike_X6_isNumberOfTries : GoodIn wsX6_alike (va_wsS RX6 190 yX6_isNumberOfTries wsX6_isNumberOfTries) := goodIn_app (goodIn_of _ (by decide +kernel)) ggX6_alike_X6_isNumberOfTries
set_option maxRecDepth 20000 in
theorem ggX6_alike_X6_refused : GoodIn wsX6_alike wsX6_refused := goodIn_r _ [21, 22, 23, 71, 72, 73, 74, 75, 76, 77, 78, 79, 80, 81, 82, 83] (by decide +kernel) (by decide +kernel)
set_option maxRecDepth 20000 in
theorem gX6_alike_X6_refused : GoodIn wsX6_alike (wsV RX6 71 RX6 yX6_refused wsX6_refused) := goodIn_app (goodIn_of _ (by decide +kernel)) ggX6_alike_X6_refused
set_option maxRecDepth 20000 in
theorem ggX6_alike_X2_match : GoodIn wsX6_alike wsX2_match := goodIn_r _ [28, 29, 30, 31, 32, 33, 34, 35, 36, 37, 38, 27, 39, 40, 41, 42, 43, 44, 45, 12, 46, 47, 48, 49, 50, 51, 52, 53, 54, 55, 56, 57, 58, 59, 60, 61, 62, 63, 64, 65, 66, 67, 68, 69, 70, 92, 93, 94, 95, 96, 97, 98, 84, 85, 86, 87, 88, 89, 90, 91] (by decide +kernel) (by decide +kernel)
set_option maxRecDepth 20000 in
theorem gX6_alike_X2_match : GoodIn wsX6_alike (wsV RX6 221 RX2 yX2_match wsX2_match) := goodIn_app (goodIn_of _ (by decide +kernel)) ggX6_alike_X2_match
theorem dX6_alike_0 : decode cX6_alike 0 = .ok (.iload_n 1, 1) := by decide +kernel
theorem dX6_alike_1 : decode cX6_alike 1 = .ok (.invokestatic 52, 3) := by decide +kernel
theorem dX6_alike_4 : decode cX6_alike 4 = .ok (.ifCond .eq 17, 3) := by decide +kernel
theorem dX6_alike_7 : decode cX6_alike 7 = .ok (.iload_n 2, 1) := by decide +kernel
theorem dX6_alike_8 : decode cX6_alike 8 = .ok (.invokestatic 52, 3) := by decide +kernel
theorem dX6_alike_11 : decode cX6_alike 11 = .ok (.ifCond .eq 10, 3) := by decide +kernel
theorem dX6_alike_14 : decode cX6_alike 14 = .ok (.iload_n 3, 1) := by decide +kernel
theorem dX6_alike_15 : decode cX6_alike 15 = .ok (.invokestatic 190, 3) := by decide +kernel
theorem dX6_alike_18 : decode cX6_alike 18 = .ok (.ifCond .ne 5, 3) := by decide +kernel
theorem dX6_alike_21 : decode cX6_alike 21 = .ok (.iconst (-1), 1) := by decide +kernel
theorem dX6_alike_22 : decode cX6_alike 22 = .ok (.ireturn, 1) := by decide +kernel
theorem dX6_alike_23 : decode cX6_alike 23 = .ok (.aload_n 0, 1) := by decide +kernel
theorem dX6_alike_24 : decode cX6_alike 24 = .ok (.getfield 11, 3) := by decide +kernel
theorem dX6_alike_27 : decode cX6_alike 27 = .ok (.iload_n 1, 1) := by decide +kernel
theorem dX6_alike_28 : decode cX6_alike 28 = .ok (.aaload, 1) := by decide +kernel
theorem dX6_alike_29 : decode cX6_alike 29 = .ok (.getfield 63, 3) := by decide +kernel
theorem dX6_alike_32 : decode cX6_alike 32 = .ok (.ifCond .eq 15, 3) := by decide +kernel
theorem dX6_alike_35 : decode cX6_alike 35 = .ok (.aload_n 0, 1) := by decide +kernel
theorem dX6_alike_36 : decode cX6_alike 36 = .ok (.getfield 11, 3) := by decide +kernel
theorem dX6_alike_39 : decode cX6_alike 39 = .ok (.iload_n 2, 1) := by decide +kernel
theorem dX6_alike_40 : decode cX6_alike 40 = .ok (.aaload, 1) := by decide +kernel
theorem dX6_alike_41 : decode cX6_alike 41 = .ok (.getfield 63, 3) := by decide +kernel
theorem dX6_alike_44 : decode cX6_alike 44 = .ok (.ifCond .ne 9, 3) := by decide +kernel
theorem dX6_alike_47 : decode cX6_alike 47 = .ok (.aload_n 0, 1) := by decide +kernel
theorem dX6_alike_48 : decode cX6_alike 48 = .ok (.iconst 1, 1) := by decide +kernel
theorem dX6_alike_49 : decode cX6_alike 49 = .ok (.invokevirtual 71, 3) := by decide +kernel
theorem dX6_alike_52 : decode cX6_alike 52 = .ok (.ireturn, 1) := by decide +kernel
theorem dX6_alike_53 : decode cX6_alike 53 = .ok (.aload_n 0, 1) := by decide +kernel
theorem dX6_alike_54 : decode cX6_alike 54 = .ok (.getfield 43, 3) := by decide +kernel
theorem dX6_alike_57 : decode cX6_alike 57 = .ok (.aload_n 0, 1) := by decide +kernel
theorem dX6_alike_58 : decode cX6_alike 58 = .ok (.getfield 11, 3) := by decide +kernel
theorem dX6_alike_61 : decode cX6_alike 61 = .ok (.iload_n 1, 1) := by decide +kernel
theorem dX6_alike_62 : decode cX6_alike 62 = .ok (.aaload, 1) := by decide +kernel
theorem dX6_alike_63 : decode cX6_alike 63 = .ok (.aload_n 0, 1) := by decide +kernel
theorem dX6_alike_64 : decode cX6_alike 64 = .ok (.getfield 11, 3) := by decide +kernel
theorem dX6_alike_67 : decode cX6_alike 67 = .ok (.iload_n 2, 1) := by decide +kernel
theorem dX6_alike_68 : decode cX6_alike 68 = .ok (.aaload, 1) := by decide +kernel
theorem dX6_alike_69 : decode cX6_alike 69 = .ok (.iload_n 3, 1) := by decide +kernel
theorem dX6_alike_70 : decode cX6_alike 70 = .ok (.invokevirtual 221, 3) := by decide +kernel
theorem dX6_alike_73 : decode cX6_alike 73 = .ok (.aload_n 0, 1) := by decide +kernel
theorem dX6_alike_74 : decode cX6_alike 74 = .ok (.aload_n 0, 1) := by decide +kernel
theorem dX6_alike_75 : decode cX6_alike 75 = .ok (.getfield 43, 3) := by decide +kernel
theorem dX6_alike_78 : decode cX6_alike 78 = .ok (.getfield 225, 3) := by decide +kernel
theorem dX6_alike_81 : decode cX6_alike 81 = .ok (.putfield 203, 3) := by decide +kernel
theorem dX6_alike_84 : decode cX6_alike 84 = .ok (.aload_n 0, 1) := by decide +kernel
theorem dX6_alike_85 : decode cX6_alike 85 = .ok (.getfield 43, 3) := by decide +kernel
theorem dX6_alike_88 : decode cX6_alike 88 = .ok (.getfield 226, 3) := by decide +kernel
theorem dX6_alike_91 : decode cX6_alike 91 = .ok (.ifCond .eq 6, 3) := by decide +kernel
theorem dX6_alike_94 : decode cX6_alike 94 = .ok (.bipush (-6), 2) := by decide +kernel
theorem dX6_alike_96 : decode cX6_alike 96 = .ok (.ireturn, 1) := by decide +kernel
theorem dX6_alike_97 : decode cX6_alike 97 = .ok (.aload_n 0, 1) := by decide +kernel
theorem dX6_alike_98 : decode cX6_alike 98 = .ok (.getfield 43, 3) := by decide +kernel
theorem dX6_alike_101 : decode cX6_alike 101 = .ok (.getfield 227, 3) := by decide +kernel
theorem dX6_alike_104 : decode cX6_alike 104 = .ok (.ifCond .ne 5, 3) := by decide +kernel
theorem dX6_alike_107 : decode cX6_alike 107 = .ok (.iconst 0, 1) := by decide +kernel
theorem dX6_alike_108 : decode cX6_alike 108 = .ok (.ireturn, 1) := by decide +kernel
theorem dX6_alike_109 : decode cX6_alike 109 = .ok (.aload_n 0, 1) := by decide +kernel
theorem dX6_alike_110 : decode cX6_alike 110 = .ok (.aload_n 0, 1) := by decide +kernel
theorem dX6_alike_111 : decode cX6_alike 111 = .ok (.getfield 11, 3) := by decide +kernel
theorem dX6_alike_114 : decode cX6_alike 114 = .ok (.iload_n 1, 1) := by decide +kernel
theorem dX6_alike_115 : decode cX6_alike 115 = .ok (.aaload, 1) := by decide +kernel
theorem dX6_alike_116 : decode cX6_alike 116 = .ok (.getfield 102, 3) := by decide +kernel
theorem dX6_alike_119 : decode cX6_alike 119 = .ok (.putfield 230, 3) := by decide +kernel
theorem dX6_alike_122 : decode cX6_alike 122 = .ok (.aload_n 0, 1) := by decide +kernel
theorem dX6_alike_123 : decode cX6_alike 123 = .ok (.getfield 43, 3) := by decide +kernel
theorem dX6_alike_126 : decode cX6_alike 126 = .ok (.getfield 233, 3) := by decide +kernel
theorem dX6_alike_129 : decode cX6_alike 129 = .ok (.iconst 0, 1) := by decide +kernel
theorem dX6_alike_130 : decode cX6_alike 130 = .ok (.aload_n 0, 1) := by decide +kernel
theorem dX6_alike_131 : decode cX6_alike 131 = .ok (.getfield 27, 3) := by decide +kernel
theorem dX6_alike_134 : decode cX6_alike 134 = .ok (.iconst 0, 1) := by decide +kernel
theorem dX6_alike_135 : decode cX6_alike 135 = .ok (.aload_n 0, 1) := by decide +kernel
theorem dX6_alike_136 : decode cX6_alike 136 = .ok (.getfield 230, 3) := by decide +kernel
theorem dX6_alike_139 : decode cX6_alike 139 = .ok (.invokestatic 236, 3) := by decide +kernel
theorem dX6_alike_142 : decode cX6_alike 142 = .ok (.iconst 1, 1) := by decide +kernel
theorem dX6_alike_143 : decode cX6_alike 143 = .ok (.ireturn, 1) := by decide +kernel
theorem dX6_sent_0 : decode cX6_sent 0 = .ok (.iload_n 1, 1) := by decide +kernel
theorem dX6_sent_1 : decode cX6_sent 1 = .ok (.ifCond .lt 11, 3) := by decide +kernel
theorem dX6_sent_4 : decode cX6_sent 4 = .ok (.iload_n 1, 1) := by decide +kernel
theorem dX6_sent_5 : decode cX6_sent 5 = .ok (.aload_n 0, 1) := by decide +kernel
theorem dX6_sent_6 : decode cX6_sent 6 = .ok (.getfield 230, 3) := by decide +kernel
theorem dX6_sent_9 : decode cX6_sent 9 = .ok (.if_icmp .lt 8, 3) := by decide +kernel
theorem dX6_sent_12 : decode cX6_sent 12 = .ok (.bipush (-9), 2) := by decide +kernel
theorem dX6_sent_14 : decode cX6_sent 14 = .ok (.goto 9, 3) := by decide +kernel
theorem dX6_sent_17 : decode cX6_sent 17 = .ok (.aload_n 0, 1) := by decide +kernel
theorem dX6_sent_18 : decode cX6_sent 18 = .ok (.getfield 27, 3) := by decide +kernel
theorem dX6_sent_21 : decode cX6_sent 21 = .ok (.iload_n 1, 1) := by decide +kernel
theorem dX6_sent_22 : decode cX6_sent 22 = .ok (.iaload, 1) := by decide +kernel
theorem dX6_sent_23 : decode cX6_sent 23 = .ok (.ireturn, 1) := by decide +kernel
set_option maxRecDepth 20000 in
theorem ggX6_far_X6_isWorldNumber : GoodIn wsX6_far wsX6_isWorldNumber := goodIn_r _ [5] (by decide +kernel) (by decide +kernel)
set_option maxRecDepth 20000 in
theorem gX6_far_X6_isWorldNumber : GoodIn wsX6_far (va_wsS RX6 52 yX6_isWorldNumber wsX6_isWorldNumber) := goodIn_app (goodIn_of _ (by decide +kernel)) ggX6_far_X6_isWorldNumber
set_option maxRecDepth 20000 in
theorem ggX6_far_X6_refused : GoodIn wsX6_far wsX6_refused := goodIn_r _ [9, 10, 11, 25, 26, 27, 28, 29, 30, 31, 32, 33, 34, 35, 36, 37] (by decide +kernel) (by decide +kernel)
set_option maxRecDepth 20000 in
theorem gX6_far_X6_refused : GoodIn wsX6_far (wsV RX6 71 RX6 yX6_refused wsX6_refused) := goodIn_app (goodIn_of _ (by decide +kernel)) ggX6_far_X6_refused
set_option maxRecDepth 20000 in
theorem ggX6_far_X5_hasPoint : GoodIn wsX6_far wsX5_hasPoint := goodIn_r _ [16, 17, 38, 39, 40, 41, 42, 43, 44, 45] (by decide +kernel) (by decide +kernel)
set_option maxRecDepth 20000 in
theorem gX6_far_X5_hasPoint : GoodIn wsX6_far (wsV RX6 120 RX5 yX5_hasPoint wsX5_hasPoint) := goodIn_app (goodIn_of _ (by decide +kernel)) ggX6_far_X5_hasPoint
set_option maxRecDepth 20000 in
theorem ggX6_far_X5_stepsBetween : GoodIn wsX6_far wsX5_stepsBetween := goodIn_r _ [21, 17, 22, 23, 4, 24, 38, 39, 40, 41, 42, 43, 44, 45] (by decide +kernel) (by decide +kernel)
set_option maxRecDepth 20000 in
theorem gX6_far_X5_stepsBetween : GoodIn wsX6_far (wsV RX6 242 RX5 yX5_stepsBetween wsX5_stepsBetween) := goodIn_app (goodIn_of _ (by decide +kernel)) ggX6_far_X5_stepsBetween
theorem dX6_far_0 : decode cX6_far 0 = .ok (.iload_n 1, 1) := by decide +kernel
theorem dX6_far_1 : decode cX6_far 1 = .ok (.invokestatic 52, 3) := by decide +kernel
theorem dX6_far_4 : decode cX6_far 4 = .ok (.ifCond .ne 5, 3) := by decide +kernel
theorem dX6_far_7 : decode cX6_far 7 = .ok (.iconst (-1), 1) := by decide +kernel
theorem dX6_far_8 : decode cX6_far 8 = .ok (.ireturn, 1) := by decide +kernel
theorem dX6_far_9 : decode cX6_far 9 = .ok (.aload_n 0, 1) := by decide +kernel
theorem dX6_far_10 : decode cX6_far 10 = .ok (.getfield 11, 3) := by decide +kernel
theorem dX6_far_13 : decode cX6_far 13 = .ok (.iload_n 1, 1) := by decide +kernel
theorem dX6_far_14 : decode cX6_far 14 = .ok (.aaload, 1) := by decide +kernel
theorem dX6_far_15 : decode cX6_far 15 = .ok (.astore 4, 2) := by decide +kernel
theorem dX6_far_17 : decode cX6_far 17 = .ok (.aload 4, 2) := by decide +kernel
theorem dX6_far_19 : decode cX6_far 19 = .ok (.getfield 63, 3) := by decide +kernel
theorem dX6_far_22 : decode cX6_far 22 = .ok (.ifCond .ne 9, 3) := by decide +kernel
theorem dX6_far_25 : decode cX6_far 25 = .ok (.aload_n 0, 1) := by decide +kernel
theorem dX6_far_26 : decode cX6_far 26 = .ok (.iconst 1, 1) := by decide +kernel
theorem dX6_far_27 : decode cX6_far 27 = .ok (.invokevirtual 71, 3) := by decide +kernel
theorem dX6_far_30 : decode cX6_far 30 = .ok (.ireturn, 1) := by decide +kernel
theorem dX6_far_31 : decode cX6_far 31 = .ok (.aload 4, 2) := by decide +kernel
theorem dX6_far_33 : decode cX6_far 33 = .ok (.iload_n 2, 1) := by decide +kernel
theorem dX6_far_34 : decode cX6_far 34 = .ok (.invokevirtual 120, 3) := by decide +kernel
theorem dX6_far_37 : decode cX6_far 37 = .ok (.ifCond .eq 12, 3) := by decide +kernel
theorem dX6_far_40 : decode cX6_far 40 = .ok (.aload 4, 2) := by decide +kernel
theorem dX6_far_42 : decode cX6_far 42 = .ok (.iload_n 3, 1) := by decide +kernel
theorem dX6_far_43 : decode cX6_far 43 = .ok (.invokevirtual 120, 3) := by decide +kernel
theorem dX6_far_46 : decode cX6_far 46 = .ok (.ifCond .ne 9, 3) := by decide +kernel
theorem dX6_far_49 : decode cX6_far 49 = .ok (.aload_n 0, 1) := by decide +kernel
theorem dX6_far_50 : decode cX6_far 50 = .ok (.iconst 2, 1) := by decide +kernel
theorem dX6_far_51 : decode cX6_far 51 = .ok (.invokevirtual 71, 3) := by decide +kernel
theorem dX6_far_54 : decode cX6_far 54 = .ok (.ireturn, 1) := by decide +kernel
theorem dX6_far_55 : decode cX6_far 55 = .ok (.aload 4, 2) := by decide +kernel
theorem dX6_far_57 : decode cX6_far 57 = .ok (.iload_n 2, 1) := by decide +kernel
theorem dX6_far_58 : decode cX6_far 58 = .ok (.iload_n 3, 1) := by decide +kernel
theorem dX6_far_59 : decode cX6_far 59 = .ok (.invokevirtual 242, 3) := by decide +kernel
theorem dX6_far_62 : decode cX6_far 62 = .ok (.ireturn, 1) := by decide +kernel
set_option maxRecDepth 20000 in
theorem ggX6_row_X6_isRowNumber : GoodIn wsX6_row wsX6_isRowNumber := goodIn_r _ [6] (by decide +kernel) (by decide +kernel)
set_option maxRecDepth 20000 in
theorem gX6_row_X6_isRowNumber : GoodIn wsX6_row (va_wsS RX6 60 yX6_isRowNumber wsX6_isRowNumber) := goodIn_app (goodIn_of _ (by decide +kernel)) ggX6_row_X6_isRowNumber
set_option maxRecDepth 20000 in
theorem ggX6_row_X6_refused : GoodIn wsX6_row wsX6_refused := goodIn_r _ [10, 11, 12, 13, 14, 15, 16, 17, 18, 19, 20, 21, 22, 23, 24, 25] (by decide +kernel) (by decide +kernel)
set_option maxRecDepth 20000 in
theorem gX6_row_X6_refused : GoodIn wsX6_row (wsV RX6 71 RX6 yX6_refused wsX6_refused) := goodIn_app (goodIn_of _ (by decide +kernel)) ggX6_row_X6_refused
theorem dX6_row_0 : decode cX6_row 0 = .ok (.iload_n 1, 1) := by decide +kernel
theorem dX6_row_1 : decode cX6_row 1 = .ok (.invokestatic 60, 3) := by decide +kernel
theorem dX6_row_4 : decode cX6_row 4 = .ok (.ifCond .eq 9, 3) := by decide +kernel
theorem dX6_row_7 : decode cX6_row 7 = .ok (.iload_n 2, 1) := by decide +kernel
theorem dX6_row_8 : decode cX6_row 8 = .ok (.bipush 12, 2) := by decide +kernel
theorem dX6_row_10 : decode cX6_row 10 = .ok (.if_icmp .le 5, 3) := by decide +kernel
theorem dX6_row_13 : decode cX6_row 13 = .ok (.iconst (-1), 1) := by decide +kernel
theorem dX6_row_14 : decode cX6_row 14 = .ok (.ireturn, 1) := by decide +kernel
theorem dX6_row_15 : decode cX6_row 15 = .ok (.iload_n 2, 1) := by decide +kernel
theorem dX6_row_16 : decode cX6_row 16 = .ok (.ifCond .ge 9, 3) := by decide +kernel
theorem dX6_row_19 : decode cX6_row 19 = .ok (.aload_n 0, 1) := by decide +kernel
theorem dX6_row_20 : decode cX6_row 20 = .ok (.iconst 5, 1) := by decide +kernel
theorem dX6_row_21 : decode cX6_row 21 = .ok (.invokevirtual 71, 3) := by decide +kernel
theorem dX6_row_24 : decode cX6_row 24 = .ok (.ireturn, 1) := by decide +kernel
theorem dX6_row_25 : decode cX6_row 25 = .ok (.iconst 0, 1) := by decide +kernel
theorem dX6_row_26 : decode cX6_row 26 = .ok (.istore_n 3, 1) := by decide +kernel
theorem dX6_row_27 : decode cX6_row 27 = .ok (.iload_n 3, 1) := by decide +kernel
theorem dX6_row_28 : decode cX6_row 28 = .ok (.iload_n 2, 1) := by decide +kernel
theorem dX6_row_29 : decode cX6_row 29 = .ok (.if_icmp .ge 18, 3) := by decide +kernel
theorem dX6_row_32 : decode cX6_row 32 = .ok (.aload_n 0, 1) := by decide +kernel
theorem dX6_row_33 : decode cX6_row 33 = .ok (.getfield 17, 3) := by decide +kernel
theorem dX6_row_36 : decode cX6_row 36 = .ok (.iload_n 1, 1) := by decide +kernel
theorem dX6_row_37 : decode cX6_row 37 = .ok (.aaload, 1) := by decide +kernel
theorem dX6_row_38 : decode cX6_row 38 = .ok (.iload_n 3, 1) := by decide +kernel
theorem dX6_row_39 : decode cX6_row 39 = .ok (.iconst 0, 1) := by decide +kernel
theorem dX6_row_40 : decode cX6_row 40 = .ok (.iastore, 1) := by decide +kernel
theorem dX6_row_41 : decode cX6_row 41 = .ok (.iinc 3 1, 3) := by decide +kernel
theorem dX6_row_44 : decode cX6_row 44 = .ok (.goto (-17), 3) := by decide +kernel
theorem dX6_row_47 : decode cX6_row 47 = .ok (.aload_n 0, 1) := by decide +kernel
theorem dX6_row_48 : decode cX6_row 48 = .ok (.getfield 20, 3) := by decide +kernel
theorem dX6_row_51 : decode cX6_row 51 = .ok (.iload_n 1, 1) := by decide +kernel
theorem dX6_row_52 : decode cX6_row 52 = .ok (.iload_n 2, 1) := by decide +kernel
theorem dX6_row_53 : decode cX6_row 53 = .ok (.iastore, 1) := by decide +kernel
theorem dX6_row_54 : decode cX6_row 54 = .ok (.iload_n 2, 1) := by decide +kernel
theorem dX6_row_55 : decode cX6_row 55 = .ok (.ireturn, 1) := by decide +kernel
set_option maxRecDepth 20000 in
theorem ggX6_lay_X6_isRowNumber : GoodIn wsX6_lay wsX6_isRowNumber := goodIn_r _ [6] (by decide +kernel) (by decide +kernel)
set_option maxRecDepth 20000 in
theorem gX6_lay_X6_isRowNumber : GoodIn wsX6_lay (va_wsS RX6 60 yX6_isRowNumber wsX6_isRowNumber) := goodIn_app (goodIn_of _ (by decide +kernel)) ggX6_lay_X6_isRowNumber
set_option maxRecDepth 20000 in
theorem ggX6_lay_X6_refused : GoodIn wsX6_lay wsX6_refused := goodIn_r _ [10, 11, 12, 13, 14, 15, 16, 17, 18, 19, 20, 21, 22, 23, 24, 25] (by decide +kernel) (by decide +kernel)
set_option maxRecDepth 20000 in
theorem gX6_lay_X6_refused : GoodIn wsX6_lay (wsV RX6 71 RX6 yX6_refused wsX6_refused) := goodIn_app (goodIn_of _ (by decide +kernel)) ggX6_lay_X6_refused
theorem dX6_lay_0 : decode cX6_lay 0 = .ok (.iload_n 1, 1) := by decide +kernel
theorem dX6_lay_1 : decode cX6_lay 1 = .ok (.invokestatic 60, 3) := by decide +kernel
theorem dX6_lay_4 : decode cX6_lay 4 = .ok (.ifCond .ne 5, 3) := by decide +kernel
theorem dX6_lay_7 : decode cX6_lay 7 = .ok (.iconst (-1), 1) := by decide +kernel
theorem dX6_lay_8 : decode cX6_lay 8 = .ok (.ireturn, 1) := by decide +kernel
theorem dX6_lay_9 : decode cX6_lay 9 = .ok (.aload_n 0, 1) := by decide +kernel
theorem dX6_lay_10 : decode cX6_lay 10 = .ok (.getfield 20, 3) := by decide +kernel
theorem dX6_lay_13 : decode cX6_lay 13 = .ok (.iload_n 1, 1) := by decide +kernel
theorem dX6_lay_14 : decode cX6_lay 14 = .ok (.iaload, 1) := by decide +kernel
theorem dX6_lay_15 : decode cX6_lay 15 = .ok (.ifCond .ge 9, 3) := by decide +kernel
theorem dX6_lay_18 : decode cX6_lay 18 = .ok (.aload_n 0, 1) := by decide +kernel
theorem dX6_lay_19 : decode cX6_lay 19 = .ok (.iconst 1, 1) := by decide +kernel
theorem dX6_lay_20 : decode cX6_lay 20 = .ok (.invokevirtual 71, 3) := by decide +kernel
theorem dX6_lay_23 : decode cX6_lay 23 = .ok (.ireturn, 1) := by decide +kernel
theorem dX6_lay_24 : decode cX6_lay 24 = .ok (.iload_n 2, 1) := by decide +kernel
theorem dX6_lay_25 : decode cX6_lay 25 = .ok (.ifCond .lt 13, 3) := by decide +kernel
theorem dX6_lay_28 : decode cX6_lay 28 = .ok (.iload_n 2, 1) := by decide +kernel
theorem dX6_lay_29 : decode cX6_lay 29 = .ok (.aload_n 0, 1) := by decide +kernel
theorem dX6_lay_30 : decode cX6_lay 30 = .ok (.getfield 20, 3) := by decide +kernel
theorem dX6_lay_33 : decode cX6_lay 33 = .ok (.iload_n 1, 1) := by decide +kernel
theorem dX6_lay_34 : decode cX6_lay 34 = .ok (.iaload, 1) := by decide +kernel
theorem dX6_lay_35 : decode cX6_lay 35 = .ok (.if_icmp .lt 9, 3) := by decide +kernel
theorem dX6_lay_38 : decode cX6_lay 38 = .ok (.aload_n 0, 1) := by decide +kernel
theorem dX6_lay_39 : decode cX6_lay 39 = .ok (.iconst 2, 1) := by decide +kernel
theorem dX6_lay_40 : decode cX6_lay 40 = .ok (.invokevirtual 71, 3) := by decide +kernel
theorem dX6_lay_43 : decode cX6_lay 43 = .ok (.ireturn, 1) := by decide +kernel
theorem dX6_lay_44 : decode cX6_lay 44 = .ok (.aload_n 0, 1) := by decide +kernel
theorem dX6_lay_45 : decode cX6_lay 45 = .ok (.getfield 17, 3) := by decide +kernel
theorem dX6_lay_48 : decode cX6_lay 48 = .ok (.iload_n 1, 1) := by decide +kernel
theorem dX6_lay_49 : decode cX6_lay 49 = .ok (.aaload, 1) := by decide +kernel
theorem dX6_lay_50 : decode cX6_lay 50 = .ok (.iload_n 2, 1) := by decide +kernel
theorem dX6_lay_51 : decode cX6_lay 51 = .ok (.iaload, 1) := by decide +kernel
theorem dX6_lay_52 : decode cX6_lay 52 = .ok (.istore 4, 2) := by decide +kernel
theorem dX6_lay_54 : decode cX6_lay 54 = .ok (.aload_n 0, 1) := by decide +kernel
theorem dX6_lay_55 : decode cX6_lay 55 = .ok (.getfield 17, 3) := by decide +kernel
theorem dX6_lay_58 : decode cX6_lay 58 = .ok (.iload_n 1, 1) := by decide +kernel
theorem dX6_lay_59 : decode cX6_lay 59 = .ok (.aaload, 1) := by decide +kernel
theorem dX6_lay_60 : decode cX6_lay 60 = .ok (.iload_n 2, 1) := by decide +kernel
theorem dX6_lay_61 : decode cX6_lay 61 = .ok (.iload_n 3, 1) := by decide +kernel
theorem dX6_lay_62 : decode cX6_lay 62 = .ok (.iastore, 1) := by decide +kernel
theorem dX6_lay_63 : decode cX6_lay 63 = .ok (.iload 4, 2) := by decide +kernel
theorem dX6_lay_65 : decode cX6_lay 65 = .ok (.sipush 1000, 3) := by decide +kernel
theorem dX6_lay_68 : decode cX6_lay 68 = .ok (.iadd, 1) := by decide +kernel
theorem dX6_lay_69 : decode cX6_lay 69 = .ok (.ireturn, 1) := by decide +kernel
set_option maxRecDepth 20000 in
theorem ggX6_tear_X6_isRowNumber : GoodIn wsX6_tear wsX6_isRowNumber := goodIn_r _ [5] (by decide +kernel) (by decide +kernel)
set_option maxRecDepth 20000 in
theorem gX6_tear_X6_isRowNumber : GoodIn wsX6_tear (va_wsS RX6 60 yX6_isRowNumber wsX6_isRowNumber) := goodIn_app (goodIn_of _ (by decide +kernel)) ggX6_tear_X6_isRowNumber
set_option maxRecDepth 20000 in
theorem ggX6_tear_X6_refused : GoodIn wsX6_tear wsX6_refused := goodIn_r _ [9, 10, 11, 12, 13, 14, 15, 16, 17, 18, 19, 20, 21, 22, 23, 24] (by decide +kernel) (by decide +kernel)
set_option maxRecDepth 20000 in
theorem gX6_tear_X6_refused : GoodIn wsX6_tear (wsV RX6 71 RX6 yX6_refused wsX6_refused) := goodIn_app (goodIn_of _ (by decide +kernel)) ggX6_tear_X6_refused
theorem dX6_tear_0 : decode cX6_tear 0 = .ok (.iload_n 1, 1) := by decide +kernel
theorem dX6_tear_1 : decode cX6_tear 1 = .ok (.invokestatic 60, 3) := by decide +kernel
theorem dX6_tear_4 : decode cX6_tear 4 = .ok (.ifCond .ne 5, 3) := by decide +kernel
theorem dX6_tear_7 : decode cX6_tear 7 = .ok (.iconst (-1), 1) := by decide +kernel
theorem dX6_tear_8 : decode cX6_tear 8 = .ok (.ireturn, 1) := by decide +kernel
theorem dX6_tear_9 : decode cX6_tear 9 = .ok (.aload_n 0, 1) := by decide +kernel
theorem dX6_tear_10 : decode cX6_tear 10 = .ok (.getfield 20, 3) := by decide +kernel
theorem dX6_tear_13 : decode cX6_tear 13 = .ok (.iload_n 1, 1) := by decide +kernel
theorem dX6_tear_14 : decode cX6_tear 14 = .ok (.iaload, 1) := by decide +kernel
theorem dX6_tear_15 : decode cX6_tear 15 = .ok (.ifCond .ge 9, 3) := by decide +kernel
theorem dX6_tear_18 : decode cX6_tear 18 = .ok (.aload_n 0, 1) := by decide +kernel
theorem dX6_tear_19 : decode cX6_tear 19 = .ok (.iconst 1, 1) := by decide +kernel
theorem dX6_tear_20 : decode cX6_tear 20 = .ok (.invokevirtual 71, 3) := by decide +kernel
theorem dX6_tear_23 : decode cX6_tear 23 = .ok (.ireturn, 1) := by decide +kernel
theorem dX6_tear_24 : decode cX6_tear 24 = .ok (.aload_n 0, 1) := by decide +kernel
theorem dX6_tear_25 : decode cX6_tear 25 = .ok (.getfield 20, 3) := by decide +kernel
theorem dX6_tear_28 : decode cX6_tear 28 = .ok (.iload_n 1, 1) := by decide +kernel
theorem dX6_tear_29 : decode cX6_tear 29 = .ok (.iconst (-1), 1) := by decide +kernel
theorem dX6_tear_30 : decode cX6_tear 30 = .ok (.iastore, 1) := by decide +kernel
theorem dX6_tear_31 : decode cX6_tear 31 = .ok (.iconst 1, 1) := by decide +kernel
theorem dX6_tear_32 : decode cX6_tear 32 = .ok (.ireturn, 1) := by decide +kernel
set_option maxRecDepth 20000 in
theorem ggX6_copy_X6_isRowNumber : GoodIn wsX6_copy wsX6_isRowNumber := goodIn_r _ [10] (by decide +kernel) (by decide +kernel)
set_option maxRecDepth 20000 in
theorem gX6_copy_X6_isRowNumber : GoodIn wsX6_copy (va_wsS RX6 60 yX6_isRowNumber wsX6_isRowNumber) := goodIn_app (goodIn_of _ (by decide +kernel)) ggX6_copy_X6_isRowNumber
set_option maxRecDepth 20000 in
theorem ggX6_copy_X6_refused : GoodIn wsX6_copy wsX6_refused := goodIn_r _ [14, 15, 16, 21, 22, 23, 24, 25, 26, 27, 28, 29, 30, 31, 32, 33] (by decide +kernel) (by decide +kernel)
set_option maxRecDepth 20000 in
theorem gX6_copy_X6_refused : GoodIn wsX6_copy (wsV RX6 71 RX6 yX6_refused wsX6_refused) := goodIn_app (goodIn_of _ (by decide +kernel)) ggX6_copy_X6_refused
set_option maxRecDepth 20000 in
theorem ggX6_copy_X6_rowHasPlaces : GoodIn wsX6_copy wsX6_rowHasPlaces := goodIn_r _ [20, 1, 21, 22, 23, 24, 25, 26, 27, 28, 29, 30, 31, 32, 33] (by decide +kernel) (by decide +kernel)
set_option maxRecDepth 20000 in
theorem gX6_copy_X6_rowHasPlaces : GoodIn wsX6_copy (wsV RX6 246 RX6 yX6_rowHasPlaces wsX6_rowHasPlaces) := goodIn_app (goodIn_of _ (by decide +kernel)) ggX6_copy_X6_rowHasPlaces
theorem dX6_copy_0 : decode cX6_copy 0 = .ok (.iload_n 1, 1) := by decide +kernel
theorem dX6_copy_1 : decode cX6_copy 1 = .ok (.invokestatic 60, 3) := by decide +kernel
theorem dX6_copy_4 : decode cX6_copy 4 = .ok (.ifCond .eq 10, 3) := by decide +kernel
theorem dX6_copy_7 : decode cX6_copy 7 = .ok (.iload_n 3, 1) := by decide +kernel
theorem dX6_copy_8 : decode cX6_copy 8 = .ok (.invokestatic 60, 3) := by decide +kernel
theorem dX6_copy_11 : decode cX6_copy 11 = .ok (.ifCond .ne 5, 3) := by decide +kernel
theorem dX6_copy_14 : decode cX6_copy 14 = .ok (.iconst (-1), 1) := by decide +kernel
theorem dX6_copy_15 : decode cX6_copy 15 = .ok (.ireturn, 1) := by decide +kernel
theorem dX6_copy_16 : decode cX6_copy 16 = .ok (.iload 5, 2) := by decide +kernel
theorem dX6_copy_18 : decode cX6_copy 18 = .ok (.ifCond .ge 9, 3) := by decide +kernel
theorem dX6_copy_21 : decode cX6_copy 21 = .ok (.aload_n 0, 1) := by decide +kernel
theorem dX6_copy_22 : decode cX6_copy 22 = .ok (.iconst 5, 1) := by decide +kernel
theorem dX6_copy_23 : decode cX6_copy 23 = .ok (.invokevirtual 71, 3) := by decide +kernel
theorem dX6_copy_26 : decode cX6_copy 26 = .ok (.ireturn, 1) := by decide +kernel
theorem dX6_copy_27 : decode cX6_copy 27 = .ok (.aload_n 0, 1) := by decide +kernel
theorem dX6_copy_28 : decode cX6_copy 28 = .ok (.getfield 20, 3) := by decide +kernel
theorem dX6_copy_31 : decode cX6_copy 31 = .ok (.iload_n 1, 1) := by decide +kernel
theorem dX6_copy_32 : decode cX6_copy 32 = .ok (.iaload, 1) := by decide +kernel
theorem dX6_copy_33 : decode cX6_copy 33 = .ok (.ifCond .lt 12, 3) := by decide +kernel
theorem dX6_copy_36 : decode cX6_copy 36 = .ok (.aload_n 0, 1) := by decide +kernel
theorem dX6_copy_37 : decode cX6_copy 37 = .ok (.getfield 20, 3) := by decide +kernel
theorem dX6_copy_40 : decode cX6_copy 40 = .ok (.iload_n 3, 1) := by decide +kernel
theorem dX6_copy_41 : decode cX6_copy 41 = .ok (.iaload, 1) := by decide +kernel
theorem dX6_copy_42 : decode cX6_copy 42 = .ok (.ifCond .ge 9, 3) := by decide +kernel
theorem dX6_copy_45 : decode cX6_copy 45 = .ok (.aload_n 0, 1) := by decide +kernel
theorem dX6_copy_46 : decode cX6_copy 46 = .ok (.iconst 1, 1) := by decide +kernel
theorem dX6_copy_47 : decode cX6_copy 47 = .ok (.invokevirtual 71, 3) := by decide +kernel
theorem dX6_copy_50 : decode cX6_copy 50 = .ok (.ireturn, 1) := by decide +kernel
theorem dX6_copy_51 : decode cX6_copy 51 = .ok (.aload_n 0, 1) := by decide +kernel
theorem dX6_copy_52 : decode cX6_copy 52 = .ok (.iload_n 1, 1) := by decide +kernel
theorem dX6_copy_53 : decode cX6_copy 53 = .ok (.iload_n 2, 1) := by decide +kernel
theorem dX6_copy_54 : decode cX6_copy 54 = .ok (.iload 5, 2) := by decide +kernel
theorem dX6_copy_56 : decode cX6_copy 56 = .ok (.invokevirtual 246, 3) := by decide +kernel
theorem dX6_copy_59 : decode cX6_copy 59 = .ok (.ifCond .eq 15, 3) := by decide +kernel
theorem dX6_copy_62 : decode cX6_copy 62 = .ok (.aload_n 0, 1) := by decide +kernel
theorem dX6_copy_63 : decode cX6_copy 63 = .ok (.iload_n 3, 1) := by decide +kernel
theorem dX6_copy_64 : decode cX6_copy 64 = .ok (.iload 4, 2) := by decide +kernel
theorem dX6_copy_66 : decode cX6_copy 66 = .ok (.iload 5, 2) := by decide +kernel
theorem dX6_copy_68 : decode cX6_copy 68 = .ok (.invokevirtual 246, 3) := by decide +kernel
theorem dX6_copy_71 : decode cX6_copy 71 = .ok (.ifCond .ne 9, 3) := by decide +kernel
theorem dX6_copy_74 : decode cX6_copy 74 = .ok (.aload_n 0, 1) := by decide +kernel
theorem dX6_copy_75 : decode cX6_copy 75 = .ok (.iconst 2, 1) := by decide +kernel
theorem dX6_copy_76 : decode cX6_copy 76 = .ok (.invokevirtual 71, 3) := by decide +kernel
theorem dX6_copy_79 : decode cX6_copy 79 = .ok (.ireturn, 1) := by decide +kernel
theorem dX6_copy_80 : decode cX6_copy 80 = .ok (.aload_n 0, 1) := by decide +kernel
theorem dX6_copy_81 : decode cX6_copy 81 = .ok (.getfield 17, 3) := by decide +kernel
theorem dX6_copy_84 : decode cX6_copy 84 = .ok (.iload_n 1, 1) := by decide +kernel
theorem dX6_copy_85 : decode cX6_copy 85 = .ok (.aaload, 1) := by decide +kernel
theorem dX6_copy_86 : decode cX6_copy 86 = .ok (.iload_n 2, 1) := by decide +kernel
theorem dX6_copy_87 : decode cX6_copy 87 = .ok (.aload_n 0, 1) := by decide +kernel
theorem dX6_copy_88 : decode cX6_copy 88 = .ok (.getfield 17, 3) := by decide +kernel
theorem dX6_copy_91 : decode cX6_copy 91 = .ok (.iload_n 3, 1) := by decide +kernel
theorem dX6_copy_92 : decode cX6_copy 92 = .ok (.aaload, 1) := by decide +kernel
theorem dX6_copy_93 : decode cX6_copy 93 = .ok (.iload 4, 2) := by decide +kernel
theorem dX6_copy_95 : decode cX6_copy 95 = .ok (.iload 5, 2) := by decide +kernel
theorem dX6_copy_97 : decode cX6_copy 97 = .ok (.invokestatic 236, 3) := by decide +kernel
theorem dX6_copy_100 : decode cX6_copy 100 = .ok (.iconst 1, 1) := by decide +kernel
theorem dX6_copy_101 : decode cX6_copy 101 = .ok (.ireturn, 1) := by decide +kernel
theorem dX6_asked_0 : decode cX6_asked 0 = .ok (.aload_n 0, 1) := by decide +kernel
theorem dX6_asked_1 : decode cX6_asked 1 = .ok (.getfield 168, 3) := by decide +kernel
theorem dX6_asked_4 : decode cX6_asked 4 = .ok (.lreturn, 1) := by decide +kernel
theorem dX6_count_0 : decode cX6_count 0 = .ok (.iload_n 1, 1) := by decide +kernel
theorem dX6_count_1 : decode cX6_count 1 = .ok (.ifCond .lt 8, 3) := by decide +kernel
theorem dX6_count_4 : decode cX6_count 4 = .ok (.iload_n 1, 1) := by decide +kernel
theorem dX6_count_5 : decode cX6_count 5 = .ok (.iconst 3, 1) := by decide +kernel
theorem dX6_count_6 : decode cX6_count 6 = .ok (.if_icmp .le 5, 3) := by decide +kernel
theorem dX6_count_9 : decode cX6_count 9 = .ok (.iconst (-1), 1) := by decide +kernel
theorem dX6_count_10 : decode cX6_count 10 = .ok (.ireturn, 1) := by decide +kernel
theorem dX6_count_11 : decode cX6_count 11 = .ok (.iconst 0, 1) := by decide +kernel
theorem dX6_count_12 : decode cX6_count 12 = .ok (.istore_n 2, 1) := by decide +kernel
theorem dX6_count_13 : decode cX6_count 13 = .ok (.iload_n 1, 1) := by decide +kernel
theorem dX6_count_14 : decode cX6_count 14 = .ok (.iconst 3, 1) := by decide +kernel
theorem dX6_count_15 : decode cX6_count 15 = .ok (.if_icmp .ne 35, 3) := by decide +kernel
theorem dX6_count_18 : decode cX6_count 18 = .ok (.iconst 0, 1) := by decide +kernel
theorem dX6_count_19 : decode cX6_count 19 = .ok (.istore_n 3, 1) := by decide +kernel
theorem dX6_count_20 : decode cX6_count 20 = .ok (.iload_n 3, 1) := by decide +kernel
theorem dX6_count_21 : decode cX6_count 21 = .ok (.iconst 4, 1) := by decide +kernel
theorem dX6_count_22 : decode cX6_count 22 = .ok (.if_icmp .ge 26, 3) := by decide +kernel
theorem dX6_count_25 : decode cX6_count 25 = .ok (.iload_n 2, 1) := by decide +kernel
theorem dX6_count_26 : decode cX6_count 26 = .ok (.aload_n 0, 1) := by decide +kernel
theorem dX6_count_27 : decode cX6_count 27 = .ok (.getfield 20, 3) := by decide +kernel
theorem dX6_count_30 : decode cX6_count 30 = .ok (.iload_n 3, 1) := by decide +kernel
theorem dX6_count_31 : decode cX6_count 31 = .ok (.iaload, 1) := by decide +kernel
theorem dX6_count_32 : decode cX6_count 32 = .ok (.ifCond .ge 7, 3) := by decide +kernel
theorem dX6_count_35 : decode cX6_count 35 = .ok (.iconst 0, 1) := by decide +kernel
theorem dX6_count_36 : decode cX6_count 36 = .ok (.goto 4, 3) := by decide +kernel
theorem dX6_count_39 : decode cX6_count 39 = .ok (.iconst 1, 1) := by decide +kernel
theorem dX6_count_40 : decode cX6_count 40 = .ok (.iadd, 1) := by decide +kernel
theorem dX6_count_41 : decode cX6_count 41 = .ok (.istore_n 2, 1) := by decide +kernel
theorem dX6_count_42 : decode cX6_count 42 = .ok (.iinc 3 1, 3) := by decide +kernel
theorem dX6_count_45 : decode cX6_count 45 = .ok (.goto (-25), 3) := by decide +kernel
theorem dX6_count_48 : decode cX6_count 48 = .ok (.iload_n 2, 1) := by decide +kernel
theorem dX6_count_49 : decode cX6_count 49 = .ok (.ireturn, 1) := by decide +kernel
theorem dX6_count_50 : decode cX6_count 50 = .ok (.iconst 0, 1) := by decide +kernel
theorem dX6_count_51 : decode cX6_count 51 = .ok (.istore_n 3, 1) := by decide +kernel
theorem dX6_count_52 : decode cX6_count 52 = .ok (.iload_n 3, 1) := by decide +kernel
theorem dX6_count_53 : decode cX6_count 53 = .ok (.bipush 6, 2) := by decide +kernel
theorem dX6_count_55 : decode cX6_count 55 = .ok (.if_icmp .ge 58, 3) := by decide +kernel
theorem dX6_count_58 : decode cX6_count 58 = .ok (.aload_n 0, 1) := by decide +kernel
theorem dX6_count_59 : decode cX6_count 59 = .ok (.getfield 11, 3) := by decide +kernel
theorem dX6_count_62 : decode cX6_count 62 = .ok (.iload_n 3, 1) := by decide +kernel
theorem dX6_count_63 : decode cX6_count 63 = .ok (.aaload, 1) := by decide +kernel
theorem dX6_count_64 : decode cX6_count 64 = .ok (.getfield 63, 3) := by decide +kernel
theorem dX6_count_67 : decode cX6_count 67 = .ok (.ifCond .eq 40, 3) := by decide +kernel
theorem dX6_count_70 : decode cX6_count 70 = .ok (.iload_n 2, 1) := by decide +kernel
theorem dX6_count_71 : decode cX6_count 71 = .ok (.iload_n 1, 1) := by decide +kernel
theorem dX6_count_72 : decode cX6_count 72 = .ok (.ifCond .ne 7, 3) := by decide +kernel
theorem dX6_count_75 : decode cX6_count 75 = .ok (.iconst 1, 1) := by decide +kernel
theorem dX6_count_76 : decode cX6_count 76 = .ok (.goto 29, 3) := by decide +kernel
theorem dX6_count_79 : decode cX6_count 79 = .ok (.iload_n 1, 1) := by decide +kernel
theorem dX6_count_80 : decode cX6_count 80 = .ok (.iconst 1, 1) := by decide +kernel
theorem dX6_count_81 : decode cX6_count 81 = .ok (.if_icmp .ne 15, 3) := by decide +kernel
theorem dX6_count_84 : decode cX6_count 84 = .ok (.aload_n 0, 1) := by decide +kernel
theorem dX6_count_85 : decode cX6_count 85 = .ok (.getfield 11, 3) := by decide +kernel
theorem dX6_count_88 : decode cX6_count 88 = .ok (.iload_n 3, 1) := by decide +kernel
theorem dX6_count_89 : decode cX6_count 89 = .ok (.aaload, 1) := by decide +kernel
theorem dX6_count_90 : decode cX6_count 90 = .ok (.getfield 102, 3) := by decide +kernel
theorem dX6_count_93 : decode cX6_count 93 = .ok (.goto 12, 3) := by decide +kernel
theorem dX6_count_96 : decode cX6_count 96 = .ok (.aload_n 0, 1) := by decide +kernel
theorem dX6_count_97 : decode cX6_count 97 = .ok (.getfield 11, 3) := by decide +kernel
theorem dX6_count_100 : decode cX6_count 100 = .ok (.iload_n 3, 1) := by decide +kernel
theorem dX6_count_101 : decode cX6_count 101 = .ok (.aaload, 1) := by decide +kernel
theorem dX6_count_102 : decode cX6_count 102 = .ok (.getfield 67, 3) := by decide +kernel
theorem dX6_count_105 : decode cX6_count 105 = .ok (.iadd, 1) := by decide +kernel
theorem dX6_count_106 : decode cX6_count 106 = .ok (.istore_n 2, 1) := by decide +kernel
theorem dX6_count_107 : decode cX6_count 107 = .ok (.iinc 3 1, 3) := by decide +kernel
theorem dX6_count_110 : decode cX6_count 110 = .ok (.goto (-58), 3) := by decide +kernel
theorem dX6_count_113 : decode cX6_count 113 = .ok (.iload_n 2, 1) := by decide +kernel
theorem dX6_count_114 : decode cX6_count 114 = .ok (.ireturn, 1) := by decide +kernel
theorem dX6_finding_0 : decode cX6_finding 0 = .ok (.aload_n 0, 1) := by decide +kernel
theorem dX6_finding_1 : decode cX6_finding 1 = .ok (.getfield 250, 3) := by decide +kernel
theorem dX6_finding_4 : decode cX6_finding 4 = .ok (.ireturn, 1) := by decide +kernel
theorem dX6_findings_0 : decode cX6_findings 0 = .ok (.iload_n 1, 1) := by decide +kernel
theorem dX6_findings_1 : decode cX6_findings 1 = .ok (.iconst 1, 1) := by decide +kernel
theorem dX6_findings_2 : decode cX6_findings 2 = .ok (.if_icmp .lt 8, 3) := by decide +kernel
theorem dX6_findings_5 : decode cX6_findings 5 = .ok (.iload_n 1, 1) := by decide +kernel
theorem dX6_findings_6 : decode cX6_findings 6 = .ok (.iconst 5, 1) := by decide +kernel
theorem dX6_findings_7 : decode cX6_findings 7 = .ok (.if_icmp .le 5, 3) := by decide +kernel
theorem dX6_findings_10 : decode cX6_findings 10 = .ok (.iconst (-1), 1) := by decide +kernel
theorem dX6_findings_11 : decode cX6_findings 11 = .ok (.ireturn, 1) := by decide +kernel
theorem dX6_findings_12 : decode cX6_findings 12 = .ok (.aload_n 0, 1) := by decide +kernel
theorem dX6_findings_13 : decode cX6_findings 13 = .ok (.getfield 24, 3) := by decide +kernel
theorem dX6_findings_16 : decode cX6_findings 16 = .ok (.iload_n 1, 1) := by decide +kernel
theorem dX6_findings_17 : decode cX6_findings 17 = .ok (.iaload, 1) := by decide +kernel
theorem dX6_findings_18 : decode cX6_findings 18 = .ok (.ireturn, 1) := by decide +kernel
set_option maxRecDepth 20000 in
theorem ggX6_digest_X5_digestOn : GoodIn wsX6_digest wsX5_digestOn := goodIn_r _ [10, 11, 12, 13, 14, 15, 16, 30, 31, 32, 33, 34, 35, 36, 37] (by decide +kernel) (by decide +kernel)
set_option maxRecDepth 20000 in
theorem gX6_digest_X5_digestOn : GoodIn wsX6_digest (wsV RX6 255 RX5 yX5_digestOn wsX5_digestOn) := goodIn_app (goodIn_of _ (by decide +kernel)) ggX6_digest_X5_digestOn
theorem dX6_digest_0 : decode cX6_digest 0 = .ok (.ldc2_w 253, 3) := by decide +kernel
theorem dX6_digest_3 : decode cX6_digest 3 = .ok (.lstore_n 1, 1) := by decide +kernel
theorem dX6_digest_4 : decode cX6_digest 4 = .ok (.iconst 0, 1) := by decide +kernel
theorem dX6_digest_5 : decode cX6_digest 5 = .ok (.istore_n 3, 1) := by decide +kernel
theorem dX6_digest_6 : decode cX6_digest 6 = .ok (.iload_n 3, 1) := by decide +kernel
theorem dX6_digest_7 : decode cX6_digest 7 = .ok (.bipush 6, 2) := by decide +kernel
theorem dX6_digest_9 : decode cX6_digest 9 = .ok (.if_icmp .ge 20, 3) := by decide +kernel
theorem dX6_digest_12 : decode cX6_digest 12 = .ok (.aload_n 0, 1) := by decide +kernel
theorem dX6_digest_13 : decode cX6_digest 13 = .ok (.getfield 11, 3) := by decide +kernel
theorem dX6_digest_16 : decode cX6_digest 16 = .ok (.iload_n 3, 1) := by decide +kernel
theorem dX6_digest_17 : decode cX6_digest 17 = .ok (.aaload, 1) := by decide +kernel
theorem dX6_digest_18 : decode cX6_digest 18 = .ok (.lload_n 1, 1) := by decide +kernel
theorem dX6_digest_19 : decode cX6_digest 19 = .ok (.invokevirtual 255, 3) := by decide +kernel
theorem dX6_digest_22 : decode cX6_digest 22 = .ok (.lstore_n 1, 1) := by decide +kernel
theorem dX6_digest_23 : decode cX6_digest 23 = .ok (.iinc 3 1, 3) := by decide +kernel
theorem dX6_digest_26 : decode cX6_digest 26 = .ok (.goto (-20), 3) := by decide +kernel
theorem dX6_digest_29 : decode cX6_digest 29 = .ok (.iconst 0, 1) := by decide +kernel
theorem dX6_digest_30 : decode cX6_digest 30 = .ok (.istore_n 3, 1) := by decide +kernel
theorem dX6_digest_31 : decode cX6_digest 31 = .ok (.iload_n 3, 1) := by decide +kernel
theorem dX6_digest_32 : decode cX6_digest 32 = .ok (.iconst 4, 1) := by decide +kernel
theorem dX6_digest_33 : decode cX6_digest 33 = .ok (.if_icmp .ge 60, 3) := by decide +kernel
theorem dX6_digest_36 : decode cX6_digest 36 = .ok (.ldc2_w 258, 3) := by decide +kernel
theorem dX6_digest_39 : decode cX6_digest 39 = .ok (.lload_n 1, 1) := by decide +kernel
theorem dX6_digest_40 : decode cX6_digest 40 = .ok (.lmul, 1) := by decide +kernel
theorem dX6_digest_41 : decode cX6_digest 41 = .ok (.aload_n 0, 1) := by decide +kernel
theorem dX6_digest_42 : decode cX6_digest 42 = .ok (.getfield 20, 3) := by decide +kernel
theorem dX6_digest_45 : decode cX6_digest 45 = .ok (.iload_n 3, 1) := by decide +kernel
theorem dX6_digest_46 : decode cX6_digest 46 = .ok (.iaload, 1) := by decide +kernel
theorem dX6_digest_47 : decode cX6_digest 47 = .ok (.i2l, 1) := by decide +kernel
theorem dX6_digest_48 : decode cX6_digest 48 = .ok (.ladd, 1) := by decide +kernel
theorem dX6_digest_49 : decode cX6_digest 49 = .ok (.lstore_n 1, 1) := by decide +kernel
theorem dX6_digest_50 : decode cX6_digest 50 = .ok (.iconst 0, 1) := by decide +kernel
theorem dX6_digest_51 : decode cX6_digest 51 = .ok (.istore 4, 2) := by decide +kernel
theorem dX6_digest_53 : decode cX6_digest 53 = .ok (.iload 4, 2) := by decide +kernel
theorem dX6_digest_55 : decode cX6_digest 55 = .ok (.aload_n 0, 1) := by decide +kernel
theorem dX6_digest_56 : decode cX6_digest 56 = .ok (.getfield 20, 3) := by decide +kernel
theorem dX6_digest_59 : decode cX6_digest 59 = .ok (.iload_n 3, 1) := by decide +kernel
theorem dX6_digest_60 : decode cX6_digest 60 = .ok (.iaload, 1) := by decide +kernel
theorem dX6_digest_61 : decode cX6_digest 61 = .ok (.if_icmp .ge 26, 3) := by decide +kernel
theorem dX6_digest_64 : decode cX6_digest 64 = .ok (.ldc2_w 258, 3) := by decide +kernel
theorem dX6_digest_67 : decode cX6_digest 67 = .ok (.lload_n 1, 1) := by decide +kernel
theorem dX6_digest_68 : decode cX6_digest 68 = .ok (.lmul, 1) := by decide +kernel
theorem dX6_digest_69 : decode cX6_digest 69 = .ok (.aload_n 0, 1) := by decide +kernel
theorem dX6_digest_70 : decode cX6_digest 70 = .ok (.getfield 17, 3) := by decide +kernel
theorem dX6_digest_73 : decode cX6_digest 73 = .ok (.iload_n 3, 1) := by decide +kernel
theorem dX6_digest_74 : decode cX6_digest 74 = .ok (.aaload, 1) := by decide +kernel
theorem dX6_digest_75 : decode cX6_digest 75 = .ok (.iload 4, 2) := by decide +kernel
theorem dX6_digest_77 : decode cX6_digest 77 = .ok (.iaload, 1) := by decide +kernel
theorem dX6_digest_78 : decode cX6_digest 78 = .ok (.i2l, 1) := by decide +kernel
theorem dX6_digest_79 : decode cX6_digest 79 = .ok (.ladd, 1) := by decide +kernel
theorem dX6_digest_80 : decode cX6_digest 80 = .ok (.lstore_n 1, 1) := by decide +kernel
theorem dX6_digest_81 : decode cX6_digest 81 = .ok (.iinc 4 1, 3) := by decide +kernel
theorem dX6_digest_84 : decode cX6_digest 84 = .ok (.goto (-31), 3) := by decide +kernel
theorem dX6_digest_87 : decode cX6_digest 87 = .ok (.iinc 3 1, 3) := by decide +kernel
theorem dX6_digest_90 : decode cX6_digest 90 = .ok (.goto (-59), 3) := by decide +kernel
theorem dX6_digest_93 : decode cX6_digest 93 = .ok (.lload_n 1, 1) := by decide +kernel
theorem dX6_digest_94 : decode cX6_digest 94 = .ok (.lreturn, 1) := by decide +kernel
theorem dX6_isWorldNumber_0 : decode cX6_isWorldNumber 0 = .ok (.iload_n 0, 1) := by decide +kernel
theorem dX6_isWorldNumber_1 : decode cX6_isWorldNumber 1 = .ok (.ifCond .lt 13, 3) := by decide +kernel
theorem dX6_isWorldNumber_4 : decode cX6_isWorldNumber 4 = .ok (.iload_n 0, 1) := by decide +kernel
theorem dX6_isWorldNumber_5 : decode cX6_isWorldNumber 5 = .ok (.bipush 6, 2) := by decide +kernel
theorem dX6_isWorldNumber_7 : decode cX6_isWorldNumber 7 = .ok (.if_icmp .ge 7, 3) := by decide +kernel
theorem dX6_isWorldNumber_10 : decode cX6_isWorldNumber 10 = .ok (.iconst 1, 1) := by decide +kernel
theorem dX6_isWorldNumber_11 : decode cX6_isWorldNumber 11 = .ok (.goto 4, 3) := by decide +kernel
theorem dX6_isWorldNumber_14 : decode cX6_isWorldNumber 14 = .ok (.iconst 0, 1) := by decide +kernel
theorem dX6_isWorldNumber_15 : decode cX6_isWorldNumber 15 = .ok (.ireturn, 1) := by decide +kernel
theorem dX6_isRowNumber_0 : decode cX6_isRowNumber 0 = .ok (.iload_n 0, 1) := by decide +kernel
theorem dX6_isRowNumber_1 : decode cX6_isRowNumber 1 = .ok (.ifCond .lt 12, 3) := by decide +kernel
theorem dX6_isRowNumber_4 : decode cX6_isRowNumber 4 = .ok (.iload_n 0, 1) := by decide +kernel
theorem dX6_isRowNumber_5 : decode cX6_isRowNumber 5 = .ok (.iconst 4, 1) := by decide +kernel
theorem dX6_isRowNumber_6 : decode cX6_isRowNumber 6 = .ok (.if_icmp .ge 7, 3) := by decide +kernel
theorem dX6_isRowNumber_9 : decode cX6_isRowNumber 9 = .ok (.iconst 1, 1) := by decide +kernel
theorem dX6_isRowNumber_10 : decode cX6_isRowNumber 10 = .ok (.goto 4, 3) := by decide +kernel
theorem dX6_isRowNumber_13 : decode cX6_isRowNumber 13 = .ok (.iconst 0, 1) := by decide +kernel
theorem dX6_isRowNumber_14 : decode cX6_isRowNumber 14 = .ok (.ireturn, 1) := by decide +kernel
theorem dX6_isNumberOfTries_0 : decode cX6_isNumberOfTries 0 = .ok (.iload_n 0, 1) := by decide +kernel
theorem dX6_isNumberOfTries_1 : decode cX6_isNumberOfTries 1 = .ok (.iconst 1, 1) := by decide +kernel
theorem dX6_isNumberOfTries_2 : decode cX6_isNumberOfTries 2 = .ok (.if_icmp .lt 14, 3) := by decide +kernel
theorem dX6_isNumberOfTries_5 : decode cX6_isNumberOfTries 5 = .ok (.iload_n 0, 1) := by decide +kernel
theorem dX6_isNumberOfTries_6 : decode cX6_isNumberOfTries 6 = .ok (.ldc_w 260, 3) := by decide +kernel
theorem dX6_isNumberOfTries_9 : decode cX6_isNumberOfTries 9 = .ok (.if_icmp .gt 7, 3) := by decide +kernel
theorem dX6_isNumberOfTries_12 : decode cX6_isNumberOfTries 12 = .ok (.iconst 1, 1) := by decide +kernel
theorem dX6_isNumberOfTries_13 : decode cX6_isNumberOfTries 13 = .ok (.goto 4, 3) := by decide +kernel
theorem dX6_isNumberOfTries_16 : decode cX6_isNumberOfTries 16 = .ok (.iconst 0, 1) := by decide +kernel
theorem dX6_isNumberOfTries_17 : decode cX6_isNumberOfTries 17 = .ok (.ireturn, 1) := by decide +kernel
theorem dX6_refused_0 : decode cX6_refused 0 = .ok (.aload_n 0, 1) := by decide +kernel
theorem dX6_refused_1 : decode cX6_refused 1 = .ok (.iload_n 1, 1) := by decide +kernel
theorem dX6_refused_2 : decode cX6_refused 2 = .ok (.putfield 250, 3) := by decide +kernel
theorem dX6_refused_5 : decode cX6_refused 5 = .ok (.aload_n 0, 1) := by decide +kernel
theorem dX6_refused_6 : decode cX6_refused 6 = .ok (.getfield 24, 3) := by decide +kernel
theorem dX6_refused_9 : decode cX6_refused 9 = .ok (.iload_n 1, 1) := by decide +kernel
theorem dX6_refused_10 : decode cX6_refused 10 = .ok (.dup2, 1) := by decide +kernel
theorem dX6_refused_11 : decode cX6_refused 11 = .ok (.iaload, 1) := by decide +kernel
theorem dX6_refused_12 : decode cX6_refused 12 = .ok (.iconst 1, 1) := by decide +kernel
theorem dX6_refused_13 : decode cX6_refused 13 = .ok (.iadd, 1) := by decide +kernel
theorem dX6_refused_14 : decode cX6_refused 14 = .ok (.iastore, 1) := by decide +kernel
theorem dX6_refused_15 : decode cX6_refused 15 = .ok (.bipush (-3), 2) := by decide +kernel
theorem dX6_refused_17 : decode cX6_refused 17 = .ok (.ireturn, 1) := by decide +kernel
set_option maxRecDepth 20000 in
theorem ggX6_askedSet_J13_bitCount_95d88 : GoodIn wsX6_askedSet wsJ13_bitCount_95d88 := goodIn_r _ [5, 6, 7, 8] (by decide +kernel) (by decide +kernel)
set_option maxRecDepth 20000 in
theorem gX6_askedSet_J13_bitCount_95d88 : GoodIn wsX6_askedSet (va_wsS RX6 86 yJ13_bitCount_95d88 wsJ13_bitCount_95d88) := goodIn_app (goodIn_of _ (by decide +kernel)) ggX6_askedSet_J13_bitCount_95d88
theorem dX6_askedSet_0 : decode cX6_askedSet 0 = .ok (.aload_n 0, 1) := by decide +kernel
theorem dX6_askedSet_1 : decode cX6_askedSet 1 = .ok (.lload_n 1, 1) := by decide +kernel
theorem dX6_askedSet_2 : decode cX6_askedSet 2 = .ok (.putfield 168, 3) := by decide +kernel
theorem dX6_askedSet_5 : decode cX6_askedSet 5 = .ok (.lload_n 1, 1) := by decide +kernel
theorem dX6_askedSet_6 : decode cX6_askedSet 6 = .ok (.invokestatic 86, 3) := by decide +kernel
theorem dX6_askedSet_9 : decode cX6_askedSet 9 = .ok (.ireturn, 1) := by decide +kernel
set_option maxRecDepth 20000 in
theorem ggX6_firstFound_X6_askedSet : GoodIn wsX6_firstFound wsX6_askedSet := goodIn_r _ [7, 8, 9, 10, 11, 12, 13, 14, 15, 16, 17, 18, 19, 20, 21, 22, 23, 24, 25, 26, 27, 28] (by decide +kernel) (by decide +kernel)
set_option maxRecDepth 20000 in
theorem gX6_firstFound_X6_askedSet : GoodIn wsX6_firstFound (wsV RX6 162 RX6 yX6_askedSet wsX6_askedSet) := goodIn_app (goodIn_of _ (by decide +kernel)) ggX6_firstFound_X6_askedSet
theorem dX6_firstFound_0 : decode cX6_firstFound 0 = .ok (.aload_n 0, 1) := by decide +kernel
theorem dX6_firstFound_1 : decode cX6_firstFound 1 = .ok (.aload_n 0, 1) := by decide +kernel
theorem dX6_firstFound_2 : decode cX6_firstFound 2 = .ok (.getfield 36, 3) := by decide +kernel
theorem dX6_firstFound_5 : decode cX6_firstFound 5 = .ok (.getfield 200, 3) := by decide +kernel
theorem dX6_firstFound_8 : decode cX6_firstFound 8 = .ok (.putfield 203, 3) := by decide +kernel
theorem dX6_firstFound_11 : decode cX6_firstFound 11 = .ok (.aload_n 0, 1) := by decide +kernel
theorem dX6_firstFound_12 : decode cX6_firstFound 12 = .ok (.getfield 36, 3) := by decide +kernel
theorem dX6_firstFound_15 : decode cX6_firstFound 15 = .ok (.getfield 206, 3) := by decide +kernel
theorem dX6_firstFound_18 : decode cX6_firstFound 18 = .ok (.ifCond .eq 6, 3) := by decide +kernel
theorem dX6_firstFound_21 : decode cX6_firstFound 21 = .ok (.bipush (-6), 2) := by decide +kernel
theorem dX6_firstFound_23 : decode cX6_firstFound 23 = .ok (.ireturn, 1) := by decide +kernel
theorem dX6_firstFound_24 : decode cX6_firstFound 24 = .ok (.aload_n 0, 1) := by decide +kernel
theorem dX6_firstFound_25 : decode cX6_firstFound 25 = .ok (.getfield 36, 3) := by decide +kernel
theorem dX6_firstFound_28 : decode cX6_firstFound 28 = .ok (.getfield 209, 3) := by decide +kernel
theorem dX6_firstFound_31 : decode cX6_firstFound 31 = .ok (.ifCond .ne 8, 3) := by decide +kernel
theorem dX6_firstFound_34 : decode cX6_firstFound 34 = .ok (.bipush (-9), 2) := by decide +kernel
theorem dX6_firstFound_36 : decode cX6_firstFound 36 = .ok (.goto 14, 3) := by decide +kernel
theorem dX6_firstFound_39 : decode cX6_firstFound 39 = .ok (.aload_n 0, 1) := by decide +kernel
theorem dX6_firstFound_40 : decode cX6_firstFound 40 = .ok (.aload_n 0, 1) := by decide +kernel
theorem dX6_firstFound_41 : decode cX6_firstFound 41 = .ok (.getfield 36, 3) := by decide +kernel
theorem dX6_firstFound_44 : decode cX6_firstFound 44 = .ok (.getfield 261, 3) := by decide +kernel
theorem dX6_firstFound_47 : decode cX6_firstFound 47 = .ok (.invokevirtual 162, 3) := by decide +kernel
theorem dX6_firstFound_50 : decode cX6_firstFound 50 = .ok (.ireturn, 1) := by decide +kernel
theorem dX6_putSpare_0 : decode cX6_putSpare 0 = .ok (.aload_n 0, 1) := by decide +kernel
theorem dX6_putSpare_1 : decode cX6_putSpare 1 = .ok (.getfield 48, 3) := by decide +kernel
theorem dX6_putSpare_4 : decode cX6_putSpare 4 = .ok (.astore_n 2, 1) := by decide +kernel
theorem dX6_putSpare_5 : decode cX6_putSpare 5 = .ok (.aload_n 0, 1) := by decide +kernel
theorem dX6_putSpare_6 : decode cX6_putSpare 6 = .ok (.aload_n 0, 1) := by decide +kernel
theorem dX6_putSpare_7 : decode cX6_putSpare 7 = .ok (.getfield 11, 3) := by decide +kernel
theorem dX6_putSpare_10 : decode cX6_putSpare 10 = .ok (.iload_n 1, 1) := by decide +kernel
theorem dX6_putSpare_11 : decode cX6_putSpare 11 = .ok (.aaload, 1) := by decide +kernel
theorem dX6_putSpare_12 : decode cX6_putSpare 12 = .ok (.putfield 48, 3) := by decide +kernel
theorem dX6_putSpare_15 : decode cX6_putSpare 15 = .ok (.aload_n 0, 1) := by decide +kernel
theorem dX6_putSpare_16 : decode cX6_putSpare 16 = .ok (.getfield 11, 3) := by decide +kernel
theorem dX6_putSpare_19 : decode cX6_putSpare 19 = .ok (.iload_n 1, 1) := by decide +kernel
theorem dX6_putSpare_20 : decode cX6_putSpare 20 = .ok (.aload_n 2, 1) := by decide +kernel
theorem dX6_putSpare_21 : decode cX6_putSpare 21 = .ok (.aastore, 1) := by decide +kernel
theorem dX6_putSpare_22 : decode cX6_putSpare 22 = .ok (.aload_n 2, 1) := by decide +kernel
theorem dX6_putSpare_23 : decode cX6_putSpare 23 = .ok (.getfield 102, 3) := by decide +kernel
theorem dX6_putSpare_26 : decode cX6_putSpare 26 = .ok (.ireturn, 1) := by decide +kernel
theorem dX6_rowHasPlaces_0 : decode cX6_rowHasPlaces 0 = .ok (.iload_n 2, 1) := by decide +kernel
theorem dX6_rowHasPlaces_1 : decode cX6_rowHasPlaces 1 = .ok (.ifCond .lt 29, 3) := by decide +kernel
theorem dX6_rowHasPlaces_4 : decode cX6_rowHasPlaces 4 = .ok (.iload_n 2, 1) := by decide +kernel
theorem dX6_rowHasPlaces_5 : decode cX6_rowHasPlaces 5 = .ok (.aload_n 0, 1) := by decide +kernel
theorem dX6_rowHasPlaces_6 : decode cX6_rowHasPlaces 6 = .ok (.getfield 20, 3) := by decide +kernel
theorem dX6_rowHasPlaces_9 : decode cX6_rowHasPlaces 9 = .ok (.iload_n 1, 1) := by decide +kernel
theorem dX6_rowHasPlaces_10 : decode cX6_rowHasPlaces 10 = .ok (.iaload, 1) := by decide +kernel
theorem dX6_rowHasPlaces_11 : decode cX6_rowHasPlaces 11 = .ok (.if_icmp .gt 19, 3) := by decide +kernel
theorem dX6_rowHasPlaces_14 : decode cX6_rowHasPlaces 14 = .ok (.iload_n 3, 1) := by decide +kernel
theorem dX6_rowHasPlaces_15 : decode cX6_rowHasPlaces 15 = .ok (.aload_n 0, 1) := by decide +kernel
theorem dX6_rowHasPlaces_16 : decode cX6_rowHasPlaces 16 = .ok (.getfield 20, 3) := by decide +kernel
theorem dX6_rowHasPlaces_19 : decode cX6_rowHasPlaces 19 = .ok (.iload_n 1, 1) := by decide +kernel
theorem dX6_rowHasPlaces_20 : decode cX6_rowHasPlaces 20 = .ok (.iaload, 1) := by decide +kernel
theorem dX6_rowHasPlaces_21 : decode cX6_rowHasPlaces 21 = .ok (.iload_n 2, 1) := by decide +kernel
theorem dX6_rowHasPlaces_22 : decode cX6_rowHasPlaces 22 = .ok (.isub, 1) := by decide +kernel
theorem dX6_rowHasPlaces_23 : decode cX6_rowHasPlaces 23 = .ok (.if_icmp .gt 7, 3) := by decide +kernel
theorem dX6_rowHasPlaces_26 : decode cX6_rowHasPlaces 26 = .ok (.iconst 1, 1) := by decide +kernel
theorem dX6_rowHasPlaces_27 : decode cX6_rowHasPlaces 27 = .ok (.goto 4, 3) := by decide +kernel
theorem dX6_rowHasPlaces_30 : decode cX6_rowHasPlaces 30 = .ok (.iconst 0, 1) := by decide +kernel
theorem dX6_rowHasPlaces_31 : decode cX6_rowHasPlaces 31 = .ok (.ireturn, 1) := by decide +kernel
set_option maxRecDepth 20000 in
theorem ggX6_rowHasPointsOf_X5_hasPoint : GoodIn wsX6_rowHasPointsOf wsX5_hasPoint := goodIn_r _ [7, 8, 22, 23, 24, 25, 26, 27, 28, 29] (by decide +kernel) (by decide +kernel)
set_option maxRecDepth 20000 in
theorem gX6_rowHasPointsOf_X5_hasPoint : GoodIn wsX6_rowHasPointsOf (wsV RX6 120 RX5 yX5_hasPoint wsX5_hasPoint) := goodIn_app (goodIn_of _ (by decide +kernel)) ggX6_rowHasPointsOf_X5_hasPoint
theorem dX6_rowHasPointsOf_0 : decode cX6_rowHasPointsOf 0 = .ok (.iconst 0, 1) := by decide +kernel
theorem dX6_rowHasPointsOf_1 : decode cX6_rowHasPointsOf 1 = .ok (.istore_n 3, 1) := by decide +kernel
theorem dX6_rowHasPointsOf_2 : decode cX6_rowHasPointsOf 2 = .ok (.iload_n 3, 1) := by decide +kernel
theorem dX6_rowHasPointsOf_3 : decode cX6_rowHasPointsOf 3 = .ok (.aload_n 0, 1) := by decide +kernel
theorem dX6_rowHasPointsOf_4 : decode cX6_rowHasPointsOf 4 = .ok (.getfield 20, 3) := by decide +kernel
theorem dX6_rowHasPointsOf_7 : decode cX6_rowHasPointsOf 7 = .ok (.iload_n 1, 1) := by decide +kernel
theorem dX6_rowHasPointsOf_8 : decode cX6_rowHasPointsOf 8 = .ok (.iaload, 1) := by decide +kernel
theorem dX6_rowHasPointsOf_9 : decode cX6_rowHasPointsOf 9 = .ok (.if_icmp .ge 26, 3) := by decide +kernel
theorem dX6_rowHasPointsOf_12 : decode cX6_rowHasPointsOf 12 = .ok (.aload_n 2, 1) := by decide +kernel
theorem dX6_rowHasPointsOf_13 : decode cX6_rowHasPointsOf 13 = .ok (.aload_n 0, 1) := by decide +kernel
theorem dX6_rowHasPointsOf_14 : decode cX6_rowHasPointsOf 14 = .ok (.getfield 17, 3) := by decide +kernel
theorem dX6_rowHasPointsOf_17 : decode cX6_rowHasPointsOf 17 = .ok (.iload_n 1, 1) := by decide +kernel
theorem dX6_rowHasPointsOf_18 : decode cX6_rowHasPointsOf 18 = .ok (.aaload, 1) := by decide +kernel
theorem dX6_rowHasPointsOf_19 : decode cX6_rowHasPointsOf 19 = .ok (.iload_n 3, 1) := by decide +kernel
theorem dX6_rowHasPointsOf_20 : decode cX6_rowHasPointsOf 20 = .ok (.iaload, 1) := by decide +kernel
theorem dX6_rowHasPointsOf_21 : decode cX6_rowHasPointsOf 21 = .ok (.invokevirtual 120, 3) := by decide +kernel
theorem dX6_rowHasPointsOf_24 : decode cX6_rowHasPointsOf 24 = .ok (.ifCond .ne 5, 3) := by decide +kernel
theorem dX6_rowHasPointsOf_27 : decode cX6_rowHasPointsOf 27 = .ok (.iconst 0, 1) := by decide +kernel
theorem dX6_rowHasPointsOf_28 : decode cX6_rowHasPointsOf 28 = .ok (.ireturn, 1) := by decide +kernel
theorem dX6_rowHasPointsOf_29 : decode cX6_rowHasPointsOf 29 = .ok (.iinc 3 1, 3) := by decide +kernel
theorem dX6_rowHasPointsOf_32 : decode cX6_rowHasPointsOf 32 = .ok (.goto (-30), 3) := by decide +kernel
theorem dX6_rowHasPointsOf_35 : decode cX6_rowHasPointsOf 35 = .ok (.iconst 1, 1) := by decide +kernel
theorem dX6_rowHasPointsOf_36 : decode cX6_rowHasPointsOf 36 = .ok (.ireturn, 1) := by decide +kernel
theorem dX6_setOfRow_0 : decode cX6_setOfRow 0 = .ok (.lconst 0, 1) := by decide +kernel
theorem dX6_setOfRow_1 : decode cX6_setOfRow 1 = .ok (.lstore_n 2, 1) := by decide +kernel
theorem dX6_setOfRow_2 : decode cX6_setOfRow 2 = .ok (.iconst 0, 1) := by decide +kernel
theorem dX6_setOfRow_3 : decode cX6_setOfRow 3 = .ok (.istore 4, 2) := by decide +kernel
theorem dX6_setOfRow_5 : decode cX6_setOfRow 5 = .ok (.iload 4, 2) := by decide +kernel
theorem dX6_setOfRow_7 : decode cX6_setOfRow 7 = .ok (.aload_n 0, 1) := by decide +kernel
theorem dX6_setOfRow_8 : decode cX6_setOfRow 8 = .ok (.getfield 20, 3) := by decide +kernel
theorem dX6_setOfRow_11 : decode cX6_setOfRow 11 = .ok (.iload_n 1, 1) := by decide +kernel
theorem dX6_setOfRow_12 : decode cX6_setOfRow 12 = .ok (.iaload, 1) := by decide +kernel
theorem dX6_setOfRow_13 : decode cX6_setOfRow 13 = .ok (.if_icmp .ge 23, 3) := by decide +kernel
theorem dX6_setOfRow_16 : decode cX6_setOfRow 16 = .ok (.lload_n 2, 1) := by decide +kernel
theorem dX6_setOfRow_17 : decode cX6_setOfRow 17 = .ok (.lconst 1, 1) := by decide +kernel
theorem dX6_setOfRow_18 : decode cX6_setOfRow 18 = .ok (.aload_n 0, 1) := by decide +kernel
theorem dX6_setOfRow_19 : decode cX6_setOfRow 19 = .ok (.getfield 17, 3) := by decide +kernel
theorem dX6_setOfRow_22 : decode cX6_setOfRow 22 = .ok (.iload_n 1, 1) := by decide +kernel
theorem dX6_setOfRow_23 : decode cX6_setOfRow 23 = .ok (.aaload, 1) := by decide +kernel
theorem dX6_setOfRow_24 : decode cX6_setOfRow 24 = .ok (.iload 4, 2) := by decide +kernel
theorem dX6_setOfRow_26 : decode cX6_setOfRow 26 = .ok (.iaload, 1) := by decide +kernel
theorem dX6_setOfRow_27 : decode cX6_setOfRow 27 = .ok (.lshl, 1) := by decide +kernel
theorem dX6_setOfRow_28 : decode cX6_setOfRow 28 = .ok (.lor, 1) := by decide +kernel
theorem dX6_setOfRow_29 : decode cX6_setOfRow 29 = .ok (.lstore_n 2, 1) := by decide +kernel
theorem dX6_setOfRow_30 : decode cX6_setOfRow 30 = .ok (.iinc 4 1, 3) := by decide +kernel
theorem dX6_setOfRow_33 : decode cX6_setOfRow 33 = .ok (.goto (-28), 3) := by decide +kernel
theorem dX6_setOfRow_36 : decode cX6_setOfRow 36 = .ok (.lload_n 2, 1) := by decide +kernel
theorem dX6_setOfRow_37 : decode cX6_setOfRow 37 = .ok (.lreturn, 1) := by decide +kernel
theorem dX6_has_0 : decode cX6_has 0 = .ok (.lload_n 0, 1) := by decide +kernel
theorem dX6_has_1 : decode cX6_has 1 = .ok (.iload_n 2, 1) := by decide +kernel
theorem dX6_has_2 : decode cX6_has 2 = .ok (.lushr, 1) := by decide +kernel
theorem dX6_has_3 : decode cX6_has 3 = .ok (.lconst 1, 1) := by decide +kernel
theorem dX6_has_4 : decode cX6_has 4 = .ok (.land, 1) := by decide +kernel
theorem dX6_has_5 : decode cX6_has 5 = .ok (.lconst 0, 1) := by decide +kernel
theorem dX6_has_6 : decode cX6_has 6 = .ok (.lcmp, 1) := by decide +kernel
theorem dX6_has_7 : decode cX6_has 7 = .ok (.ifCond .eq 7, 3) := by decide +kernel
theorem dX6_has_10 : decode cX6_has 10 = .ok (.iconst 1, 1) := by decide +kernel
theorem dX6_has_11 : decode cX6_has 11 = .ok (.goto 4, 3) := by decide +kernel
theorem dX6_has_14 : decode cX6_has 14 = .ok (.iconst 0, 1) := by decide +kernel
theorem dX6_has_15 : decode cX6_has 15 = .ok (.ireturn, 1) := by decide +kernel
set_option maxRecDepth 20000 in
theorem ggX6_leastOf_J13_bitCount_95d88 : GoodIn wsX6_leastOf wsJ13_bitCount_95d88 := goodIn_r _ [4, 5, 6, 7] (by decide +kernel) (by decide +kernel)
set_option maxRecDepth 20000 in
theorem gX6_leastOf_J13_bitCount_95d88 : GoodIn wsX6_leastOf (va_wsS RX6 86 yJ13_bitCount_95d88 wsJ13_bitCount_95d88) := goodIn_app (goodIn_of _ (by decide +kernel)) ggX6_leastOf_J13_bitCount_95d88
theorem dX6_leastOf_0 : decode cX6_leastOf 0 = .ok (.lload_n 0, 1) := by decide +kernel
theorem dX6_leastOf_1 : decode cX6_leastOf 1 = .ok (.lload_n 0, 1) := by decide +kernel
theorem dX6_leastOf_2 : decode cX6_leastOf 2 = .ok (.lneg, 1) := by decide +kernel
theorem dX6_leastOf_3 : decode cX6_leastOf 3 = .ok (.land, 1) := by decide +kernel
theorem dX6_leastOf_4 : decode cX6_leastOf 4 = .ok (.lconst 1, 1) := by decide +kernel
theorem dX6_leastOf_5 : decode cX6_leastOf 5 = .ok (.lsub, 1) := by decide +kernel
theorem dX6_leastOf_6 : decode cX6_leastOf 6 = .ok (.invokestatic 86, 3) := by decide +kernel
theorem dX6_leastOf_9 : decode cX6_leastOf 9 = .ok (.ireturn, 1) := by decide +kernel
theorem dX6_below_0 : decode cX6_below 0 = .ok (.lconst 1, 1) := by decide +kernel
theorem dX6_below_1 : decode cX6_below 1 = .ok (.iload_n 0, 1) := by decide +kernel
theorem dX6_below_2 : decode cX6_below 2 = .ok (.lshl, 1) := by decide +kernel
theorem dX6_below_3 : decode cX6_below 3 = .ok (.lconst 1, 1) := by decide +kernel
theorem dX6_below_4 : decode cX6_below 4 = .ok (.lsub, 1) := by decide +kernel
theorem dX6_below_5 : decode cX6_below 5 = .ok (.lreturn, 1) := by decide +kernel
theorem dX7_init_0 : decode cX7_init 0 = .ok (.aload_n 0, 1) := by decide +kernel
theorem dX7_init_1 : decode cX7_init 1 = .ok (.invokespecial 1, 3) := by decide +kernel
theorem dX7_init_4 : decode cX7_init 4 = .ok (.aload_n 0, 1) := by decide +kernel
theorem dX7_init_5 : decode cX7_init 5 = .ok (.bipush 6, 2) := by decide +kernel
theorem dX7_init_7 : decode cX7_init 7 = .ok (.newarray .int, 2) := by decide +kernel
theorem dX7_init_9 : decode cX7_init 9 = .ok (.putfield 7, 3) := by decide +kernel
theorem dX7_init_12 : decode cX7_init 12 = .ok (.aload_n 0, 1) := by decide +kernel
theorem dX7_init_13 : decode cX7_init 13 = .ok (.bipush 6, 2) := by decide +kernel
theorem dX7_init_15 : decode cX7_init 15 = .ok (.newarray .int, 2) := by decide +kernel
theorem dX7_init_17 : decode cX7_init 17 = .ok (.putfield 13, 3) := by decide +kernel
theorem dX7_init_20 : decode cX7_init 20 = .ok (.aload_n 0, 1) := by decide +kernel
theorem dX7_init_21 : decode cX7_init 21 = .ok (.bipush 6, 2) := by decide +kernel
theorem dX7_init_23 : decode cX7_init 23 = .ok (.newarray .int, 2) := by decide +kernel
theorem dX7_init_25 : decode cX7_init 25 = .ok (.putfield 16, 3) := by decide +kernel
theorem dX7_init_28 : decode cX7_init 28 = .ok (.aload_n 0, 1) := by decide +kernel
theorem dX7_init_29 : decode cX7_init 29 = .ok (.bipush 6, 2) := by decide +kernel
theorem dX7_init_31 : decode cX7_init 31 = .ok (.newarray .int, 2) := by decide +kernel
theorem dX7_init_33 : decode cX7_init 33 = .ok (.putfield 19, 3) := by decide +kernel
theorem dX7_init_36 : decode cX7_init 36 = .ok (.aload_n 0, 1) := by decide +kernel
theorem dX7_init_37 : decode cX7_init 37 = .ok (.bipush 6, 2) := by decide +kernel
theorem dX7_init_39 : decode cX7_init 39 = .ok (.newarray .int, 2) := by decide +kernel
theorem dX7_init_41 : decode cX7_init 41 = .ok (.putfield 22, 3) := by decide +kernel
theorem dX7_init_44 : decode cX7_init 44 = .ok (.aload_n 0, 1) := by decide +kernel
theorem dX7_init_45 : decode cX7_init 45 = .ok (.sipush 270, 3) := by decide +kernel
theorem dX7_init_48 : decode cX7_init 48 = .ok (.newarray .long, 2) := by decide +kernel
theorem dX7_init_50 : decode cX7_init 50 = .ok (.putfield 25, 3) := by decide +kernel
theorem dX7_init_53 : decode cX7_init 53 = .ok (.aload_n 0, 1) := by decide +kernel
theorem dX7_init_54 : decode cX7_init 54 = .ok (.bipush 120, 2) := by decide +kernel
theorem dX7_init_56 : decode cX7_init 56 = .ok (.newarray .long, 2) := by decide +kernel
theorem dX7_init_58 : decode cX7_init 58 = .ok (.putfield 29, 3) := by decide +kernel
theorem dX7_init_61 : decode cX7_init 61 = .ok (.aload_n 0, 1) := by decide +kernel
theorem dX7_init_62 : decode cX7_init 62 = .ok (.sipush 160, 3) := by decide +kernel
theorem dX7_init_65 : decode cX7_init 65 = .ok (.newarray .int, 2) := by decide +kernel
theorem dX7_init_67 : decode cX7_init 67 = .ok (.putfield 32, 3) := by decide +kernel
theorem dX7_init_70 : decode cX7_init 70 = .ok (.aload_n 0, 1) := by decide +kernel
theorem dX7_init_71 : decode cX7_init 71 = .ok (.bipush 45, 2) := by decide +kernel
theorem dX7_init_73 : decode cX7_init 73 = .ok (.newarray .long, 2) := by decide +kernel
theorem dX7_init_75 : decode cX7_init 75 = .ok (.putfield 35, 3) := by decide +kernel
theorem dX7_init_78 : decode cX7_init 78 = .ok (.aload_n 0, 1) := by decide +kernel
theorem dX7_init_79 : decode cX7_init 79 = .ok (.bipush 45, 2) := by decide +kernel
theorem dX7_init_81 : decode cX7_init 81 = .ok (.newarray .long, 2) := by decide +kernel
theorem dX7_init_83 : decode cX7_init 83 = .ok (.putfield 38, 3) := by decide +kernel
theorem dX7_init_86 : decode cX7_init 86 = .ok (.aload_n 0, 1) := by decide +kernel
theorem dX7_init_87 : decode cX7_init 87 = .ok (.bipush 45, 2) := by decide +kernel
theorem dX7_init_89 : decode cX7_init 89 = .ok (.newarray .long, 2) := by decide +kernel
theorem dX7_init_91 : decode cX7_init 91 = .ok (.putfield 41, 3) := by decide +kernel
theorem dX7_init_94 : decode cX7_init 94 = .ok (.aload_n 0, 1) := by decide +kernel
theorem dX7_init_95 : decode cX7_init 95 = .ok (.bipush 46, 2) := by decide +kernel
theorem dX7_init_97 : decode cX7_init 97 = .ok (.newarray .int, 2) := by decide +kernel
theorem dX7_init_99 : decode cX7_init 99 = .ok (.putfield 44, 3) := by decide +kernel
theorem dX7_init_102 : decode cX7_init 102 = .ok (.aload_n 0, 1) := by decide +kernel
theorem dX7_init_103 : decode cX7_init 103 = .ok (.bipush 47, 2) := by decide +kernel
theorem dX7_init_105 : decode cX7_init 105 = .ok (.newarray .long, 2) := by decide +kernel
theorem dX7_init_107 : decode cX7_init 107 = .ok (.putfield 47, 3) := by decide +kernel
theorem dX7_init_110 : decode cX7_init 110 = .ok (.aload_n 0, 1) := by decide +kernel
theorem dX7_init_111 : decode cX7_init 111 = .ok (.bipush 47, 2) := by decide +kernel
theorem dX7_init_113 : decode cX7_init 113 = .ok (.newarray .long, 2) := by decide +kernel
theorem dX7_init_115 : decode cX7_init 115 = .ok (.putfield 50, 3) := by decide +kernel
theorem dX7_init_118 : decode cX7_init 118 = .ok (.aload_n 0, 1) := by decide +kernel
theorem dX7_init_119 : decode cX7_init 119 = .ok (.sipush 2025, 3) := by decide +kernel
theorem dX7_init_122 : decode cX7_init 122 = .ok (.newarray .int, 2) := by decide +kernel
theorem dX7_init_124 : decode cX7_init 124 = .ok (.putfield 53, 3) := by decide +kernel
theorem dX7_init_127 : decode cX7_init 127 = .ok (.aload_n 0, 1) := by decide +kernel
theorem dX7_init_128 : decode cX7_init 128 = .ok (.bipush 45, 2) := by decide +kernel
theorem dX7_init_130 : decode cX7_init 130 = .ok (.newarray .int, 2) := by decide +kernel
theorem dX7_init_132 : decode cX7_init 132 = .ok (.putfield 56, 3) := by decide +kernel
theorem dX7_init_135 : decode cX7_init 135 = .ok (.aload_n 0, 1) := by decide +kernel
theorem dX7_init_136 : decode cX7_init 136 = .ok (.bipush 46, 2) := by decide +kernel
theorem dX7_init_138 : decode cX7_init 138 = .ok (.newarray .int, 2) := by decide +kernel
theorem dX7_init_140 : decode cX7_init 140 = .ok (.putfield 59, 3) := by decide +kernel
theorem dX7_init_143 : decode cX7_init 143 = .ok (.aload_n 0, 1) := by decide +kernel
theorem dX7_init_144 : decode cX7_init 144 = .ok (.bipush 45, 2) := by decide +kernel
theorem dX7_init_146 : decode cX7_init 146 = .ok (.newarray .long, 2) := by decide +kernel
theorem dX7_init_148 : decode cX7_init 148 = .ok (.putfield 62, 3) := by decide +kernel
theorem dX7_init_151 : decode cX7_init 151 = .ok (.aload_n 0, 1) := by decide +kernel
theorem dX7_init_152 : decode cX7_init 152 = .ok (.bipush 45, 2) := by decide +kernel
theorem dX7_init_154 : decode cX7_init 154 = .ok (.newarray .long, 2) := by decide +kernel
theorem dX7_init_156 : decode cX7_init 156 = .ok (.putfield 65, 3) := by decide +kernel
theorem dX7_init_159 : decode cX7_init 159 = .ok (.aload_n 0, 1) := by decide +kernel
theorem dX7_init_160 : decode cX7_init 160 = .ok (.bipush 45, 2) := by decide +kernel
theorem dX7_init_162 : decode cX7_init 162 = .ok (.newarray .int, 2) := by decide +kernel
theorem dX7_init_164 : decode cX7_init 164 = .ok (.putfield 68, 3) := by decide +kernel
theorem dX7_init_167 : decode cX7_init 167 = .ok (.aload_n 0, 1) := by decide +kernel
theorem dX7_init_168 : decode cX7_init 168 = .ok (.bipush 45, 2) := by decide +kernel
theorem dX7_init_170 : decode cX7_init 170 = .ok (.newarray .int, 2) := by decide +kernel
theorem dX7_init_172 : decode cX7_init 172 = .ok (.putfield 71, 3) := by decide +kernel
theorem dX7_init_175 : decode cX7_init 175 = .ok (.aload_n 0, 1) := by decide +kernel
theorem dX7_init_176 : decode cX7_init 176 = .ok (.iconst 4, 1) := by decide +kernel
theorem dX7_init_177 : decode cX7_init 177 = .ok (.newarray .int, 2) := by decide +kernel
theorem dX7_init_179 : decode cX7_init 179 = .ok (.putfield 74, 3) := by decide +kernel
theorem dX7_init_182 : decode cX7_init 182 = .ok (.aload_n 0, 1) := by decide +kernel
theorem dX7_init_183 : decode cX7_init 183 = .ok (.bipush 48, 2) := by decide +kernel
theorem dX7_init_185 : decode cX7_init 185 = .ok (.newarray .int, 2) := by decide +kernel
theorem dX7_init_187 : decode cX7_init 187 = .ok (.putfield 77, 3) := by decide +kernel
theorem dX7_init_190 : decode cX7_init 190 = .ok (.aload_n 0, 1) := by decide +kernel
theorem dX7_init_191 : decode cX7_init 191 = .ok (.bipush 12, 2) := by decide +kernel
theorem dX7_init_193 : decode cX7_init 193 = .ok (.newarray .int, 2) := by decide +kernel
theorem dX7_init_195 : decode cX7_init 195 = .ok (.putfield 80, 3) := by decide +kernel
theorem dX7_init_198 : decode cX7_init 198 = .ok (.iconst 0, 1) := by decide +kernel
theorem dX7_init_199 : decode cX7_init 199 = .ok (.istore_n 1, 1) := by decide +kernel
theorem dX7_init_200 : decode cX7_init 200 = .ok (.iload_n 1, 1) := by decide +kernel
theorem dX7_init_201 : decode cX7_init 201 = .ok (.iconst 4, 1) := by decide +kernel
theorem dX7_init_202 : decode cX7_init 202 = .ok (.if_icmp .ge 17, 3) := by decide +kernel
theorem dX7_init_205 : decode cX7_init 205 = .ok (.aload_n 0, 1) := by decide +kernel
theorem dX7_init_206 : decode cX7_init 206 = .ok (.getfield 74, 3) := by decide +kernel
theorem dX7_init_209 : decode cX7_init 209 = .ok (.iload_n 1, 1) := by decide +kernel
theorem dX7_init_210 : decode cX7_init 210 = .ok (.bipush (-9), 2) := by decide +kernel
theorem dX7_init_212 : decode cX7_init 212 = .ok (.iastore, 1) := by decide +kernel
theorem dX7_init_213 : decode cX7_init 213 = .ok (.iinc 1 1, 3) := by decide +kernel
theorem dX7_init_216 : decode cX7_init 216 = .ok (.goto (-16), 3) := by decide +kernel
theorem dX7_init_219 : decode cX7_init 219 = .ok (.iconst 0, 1) := by decide +kernel
theorem dX7_init_220 : decode cX7_init 220 = .ok (.istore_n 1, 1) := by decide +kernel
theorem dX7_init_221 : decode cX7_init 221 = .ok (.iload_n 1, 1) := by decide +kernel
theorem dX7_init_222 : decode cX7_init 222 = .ok (.bipush 45, 2) := by decide +kernel
theorem dX7_init_224 : decode cX7_init 224 = .ok (.if_icmp .ge 17, 3) := by decide +kernel
theorem dX7_init_227 : decode cX7_init 227 = .ok (.aload_n 0, 1) := by decide +kernel
theorem dX7_init_228 : decode cX7_init 228 = .ok (.getfield 56, 3) := by decide +kernel
theorem dX7_init_231 : decode cX7_init 231 = .ok (.iload_n 1, 1) := by decide +kernel
theorem dX7_init_232 : decode cX7_init 232 = .ok (.bipush (-9), 2) := by decide +kernel
theorem dX7_init_234 : decode cX7_init 234 = .ok (.iastore, 1) := by decide +kernel
theorem dX7_init_235 : decode cX7_init 235 = .ok (.iinc 1 1, 3) := by decide +kernel
theorem dX7_init_238 : decode cX7_init 238 = .ok (.goto (-17), 3) := by decide +kernel
theorem dX7_init_241 : decode cX7_init 241 = .ok (.return_, 1) := by decide +kernel
theorem dX7_in_0 : decode cX7_in 0 = .ok (.iload_n 0, 1) := by decide +kernel
theorem dX7_in_1 : decode cX7_in 1 = .ok (.iload_n 1, 1) := by decide +kernel
theorem dX7_in_2 : decode cX7_in 2 = .ok (.if_icmp .lt 12, 3) := by decide +kernel
theorem dX7_in_5 : decode cX7_in 5 = .ok (.iload_n 0, 1) := by decide +kernel
theorem dX7_in_6 : decode cX7_in 6 = .ok (.iload_n 2, 1) := by decide +kernel
theorem dX7_in_7 : decode cX7_in 7 = .ok (.if_icmp .gt 7, 3) := by decide +kernel
theorem dX7_in_10 : decode cX7_in 10 = .ok (.iconst 1, 1) := by decide +kernel
theorem dX7_in_11 : decode cX7_in 11 = .ok (.goto 4, 3) := by decide +kernel
theorem dX7_in_14 : decode cX7_in 14 = .ok (.iconst 0, 1) := by decide +kernel
theorem dX7_in_15 : decode cX7_in 15 = .ok (.ireturn, 1) := by decide +kernel
theorem dX7_meets_0 : decode cX7_meets 0 = .ok (.aload_n 0, 1) := by decide +kernel
theorem dX7_meets_1 : decode cX7_meets 1 = .ok (.iload_n 1, 1) := by decide +kernel
theorem dX7_meets_2 : decode cX7_meets 2 = .ok (.putfield 83, 3) := by decide +kernel
theorem dX7_meets_5 : decode cX7_meets 5 = .ok (.aload_n 0, 1) := by decide +kernel
theorem dX7_meets_6 : decode cX7_meets 6 = .ok (.getfield 7, 3) := by decide +kernel
theorem dX7_meets_9 : decode cX7_meets 9 = .ok (.iload_n 1, 1) := by decide +kernel
theorem dX7_meets_10 : decode cX7_meets 10 = .ok (.dup2, 1) := by decide +kernel
theorem dX7_meets_11 : decode cX7_meets 11 = .ok (.iaload, 1) := by decide +kernel
theorem dX7_meets_12 : decode cX7_meets 12 = .ok (.iconst 1, 1) := by decide +kernel
theorem dX7_meets_13 : decode cX7_meets 13 = .ok (.iadd, 1) := by decide +kernel
theorem dX7_meets_14 : decode cX7_meets 14 = .ok (.iastore, 1) := by decide +kernel
theorem dX7_meets_15 : decode cX7_meets 15 = .ok (.bipush (-3), 2) := by decide +kernel
theorem dX7_meets_17 : decode cX7_meets 17 = .ok (.ireturn, 1) := by decide +kernel
theorem dX7_ask_0 : decode cX7_ask 0 = .ok (.aload_n 0, 1) := by decide +kernel
theorem dX7_ask_1 : decode cX7_ask 1 = .ok (.lload_n 1, 1) := by decide +kernel
theorem dX7_ask_2 : decode cX7_ask 2 = .ok (.putfield 87, 3) := by decide +kernel
theorem dX7_ask_5 : decode cX7_ask 5 = .ok (.iload_n 3, 1) := by decide +kernel
theorem dX7_ask_6 : decode cX7_ask 6 = .ok (.ireturn, 1) := by decide +kernel
theorem dX7_bits_0 : decode cX7_bits 0 = .ok (.iconst 0, 1) := by decide +kernel
theorem dX7_bits_1 : decode cX7_bits 1 = .ok (.istore_n 2, 1) := by decide +kernel
theorem dX7_bits_2 : decode cX7_bits 2 = .ok (.iconst 0, 1) := by decide +kernel
theorem dX7_bits_3 : decode cX7_bits 3 = .ok (.istore_n 3, 1) := by decide +kernel
theorem dX7_bits_4 : decode cX7_bits 4 = .ok (.iload_n 3, 1) := by decide +kernel
theorem dX7_bits_5 : decode cX7_bits 5 = .ok (.bipush 45, 2) := by decide +kernel
theorem dX7_bits_7 : decode cX7_bits 7 = .ok (.if_icmp .ge 18, 3) := by decide +kernel
theorem dX7_bits_10 : decode cX7_bits 10 = .ok (.iload_n 2, 1) := by decide +kernel
theorem dX7_bits_11 : decode cX7_bits 11 = .ok (.lload_n 0, 1) := by decide +kernel
theorem dX7_bits_12 : decode cX7_bits 12 = .ok (.iload_n 3, 1) := by decide +kernel
theorem dX7_bits_13 : decode cX7_bits 13 = .ok (.lshr, 1) := by decide +kernel
theorem dX7_bits_14 : decode cX7_bits 14 = .ok (.lconst 1, 1) := by decide +kernel
theorem dX7_bits_15 : decode cX7_bits 15 = .ok (.land, 1) := by decide +kernel
theorem dX7_bits_16 : decode cX7_bits 16 = .ok (.l2i, 1) := by decide +kernel
theorem dX7_bits_17 : decode cX7_bits 17 = .ok (.iadd, 1) := by decide +kernel
theorem dX7_bits_18 : decode cX7_bits 18 = .ok (.istore_n 2, 1) := by decide +kernel
theorem dX7_bits_19 : decode cX7_bits 19 = .ok (.iinc 3 1, 3) := by decide +kernel
theorem dX7_bits_22 : decode cX7_bits 22 = .ok (.goto (-18), 3) := by decide +kernel
theorem dX7_bits_25 : decode cX7_bits 25 = .ok (.iload_n 2, 1) := by decide +kernel
theorem dX7_bits_26 : decode cX7_bits 26 = .ok (.ireturn, 1) := by decide +kernel
theorem dX7_has_0 : decode cX7_has 0 = .ok (.lload_n 0, 1) := by decide +kernel
theorem dX7_has_1 : decode cX7_has 1 = .ok (.iload_n 2, 1) := by decide +kernel
theorem dX7_has_2 : decode cX7_has 2 = .ok (.lshr, 1) := by decide +kernel
theorem dX7_has_3 : decode cX7_has 3 = .ok (.lconst 1, 1) := by decide +kernel
theorem dX7_has_4 : decode cX7_has 4 = .ok (.land, 1) := by decide +kernel
theorem dX7_has_5 : decode cX7_has 5 = .ok (.lconst 1, 1) := by decide +kernel
theorem dX7_has_6 : decode cX7_has 6 = .ok (.lcmp, 1) := by decide +kernel
theorem dX7_has_7 : decode cX7_has 7 = .ok (.ifCond .ne 7, 3) := by decide +kernel
theorem dX7_has_10 : decode cX7_has 10 = .ok (.iconst 1, 1) := by decide +kernel
theorem dX7_has_11 : decode cX7_has 11 = .ok (.goto 4, 3) := by decide +kernel
theorem dX7_has_14 : decode cX7_has 14 = .ok (.iconst 0, 1) := by decide +kernel
theorem dX7_has_15 : decode cX7_has 15 = .ok (.ireturn, 1) := by decide +kernel
set_option maxRecDepth 20000 in
theorem ggX7_isNumber_X7_in : GoodIn wsX7_isNumber wsX7_in := goodIn_r _ [4] (by decide +kernel) (by decide +kernel)
set_option maxRecDepth 20000 in
theorem gX7_isNumber_X7_in : GoodIn wsX7_isNumber (va_wsS RX7 91 yX7_in wsX7_in) := goodIn_app (goodIn_of _ (by decide +kernel)) ggX7_isNumber_X7_in
theorem dX7_isNumber_0 : decode cX7_isNumber 0 = .ok (.iload_n 0, 1) := by decide +kernel
theorem dX7_isNumber_1 : decode cX7_isNumber 1 = .ok (.iconst 0, 1) := by decide +kernel
theorem dX7_isNumber_2 : decode cX7_isNumber 2 = .ok (.iconst 5, 1) := by decide +kernel
theorem dX7_isNumber_3 : decode cX7_isNumber 3 = .ok (.invokestatic 91, 3) := by decide +kernel
theorem dX7_isNumber_6 : decode cX7_isNumber 6 = .ok (.ireturn, 1) := by decide +kernel
set_option maxRecDepth 20000 in
theorem ggX7_looked_X7_isNumber : GoodIn wsX7_looked wsX7_isNumber := goodIn_r _ [5, 6, 7, 4, 8] (by decide +kernel) (by decide +kernel)
set_option maxRecDepth 20000 in
theorem gX7_looked_X7_isNumber : GoodIn wsX7_looked (va_wsS RX7 95 yX7_isNumber wsX7_isNumber) := goodIn_app (goodIn_of _ (by decide +kernel)) ggX7_looked_X7_isNumber
set_option maxRecDepth 20000 in
theorem ggX7_looked_X7_meets : GoodIn wsX7_looked wsX7_meets := goodIn_r _ [12, 13, 14, 15, 16, 17, 18, 19, 20, 21, 22, 23, 24, 25, 26, 27, 28, 29, 30, 31, 32, 33, 34, 35, 36, 37, 38, 39, 40, 41, 42, 43, 44, 45, 46, 47] (by decide +kernel) (by decide +kernel)
set_option maxRecDepth 20000 in
theorem gX7_looked_X7_meets : GoodIn wsX7_looked (wsV RX7 99 RX7 yX7_meets wsX7_meets) := goodIn_app (goodIn_of _ (by decide +kernel)) ggX7_looked_X7_meets
theorem dX7_looked_0 : decode cX7_looked 0 = .ok (.iload_n 1, 1) := by decide +kernel
theorem dX7_looked_1 : decode cX7_looked 1 = .ok (.invokestatic 95, 3) := by decide +kernel
theorem dX7_looked_4 : decode cX7_looked 4 = .ok (.ifCond .ne 7, 3) := by decide +kernel
theorem dX7_looked_7 : decode cX7_looked 7 = .ok (.iconst (-1), 1) := by decide +kernel
theorem dX7_looked_8 : decode cX7_looked 8 = .ok (.goto 21, 3) := by decide +kernel
theorem dX7_looked_11 : decode cX7_looked 11 = .ok (.aload_n 0, 1) := by decide +kernel
theorem dX7_looked_12 : decode cX7_looked 12 = .ok (.getfield 13, 3) := by decide +kernel
theorem dX7_looked_15 : decode cX7_looked 15 = .ok (.iload_n 1, 1) := by decide +kernel
theorem dX7_looked_16 : decode cX7_looked 16 = .ok (.iaload, 1) := by decide +kernel
theorem dX7_looked_17 : decode cX7_looked 17 = .ok (.ifCond .ne 11, 3) := by decide +kernel
theorem dX7_looked_20 : decode cX7_looked 20 = .ok (.aload_n 0, 1) := by decide +kernel
theorem dX7_looked_21 : decode cX7_looked 21 = .ok (.iconst 1, 1) := by decide +kernel
theorem dX7_looked_22 : decode cX7_looked 22 = .ok (.invokevirtual 99, 3) := by decide +kernel
theorem dX7_looked_25 : decode cX7_looked 25 = .ok (.goto 4, 3) := by decide +kernel
theorem dX7_looked_28 : decode cX7_looked 28 = .ok (.iconst 0, 1) := by decide +kernel
theorem dX7_looked_29 : decode cX7_looked 29 = .ok (.ireturn, 1) := by decide +kernel
theorem dX7_allOf_0 : decode cX7_allOf 0 = .ok (.lconst 1, 1) := by decide +kernel
theorem dX7_allOf_1 : decode cX7_allOf 1 = .ok (.aload_n 0, 1) := by decide +kernel
theorem dX7_allOf_2 : decode cX7_allOf 2 = .ok (.getfield 13, 3) := by decide +kernel
theorem dX7_allOf_5 : decode cX7_allOf 5 = .ok (.iload_n 1, 1) := by decide +kernel
theorem dX7_allOf_6 : decode cX7_allOf 6 = .ok (.iaload, 1) := by decide +kernel
theorem dX7_allOf_7 : decode cX7_allOf 7 = .ok (.lshl, 1) := by decide +kernel
theorem dX7_allOf_8 : decode cX7_allOf 8 = .ok (.lconst 1, 1) := by decide +kernel
theorem dX7_allOf_9 : decode cX7_allOf 9 = .ok (.lsub, 1) := by decide +kernel
theorem dX7_allOf_10 : decode cX7_allOf 10 = .ok (.lreturn, 1) := by decide +kernel
theorem dX7_keep_0 : decode cX7_keep 0 = .ok (.aload_n 0, 1) := by decide +kernel
theorem dX7_keep_1 : decode cX7_keep 1 = .ok (.getfield 13, 3) := by decide +kernel
theorem dX7_keep_4 : decode cX7_keep 4 = .ok (.iload_n 1, 1) := by decide +kernel
theorem dX7_keep_5 : decode cX7_keep 5 = .ok (.aload_n 0, 1) := by decide +kernel
theorem dX7_keep_6 : decode cX7_keep 6 = .ok (.getfield 103, 3) := by decide +kernel
theorem dX7_keep_9 : decode cX7_keep 9 = .ok (.iastore, 1) := by decide +kernel
theorem dX7_keep_10 : decode cX7_keep 10 = .ok (.aload_n 0, 1) := by decide +kernel
theorem dX7_keep_11 : decode cX7_keep 11 = .ok (.getfield 16, 3) := by decide +kernel
theorem dX7_keep_14 : decode cX7_keep 14 = .ok (.iload_n 1, 1) := by decide +kernel
theorem dX7_keep_15 : decode cX7_keep 15 = .ok (.aload_n 0, 1) := by decide +kernel
theorem dX7_keep_16 : decode cX7_keep 16 = .ok (.getfield 106, 3) := by decide +kernel
theorem dX7_keep_19 : decode cX7_keep 19 = .ok (.iastore, 1) := by decide +kernel
theorem dX7_keep_20 : decode cX7_keep 20 = .ok (.aload_n 0, 1) := by decide +kernel
theorem dX7_keep_21 : decode cX7_keep 21 = .ok (.getfield 19, 3) := by decide +kernel
theorem dX7_keep_24 : decode cX7_keep 24 = .ok (.iload_n 1, 1) := by decide +kernel
theorem dX7_keep_25 : decode cX7_keep 25 = .ok (.iload_n 2, 1) := by decide +kernel
theorem dX7_keep_26 : decode cX7_keep 26 = .ok (.iastore, 1) := by decide +kernel
theorem dX7_keep_27 : decode cX7_keep 27 = .ok (.aload_n 0, 1) := by decide +kernel
theorem dX7_keep_28 : decode cX7_keep 28 = .ok (.getfield 22, 3) := by decide +kernel
theorem dX7_keep_31 : decode cX7_keep 31 = .ok (.iload_n 1, 1) := by decide +kernel
theorem dX7_keep_32 : decode cX7_keep 32 = .ok (.iload_n 3, 1) := by decide +kernel
theorem dX7_keep_33 : decode cX7_keep 33 = .ok (.iastore, 1) := by decide +kernel
theorem dX7_keep_34 : decode cX7_keep 34 = .ok (.iconst 0, 1) := by decide +kernel
theorem dX7_keep_35 : decode cX7_keep 35 = .ok (.istore 4, 2) := by decide +kernel
theorem dX7_keep_37 : decode cX7_keep 37 = .ok (.iload 4, 2) := by decide +kernel
theorem dX7_keep_39 : decode cX7_keep 39 = .ok (.aload_n 0, 1) := by decide +kernel
theorem dX7_keep_40 : decode cX7_keep 40 = .ok (.getfield 106, 3) := by decide +kernel
theorem dX7_keep_43 : decode cX7_keep 43 = .ok (.if_icmp .ge 28, 3) := by decide +kernel
theorem dX7_keep_46 : decode cX7_keep 46 = .ok (.aload_n 0, 1) := by decide +kernel
theorem dX7_keep_47 : decode cX7_keep 47 = .ok (.getfield 25, 3) := by decide +kernel
theorem dX7_keep_50 : decode cX7_keep 50 = .ok (.bipush 45, 2) := by decide +kernel
theorem dX7_keep_52 : decode cX7_keep 52 = .ok (.iload_n 1, 1) := by decide +kernel
theorem dX7_keep_53 : decode cX7_keep 53 = .ok (.imul, 1) := by decide +kernel
theorem dX7_keep_54 : decode cX7_keep 54 = .ok (.iload 4, 2) := by decide +kernel
theorem dX7_keep_56 : decode cX7_keep 56 = .ok (.iadd, 1) := by decide +kernel
