theorem dX1_addSpot_0 : decode cX1_addSpot 0 = .ok (.iload_n 1, 1) := by decide +kernel
theorem dX1_addSpot_1 : decode cX1_addSpot 1 = .ok (.invokestatic 41, 3) := by decide +kernel
theorem dX1_addSpot_4 : decode cX1_addSpot 4 = .ok (.ifCond .ne 5, 3) := by decide +kernel
theorem dX1_addSpot_7 : decode cX1_addSpot 7 = .ok (.iconst (-1), 1) := by decide +kernel
theorem dX1_addSpot_8 : decode cX1_addSpot 8 = .ok (.ireturn, 1) := by decide +kernel
theorem dX1_addSpot_9 : decode cX1_addSpot 9 = .ok (.aload_n 0, 1) := by decide +kernel
theorem dX1_addSpot_10 : decode cX1_addSpot 10 = .ok (.iload_n 1, 1) := by decide +kernel
theorem dX1_addSpot_11 : decode cX1_addSpot 11 = .ok (.invokevirtual 48, 3) := by decide +kernel
theorem dX1_addSpot_14 : decode cX1_addSpot 14 = .ok (.bipush (-9), 2) := by decide +kernel
theorem dX1_addSpot_16 : decode cX1_addSpot 16 = .ok (.if_icmp .eq 6, 3) := by decide +kernel
theorem dX1_addSpot_19 : decode cX1_addSpot 19 = .ok (.bipush (-2), 2) := by decide +kernel
theorem dX1_addSpot_21 : decode cX1_addSpot 21 = .ok (.ireturn, 1) := by decide +kernel
theorem dX1_addSpot_22 : decode cX1_addSpot 22 = .ok (.aload_n 0, 1) := by decide +kernel
theorem dX1_addSpot_23 : decode cX1_addSpot 23 = .ok (.getfield 31, 3) := by decide +kernel
theorem dX1_addSpot_26 : decode cX1_addSpot 26 = .ok (.bipush 12, 2) := by decide +kernel
theorem dX1_addSpot_28 : decode cX1_addSpot 28 = .ok (.if_icmp .lt 6, 3) := by decide +kernel
theorem dX1_addSpot_31 : decode cX1_addSpot 31 = .ok (.bipush (-3), 2) := by decide +kernel
theorem dX1_addSpot_33 : decode cX1_addSpot 33 = .ok (.ireturn, 1) := by decide +kernel
theorem dX1_addSpot_34 : decode cX1_addSpot 34 = .ok (.aload_n 0, 1) := by decide +kernel
theorem dX1_addSpot_35 : decode cX1_addSpot 35 = .ok (.getfield 15, 3) := by decide +kernel
theorem dX1_addSpot_38 : decode cX1_addSpot 38 = .ok (.aload_n 0, 1) := by decide +kernel
theorem dX1_addSpot_39 : decode cX1_addSpot 39 = .ok (.getfield 31, 3) := by decide +kernel
theorem dX1_addSpot_42 : decode cX1_addSpot 42 = .ok (.iload_n 1, 1) := by decide +kernel
theorem dX1_addSpot_43 : decode cX1_addSpot 43 = .ok (.iastore, 1) := by decide +kernel
theorem dX1_addSpot_44 : decode cX1_addSpot 44 = .ok (.aload_n 0, 1) := by decide +kernel
theorem dX1_addSpot_45 : decode cX1_addSpot 45 = .ok (.dup, 1) := by decide +kernel
theorem dX1_addSpot_46 : decode cX1_addSpot 46 = .ok (.getfield 31, 3) := by decide +kernel
theorem dX1_addSpot_49 : decode cX1_addSpot 49 = .ok (.iconst 1, 1) := by decide +kernel
theorem dX1_addSpot_50 : decode cX1_addSpot 50 = .ok (.iadd, 1) := by decide +kernel
theorem dX1_addSpot_51 : decode cX1_addSpot 51 = .ok (.putfield 31, 3) := by decide +kernel
theorem dX1_addSpot_54 : decode cX1_addSpot 54 = .ok (.aload_n 0, 1) := by decide +kernel
theorem dX1_addSpot_55 : decode cX1_addSpot 55 = .ok (.getfield 31, 3) := by decide +kernel
theorem dX1_addSpot_58 : decode cX1_addSpot 58 = .ok (.iconst 1, 1) := by decide +kernel
theorem dX1_addSpot_59 : decode cX1_addSpot 59 = .ok (.isub, 1) := by decide +kernel
theorem dX1_addSpot_60 : decode cX1_addSpot 60 = .ok (.ireturn, 1) := by decide +kernel
set_option maxRecDepth 20000 in
theorem ggX1_removeSpot_X4_isSpot : GoodIn wsX1_removeSpot wsX4_isSpot := goodIn_r _ [5] (by decide +kernel) (by decide +kernel)
set_option maxRecDepth 20000 in
theorem gX1_removeSpot_X4_isSpot_n41 : GoodIn wsX1_removeSpot (wsX4_isSpot) := ggX1_removeSpot_X4_isSpot
set_option maxRecDepth 20000 in
theorem ggX1_removeSpot_X1_positionOf : GoodIn wsX1_removeSpot wsX1_positionOf := goodIn_r _ [10, 1, 2, 11, 12, 13, 14, 15] (by decide +kernel) (by decide +kernel)
set_option maxRecDepth 20000 in
theorem gX1_removeSpot_X1_positionOf : GoodIn wsX1_removeSpot (wsV RX1 48 RX1 yX1_positionOf wsX1_positionOf) := goodIn_app (goodIn_of _ (by decide +kernel)) ggX1_removeSpot_X1_positionOf
theorem dX1_removeSpot_0 : decode cX1_removeSpot 0 = .ok (.iload_n 1, 1) := by decide +kernel
theorem dX1_removeSpot_1 : decode cX1_removeSpot 1 = .ok (.invokestatic 41, 3) := by decide +kernel
theorem dX1_removeSpot_4 : decode cX1_removeSpot 4 = .ok (.ifCond .ne 5, 3) := by decide +kernel
theorem dX1_removeSpot_7 : decode cX1_removeSpot 7 = .ok (.iconst (-1), 1) := by decide +kernel
theorem dX1_removeSpot_8 : decode cX1_removeSpot 8 = .ok (.ireturn, 1) := by decide +kernel
theorem dX1_removeSpot_9 : decode cX1_removeSpot 9 = .ok (.aload_n 0, 1) := by decide +kernel
theorem dX1_removeSpot_10 : decode cX1_removeSpot 10 = .ok (.iload_n 1, 1) := by decide +kernel
theorem dX1_removeSpot_11 : decode cX1_removeSpot 11 = .ok (.invokevirtual 48, 3) := by decide +kernel
theorem dX1_removeSpot_14 : decode cX1_removeSpot 14 = .ok (.istore_n 2, 1) := by decide +kernel
theorem dX1_removeSpot_15 : decode cX1_removeSpot 15 = .ok (.iload_n 2, 1) := by decide +kernel
theorem dX1_removeSpot_16 : decode cX1_removeSpot 16 = .ok (.bipush (-9), 2) := by decide +kernel
theorem dX1_removeSpot_18 : decode cX1_removeSpot 18 = .ok (.if_icmp .ne 6, 3) := by decide +kernel
theorem dX1_removeSpot_21 : decode cX1_removeSpot 21 = .ok (.bipush (-2), 2) := by decide +kernel
theorem dX1_removeSpot_23 : decode cX1_removeSpot 23 = .ok (.ireturn, 1) := by decide +kernel
theorem dX1_removeSpot_24 : decode cX1_removeSpot 24 = .ok (.iload_n 2, 1) := by decide +kernel
theorem dX1_removeSpot_25 : decode cX1_removeSpot 25 = .ok (.iconst 1, 1) := by decide +kernel
theorem dX1_removeSpot_26 : decode cX1_removeSpot 26 = .ok (.iadd, 1) := by decide +kernel
theorem dX1_removeSpot_27 : decode cX1_removeSpot 27 = .ok (.istore_n 3, 1) := by decide +kernel
theorem dX1_removeSpot_28 : decode cX1_removeSpot 28 = .ok (.iload_n 3, 1) := by decide +kernel
theorem dX1_removeSpot_29 : decode cX1_removeSpot 29 = .ok (.aload_n 0, 1) := by decide +kernel
theorem dX1_removeSpot_30 : decode cX1_removeSpot 30 = .ok (.getfield 31, 3) := by decide +kernel
theorem dX1_removeSpot_33 : decode cX1_removeSpot 33 = .ok (.if_icmp .ge 23, 3) := by decide +kernel
theorem dX1_removeSpot_36 : decode cX1_removeSpot 36 = .ok (.aload_n 0, 1) := by decide +kernel
theorem dX1_removeSpot_37 : decode cX1_removeSpot 37 = .ok (.getfield 15, 3) := by decide +kernel
theorem dX1_removeSpot_40 : decode cX1_removeSpot 40 = .ok (.iload_n 3, 1) := by decide +kernel
theorem dX1_removeSpot_41 : decode cX1_removeSpot 41 = .ok (.iconst 1, 1) := by decide +kernel
theorem dX1_removeSpot_42 : decode cX1_removeSpot 42 = .ok (.isub, 1) := by decide +kernel
theorem dX1_removeSpot_43 : decode cX1_removeSpot 43 = .ok (.aload_n 0, 1) := by decide +kernel
theorem dX1_removeSpot_44 : decode cX1_removeSpot 44 = .ok (.getfield 15, 3) := by decide +kernel
theorem dX1_removeSpot_47 : decode cX1_removeSpot 47 = .ok (.iload_n 3, 1) := by decide +kernel
theorem dX1_removeSpot_48 : decode cX1_removeSpot 48 = .ok (.iaload, 1) := by decide +kernel
theorem dX1_removeSpot_49 : decode cX1_removeSpot 49 = .ok (.iastore, 1) := by decide +kernel
theorem dX1_removeSpot_50 : decode cX1_removeSpot 50 = .ok (.iinc 3 1, 3) := by decide +kernel
theorem dX1_removeSpot_53 : decode cX1_removeSpot 53 = .ok (.goto (-25), 3) := by decide +kernel
theorem dX1_removeSpot_56 : decode cX1_removeSpot 56 = .ok (.aload_n 0, 1) := by decide +kernel
theorem dX1_removeSpot_57 : decode cX1_removeSpot 57 = .ok (.dup, 1) := by decide +kernel
theorem dX1_removeSpot_58 : decode cX1_removeSpot 58 = .ok (.getfield 31, 3) := by decide +kernel
theorem dX1_removeSpot_61 : decode cX1_removeSpot 61 = .ok (.iconst 1, 1) := by decide +kernel
theorem dX1_removeSpot_62 : decode cX1_removeSpot 62 = .ok (.isub, 1) := by decide +kernel
theorem dX1_removeSpot_63 : decode cX1_removeSpot 63 = .ok (.putfield 31, 3) := by decide +kernel
theorem dX1_removeSpot_66 : decode cX1_removeSpot 66 = .ok (.iload_n 2, 1) := by decide +kernel
theorem dX1_removeSpot_67 : decode cX1_removeSpot 67 = .ok (.ireturn, 1) := by decide +kernel
set_option maxRecDepth 20000 in
theorem ggX1_swapPositions_X1_swap : GoodIn wsX1_swapPositions wsX1_swap := goodIn_r _ [6, 7, 24, 25, 26, 27, 28] (by decide +kernel) (by decide +kernel)
set_option maxRecDepth 20000 in
theorem gX1_swapPositions_X1_swap : GoodIn wsX1_swapPositions (wsV RX1 52 RX1 yX1_swap wsX1_swap) := goodIn_app (goodIn_of _ (by decide +kernel)) ggX1_swapPositions_X1_swap
set_option maxRecDepth 20000 in
theorem ggX1_swapPositions_X1_litSize : GoodIn wsX1_swapPositions wsX1_litSize := goodIn_r _ [11, 1, 12, 13, 14, 15, 5, 16, 7, 17, 18, 19, 20, 21, 22, 23, 24, 25, 26, 27, 28] (by decide +kernel) (by decide +kernel)
set_option maxRecDepth 20000 in
theorem gX1_swapPositions_X1_litSize : GoodIn wsX1_swapPositions (wsV RX1 56 RX1 yX1_litSize wsX1_litSize) := goodIn_app (goodIn_of _ (by decide +kernel)) ggX1_swapPositions_X1_litSize
theorem dX1_swapPositions_0 : decode cX1_swapPositions 0 = .ok (.iload_n 1, 1) := by decide +kernel
theorem dX1_swapPositions_1 : decode cX1_swapPositions 1 = .ok (.ifCond .lt 23, 3) := by decide +kernel
theorem dX1_swapPositions_4 : decode cX1_swapPositions 4 = .ok (.iload_n 1, 1) := by decide +kernel
theorem dX1_swapPositions_5 : decode cX1_swapPositions 5 = .ok (.aload_n 0, 1) := by decide +kernel
theorem dX1_swapPositions_6 : decode cX1_swapPositions 6 = .ok (.getfield 31, 3) := by decide +kernel
theorem dX1_swapPositions_9 : decode cX1_swapPositions 9 = .ok (.if_icmp .ge 15, 3) := by decide +kernel
theorem dX1_swapPositions_12 : decode cX1_swapPositions 12 = .ok (.iload_n 2, 1) := by decide +kernel
theorem dX1_swapPositions_13 : decode cX1_swapPositions 13 = .ok (.ifCond .lt 11, 3) := by decide +kernel
theorem dX1_swapPositions_16 : decode cX1_swapPositions 16 = .ok (.iload_n 2, 1) := by decide +kernel
theorem dX1_swapPositions_17 : decode cX1_swapPositions 17 = .ok (.aload_n 0, 1) := by decide +kernel
theorem dX1_swapPositions_18 : decode cX1_swapPositions 18 = .ok (.getfield 31, 3) := by decide +kernel
theorem dX1_swapPositions_21 : decode cX1_swapPositions 21 = .ok (.if_icmp .lt 5, 3) := by decide +kernel
theorem dX1_swapPositions_24 : decode cX1_swapPositions 24 = .ok (.iconst (-1), 1) := by decide +kernel
theorem dX1_swapPositions_25 : decode cX1_swapPositions 25 = .ok (.ireturn, 1) := by decide +kernel
theorem dX1_swapPositions_26 : decode cX1_swapPositions 26 = .ok (.aload_n 0, 1) := by decide +kernel
theorem dX1_swapPositions_27 : decode cX1_swapPositions 27 = .ok (.iload_n 1, 1) := by decide +kernel
theorem dX1_swapPositions_28 : decode cX1_swapPositions 28 = .ok (.iload_n 2, 1) := by decide +kernel
theorem dX1_swapPositions_29 : decode cX1_swapPositions 29 = .ok (.invokevirtual 52, 3) := by decide +kernel
theorem dX1_swapPositions_32 : decode cX1_swapPositions 32 = .ok (.aload_n 0, 1) := by decide +kernel
theorem dX1_swapPositions_33 : decode cX1_swapPositions 33 = .ok (.invokevirtual 56, 3) := by decide +kernel
theorem dX1_swapPositions_36 : decode cX1_swapPositions 36 = .ok (.ireturn, 1) := by decide +kernel
theorem dX1_swap_0 : decode cX1_swap 0 = .ok (.aload_n 0, 1) := by decide +kernel
theorem dX1_swap_1 : decode cX1_swap 1 = .ok (.getfield 15, 3) := by decide +kernel
theorem dX1_swap_4 : decode cX1_swap 4 = .ok (.iload_n 1, 1) := by decide +kernel
theorem dX1_swap_5 : decode cX1_swap 5 = .ok (.iaload, 1) := by decide +kernel
theorem dX1_swap_6 : decode cX1_swap 6 = .ok (.istore_n 3, 1) := by decide +kernel
theorem dX1_swap_7 : decode cX1_swap 7 = .ok (.aload_n 0, 1) := by decide +kernel
theorem dX1_swap_8 : decode cX1_swap 8 = .ok (.getfield 15, 3) := by decide +kernel
theorem dX1_swap_11 : decode cX1_swap 11 = .ok (.iload_n 1, 1) := by decide +kernel
theorem dX1_swap_12 : decode cX1_swap 12 = .ok (.aload_n 0, 1) := by decide +kernel
theorem dX1_swap_13 : decode cX1_swap 13 = .ok (.getfield 15, 3) := by decide +kernel
theorem dX1_swap_16 : decode cX1_swap 16 = .ok (.iload_n 2, 1) := by decide +kernel
theorem dX1_swap_17 : decode cX1_swap 17 = .ok (.iaload, 1) := by decide +kernel
theorem dX1_swap_18 : decode cX1_swap 18 = .ok (.iastore, 1) := by decide +kernel
theorem dX1_swap_19 : decode cX1_swap 19 = .ok (.aload_n 0, 1) := by decide +kernel
theorem dX1_swap_20 : decode cX1_swap 20 = .ok (.getfield 15, 3) := by decide +kernel
theorem dX1_swap_23 : decode cX1_swap 23 = .ok (.iload_n 2, 1) := by decide +kernel
theorem dX1_swap_24 : decode cX1_swap 24 = .ok (.iload_n 3, 1) := by decide +kernel
theorem dX1_swap_25 : decode cX1_swap 25 = .ok (.iastore, 1) := by decide +kernel
theorem dX1_swap_26 : decode cX1_swap 26 = .ok (.return_, 1) := by decide +kernel
set_option maxRecDepth 20000 in
theorem ggX1_arrange_X1_rank : GoodIn wsX1_arrange wsX1_rank := goodIn_r _ [7, 8, 9, 10, 11, 12, 13, 14, 15, 16, 17, 18, 19, 20, 21, 22, 23, 24, 25, 26, 40, 41, 42, 43, 44] (by decide +kernel) (by decide +kernel)
set_option maxRecDepth 20000 in
theorem gX1_arrange_X1_rank : GoodIn wsX1_arrange (wsV RX1 60 RX1 yX1_rank wsX1_rank) := goodIn_app (goodIn_of _ (by decide +kernel)) ggX1_arrange_X1_rank
set_option maxRecDepth 20000 in
theorem ggX1_arrange_X1_swap : GoodIn wsX1_arrange wsX1_swap := goodIn_r _ [30, 2, 40, 41, 42, 43, 44] (by decide +kernel) (by decide +kernel)
set_option maxRecDepth 20000 in
theorem gX1_arrange_X1_swap : GoodIn wsX1_arrange (wsV RX1 52 RX1 yX1_swap wsX1_swap) := goodIn_app (goodIn_of _ (by decide +kernel)) ggX1_arrange_X1_swap
set_option maxRecDepth 20000 in
theorem ggX1_arrange_X1_litSize : GoodIn wsX1_arrange wsX1_litSize := goodIn_r _ [34, 1, 35, 36, 37, 38, 6, 39, 2, 13, 11, 14, 15, 16, 17, 18, 40, 41, 42, 43, 44] (by decide +kernel) (by decide +kernel)
set_option maxRecDepth 20000 in
theorem gX1_arrange_X1_litSize : GoodIn wsX1_arrange (wsV RX1 56 RX1 yX1_litSize wsX1_litSize) := goodIn_app (goodIn_of _ (by decide +kernel)) ggX1_arrange_X1_litSize
theorem dX1_arrange_0 : decode cX1_arrange 0 = .ok (.iload_n 1, 1) := by decide +kernel
theorem dX1_arrange_1 : decode cX1_arrange 1 = .ok (.ifCond .lt 8, 3) := by decide +kernel
theorem dX1_arrange_4 : decode cX1_arrange 4 = .ok (.iload_n 1, 1) := by decide +kernel
theorem dX1_arrange_5 : decode cX1_arrange 5 = .ok (.iconst 3, 1) := by decide +kernel
theorem dX1_arrange_6 : decode cX1_arrange 6 = .ok (.if_icmp .le 5, 3) := by decide +kernel
theorem dX1_arrange_9 : decode cX1_arrange 9 = .ok (.iconst (-1), 1) := by decide +kernel
theorem dX1_arrange_10 : decode cX1_arrange 10 = .ok (.ireturn, 1) := by decide +kernel
theorem dX1_arrange_11 : decode cX1_arrange 11 = .ok (.iconst 0, 1) := by decide +kernel
theorem dX1_arrange_12 : decode cX1_arrange 12 = .ok (.istore_n 2, 1) := by decide +kernel
theorem dX1_arrange_13 : decode cX1_arrange 13 = .ok (.iconst 0, 1) := by decide +kernel
theorem dX1_arrange_14 : decode cX1_arrange 14 = .ok (.istore_n 3, 1) := by decide +kernel
theorem dX1_arrange_15 : decode cX1_arrange 15 = .ok (.iload_n 3, 1) := by decide +kernel
theorem dX1_arrange_16 : decode cX1_arrange 16 = .ok (.aload_n 0, 1) := by decide +kernel
theorem dX1_arrange_17 : decode cX1_arrange 17 = .ok (.getfield 31, 3) := by decide +kernel
theorem dX1_arrange_20 : decode cX1_arrange 20 = .ok (.if_icmp .ge 79, 3) := by decide +kernel
theorem dX1_arrange_23 : decode cX1_arrange 23 = .ok (.iload_n 3, 1) := by decide +kernel
theorem dX1_arrange_24 : decode cX1_arrange 24 = .ok (.istore 4, 2) := by decide +kernel
theorem dX1_arrange_26 : decode cX1_arrange 26 = .ok (.iload_n 3, 1) := by decide +kernel
theorem dX1_arrange_27 : decode cX1_arrange 27 = .ok (.iconst 1, 1) := by decide +kernel
theorem dX1_arrange_28 : decode cX1_arrange 28 = .ok (.iadd, 1) := by decide +kernel
theorem dX1_arrange_29 : decode cX1_arrange 29 = .ok (.istore 5, 2) := by decide +kernel
theorem dX1_arrange_31 : decode cX1_arrange 31 = .ok (.iload 5, 2) := by decide +kernel
theorem dX1_arrange_33 : decode cX1_arrange 33 = .ok (.aload_n 0, 1) := by decide +kernel
theorem dX1_arrange_34 : decode cX1_arrange 34 = .ok (.getfield 31, 3) := by decide +kernel
theorem dX1_arrange_37 : decode cX1_arrange 37 = .ok (.if_icmp .ge 42, 3) := by decide +kernel
theorem dX1_arrange_40 : decode cX1_arrange 40 = .ok (.aload_n 0, 1) := by decide +kernel
theorem dX1_arrange_41 : decode cX1_arrange 41 = .ok (.iload_n 1, 1) := by decide +kernel
theorem dX1_arrange_42 : decode cX1_arrange 42 = .ok (.aload_n 0, 1) := by decide +kernel
theorem dX1_arrange_43 : decode cX1_arrange 43 = .ok (.getfield 15, 3) := by decide +kernel
theorem dX1_arrange_46 : decode cX1_arrange 46 = .ok (.iload 5, 2) := by decide +kernel
theorem dX1_arrange_48 : decode cX1_arrange 48 = .ok (.iaload, 1) := by decide +kernel
theorem dX1_arrange_49 : decode cX1_arrange 49 = .ok (.iload_n 2, 1) := by decide +kernel
theorem dX1_arrange_50 : decode cX1_arrange 50 = .ok (.invokevirtual 60, 3) := by decide +kernel
theorem dX1_arrange_53 : decode cX1_arrange 53 = .ok (.aload_n 0, 1) := by decide +kernel
theorem dX1_arrange_54 : decode cX1_arrange 54 = .ok (.iload_n 1, 1) := by decide +kernel
theorem dX1_arrange_55 : decode cX1_arrange 55 = .ok (.aload_n 0, 1) := by decide +kernel
theorem dX1_arrange_56 : decode cX1_arrange 56 = .ok (.getfield 15, 3) := by decide +kernel
theorem dX1_arrange_59 : decode cX1_arrange 59 = .ok (.iload 4, 2) := by decide +kernel
theorem dX1_arrange_61 : decode cX1_arrange 61 = .ok (.iaload, 1) := by decide +kernel
theorem dX1_arrange_62 : decode cX1_arrange 62 = .ok (.iload_n 2, 1) := by decide +kernel
theorem dX1_arrange_63 : decode cX1_arrange 63 = .ok (.invokevirtual 60, 3) := by decide +kernel
theorem dX1_arrange_66 : decode cX1_arrange 66 = .ok (.if_icmp .ge 7, 3) := by decide +kernel
theorem dX1_arrange_69 : decode cX1_arrange 69 = .ok (.iload 5, 2) := by decide +kernel
theorem dX1_arrange_71 : decode cX1_arrange 71 = .ok (.istore 4, 2) := by decide +kernel
theorem dX1_arrange_73 : decode cX1_arrange 73 = .ok (.iinc 5 1, 3) := by decide +kernel
theorem dX1_arrange_76 : decode cX1_arrange 76 = .ok (.goto (-45), 3) := by decide +kernel
theorem dX1_arrange_79 : decode cX1_arrange 79 = .ok (.aload_n 0, 1) := by decide +kernel
theorem dX1_arrange_80 : decode cX1_arrange 80 = .ok (.iload_n 3, 1) := by decide +kernel
theorem dX1_arrange_81 : decode cX1_arrange 81 = .ok (.iload 4, 2) := by decide +kernel
theorem dX1_arrange_83 : decode cX1_arrange 83 = .ok (.invokevirtual 52, 3) := by decide +kernel
theorem dX1_arrange_86 : decode cX1_arrange 86 = .ok (.aload_n 0, 1) := by decide +kernel
theorem dX1_arrange_87 : decode cX1_arrange 87 = .ok (.getfield 15, 3) := by decide +kernel
theorem dX1_arrange_90 : decode cX1_arrange 90 = .ok (.iload_n 3, 1) := by decide +kernel
theorem dX1_arrange_91 : decode cX1_arrange 91 = .ok (.iaload, 1) := by decide +kernel
theorem dX1_arrange_92 : decode cX1_arrange 92 = .ok (.istore_n 2, 1) := by decide +kernel
theorem dX1_arrange_93 : decode cX1_arrange 93 = .ok (.iinc 3 1, 3) := by decide +kernel
theorem dX1_arrange_96 : decode cX1_arrange 96 = .ok (.goto (-81), 3) := by decide +kernel
theorem dX1_arrange_99 : decode cX1_arrange 99 = .ok (.aload_n 0, 1) := by decide +kernel
theorem dX1_arrange_100 : decode cX1_arrange 100 = .ok (.invokevirtual 56, 3) := by decide +kernel
theorem dX1_arrange_103 : decode cX1_arrange 103 = .ok (.ireturn, 1) := by decide +kernel
set_option maxRecDepth 20000 in
theorem ggX1_rank_X4_bit : GoodIn wsX1_rank wsX4_bit := goodIn_r _ [5] (by decide +kernel) (by decide +kernel)
set_option maxRecDepth 20000 in
theorem gX1_rank_X4_bit_n64 : GoodIn wsX1_rank (wsX4_bit) := ggX1_rank_X4_bit
set_option maxRecDepth 20000 in
theorem ggX1_rank_X4_way : GoodIn wsX1_rank wsX4_way := goodIn_r _ [7, 8, 9, 10, 11] (by decide +kernel) (by decide +kernel)
set_option maxRecDepth 20000 in
theorem gX1_rank_X4_way_n68 : GoodIn wsX1_rank (wsX4_way) := ggX1_rank_X4_way
set_option maxRecDepth 20000 in
theorem ggX1_rank_X4_ticksAbove : GoodIn wsX1_rank wsX4_ticksAbove := goodIn_r _ [13, 14, 15, 4, 16, 17, 18, 10, 19] (by decide +kernel) (by decide +kernel)
set_option maxRecDepth 20000 in
theorem gX1_rank_X4_ticksAbove_n72 : GoodIn wsX1_rank (wsX4_ticksAbove) := ggX1_rank_X4_ticksAbove
theorem dX1_rank_0 : decode cX1_rank 0 = .ok (.iload_n 1, 1) := by decide +kernel
theorem dX1_rank_1 : decode cX1_rank 1 = .ok (.tableswitch 70 0 2 #[27, 29, 54], 27) := by decide +kernel
theorem dX1_rank_28 : decode cX1_rank 28 = .ok (.iload_n 2, 1) := by decide +kernel
theorem dX1_rank_29 : decode cX1_rank 29 = .ok (.ireturn, 1) := by decide +kernel
theorem dX1_rank_30 : decode cX1_rank 30 = .ok (.aload_n 0, 1) := by decide +kernel
theorem dX1_rank_31 : decode cX1_rank 31 = .ok (.getfield 18, 3) := by decide +kernel
theorem dX1_rank_34 : decode cX1_rank 34 = .ok (.iconst 1, 1) := by decide +kernel
theorem dX1_rank_35 : decode cX1_rank 35 = .ok (.laload, 1) := by decide +kernel
theorem dX1_rank_36 : decode cX1_rank 36 = .ok (.iload_n 2, 1) := by decide +kernel
theorem dX1_rank_37 : decode cX1_rank 37 = .ok (.invokestatic 64, 3) := by decide +kernel
theorem dX1_rank_40 : decode cX1_rank 40 = .ok (.bipush 15, 2) := by decide +kernel
theorem dX1_rank_42 : decode cX1_rank 42 = .ok (.imul, 1) := by decide +kernel
theorem dX1_rank_43 : decode cX1_rank 43 = .ok (.iconst 0, 1) := by decide +kernel
theorem dX1_rank_44 : decode cX1_rank 44 = .ok (.iload_n 2, 1) := by decide +kernel
theorem dX1_rank_45 : decode cX1_rank 45 = .ok (.invokestatic 68, 3) := by decide +kernel
theorem dX1_rank_48 : decode cX1_rank 48 = .ok (.iadd, 1) := by decide +kernel
theorem dX1_rank_49 : decode cX1_rank 49 = .ok (.bipush 64, 2) := by decide +kernel
theorem dX1_rank_51 : decode cX1_rank 51 = .ok (.imul, 1) := by decide +kernel
theorem dX1_rank_52 : decode cX1_rank 52 = .ok (.iload_n 2, 1) := by decide +kernel
theorem dX1_rank_53 : decode cX1_rank 53 = .ok (.iadd, 1) := by decide +kernel
theorem dX1_rank_54 : decode cX1_rank 54 = .ok (.ireturn, 1) := by decide +kernel
theorem dX1_rank_55 : decode cX1_rank 55 = .ok (.aload_n 0, 1) := by decide +kernel
theorem dX1_rank_56 : decode cX1_rank 56 = .ok (.getfield 9, 3) := by decide +kernel
theorem dX1_rank_59 : decode cX1_rank 59 = .ok (.iload_n 2, 1) := by decide +kernel
theorem dX1_rank_60 : decode cX1_rank 60 = .ok (.iaload, 1) := by decide +kernel
theorem dX1_rank_61 : decode cX1_rank 61 = .ok (.iconst 1, 1) := by decide +kernel
theorem dX1_rank_62 : decode cX1_rank 62 = .ok (.invokestatic 72, 3) := by decide +kernel
theorem dX1_rank_65 : decode cX1_rank 65 = .ok (.bipush 64, 2) := by decide +kernel
theorem dX1_rank_67 : decode cX1_rank 67 = .ok (.imul, 1) := by decide +kernel
theorem dX1_rank_68 : decode cX1_rank 68 = .ok (.iload_n 2, 1) := by decide +kernel
theorem dX1_rank_69 : decode cX1_rank 69 = .ok (.iadd, 1) := by decide +kernel
theorem dX1_rank_70 : decode cX1_rank 70 = .ok (.ireturn, 1) := by decide +kernel
theorem dX1_rank_71 : decode cX1_rank 71 = .ok (.iload_n 3, 1) := by decide +kernel
theorem dX1_rank_72 : decode cX1_rank 72 = .ok (.iload_n 2, 1) := by decide +kernel
theorem dX1_rank_73 : decode cX1_rank 73 = .ok (.invokestatic 68, 3) := by decide +kernel
theorem dX1_rank_76 : decode cX1_rank 76 = .ok (.bipush 64, 2) := by decide +kernel
theorem dX1_rank_78 : decode cX1_rank 78 = .ok (.imul, 1) := by decide +kernel
theorem dX1_rank_79 : decode cX1_rank 79 = .ok (.iload_n 2, 1) := by decide +kernel
theorem dX1_rank_80 : decode cX1_rank 80 = .ok (.iadd, 1) := by decide +kernel
theorem dX1_rank_81 : decode cX1_rank 81 = .ok (.ireturn, 1) := by decide +kernel
set_option maxRecDepth 20000 in
theorem ggX1_paint_X4_isSpot : GoodIn wsX1_paint wsX4_isSpot := goodIn_r _ [5] (by decide +kernel) (by decide +kernel)
set_option maxRecDepth 20000 in
theorem gX1_paint_X4_isSpot_n41 : GoodIn wsX1_paint (wsX4_isSpot) := ggX1_paint_X4_isSpot
set_option maxRecDepth 20000 in
theorem ggX1_paint_J13_bitCount_95d88 : GoodIn wsX1_paint wsJ13_bitCount_95d88 := goodIn_r _ [9, 10, 11, 12] (by decide +kernel) (by decide +kernel)
set_option maxRecDepth 20000 in
theorem gX1_paint_J13_bitCount_95d88 : GoodIn wsX1_paint (va_wsS RX1 77 yJ13_bitCount_95d88 wsJ13_bitCount_95d88) := goodIn_app (goodIn_of _ (by decide +kernel)) ggX1_paint_J13_bitCount_95d88
theorem dX1_paint_0 : decode cX1_paint 0 = .ok (.iload_n 1, 1) := by decide +kernel
theorem dX1_paint_1 : decode cX1_paint 1 = .ok (.ifCond .lt 24, 3) := by decide +kernel
theorem dX1_paint_4 : decode cX1_paint 4 = .ok (.iload_n 1, 1) := by decide +kernel
theorem dX1_paint_5 : decode cX1_paint 5 = .ok (.iconst 2, 1) := by decide +kernel
theorem dX1_paint_6 : decode cX1_paint 6 = .ok (.if_icmp .ge 19, 3) := by decide +kernel
theorem dX1_paint_9 : decode cX1_paint 9 = .ok (.iload_n 2, 1) := by decide +kernel
theorem dX1_paint_10 : decode cX1_paint 10 = .ok (.invokestatic 41, 3) := by decide +kernel
theorem dX1_paint_13 : decode cX1_paint 13 = .ok (.ifCond .eq 12, 3) := by decide +kernel
theorem dX1_paint_16 : decode cX1_paint 16 = .ok (.iload_n 3, 1) := by decide +kernel
theorem dX1_paint_17 : decode cX1_paint 17 = .ok (.ifCond .lt 8, 3) := by decide +kernel
theorem dX1_paint_20 : decode cX1_paint 20 = .ok (.iload_n 3, 1) := by decide +kernel
theorem dX1_paint_21 : decode cX1_paint 21 = .ok (.iconst 1, 1) := by decide +kernel
theorem dX1_paint_22 : decode cX1_paint 22 = .ok (.if_icmp .le 5, 3) := by decide +kernel
theorem dX1_paint_25 : decode cX1_paint 25 = .ok (.iconst (-1), 1) := by decide +kernel
theorem dX1_paint_26 : decode cX1_paint 26 = .ok (.ireturn, 1) := by decide +kernel
theorem dX1_paint_27 : decode cX1_paint 27 = .ok (.iload_n 3, 1) := by decide +kernel
theorem dX1_paint_28 : decode cX1_paint 28 = .ok (.iconst 1, 1) := by decide +kernel
theorem dX1_paint_29 : decode cX1_paint 29 = .ok (.if_icmp .ne 18, 3) := by decide +kernel
theorem dX1_paint_32 : decode cX1_paint 32 = .ok (.aload_n 0, 1) := by decide +kernel
theorem dX1_paint_33 : decode cX1_paint 33 = .ok (.getfield 18, 3) := by decide +kernel
theorem dX1_paint_36 : decode cX1_paint 36 = .ok (.iload_n 1, 1) := by decide +kernel
theorem dX1_paint_37 : decode cX1_paint 37 = .ok (.dup2, 1) := by decide +kernel
theorem dX1_paint_38 : decode cX1_paint 38 = .ok (.laload, 1) := by decide +kernel
theorem dX1_paint_39 : decode cX1_paint 39 = .ok (.lconst 1, 1) := by decide +kernel
theorem dX1_paint_40 : decode cX1_paint 40 = .ok (.iload_n 2, 1) := by decide +kernel
theorem dX1_paint_41 : decode cX1_paint 41 = .ok (.lshl, 1) := by decide +kernel
theorem dX1_paint_42 : decode cX1_paint 42 = .ok (.lor, 1) := by decide +kernel
theorem dX1_paint_43 : decode cX1_paint 43 = .ok (.lastore, 1) := by decide +kernel
theorem dX1_paint_44 : decode cX1_paint 44 = .ok (.goto 19, 3) := by decide +kernel
theorem dX1_paint_47 : decode cX1_paint 47 = .ok (.aload_n 0, 1) := by decide +kernel
theorem dX1_paint_48 : decode cX1_paint 48 = .ok (.getfield 18, 3) := by decide +kernel
theorem dX1_paint_51 : decode cX1_paint 51 = .ok (.iload_n 1, 1) := by decide +kernel
theorem dX1_paint_52 : decode cX1_paint 52 = .ok (.dup2, 1) := by decide +kernel
theorem dX1_paint_53 : decode cX1_paint 53 = .ok (.laload, 1) := by decide +kernel
theorem dX1_paint_54 : decode cX1_paint 54 = .ok (.lconst 1, 1) := by decide +kernel
theorem dX1_paint_55 : decode cX1_paint 55 = .ok (.iload_n 2, 1) := by decide +kernel
theorem dX1_paint_56 : decode cX1_paint 56 = .ok (.lshl, 1) := by decide +kernel
theorem dX1_paint_57 : decode cX1_paint 57 = .ok (.ldc2_w 75, 3) := by decide +kernel
theorem dX1_paint_60 : decode cX1_paint 60 = .ok (.lxor, 1) := by decide +kernel
theorem dX1_paint_61 : decode cX1_paint 61 = .ok (.land, 1) := by decide +kernel
theorem dX1_paint_62 : decode cX1_paint 62 = .ok (.lastore, 1) := by decide +kernel
theorem dX1_paint_63 : decode cX1_paint 63 = .ok (.aload_n 0, 1) := by decide +kernel
theorem dX1_paint_64 : decode cX1_paint 64 = .ok (.getfield 18, 3) := by decide +kernel
theorem dX1_paint_67 : decode cX1_paint 67 = .ok (.iload_n 1, 1) := by decide +kernel
theorem dX1_paint_68 : decode cX1_paint 68 = .ok (.laload, 1) := by decide +kernel
theorem dX1_paint_69 : decode cX1_paint 69 = .ok (.invokestatic 77, 3) := by decide +kernel
theorem dX1_paint_72 : decode cX1_paint 72 = .ok (.ireturn, 1) := by decide +kernel
theorem dX1_positionOf_0 : decode cX1_positionOf 0 = .ok (.iconst 0, 1) := by decide +kernel
theorem dX1_positionOf_1 : decode cX1_positionOf 1 = .ok (.istore_n 2, 1) := by decide +kernel
theorem dX1_positionOf_2 : decode cX1_positionOf 2 = .ok (.iload_n 2, 1) := by decide +kernel
theorem dX1_positionOf_3 : decode cX1_positionOf 3 = .ok (.aload_n 0, 1) := by decide +kernel
theorem dX1_positionOf_4 : decode cX1_positionOf 4 = .ok (.getfield 31, 3) := by decide +kernel
theorem dX1_positionOf_7 : decode cX1_positionOf 7 = .ok (.if_icmp .ge 21, 3) := by decide +kernel
theorem dX1_positionOf_10 : decode cX1_positionOf 10 = .ok (.aload_n 0, 1) := by decide +kernel
theorem dX1_positionOf_11 : decode cX1_positionOf 11 = .ok (.getfield 15, 3) := by decide +kernel
theorem dX1_positionOf_14 : decode cX1_positionOf 14 = .ok (.iload_n 2, 1) := by decide +kernel
theorem dX1_positionOf_15 : decode cX1_positionOf 15 = .ok (.iaload, 1) := by decide +kernel
theorem dX1_positionOf_16 : decode cX1_positionOf 16 = .ok (.iload_n 1, 1) := by decide +kernel
theorem dX1_positionOf_17 : decode cX1_positionOf 17 = .ok (.if_icmp .ne 5, 3) := by decide +kernel
theorem dX1_positionOf_20 : decode cX1_positionOf 20 = .ok (.iload_n 2, 1) := by decide +kernel
theorem dX1_positionOf_21 : decode cX1_positionOf 21 = .ok (.ireturn, 1) := by decide +kernel
theorem dX1_positionOf_22 : decode cX1_positionOf 22 = .ok (.iinc 2 1, 3) := by decide +kernel
theorem dX1_positionOf_25 : decode cX1_positionOf 25 = .ok (.goto (-23), 3) := by decide +kernel
theorem dX1_positionOf_28 : decode cX1_positionOf 28 = .ok (.bipush (-9), 2) := by decide +kernel
theorem dX1_positionOf_30 : decode cX1_positionOf 30 = .ok (.ireturn, 1) := by decide +kernel
theorem dX1_spotsOfOrder_0 : decode cX1_spotsOfOrder 0 = .ok (.lconst 0, 1) := by decide +kernel
theorem dX1_spotsOfOrder_1 : decode cX1_spotsOfOrder 1 = .ok (.lstore_n 1, 1) := by decide +kernel
theorem dX1_spotsOfOrder_2 : decode cX1_spotsOfOrder 2 = .ok (.iconst 0, 1) := by decide +kernel
theorem dX1_spotsOfOrder_3 : decode cX1_spotsOfOrder 3 = .ok (.istore_n 3, 1) := by decide +kernel
theorem dX1_spotsOfOrder_4 : decode cX1_spotsOfOrder 4 = .ok (.iload_n 3, 1) := by decide +kernel
theorem dX1_spotsOfOrder_5 : decode cX1_spotsOfOrder 5 = .ok (.aload_n 0, 1) := by decide +kernel
theorem dX1_spotsOfOrder_6 : decode cX1_spotsOfOrder 6 = .ok (.getfield 31, 3) := by decide +kernel
theorem dX1_spotsOfOrder_9 : decode cX1_spotsOfOrder 9 = .ok (.if_icmp .ge 20, 3) := by decide +kernel
theorem dX1_spotsOfOrder_12 : decode cX1_spotsOfOrder 12 = .ok (.lload_n 1, 1) := by decide +kernel
theorem dX1_spotsOfOrder_13 : decode cX1_spotsOfOrder 13 = .ok (.lconst 1, 1) := by decide +kernel
theorem dX1_spotsOfOrder_14 : decode cX1_spotsOfOrder 14 = .ok (.aload_n 0, 1) := by decide +kernel
theorem dX1_spotsOfOrder_15 : decode cX1_spotsOfOrder 15 = .ok (.getfield 15, 3) := by decide +kernel
theorem dX1_spotsOfOrder_18 : decode cX1_spotsOfOrder 18 = .ok (.iload_n 3, 1) := by decide +kernel
theorem dX1_spotsOfOrder_19 : decode cX1_spotsOfOrder 19 = .ok (.iaload, 1) := by decide +kernel
theorem dX1_spotsOfOrder_20 : decode cX1_spotsOfOrder 20 = .ok (.lshl, 1) := by decide +kernel
theorem dX1_spotsOfOrder_21 : decode cX1_spotsOfOrder 21 = .ok (.lor, 1) := by decide +kernel
theorem dX1_spotsOfOrder_22 : decode cX1_spotsOfOrder 22 = .ok (.lstore_n 1, 1) := by decide +kernel
theorem dX1_spotsOfOrder_23 : decode cX1_spotsOfOrder 23 = .ok (.iinc 3 1, 3) := by decide +kernel
theorem dX1_spotsOfOrder_26 : decode cX1_spotsOfOrder 26 = .ok (.goto (-22), 3) := by decide +kernel
theorem dX1_spotsOfOrder_29 : decode cX1_spotsOfOrder 29 = .ok (.lload_n 1, 1) := by decide +kernel
theorem dX1_spotsOfOrder_30 : decode cX1_spotsOfOrder 30 = .ok (.lreturn, 1) := by decide +kernel
set_option maxRecDepth 20000 in
theorem ggX1_sumOfWays_X4_way : GoodIn wsX1_sumOfWays wsX4_way := goodIn_r _ [5, 6, 7, 8, 9] (by decide +kernel) (by decide +kernel)
set_option maxRecDepth 20000 in
theorem gX1_sumOfWays_X4_way_n68 : GoodIn wsX1_sumOfWays (wsX4_way) := ggX1_sumOfWays_X4_way
theorem dX1_sumOfWays_0 : decode cX1_sumOfWays 0 = .ok (.iconst 0, 1) := by decide +kernel
theorem dX1_sumOfWays_1 : decode cX1_sumOfWays 1 = .ok (.istore_n 1, 1) := by decide +kernel
theorem dX1_sumOfWays_2 : decode cX1_sumOfWays 2 = .ok (.iconst 0, 1) := by decide +kernel
theorem dX1_sumOfWays_3 : decode cX1_sumOfWays 3 = .ok (.istore_n 2, 1) := by decide +kernel
theorem dX1_sumOfWays_4 : decode cX1_sumOfWays 4 = .ok (.iconst 0, 1) := by decide +kernel
theorem dX1_sumOfWays_5 : decode cX1_sumOfWays 5 = .ok (.istore_n 3, 1) := by decide +kernel
theorem dX1_sumOfWays_6 : decode cX1_sumOfWays 6 = .ok (.iload_n 3, 1) := by decide +kernel
theorem dX1_sumOfWays_7 : decode cX1_sumOfWays 7 = .ok (.aload_n 0, 1) := by decide +kernel
theorem dX1_sumOfWays_8 : decode cX1_sumOfWays 8 = .ok (.getfield 31, 3) := by decide +kernel
theorem dX1_sumOfWays_11 : decode cX1_sumOfWays 11 = .ok (.if_icmp .ge 29, 3) := by decide +kernel
theorem dX1_sumOfWays_14 : decode cX1_sumOfWays 14 = .ok (.iload_n 1, 1) := by decide +kernel
theorem dX1_sumOfWays_15 : decode cX1_sumOfWays 15 = .ok (.iload_n 2, 1) := by decide +kernel
theorem dX1_sumOfWays_16 : decode cX1_sumOfWays 16 = .ok (.aload_n 0, 1) := by decide +kernel
theorem dX1_sumOfWays_17 : decode cX1_sumOfWays 17 = .ok (.getfield 15, 3) := by decide +kernel
theorem dX1_sumOfWays_20 : decode cX1_sumOfWays 20 = .ok (.iload_n 3, 1) := by decide +kernel
theorem dX1_sumOfWays_21 : decode cX1_sumOfWays 21 = .ok (.iaload, 1) := by decide +kernel
theorem dX1_sumOfWays_22 : decode cX1_sumOfWays 22 = .ok (.invokestatic 68, 3) := by decide +kernel
theorem dX1_sumOfWays_25 : decode cX1_sumOfWays 25 = .ok (.iadd, 1) := by decide +kernel
theorem dX1_sumOfWays_26 : decode cX1_sumOfWays 26 = .ok (.istore_n 1, 1) := by decide +kernel
theorem dX1_sumOfWays_27 : decode cX1_sumOfWays 27 = .ok (.aload_n 0, 1) := by decide +kernel
theorem dX1_sumOfWays_28 : decode cX1_sumOfWays 28 = .ok (.getfield 15, 3) := by decide +kernel
theorem dX1_sumOfWays_31 : decode cX1_sumOfWays 31 = .ok (.iload_n 3, 1) := by decide +kernel
theorem dX1_sumOfWays_32 : decode cX1_sumOfWays 32 = .ok (.iaload, 1) := by decide +kernel
theorem dX1_sumOfWays_33 : decode cX1_sumOfWays 33 = .ok (.istore_n 2, 1) := by decide +kernel
theorem dX1_sumOfWays_34 : decode cX1_sumOfWays 34 = .ok (.iinc 3 1, 3) := by decide +kernel
theorem dX1_sumOfWays_37 : decode cX1_sumOfWays 37 = .ok (.goto (-31), 3) := by decide +kernel
theorem dX1_sumOfWays_40 : decode cX1_sumOfWays 40 = .ok (.iload_n 1, 1) := by decide +kernel
theorem dX1_sumOfWays_41 : decode cX1_sumOfWays 41 = .ok (.ireturn, 1) := by decide +kernel
set_option maxRecDepth 20000 in
theorem ggX1_arrival_X4_way : GoodIn wsX1_arrival wsX4_way := goodIn_r _ [6, 7, 8, 9, 10] (by decide +kernel) (by decide +kernel)
set_option maxRecDepth 20000 in
theorem gX1_arrival_X4_way_n68 : GoodIn wsX1_arrival (wsX4_way) := ggX1_arrival_X4_way
theorem dX1_arrival_0 : decode cX1_arrival 0 = .ok (.iconst 0, 1) := by decide +kernel
theorem dX1_arrival_1 : decode cX1_arrival 1 = .ok (.istore_n 2, 1) := by decide +kernel
theorem dX1_arrival_2 : decode cX1_arrival 2 = .ok (.iconst 0, 1) := by decide +kernel
theorem dX1_arrival_3 : decode cX1_arrival 3 = .ok (.istore_n 3, 1) := by decide +kernel
theorem dX1_arrival_4 : decode cX1_arrival 4 = .ok (.iconst 0, 1) := by decide +kernel
theorem dX1_arrival_5 : decode cX1_arrival 5 = .ok (.istore 4, 2) := by decide +kernel
theorem dX1_arrival_7 : decode cX1_arrival 7 = .ok (.iload 4, 2) := by decide +kernel
theorem dX1_arrival_9 : decode cX1_arrival 9 = .ok (.iload_n 1, 1) := by decide +kernel
theorem dX1_arrival_10 : decode cX1_arrival 10 = .ok (.if_icmp .gt 49, 3) := by decide +kernel
theorem dX1_arrival_13 : decode cX1_arrival 13 = .ok (.iload 4, 2) := by decide +kernel
theorem dX1_arrival_15 : decode cX1_arrival 15 = .ok (.aload_n 0, 1) := by decide +kernel
theorem dX1_arrival_16 : decode cX1_arrival 16 = .ok (.getfield 31, 3) := by decide +kernel
theorem dX1_arrival_19 : decode cX1_arrival 19 = .ok (.if_icmp .ge 40, 3) := by decide +kernel
theorem dX1_arrival_22 : decode cX1_arrival 22 = .ok (.iload_n 2, 1) := by decide +kernel
theorem dX1_arrival_23 : decode cX1_arrival 23 = .ok (.iload_n 3, 1) := by decide +kernel
theorem dX1_arrival_24 : decode cX1_arrival 24 = .ok (.aload_n 0, 1) := by decide +kernel
theorem dX1_arrival_25 : decode cX1_arrival 25 = .ok (.getfield 15, 3) := by decide +kernel
theorem dX1_arrival_28 : decode cX1_arrival 28 = .ok (.iload 4, 2) := by decide +kernel
theorem dX1_arrival_30 : decode cX1_arrival 30 = .ok (.iaload, 1) := by decide +kernel
theorem dX1_arrival_31 : decode cX1_arrival 31 = .ok (.invokestatic 68, 3) := by decide +kernel
theorem dX1_arrival_34 : decode cX1_arrival 34 = .ok (.aload_n 0, 1) := by decide +kernel
theorem dX1_arrival_35 : decode cX1_arrival 35 = .ok (.getfield 22, 3) := by decide +kernel
theorem dX1_arrival_38 : decode cX1_arrival 38 = .ok (.iconst 1, 1) := by decide +kernel
theorem dX1_arrival_39 : decode cX1_arrival 39 = .ok (.iaload, 1) := by decide +kernel
theorem dX1_arrival_40 : decode cX1_arrival 40 = .ok (.imul, 1) := by decide +kernel
theorem dX1_arrival_41 : decode cX1_arrival 41 = .ok (.iconst 1, 1) := by decide +kernel
theorem dX1_arrival_42 : decode cX1_arrival 42 = .ok (.iadd, 1) := by decide +kernel
theorem dX1_arrival_43 : decode cX1_arrival 43 = .ok (.iadd, 1) := by decide +kernel
theorem dX1_arrival_44 : decode cX1_arrival 44 = .ok (.istore_n 2, 1) := by decide +kernel
theorem dX1_arrival_45 : decode cX1_arrival 45 = .ok (.aload_n 0, 1) := by decide +kernel
theorem dX1_arrival_46 : decode cX1_arrival 46 = .ok (.getfield 15, 3) := by decide +kernel
theorem dX1_arrival_49 : decode cX1_arrival 49 = .ok (.iload 4, 2) := by decide +kernel
theorem dX1_arrival_51 : decode cX1_arrival 51 = .ok (.iaload, 1) := by decide +kernel
theorem dX1_arrival_52 : decode cX1_arrival 52 = .ok (.istore_n 3, 1) := by decide +kernel
theorem dX1_arrival_53 : decode cX1_arrival 53 = .ok (.iinc 4 1, 3) := by decide +kernel
theorem dX1_arrival_56 : decode cX1_arrival 56 = .ok (.goto (-49), 3) := by decide +kernel
theorem dX1_arrival_59 : decode cX1_arrival 59 = .ok (.iload_n 2, 1) := by decide +kernel
theorem dX1_arrival_60 : decode cX1_arrival 60 = .ok (.ireturn, 1) := by decide +kernel
set_option maxRecDepth 20000 in
theorem ggX1_litSize_X1_arrival : GoodIn wsX1_litSize wsX1_arrival := goodIn_r _ [7, 1, 8, 2, 9, 10, 11, 12, 13, 14, 15, 16, 17, 18, 19, 20] (by decide +kernel) (by decide +kernel)
set_option maxRecDepth 20000 in
theorem gX1_litSize_X1_arrival : GoodIn wsX1_litSize (wsV RX1 83 RX1 yX1_arrival wsX1_arrival) := goodIn_app (goodIn_of _ (by decide +kernel)) ggX1_litSize_X1_arrival
theorem dX1_litSize_0 : decode cX1_litSize 0 = .ok (.iconst 0, 1) := by decide +kernel
theorem dX1_litSize_1 : decode cX1_litSize 1 = .ok (.istore_n 1, 1) := by decide +kernel
theorem dX1_litSize_2 : decode cX1_litSize 2 = .ok (.iload_n 1, 1) := by decide +kernel
theorem dX1_litSize_3 : decode cX1_litSize 3 = .ok (.aload_n 0, 1) := by decide +kernel
theorem dX1_litSize_4 : decode cX1_litSize 4 = .ok (.getfield 31, 3) := by decide +kernel
theorem dX1_litSize_7 : decode cX1_litSize 7 = .ok (.if_icmp .ge 23, 3) := by decide +kernel
theorem dX1_litSize_10 : decode cX1_litSize 10 = .ok (.aload_n 0, 1) := by decide +kernel
theorem dX1_litSize_11 : decode cX1_litSize 11 = .ok (.iload_n 1, 1) := by decide +kernel
theorem dX1_litSize_12 : decode cX1_litSize 12 = .ok (.invokevirtual 83, 3) := by decide +kernel
theorem dX1_litSize_15 : decode cX1_litSize 15 = .ok (.aload_n 0, 1) := by decide +kernel
theorem dX1_litSize_16 : decode cX1_litSize 16 = .ok (.getfield 22, 3) := by decide +kernel
theorem dX1_litSize_19 : decode cX1_litSize 19 = .ok (.iconst 0, 1) := by decide +kernel
theorem dX1_litSize_20 : decode cX1_litSize 20 = .ok (.iaload, 1) := by decide +kernel
theorem dX1_litSize_21 : decode cX1_litSize 21 = .ok (.if_icmp .ge 9, 3) := by decide +kernel
theorem dX1_litSize_24 : decode cX1_litSize 24 = .ok (.iinc 1 1, 3) := by decide +kernel
theorem dX1_litSize_27 : decode cX1_litSize 27 = .ok (.goto (-25), 3) := by decide +kernel
theorem dX1_litSize_30 : decode cX1_litSize 30 = .ok (.iload_n 1, 1) := by decide +kernel
theorem dX1_litSize_31 : decode cX1_litSize 31 = .ok (.ireturn, 1) := by decide +kernel
set_option maxRecDepth 20000 in
theorem ggX1_litTick_X1_positionOf : GoodIn wsX1_litTick wsX1_positionOf := goodIn_r _ [6, 7, 8, 20, 21, 22, 23, 24] (by decide +kernel) (by decide +kernel)
set_option maxRecDepth 20000 in
theorem gX1_litTick_X1_positionOf : GoodIn wsX1_litTick (wsV RX1 48 RX1 yX1_positionOf wsX1_positionOf) := goodIn_app (goodIn_of _ (by decide +kernel)) ggX1_litTick_X1_positionOf
set_option maxRecDepth 20000 in
theorem ggX1_litTick_X1_arrival : GoodIn wsX1_litTick wsX1_arrival := goodIn_r _ [12, 7, 8, 1, 13, 14, 15, 16, 17, 18, 19, 20, 21, 22, 23, 24] (by decide +kernel) (by decide +kernel)
set_option maxRecDepth 20000 in
theorem gX1_litTick_X1_arrival : GoodIn wsX1_litTick (wsV RX1 83 RX1 yX1_arrival wsX1_arrival) := goodIn_app (goodIn_of _ (by decide +kernel)) ggX1_litTick_X1_arrival
theorem dX1_litTick_0 : decode cX1_litTick 0 = .ok (.aload_n 0, 1) := by decide +kernel
theorem dX1_litTick_1 : decode cX1_litTick 1 = .ok (.iload_n 1, 1) := by decide +kernel
theorem dX1_litTick_2 : decode cX1_litTick 2 = .ok (.invokevirtual 48, 3) := by decide +kernel
theorem dX1_litTick_5 : decode cX1_litTick 5 = .ok (.istore_n 2, 1) := by decide +kernel
theorem dX1_litTick_6 : decode cX1_litTick 6 = .ok (.iload_n 2, 1) := by decide +kernel
theorem dX1_litTick_7 : decode cX1_litTick 7 = .ok (.bipush (-9), 2) := by decide +kernel
theorem dX1_litTick_9 : decode cX1_litTick 9 = .ok (.if_icmp .eq 17, 3) := by decide +kernel
theorem dX1_litTick_12 : decode cX1_litTick 12 = .ok (.aload_n 0, 1) := by decide +kernel
theorem dX1_litTick_13 : decode cX1_litTick 13 = .ok (.iload_n 2, 1) := by decide +kernel
theorem dX1_litTick_14 : decode cX1_litTick 14 = .ok (.invokevirtual 83, 3) := by decide +kernel
theorem dX1_litTick_17 : decode cX1_litTick 17 = .ok (.aload_n 0, 1) := by decide +kernel
theorem dX1_litTick_18 : decode cX1_litTick 18 = .ok (.getfield 22, 3) := by decide +kernel
theorem dX1_litTick_21 : decode cX1_litTick 21 = .ok (.iconst 0, 1) := by decide +kernel
theorem dX1_litTick_22 : decode cX1_litTick 22 = .ok (.iaload, 1) := by decide +kernel
theorem dX1_litTick_23 : decode cX1_litTick 23 = .ok (.if_icmp .lt 6, 3) := by decide +kernel
theorem dX1_litTick_26 : decode cX1_litTick 26 = .ok (.bipush (-9), 2) := by decide +kernel
theorem dX1_litTick_28 : decode cX1_litTick 28 = .ok (.ireturn, 1) := by decide +kernel
theorem dX1_litTick_29 : decode cX1_litTick 29 = .ok (.aload_n 0, 1) := by decide +kernel
theorem dX1_litTick_30 : decode cX1_litTick 30 = .ok (.iload_n 2, 1) := by decide +kernel
theorem dX1_litTick_31 : decode cX1_litTick 31 = .ok (.invokevirtual 83, 3) := by decide +kernel
theorem dX1_litTick_34 : decode cX1_litTick 34 = .ok (.ireturn, 1) := by decide +kernel
set_option maxRecDepth 20000 in
theorem ggX1_shine_X4_glow : GoodIn wsX1_shine wsX4_glow := goodIn_r _ [5, 6, 7, 8, 9] (by decide +kernel) (by decide +kernel)
set_option maxRecDepth 20000 in
theorem gX1_shine_X4_glow_n86 : GoodIn wsX1_shine (wsX4_glow) := ggX1_shine_X4_glow
theorem dX1_shine_0 : decode cX1_shine 0 = .ok (.iload_n 2, 1) := by decide +kernel
theorem dX1_shine_1 : decode cX1_shine 1 = .ok (.bipush (-9), 2) := by decide +kernel
theorem dX1_shine_3 : decode cX1_shine 3 = .ok (.if_icmp .ne 5, 3) := by decide +kernel
theorem dX1_shine_6 : decode cX1_shine 6 = .ok (.iconst 0, 1) := by decide +kernel
theorem dX1_shine_7 : decode cX1_shine 7 = .ok (.ireturn, 1) := by decide +kernel
theorem dX1_shine_8 : decode cX1_shine 8 = .ok (.iload_n 3, 1) := by decide +kernel
theorem dX1_shine_9 : decode cX1_shine 9 = .ok (.iload_n 2, 1) := by decide +kernel
theorem dX1_shine_10 : decode cX1_shine 10 = .ok (.isub, 1) := by decide +kernel
theorem dX1_shine_11 : decode cX1_shine 11 = .ok (.istore 4, 2) := by decide +kernel
theorem dX1_shine_13 : decode cX1_shine 13 = .ok (.aload_n 0, 1) := by decide +kernel
theorem dX1_shine_14 : decode cX1_shine 14 = .ok (.getfield 9, 3) := by decide +kernel
theorem dX1_shine_17 : decode cX1_shine 17 = .ok (.iload_n 1, 1) := by decide +kernel
theorem dX1_shine_18 : decode cX1_shine 18 = .ok (.iaload, 1) := by decide +kernel
theorem dX1_shine_19 : decode cX1_shine 19 = .ok (.iload 4, 2) := by decide +kernel
theorem dX1_shine_21 : decode cX1_shine 21 = .ok (.ifCond .ge 15, 3) := by decide +kernel
theorem dX1_shine_24 : decode cX1_shine 24 = .ok (.iload 4, 2) := by decide +kernel
theorem dX1_shine_26 : decode cX1_shine 26 = .ok (.aload_n 0, 1) := by decide +kernel
theorem dX1_shine_27 : decode cX1_shine 27 = .ok (.getfield 22, 3) := by decide +kernel
theorem dX1_shine_30 : decode cX1_shine 30 = .ok (.iconst 0, 1) := by decide +kernel
theorem dX1_shine_31 : decode cX1_shine 31 = .ok (.iaload, 1) := by decide +kernel
theorem dX1_shine_32 : decode cX1_shine 32 = .ok (.iadd, 1) := by decide +kernel
theorem dX1_shine_33 : decode cX1_shine 33 = .ok (.goto 5, 3) := by decide +kernel
theorem dX1_shine_36 : decode cX1_shine 36 = .ok (.iload 4, 2) := by decide +kernel
theorem dX1_shine_38 : decode cX1_shine 38 = .ok (.invokestatic 86, 3) := by decide +kernel
theorem dX1_shine_41 : decode cX1_shine 41 = .ok (.ireturn, 1) := by decide +kernel
set_option maxRecDepth 20000 in
theorem ggX1_sumOver_X1_litTick : GoodIn wsX1_sumOver wsX1_litTick := goodIn_r _ [5, 6, 7, 8, 9, 4, 10, 11, 12, 13, 14, 15, 16, 17, 18, 19, 20, 21, 22, 23, 38, 39, 40, 41, 42] (by decide +kernel) (by decide +kernel)
set_option maxRecDepth 20000 in
theorem gX1_sumOver_X1_litTick : GoodIn wsX1_sumOver (wsV RX1 89 RX1 yX1_litTick wsX1_litTick) := goodIn_app (goodIn_of _ (by decide +kernel)) ggX1_sumOver_X1_litTick
set_option maxRecDepth 20000 in
theorem ggX1_sumOver_X1_shine : GoodIn wsX1_sumOver wsX1_shine := goodIn_r _ [27, 28, 6, 29, 18, 30, 31, 32, 22, 33, 38, 39, 40, 41, 42] (by decide +kernel) (by decide +kernel)
set_option maxRecDepth 20000 in
theorem gX1_sumOver_X1_shine : GoodIn wsX1_sumOver (wsV RX1 92 RX1 yX1_shine wsX1_shine) := goodIn_app (goodIn_of _ (by decide +kernel)) ggX1_sumOver_X1_shine
set_option maxRecDepth 20000 in
theorem ggX1_sumOver_X1_next : GoodIn wsX1_sumOver wsX1_next := goodIn_r _ [37, 6, 38, 39, 40, 41, 42] (by decide +kernel) (by decide +kernel)
set_option maxRecDepth 20000 in
theorem gX1_sumOver_X1_next : GoodIn wsX1_sumOver (wsV RX1 95 RX1 yX1_next wsX1_next) := goodIn_app (goodIn_of _ (by decide +kernel)) ggX1_sumOver_X1_next
theorem dX1_sumOver_0 : decode cX1_sumOver 0 = .ok (.aload_n 0, 1) := by decide +kernel
theorem dX1_sumOver_1 : decode cX1_sumOver 1 = .ok (.iload_n 1, 1) := by decide +kernel
theorem dX1_sumOver_2 : decode cX1_sumOver 2 = .ok (.invokevirtual 89, 3) := by decide +kernel
theorem dX1_sumOver_5 : decode cX1_sumOver 5 = .ok (.istore 4, 2) := by decide +kernel
theorem dX1_sumOver_7 : decode cX1_sumOver 7 = .ok (.iconst 0, 1) := by decide +kernel
theorem dX1_sumOver_8 : decode cX1_sumOver 8 = .ok (.istore 5, 2) := by decide +kernel
theorem dX1_sumOver_10 : decode cX1_sumOver 10 = .ok (.iload_n 2, 1) := by decide +kernel
theorem dX1_sumOver_11 : decode cX1_sumOver 11 = .ok (.istore 6, 2) := by decide +kernel
theorem dX1_sumOver_13 : decode cX1_sumOver 13 = .ok (.iconst 0, 1) := by decide +kernel
theorem dX1_sumOver_14 : decode cX1_sumOver 14 = .ok (.istore 7, 2) := by decide +kernel
theorem dX1_sumOver_16 : decode cX1_sumOver 16 = .ok (.iload 7, 2) := by decide +kernel
theorem dX1_sumOver_18 : decode cX1_sumOver 18 = .ok (.iload_n 3, 1) := by decide +kernel
theorem dX1_sumOver_19 : decode cX1_sumOver 19 = .ok (.if_icmp .ge 31, 3) := by decide +kernel
theorem dX1_sumOver_22 : decode cX1_sumOver 22 = .ok (.iload 5, 2) := by decide +kernel
theorem dX1_sumOver_24 : decode cX1_sumOver 24 = .ok (.aload_n 0, 1) := by decide +kernel
theorem dX1_sumOver_25 : decode cX1_sumOver 25 = .ok (.iload_n 1, 1) := by decide +kernel
theorem dX1_sumOver_26 : decode cX1_sumOver 26 = .ok (.iload 4, 2) := by decide +kernel
theorem dX1_sumOver_28 : decode cX1_sumOver 28 = .ok (.iload 6, 2) := by decide +kernel
theorem dX1_sumOver_30 : decode cX1_sumOver 30 = .ok (.invokevirtual 92, 3) := by decide +kernel
theorem dX1_sumOver_33 : decode cX1_sumOver 33 = .ok (.iadd, 1) := by decide +kernel
theorem dX1_sumOver_34 : decode cX1_sumOver 34 = .ok (.istore 5, 2) := by decide +kernel
theorem dX1_sumOver_36 : decode cX1_sumOver 36 = .ok (.aload_n 0, 1) := by decide +kernel
theorem dX1_sumOver_37 : decode cX1_sumOver 37 = .ok (.iload 6, 2) := by decide +kernel
theorem dX1_sumOver_39 : decode cX1_sumOver 39 = .ok (.invokevirtual 95, 3) := by decide +kernel
theorem dX1_sumOver_42 : decode cX1_sumOver 42 = .ok (.istore 6, 2) := by decide +kernel
theorem dX1_sumOver_44 : decode cX1_sumOver 44 = .ok (.iinc 7 1, 3) := by decide +kernel
theorem dX1_sumOver_47 : decode cX1_sumOver 47 = .ok (.goto (-31), 3) := by decide +kernel
theorem dX1_sumOver_50 : decode cX1_sumOver 50 = .ok (.iload 5, 2) := by decide +kernel
theorem dX1_sumOver_52 : decode cX1_sumOver 52 = .ok (.ireturn, 1) := by decide +kernel
theorem dX1_next_0 : decode cX1_next 0 = .ok (.iload_n 1, 1) := by decide +kernel
theorem dX1_next_1 : decode cX1_next 1 = .ok (.iconst 1, 1) := by decide +kernel
theorem dX1_next_2 : decode cX1_next 2 = .ok (.iadd, 1) := by decide +kernel
theorem dX1_next_3 : decode cX1_next 3 = .ok (.aload_n 0, 1) := by decide +kernel
theorem dX1_next_4 : decode cX1_next 4 = .ok (.getfield 22, 3) := by decide +kernel
theorem dX1_next_7 : decode cX1_next 7 = .ok (.iconst 0, 1) := by decide +kernel
theorem dX1_next_8 : decode cX1_next 8 = .ok (.iaload, 1) := by decide +kernel
theorem dX1_next_9 : decode cX1_next 9 = .ok (.if_icmp .ge 9, 3) := by decide +kernel
theorem dX1_next_12 : decode cX1_next 12 = .ok (.iload_n 1, 1) := by decide +kernel
theorem dX1_next_13 : decode cX1_next 13 = .ok (.iconst 1, 1) := by decide +kernel
theorem dX1_next_14 : decode cX1_next 14 = .ok (.iadd, 1) := by decide +kernel
theorem dX1_next_15 : decode cX1_next 15 = .ok (.goto 4, 3) := by decide +kernel
theorem dX1_next_18 : decode cX1_next 18 = .ok (.iconst 0, 1) := by decide +kernel
theorem dX1_next_19 : decode cX1_next 19 = .ok (.ireturn, 1) := by decide +kernel
theorem dX1_startInFrame_0 : decode cX1_startInFrame 0 = .ok (.aload_n 0, 1) := by decide +kernel
theorem dX1_startInFrame_1 : decode cX1_startInFrame 1 = .ok (.getfield 22, 3) := by decide +kernel
theorem dX1_startInFrame_4 : decode cX1_startInFrame 4 = .ok (.iconst 0, 1) := by decide +kernel
theorem dX1_startInFrame_5 : decode cX1_startInFrame 5 = .ok (.iaload, 1) := by decide +kernel
theorem dX1_startInFrame_6 : decode cX1_startInFrame 6 = .ok (.istore_n 1, 1) := by decide +kernel
theorem dX1_startInFrame_7 : decode cX1_startInFrame 7 = .ok (.iload_n 1, 1) := by decide +kernel
theorem dX1_startInFrame_8 : decode cX1_startInFrame 8 = .ok (.ifCond .le 14, 3) := by decide +kernel
theorem dX1_startInFrame_11 : decode cX1_startInFrame 11 = .ok (.aload_n 0, 1) := by decide +kernel
theorem dX1_startInFrame_12 : decode cX1_startInFrame 12 = .ok (.getfield 22, 3) := by decide +kernel
theorem dX1_startInFrame_15 : decode cX1_startInFrame 15 = .ok (.iconst 3, 1) := by decide +kernel
theorem dX1_startInFrame_16 : decode cX1_startInFrame 16 = .ok (.iaload, 1) := by decide +kernel
theorem dX1_startInFrame_17 : decode cX1_startInFrame 17 = .ok (.iload_n 1, 1) := by decide +kernel
theorem dX1_startInFrame_18 : decode cX1_startInFrame 18 = .ok (.irem, 1) := by decide +kernel
theorem dX1_startInFrame_19 : decode cX1_startInFrame 19 = .ok (.goto 4, 3) := by decide +kernel
theorem dX1_startInFrame_22 : decode cX1_startInFrame 22 = .ok (.iconst 0, 1) := by decide +kernel
theorem dX1_startInFrame_23 : decode cX1_startInFrame 23 = .ok (.ireturn, 1) := by decide +kernel
theorem dX1_mean_0 : decode cX1_mean 0 = .ok (.iload_n 1, 1) := by decide +kernel
theorem dX1_mean_1 : decode cX1_mean 1 = .ok (.ifCond .le 9, 3) := by decide +kernel
theorem dX1_mean_4 : decode cX1_mean 4 = .ok (.iload_n 0, 1) := by decide +kernel
theorem dX1_mean_5 : decode cX1_mean 5 = .ok (.iload_n 1, 1) := by decide +kernel
theorem dX1_mean_6 : decode cX1_mean 6 = .ok (.idiv, 1) := by decide +kernel
theorem dX1_mean_7 : decode cX1_mean 7 = .ok (.goto 4, 3) := by decide +kernel
theorem dX1_mean_10 : decode cX1_mean 10 = .ok (.iconst 0, 1) := by decide +kernel
theorem dX1_mean_11 : decode cX1_mean 11 = .ok (.ireturn, 1) := by decide +kernel
set_option maxRecDepth 20000 in
theorem ggX1_eyeMean_X1_sumOver : GoodIn wsX1_eyeMean wsX1_sumOver := goodIn_r _ [6, 7, 8, 9, 5, 10, 1, 11, 12, 13, 14, 15, 16, 17, 18, 19, 20, 21, 22, 23, 24, 25, 26, 27, 28, 29, 30, 31, 32, 33, 34, 35, 36, 37, 38, 39, 40, 41, 45, 46, 47, 48, 49] (by decide +kernel) (by decide +kernel)
set_option maxRecDepth 20000 in
theorem gX1_eyeMean_X1_sumOver : GoodIn wsX1_eyeMean (wsV RX1 98 RX1 yX1_sumOver wsX1_sumOver) := goodIn_app (goodIn_of _ (by decide +kernel)) ggX1_eyeMean_X1_sumOver
set_option maxRecDepth 20000 in
theorem ggX1_eyeMean_X1_mean : GoodIn wsX1_eyeMean wsX1_mean := goodIn_r _ [44] (by decide +kernel) (by decide +kernel)
set_option maxRecDepth 20000 in
theorem gX1_eyeMean_X1_mean : GoodIn wsX1_eyeMean (va_wsS RX1 101 yX1_mean wsX1_mean) := goodIn_app (goodIn_of _ (by decide +kernel)) ggX1_eyeMean_X1_mean
theorem dX1_eyeMean_0 : decode cX1_eyeMean 0 = .ok (.aload_n 0, 1) := by decide +kernel
theorem dX1_eyeMean_1 : decode cX1_eyeMean 1 = .ok (.iload_n 1, 1) := by decide +kernel
theorem dX1_eyeMean_2 : decode cX1_eyeMean 2 = .ok (.iconst 0, 1) := by decide +kernel
theorem dX1_eyeMean_3 : decode cX1_eyeMean 3 = .ok (.aload_n 0, 1) := by decide +kernel
theorem dX1_eyeMean_4 : decode cX1_eyeMean 4 = .ok (.getfield 22, 3) := by decide +kernel
theorem dX1_eyeMean_7 : decode cX1_eyeMean 7 = .ok (.iconst 0, 1) := by decide +kernel
theorem dX1_eyeMean_8 : decode cX1_eyeMean 8 = .ok (.iaload, 1) := by decide +kernel
theorem dX1_eyeMean_9 : decode cX1_eyeMean 9 = .ok (.invokevirtual 98, 3) := by decide +kernel
theorem dX1_eyeMean_12 : decode cX1_eyeMean 12 = .ok (.aload_n 0, 1) := by decide +kernel
theorem dX1_eyeMean_13 : decode cX1_eyeMean 13 = .ok (.getfield 22, 3) := by decide +kernel
theorem dX1_eyeMean_16 : decode cX1_eyeMean 16 = .ok (.iconst 0, 1) := by decide +kernel
theorem dX1_eyeMean_17 : decode cX1_eyeMean 17 = .ok (.iaload, 1) := by decide +kernel
theorem dX1_eyeMean_18 : decode cX1_eyeMean 18 = .ok (.invokestatic 101, 3) := by decide +kernel
theorem dX1_eyeMean_21 : decode cX1_eyeMean 21 = .ok (.ireturn, 1) := by decide +kernel
set_option maxRecDepth 20000 in
theorem ggX1_shutterMean_X1_startInFrame : GoodIn wsX1_shutterMean wsX1_startInFrame := goodIn_r _ [5, 6, 49, 50, 51, 52, 53] (by decide +kernel) (by decide +kernel)
set_option maxRecDepth 20000 in
theorem gX1_shutterMean_X1_startInFrame : GoodIn wsX1_shutterMean (wsV RX1 104 RX1 yX1_startInFrame wsX1_startInFrame) := goodIn_app (goodIn_of _ (by decide +kernel)) ggX1_shutterMean_X1_startInFrame
set_option maxRecDepth 20000 in
theorem ggX1_shutterMean_X1_sumOver : GoodIn wsX1_shutterMean wsX1_sumOver := goodIn_r _ [10, 11, 12, 13, 4, 14, 6, 15, 16, 17, 18, 19, 20, 21, 22, 23, 24, 25, 26, 27, 28, 29, 30, 31, 32, 33, 34, 35, 36, 37, 38, 39, 40, 41, 42, 43, 44, 45, 49, 50, 51, 52, 53] (by decide +kernel) (by decide +kernel)
set_option maxRecDepth 20000 in
theorem gX1_shutterMean_X1_sumOver : GoodIn wsX1_shutterMean (wsV RX1 98 RX1 yX1_sumOver wsX1_sumOver) := goodIn_app (goodIn_of _ (by decide +kernel)) ggX1_shutterMean_X1_sumOver
set_option maxRecDepth 20000 in
theorem ggX1_shutterMean_X1_mean : GoodIn wsX1_shutterMean wsX1_mean := goodIn_r _ [48] (by decide +kernel) (by decide +kernel)
set_option maxRecDepth 20000 in
theorem gX1_shutterMean_X1_mean : GoodIn wsX1_shutterMean (va_wsS RX1 101 yX1_mean wsX1_mean) := goodIn_app (goodIn_of _ (by decide +kernel)) ggX1_shutterMean_X1_mean
theorem dX1_shutterMean_0 : decode cX1_shutterMean 0 = .ok (.aload_n 0, 1) := by decide +kernel
theorem dX1_shutterMean_1 : decode cX1_shutterMean 1 = .ok (.iload_n 1, 1) := by decide +kernel
theorem dX1_shutterMean_2 : decode cX1_shutterMean 2 = .ok (.aload_n 0, 1) := by decide +kernel
theorem dX1_shutterMean_3 : decode cX1_shutterMean 3 = .ok (.invokevirtual 104, 3) := by decide +kernel
theorem dX1_shutterMean_6 : decode cX1_shutterMean 6 = .ok (.iload_n 2, 1) := by decide +kernel
theorem dX1_shutterMean_7 : decode cX1_shutterMean 7 = .ok (.invokevirtual 98, 3) := by decide +kernel
theorem dX1_shutterMean_10 : decode cX1_shutterMean 10 = .ok (.iload_n 2, 1) := by decide +kernel
theorem dX1_shutterMean_11 : decode cX1_shutterMean 11 = .ok (.invokestatic 101, 3) := by decide +kernel
theorem dX1_shutterMean_14 : decode cX1_shutterMean 14 = .ok (.ireturn, 1) := by decide +kernel
set_option maxRecDepth 20000 in
theorem ggX1_flicker_X1_litTick : GoodIn wsX1_flicker wsX1_litTick := goodIn_r _ [13, 1, 14, 15, 16, 12, 17, 18, 19, 20, 21, 22, 23, 24, 25, 26, 27, 28, 4, 29, 38, 39, 40, 41, 42] (by decide +kernel) (by decide +kernel)
set_option maxRecDepth 20000 in
theorem gX1_flicker_X1_litTick : GoodIn wsX1_flicker (wsV RX1 89 RX1 yX1_litTick wsX1_litTick) := goodIn_app (goodIn_of _ (by decide +kernel)) ggX1_flicker_X1_litTick
set_option maxRecDepth 20000 in
theorem ggX1_flicker_X1_shine : GoodIn wsX1_flicker wsX1_shine := goodIn_r _ [33, 34, 1, 35, 25, 36, 37, 3, 4, 5, 38, 39, 40, 41, 42] (by decide +kernel) (by decide +kernel)
set_option maxRecDepth 20000 in
theorem gX1_flicker_X1_shine : GoodIn wsX1_flicker (wsV RX1 92 RX1 yX1_shine wsX1_shine) := goodIn_app (goodIn_of _ (by decide +kernel)) ggX1_flicker_X1_shine
theorem dX1_flicker_0 : decode cX1_flicker 0 = .ok (.aload_n 0, 1) := by decide +kernel
theorem dX1_flicker_1 : decode cX1_flicker 1 = .ok (.iload_n 1, 1) := by decide +kernel
theorem dX1_flicker_2 : decode cX1_flicker 2 = .ok (.invokevirtual 89, 3) := by decide +kernel
theorem dX1_flicker_5 : decode cX1_flicker 5 = .ok (.istore_n 2, 1) := by decide +kernel
theorem dX1_flicker_6 : decode cX1_flicker 6 = .ok (.aload_n 0, 1) := by decide +kernel
theorem dX1_flicker_7 : decode cX1_flicker 7 = .ok (.iload_n 1, 1) := by decide +kernel
theorem dX1_flicker_8 : decode cX1_flicker 8 = .ok (.iload_n 2, 1) := by decide +kernel
theorem dX1_flicker_9 : decode cX1_flicker 9 = .ok (.iconst 0, 1) := by decide +kernel
theorem dX1_flicker_10 : decode cX1_flicker 10 = .ok (.invokevirtual 92, 3) := by decide +kernel
theorem dX1_flicker_13 : decode cX1_flicker 13 = .ok (.istore_n 3, 1) := by decide +kernel
theorem dX1_flicker_14 : decode cX1_flicker 14 = .ok (.iload_n 3, 1) := by decide +kernel
theorem dX1_flicker_15 : decode cX1_flicker 15 = .ok (.istore 4, 2) := by decide +kernel
theorem dX1_flicker_17 : decode cX1_flicker 17 = .ok (.iconst 1, 1) := by decide +kernel
theorem dX1_flicker_18 : decode cX1_flicker 18 = .ok (.istore 5, 2) := by decide +kernel
theorem dX1_flicker_20 : decode cX1_flicker 20 = .ok (.iload 5, 2) := by decide +kernel
theorem dX1_flicker_22 : decode cX1_flicker 22 = .ok (.aload_n 0, 1) := by decide +kernel
theorem dX1_flicker_23 : decode cX1_flicker 23 = .ok (.getfield 22, 3) := by decide +kernel
theorem dX1_flicker_26 : decode cX1_flicker 26 = .ok (.iconst 0, 1) := by decide +kernel
theorem dX1_flicker_27 : decode cX1_flicker 27 = .ok (.iaload, 1) := by decide +kernel
theorem dX1_flicker_28 : decode cX1_flicker 28 = .ok (.if_icmp .ge 35, 3) := by decide +kernel
theorem dX1_flicker_31 : decode cX1_flicker 31 = .ok (.aload_n 0, 1) := by decide +kernel
theorem dX1_flicker_32 : decode cX1_flicker 32 = .ok (.iload_n 1, 1) := by decide +kernel
theorem dX1_flicker_33 : decode cX1_flicker 33 = .ok (.iload_n 2, 1) := by decide +kernel
theorem dX1_flicker_34 : decode cX1_flicker 34 = .ok (.iload 5, 2) := by decide +kernel
theorem dX1_flicker_36 : decode cX1_flicker 36 = .ok (.invokevirtual 92, 3) := by decide +kernel
theorem dX1_flicker_39 : decode cX1_flicker 39 = .ok (.istore 6, 2) := by decide +kernel
theorem dX1_flicker_41 : decode cX1_flicker 41 = .ok (.iload_n 3, 1) := by decide +kernel
theorem dX1_flicker_42 : decode cX1_flicker 42 = .ok (.iload 6, 2) := by decide +kernel
theorem dX1_flicker_44 : decode cX1_flicker 44 = .ok (.invokestatic 107, 3) := by decide +kernel
theorem dX1_flicker_47 : decode cX1_flicker 47 = .ok (.istore_n 3, 1) := by decide +kernel
theorem dX1_flicker_48 : decode cX1_flicker 48 = .ok (.iload 4, 2) := by decide +kernel
theorem dX1_flicker_50 : decode cX1_flicker 50 = .ok (.iload 6, 2) := by decide +kernel
theorem dX1_flicker_52 : decode cX1_flicker 52 = .ok (.invokestatic 112, 3) := by decide +kernel
theorem dX1_flicker_55 : decode cX1_flicker 55 = .ok (.istore 4, 2) := by decide +kernel
theorem dX1_flicker_57 : decode cX1_flicker 57 = .ok (.iinc 5 1, 3) := by decide +kernel
theorem dX1_flicker_60 : decode cX1_flicker 60 = .ok (.goto (-40), 3) := by decide +kernel
theorem dX1_flicker_63 : decode cX1_flicker 63 = .ok (.iload_n 3, 1) := by decide +kernel
theorem dX1_flicker_64 : decode cX1_flicker 64 = .ok (.iload 4, 2) := by decide +kernel
theorem dX1_flicker_66 : decode cX1_flicker 66 = .ok (.isub, 1) := by decide +kernel
theorem dX1_flicker_67 : decode cX1_flicker 67 = .ok (.ireturn, 1) := by decide +kernel
set_option maxRecDepth 20000 in
theorem ggX1_seenByEye_X1_seen : GoodIn wsX1_seenByEye wsX1_seen := goodIn_r _ [6, 7, 8, 9, 10, 11, 5, 12, 13, 14, 15, 16, 1, 17, 18, 19, 20, 21, 22, 23, 24, 25, 26, 27, 28, 29, 30, 31, 32, 33, 34, 35, 36, 37, 38, 39, 40, 41, 42, 43, 44, 45, 46, 47, 48, 49, 50, 51, 52, 53] (by decide +kernel) (by decide +kernel)
set_option maxRecDepth 20000 in
theorem gX1_seenByEye_X1_seen : GoodIn wsX1_seenByEye (wsV RX1 115 RX1 yX1_seen wsX1_seen) := goodIn_app (goodIn_of _ (by decide +kernel)) ggX1_seenByEye_X1_seen
theorem dX1_seenByEye_0 : decode cX1_seenByEye 0 = .ok (.aload_n 0, 1) := by decide +kernel
theorem dX1_seenByEye_1 : decode cX1_seenByEye 1 = .ok (.iconst 0, 1) := by decide +kernel
theorem dX1_seenByEye_2 : decode cX1_seenByEye 2 = .ok (.aload_n 0, 1) := by decide +kernel
theorem dX1_seenByEye_3 : decode cX1_seenByEye 3 = .ok (.getfield 22, 3) := by decide +kernel
theorem dX1_seenByEye_6 : decode cX1_seenByEye 6 = .ok (.iconst 0, 1) := by decide +kernel
theorem dX1_seenByEye_7 : decode cX1_seenByEye 7 = .ok (.iaload, 1) := by decide +kernel
theorem dX1_seenByEye_8 : decode cX1_seenByEye 8 = .ok (.aload_n 0, 1) := by decide +kernel
theorem dX1_seenByEye_9 : decode cX1_seenByEye 9 = .ok (.getfield 22, 3) := by decide +kernel
theorem dX1_seenByEye_12 : decode cX1_seenByEye 12 = .ok (.iconst 2, 1) := by decide +kernel
theorem dX1_seenByEye_13 : decode cX1_seenByEye 13 = .ok (.iaload, 1) := by decide +kernel
theorem dX1_seenByEye_14 : decode cX1_seenByEye 14 = .ok (.invokevirtual 115, 3) := by decide +kernel
theorem dX1_seenByEye_17 : decode cX1_seenByEye 17 = .ok (.lreturn, 1) := by decide +kernel
set_option maxRecDepth 20000 in
theorem ggX1_seenByShutter_X1_startInFrame : GoodIn wsX1_seenByShutter wsX1_startInFrame := goodIn_r _ [6, 1, 53, 54, 55, 56, 57] (by decide +kernel) (by decide +kernel)
set_option maxRecDepth 20000 in
theorem gX1_seenByShutter_X1_startInFrame : GoodIn wsX1_seenByShutter (wsV RX1 104 RX1 yX1_startInFrame wsX1_startInFrame) := goodIn_app (goodIn_of _ (by decide +kernel)) ggX1_seenByShutter_X1_startInFrame
set_option maxRecDepth 20000 in
theorem ggX1_seenByShutter_X1_seen : GoodIn wsX1_seenByShutter wsX1_seen := goodIn_r _ [10, 11, 12, 13, 14, 15, 5, 16, 17, 18, 19, 20, 1, 21, 22, 23, 24, 25, 26, 27, 28, 29, 30, 31, 32, 33, 34, 35, 36, 37, 38, 39, 40, 41, 42, 43, 44, 45, 46, 47, 48, 49, 50, 51, 52, 53, 54, 55, 56, 57] (by decide +kernel) (by decide +kernel)
set_option maxRecDepth 20000 in
theorem gX1_seenByShutter_X1_seen : GoodIn wsX1_seenByShutter (wsV RX1 115 RX1 yX1_seen wsX1_seen) := goodIn_app (goodIn_of _ (by decide +kernel)) ggX1_seenByShutter_X1_seen
theorem dX1_seenByShutter_0 : decode cX1_seenByShutter 0 = .ok (.aload_n 0, 1) := by decide +kernel
theorem dX1_seenByShutter_1 : decode cX1_seenByShutter 1 = .ok (.aload_n 0, 1) := by decide +kernel
theorem dX1_seenByShutter_2 : decode cX1_seenByShutter 2 = .ok (.invokevirtual 104, 3) := by decide +kernel
theorem dX1_seenByShutter_5 : decode cX1_seenByShutter 5 = .ok (.iload_n 1, 1) := by decide +kernel
theorem dX1_seenByShutter_6 : decode cX1_seenByShutter 6 = .ok (.aload_n 0, 1) := by decide +kernel
theorem dX1_seenByShutter_7 : decode cX1_seenByShutter 7 = .ok (.getfield 22, 3) := by decide +kernel
theorem dX1_seenByShutter_10 : decode cX1_seenByShutter 10 = .ok (.iconst 5, 1) := by decide +kernel
theorem dX1_seenByShutter_11 : decode cX1_seenByShutter 11 = .ok (.iaload, 1) := by decide +kernel
theorem dX1_seenByShutter_12 : decode cX1_seenByShutter 12 = .ok (.invokevirtual 115, 3) := by decide +kernel
theorem dX1_seenByShutter_15 : decode cX1_seenByShutter 15 = .ok (.lreturn, 1) := by decide +kernel
set_option maxRecDepth 20000 in
theorem ggX1_seen_X1_sumOver : GoodIn wsX1_seen wsX1_sumOver := goodIn_r _ [7, 8, 9, 10, 6, 11, 12, 13, 14, 15, 16, 1, 2, 17, 18, 19, 20, 21, 22, 23, 24, 25, 26, 27, 28, 29, 30, 31, 32, 33, 34, 35, 36, 37, 38, 39, 40, 41, 45, 46, 47, 48, 49] (by decide +kernel) (by decide +kernel)
set_option maxRecDepth 20000 in
theorem gX1_seen_X1_sumOver : GoodIn wsX1_seen (wsV RX1 98 RX1 yX1_sumOver wsX1_sumOver) := goodIn_app (goodIn_of _ (by decide +kernel)) ggX1_seen_X1_sumOver
set_option maxRecDepth 20000 in
theorem ggX1_seen_X1_mean : GoodIn wsX1_seen wsX1_mean := goodIn_r _ [44] (by decide +kernel) (by decide +kernel)
set_option maxRecDepth 20000 in
theorem gX1_seen_X1_mean : GoodIn wsX1_seen (va_wsS RX1 101 yX1_mean wsX1_mean) := goodIn_app (goodIn_of _ (by decide +kernel)) ggX1_seen_X1_mean
theorem dX1_seen_0 : decode cX1_seen 0 = .ok (.lconst 0, 1) := by decide +kernel
theorem dX1_seen_1 : decode cX1_seen 1 = .ok (.lstore 4, 2) := by decide +kernel
theorem dX1_seen_3 : decode cX1_seen 3 = .ok (.iconst 0, 1) := by decide +kernel
theorem dX1_seen_4 : decode cX1_seen 4 = .ok (.istore 6, 2) := by decide +kernel
theorem dX1_seen_6 : decode cX1_seen 6 = .ok (.iload 6, 2) := by decide +kernel
theorem dX1_seen_8 : decode cX1_seen 8 = .ok (.aload_n 0, 1) := by decide +kernel
theorem dX1_seen_9 : decode cX1_seen 9 = .ok (.getfield 31, 3) := by decide +kernel
theorem dX1_seen_12 : decode cX1_seen 12 = .ok (.if_icmp .ge 44, 3) := by decide +kernel
theorem dX1_seen_15 : decode cX1_seen 15 = .ok (.aload_n 0, 1) := by decide +kernel
theorem dX1_seen_16 : decode cX1_seen 16 = .ok (.aload_n 0, 1) := by decide +kernel
theorem dX1_seen_17 : decode cX1_seen 17 = .ok (.getfield 15, 3) := by decide +kernel
theorem dX1_seen_20 : decode cX1_seen 20 = .ok (.iload 6, 2) := by decide +kernel
theorem dX1_seen_22 : decode cX1_seen 22 = .ok (.iaload, 1) := by decide +kernel
theorem dX1_seen_23 : decode cX1_seen 23 = .ok (.iload_n 1, 1) := by decide +kernel
theorem dX1_seen_24 : decode cX1_seen 24 = .ok (.iload_n 2, 1) := by decide +kernel
theorem dX1_seen_25 : decode cX1_seen 25 = .ok (.invokevirtual 98, 3) := by decide +kernel
theorem dX1_seen_28 : decode cX1_seen 28 = .ok (.iload_n 2, 1) := by decide +kernel
theorem dX1_seen_29 : decode cX1_seen 29 = .ok (.invokestatic 101, 3) := by decide +kernel
theorem dX1_seen_32 : decode cX1_seen 32 = .ok (.iload_n 3, 1) := by decide +kernel
theorem dX1_seen_33 : decode cX1_seen 33 = .ok (.if_icmp .lt 17, 3) := by decide +kernel
theorem dX1_seen_36 : decode cX1_seen 36 = .ok (.lload 4, 2) := by decide +kernel
theorem dX1_seen_38 : decode cX1_seen 38 = .ok (.lconst 1, 1) := by decide +kernel
theorem dX1_seen_39 : decode cX1_seen 39 = .ok (.aload_n 0, 1) := by decide +kernel
theorem dX1_seen_40 : decode cX1_seen 40 = .ok (.getfield 15, 3) := by decide +kernel
theorem dX1_seen_43 : decode cX1_seen 43 = .ok (.iload 6, 2) := by decide +kernel
theorem dX1_seen_45 : decode cX1_seen 45 = .ok (.iaload, 1) := by decide +kernel
theorem dX1_seen_46 : decode cX1_seen 46 = .ok (.lshl, 1) := by decide +kernel
theorem dX1_seen_47 : decode cX1_seen 47 = .ok (.lor, 1) := by decide +kernel
theorem dX1_seen_48 : decode cX1_seen 48 = .ok (.lstore 4, 2) := by decide +kernel
theorem dX1_seen_50 : decode cX1_seen 50 = .ok (.iinc 6 1, 3) := by decide +kernel
theorem dX1_seen_53 : decode cX1_seen 53 = .ok (.goto (-47), 3) := by decide +kernel
theorem dX1_seen_56 : decode cX1_seen 56 = .ok (.lload 4, 2) := by decide +kernel
theorem dX1_seen_58 : decode cX1_seen 58 = .ok (.lreturn, 1) := by decide +kernel
theorem dX1_wrong_0 : decode cX1_wrong 0 = .ok (.aload_n 0, 1) := by decide +kernel
theorem dX1_wrong_1 : decode cX1_wrong 1 = .ok (.getfield 18, 3) := by decide +kernel
theorem dX1_wrong_4 : decode cX1_wrong 4 = .ok (.iload_n 1, 1) := by decide +kernel
theorem dX1_wrong_5 : decode cX1_wrong 5 = .ok (.laload, 1) := by decide +kernel
theorem dX1_wrong_6 : decode cX1_wrong 6 = .ok (.lload_n 2, 1) := by decide +kernel
theorem dX1_wrong_7 : decode cX1_wrong 7 = .ok (.lxor, 1) := by decide +kernel
theorem dX1_wrong_8 : decode cX1_wrong 8 = .ok (.lreturn, 1) := by decide +kernel
set_option maxRecDepth 20000 in
theorem ggX1_countWrong_J13_bitCount_95d88 : GoodIn wsX1_countWrong wsJ13_bitCount_95d88 := goodIn_r _ [7, 8, 9, 10] (by decide +kernel) (by decide +kernel)
set_option maxRecDepth 20000 in
theorem gX1_countWrong_J13_bitCount_95d88 : GoodIn wsX1_countWrong (va_wsS RX1 77 yJ13_bitCount_95d88 wsJ13_bitCount_95d88) := goodIn_app (goodIn_of _ (by decide +kernel)) ggX1_countWrong_J13_bitCount_95d88
set_option maxRecDepth 20000 in
theorem ggX1_countWrong_J7_fill_53178 : GoodIn wsX1_countWrong wsJ7_fill_53178 := goodIn_r _ [14] (by decide +kernel) (by decide +kernel)
set_option maxRecDepth 20000 in
theorem gX1_countWrong_J7_fill_53178 : GoodIn wsX1_countWrong (va_wsS RX1 119 yJ7_fill_53178 wsJ7_fill_53178) := goodIn_app (goodIn_of _ (by decide +kernel)) ggX1_countWrong_J7_fill_53178
set_option maxRecDepth 20000 in
theorem ggX1_countWrong_X1_countSeen : GoodIn wsX1_countWrong wsX1_countSeen := goodIn_r _ [19, 1, 20, 21, 22, 23, 24, 25, 26, 18, 27, 28, 29, 30, 31, 2, 3, 32, 33, 34, 35, 36, 37, 38, 39, 40, 41, 42, 43, 44, 45, 46, 47, 48, 49, 50, 51, 52, 53, 54, 55, 56, 57, 58, 59, 60, 61, 62, 63, 64, 65, 66, 67] (by decide +kernel) (by decide +kernel)
set_option maxRecDepth 20000 in
theorem gX1_countWrong_X1_countSeen : GoodIn wsX1_countWrong (wsV RX1 125 RX1 yX1_countSeen wsX1_countSeen) := goodIn_app (goodIn_of _ (by decide +kernel)) ggX1_countWrong_X1_countSeen
theorem dX1_countWrong_0 : decode cX1_countWrong 0 = .ok (.aload_n 1, 1) := by decide +kernel
theorem dX1_countWrong_1 : decode cX1_countWrong 1 = .ok (.aload_n 0, 1) := by decide +kernel
theorem dX1_countWrong_2 : decode cX1_countWrong 2 = .ok (.getfield 18, 3) := by decide +kernel
theorem dX1_countWrong_5 : decode cX1_countWrong 5 = .ok (.iconst 1, 1) := by decide +kernel
theorem dX1_countWrong_6 : decode cX1_countWrong 6 = .ok (.laload, 1) := by decide +kernel
theorem dX1_countWrong_7 : decode cX1_countWrong 7 = .ok (.invokestatic 77, 3) := by decide +kernel
theorem dX1_countWrong_10 : decode cX1_countWrong 10 = .ok (.invokestatic 119, 3) := by decide +kernel
theorem dX1_countWrong_13 : decode cX1_countWrong 13 = .ok (.iconst 0, 1) := by decide +kernel
theorem dX1_countWrong_14 : decode cX1_countWrong 14 = .ok (.istore_n 2, 1) := by decide +kernel
theorem dX1_countWrong_15 : decode cX1_countWrong 15 = .ok (.iload_n 2, 1) := by decide +kernel
theorem dX1_countWrong_16 : decode cX1_countWrong 16 = .ok (.aload_n 0, 1) := by decide +kernel
theorem dX1_countWrong_17 : decode cX1_countWrong 17 = .ok (.getfield 31, 3) := by decide +kernel
theorem dX1_countWrong_20 : decode cX1_countWrong 20 = .ok (.if_icmp .ge 20, 3) := by decide +kernel
theorem dX1_countWrong_23 : decode cX1_countWrong 23 = .ok (.aload_n 0, 1) := by decide +kernel
theorem dX1_countWrong_24 : decode cX1_countWrong 24 = .ok (.aload_n 0, 1) := by decide +kernel
theorem dX1_countWrong_25 : decode cX1_countWrong 25 = .ok (.getfield 15, 3) := by decide +kernel
theorem dX1_countWrong_28 : decode cX1_countWrong 28 = .ok (.iload_n 2, 1) := by decide +kernel
theorem dX1_countWrong_29 : decode cX1_countWrong 29 = .ok (.iaload, 1) := by decide +kernel
theorem dX1_countWrong_30 : decode cX1_countWrong 30 = .ok (.aload_n 1, 1) := by decide +kernel
theorem dX1_countWrong_31 : decode cX1_countWrong 31 = .ok (.invokevirtual 125, 3) := by decide +kernel
theorem dX1_countWrong_34 : decode cX1_countWrong 34 = .ok (.iinc 2 1, 3) := by decide +kernel
theorem dX1_countWrong_37 : decode cX1_countWrong 37 = .ok (.goto (-22), 3) := by decide +kernel
theorem dX1_countWrong_40 : decode cX1_countWrong 40 = .ok (.return_, 1) := by decide +kernel
set_option maxRecDepth 20000 in
theorem ggX1_countSeen_X4_bit : GoodIn wsX1_countSeen wsX4_bit := goodIn_r _ [5] (by decide +kernel) (by decide +kernel)
set_option maxRecDepth 20000 in
theorem gX1_countSeen_X4_bit_n64 : GoodIn wsX1_countSeen (wsX4_bit) := ggX1_countSeen_X4_bit
set_option maxRecDepth 20000 in
theorem ggX1_countSeen_X1_litTick : GoodIn wsX1_countSeen wsX1_litTick := goodIn_r _ [10, 2, 11, 12, 13, 9, 14, 15, 16, 17, 18, 19, 20, 21, 4, 22, 23, 24, 25, 26, 48, 49, 50, 51, 52] (by decide +kernel) (by decide +kernel)
set_option maxRecDepth 20000 in
theorem gX1_countSeen_X1_litTick : GoodIn wsX1_countSeen (wsV RX1 89 RX1 yX1_litTick wsX1_litTick) := goodIn_app (goodIn_of _ (by decide +kernel)) ggX1_countSeen_X1_litTick
set_option maxRecDepth 20000 in
theorem ggX1_countSeen_X1_sumOver : GoodIn wsX1_countSeen wsX1_sumOver := goodIn_r _ [30, 6, 7, 8, 9, 10, 2, 11, 12, 13, 14, 15, 16, 17, 18, 19, 20, 21, 4, 22, 23, 24, 25, 26, 31, 32, 33, 34, 35, 36, 37, 38, 39, 40, 41, 42, 43, 44, 48, 49, 50, 51, 52] (by decide +kernel) (by decide +kernel)
set_option maxRecDepth 20000 in
theorem gX1_countSeen_X1_sumOver : GoodIn wsX1_countSeen (wsV RX1 98 RX1 yX1_sumOver wsX1_sumOver) := goodIn_app (goodIn_of _ (by decide +kernel)) ggX1_countSeen_X1_sumOver
set_option maxRecDepth 20000 in
theorem ggX1_countSeen_X1_next : GoodIn wsX1_countSeen wsX1_next := goodIn_r _ [44, 2, 48, 49, 50, 51, 52] (by decide +kernel) (by decide +kernel)
set_option maxRecDepth 20000 in
theorem gX1_countSeen_X1_next : GoodIn wsX1_countSeen (wsV RX1 95 RX1 yX1_next wsX1_next) := goodIn_app (goodIn_of _ (by decide +kernel)) ggX1_countSeen_X1_next
set_option maxRecDepth 20000 in
theorem ggX1_countSeen_X1_mean : GoodIn wsX1_countSeen wsX1_mean := goodIn_r _ [47] (by decide +kernel) (by decide +kernel)
set_option maxRecDepth 20000 in
theorem gX1_countSeen_X1_mean : GoodIn wsX1_countSeen (va_wsS RX1 101 yX1_mean wsX1_mean) := goodIn_app (goodIn_of _ (by decide +kernel)) ggX1_countSeen_X1_mean
set_option maxRecDepth 20000 in
theorem ggX1_countSeen_X1_shine : GoodIn wsX1_countSeen wsX1_shine := goodIn_r _ [34, 35, 2, 36, 4, 37, 38, 39, 25, 40, 48, 49, 50, 51, 52] (by decide +kernel) (by decide +kernel)
set_option maxRecDepth 20000 in
theorem gX1_countSeen_X1_shine : GoodIn wsX1_countSeen (wsV RX1 92 RX1 yX1_shine wsX1_shine) := goodIn_app (goodIn_of _ (by decide +kernel)) ggX1_countSeen_X1_shine
theorem dX1_countSeen_0 : decode cX1_countSeen 0 = .ok (.aload_n 0, 1) := by decide +kernel
theorem dX1_countSeen_1 : decode cX1_countSeen 1 = .ok (.getfield 18, 3) := by decide +kernel
theorem dX1_countSeen_4 : decode cX1_countSeen 4 = .ok (.iconst 1, 1) := by decide +kernel
theorem dX1_countSeen_5 : decode cX1_countSeen 5 = .ok (.laload, 1) := by decide +kernel
theorem dX1_countSeen_6 : decode cX1_countSeen 6 = .ok (.iload_n 1, 1) := by decide +kernel
theorem dX1_countSeen_7 : decode cX1_countSeen 7 = .ok (.invokestatic 64, 3) := by decide +kernel
theorem dX1_countSeen_10 : decode cX1_countSeen 10 = .ok (.iconst 1, 1) := by decide +kernel
theorem dX1_countSeen_11 : decode cX1_countSeen 11 = .ok (.if_icmp .ne 7, 3) := by decide +kernel
theorem dX1_countSeen_14 : decode cX1_countSeen 14 = .ok (.iconst (-1), 1) := by decide +kernel
theorem dX1_countSeen_15 : decode cX1_countSeen 15 = .ok (.goto 4, 3) := by decide +kernel
theorem dX1_countSeen_18 : decode cX1_countSeen 18 = .ok (.iconst 1, 1) := by decide +kernel
theorem dX1_countSeen_19 : decode cX1_countSeen 19 = .ok (.istore_n 3, 1) := by decide +kernel
theorem dX1_countSeen_20 : decode cX1_countSeen 20 = .ok (.aload_n 0, 1) := by decide +kernel
theorem dX1_countSeen_21 : decode cX1_countSeen 21 = .ok (.getfield 22, 3) := by decide +kernel
theorem dX1_countSeen_24 : decode cX1_countSeen 24 = .ok (.iconst 4, 1) := by decide +kernel
theorem dX1_countSeen_25 : decode cX1_countSeen 25 = .ok (.iaload, 1) := by decide +kernel
theorem dX1_countSeen_26 : decode cX1_countSeen 26 = .ok (.istore 4, 2) := by decide +kernel
theorem dX1_countSeen_28 : decode cX1_countSeen 28 = .ok (.aload_n 0, 1) := by decide +kernel
theorem dX1_countSeen_29 : decode cX1_countSeen 29 = .ok (.iload_n 1, 1) := by decide +kernel
theorem dX1_countSeen_30 : decode cX1_countSeen 30 = .ok (.invokevirtual 89, 3) := by decide +kernel
theorem dX1_countSeen_33 : decode cX1_countSeen 33 = .ok (.istore 5, 2) := by decide +kernel
theorem dX1_countSeen_35 : decode cX1_countSeen 35 = .ok (.aload_n 0, 1) := by decide +kernel
theorem dX1_countSeen_36 : decode cX1_countSeen 36 = .ok (.iload_n 1, 1) := by decide +kernel
theorem dX1_countSeen_37 : decode cX1_countSeen 37 = .ok (.iconst 0, 1) := by decide +kernel
theorem dX1_countSeen_38 : decode cX1_countSeen 38 = .ok (.iload 4, 2) := by decide +kernel
theorem dX1_countSeen_40 : decode cX1_countSeen 40 = .ok (.invokevirtual 98, 3) := by decide +kernel
theorem dX1_countSeen_43 : decode cX1_countSeen 43 = .ok (.istore 6, 2) := by decide +kernel
theorem dX1_countSeen_45 : decode cX1_countSeen 45 = .ok (.iconst 0, 1) := by decide +kernel
theorem dX1_countSeen_46 : decode cX1_countSeen 46 = .ok (.istore 7, 2) := by decide +kernel
theorem dX1_countSeen_48 : decode cX1_countSeen 48 = .ok (.iconst 0, 1) := by decide +kernel
theorem dX1_countSeen_49 : decode cX1_countSeen 49 = .ok (.istore 8, 2) := by decide +kernel
theorem dX1_countSeen_51 : decode cX1_countSeen 51 = .ok (.iload 8, 2) := by decide +kernel
theorem dX1_countSeen_53 : decode cX1_countSeen 53 = .ok (.iload 4, 2) := by decide +kernel
theorem dX1_countSeen_55 : decode cX1_countSeen 55 = .ok (.if_icmp .ge 17, 3) := by decide +kernel
theorem dX1_countSeen_58 : decode cX1_countSeen 58 = .ok (.aload_n 0, 1) := by decide +kernel
theorem dX1_countSeen_59 : decode cX1_countSeen 59 = .ok (.iload 7, 2) := by decide +kernel
theorem dX1_countSeen_61 : decode cX1_countSeen 61 = .ok (.invokevirtual 95, 3) := by decide +kernel
theorem dX1_countSeen_64 : decode cX1_countSeen 64 = .ok (.istore 7, 2) := by decide +kernel
theorem dX1_countSeen_66 : decode cX1_countSeen 66 = .ok (.iinc 8 1, 3) := by decide +kernel
theorem dX1_countSeen_69 : decode cX1_countSeen 69 = .ok (.goto (-18), 3) := by decide +kernel
theorem dX1_countSeen_72 : decode cX1_countSeen 72 = .ok (.iconst 0, 1) := by decide +kernel
theorem dX1_countSeen_73 : decode cX1_countSeen 73 = .ok (.istore 8, 2) := by decide +kernel
theorem dX1_countSeen_75 : decode cX1_countSeen 75 = .ok (.iload 8, 2) := by decide +kernel
theorem dX1_countSeen_77 : decode cX1_countSeen 77 = .ok (.aload_n 0, 1) := by decide +kernel
theorem dX1_countSeen_78 : decode cX1_countSeen 78 = .ok (.getfield 22, 3) := by decide +kernel
theorem dX1_countSeen_81 : decode cX1_countSeen 81 = .ok (.iconst 0, 1) := by decide +kernel
theorem dX1_countSeen_82 : decode cX1_countSeen 82 = .ok (.iaload, 1) := by decide +kernel
theorem dX1_countSeen_83 : decode cX1_countSeen 83 = .ok (.if_icmp .ge 72, 3) := by decide +kernel
theorem dX1_countSeen_86 : decode cX1_countSeen 86 = .ok (.iload 8, 2) := by decide +kernel
theorem dX1_countSeen_88 : decode cX1_countSeen 88 = .ok (.aload_n 2, 1) := by decide +kernel
theorem dX1_countSeen_89 : decode cX1_countSeen 89 = .ok (.arraylength, 1) := by decide +kernel
theorem dX1_countSeen_90 : decode cX1_countSeen 90 = .ok (.if_icmp .ge 65, 3) := by decide +kernel
theorem dX1_countSeen_93 : decode cX1_countSeen 93 = .ok (.iload 6, 2) := by decide +kernel
theorem dX1_countSeen_95 : decode cX1_countSeen 95 = .ok (.iload 4, 2) := by decide +kernel
theorem dX1_countSeen_97 : decode cX1_countSeen 97 = .ok (.invokestatic 101, 3) := by decide +kernel
theorem dX1_countSeen_100 : decode cX1_countSeen 100 = .ok (.aload_n 0, 1) := by decide +kernel
theorem dX1_countSeen_101 : decode cX1_countSeen 101 = .ok (.getfield 22, 3) := by decide +kernel
theorem dX1_countSeen_104 : decode cX1_countSeen 104 = .ok (.iconst 5, 1) := by decide +kernel
theorem dX1_countSeen_105 : decode cX1_countSeen 105 = .ok (.iaload, 1) := by decide +kernel
theorem dX1_countSeen_106 : decode cX1_countSeen 106 = .ok (.if_icmp .lt 11, 3) := by decide +kernel
theorem dX1_countSeen_109 : decode cX1_countSeen 109 = .ok (.aload_n 2, 1) := by decide +kernel
theorem dX1_countSeen_110 : decode cX1_countSeen 110 = .ok (.iload 8, 2) := by decide +kernel
theorem dX1_countSeen_112 : decode cX1_countSeen 112 = .ok (.dup2, 1) := by decide +kernel
theorem dX1_countSeen_113 : decode cX1_countSeen 113 = .ok (.iaload, 1) := by decide +kernel
theorem dX1_countSeen_114 : decode cX1_countSeen 114 = .ok (.iload_n 3, 1) := by decide +kernel
theorem dX1_countSeen_115 : decode cX1_countSeen 115 = .ok (.iadd, 1) := by decide +kernel
theorem dX1_countSeen_116 : decode cX1_countSeen 116 = .ok (.iastore, 1) := by decide +kernel
theorem dX1_countSeen_117 : decode cX1_countSeen 117 = .ok (.iload 6, 2) := by decide +kernel
theorem dX1_countSeen_119 : decode cX1_countSeen 119 = .ok (.aload_n 0, 1) := by decide +kernel
theorem dX1_countSeen_120 : decode cX1_countSeen 120 = .ok (.iload_n 1, 1) := by decide +kernel
theorem dX1_countSeen_121 : decode cX1_countSeen 121 = .ok (.iload 5, 2) := by decide +kernel
theorem dX1_countSeen_123 : decode cX1_countSeen 123 = .ok (.iload 7, 2) := by decide +kernel
theorem dX1_countSeen_125 : decode cX1_countSeen 125 = .ok (.invokevirtual 92, 3) := by decide +kernel
theorem dX1_countSeen_128 : decode cX1_countSeen 128 = .ok (.aload_n 0, 1) := by decide +kernel
theorem dX1_countSeen_129 : decode cX1_countSeen 129 = .ok (.iload_n 1, 1) := by decide +kernel
theorem dX1_countSeen_130 : decode cX1_countSeen 130 = .ok (.iload 5, 2) := by decide +kernel
theorem dX1_countSeen_132 : decode cX1_countSeen 132 = .ok (.iload 8, 2) := by decide +kernel
theorem dX1_countSeen_134 : decode cX1_countSeen 134 = .ok (.invokevirtual 92, 3) := by decide +kernel
theorem dX1_countSeen_137 : decode cX1_countSeen 137 = .ok (.isub, 1) := by decide +kernel
theorem dX1_countSeen_138 : decode cX1_countSeen 138 = .ok (.iadd, 1) := by decide +kernel
theorem dX1_countSeen_139 : decode cX1_countSeen 139 = .ok (.istore 6, 2) := by decide +kernel
theorem dX1_countSeen_141 : decode cX1_countSeen 141 = .ok (.aload_n 0, 1) := by decide +kernel
theorem dX1_countSeen_142 : decode cX1_countSeen 142 = .ok (.iload 7, 2) := by decide +kernel
theorem dX1_countSeen_144 : decode cX1_countSeen 144 = .ok (.invokevirtual 95, 3) := by decide +kernel
theorem dX1_countSeen_147 : decode cX1_countSeen 147 = .ok (.istore 7, 2) := by decide +kernel
theorem dX1_countSeen_149 : decode cX1_countSeen 149 = .ok (.iinc 8 1, 3) := by decide +kernel
theorem dX1_countSeen_152 : decode cX1_countSeen 152 = .ok (.goto (-77), 3) := by decide +kernel
theorem dX1_countSeen_155 : decode cX1_countSeen 155 = .ok (.return_, 1) := by decide +kernel
set_option maxRecDepth 20000 in
theorem ggX2_init_X1_init : GoodIn wsX2_init wsX1_init := goodIn_r _ [12, 13, 2, 3, 14, 15, 16, 17, 18, 19, 20, 21, 22, 23, 24] (by decide +kernel) (by decide +kernel)
set_option maxRecDepth 20000 in
theorem gX2_init_X1_init_n11 : GoodIn wsX2_init (wsX1_init) := ggX2_init_X1_init
theorem dX2_init_0 : decode cX2_init 0 = .ok (.aload_n 0, 1) := by decide +kernel
theorem dX2_init_1 : decode cX2_init 1 = .ok (.invokespecial 3, 3) := by decide +kernel
theorem dX2_init_4 : decode cX2_init 4 = .ok (.aload_n 0, 1) := by decide +kernel
theorem dX2_init_5 : decode cX2_init 5 = .ok (.new 9, 3) := by decide +kernel
theorem dX2_init_8 : decode cX2_init 8 = .ok (.dup, 1) := by decide +kernel
theorem dX2_init_9 : decode cX2_init 9 = .ok (.invokespecial 11, 3) := by decide +kernel
theorem dX2_init_12 : decode cX2_init 12 = .ok (.putfield 12, 3) := by decide +kernel
theorem dX2_init_15 : decode cX2_init 15 = .ok (.aload_n 0, 1) := by decide +kernel
theorem dX2_init_16 : decode cX2_init 16 = .ok (.iconst 2, 1) := by decide +kernel
theorem dX2_init_17 : decode cX2_init 17 = .ok (.anewarray 9, 3) := by decide +kernel
theorem dX2_init_20 : decode cX2_init 20 = .ok (.putfield 18, 3) := by decide +kernel
theorem dX2_init_23 : decode cX2_init 23 = .ok (.iconst 0, 1) := by decide +kernel
theorem dX2_init_24 : decode cX2_init 24 = .ok (.istore_n 1, 1) := by decide +kernel
theorem dX2_init_25 : decode cX2_init 25 = .ok (.iload_n 1, 1) := by decide +kernel
theorem dX2_init_26 : decode cX2_init 26 = .ok (.iconst 2, 1) := by decide +kernel
theorem dX2_init_27 : decode cX2_init 27 = .ok (.if_icmp .ge 22, 3) := by decide +kernel
theorem dX2_init_30 : decode cX2_init 30 = .ok (.aload_n 0, 1) := by decide +kernel
theorem dX2_init_31 : decode cX2_init 31 = .ok (.getfield 18, 3) := by decide +kernel
theorem dX2_init_34 : decode cX2_init 34 = .ok (.iload_n 1, 1) := by decide +kernel
theorem dX2_init_35 : decode cX2_init 35 = .ok (.new 9, 3) := by decide +kernel
theorem dX2_init_38 : decode cX2_init 38 = .ok (.dup, 1) := by decide +kernel
theorem dX2_init_39 : decode cX2_init 39 = .ok (.invokespecial 11, 3) := by decide +kernel
theorem dX2_init_42 : decode cX2_init 42 = .ok (.aastore, 1) := by decide +kernel
theorem dX2_init_43 : decode cX2_init 43 = .ok (.iinc 1 1, 3) := by decide +kernel
theorem dX2_init_46 : decode cX2_init 46 = .ok (.goto (-21), 3) := by decide +kernel
theorem dX2_init_49 : decode cX2_init 49 = .ok (.aload_n 0, 1) := by decide +kernel
theorem dX2_init_50 : decode cX2_init 50 = .ok (.iconst 2, 1) := by decide +kernel
theorem dX2_init_51 : decode cX2_init 51 = .ok (.newarray .boolean, 2) := by decide +kernel
theorem dX2_init_53 : decode cX2_init 53 = .ok (.putfield 22, 3) := by decide +kernel
theorem dX2_init_56 : decode cX2_init 56 = .ok (.return_, 1) := by decide +kernel
set_option maxRecDepth 20000 in
theorem ggX2_copyFrom_X1_copyFrom : GoodIn wsX2_copyFrom wsX1_copyFrom := goodIn_r _ [8, 9, 10, 11, 12, 13, 14, 15, 16, 17, 21, 22, 23, 24, 25] (by decide +kernel) (by decide +kernel)
set_option maxRecDepth 20000 in
theorem gX2_copyFrom_X1_copyFrom : GoodIn wsX2_copyFrom (wsV RX2 26 RX1 yX1_copyFrom wsX1_copyFrom) := goodIn_app (goodIn_of _ (by decide +kernel)) ggX2_copyFrom_X1_copyFrom
theorem dX2_copyFrom_0 : decode cX2_copyFrom 0 = .ok (.aload_n 0, 1) := by decide +kernel
theorem dX2_copyFrom_1 : decode cX2_copyFrom 1 = .ok (.getfield 12, 3) := by decide +kernel
theorem dX2_copyFrom_4 : decode cX2_copyFrom 4 = .ok (.aload_n 1, 1) := by decide +kernel
theorem dX2_copyFrom_5 : decode cX2_copyFrom 5 = .ok (.getfield 12, 3) := by decide +kernel
theorem dX2_copyFrom_8 : decode cX2_copyFrom 8 = .ok (.invokevirtual 26, 3) := by decide +kernel
theorem dX2_copyFrom_11 : decode cX2_copyFrom 11 = .ok (.iconst 0, 1) := by decide +kernel
theorem dX2_copyFrom_12 : decode cX2_copyFrom 12 = .ok (.istore_n 2, 1) := by decide +kernel
theorem dX2_copyFrom_13 : decode cX2_copyFrom 13 = .ok (.iload_n 2, 1) := by decide +kernel
theorem dX2_copyFrom_14 : decode cX2_copyFrom 14 = .ok (.iconst 2, 1) := by decide +kernel
theorem dX2_copyFrom_15 : decode cX2_copyFrom 15 = .ok (.if_icmp .ge 36, 3) := by decide +kernel
theorem dX2_copyFrom_18 : decode cX2_copyFrom 18 = .ok (.aload_n 0, 1) := by decide +kernel
theorem dX2_copyFrom_19 : decode cX2_copyFrom 19 = .ok (.getfield 18, 3) := by decide +kernel
theorem dX2_copyFrom_22 : decode cX2_copyFrom 22 = .ok (.iload_n 2, 1) := by decide +kernel
theorem dX2_copyFrom_23 : decode cX2_copyFrom 23 = .ok (.aaload, 1) := by decide +kernel
theorem dX2_copyFrom_24 : decode cX2_copyFrom 24 = .ok (.aload_n 1, 1) := by decide +kernel
theorem dX2_copyFrom_25 : decode cX2_copyFrom 25 = .ok (.getfield 18, 3) := by decide +kernel
theorem dX2_copyFrom_28 : decode cX2_copyFrom 28 = .ok (.iload_n 2, 1) := by decide +kernel
theorem dX2_copyFrom_29 : decode cX2_copyFrom 29 = .ok (.aaload, 1) := by decide +kernel
theorem dX2_copyFrom_30 : decode cX2_copyFrom 30 = .ok (.invokevirtual 26, 3) := by decide +kernel
theorem dX2_copyFrom_33 : decode cX2_copyFrom 33 = .ok (.aload_n 0, 1) := by decide +kernel
theorem dX2_copyFrom_34 : decode cX2_copyFrom 34 = .ok (.getfield 22, 3) := by decide +kernel
theorem dX2_copyFrom_37 : decode cX2_copyFrom 37 = .ok (.iload_n 2, 1) := by decide +kernel
theorem dX2_copyFrom_38 : decode cX2_copyFrom 38 = .ok (.aload_n 1, 1) := by decide +kernel
theorem dX2_copyFrom_39 : decode cX2_copyFrom 39 = .ok (.getfield 22, 3) := by decide +kernel
theorem dX2_copyFrom_42 : decode cX2_copyFrom 42 = .ok (.iload_n 2, 1) := by decide +kernel
theorem dX2_copyFrom_43 : decode cX2_copyFrom 43 = .ok (.baload, 1) := by decide +kernel
theorem dX2_copyFrom_44 : decode cX2_copyFrom 44 = .ok (.bastore, 1) := by decide +kernel
theorem dX2_copyFrom_45 : decode cX2_copyFrom 45 = .ok (.iinc 2 1, 3) := by decide +kernel
theorem dX2_copyFrom_48 : decode cX2_copyFrom 48 = .ok (.goto (-35), 3) := by decide +kernel
theorem dX2_copyFrom_51 : decode cX2_copyFrom 51 = .ok (.return_, 1) := by decide +kernel
theorem dX2_isSlot_0 : decode cX2_isSlot 0 = .ok (.iload_n 0, 1) := by decide +kernel
theorem dX2_isSlot_1 : decode cX2_isSlot 1 = .ok (.ifCond .lt 12, 3) := by decide +kernel
theorem dX2_isSlot_4 : decode cX2_isSlot 4 = .ok (.iload_n 0, 1) := by decide +kernel
theorem dX2_isSlot_5 : decode cX2_isSlot 5 = .ok (.iconst 2, 1) := by decide +kernel
theorem dX2_isSlot_6 : decode cX2_isSlot 6 = .ok (.if_icmp .ge 7, 3) := by decide +kernel
theorem dX2_isSlot_9 : decode cX2_isSlot 9 = .ok (.iconst 1, 1) := by decide +kernel
theorem dX2_isSlot_10 : decode cX2_isSlot 10 = .ok (.goto 4, 3) := by decide +kernel
theorem dX2_isSlot_13 : decode cX2_isSlot 13 = .ok (.iconst 0, 1) := by decide +kernel
theorem dX2_isSlot_14 : decode cX2_isSlot 14 = .ok (.ireturn, 1) := by decide +kernel
set_option maxRecDepth 20000 in
theorem ggX2_keepSnapshot_X2_isSlot : GoodIn wsX2_keepSnapshot wsX2_isSlot := goodIn_r _ [8] (by decide +kernel) (by decide +kernel)
set_option maxRecDepth 20000 in
theorem gX2_keepSnapshot_X2_isSlot : GoodIn wsX2_keepSnapshot (va_wsS RX2 30 yX2_isSlot wsX2_isSlot) := goodIn_app (goodIn_of _ (by decide +kernel)) ggX2_keepSnapshot_X2_isSlot
set_option maxRecDepth 20000 in
theorem ggX2_keepSnapshot_X1_copyFrom : GoodIn wsX2_keepSnapshot wsX1_copyFrom := goodIn_r _ [13, 14, 15, 16, 17, 18, 19, 20, 21, 22, 26, 27, 28, 29, 30] (by decide +kernel) (by decide +kernel)
set_option maxRecDepth 20000 in
theorem gX2_keepSnapshot_X1_copyFrom : GoodIn wsX2_keepSnapshot (wsV RX2 26 RX1 yX1_copyFrom wsX1_copyFrom) := goodIn_app (goodIn_of _ (by decide +kernel)) ggX2_keepSnapshot_X1_copyFrom
theorem dX2_keepSnapshot_0 : decode cX2_keepSnapshot 0 = .ok (.iload_n 1, 1) := by decide +kernel
theorem dX2_keepSnapshot_1 : decode cX2_keepSnapshot 1 = .ok (.invokestatic 30, 3) := by decide +kernel
theorem dX2_keepSnapshot_4 : decode cX2_keepSnapshot 4 = .ok (.ifCond .ne 5, 3) := by decide +kernel
theorem dX2_keepSnapshot_7 : decode cX2_keepSnapshot 7 = .ok (.iconst (-1), 1) := by decide +kernel
theorem dX2_keepSnapshot_8 : decode cX2_keepSnapshot 8 = .ok (.ireturn, 1) := by decide +kernel
theorem dX2_keepSnapshot_9 : decode cX2_keepSnapshot 9 = .ok (.aload_n 0, 1) := by decide +kernel
theorem dX2_keepSnapshot_10 : decode cX2_keepSnapshot 10 = .ok (.getfield 18, 3) := by decide +kernel
theorem dX2_keepSnapshot_13 : decode cX2_keepSnapshot 13 = .ok (.iload_n 1, 1) := by decide +kernel
theorem dX2_keepSnapshot_14 : decode cX2_keepSnapshot 14 = .ok (.aaload, 1) := by decide +kernel
theorem dX2_keepSnapshot_15 : decode cX2_keepSnapshot 15 = .ok (.aload_n 0, 1) := by decide +kernel
theorem dX2_keepSnapshot_16 : decode cX2_keepSnapshot 16 = .ok (.getfield 12, 3) := by decide +kernel
theorem dX2_keepSnapshot_19 : decode cX2_keepSnapshot 19 = .ok (.invokevirtual 26, 3) := by decide +kernel
theorem dX2_keepSnapshot_22 : decode cX2_keepSnapshot 22 = .ok (.aload_n 0, 1) := by decide +kernel
theorem dX2_keepSnapshot_23 : decode cX2_keepSnapshot 23 = .ok (.getfield 22, 3) := by decide +kernel
theorem dX2_keepSnapshot_26 : decode cX2_keepSnapshot 26 = .ok (.iload_n 1, 1) := by decide +kernel
theorem dX2_keepSnapshot_27 : decode cX2_keepSnapshot 27 = .ok (.iconst 1, 1) := by decide +kernel
theorem dX2_keepSnapshot_28 : decode cX2_keepSnapshot 28 = .ok (.bastore, 1) := by decide +kernel
theorem dX2_keepSnapshot_29 : decode cX2_keepSnapshot 29 = .ok (.aload_n 0, 1) := by decide +kernel
theorem dX2_keepSnapshot_30 : decode cX2_keepSnapshot 30 = .ok (.getfield 12, 3) := by decide +kernel
theorem dX2_keepSnapshot_33 : decode cX2_keepSnapshot 33 = .ok (.getfield 34, 3) := by decide +kernel
theorem dX2_keepSnapshot_36 : decode cX2_keepSnapshot 36 = .ok (.ireturn, 1) := by decide +kernel
set_option maxRecDepth 20000 in
theorem ggX2_showSnapshot_X2_isSlot : GoodIn wsX2_showSnapshot wsX2_isSlot := goodIn_r _ [8] (by decide +kernel) (by decide +kernel)
set_option maxRecDepth 20000 in
theorem gX2_showSnapshot_X2_isSlot : GoodIn wsX2_showSnapshot (va_wsS RX2 30 yX2_isSlot wsX2_isSlot) := goodIn_app (goodIn_of _ (by decide +kernel)) ggX2_showSnapshot_X2_isSlot
set_option maxRecDepth 20000 in
theorem ggX2_showSnapshot_X1_copyFrom : GoodIn wsX2_showSnapshot wsX1_copyFrom := goodIn_r _ [13, 14, 15, 16, 17, 18, 19, 20, 21, 22, 26, 27, 28, 29, 30] (by decide +kernel) (by decide +kernel)
set_option maxRecDepth 20000 in
theorem gX2_showSnapshot_X1_copyFrom : GoodIn wsX2_showSnapshot (wsV RX2 26 RX1 yX1_copyFrom wsX1_copyFrom) := goodIn_app (goodIn_of _ (by decide +kernel)) ggX2_showSnapshot_X1_copyFrom
theorem dX2_showSnapshot_0 : decode cX2_showSnapshot 0 = .ok (.iload_n 1, 1) := by decide +kernel
theorem dX2_showSnapshot_1 : decode cX2_showSnapshot 1 = .ok (.invokestatic 30, 3) := by decide +kernel
theorem dX2_showSnapshot_4 : decode cX2_showSnapshot 4 = .ok (.ifCond .ne 5, 3) := by decide +kernel
theorem dX2_showSnapshot_7 : decode cX2_showSnapshot 7 = .ok (.iconst (-1), 1) := by decide +kernel
theorem dX2_showSnapshot_8 : decode cX2_showSnapshot 8 = .ok (.ireturn, 1) := by decide +kernel
theorem dX2_showSnapshot_9 : decode cX2_showSnapshot 9 = .ok (.aload_n 0, 1) := by decide +kernel
theorem dX2_showSnapshot_10 : decode cX2_showSnapshot 10 = .ok (.getfield 22, 3) := by decide +kernel
theorem dX2_showSnapshot_13 : decode cX2_showSnapshot 13 = .ok (.iload_n 1, 1) := by decide +kernel
theorem dX2_showSnapshot_14 : decode cX2_showSnapshot 14 = .ok (.baload, 1) := by decide +kernel
theorem dX2_showSnapshot_15 : decode cX2_showSnapshot 15 = .ok (.ifCond .ne 6, 3) := by decide +kernel
theorem dX2_showSnapshot_18 : decode cX2_showSnapshot 18 = .ok (.bipush (-2), 2) := by decide +kernel
theorem dX2_showSnapshot_20 : decode cX2_showSnapshot 20 = .ok (.ireturn, 1) := by decide +kernel
theorem dX2_showSnapshot_21 : decode cX2_showSnapshot 21 = .ok (.aload_n 0, 1) := by decide +kernel
theorem dX2_showSnapshot_22 : decode cX2_showSnapshot 22 = .ok (.getfield 12, 3) := by decide +kernel
theorem dX2_showSnapshot_25 : decode cX2_showSnapshot 25 = .ok (.aload_n 0, 1) := by decide +kernel
theorem dX2_showSnapshot_26 : decode cX2_showSnapshot 26 = .ok (.getfield 18, 3) := by decide +kernel
theorem dX2_showSnapshot_29 : decode cX2_showSnapshot 29 = .ok (.iload_n 1, 1) := by decide +kernel
theorem dX2_showSnapshot_30 : decode cX2_showSnapshot 30 = .ok (.aaload, 1) := by decide +kernel
theorem dX2_showSnapshot_31 : decode cX2_showSnapshot 31 = .ok (.invokevirtual 26, 3) := by decide +kernel
theorem dX2_showSnapshot_34 : decode cX2_showSnapshot 34 = .ok (.aload_n 0, 1) := by decide +kernel
theorem dX2_showSnapshot_35 : decode cX2_showSnapshot 35 = .ok (.getfield 12, 3) := by decide +kernel
theorem dX2_showSnapshot_38 : decode cX2_showSnapshot 38 = .ok (.getfield 34, 3) := by decide +kernel
theorem dX2_showSnapshot_41 : decode cX2_showSnapshot 41 = .ok (.ireturn, 1) := by decide +kernel
theorem dX2_snapshots_0 : decode cX2_snapshots 0 = .ok (.iconst 0, 1) := by decide +kernel
theorem dX2_snapshots_1 : decode cX2_snapshots 1 = .ok (.istore_n 1, 1) := by decide +kernel
theorem dX2_snapshots_2 : decode cX2_snapshots 2 = .ok (.iconst 0, 1) := by decide +kernel
theorem dX2_snapshots_3 : decode cX2_snapshots 3 = .ok (.istore_n 2, 1) := by decide +kernel
theorem dX2_snapshots_4 : decode cX2_snapshots 4 = .ok (.iload_n 2, 1) := by decide +kernel
theorem dX2_snapshots_5 : decode cX2_snapshots 5 = .ok (.iconst 2, 1) := by decide +kernel
theorem dX2_snapshots_6 : decode cX2_snapshots 6 = .ok (.if_icmp .ge 26, 3) := by decide +kernel
theorem dX2_snapshots_9 : decode cX2_snapshots 9 = .ok (.iload_n 1, 1) := by decide +kernel
theorem dX2_snapshots_10 : decode cX2_snapshots 10 = .ok (.aload_n 0, 1) := by decide +kernel
theorem dX2_snapshots_11 : decode cX2_snapshots 11 = .ok (.getfield 22, 3) := by decide +kernel
theorem dX2_snapshots_14 : decode cX2_snapshots 14 = .ok (.iload_n 2, 1) := by decide +kernel
theorem dX2_snapshots_15 : decode cX2_snapshots 15 = .ok (.baload, 1) := by decide +kernel
theorem dX2_snapshots_16 : decode cX2_snapshots 16 = .ok (.ifCond .eq 7, 3) := by decide +kernel
theorem dX2_snapshots_19 : decode cX2_snapshots 19 = .ok (.iconst 1, 1) := by decide +kernel
theorem dX2_snapshots_20 : decode cX2_snapshots 20 = .ok (.goto 4, 3) := by decide +kernel
theorem dX2_snapshots_23 : decode cX2_snapshots 23 = .ok (.iconst 0, 1) := by decide +kernel
theorem dX2_snapshots_24 : decode cX2_snapshots 24 = .ok (.iadd, 1) := by decide +kernel
theorem dX2_snapshots_25 : decode cX2_snapshots 25 = .ok (.istore_n 1, 1) := by decide +kernel
theorem dX2_snapshots_26 : decode cX2_snapshots 26 = .ok (.iinc 2 1, 3) := by decide +kernel
theorem dX2_snapshots_29 : decode cX2_snapshots 29 = .ok (.goto (-25), 3) := by decide +kernel
theorem dX2_snapshots_32 : decode cX2_snapshots 32 = .ok (.iload_n 1, 1) := by decide +kernel
theorem dX2_snapshots_33 : decode cX2_snapshots 33 = .ok (.ireturn, 1) := by decide +kernel
theorem dX3_init_0 : decode cX3_init 0 = .ok (.aload_n 0, 1) := by decide +kernel
theorem dX3_init_1 : decode cX3_init 1 = .ok (.invokespecial 3, 3) := by decide +kernel
theorem dX3_init_4 : decode cX3_init 4 = .ok (.aload_n 0, 1) := by decide +kernel
theorem dX3_init_5 : decode cX3_init 5 = .ok (.bipush 12, 2) := by decide +kernel
theorem dX3_init_7 : decode cX3_init 7 = .ok (.newarray .int, 2) := by decide +kernel
theorem dX3_init_9 : decode cX3_init 9 = .ok (.putfield 9, 3) := by decide +kernel
theorem dX3_init_12 : decode cX3_init 12 = .ok (.aload_n 0, 1) := by decide +kernel
theorem dX3_init_13 : decode cX3_init 13 = .ok (.ldc 15, 2) := by decide +kernel
theorem dX3_init_15 : decode cX3_init 15 = .ok (.newarray .int, 2) := by decide +kernel
theorem dX3_init_17 : decode cX3_init 17 = .ok (.putfield 16, 3) := by decide +kernel
theorem dX3_init_20 : decode cX3_init 20 = .ok (.aload_n 0, 1) := by decide +kernel
theorem dX3_init_21 : decode cX3_init 21 = .ok (.bipush 12, 2) := by decide +kernel
theorem dX3_init_23 : decode cX3_init 23 = .ok (.newarray .int, 2) := by decide +kernel
theorem dX3_init_25 : decode cX3_init 25 = .ok (.putfield 19, 3) := by decide +kernel
theorem dX3_init_28 : decode cX3_init 28 = .ok (.return_, 1) := by decide +kernel
set_option maxRecDepth 20000 in
theorem ggX3_plan_X3_listSpots : GoodIn wsX3_plan wsX3_listSpots := goodIn_r _ [6, 7, 1, 8, 9, 10, 11, 41, 42, 43, 44, 45, 46] (by decide +kernel) (by decide +kernel)
set_option maxRecDepth 20000 in
theorem gX3_plan_X3_listSpots : GoodIn wsX3_plan (wsV RX3 26 RX3 yX3_listSpots wsX3_listSpots) := goodIn_app (goodIn_of _ (by decide +kernel)) ggX3_plan_X3_listSpots
set_option maxRecDepth 20000 in
theorem ggX3_plan_X3_fillRest : GoodIn wsX3_plan wsX3_fillRest := goodIn_r _ [15, 7, 16, 8, 17, 18, 19, 5, 20, 21, 22, 23, 24, 25, 26, 27, 28, 29, 10, 30, 31, 32, 33, 34, 41, 42, 43, 44, 45, 46] (by decide +kernel) (by decide +kernel)
set_option maxRecDepth 20000 in
theorem gX3_plan_X3_fillRest : GoodIn wsX3_plan (wsV RX3 29 RX3 yX3_fillRest wsX3_fillRest) := goodIn_app (goodIn_of _ (by decide +kernel)) ggX3_plan_X3_fillRest
set_option maxRecDepth 20000 in
theorem ggX3_plan_X3_follow : GoodIn wsX3_plan wsX3_follow := goodIn_r _ [38, 39, 7, 40, 8, 21, 22, 23, 5, 24, 25, 26, 27, 28, 16, 29, 10, 30, 31, 32, 33, 34, 41, 42, 43, 44, 45, 46] (by decide +kernel) (by decide +kernel)
set_option maxRecDepth 20000 in
theorem gX3_plan_X3_follow : GoodIn wsX3_plan (wsV RX3 32 RX3 yX3_follow wsX3_follow) := goodIn_app (goodIn_of _ (by decide +kernel)) ggX3_plan_X3_follow
theorem dX3_plan_0 : decode cX3_plan 0 = .ok (.lload_n 1, 1) := by decide +kernel
theorem dX3_plan_1 : decode cX3_plan 1 = .ok (.aload_n 0, 1) := by decide +kernel
theorem dX3_plan_2 : decode cX3_plan 2 = .ok (.getfield 22, 3) := by decide +kernel
theorem dX3_plan_5 : decode cX3_plan 5 = .ok (.lcmp, 1) := by decide +kernel
theorem dX3_plan_6 : decode cX3_plan 6 = .ok (.ifCond .ne 4, 3) := by decide +kernel
theorem dX3_plan_9 : decode cX3_plan 9 = .ok (.return_, 1) := by decide +kernel
theorem dX3_plan_10 : decode cX3_plan 10 = .ok (.aload_n 0, 1) := by decide +kernel
theorem dX3_plan_11 : decode cX3_plan 11 = .ok (.lload_n 1, 1) := by decide +kernel
theorem dX3_plan_12 : decode cX3_plan 12 = .ok (.putfield 22, 3) := by decide +kernel
theorem dX3_plan_15 : decode cX3_plan 15 = .ok (.aload_n 0, 1) := by decide +kernel
theorem dX3_plan_16 : decode cX3_plan 16 = .ok (.invokevirtual 26, 3) := by decide +kernel
theorem dX3_plan_19 : decode cX3_plan 19 = .ok (.aload_n 0, 1) := by decide +kernel
theorem dX3_plan_20 : decode cX3_plan 20 = .ok (.invokevirtual 29, 3) := by decide +kernel
theorem dX3_plan_23 : decode cX3_plan 23 = .ok (.aload_n 0, 1) := by decide +kernel
theorem dX3_plan_24 : decode cX3_plan 24 = .ok (.invokevirtual 32, 3) := by decide +kernel
theorem dX3_plan_27 : decode cX3_plan 27 = .ok (.return_, 1) := by decide +kernel
theorem dX3_sumOfWays_0 : decode cX3_sumOfWays 0 = .ok (.aload_n 0, 1) := by decide +kernel
theorem dX3_sumOfWays_1 : decode cX3_sumOfWays 1 = .ok (.getfield 35, 3) := by decide +kernel
theorem dX3_sumOfWays_4 : decode cX3_sumOfWays 4 = .ok (.ireturn, 1) := by decide +kernel
theorem dX3_stop_0 : decode cX3_stop 0 = .ok (.iload_n 1, 1) := by decide +kernel
theorem dX3_stop_1 : decode cX3_stop 1 = .ok (.ifCond .lt 20, 3) := by decide +kernel
theorem dX3_stop_4 : decode cX3_stop 4 = .ok (.iload_n 1, 1) := by decide +kernel
theorem dX3_stop_5 : decode cX3_stop 5 = .ok (.aload_n 0, 1) := by decide +kernel
theorem dX3_stop_6 : decode cX3_stop 6 = .ok (.getfield 39, 3) := by decide +kernel
theorem dX3_stop_9 : decode cX3_stop 9 = .ok (.if_icmp .ge 12, 3) := by decide +kernel
theorem dX3_stop_12 : decode cX3_stop 12 = .ok (.aload_n 0, 1) := by decide +kernel
theorem dX3_stop_13 : decode cX3_stop 13 = .ok (.getfield 19, 3) := by decide +kernel
theorem dX3_stop_16 : decode cX3_stop 16 = .ok (.iload_n 1, 1) := by decide +kernel
theorem dX3_stop_17 : decode cX3_stop 17 = .ok (.iaload, 1) := by decide +kernel
theorem dX3_stop_18 : decode cX3_stop 18 = .ok (.goto 5, 3) := by decide +kernel
theorem dX3_stop_21 : decode cX3_stop 21 = .ok (.bipush (-9), 2) := by decide +kernel
theorem dX3_stop_23 : decode cX3_stop 23 = .ok (.ireturn, 1) := by decide +kernel
set_option maxRecDepth 20000 in
theorem ggX3_listSpots_X4_bit : GoodIn wsX3_listSpots wsX4_bit := goodIn_r _ [6] (by decide +kernel) (by decide +kernel)
set_option maxRecDepth 20000 in
theorem gX3_listSpots_X4_bit_n42 : GoodIn wsX3_listSpots (wsX4_bit) := ggX3_listSpots_X4_bit
theorem dX3_listSpots_0 : decode cX3_listSpots 0 = .ok (.aload_n 0, 1) := by decide +kernel
theorem dX3_listSpots_1 : decode cX3_listSpots 1 = .ok (.iconst 0, 1) := by decide +kernel
theorem dX3_listSpots_2 : decode cX3_listSpots 2 = .ok (.putfield 39, 3) := by decide +kernel
theorem dX3_listSpots_5 : decode cX3_listSpots 5 = .ok (.iconst 0, 1) := by decide +kernel
theorem dX3_listSpots_6 : decode cX3_listSpots 6 = .ok (.istore_n 1, 1) := by decide +kernel
theorem dX3_listSpots_7 : decode cX3_listSpots 7 = .ok (.iload_n 1, 1) := by decide +kernel
theorem dX3_listSpots_8 : decode cX3_listSpots 8 = .ok (.bipush 64, 2) := by decide +kernel
theorem dX3_listSpots_10 : decode cX3_listSpots 10 = .ok (.if_icmp .ge 50, 3) := by decide +kernel
theorem dX3_listSpots_13 : decode cX3_listSpots 13 = .ok (.aload_n 0, 1) := by decide +kernel
theorem dX3_listSpots_14 : decode cX3_listSpots 14 = .ok (.getfield 39, 3) := by decide +kernel
theorem dX3_listSpots_17 : decode cX3_listSpots 17 = .ok (.bipush 12, 2) := by decide +kernel
theorem dX3_listSpots_19 : decode cX3_listSpots 19 = .ok (.if_icmp .ge 41, 3) := by decide +kernel
theorem dX3_listSpots_22 : decode cX3_listSpots 22 = .ok (.aload_n 0, 1) := by decide +kernel
theorem dX3_listSpots_23 : decode cX3_listSpots 23 = .ok (.getfield 22, 3) := by decide +kernel
theorem dX3_listSpots_26 : decode cX3_listSpots 26 = .ok (.iload_n 1, 1) := by decide +kernel
theorem dX3_listSpots_27 : decode cX3_listSpots 27 = .ok (.invokestatic 42, 3) := by decide +kernel
theorem dX3_listSpots_30 : decode cX3_listSpots 30 = .ok (.iconst 1, 1) := by decide +kernel
theorem dX3_listSpots_31 : decode cX3_listSpots 31 = .ok (.if_icmp .ne 23, 3) := by decide +kernel
theorem dX3_listSpots_34 : decode cX3_listSpots 34 = .ok (.aload_n 0, 1) := by decide +kernel
theorem dX3_listSpots_35 : decode cX3_listSpots 35 = .ok (.getfield 9, 3) := by decide +kernel
theorem dX3_listSpots_38 : decode cX3_listSpots 38 = .ok (.aload_n 0, 1) := by decide +kernel
theorem dX3_listSpots_39 : decode cX3_listSpots 39 = .ok (.getfield 39, 3) := by decide +kernel
theorem dX3_listSpots_42 : decode cX3_listSpots 42 = .ok (.iload_n 1, 1) := by decide +kernel
theorem dX3_listSpots_43 : decode cX3_listSpots 43 = .ok (.iastore, 1) := by decide +kernel
theorem dX3_listSpots_44 : decode cX3_listSpots 44 = .ok (.aload_n 0, 1) := by decide +kernel
theorem dX3_listSpots_45 : decode cX3_listSpots 45 = .ok (.dup, 1) := by decide +kernel
theorem dX3_listSpots_46 : decode cX3_listSpots 46 = .ok (.getfield 39, 3) := by decide +kernel
theorem dX3_listSpots_49 : decode cX3_listSpots 49 = .ok (.iconst 1, 1) := by decide +kernel
theorem dX3_listSpots_50 : decode cX3_listSpots 50 = .ok (.iadd, 1) := by decide +kernel
theorem dX3_listSpots_51 : decode cX3_listSpots 51 = .ok (.putfield 39, 3) := by decide +kernel
theorem dX3_listSpots_54 : decode cX3_listSpots 54 = .ok (.iinc 1 1, 3) := by decide +kernel
theorem dX3_listSpots_57 : decode cX3_listSpots 57 = .ok (.goto (-50), 3) := by decide +kernel
theorem dX3_listSpots_60 : decode cX3_listSpots 60 = .ok (.return_, 1) := by decide +kernel
set_option maxRecDepth 20000 in
theorem ggX3_fillRest_X3_leastFrom : GoodIn wsX3_fillRest wsX3_leastFrom := goodIn_r _ [8, 9, 10, 11, 7, 12, 1, 13, 14, 15, 16, 3, 2, 17, 18, 19, 20, 21, 22, 23, 24, 25, 26, 27, 28, 29] (by decide +kernel) (by decide +kernel)
set_option maxRecDepth 20000 in
theorem gX3_fillRest_X3_leastFrom : GoodIn wsX3_fillRest (wsV RX3 46 RX3 yX3_leastFrom wsX3_leastFrom) := goodIn_app (goodIn_of _ (by decide +kernel)) ggX3_fillRest_X3_leastFrom
theorem dX3_fillRest_0 : decode cX3_fillRest 0 = .ok (.iconst 0, 1) := by decide +kernel
theorem dX3_fillRest_1 : decode cX3_fillRest 1 = .ok (.istore_n 1, 1) := by decide +kernel
theorem dX3_fillRest_2 : decode cX3_fillRest 2 = .ok (.iload_n 1, 1) := by decide +kernel
theorem dX3_fillRest_3 : decode cX3_fillRest 3 = .ok (.iconst 1, 1) := by decide +kernel
theorem dX3_fillRest_4 : decode cX3_fillRest 4 = .ok (.aload_n 0, 1) := by decide +kernel
theorem dX3_fillRest_5 : decode cX3_fillRest 5 = .ok (.getfield 39, 3) := by decide +kernel
theorem dX3_fillRest_8 : decode cX3_fillRest 8 = .ok (.ishl, 1) := by decide +kernel
theorem dX3_fillRest_9 : decode cX3_fillRest 9 = .ok (.if_icmp .ge 55, 3) := by decide +kernel
theorem dX3_fillRest_12 : decode cX3_fillRest 12 = .ok (.iconst 0, 1) := by decide +kernel
theorem dX3_fillRest_13 : decode cX3_fillRest 13 = .ok (.istore_n 2, 1) := by decide +kernel
theorem dX3_fillRest_14 : decode cX3_fillRest 14 = .ok (.iload_n 2, 1) := by decide +kernel
theorem dX3_fillRest_15 : decode cX3_fillRest 15 = .ok (.aload_n 0, 1) := by decide +kernel
theorem dX3_fillRest_16 : decode cX3_fillRest 16 = .ok (.getfield 39, 3) := by decide +kernel
theorem dX3_fillRest_19 : decode cX3_fillRest 19 = .ok (.if_icmp .ge 39, 3) := by decide +kernel
theorem dX3_fillRest_22 : decode cX3_fillRest 22 = .ok (.iload_n 1, 1) := by decide +kernel
theorem dX3_fillRest_23 : decode cX3_fillRest 23 = .ok (.iload_n 2, 1) := by decide +kernel
theorem dX3_fillRest_24 : decode cX3_fillRest 24 = .ok (.ishr, 1) := by decide +kernel
theorem dX3_fillRest_25 : decode cX3_fillRest 25 = .ok (.iconst 1, 1) := by decide +kernel
theorem dX3_fillRest_26 : decode cX3_fillRest 26 = .ok (.iand, 1) := by decide +kernel
theorem dX3_fillRest_27 : decode cX3_fillRest 27 = .ok (.ifCond .ne 25, 3) := by decide +kernel
theorem dX3_fillRest_30 : decode cX3_fillRest 30 = .ok (.aload_n 0, 1) := by decide +kernel
theorem dX3_fillRest_31 : decode cX3_fillRest 31 = .ok (.getfield 16, 3) := by decide +kernel
theorem dX3_fillRest_34 : decode cX3_fillRest 34 = .ok (.iload_n 1, 1) := by decide +kernel
theorem dX3_fillRest_35 : decode cX3_fillRest 35 = .ok (.bipush 12, 2) := by decide +kernel
theorem dX3_fillRest_37 : decode cX3_fillRest 37 = .ok (.imul, 1) := by decide +kernel
theorem dX3_fillRest_38 : decode cX3_fillRest 38 = .ok (.iload_n 2, 1) := by decide +kernel
theorem dX3_fillRest_39 : decode cX3_fillRest 39 = .ok (.iadd, 1) := by decide +kernel
theorem dX3_fillRest_40 : decode cX3_fillRest 40 = .ok (.aload_n 0, 1) := by decide +kernel
theorem dX3_fillRest_41 : decode cX3_fillRest 41 = .ok (.iload_n 1, 1) := by decide +kernel
theorem dX3_fillRest_42 : decode cX3_fillRest 42 = .ok (.aload_n 0, 1) := by decide +kernel
theorem dX3_fillRest_43 : decode cX3_fillRest 43 = .ok (.getfield 9, 3) := by decide +kernel
theorem dX3_fillRest_46 : decode cX3_fillRest 46 = .ok (.iload_n 2, 1) := by decide +kernel
theorem dX3_fillRest_47 : decode cX3_fillRest 47 = .ok (.iaload, 1) := by decide +kernel
theorem dX3_fillRest_48 : decode cX3_fillRest 48 = .ok (.invokevirtual 46, 3) := by decide +kernel
theorem dX3_fillRest_51 : decode cX3_fillRest 51 = .ok (.iastore, 1) := by decide +kernel
theorem dX3_fillRest_52 : decode cX3_fillRest 52 = .ok (.iinc 2 1, 3) := by decide +kernel
theorem dX3_fillRest_55 : decode cX3_fillRest 55 = .ok (.goto (-41), 3) := by decide +kernel
theorem dX3_fillRest_58 : decode cX3_fillRest 58 = .ok (.iinc 1 1, 3) := by decide +kernel
theorem dX3_fillRest_61 : decode cX3_fillRest 61 = .ok (.goto (-59), 3) := by decide +kernel
theorem dX3_fillRest_64 : decode cX3_fillRest 64 = .ok (.return_, 1) := by decide +kernel
set_option maxRecDepth 20000 in
theorem ggX3_leastFrom_X3_bestStep : GoodIn wsX3_leastFrom wsX3_bestStep := goodIn_r _ [5, 6, 7, 8, 9, 4, 10, 11, 12, 13, 14, 15, 16, 17, 18, 19, 20, 21, 22, 23, 24, 25] (by decide +kernel) (by decide +kernel)
set_option maxRecDepth 20000 in
theorem gX3_leastFrom_X3_bestStep : GoodIn wsX3_leastFrom (wsV RX3 50 RX3 yX3_bestStep wsX3_bestStep) := goodIn_app (goodIn_of _ (by decide +kernel)) ggX3_leastFrom_X3_bestStep
set_option maxRecDepth 20000 in
theorem ggX3_leastFrom_X3_travelBy : GoodIn wsX3_leastFrom wsX3_travelBy := goodIn_r _ [10, 11, 12, 13, 14, 15, 16, 17, 18, 19, 20, 21, 22, 23, 24, 25] (by decide +kernel) (by decide +kernel)
set_option maxRecDepth 20000 in
theorem gX3_leastFrom_X3_travelBy : GoodIn wsX3_leastFrom (wsV RX3 53 RX3 yX3_travelBy wsX3_travelBy) := goodIn_app (goodIn_of _ (by decide +kernel)) ggX3_leastFrom_X3_travelBy
theorem dX3_leastFrom_0 : decode cX3_leastFrom 0 = .ok (.aload_n 0, 1) := by decide +kernel
theorem dX3_leastFrom_1 : decode cX3_leastFrom 1 = .ok (.iload_n 1, 1) := by decide +kernel
theorem dX3_leastFrom_2 : decode cX3_leastFrom 2 = .ok (.iload_n 2, 1) := by decide +kernel
theorem dX3_leastFrom_3 : decode cX3_leastFrom 3 = .ok (.invokevirtual 50, 3) := by decide +kernel
theorem dX3_leastFrom_6 : decode cX3_leastFrom 6 = .ok (.istore_n 3, 1) := by decide +kernel
theorem dX3_leastFrom_7 : decode cX3_leastFrom 7 = .ok (.iload_n 3, 1) := by decide +kernel
theorem dX3_leastFrom_8 : decode cX3_leastFrom 8 = .ok (.ifCond .ge 7, 3) := by decide +kernel
theorem dX3_leastFrom_11 : decode cX3_leastFrom 11 = .ok (.iconst 0, 1) := by decide +kernel
theorem dX3_leastFrom_12 : decode cX3_leastFrom 12 = .ok (.goto 10, 3) := by decide +kernel
theorem dX3_leastFrom_15 : decode cX3_leastFrom 15 = .ok (.aload_n 0, 1) := by decide +kernel
theorem dX3_leastFrom_16 : decode cX3_leastFrom 16 = .ok (.iload_n 1, 1) := by decide +kernel
theorem dX3_leastFrom_17 : decode cX3_leastFrom 17 = .ok (.iload_n 2, 1) := by decide +kernel
theorem dX3_leastFrom_18 : decode cX3_leastFrom 18 = .ok (.iload_n 3, 1) := by decide +kernel
theorem dX3_leastFrom_19 : decode cX3_leastFrom 19 = .ok (.invokevirtual 53, 3) := by decide +kernel
theorem dX3_leastFrom_22 : decode cX3_leastFrom 22 = .ok (.ireturn, 1) := by decide +kernel
set_option maxRecDepth 20000 in
theorem ggX3_travelBy_X4_way : GoodIn wsX3_travelBy wsX4_way := goodIn_r _ [5, 6, 7, 8, 9] (by decide +kernel) (by decide +kernel)
set_option maxRecDepth 20000 in
theorem gX3_travelBy_X4_way_n57 : GoodIn wsX3_travelBy (wsX4_way) := ggX3_travelBy_X4_way
theorem dX3_travelBy_0 : decode cX3_travelBy 0 = .ok (.iload_n 2, 1) := by decide +kernel
theorem dX3_travelBy_1 : decode cX3_travelBy 1 = .ok (.aload_n 0, 1) := by decide +kernel
theorem dX3_travelBy_2 : decode cX3_travelBy 2 = .ok (.getfield 9, 3) := by decide +kernel
theorem dX3_travelBy_5 : decode cX3_travelBy 5 = .ok (.iload_n 3, 1) := by decide +kernel
theorem dX3_travelBy_6 : decode cX3_travelBy 6 = .ok (.iaload, 1) := by decide +kernel
theorem dX3_travelBy_7 : decode cX3_travelBy 7 = .ok (.invokestatic 57, 3) := by decide +kernel
theorem dX3_travelBy_10 : decode cX3_travelBy 10 = .ok (.aload_n 0, 1) := by decide +kernel
theorem dX3_travelBy_11 : decode cX3_travelBy 11 = .ok (.getfield 16, 3) := by decide +kernel
theorem dX3_travelBy_14 : decode cX3_travelBy 14 = .ok (.iload_n 1, 1) := by decide +kernel
theorem dX3_travelBy_15 : decode cX3_travelBy 15 = .ok (.iconst 1, 1) := by decide +kernel
theorem dX3_travelBy_16 : decode cX3_travelBy 16 = .ok (.iload_n 3, 1) := by decide +kernel
theorem dX3_travelBy_17 : decode cX3_travelBy 17 = .ok (.ishl, 1) := by decide +kernel
theorem dX3_travelBy_18 : decode cX3_travelBy 18 = .ok (.iconst (-1), 1) := by decide +kernel
theorem dX3_travelBy_19 : decode cX3_travelBy 19 = .ok (.ixor, 1) := by decide +kernel
theorem dX3_travelBy_20 : decode cX3_travelBy 20 = .ok (.iand, 1) := by decide +kernel
theorem dX3_travelBy_21 : decode cX3_travelBy 21 = .ok (.bipush 12, 2) := by decide +kernel
theorem dX3_travelBy_23 : decode cX3_travelBy 23 = .ok (.imul, 1) := by decide +kernel
theorem dX3_travelBy_24 : decode cX3_travelBy 24 = .ok (.iload_n 3, 1) := by decide +kernel
theorem dX3_travelBy_25 : decode cX3_travelBy 25 = .ok (.iadd, 1) := by decide +kernel
theorem dX3_travelBy_26 : decode cX3_travelBy 26 = .ok (.iaload, 1) := by decide +kernel
theorem dX3_travelBy_27 : decode cX3_travelBy 27 = .ok (.iadd, 1) := by decide +kernel
theorem dX3_travelBy_28 : decode cX3_travelBy 28 = .ok (.ireturn, 1) := by decide +kernel
set_option maxRecDepth 20000 in
theorem ggX3_bestStep_X3_travelBy : GoodIn wsX3_bestStep wsX3_travelBy := goodIn_r _ [6, 7, 8, 9, 10, 11, 12, 13, 14, 15, 16, 17, 18, 19, 20, 21] (by decide +kernel) (by decide +kernel)
set_option maxRecDepth 20000 in
theorem gX3_bestStep_X3_travelBy : GoodIn wsX3_bestStep (wsV RX3 53 RX3 yX3_travelBy wsX3_travelBy) := goodIn_app (goodIn_of _ (by decide +kernel)) ggX3_bestStep_X3_travelBy
theorem dX3_bestStep_0 : decode cX3_bestStep 0 = .ok (.iconst (-1), 1) := by decide +kernel
theorem dX3_bestStep_1 : decode cX3_bestStep 1 = .ok (.istore_n 3, 1) := by decide +kernel
theorem dX3_bestStep_2 : decode cX3_bestStep 2 = .ok (.iconst 0, 1) := by decide +kernel
theorem dX3_bestStep_3 : decode cX3_bestStep 3 = .ok (.istore 4, 2) := by decide +kernel
theorem dX3_bestStep_5 : decode cX3_bestStep 5 = .ok (.iconst 0, 1) := by decide +kernel
theorem dX3_bestStep_6 : decode cX3_bestStep 6 = .ok (.istore 5, 2) := by decide +kernel
theorem dX3_bestStep_8 : decode cX3_bestStep 8 = .ok (.iload 5, 2) := by decide +kernel
theorem dX3_bestStep_10 : decode cX3_bestStep 10 = .ok (.aload_n 0, 1) := by decide +kernel
theorem dX3_bestStep_11 : decode cX3_bestStep 11 = .ok (.getfield 39, 3) := by decide +kernel
theorem dX3_bestStep_14 : decode cX3_bestStep 14 = .ok (.if_icmp .ge 47, 3) := by decide +kernel
theorem dX3_bestStep_17 : decode cX3_bestStep 17 = .ok (.iload_n 1, 1) := by decide +kernel
theorem dX3_bestStep_18 : decode cX3_bestStep 18 = .ok (.iload 5, 2) := by decide +kernel
theorem dX3_bestStep_20 : decode cX3_bestStep 20 = .ok (.ishr, 1) := by decide +kernel
theorem dX3_bestStep_21 : decode cX3_bestStep 21 = .ok (.iconst 1, 1) := by decide +kernel
theorem dX3_bestStep_22 : decode cX3_bestStep 22 = .ok (.iand, 1) := by decide +kernel
theorem dX3_bestStep_23 : decode cX3_bestStep 23 = .ok (.iconst 1, 1) := by decide +kernel
theorem dX3_bestStep_24 : decode cX3_bestStep 24 = .ok (.if_icmp .ne 31, 3) := by decide +kernel
theorem dX3_bestStep_27 : decode cX3_bestStep 27 = .ok (.aload_n 0, 1) := by decide +kernel
theorem dX3_bestStep_28 : decode cX3_bestStep 28 = .ok (.iload_n 1, 1) := by decide +kernel
theorem dX3_bestStep_29 : decode cX3_bestStep 29 = .ok (.iload_n 2, 1) := by decide +kernel
theorem dX3_bestStep_30 : decode cX3_bestStep 30 = .ok (.iload 5, 2) := by decide +kernel
theorem dX3_bestStep_32 : decode cX3_bestStep 32 = .ok (.invokevirtual 53, 3) := by decide +kernel
theorem dX3_bestStep_35 : decode cX3_bestStep 35 = .ok (.istore 6, 2) := by decide +kernel
theorem dX3_bestStep_37 : decode cX3_bestStep 37 = .ok (.iload_n 3, 1) := by decide +kernel
theorem dX3_bestStep_38 : decode cX3_bestStep 38 = .ok (.ifCond .lt 10, 3) := by decide +kernel
theorem dX3_bestStep_41 : decode cX3_bestStep 41 = .ok (.iload 6, 2) := by decide +kernel
theorem dX3_bestStep_43 : decode cX3_bestStep 43 = .ok (.iload 4, 2) := by decide +kernel
theorem dX3_bestStep_45 : decode cX3_bestStep 45 = .ok (.if_icmp .ge 10, 3) := by decide +kernel
theorem dX3_bestStep_48 : decode cX3_bestStep 48 = .ok (.iload 5, 2) := by decide +kernel
theorem dX3_bestStep_50 : decode cX3_bestStep 50 = .ok (.istore_n 3, 1) := by decide +kernel
theorem dX3_bestStep_51 : decode cX3_bestStep 51 = .ok (.iload 6, 2) := by decide +kernel
theorem dX3_bestStep_53 : decode cX3_bestStep 53 = .ok (.istore 4, 2) := by decide +kernel
theorem dX3_bestStep_55 : decode cX3_bestStep 55 = .ok (.iinc 5 1, 3) := by decide +kernel
theorem dX3_bestStep_58 : decode cX3_bestStep 58 = .ok (.goto (-50), 3) := by decide +kernel
theorem dX3_bestStep_61 : decode cX3_bestStep 61 = .ok (.iload_n 3, 1) := by decide +kernel
theorem dX3_bestStep_62 : decode cX3_bestStep 62 = .ok (.ireturn, 1) := by decide +kernel
set_option maxRecDepth 20000 in
theorem ggX3_follow_X3_bestStep : GoodIn wsX3_follow wsX3_bestStep := goodIn_r _ [9, 2, 10, 11, 12, 8, 13, 4, 14, 15, 16, 17, 18, 19, 20, 21, 22, 23, 24, 25, 26, 27] (by decide +kernel) (by decide +kernel)
set_option maxRecDepth 20000 in
theorem gX3_follow_X3_bestStep : GoodIn wsX3_follow (wsV RX3 50 RX3 yX3_bestStep wsX3_bestStep) := goodIn_app (goodIn_of _ (by decide +kernel)) ggX3_follow_X3_bestStep
set_option maxRecDepth 20000 in
theorem ggX3_follow_X4_way : GoodIn wsX3_follow wsX4_way := goodIn_r _ [17, 18, 19, 20, 21] (by decide +kernel) (by decide +kernel)
set_option maxRecDepth 20000 in
theorem gX3_follow_X4_way_n57 : GoodIn wsX3_follow (wsX4_way) := ggX3_follow_X4_way
theorem dX3_follow_0 : decode cX3_follow 0 = .ok (.aload_n 0, 1) := by decide +kernel
theorem dX3_follow_1 : decode cX3_follow 1 = .ok (.iconst 0, 1) := by decide +kernel
theorem dX3_follow_2 : decode cX3_follow 2 = .ok (.putfield 35, 3) := by decide +kernel
theorem dX3_follow_5 : decode cX3_follow 5 = .ok (.iconst 0, 1) := by decide +kernel
theorem dX3_follow_6 : decode cX3_follow 6 = .ok (.istore_n 1, 1) := by decide +kernel
theorem dX3_follow_7 : decode cX3_follow 7 = .ok (.iconst 1, 1) := by decide +kernel
theorem dX3_follow_8 : decode cX3_follow 8 = .ok (.aload_n 0, 1) := by decide +kernel
theorem dX3_follow_9 : decode cX3_follow 9 = .ok (.getfield 39, 3) := by decide +kernel
theorem dX3_follow_12 : decode cX3_follow 12 = .ok (.ishl, 1) := by decide +kernel
theorem dX3_follow_13 : decode cX3_follow 13 = .ok (.iconst 1, 1) := by decide +kernel
theorem dX3_follow_14 : decode cX3_follow 14 = .ok (.isub, 1) := by decide +kernel
theorem dX3_follow_15 : decode cX3_follow 15 = .ok (.istore_n 2, 1) := by decide +kernel
theorem dX3_follow_16 : decode cX3_follow 16 = .ok (.iconst 0, 1) := by decide +kernel
theorem dX3_follow_17 : decode cX3_follow 17 = .ok (.istore_n 3, 1) := by decide +kernel
theorem dX3_follow_18 : decode cX3_follow 18 = .ok (.iload_n 3, 1) := by decide +kernel
theorem dX3_follow_19 : decode cX3_follow 19 = .ok (.aload_n 0, 1) := by decide +kernel
theorem dX3_follow_20 : decode cX3_follow 20 = .ok (.getfield 39, 3) := by decide +kernel
theorem dX3_follow_23 : decode cX3_follow 23 = .ok (.if_icmp .ge 73, 3) := by decide +kernel
theorem dX3_follow_26 : decode cX3_follow 26 = .ok (.aload_n 0, 1) := by decide +kernel
theorem dX3_follow_27 : decode cX3_follow 27 = .ok (.iload_n 2, 1) := by decide +kernel
theorem dX3_follow_28 : decode cX3_follow 28 = .ok (.iload_n 1, 1) := by decide +kernel
theorem dX3_follow_29 : decode cX3_follow 29 = .ok (.invokevirtual 50, 3) := by decide +kernel
theorem dX3_follow_32 : decode cX3_follow 32 = .ok (.istore 4, 2) := by decide +kernel
theorem dX3_follow_34 : decode cX3_follow 34 = .ok (.iload 4, 2) := by decide +kernel
theorem dX3_follow_36 : decode cX3_follow 36 = .ok (.ifCond .ge 4, 3) := by decide +kernel
theorem dX3_follow_39 : decode cX3_follow 39 = .ok (.return_, 1) := by decide +kernel
theorem dX3_follow_40 : decode cX3_follow 40 = .ok (.aload_n 0, 1) := by decide +kernel
theorem dX3_follow_41 : decode cX3_follow 41 = .ok (.getfield 19, 3) := by decide +kernel
theorem dX3_follow_44 : decode cX3_follow 44 = .ok (.iload_n 3, 1) := by decide +kernel
theorem dX3_follow_45 : decode cX3_follow 45 = .ok (.aload_n 0, 1) := by decide +kernel
theorem dX3_follow_46 : decode cX3_follow 46 = .ok (.getfield 9, 3) := by decide +kernel
theorem dX3_follow_49 : decode cX3_follow 49 = .ok (.iload 4, 2) := by decide +kernel
theorem dX3_follow_51 : decode cX3_follow 51 = .ok (.iaload, 1) := by decide +kernel
theorem dX3_follow_52 : decode cX3_follow 52 = .ok (.iastore, 1) := by decide +kernel
theorem dX3_follow_53 : decode cX3_follow 53 = .ok (.aload_n 0, 1) := by decide +kernel
theorem dX3_follow_54 : decode cX3_follow 54 = .ok (.dup, 1) := by decide +kernel
theorem dX3_follow_55 : decode cX3_follow 55 = .ok (.getfield 35, 3) := by decide +kernel
theorem dX3_follow_58 : decode cX3_follow 58 = .ok (.iload_n 1, 1) := by decide +kernel
theorem dX3_follow_59 : decode cX3_follow 59 = .ok (.aload_n 0, 1) := by decide +kernel
theorem dX3_follow_60 : decode cX3_follow 60 = .ok (.getfield 9, 3) := by decide +kernel
theorem dX3_follow_63 : decode cX3_follow 63 = .ok (.iload 4, 2) := by decide +kernel
theorem dX3_follow_65 : decode cX3_follow 65 = .ok (.iaload, 1) := by decide +kernel
theorem dX3_follow_66 : decode cX3_follow 66 = .ok (.invokestatic 57, 3) := by decide +kernel
theorem dX3_follow_69 : decode cX3_follow 69 = .ok (.iadd, 1) := by decide +kernel
theorem dX3_follow_70 : decode cX3_follow 70 = .ok (.putfield 35, 3) := by decide +kernel
theorem dX3_follow_73 : decode cX3_follow 73 = .ok (.aload_n 0, 1) := by decide +kernel
theorem dX3_follow_74 : decode cX3_follow 74 = .ok (.getfield 9, 3) := by decide +kernel
theorem dX3_follow_77 : decode cX3_follow 77 = .ok (.iload 4, 2) := by decide +kernel
theorem dX3_follow_79 : decode cX3_follow 79 = .ok (.iaload, 1) := by decide +kernel
theorem dX3_follow_80 : decode cX3_follow 80 = .ok (.istore_n 1, 1) := by decide +kernel
theorem dX3_follow_81 : decode cX3_follow 81 = .ok (.iload_n 2, 1) := by decide +kernel
theorem dX3_follow_82 : decode cX3_follow 82 = .ok (.iconst 1, 1) := by decide +kernel
theorem dX3_follow_83 : decode cX3_follow 83 = .ok (.iload 4, 2) := by decide +kernel
theorem dX3_follow_85 : decode cX3_follow 85 = .ok (.ishl, 1) := by decide +kernel
theorem dX3_follow_86 : decode cX3_follow 86 = .ok (.iconst (-1), 1) := by decide +kernel
theorem dX3_follow_87 : decode cX3_follow 87 = .ok (.ixor, 1) := by decide +kernel
theorem dX3_follow_88 : decode cX3_follow 88 = .ok (.iand, 1) := by decide +kernel
theorem dX3_follow_89 : decode cX3_follow 89 = .ok (.istore_n 2, 1) := by decide +kernel
theorem dX3_follow_90 : decode cX3_follow 90 = .ok (.iinc 3 1, 3) := by decide +kernel
theorem dX3_follow_93 : decode cX3_follow 93 = .ok (.goto (-75), 3) := by decide +kernel
theorem dX3_follow_96 : decode cX3_follow 96 = .ok (.return_, 1) := by decide +kernel
set_option maxRecDepth 20000 in
theorem ggX4_init_X2_init : GoodIn wsX4_init wsX2_init := goodIn_r _ [21, 22, 2, 3, 23, 24, 25, 26, 27, 28, 29, 30, 31, 32, 17, 33, 34, 35, 36, 37, 70, 71, 72, 73, 74, 51, 52, 53] (by decide +kernel) (by decide +kernel)
set_option maxRecDepth 20000 in
theorem gX4_init_X2_init : GoodIn wsX4_init (wsX2_init) := ggX4_init_X2_init
set_option maxRecDepth 20000 in
theorem ggX4_init_X0_init : GoodIn wsX4_init wsX0_init := goodIn_r _ [39, 40, 2, 3, 41, 42, 17, 43, 60, 61, 62, 63] (by decide +kernel) (by decide +kernel)
set_option maxRecDepth 20000 in
theorem gX4_init_X0_init_n22 : GoodIn wsX4_init (wsX0_init) := ggX4_init_X0_init
set_option maxRecDepth 20000 in
theorem ggX4_init_X3_init : GoodIn wsX4_init wsX3_init := goodIn_r _ [45, 46, 2, 3, 17, 47, 48, 49, 50, 64, 65, 66, 67, 68, 69] (by decide +kernel) (by decide +kernel)
set_option maxRecDepth 20000 in
theorem gX4_init_X3_init_n29 : GoodIn wsX4_init (wsX3_init) := ggX4_init_X3_init
theorem dX4_init_0 : decode cX4_init 0 = .ok (.aload_n 0, 1) := by decide +kernel
theorem dX4_init_1 : decode cX4_init 1 = .ok (.invokespecial 1, 3) := by decide +kernel
theorem dX4_init_4 : decode cX4_init 4 = .ok (.aload_n 0, 1) := by decide +kernel
theorem dX4_init_5 : decode cX4_init 5 = .ok (.new 7, 3) := by decide +kernel
theorem dX4_init_8 : decode cX4_init 8 = .ok (.dup, 1) := by decide +kernel
theorem dX4_init_9 : decode cX4_init 9 = .ok (.invokespecial 9, 3) := by decide +kernel
theorem dX4_init_12 : decode cX4_init 12 = .ok (.putfield 10, 3) := by decide +kernel
theorem dX4_init_15 : decode cX4_init 15 = .ok (.aload_n 0, 1) := by decide +kernel
theorem dX4_init_16 : decode cX4_init 16 = .ok (.bipush 6, 2) := by decide +kernel
theorem dX4_init_18 : decode cX4_init 18 = .ok (.anewarray 7, 3) := by decide +kernel
theorem dX4_init_21 : decode cX4_init 21 = .ok (.putfield 16, 3) := by decide +kernel
theorem dX4_init_24 : decode cX4_init 24 = .ok (.iconst 0, 1) := by decide +kernel
theorem dX4_init_25 : decode cX4_init 25 = .ok (.istore_n 1, 1) := by decide +kernel
theorem dX4_init_26 : decode cX4_init 26 = .ok (.iload_n 1, 1) := by decide +kernel
theorem dX4_init_27 : decode cX4_init 27 = .ok (.aload_n 0, 1) := by decide +kernel
theorem dX4_init_28 : decode cX4_init 28 = .ok (.getfield 16, 3) := by decide +kernel
theorem dX4_init_31 : decode cX4_init 31 = .ok (.arraylength, 1) := by decide +kernel
theorem dX4_init_32 : decode cX4_init 32 = .ok (.if_icmp .ge 22, 3) := by decide +kernel
theorem dX4_init_35 : decode cX4_init 35 = .ok (.aload_n 0, 1) := by decide +kernel
theorem dX4_init_36 : decode cX4_init 36 = .ok (.getfield 16, 3) := by decide +kernel
theorem dX4_init_39 : decode cX4_init 39 = .ok (.iload_n 1, 1) := by decide +kernel
theorem dX4_init_40 : decode cX4_init 40 = .ok (.new 7, 3) := by decide +kernel
theorem dX4_init_43 : decode cX4_init 43 = .ok (.dup, 1) := by decide +kernel
theorem dX4_init_44 : decode cX4_init 44 = .ok (.invokespecial 9, 3) := by decide +kernel
theorem dX4_init_47 : decode cX4_init 47 = .ok (.aastore, 1) := by decide +kernel
theorem dX4_init_48 : decode cX4_init 48 = .ok (.iinc 1 1, 3) := by decide +kernel
theorem dX4_init_51 : decode cX4_init 51 = .ok (.goto (-25), 3) := by decide +kernel
theorem dX4_init_54 : decode cX4_init 54 = .ok (.aload_n 0, 1) := by decide +kernel
theorem dX4_init_55 : decode cX4_init 55 = .ok (.new 20, 3) := by decide +kernel
theorem dX4_init_58 : decode cX4_init 58 = .ok (.dup, 1) := by decide +kernel
theorem dX4_init_59 : decode cX4_init 59 = .ok (.invokespecial 22, 3) := by decide +kernel
theorem dX4_init_62 : decode cX4_init 62 = .ok (.putfield 23, 3) := by decide +kernel
theorem dX4_init_65 : decode cX4_init 65 = .ok (.aload_n 0, 1) := by decide +kernel
theorem dX4_init_66 : decode cX4_init 66 = .ok (.new 27, 3) := by decide +kernel
theorem dX4_init_69 : decode cX4_init 69 = .ok (.dup, 1) := by decide +kernel
theorem dX4_init_70 : decode cX4_init 70 = .ok (.invokespecial 29, 3) := by decide +kernel
theorem dX4_init_73 : decode cX4_init 73 = .ok (.putfield 30, 3) := by decide +kernel
theorem dX4_init_76 : decode cX4_init 76 = .ok (.aload_n 0, 1) := by decide +kernel
theorem dX4_init_77 : decode cX4_init 77 = .ok (.sipush 200, 3) := by decide +kernel
theorem dX4_init_80 : decode cX4_init 80 = .ok (.newarray .int, 2) := by decide +kernel
theorem dX4_init_82 : decode cX4_init 82 = .ok (.putfield 34, 3) := by decide +kernel
theorem dX4_init_85 : decode cX4_init 85 = .ok (.return_, 1) := by decide +kernel
set_option maxRecDepth 20000 in
theorem ggX4_set_X4_prepare : GoodIn wsX4_set wsX4_prepare := goodIn_r _ [7, 8, 9, 1, 10, 11, 12, 13, 14, 15, 16, 17, 18, 19, 20, 21, 22, 23, 24, 25, 26, 27, 28, 29, 30, 31, 46, 47, 48, 49, 50, 51, 52, 53, 54, 55, 56, 57, 58, 59] (by decide +kernel) (by decide +kernel)
set_option maxRecDepth 20000 in
theorem gX4_set_X4_prepare : GoodIn wsX4_set (wsV RX4 38 RX4 yX4_prepare wsX4_prepare) := goodIn_app (goodIn_of _ (by decide +kernel)) ggX4_set_X4_prepare
set_option maxRecDepth 20000 in
theorem ggX4_set_X1_putSetting : GoodIn wsX4_set wsX1_putSetting := goodIn_r _ [35, 36, 37, 31, 55, 56, 57, 58, 59] (by decide +kernel) (by decide +kernel)
set_option maxRecDepth 20000 in
theorem gX4_set_X1_putSetting : GoodIn wsX4_set (wsV RX4 45 RX1 yX1_putSetting wsX1_putSetting) := goodIn_app (goodIn_of _ (by decide +kernel)) ggX4_set_X1_putSetting
set_option maxRecDepth 20000 in
theorem ggX4_set_X4_finish : GoodIn wsX4_set wsX4_finish := goodIn_r _ [41, 9, 42, 43, 44, 6, 45, 8, 46, 47, 48, 49, 50, 51] (by decide +kernel) (by decide +kernel)
set_option maxRecDepth 20000 in
theorem gX4_set_X4_finish : GoodIn wsX4_set (wsV RX4 51 RX4 yX4_finish wsX4_finish) := goodIn_app (goodIn_of _ (by decide +kernel)) ggX4_set_X4_finish
theorem dX4_set_0 : decode cX4_set 0 = .ok (.aload_n 0, 1) := by decide +kernel
theorem dX4_set_1 : decode cX4_set 1 = .ok (.invokevirtual 38, 3) := by decide +kernel
theorem dX4_set_4 : decode cX4_set 4 = .ok (.aload_n 0, 1) := by decide +kernel
theorem dX4_set_5 : decode cX4_set 5 = .ok (.aload_n 0, 1) := by decide +kernel
theorem dX4_set_6 : decode cX4_set 6 = .ok (.getfield 10, 3) := by decide +kernel
theorem dX4_set_9 : decode cX4_set 9 = .ok (.getfield 41, 3) := by decide +kernel
theorem dX4_set_12 : decode cX4_set 12 = .ok (.iload_n 1, 1) := by decide +kernel
theorem dX4_set_13 : decode cX4_set 13 = .ok (.iload_n 2, 1) := by decide +kernel
theorem dX4_set_14 : decode cX4_set 14 = .ok (.invokevirtual 45, 3) := by decide +kernel
theorem dX4_set_17 : decode cX4_set 17 = .ok (.invokevirtual 51, 3) := by decide +kernel
theorem dX4_set_20 : decode cX4_set 20 = .ok (.ireturn, 1) := by decide +kernel
set_option maxRecDepth 20000 in
theorem ggX4_setPhosphor_X4_prepare : GoodIn wsX4_setPhosphor wsX4_prepare := goodIn_r _ [7, 8, 9, 1, 10, 11, 12, 13, 14, 15, 16, 17, 18, 19, 20, 21, 22, 23, 24, 25, 26, 27, 28, 29, 30, 31, 48, 49, 50, 51, 52, 53, 54, 55, 56, 57, 58, 59, 60, 61] (by decide +kernel) (by decide +kernel)
set_option maxRecDepth 20000 in
theorem gX4_setPhosphor_X4_prepare : GoodIn wsX4_setPhosphor (wsV RX4 38 RX4 yX4_prepare wsX4_prepare) := goodIn_app (goodIn_of _ (by decide +kernel)) ggX4_setPhosphor_X4_prepare
set_option maxRecDepth 20000 in
theorem ggX4_setPhosphor_X1_putPhosphor : GoodIn wsX4_setPhosphor wsX1_putPhosphor := goodIn_r _ [35, 23, 36, 6, 37, 38, 39, 57, 58, 59, 60, 61] (by decide +kernel) (by decide +kernel)
set_option maxRecDepth 20000 in
theorem gX4_setPhosphor_X1_putPhosphor : GoodIn wsX4_setPhosphor (wsV RX4 55 RX1 yX1_putPhosphor wsX1_putPhosphor) := goodIn_app (goodIn_of _ (by decide +kernel)) ggX4_setPhosphor_X1_putPhosphor
set_option maxRecDepth 20000 in
theorem ggX4_setPhosphor_X4_finish : GoodIn wsX4_setPhosphor wsX4_finish := goodIn_r _ [43, 9, 44, 45, 46, 6, 47, 8, 48, 49, 50, 51, 52, 53] (by decide +kernel) (by decide +kernel)
set_option maxRecDepth 20000 in
theorem gX4_setPhosphor_X4_finish : GoodIn wsX4_setPhosphor (wsV RX4 51 RX4 yX4_finish wsX4_finish) := goodIn_app (goodIn_of _ (by decide +kernel)) ggX4_setPhosphor_X4_finish
theorem dX4_setPhosphor_0 : decode cX4_setPhosphor 0 = .ok (.aload_n 0, 1) := by decide +kernel
theorem dX4_setPhosphor_1 : decode cX4_setPhosphor 1 = .ok (.invokevirtual 38, 3) := by decide +kernel
theorem dX4_setPhosphor_4 : decode cX4_setPhosphor 4 = .ok (.aload_n 0, 1) := by decide +kernel
theorem dX4_setPhosphor_5 : decode cX4_setPhosphor 5 = .ok (.aload_n 0, 1) := by decide +kernel
theorem dX4_setPhosphor_6 : decode cX4_setPhosphor 6 = .ok (.getfield 10, 3) := by decide +kernel
theorem dX4_setPhosphor_9 : decode cX4_setPhosphor 9 = .ok (.getfield 41, 3) := by decide +kernel
theorem dX4_setPhosphor_12 : decode cX4_setPhosphor 12 = .ok (.iload_n 1, 1) := by decide +kernel
theorem dX4_setPhosphor_13 : decode cX4_setPhosphor 13 = .ok (.iload_n 2, 1) := by decide +kernel
theorem dX4_setPhosphor_14 : decode cX4_setPhosphor 14 = .ok (.invokevirtual 55, 3) := by decide +kernel
theorem dX4_setPhosphor_17 : decode cX4_setPhosphor 17 = .ok (.invokevirtual 51, 3) := by decide +kernel
theorem dX4_setPhosphor_20 : decode cX4_setPhosphor 20 = .ok (.ireturn, 1) := by decide +kernel
set_option maxRecDepth 20000 in
theorem ggX4_light_X4_prepare : GoodIn wsX4_light wsX4_prepare := goodIn_r _ [7, 8, 9, 1, 10, 11, 12, 13, 14, 15, 16, 17, 18, 19, 20, 21, 22, 23, 24, 25, 26, 27, 28, 29, 30, 31, 50, 51, 52, 53, 54, 55, 56, 57, 58, 59, 60, 61, 62, 63] (by decide +kernel) (by decide +kernel)
set_option maxRecDepth 20000 in
theorem gX4_light_X4_prepare : GoodIn wsX4_light (wsV RX4 38 RX4 yX4_prepare wsX4_prepare) := goodIn_app (goodIn_of _ (by decide +kernel)) ggX4_light_X4_prepare
set_option maxRecDepth 20000 in
theorem ggX4_light_X1_addSpot : GoodIn wsX4_light wsX1_addSpot := goodIn_r _ [35, 29, 28, 36, 6, 37, 38, 39, 40, 21, 41, 59, 60, 61, 62, 63] (by decide +kernel) (by decide +kernel)
set_option maxRecDepth 20000 in
theorem gX4_light_X1_addSpot : GoodIn wsX4_light (wsV RX4 58 RX1 yX1_addSpot wsX1_addSpot) := goodIn_app (goodIn_of _ (by decide +kernel)) ggX4_light_X1_addSpot
set_option maxRecDepth 20000 in
theorem ggX4_light_X4_finish : GoodIn wsX4_light wsX4_finish := goodIn_r _ [45, 9, 46, 47, 48, 6, 49, 8, 50, 51, 52, 53, 54, 55] (by decide +kernel) (by decide +kernel)
set_option maxRecDepth 20000 in
theorem gX4_light_X4_finish : GoodIn wsX4_light (wsV RX4 51 RX4 yX4_finish wsX4_finish) := goodIn_app (goodIn_of _ (by decide +kernel)) ggX4_light_X4_finish
theorem dX4_light_0 : decode cX4_light 0 = .ok (.aload_n 0, 1) := by decide +kernel
theorem dX4_light_1 : decode cX4_light 1 = .ok (.invokevirtual 38, 3) := by decide +kernel
theorem dX4_light_4 : decode cX4_light 4 = .ok (.aload_n 0, 1) := by decide +kernel
theorem dX4_light_5 : decode cX4_light 5 = .ok (.aload_n 0, 1) := by decide +kernel
theorem dX4_light_6 : decode cX4_light 6 = .ok (.getfield 10, 3) := by decide +kernel
theorem dX4_light_9 : decode cX4_light 9 = .ok (.getfield 41, 3) := by decide +kernel
theorem dX4_light_12 : decode cX4_light 12 = .ok (.iload_n 1, 1) := by decide +kernel
theorem dX4_light_13 : decode cX4_light 13 = .ok (.invokevirtual 58, 3) := by decide +kernel
theorem dX4_light_16 : decode cX4_light 16 = .ok (.invokevirtual 51, 3) := by decide +kernel
theorem dX4_light_19 : decode cX4_light 19 = .ok (.ireturn, 1) := by decide +kernel
set_option maxRecDepth 20000 in
theorem ggX4_darken_X4_prepare : GoodIn wsX4_darken wsX4_prepare := goodIn_r _ [7, 8, 9, 1, 10, 11, 12, 13, 14, 15, 16, 17, 18, 19, 20, 21, 22, 23, 24, 25, 26, 27, 28, 29, 30, 31, 50, 51, 52, 53, 54, 55, 56, 57, 58, 59, 60, 61, 62, 63] (by decide +kernel) (by decide +kernel)
set_option maxRecDepth 20000 in
theorem gX4_darken_X4_prepare : GoodIn wsX4_darken (wsV RX4 38 RX4 yX4_prepare wsX4_prepare) := goodIn_app (goodIn_of _ (by decide +kernel)) ggX4_darken_X4_prepare
set_option maxRecDepth 20000 in
theorem ggX4_darken_X1_removeSpot : GoodIn wsX4_darken wsX1_removeSpot := goodIn_r _ [35, 29, 28, 36, 6, 37, 38, 39, 40, 21, 41, 59, 60, 61, 62, 63] (by decide +kernel) (by decide +kernel)
set_option maxRecDepth 20000 in
theorem gX4_darken_X1_removeSpot : GoodIn wsX4_darken (wsV RX4 61 RX1 yX1_removeSpot wsX1_removeSpot) := goodIn_app (goodIn_of _ (by decide +kernel)) ggX4_darken_X1_removeSpot
set_option maxRecDepth 20000 in
theorem ggX4_darken_X4_finish : GoodIn wsX4_darken wsX4_finish := goodIn_r _ [45, 9, 46, 47, 48, 6, 49, 8, 50, 51, 52, 53, 54, 55] (by decide +kernel) (by decide +kernel)
set_option maxRecDepth 20000 in
theorem gX4_darken_X4_finish : GoodIn wsX4_darken (wsV RX4 51 RX4 yX4_finish wsX4_finish) := goodIn_app (goodIn_of _ (by decide +kernel)) ggX4_darken_X4_finish
theorem dX4_darken_0 : decode cX4_darken 0 = .ok (.aload_n 0, 1) := by decide +kernel
theorem dX4_darken_1 : decode cX4_darken 1 = .ok (.invokevirtual 38, 3) := by decide +kernel
theorem dX4_darken_4 : decode cX4_darken 4 = .ok (.aload_n 0, 1) := by decide +kernel
theorem dX4_darken_5 : decode cX4_darken 5 = .ok (.aload_n 0, 1) := by decide +kernel
theorem dX4_darken_6 : decode cX4_darken 6 = .ok (.getfield 10, 3) := by decide +kernel
theorem dX4_darken_9 : decode cX4_darken 9 = .ok (.getfield 41, 3) := by decide +kernel
theorem dX4_darken_12 : decode cX4_darken 12 = .ok (.iload_n 1, 1) := by decide +kernel
theorem dX4_darken_13 : decode cX4_darken 13 = .ok (.invokevirtual 61, 3) := by decide +kernel
theorem dX4_darken_16 : decode cX4_darken 16 = .ok (.invokevirtual 51, 3) := by decide +kernel
theorem dX4_darken_19 : decode cX4_darken 19 = .ok (.ireturn, 1) := by decide +kernel
set_option maxRecDepth 20000 in
theorem ggX4_exchange_X4_prepare : GoodIn wsX4_exchange wsX4_prepare := goodIn_r _ [7, 8, 9, 1, 10, 11, 12, 13, 14, 15, 16, 17, 18, 19, 20, 21, 22, 23, 24, 25, 26, 27, 28, 29, 30, 31, 62, 63, 64, 65, 66, 67, 68, 69, 70, 71, 72, 73, 74, 75] (by decide +kernel) (by decide +kernel)
set_option maxRecDepth 20000 in
theorem gX4_exchange_X4_prepare : GoodIn wsX4_exchange (wsV RX4 38 RX4 yX4_prepare wsX4_prepare) := goodIn_app (goodIn_of _ (by decide +kernel)) ggX4_exchange_X4_prepare
set_option maxRecDepth 20000 in
theorem ggX4_exchange_X1_swapPositions : GoodIn wsX4_exchange wsX1_swapPositions := goodIn_r _ [35, 29, 36, 37, 38, 21, 39, 28, 40, 41, 42, 43, 31, 44, 45, 46, 47, 48, 6, 49, 50, 51, 52, 53, 71, 72, 73, 74, 75] (by decide +kernel) (by decide +kernel)
set_option maxRecDepth 20000 in
theorem gX4_exchange_X1_swapPositions : GoodIn wsX4_exchange (wsV RX4 64 RX1 yX1_swapPositions wsX1_swapPositions) := goodIn_app (goodIn_of _ (by decide +kernel)) ggX4_exchange_X1_swapPositions
set_option maxRecDepth 20000 in
theorem ggX4_exchange_X4_finish : GoodIn wsX4_exchange wsX4_finish := goodIn_r _ [57, 9, 58, 59, 60, 6, 61, 8, 62, 63, 64, 65, 66, 67] (by decide +kernel) (by decide +kernel)
set_option maxRecDepth 20000 in
theorem gX4_exchange_X4_finish : GoodIn wsX4_exchange (wsV RX4 51 RX4 yX4_finish wsX4_finish) := goodIn_app (goodIn_of _ (by decide +kernel)) ggX4_exchange_X4_finish
theorem dX4_exchange_0 : decode cX4_exchange 0 = .ok (.aload_n 0, 1) := by decide +kernel
theorem dX4_exchange_1 : decode cX4_exchange 1 = .ok (.invokevirtual 38, 3) := by decide +kernel
theorem dX4_exchange_4 : decode cX4_exchange 4 = .ok (.aload_n 0, 1) := by decide +kernel
theorem dX4_exchange_5 : decode cX4_exchange 5 = .ok (.aload_n 0, 1) := by decide +kernel
theorem dX4_exchange_6 : decode cX4_exchange 6 = .ok (.getfield 10, 3) := by decide +kernel
theorem dX4_exchange_9 : decode cX4_exchange 9 = .ok (.getfield 41, 3) := by decide +kernel
theorem dX4_exchange_12 : decode cX4_exchange 12 = .ok (.iload_n 1, 1) := by decide +kernel
theorem dX4_exchange_13 : decode cX4_exchange 13 = .ok (.iload_n 2, 1) := by decide +kernel
theorem dX4_exchange_14 : decode cX4_exchange 14 = .ok (.invokevirtual 64, 3) := by decide +kernel
theorem dX4_exchange_17 : decode cX4_exchange 17 = .ok (.invokevirtual 51, 3) := by decide +kernel
theorem dX4_exchange_20 : decode cX4_exchange 20 = .ok (.ireturn, 1) := by decide +kernel
set_option maxRecDepth 20000 in
theorem ggX4_sort_X4_prepare : GoodIn wsX4_sort wsX4_prepare := goodIn_r _ [7, 8, 9, 1, 10, 11, 12, 13, 14, 15, 16, 17, 18, 19, 20, 21, 22, 23, 24, 25, 26, 27, 28, 29, 30, 31, 76, 77, 78, 79, 80, 81, 82, 83, 84, 85, 86, 87, 88, 89] (by decide +kernel) (by decide +kernel)
set_option maxRecDepth 20000 in
theorem gX4_sort_X4_prepare : GoodIn wsX4_sort (wsV RX4 38 RX4 yX4_prepare wsX4_prepare) := goodIn_app (goodIn_of _ (by decide +kernel)) ggX4_sort_X4_prepare
set_option maxRecDepth 20000 in
theorem ggX4_sort_X1_arrange : GoodIn wsX4_sort wsX1_arrange := goodIn_r _ [35, 29, 28, 36, 37, 38, 21, 39, 30, 23, 40, 6, 41, 42, 43, 44, 45, 46, 47, 48, 49, 50, 51, 52, 53, 54, 55, 56, 57, 58, 59, 60, 61, 62, 63, 31, 64, 65, 66, 67, 85, 86, 87, 88, 89] (by decide +kernel) (by decide +kernel)
set_option maxRecDepth 20000 in
theorem gX4_sort_X1_arrange : GoodIn wsX4_sort (wsV RX4 67 RX1 yX1_arrange wsX1_arrange) := goodIn_app (goodIn_of _ (by decide +kernel)) ggX4_sort_X1_arrange
set_option maxRecDepth 20000 in
theorem ggX4_sort_X4_finish : GoodIn wsX4_sort wsX4_finish := goodIn_r _ [71, 9, 72, 73, 74, 6, 75, 8, 76, 77, 78, 79, 80, 81] (by decide +kernel) (by decide +kernel)
set_option maxRecDepth 20000 in
theorem gX4_sort_X4_finish : GoodIn wsX4_sort (wsV RX4 51 RX4 yX4_finish wsX4_finish) := goodIn_app (goodIn_of _ (by decide +kernel)) ggX4_sort_X4_finish
theorem dX4_sort_0 : decode cX4_sort 0 = .ok (.aload_n 0, 1) := by decide +kernel
theorem dX4_sort_1 : decode cX4_sort 1 = .ok (.invokevirtual 38, 3) := by decide +kernel
theorem dX4_sort_4 : decode cX4_sort 4 = .ok (.aload_n 0, 1) := by decide +kernel
