theorem dX1_seen_58 : decode cX1_seen 58 = .ok (.lreturn, 1) := by decide +kernel
theorem dX1_wrong_0 : decode cX1_wrong 0 = .ok (.aload_n 0, 1) := by decide +kernel
theorem dX1_wrong_1 : decode cX1_wrong 1 = .ok (.getfield 18, 3) := by decide +kernel
theorem dX1_wrong_4 : decode cX1_wrong 4 = .ok (.iload_n 1, 1) := by decide +kernel
theorem dX1_wrong_5 : decode cX1_wrong 5 = .ok (.laload, 1) := by decide +kernel
theorem dX1_wrong_6 : decode cX1_wrong 6 = .ok (.lload_n 2, 1) := by decide +kernel
theorem dX1_wrong_7 : decode cX1_wrong 7 = .ok (.lxor, 1) := by decide +kernel
theorem dX1_wrong_8 : decode cX1_wrong 8 = .ok (.lreturn, 1) := by decide +kernel
set_option maxRecDepth 20000 in
theorem ggX1_countWrong_J13_bitCount_95d88 : GoodIn wsX1_countWrong wsJ13_bitCount_95d88 := goodIn_r _ [7, 8, 9, 10] (by decide +kernel) (by decide +kernel)
set_option maxRecDepth 20000 in
theorem gX1_countWrong_J13_bitCount_95d88 : GoodIn wsX1_countWrong (va_wsS RX1 77 yJ13_bitCount_95d88 wsJ13_bitCount_95d88) := goodIn_app (goodIn_of _ (by decide +kernel)) ggX1_countWrong_J13_bitCount_95d88
set_option maxRecDepth 20000 in
theorem ggX1_countWrong_J7_fill_53178 : GoodIn wsX1_countWrong wsJ7_fill_53178 := goodIn_r _ [14] (by decide +kernel) (by decide +kernel)
set_option maxRecDepth 20000 in
theorem gX1_countWrong_J7_fill_53178 : GoodIn wsX1_countWrong (va_wsS RX1 119 yJ7_fill_53178 wsJ7_fill_53178) := goodIn_app (goodIn_of _ (by decide +kernel)) ggX1_countWrong_J7_fill_53178
set_option maxRecDepth 20000 in
theorem ggX1_countWrong_X1_countSeen : GoodIn wsX1_countWrong wsX1_countSeen := goodIn_r _ [19, 1, 20, 21, 22, 23, 24, 25, 26, 18, 27, 28, 29, 30, 31, 2, 3, 32, 33, 34, 35, 36, 37, 38, 39, 40, 41, 42, 43, 44, 45, 46, 47, 48, 49, 50, 51, 52, 53, 54, 55, 56, 57, 58, 59, 60, 61, 62, 63, 64, 65, 66, 67] (by decide +kernel) (by decide +kernel)
set_option maxRecDepth 20000 in
theorem gX1_countWrong_X1_countSeen : GoodIn wsX1_countWrong (wsV RX1 125 RX1 yX1_countSeen wsX1_countSeen) := goodIn_app (goodIn_of _ (by decide +kernel)) ggX1_countWrong_X1_countSeen
theorem dX1_countWrong_0 : decode cX1_countWrong 0 = .ok (.aload_n 1, 1) := by decide +kernel
theorem dX1_countWrong_1 : decode cX1_countWrong 1 = .ok (.aload_n 0, 1) := by decide +kernel
theorem dX1_countWrong_2 : decode cX1_countWrong 2 = .ok (.getfield 18, 3) := by decide +kernel
theorem dX1_countWrong_5 : decode cX1_countWrong 5 = .ok (.iconst 1, 1) := by decide +kernel
theorem dX1_countWrong_6 : decode cX1_countWrong 6 = .ok (.laload, 1) := by decide +kernel
theorem dX1_countWrong_7 : decode cX1_countWrong 7 = .ok (.invokestatic 77, 3) := by decide +kernel
theorem dX1_countWrong_10 : decode cX1_countWrong 10 = .ok (.invokestatic 119, 3) := by decide +kernel
theorem dX1_countWrong_13 : decode cX1_countWrong 13 = .ok (.iconst 0, 1) := by decide +kernel
theorem dX1_countWrong_14 : decode cX1_countWrong 14 = .ok (.istore_n 2, 1) := by decide +kernel
theorem dX1_countWrong_15 : decode cX1_countWrong 15 = .ok (.iload_n 2, 1) := by decide +kernel
theorem dX1_countWrong_16 : decode cX1_countWrong 16 = .ok (.aload_n 0, 1) := by decide +kernel
theorem dX1_countWrong_17 : decode cX1_countWrong 17 = .ok (.getfield 31, 3) := by decide +kernel
theorem dX1_countWrong_20 : decode cX1_countWrong 20 = .ok (.if_icmp .ge 20, 3) := by decide +kernel
theorem dX1_countWrong_23 : decode cX1_countWrong 23 = .ok (.aload_n 0, 1) := by decide +kernel
theorem dX1_countWrong_24 : decode cX1_countWrong 24 = .ok (.aload_n 0, 1) := by decide +kernel
theorem dX1_countWrong_25 : decode cX1_countWrong 25 = .ok (.getfield 15, 3) := by decide +kernel
theorem dX1_countWrong_28 : decode cX1_countWrong 28 = .ok (.iload_n 2, 1) := by decide +kernel
theorem dX1_countWrong_29 : decode cX1_countWrong 29 = .ok (.iaload, 1) := by decide +kernel
theorem dX1_countWrong_30 : decode cX1_countWrong 30 = .ok (.aload_n 1, 1) := by decide +kernel
theorem dX1_countWrong_31 : decode cX1_countWrong 31 = .ok (.invokevirtual 125, 3) := by decide +kernel
theorem dX1_countWrong_34 : decode cX1_countWrong 34 = .ok (.iinc 2 1, 3) := by decide +kernel
theorem dX1_countWrong_37 : decode cX1_countWrong 37 = .ok (.goto (-22), 3) := by decide +kernel
theorem dX1_countWrong_40 : decode cX1_countWrong 40 = .ok (.return_, 1) := by decide +kernel
set_option maxRecDepth 20000 in
theorem ggX1_countSeen_X4_bit : GoodIn wsX1_countSeen wsX4_bit := goodIn_r _ [5] (by decide +kernel) (by decide +kernel)
set_option maxRecDepth 20000 in
theorem gX1_countSeen_X4_bit_n64 : GoodIn wsX1_countSeen (wsX4_bit) := ggX1_countSeen_X4_bit
set_option maxRecDepth 20000 in
theorem ggX1_countSeen_X1_litTick : GoodIn wsX1_countSeen wsX1_litTick := goodIn_r _ [10, 2, 11, 12, 13, 9, 14, 15, 16, 17, 18, 19, 20, 21, 4, 22, 23, 24, 25, 26, 48, 49, 50, 51, 52] (by decide +kernel) (by decide +kernel)
set_option maxRecDepth 20000 in
theorem gX1_countSeen_X1_litTick : GoodIn wsX1_countSeen (wsV RX1 89 RX1 yX1_litTick wsX1_litTick) := goodIn_app (goodIn_of _ (by decide +kernel)) ggX1_countSeen_X1_litTick
set_option maxRecDepth 20000 in
theorem ggX1_countSeen_X1_sumOver : GoodIn wsX1_countSeen wsX1_sumOver := goodIn_r _ [30, 6, 7, 8, 9, 10, 2, 11, 12, 13, 14, 15, 16, 17, 18, 19, 20, 21, 4, 22, 23, 24, 25, 26, 31, 32, 33, 34, 35, 36, 37, 38, 39, 40, 41, 42, 43, 44, 48, 49, 50, 51, 52] (by decide +kernel) (by decide +kernel)
set_option maxRecDepth 20000 in
theorem gX1_countSeen_X1_sumOver : GoodIn wsX1_countSeen (wsV RX1 98 RX1 yX1_sumOver wsX1_sumOver) := goodIn_app (goodIn_of _ (by decide +kernel)) ggX1_countSeen_X1_sumOver
set_option maxRecDepth 20000 in
theorem ggX1_countSeen_X1_next : GoodIn wsX1_countSeen wsX1_next := goodIn_r _ [44, 2, 48, 49, 50, 51, 52] (by decide +kernel) (by decide +kernel)
set_option maxRecDepth 20000 in
theorem gX1_countSeen_X1_next : GoodIn wsX1_countSeen (wsV RX1 95 RX1 yX1_next wsX1_next) := goodIn_app (goodIn_of _ (by decide +kernel)) ggX1_countSeen_X1_next
set_option maxRecDepth 20000 in
theorem ggX1_countSeen_X1_mean : GoodIn wsX1_countSeen wsX1_mean := goodIn_r _ [47] (by decide +kernel) (by decide +kernel)
set_option maxRecDepth 20000 in
theorem gX1_countSeen_X1_mean : GoodIn wsX1_countSeen (va_wsS RX1 101 yX1_mean wsX1_mean) := goodIn_app (goodIn_of _ (by decide +kernel)) ggX1_countSeen_X1_mean
set_option maxRecDepth 20000 in
theorem ggX1_countSeen_X1_shine : GoodIn wsX1_countSeen wsX1_shine := goodIn_r _ [34, 35, 2, 36, 4, 37, 38, 39, 25, 40, 48, 49, 50, 51, 52] (by decide +kernel) (by decide +kernel)
set_option maxRecDepth 20000 in
theorem gX1_countSeen_X1_shine : GoodIn wsX1_countSeen (wsV RX1 92 RX1 yX1_shine wsX1_shine) := goodIn_app (goodIn_of _ (by decide +kernel)) ggX1_countSeen_X1_shine
theorem dX1_countSeen_0 : decode cX1_countSeen 0 = .ok (.aload_n 0, 1) := by decide +kernel
theorem dX1_countSeen_1 : decode cX1_countSeen 1 = .ok (.getfield 18, 3) := by decide +kernel
theorem dX1_countSeen_4 : decode cX1_countSeen 4 = .ok (.iconst 1, 1) := by decide +kernel
theorem dX1_countSeen_5 : decode cX1_countSeen 5 = .ok (.laload, 1) := by decide +kernel
theorem dX1_countSeen_6 : decode cX1_countSeen 6 = .ok (.iload_n 1, 1) := by decide +kernel
theorem dX1_countSeen_7 : decode cX1_countSeen 7 = .ok (.invokestatic 64, 3) := by decide +kernel
theorem dX1_countSeen_10 : decode cX1_countSeen 10 = .ok (.iconst 1, 1) := by decide +kernel
theorem dX1_countSeen_11 : decode cX1_countSeen 11 = .ok (.if_icmp .ne 7, 3) := by decide +kernel
theorem dX1_countSeen_14 : decode cX1_countSeen 14 = .ok (.iconst (-1), 1) := by decide +kernel
theorem dX1_countSeen_15 : decode cX1_countSeen 15 = .ok (.goto 4, 3) := by decide +kernel
theorem dX1_countSeen_18 : decode cX1_countSeen 18 = .ok (.iconst 1, 1) := by decide +kernel
theorem dX1_countSeen_19 : decode cX1_countSeen 19 = .ok (.istore_n 3, 1) := by decide +kernel
theorem dX1_countSeen_20 : decode cX1_countSeen 20 = .ok (.aload_n 0, 1) := by decide +kernel
theorem dX1_countSeen_21 : decode cX1_countSeen 21 = .ok (.getfield 22, 3) := by decide +kernel
theorem dX1_countSeen_24 : decode cX1_countSeen 24 = .ok (.iconst 4, 1) := by decide +kernel
theorem dX1_countSeen_25 : decode cX1_countSeen 25 = .ok (.iaload, 1) := by decide +kernel
theorem dX1_countSeen_26 : decode cX1_countSeen 26 = .ok (.istore 4, 2) := by decide +kernel
theorem dX1_countSeen_28 : decode cX1_countSeen 28 = .ok (.aload_n 0, 1) := by decide +kernel
theorem dX1_countSeen_29 : decode cX1_countSeen 29 = .ok (.iload_n 1, 1) := by decide +kernel
theorem dX1_countSeen_30 : decode cX1_countSeen 30 = .ok (.invokevirtual 89, 3) := by decide +kernel
theorem dX1_countSeen_33 : decode cX1_countSeen 33 = .ok (.istore 5, 2) := by decide +kernel
theorem dX1_countSeen_35 : decode cX1_countSeen 35 = .ok (.aload_n 0, 1) := by decide +kernel
theorem dX1_countSeen_36 : decode cX1_countSeen 36 = .ok (.iload_n 1, 1) := by decide +kernel
theorem dX1_countSeen_37 : decode cX1_countSeen 37 = .ok (.iconst 0, 1) := by decide +kernel
theorem dX1_countSeen_38 : decode cX1_countSeen 38 = .ok (.iload 4, 2) := by decide +kernel
theorem dX1_countSeen_40 : decode cX1_countSeen 40 = .ok (.invokevirtual 98, 3) := by decide +kernel
theorem dX1_countSeen_43 : decode cX1_countSeen 43 = .ok (.istore 6, 2) := by decide +kernel
theorem dX1_countSeen_45 : decode cX1_countSeen 45 = .ok (.iconst 0, 1) := by decide +kernel
theorem dX1_countSeen_46 : decode cX1_countSeen 46 = .ok (.istore 7, 2) := by decide +kernel
theorem dX1_countSeen_48 : decode cX1_countSeen 48 = .ok (.iconst 0, 1) := by decide +kernel
theorem dX1_countSeen_49 : decode cX1_countSeen 49 = .ok (.istore 8, 2) := by decide +kernel
theorem dX1_countSeen_51 : decode cX1_countSeen 51 = .ok (.iload 8, 2) := by decide +kernel
theorem dX1_countSeen_53 : decode cX1_countSeen 53 = .ok (.iload 4, 2) := by decide +kernel
theorem dX1_countSeen_55 : decode cX1_countSeen 55 = .ok (.if_icmp .ge 17, 3) := by decide +kernel
theorem dX1_countSeen_58 : decode cX1_countSeen 58 = .ok (.aload_n 0, 1) := by decide +kernel
theorem dX1_countSeen_59 : decode cX1_countSeen 59 = .ok (.iload 7, 2) := by decide +kernel
theorem dX1_countSeen_61 : decode cX1_countSeen 61 = .ok (.invokevirtual 95, 3) := by decide +kernel
theorem dX1_countSeen_64 : decode cX1_countSeen 64 = .ok (.istore 7, 2) := by decide +kernel
theorem dX1_countSeen_66 : decode cX1_countSeen 66 = .ok (.iinc 8 1, 3) := by decide +kernel
theorem dX1_countSeen_69 : decode cX1_countSeen 69 = .ok (.goto (-18), 3) := by decide +kernel
theorem dX1_countSeen_72 : decode cX1_countSeen 72 = .ok (.iconst 0, 1) := by decide +kernel
theorem dX1_countSeen_73 : decode cX1_countSeen 73 = .ok (.istore 8, 2) := by decide +kernel
theorem dX1_countSeen_75 : decode cX1_countSeen 75 = .ok (.iload 8, 2) := by decide +kernel
theorem dX1_countSeen_77 : decode cX1_countSeen 77 = .ok (.aload_n 0, 1) := by decide +kernel
theorem dX1_countSeen_78 : decode cX1_countSeen 78 = .ok (.getfield 22, 3) := by decide +kernel
theorem dX1_countSeen_81 : decode cX1_countSeen 81 = .ok (.iconst 0, 1) := by decide +kernel
theorem dX1_countSeen_82 : decode cX1_countSeen 82 = .ok (.iaload, 1) := by decide +kernel
theorem dX1_countSeen_83 : decode cX1_countSeen 83 = .ok (.if_icmp .ge 72, 3) := by decide +kernel
theorem dX1_countSeen_86 : decode cX1_countSeen 86 = .ok (.iload 8, 2) := by decide +kernel
theorem dX1_countSeen_88 : decode cX1_countSeen 88 = .ok (.aload_n 2, 1) := by decide +kernel
theorem dX1_countSeen_89 : decode cX1_countSeen 89 = .ok (.arraylength, 1) := by decide +kernel
theorem dX1_countSeen_90 : decode cX1_countSeen 90 = .ok (.if_icmp .ge 65, 3) := by decide +kernel
theorem dX1_countSeen_93 : decode cX1_countSeen 93 = .ok (.iload 6, 2) := by decide +kernel
theorem dX1_countSeen_95 : decode cX1_countSeen 95 = .ok (.iload 4, 2) := by decide +kernel
theorem dX1_countSeen_97 : decode cX1_countSeen 97 = .ok (.invokestatic 101, 3) := by decide +kernel
theorem dX1_countSeen_100 : decode cX1_countSeen 100 = .ok (.aload_n 0, 1) := by decide +kernel
theorem dX1_countSeen_101 : decode cX1_countSeen 101 = .ok (.getfield 22, 3) := by decide +kernel
theorem dX1_countSeen_104 : decode cX1_countSeen 104 = .ok (.iconst 5, 1) := by decide +kernel
theorem dX1_countSeen_105 : decode cX1_countSeen 105 = .ok (.iaload, 1) := by decide +kernel
theorem dX1_countSeen_106 : decode cX1_countSeen 106 = .ok (.if_icmp .lt 11, 3) := by decide +kernel
theorem dX1_countSeen_109 : decode cX1_countSeen 109 = .ok (.aload_n 2, 1) := by decide +kernel
theorem dX1_countSeen_110 : decode cX1_countSeen 110 = .ok (.iload 8, 2) := by decide +kernel
theorem dX1_countSeen_112 : decode cX1_countSeen 112 = .ok (.dup2, 1) := by decide +kernel
theorem dX1_countSeen_113 : decode cX1_countSeen 113 = .ok (.iaload, 1) := by decide +kernel
theorem dX1_countSeen_114 : decode cX1_countSeen 114 = .ok (.iload_n 3, 1) := by decide +kernel
theorem dX1_countSeen_115 : decode cX1_countSeen 115 = .ok (.iadd, 1) := by decide +kernel
theorem dX1_countSeen_116 : decode cX1_countSeen 116 = .ok (.iastore, 1) := by decide +kernel
theorem dX1_countSeen_117 : decode cX1_countSeen 117 = .ok (.iload 6, 2) := by decide +kernel
theorem dX1_countSeen_119 : decode cX1_countSeen 119 = .ok (.aload_n 0, 1) := by decide +kernel
theorem dX1_countSeen_120 : decode cX1_countSeen 120 = .ok (.iload_n 1, 1) := by decide +kernel
theorem dX1_countSeen_121 : decode cX1_countSeen 121 = .ok (.iload 5, 2) := by decide +kernel
theorem dX1_countSeen_123 : decode cX1_countSeen 123 = .ok (.iload 7, 2) := by decide +kernel
theorem dX1_countSeen_125 : decode cX1_countSeen 125 = .ok (.invokevirtual 92, 3) := by decide +kernel
theorem dX1_countSeen_128 : decode cX1_countSeen 128 = .ok (.aload_n 0, 1) := by decide +kernel
theorem dX1_countSeen_129 : decode cX1_countSeen 129 = .ok (.iload_n 1, 1) := by decide +kernel
theorem dX1_countSeen_130 : decode cX1_countSeen 130 = .ok (.iload 5, 2) := by decide +kernel
theorem dX1_countSeen_132 : decode cX1_countSeen 132 = .ok (.iload 8, 2) := by decide +kernel
theorem dX1_countSeen_134 : decode cX1_countSeen 134 = .ok (.invokevirtual 92, 3) := by decide +kernel
theorem dX1_countSeen_137 : decode cX1_countSeen 137 = .ok (.isub, 1) := by decide +kernel
theorem dX1_countSeen_138 : decode cX1_countSeen 138 = .ok (.iadd, 1) := by decide +kernel
theorem dX1_countSeen_139 : decode cX1_countSeen 139 = .ok (.istore 6, 2) := by decide +kernel
theorem dX1_countSeen_141 : decode cX1_countSeen 141 = .ok (.aload_n 0, 1) := by decide +kernel
theorem dX1_countSeen_142 : decode cX1_countSeen 142 = .ok (.iload 7, 2) := by decide +kernel
theorem dX1_countSeen_144 : decode cX1_countSeen 144 = .ok (.invokevirtual 95, 3) := by decide +kernel
theorem dX1_countSeen_147 : decode cX1_countSeen 147 = .ok (.istore 7, 2) := by decide +kernel
theorem dX1_countSeen_149 : decode cX1_countSeen 149 = .ok (.iinc 8 1, 3) := by decide +kernel
theorem dX1_countSeen_152 : decode cX1_countSeen 152 = .ok (.goto (-77), 3) := by decide +kernel
theorem dX1_countSeen_155 : decode cX1_countSeen 155 = .ok (.return_, 1) := by decide +kernel
set_option maxRecDepth 20000 in
theorem ggX2_init_X1_init : GoodIn wsX2_init wsX1_init := goodIn_r _ [12, 13, 2, 3, 14, 15, 16, 17, 18, 19, 20, 21, 22, 23, 24] (by decide +kernel) (by decide +kernel)
set_option maxRecDepth 20000 in
theorem gX2_init_X1_init_n11 : GoodIn wsX2_init (wsX1_init) := ggX2_init_X1_init
theorem dX2_init_0 : decode cX2_init 0 = .ok (.aload_n 0, 1) := by decide +kernel
theorem dX2_init_1 : decode cX2_init 1 = .ok (.invokespecial 3, 3) := by decide +kernel
theorem dX2_init_4 : decode cX2_init 4 = .ok (.aload_n 0, 1) := by decide +kernel
theorem dX2_init_5 : decode cX2_init 5 = .ok (.new 9, 3) := by decide +kernel
theorem dX2_init_8 : decode cX2_init 8 = .ok (.dup, 1) := by decide +kernel
theorem dX2_init_9 : decode cX2_init 9 = .ok (.invokespecial 11, 3) := by decide +kernel
theorem dX2_init_12 : decode cX2_init 12 = .ok (.putfield 12, 3) := by decide +kernel
theorem dX2_init_15 : decode cX2_init 15 = .ok (.aload_n 0, 1) := by decide +kernel
theorem dX2_init_16 : decode cX2_init 16 = .ok (.iconst 2, 1) := by decide +kernel
theorem dX2_init_17 : decode cX2_init 17 = .ok (.anewarray 9, 3) := by decide +kernel
theorem dX2_init_20 : decode cX2_init 20 = .ok (.putfield 18, 3) := by decide +kernel
theorem dX2_init_23 : decode cX2_init 23 = .ok (.iconst 0, 1) := by decide +kernel
theorem dX2_init_24 : decode cX2_init 24 = .ok (.istore_n 1, 1) := by decide +kernel
theorem dX2_init_25 : decode cX2_init 25 = .ok (.iload_n 1, 1) := by decide +kernel
theorem dX2_init_26 : decode cX2_init 26 = .ok (.iconst 2, 1) := by decide +kernel
theorem dX2_init_27 : decode cX2_init 27 = .ok (.if_icmp .ge 22, 3) := by decide +kernel
theorem dX2_init_30 : decode cX2_init 30 = .ok (.aload_n 0, 1) := by decide +kernel
theorem dX2_init_31 : decode cX2_init 31 = .ok (.getfield 18, 3) := by decide +kernel
theorem dX2_init_34 : decode cX2_init 34 = .ok (.iload_n 1, 1) := by decide +kernel
theorem dX2_init_35 : decode cX2_init 35 = .ok (.new 9, 3) := by decide +kernel
theorem dX2_init_38 : decode cX2_init 38 = .ok (.dup, 1) := by decide +kernel
theorem dX2_init_39 : decode cX2_init 39 = .ok (.invokespecial 11, 3) := by decide +kernel
theorem dX2_init_42 : decode cX2_init 42 = .ok (.aastore, 1) := by decide +kernel
theorem dX2_init_43 : decode cX2_init 43 = .ok (.iinc 1 1, 3) := by decide +kernel
theorem dX2_init_46 : decode cX2_init 46 = .ok (.goto (-21), 3) := by decide +kernel
theorem dX2_init_49 : decode cX2_init 49 = .ok (.aload_n 0, 1) := by decide +kernel
theorem dX2_init_50 : decode cX2_init 50 = .ok (.iconst 2, 1) := by decide +kernel
theorem dX2_init_51 : decode cX2_init 51 = .ok (.newarray .boolean, 2) := by decide +kernel
theorem dX2_init_53 : decode cX2_init 53 = .ok (.putfield 22, 3) := by decide +kernel
theorem dX2_init_56 : decode cX2_init 56 = .ok (.return_, 1) := by decide +kernel
set_option maxRecDepth 20000 in
theorem ggX2_copyFrom_X1_copyFrom : GoodIn wsX2_copyFrom wsX1_copyFrom := goodIn_r _ [8, 9, 10, 11, 12, 13, 14, 15, 16, 17, 21, 22, 23, 24, 25] (by decide +kernel) (by decide +kernel)
set_option maxRecDepth 20000 in
theorem gX2_copyFrom_X1_copyFrom : GoodIn wsX2_copyFrom (wsV RX2 26 RX1 yX1_copyFrom wsX1_copyFrom) := goodIn_app (goodIn_of _ (by decide +kernel)) ggX2_copyFrom_X1_copyFrom
theorem dX2_copyFrom_0 : decode cX2_copyFrom 0 = .ok (.aload_n 0, 1) := by decide +kernel
theorem dX2_copyFrom_1 : decode cX2_copyFrom 1 = .ok (.getfield 12, 3) := by decide +kernel
theorem dX2_copyFrom_4 : decode cX2_copyFrom 4 = .ok (.aload_n 1, 1) := by decide +kernel
theorem dX2_copyFrom_5 : decode cX2_copyFrom 5 = .ok (.getfield 12, 3) := by decide +kernel
theorem dX2_copyFrom_8 : decode cX2_copyFrom 8 = .ok (.invokevirtual 26, 3) := by decide +kernel
theorem dX2_copyFrom_11 : decode cX2_copyFrom 11 = .ok (.iconst 0, 1) := by decide +kernel
theorem dX2_copyFrom_12 : decode cX2_copyFrom 12 = .ok (.istore_n 2, 1) := by decide +kernel
theorem dX2_copyFrom_13 : decode cX2_copyFrom 13 = .ok (.iload_n 2, 1) := by decide +kernel
theorem dX2_copyFrom_14 : decode cX2_copyFrom 14 = .ok (.iconst 2, 1) := by decide +kernel
theorem dX2_copyFrom_15 : decode cX2_copyFrom 15 = .ok (.if_icmp .ge 36, 3) := by decide +kernel
theorem dX2_copyFrom_18 : decode cX2_copyFrom 18 = .ok (.aload_n 0, 1) := by decide +kernel
theorem dX2_copyFrom_19 : decode cX2_copyFrom 19 = .ok (.getfield 18, 3) := by decide +kernel
theorem dX2_copyFrom_22 : decode cX2_copyFrom 22 = .ok (.iload_n 2, 1) := by decide +kernel
theorem dX2_copyFrom_23 : decode cX2_copyFrom 23 = .ok (.aaload, 1) := by decide +kernel
theorem dX2_copyFrom_24 : decode cX2_copyFrom 24 = .ok (.aload_n 1, 1) := by decide +kernel
theorem dX2_copyFrom_25 : decode cX2_copyFrom 25 = .ok (.getfield 18, 3) := by decide +kernel
theorem dX2_copyFrom_28 : decode cX2_copyFrom 28 = .ok (.iload_n 2, 1) := by decide +kernel
theorem dX2_copyFrom_29 : decode cX2_copyFrom 29 = .ok (.aaload, 1) := by decide +kernel
theorem dX2_copyFrom_30 : decode cX2_copyFrom 30 = .ok (.invokevirtual 26, 3) := by decide +kernel
theorem dX2_copyFrom_33 : decode cX2_copyFrom 33 = .ok (.aload_n 0, 1) := by decide +kernel
theorem dX2_copyFrom_34 : decode cX2_copyFrom 34 = .ok (.getfield 22, 3) := by decide +kernel
theorem dX2_copyFrom_37 : decode cX2_copyFrom 37 = .ok (.iload_n 2, 1) := by decide +kernel
theorem dX2_copyFrom_38 : decode cX2_copyFrom 38 = .ok (.aload_n 1, 1) := by decide +kernel
theorem dX2_copyFrom_39 : decode cX2_copyFrom 39 = .ok (.getfield 22, 3) := by decide +kernel
theorem dX2_copyFrom_42 : decode cX2_copyFrom 42 = .ok (.iload_n 2, 1) := by decide +kernel
theorem dX2_copyFrom_43 : decode cX2_copyFrom 43 = .ok (.baload, 1) := by decide +kernel
theorem dX2_copyFrom_44 : decode cX2_copyFrom 44 = .ok (.bastore, 1) := by decide +kernel
theorem dX2_copyFrom_45 : decode cX2_copyFrom 45 = .ok (.iinc 2 1, 3) := by decide +kernel
theorem dX2_copyFrom_48 : decode cX2_copyFrom 48 = .ok (.goto (-35), 3) := by decide +kernel
theorem dX2_copyFrom_51 : decode cX2_copyFrom 51 = .ok (.return_, 1) := by decide +kernel
theorem dX2_isSlot_0 : decode cX2_isSlot 0 = .ok (.iload_n 0, 1) := by decide +kernel
theorem dX2_isSlot_1 : decode cX2_isSlot 1 = .ok (.ifCond .lt 12, 3) := by decide +kernel
theorem dX2_isSlot_4 : decode cX2_isSlot 4 = .ok (.iload_n 0, 1) := by decide +kernel
theorem dX2_isSlot_5 : decode cX2_isSlot 5 = .ok (.iconst 2, 1) := by decide +kernel
theorem dX2_isSlot_6 : decode cX2_isSlot 6 = .ok (.if_icmp .ge 7, 3) := by decide +kernel
theorem dX2_isSlot_9 : decode cX2_isSlot 9 = .ok (.iconst 1, 1) := by decide +kernel
theorem dX2_isSlot_10 : decode cX2_isSlot 10 = .ok (.goto 4, 3) := by decide +kernel
theorem dX2_isSlot_13 : decode cX2_isSlot 13 = .ok (.iconst 0, 1) := by decide +kernel
theorem dX2_isSlot_14 : decode cX2_isSlot 14 = .ok (.ireturn, 1) := by decide +kernel
set_option maxRecDepth 20000 in
theorem ggX2_keepSnapshot_X2_isSlot : GoodIn wsX2_keepSnapshot wsX2_isSlot := goodIn_r _ [8] (by decide +kernel) (by decide +kernel)
set_option maxRecDepth 20000 in
theorem gX2_keepSnapshot_X2_isSlot : GoodIn wsX2_keepSnapshot (va_wsS RX2 30 yX2_isSlot wsX2_isSlot) := goodIn_app (goodIn_of _ (by decide +kernel)) ggX2_keepSnapshot_X2_isSlot
set_option maxRecDepth 20000 in
theorem ggX2_keepSnapshot_X1_copyFrom : GoodIn wsX2_keepSnapshot wsX1_copyFrom := goodIn_r _ [13, 14, 15, 16, 17, 18, 19, 20, 21, 22, 26, 27, 28, 29, 30] (by decide +kernel) (by decide +kernel)
set_option maxRecDepth 20000 in
theorem gX2_keepSnapshot_X1_copyFrom : GoodIn wsX2_keepSnapshot (wsV RX2 26 RX1 yX1_copyFrom wsX1_copyFrom) := goodIn_app (goodIn_of _ (by decide +kernel)) ggX2_keepSnapshot_X1_copyFrom
theorem dX2_keepSnapshot_0 : decode cX2_keepSnapshot 0 = .ok (.iload_n 1, 1) := by decide +kernel
theorem dX2_keepSnapshot_1 : decode cX2_keepSnapshot 1 = .ok (.invokestatic 30, 3) := by decide +kernel
theorem dX2_keepSnapshot_4 : decode cX2_keepSnapshot 4 = .ok (.ifCond .ne 5, 3) := by decide +kernel
theorem dX2_keepSnapshot_7 : decode cX2_keepSnapshot 7 = .ok (.iconst (-1), 1) := by decide +kernel
theorem dX2_keepSnapshot_8 : decode cX2_keepSnapshot 8 = .ok (.ireturn, 1) := by decide +kernel
theorem dX2_keepSnapshot_9 : decode cX2_keepSnapshot 9 = .ok (.aload_n 0, 1) := by decide +kernel
theorem dX2_keepSnapshot_10 : decode cX2_keepSnapshot 10 = .ok (.getfield 18, 3) := by decide +kernel
theorem dX2_keepSnapshot_13 : decode cX2_keepSnapshot 13 = .ok (.iload_n 1, 1) := by decide +kernel
theorem dX2_keepSnapshot_14 : decode cX2_keepSnapshot 14 = .ok (.aaload, 1) := by decide +kernel
theorem dX2_keepSnapshot_15 : decode cX2_keepSnapshot 15 = .ok (.aload_n 0, 1) := by decide +kernel
theorem dX2_keepSnapshot_16 : decode cX2_keepSnapshot 16 = .ok (.getfield 12, 3) := by decide +kernel
theorem dX2_keepSnapshot_19 : decode cX2_keepSnapshot 19 = .ok (.invokevirtual 26, 3) := by decide +kernel
theorem dX2_keepSnapshot_22 : decode cX2_keepSnapshot 22 = .ok (.aload_n 0, 1) := by decide +kernel
theorem dX2_keepSnapshot_23 : decode cX2_keepSnapshot 23 = .ok (.getfield 22, 3) := by decide +kernel
theorem dX2_keepSnapshot_26 : decode cX2_keepSnapshot 26 = .ok (.iload_n 1, 1) := by decide +kernel
theorem dX2_keepSnapshot_27 : decode cX2_keepSnapshot 27 = .ok (.iconst 1, 1) := by decide +kernel
theorem dX2_keepSnapshot_28 : decode cX2_keepSnapshot 28 = .ok (.bastore, 1) := by decide +kernel
theorem dX2_keepSnapshot_29 : decode cX2_keepSnapshot 29 = .ok (.aload_n 0, 1) := by decide +kernel
theorem dX2_keepSnapshot_30 : decode cX2_keepSnapshot 30 = .ok (.getfield 12, 3) := by decide +kernel
theorem dX2_keepSnapshot_33 : decode cX2_keepSnapshot 33 = .ok (.getfield 34, 3) := by decide +kernel
theorem dX2_keepSnapshot_36 : decode cX2_keepSnapshot 36 = .ok (.ireturn, 1) := by decide +kernel
set_option maxRecDepth 20000 in
theorem ggX2_showSnapshot_X2_isSlot : GoodIn wsX2_showSnapshot wsX2_isSlot := goodIn_r _ [8] (by decide +kernel) (by decide +kernel)
set_option maxRecDepth 20000 in
theorem gX2_showSnapshot_X2_isSlot : GoodIn wsX2_showSnapshot (va_wsS RX2 30 yX2_isSlot wsX2_isSlot) := goodIn_app (goodIn_of _ (by decide +kernel)) ggX2_showSnapshot_X2_isSlot
set_option maxRecDepth 20000 in
theorem ggX2_showSnapshot_X1_copyFrom : GoodIn wsX2_showSnapshot wsX1_copyFrom := goodIn_r _ [13, 14, 15, 16, 17, 18, 19, 20, 21, 22, 26, 27, 28, 29, 30] (by decide +kernel) (by decide +kernel)
set_option maxRecDepth 20000 in
theorem gX2_showSnapshot_X1_copyFrom : GoodIn wsX2_showSnapshot (wsV RX2 26 RX1 yX1_copyFrom wsX1_copyFrom) := goodIn_app (goodIn_of _ (by decide +kernel)) ggX2_showSnapshot_X1_copyFrom
theorem dX2_showSnapshot_0 : decode cX2_showSnapshot 0 = .ok (.iload_n 1, 1) := by decide +kernel
theorem dX2_showSnapshot_1 : decode cX2_showSnapshot 1 = .ok (.invokestatic 30, 3) := by decide +kernel
theorem dX2_showSnapshot_4 : decode cX2_showSnapshot 4 = .ok (.ifCond .ne 5, 3) := by decide +kernel
theorem dX2_showSnapshot_7 : decode cX2_showSnapshot 7 = .ok (.iconst (-1), 1) := by decide +kernel
theorem dX2_showSnapshot_8 : decode cX2_showSnapshot 8 = .ok (.ireturn, 1) := by decide +kernel
theorem dX2_showSnapshot_9 : decode cX2_showSnapshot 9 = .ok (.aload_n 0, 1) := by decide +kernel
theorem dX2_showSnapshot_10 : decode cX2_showSnapshot 10 = .ok (.getfield 22, 3) := by decide +kernel
theorem dX2_showSnapshot_13 : decode cX2_showSnapshot 13 = .ok (.iload_n 1, 1) := by decide +kernel
theorem dX2_showSnapshot_14 : decode cX2_showSnapshot 14 = .ok (.baload, 1) := by decide +kernel
theorem dX2_showSnapshot_15 : decode cX2_showSnapshot 15 = .ok (.ifCond .ne 6, 3) := by decide +kernel
theorem dX2_showSnapshot_18 : decode cX2_showSnapshot 18 = .ok (.bipush (-2), 2) := by decide +kernel
theorem dX2_showSnapshot_20 : decode cX2_showSnapshot 20 = .ok (.ireturn, 1) := by decide +kernel
theorem dX2_showSnapshot_21 : decode cX2_showSnapshot 21 = .ok (.aload_n 0, 1) := by decide +kernel
theorem dX2_showSnapshot_22 : decode cX2_showSnapshot 22 = .ok (.getfield 12, 3) := by decide +kernel
theorem dX2_showSnapshot_25 : decode cX2_showSnapshot 25 = .ok (.aload_n 0, 1) := by decide +kernel
theorem dX2_showSnapshot_26 : decode cX2_showSnapshot 26 = .ok (.getfield 18, 3) := by decide +kernel
theorem dX2_showSnapshot_29 : decode cX2_showSnapshot 29 = .ok (.iload_n 1, 1) := by decide +kernel
theorem dX2_showSnapshot_30 : decode cX2_showSnapshot 30 = .ok (.aaload, 1) := by decide +kernel
theorem dX2_showSnapshot_31 : decode cX2_showSnapshot 31 = .ok (.invokevirtual 26, 3) := by decide +kernel
theorem dX2_showSnapshot_34 : decode cX2_showSnapshot 34 = .ok (.aload_n 0, 1) := by decide +kernel
theorem dX2_showSnapshot_35 : decode cX2_showSnapshot 35 = .ok (.getfield 12, 3) := by decide +kernel
theorem dX2_showSnapshot_38 : decode cX2_showSnapshot 38 = .ok (.getfield 34, 3) := by decide +kernel
theorem dX2_showSnapshot_41 : decode cX2_showSnapshot 41 = .ok (.ireturn, 1) := by decide +kernel
theorem dX2_snapshots_0 : decode cX2_snapshots 0 = .ok (.iconst 0, 1) := by decide +kernel
theorem dX2_snapshots_1 : decode cX2_snapshots 1 = .ok (.istore_n 1, 1) := by decide +kernel
theorem dX2_snapshots_2 : decode cX2_snapshots 2 = .ok (.iconst 0, 1) := by decide +kernel
theorem dX2_snapshots_3 : decode cX2_snapshots 3 = .ok (.istore_n 2, 1) := by decide +kernel
theorem dX2_snapshots_4 : decode cX2_snapshots 4 = .ok (.iload_n 2, 1) := by decide +kernel
theorem dX2_snapshots_5 : decode cX2_snapshots 5 = .ok (.iconst 2, 1) := by decide +kernel
theorem dX2_snapshots_6 : decode cX2_snapshots 6 = .ok (.if_icmp .ge 26, 3) := by decide +kernel
theorem dX2_snapshots_9 : decode cX2_snapshots 9 = .ok (.iload_n 1, 1) := by decide +kernel
theorem dX2_snapshots_10 : decode cX2_snapshots 10 = .ok (.aload_n 0, 1) := by decide +kernel
theorem dX2_snapshots_11 : decode cX2_snapshots 11 = .ok (.getfield 22, 3) := by decide +kernel
theorem dX2_snapshots_14 : decode cX2_snapshots 14 = .ok (.iload_n 2, 1) := by decide +kernel
theorem dX2_snapshots_15 : decode cX2_snapshots 15 = .ok (.baload, 1) := by decide +kernel
theorem dX2_snapshots_16 : decode cX2_snapshots 16 = .ok (.ifCond .eq 7, 3) := by decide +kernel
theorem dX2_snapshots_19 : decode cX2_snapshots 19 = .ok (.iconst 1, 1) := by decide +kernel
theorem dX2_snapshots_20 : decode cX2_snapshots 20 = .ok (.goto 4, 3) := by decide +kernel
theorem dX2_snapshots_23 : decode cX2_snapshots 23 = .ok (.iconst 0, 1) := by decide +kernel
theorem dX2_snapshots_24 : decode cX2_snapshots 24 = .ok (.iadd, 1) := by decide +kernel
theorem dX2_snapshots_25 : decode cX2_snapshots 25 = .ok (.istore_n 1, 1) := by decide +kernel
theorem dX2_snapshots_26 : decode cX2_snapshots 26 = .ok (.iinc 2 1, 3) := by decide +kernel
theorem dX2_snapshots_29 : decode cX2_snapshots 29 = .ok (.goto (-25), 3) := by decide +kernel
theorem dX2_snapshots_32 : decode cX2_snapshots 32 = .ok (.iload_n 1, 1) := by decide +kernel
theorem dX2_snapshots_33 : decode cX2_snapshots 33 = .ok (.ireturn, 1) := by decide +kernel
theorem dX3_init_0 : decode cX3_init 0 = .ok (.aload_n 0, 1) := by decide +kernel
theorem dX3_init_1 : decode cX3_init 1 = .ok (.invokespecial 3, 3) := by decide +kernel
theorem dX3_init_4 : decode cX3_init 4 = .ok (.aload_n 0, 1) := by decide +kernel
theorem dX3_init_5 : decode cX3_init 5 = .ok (.bipush 12, 2) := by decide +kernel
theorem dX3_init_7 : decode cX3_init 7 = .ok (.newarray .int, 2) := by decide +kernel
theorem dX3_init_9 : decode cX3_init 9 = .ok (.putfield 9, 3) := by decide +kernel
theorem dX3_init_12 : decode cX3_init 12 = .ok (.aload_n 0, 1) := by decide +kernel
theorem dX3_init_13 : decode cX3_init 13 = .ok (.ldc 15, 2) := by decide +kernel
theorem dX3_init_15 : decode cX3_init 15 = .ok (.newarray .int, 2) := by decide +kernel
theorem dX3_init_17 : decode cX3_init 17 = .ok (.putfield 16, 3) := by decide +kernel
theorem dX3_init_20 : decode cX3_init 20 = .ok (.aload_n 0, 1) := by decide +kernel
theorem dX3_init_21 : decode cX3_init 21 = .ok (.bipush 12, 2) := by decide +kernel
theorem dX3_init_23 : decode cX3_init 23 = .ok (.newarray .int, 2) := by decide +kernel
theorem dX3_init_25 : decode cX3_init 25 = .ok (.putfield 19, 3) := by decide +kernel
theorem dX3_init_28 : decode cX3_init 28 = .ok (.return_, 1) := by decide +kernel
set_option maxRecDepth 20000 in
theorem ggX3_plan_X3_listSpots : GoodIn wsX3_plan wsX3_listSpots := goodIn_r _ [6, 7, 1, 8, 9, 10, 11, 41, 42, 43, 44, 45, 46] (by decide +kernel) (by decide +kernel)
set_option maxRecDepth 20000 in
theorem gX3_plan_X3_listSpots : GoodIn wsX3_plan (wsV RX3 26 RX3 yX3_listSpots wsX3_listSpots) := goodIn_app (goodIn_of _ (by decide +kernel)) ggX3_plan_X3_listSpots
set_option maxRecDepth 20000 in
theorem ggX3_plan_X3_fillRest : GoodIn wsX3_plan wsX3_fillRest := goodIn_r _ [15, 7, 16, 8, 17, 18, 19, 5, 20, 21, 22, 23, 24, 25, 26, 27, 28, 29, 10, 30, 31, 32, 33, 34, 41, 42, 43, 44, 45, 46] (by decide +kernel) (by decide +kernel)
set_option maxRecDepth 20000 in
theorem gX3_plan_X3_fillRest : GoodIn wsX3_plan (wsV RX3 29 RX3 yX3_fillRest wsX3_fillRest) := goodIn_app (goodIn_of _ (by decide +kernel)) ggX3_plan_X3_fillRest
set_option maxRecDepth 20000 in
theorem ggX3_plan_X3_follow : GoodIn wsX3_plan wsX3_follow := goodIn_r _ [38, 39, 7, 40, 8, 21, 22, 23, 5, 24, 25, 26, 27, 28, 16, 29, 10, 30, 31, 32, 33, 34, 41, 42, 43, 44, 45, 46] (by decide +kernel) (by decide +kernel)
set_option maxRecDepth 20000 in
theorem gX3_plan_X3_follow : GoodIn wsX3_plan (wsV RX3 32 RX3 yX3_follow wsX3_follow) := goodIn_app (goodIn_of _ (by decide +kernel)) ggX3_plan_X3_follow
theorem dX3_plan_0 : decode cX3_plan 0 = .ok (.lload_n 1, 1) := by decide +kernel
theorem dX3_plan_1 : decode cX3_plan 1 = .ok (.aload_n 0, 1) := by decide +kernel
theorem dX3_plan_2 : decode cX3_plan 2 = .ok (.getfield 22, 3) := by decide +kernel
theorem dX3_plan_5 : decode cX3_plan 5 = .ok (.lcmp, 1) := by decide +kernel
theorem dX3_plan_6 : decode cX3_plan 6 = .ok (.ifCond .ne 4, 3) := by decide +kernel
theorem dX3_plan_9 : decode cX3_plan 9 = .ok (.return_, 1) := by decide +kernel
theorem dX3_plan_10 : decode cX3_plan 10 = .ok (.aload_n 0, 1) := by decide +kernel
theorem dX3_plan_11 : decode cX3_plan 11 = .ok (.lload_n 1, 1) := by decide +kernel
theorem dX3_plan_12 : decode cX3_plan 12 = .ok (.putfield 22, 3) := by decide +kernel
theorem dX3_plan_15 : decode cX3_plan 15 = .ok (.aload_n 0, 1) := by decide +kernel
theorem dX3_plan_16 : decode cX3_plan 16 = .ok (.invokevirtual 26, 3) := by decide +kernel
theorem dX3_plan_19 : decode cX3_plan 19 = .ok (.aload_n 0, 1) := by decide +kernel
theorem dX3_plan_20 : decode cX3_plan 20 = .ok (.invokevirtual 29, 3) := by decide +kernel
theorem dX3_plan_23 : decode cX3_plan 23 = .ok (.aload_n 0, 1) := by decide +kernel
theorem dX3_plan_24 : decode cX3_plan 24 = .ok (.invokevirtual 32, 3) := by decide +kernel
theorem dX3_plan_27 : decode cX3_plan 27 = .ok (.return_, 1) := by decide +kernel
theorem dX3_sumOfWays_0 : decode cX3_sumOfWays 0 = .ok (.aload_n 0, 1) := by decide +kernel
theorem dX3_sumOfWays_1 : decode cX3_sumOfWays 1 = .ok (.getfield 35, 3) := by decide +kernel
theorem dX3_sumOfWays_4 : decode cX3_sumOfWays 4 = .ok (.ireturn, 1) := by decide +kernel
theorem dX3_stop_0 : decode cX3_stop 0 = .ok (.iload_n 1, 1) := by decide +kernel
theorem dX3_stop_1 : decode cX3_stop 1 = .ok (.ifCond .lt 20, 3) := by decide +kernel
theorem dX3_stop_4 : decode cX3_stop 4 = .ok (.iload_n 1, 1) := by decide +kernel
theorem dX3_stop_5 : decode cX3_stop 5 = .ok (.aload_n 0, 1) := by decide +kernel
theorem dX3_stop_6 : decode cX3_stop 6 = .ok (.getfield 39, 3) := by decide +kernel
theorem dX3_stop_9 : decode cX3_stop 9 = .ok (.if_icmp .ge 12, 3) := by decide +kernel
theorem dX3_stop_12 : decode cX3_stop 12 = .ok (.aload_n 0, 1) := by decide +kernel
theorem dX3_stop_13 : decode cX3_stop 13 = .ok (.getfield 19, 3) := by decide +kernel
theorem dX3_stop_16 : decode cX3_stop 16 = .ok (.iload_n 1, 1) := by decide +kernel
theorem dX3_stop_17 : decode cX3_stop 17 = .ok (.iaload, 1) := by decide +kernel
theorem dX3_stop_18 : decode cX3_stop 18 = .ok (.goto 5, 3) := by decide +kernel
theorem dX3_stop_21 : decode cX3_stop 21 = .ok (.bipush (-9), 2) := by decide +kernel
theorem dX3_stop_23 : decode cX3_stop 23 = .ok (.ireturn, 1) := by decide +kernel
set_option maxRecDepth 20000 in
theorem ggX3_listSpots_X4_bit : GoodIn wsX3_listSpots wsX4_bit := goodIn_r _ [6] (by decide +kernel) (by decide +kernel)
set_option maxRecDepth 20000 in
theorem gX3_listSpots_X4_bit_n42 : GoodIn wsX3_listSpots (wsX4_bit) := ggX3_listSpots_X4_bit
theorem dX3_listSpots_0 : decode cX3_listSpots 0 = .ok (.aload_n 0, 1) := by decide +kernel
theorem dX3_listSpots_1 : decode cX3_listSpots 1 = .ok (.iconst 0, 1) := by decide +kernel
theorem dX3_listSpots_2 : decode cX3_listSpots 2 = .ok (.putfield 39, 3) := by decide +kernel
theorem dX3_listSpots_5 : decode cX3_listSpots 5 = .ok (.iconst 0, 1) := by decide +kernel
theorem dX3_listSpots_6 : decode cX3_listSpots 6 = .ok (.istore_n 1, 1) := by decide +kernel
theorem dX3_listSpots_7 : decode cX3_listSpots 7 = .ok (.iload_n 1, 1) := by decide +kernel
theorem dX3_listSpots_8 : decode cX3_listSpots 8 = .ok (.bipush 64, 2) := by decide +kernel
theorem dX3_listSpots_10 : decode cX3_listSpots 10 = .ok (.if_icmp .ge 50, 3) := by decide +kernel
theorem dX3_listSpots_13 : decode cX3_listSpots 13 = .ok (.aload_n 0, 1) := by decide +kernel
theorem dX3_listSpots_14 : decode cX3_listSpots 14 = .ok (.getfield 39, 3) := by decide +kernel
theorem dX3_listSpots_17 : decode cX3_listSpots 17 = .ok (.bipush 12, 2) := by decide +kernel
theorem dX3_listSpots_19 : decode cX3_listSpots 19 = .ok (.if_icmp .ge 41, 3) := by decide +kernel
theorem dX3_listSpots_22 : decode cX3_listSpots 22 = .ok (.aload_n 0, 1) := by decide +kernel
theorem dX3_listSpots_23 : decode cX3_listSpots 23 = .ok (.getfield 22, 3) := by decide +kernel
theorem dX3_listSpots_26 : decode cX3_listSpots 26 = .ok (.iload_n 1, 1) := by decide +kernel
theorem dX3_listSpots_27 : decode cX3_listSpots 27 = .ok (.invokestatic 42, 3) := by decide +kernel
theorem dX3_listSpots_30 : decode cX3_listSpots 30 = .ok (.iconst 1, 1) := by decide +kernel
theorem dX3_listSpots_31 : decode cX3_listSpots 31 = .ok (.if_icmp .ne 23, 3) := by decide +kernel
theorem dX3_listSpots_34 : decode cX3_listSpots 34 = .ok (.aload_n 0, 1) := by decide +kernel
theorem dX3_listSpots_35 : decode cX3_listSpots 35 = .ok (.getfield 9, 3) := by decide +kernel
theorem dX3_listSpots_38 : decode cX3_listSpots 38 = .ok (.aload_n 0, 1) := by decide +kernel
theorem dX3_listSpots_39 : decode cX3_listSpots 39 = .ok (.getfield 39, 3) := by decide +kernel
theorem dX3_listSpots_42 : decode cX3_listSpots 42 = .ok (.iload_n 1, 1) := by decide +kernel
theorem dX3_listSpots_43 : decode cX3_listSpots 43 = .ok (.iastore, 1) := by decide +kernel
theorem dX3_listSpots_44 : decode cX3_listSpots 44 = .ok (.aload_n 0, 1) := by decide +kernel
theorem dX3_listSpots_45 : decode cX3_listSpots 45 = .ok (.dup, 1) := by decide +kernel
theorem dX3_listSpots_46 : decode cX3_listSpots 46 = .ok (.getfield 39, 3) := by decide +kernel
theorem dX3_listSpots_49 : decode cX3_listSpots 49 = .ok (.iconst 1, 1) := by decide +kernel
theorem dX3_listSpots_50 : decode cX3_listSpots 50 = .ok (.iadd, 1) := by decide +kernel
theorem dX3_listSpots_51 : decode cX3_listSpots 51 = .ok (.putfield 39, 3) := by decide +kernel
theorem dX3_listSpots_54 : decode cX3_listSpots 54 = .ok (.iinc 1 1, 3) := by decide +kernel
theorem dX3_listSpots_57 : decode cX3_listSpots 57 = .ok (.goto (-50), 3) := by decide +kernel
theorem dX3_listSpots_60 : decode cX3_listSpots 60 = .ok (.return_, 1) := by decide +kernel
set_option maxRecDepth 20000 in
theorem ggX3_fillRest_X3_leastFrom : GoodIn wsX3_fillRest wsX3_leastFrom := goodIn_r _ [8, 9, 10, 11, 7, 12, 1, 13, 14, 15, 16, 3, 2, 17, 18, 19, 20, 21, 22, 23, 24, 25, 26, 27, 28, 29] (by decide +kernel) (by decide +kernel)
set_option maxRecDepth 20000 in
theorem gX3_fillRest_X3_leastFrom : GoodIn wsX3_fillRest (wsV RX3 46 RX3 yX3_leastFrom wsX3_leastFrom) := goodIn_app (goodIn_of _ (by decide +kernel)) ggX3_fillRest_X3_leastFrom
theorem dX3_fillRest_0 : decode cX3_fillRest 0 = .ok (.iconst 0, 1) := by decide +kernel
theorem dX3_fillRest_1 : decode cX3_fillRest 1 = .ok (.istore_n 1, 1) := by decide +kernel
theorem dX3_fillRest_2 : decode cX3_fillRest 2 = .ok (.iload_n 1, 1) := by decide +kernel
theorem dX3_fillRest_3 : decode cX3_fillRest 3 = .ok (.iconst 1, 1) := by decide +kernel
theorem dX3_fillRest_4 : decode cX3_fillRest 4 = .ok (.aload_n 0, 1) := by decide +kernel
theorem dX3_fillRest_5 : decode cX3_fillRest 5 = .ok (.getfield 39, 3) := by decide +kernel
theorem dX3_fillRest_8 : decode cX3_fillRest 8 = .ok (.ishl, 1) := by decide +kernel
theorem dX3_fillRest_9 : decode cX3_fillRest 9 = .ok (.if_icmp .ge 55, 3) := by decide +kernel
theorem dX3_fillRest_12 : decode cX3_fillRest 12 = .ok (.iconst 0, 1) := by decide +kernel
theorem dX3_fillRest_13 : decode cX3_fillRest 13 = .ok (.istore_n 2, 1) := by decide +kernel
theorem dX3_fillRest_14 : decode cX3_fillRest 14 = .ok (.iload_n 2, 1) := by decide +kernel
theorem dX3_fillRest_15 : decode cX3_fillRest 15 = .ok (.aload_n 0, 1) := by decide +kernel
theorem dX3_fillRest_16 : decode cX3_fillRest 16 = .ok (.getfield 39, 3) := by decide +kernel
theorem dX3_fillRest_19 : decode cX3_fillRest 19 = .ok (.if_icmp .ge 39, 3) := by decide +kernel
theorem dX3_fillRest_22 : decode cX3_fillRest 22 = .ok (.iload_n 1, 1) := by decide +kernel
theorem dX3_fillRest_23 : decode cX3_fillRest 23 = .ok (.iload_n 2, 1) := by decide +kernel
theorem dX3_fillRest_24 : decode cX3_fillRest 24 = .ok (.ishr, 1) := by decide +kernel
theorem dX3_fillRest_25 : decode cX3_fillRest 25 = .ok (.iconst 1, 1) := by decide +kernel
theorem dX3_fillRest_26 : decode cX3_fillRest 26 = .ok (.iand, 1) := by decide +kernel
theorem dX3_fillRest_27 : decode cX3_fillRest 27 = .ok (.ifCond .ne 25, 3) := by decide +kernel
theorem dX3_fillRest_30 : decode cX3_fillRest 30 = .ok (.aload_n 0, 1) := by decide +kernel
theorem dX3_fillRest_31 : decode cX3_fillRest 31 = .ok (.getfield 16, 3) := by decide +kernel
theorem dX3_fillRest_34 : decode cX3_fillRest 34 = .ok (.iload_n 1, 1) := by decide +kernel
theorem dX3_fillRest_35 : decode cX3_fillRest 35 = .ok (.bipush 12, 2) := by decide +kernel
theorem dX3_fillRest_37 : decode cX3_fillRest 37 = .ok (.imul, 1) := by decide +kernel
theorem dX3_fillRest_38 : decode cX3_fillRest 38 = .ok (.iload_n 2, 1) := by decide +kernel
theorem dX3_fillRest_39 : decode cX3_fillRest 39 = .ok (.iadd, 1) := by decide +kernel
theorem dX3_fillRest_40 : decode cX3_fillRest 40 = .ok (.aload_n 0, 1) := by decide +kernel
theorem dX3_fillRest_41 : decode cX3_fillRest 41 = .ok (.iload_n 1, 1) := by decide +kernel
theorem dX3_fillRest_42 : decode cX3_fillRest 42 = .ok (.aload_n 0, 1) := by decide +kernel
theorem dX3_fillRest_43 : decode cX3_fillRest 43 = .ok (.getfield 9, 3) := by decide +kernel
theorem dX3_fillRest_46 : decode cX3_fillRest 46 = .ok (.iload_n 2, 1) := by decide +kernel
theorem dX3_fillRest_47 : decode cX3_fillRest 47 = .ok (.iaload, 1) := by decide +kernel
theorem dX3_fillRest_48 : decode cX3_fillRest 48 = .ok (.invokevirtual 46, 3) := by decide +kernel
theorem dX3_fillRest_51 : decode cX3_fillRest 51 = .ok (.iastore, 1) := by decide +kernel
theorem dX3_fillRest_52 : decode cX3_fillRest 52 = .ok (.iinc 2 1, 3) := by decide +kernel
theorem dX3_fillRest_55 : decode cX3_fillRest 55 = .ok (.goto (-41), 3) := by decide +kernel
theorem dX3_fillRest_58 : decode cX3_fillRest 58 = .ok (.iinc 1 1, 3) := by decide +kernel
theorem dX3_fillRest_61 : decode cX3_fillRest 61 = .ok (.goto (-59), 3) := by decide +kernel
theorem dX3_fillRest_64 : decode cX3_fillRest 64 = .ok (.return_, 1) := by decide +kernel
set_option maxRecDepth 20000 in
theorem ggX3_leastFrom_X3_bestStep : GoodIn wsX3_leastFrom wsX3_bestStep := goodIn_r _ [5, 6, 7, 8, 9, 4, 10, 11, 12, 13, 14, 15, 16, 17, 18, 19, 20, 21, 22, 23, 24, 25] (by decide +kernel) (by decide +kernel)
set_option maxRecDepth 20000 in
theorem gX3_leastFrom_X3_bestStep : GoodIn wsX3_leastFrom (wsV RX3 50 RX3 yX3_bestStep wsX3_bestStep) := goodIn_app (goodIn_of _ (by decide +kernel)) ggX3_leastFrom_X3_bestStep
set_option maxRecDepth 20000 in
theorem ggX3_leastFrom_X3_travelBy : GoodIn wsX3_leastFrom wsX3_travelBy := goodIn_r _ [10, 11, 12, 13, 14, 15, 16, 17, 18, 19, 20, 21, 22, 23, 24, 25] (by decide +kernel) (by decide +kernel)
set_option maxRecDepth 20000 in
theorem gX3_leastFrom_X3_travelBy : GoodIn wsX3_leastFrom (wsV RX3 53 RX3 yX3_travelBy wsX3_travelBy) := goodIn_app (goodIn_of _ (by decide +kernel)) ggX3_leastFrom_X3_travelBy
theorem dX3_leastFrom_0 : decode cX3_leastFrom 0 = .ok (.aload_n 0, 1) := by decide +kernel
theorem dX3_leastFrom_1 : decode cX3_leastFrom 1 = .ok (.iload_n 1, 1) := by decide +kernel
theorem dX3_leastFrom_2 : decode cX3_leastFrom 2 = .ok (.iload_n 2, 1) := by decide +kernel
theorem dX3_leastFrom_3 : decode cX3_leastFrom 3 = .ok (.invokevirtual 50, 3) := by decide +kernel
theorem dX3_leastFrom_6 : decode cX3_leastFrom 6 = .ok (.istore_n 3, 1) := by decide +kernel
theorem dX3_leastFrom_7 : decode cX3_leastFrom 7 = .ok (.iload_n 3, 1) := by decide +kernel
theorem dX3_leastFrom_8 : decode cX3_leastFrom 8 = .ok (.ifCond .ge 7, 3) := by decide +kernel
theorem dX3_leastFrom_11 : decode cX3_leastFrom 11 = .ok (.iconst 0, 1) := by decide +kernel
theorem dX3_leastFrom_12 : decode cX3_leastFrom 12 = .ok (.goto 10, 3) := by decide +kernel
theorem dX3_leastFrom_15 : decode cX3_leastFrom 15 = .ok (.aload_n 0, 1) := by decide +kernel
theorem dX3_leastFrom_16 : decode cX3_leastFrom 16 = .ok (.iload_n 1, 1) := by decide +kernel
theorem dX3_leastFrom_17 : decode cX3_leastFrom 17 = .ok (.iload_n 2, 1) := by decide +kernel
theorem dX3_leastFrom_18 : decode cX3_leastFrom 18 = .ok (.iload_n 3, 1) := by decide +kernel
theorem dX3_leastFrom_19 : decode cX3_leastFrom 19 = .ok (.invokevirtual 53, 3) := by decide +kernel
theorem dX3_leastFrom_22 : decode cX3_leastFrom 22 = .ok (.ireturn, 1) := by decide +kernel
set_option maxRecDepth 20000 in
theorem ggX3_travelBy_X4_way : GoodIn wsX3_travelBy wsX4_way := goodIn_r _ [5, 6, 7, 8, 9] (by decide +kernel) (by decide +kernel)
set_option maxRecDepth 20000 in
theorem gX3_travelBy_X4_way_n57 : GoodIn wsX3_travelBy (wsX4_way) := ggX3_travelBy_X4_way
theorem dX3_travelBy_0 : decode cX3_travelBy 0 = .ok (.iload_n 2, 1) := by decide +kernel
theorem dX3_travelBy_1 : decode cX3_travelBy 1 = .ok (.aload_n 0, 1) := by decide +kernel
theorem dX3_travelBy_2 : decode cX3_travelBy 2 = .ok (.getfield 9, 3) := by decide +kernel
theorem dX3_travelBy_5 : decode cX3_travelBy 5 = .ok (.iload_n 3, 1) := by decide +kernel
theorem dX3_travelBy_6 : decode cX3_travelBy 6 = .ok (.iaload, 1) := by decide +kernel
theorem dX3_travelBy_7 : decode cX3_travelBy 7 = .ok (.invokestatic 57, 3) := by decide +kernel
theorem dX3_travelBy_10 : decode cX3_travelBy 10 = .ok (.aload_n 0, 1) := by decide +kernel
theorem dX3_travelBy_11 : decode cX3_travelBy 11 = .ok (.getfield 16, 3) := by decide +kernel
theorem dX3_travelBy_14 : decode cX3_travelBy 14 = .ok (.iload_n 1, 1) := by decide +kernel
theorem dX3_travelBy_15 : decode cX3_travelBy 15 = .ok (.iconst 1, 1) := by decide +kernel
theorem dX3_travelBy_16 : decode cX3_travelBy 16 = .ok (.iload_n 3, 1) := by decide +kernel
theorem dX3_travelBy_17 : decode cX3_travelBy 17 = .ok (.ishl, 1) := by decide +kernel
theorem dX3_travelBy_18 : decode cX3_travelBy 18 = .ok (.iconst (-1), 1) := by decide +kernel
theorem dX3_travelBy_19 : decode cX3_travelBy 19 = .ok (.ixor, 1) := by decide +kernel
theorem dX3_travelBy_20 : decode cX3_travelBy 20 = .ok (.iand, 1) := by decide +kernel
theorem dX3_travelBy_21 : decode cX3_travelBy 21 = .ok (.bipush 12, 2) := by decide +kernel
theorem dX3_travelBy_23 : decode cX3_travelBy 23 = .ok (.imul, 1) := by decide +kernel
theorem dX3_travelBy_24 : decode cX3_travelBy 24 = .ok (.iload_n 3, 1) := by decide +kernel
theorem dX3_travelBy_25 : decode cX3_travelBy 25 = .ok (.iadd, 1) := by decide +kernel
theorem dX3_travelBy_26 : decode cX3_travelBy 26 = .ok (.iaload, 1) := by decide +kernel
theorem dX3_travelBy_27 : decode cX3_travelBy 27 = .ok (.iadd, 1) := by decide +kernel
theorem dX3_travelBy_28 : decode cX3_travelBy 28 = .ok (.ireturn, 1) := by decide +kernel
set_option maxRecDepth 20000 in
theorem ggX3_bestStep_X3_travelBy : GoodIn wsX3_bestStep wsX3_travelBy := goodIn_r _ [6, 7, 8, 9, 10, 11, 12, 13, 14, 15, 16, 17, 18, 19, 20, 21] (by decide +kernel) (by decide +kernel)
set_option maxRecDepth 20000 in
theorem gX3_bestStep_X3_travelBy : GoodIn wsX3_bestStep (wsV RX3 53 RX3 yX3_travelBy wsX3_travelBy) := goodIn_app (goodIn_of _ (by decide +kernel)) ggX3_bestStep_X3_travelBy
theorem dX3_bestStep_0 : decode cX3_bestStep 0 = .ok (.iconst (-1), 1) := by decide +kernel
theorem dX3_bestStep_1 : decode cX3_bestStep 1 = .ok (.istore_n 3, 1) := by decide +kernel
theorem dX3_bestStep_2 : decode cX3_bestStep 2 = .ok (.iconst 0, 1) := by decide +kernel
theorem dX3_bestStep_3 : decode cX3_bestStep 3 = .ok (.istore 4, 2) := by decide +kernel
theorem dX3_bestStep_5 : decode cX3_bestStep 5 = .ok (.iconst 0, 1) := by decide +kernel
theorem dX3_bestStep_6 : decode cX3_bestStep 6 = .ok (.istore 5, 2) := by decide +kernel
theorem dX3_bestStep_8 : decode cX3_bestStep 8 = .ok (.iload 5, 2) := by decide +kernel
theorem dX3_bestStep_10 : decode cX3_bestStep 10 = .ok (.aload_n 0, 1) := by decide +kernel
theorem dX3_bestStep_11 : decode cX3_bestStep 11 = .ok (.getfield 39, 3) := by decide +kernel
theorem dX3_bestStep_14 : decode cX3_bestStep 14 = .ok (.if_icmp .ge 47, 3) := by decide +kernel
theorem dX3_bestStep_17 : decode cX3_bestStep 17 = .ok (.iload_n 1, 1) := by decide +kernel
theorem dX3_bestStep_18 : decode cX3_bestStep 18 = .ok (.iload 5, 2) := by decide +kernel
theorem dX3_bestStep_20 : decode cX3_bestStep 20 = .ok (.ishr, 1) := by decide +kernel
theorem dX3_bestStep_21 : decode cX3_bestStep 21 = .ok (.iconst 1, 1) := by decide +kernel
theorem dX3_bestStep_22 : decode cX3_bestStep 22 = .ok (.iand, 1) := by decide +kernel
theorem dX3_bestStep_23 : decode cX3_bestStep 23 = .ok (.iconst 1, 1) := by decide +kernel
theorem dX3_bestStep_24 : decode cX3_bestStep 24 = .ok (.if_icmp .ne 31, 3) := by decide +kernel
theorem dX3_bestStep_27 : decode cX3_bestStep 27 = .ok (.aload_n 0, 1) := by decide +kernel
theorem dX3_bestStep_28 : decode cX3_bestStep 28 = .ok (.iload_n 1, 1) := by decide +kernel
theorem dX3_bestStep_29 : decode cX3_bestStep 29 = .ok (.iload_n 2, 1) := by decide +kernel
theorem dX3_bestStep_30 : decode cX3_bestStep 30 = .ok (.iload 5, 2) := by decide +kernel
theorem dX3_bestStep_32 : decode cX3_bestStep 32 = .ok (.invokevirtual 53, 3) := by decide +kernel
theorem dX3_bestStep_35 : decode cX3_bestStep 35 = .ok (.istore 6, 2) := by decide +kernel
theorem dX3_bestStep_37 : decode cX3_bestStep 37 = .ok (.iload_n 3, 1) := by decide +kernel
theorem dX3_bestStep_38 : decode cX3_bestStep 38 = .ok (.ifCond .lt 10, 3) := by decide +kernel
theorem dX3_bestStep_41 : decode cX3_bestStep 41 = .ok (.iload 6, 2) := by decide +kernel
theorem dX3_bestStep_43 : decode cX3_bestStep 43 = .ok (.iload 4, 2) := by decide +kernel
theorem dX3_bestStep_45 : decode cX3_bestStep 45 = .ok (.if_icmp .ge 10, 3) := by decide +kernel
theorem dX3_bestStep_48 : decode cX3_bestStep 48 = .ok (.iload 5, 2) := by decide +kernel
theorem dX3_bestStep_50 : decode cX3_bestStep 50 = .ok (.istore_n 3, 1) := by decide +kernel
theorem dX3_bestStep_51 : decode cX3_bestStep 51 = .ok (.iload 6, 2) := by decide +kernel
theorem dX3_bestStep_53 : decode cX3_bestStep 53 = .ok (.istore 4, 2) := by decide +kernel
theorem dX3_bestStep_55 : decode cX3_bestStep 55 = .ok (.iinc 5 1, 3) := by decide +kernel
theorem dX3_bestStep_58 : decode cX3_bestStep 58 = .ok (.goto (-50), 3) := by decide +kernel
theorem dX3_bestStep_61 : decode cX3_bestStep 61 = .ok (.iload_n 3, 1) := by decide +kernel
theorem dX3_bestStep_62 : decode cX3_bestStep 62 = .ok (.ireturn, 1) := by decide +kernel
set_option maxRecDepth 20000 in
theorem ggX3_follow_X3_bestStep : GoodIn wsX3_follow wsX3_bestStep := goodIn_r _ [9, 2, 10, 11, 12, 8, 13, 4, 14, 15, 16, 17, 18, 19, 20, 21, 22, 23, 24, 25, 26, 27] (by decide +kernel) (by decide +kernel)
set_option maxRecDepth 20000 in
theorem gX3_follow_X3_bestStep : GoodIn wsX3_follow (wsV RX3 50 RX3 yX3_bestStep wsX3_bestStep) := goodIn_app (goodIn_of _ (by decide +kernel)) ggX3_follow_X3_bestStep
set_option maxRecDepth 20000 in
theorem ggX3_follow_X4_way : GoodIn wsX3_follow wsX4_way := goodIn_r _ [17, 18, 19, 20, 21] (by decide +kernel) (by decide +kernel)
set_option maxRecDepth 20000 in
theorem gX3_follow_X4_way_n57 : GoodIn wsX3_follow (wsX4_way) := ggX3_follow_X4_way
theorem dX3_follow_0 : decode cX3_follow 0 = .ok (.aload_n 0, 1) := by decide +kernel
theorem dX3_follow_1 : decode cX3_follow 1 = .ok (.iconst 0, 1) := by decide +kernel
theorem dX3_follow_2 : decode cX3_follow 2 = .ok (.putfield 35, 3) := by decide +kernel
theorem dX3_follow_5 : decode cX3_follow 5 = .ok (.iconst 0, 1) := by decide +kernel
theorem dX3_follow_6 : decode cX3_follow 6 = .ok (.istore_n 1, 1) := by decide +kernel
theorem dX3_follow_7 : decode cX3_follow 7 = .ok (.iconst 1, 1) := by decide +kernel
theorem dX3_follow_8 : decode cX3_follow 8 = .ok (.aload_n 0, 1) := by decide +kernel
theorem dX3_follow_9 : decode cX3_follow 9 = .ok (.getfield 39, 3) := by decide +kernel
theorem dX3_follow_12 : decode cX3_follow 12 = .ok (.ishl, 1) := by decide +kernel
theorem dX3_follow_13 : decode cX3_follow 13 = .ok (.iconst 1, 1) := by decide +kernel
theorem dX3_follow_14 : decode cX3_follow 14 = .ok (.isub, 1) := by decide +kernel
theorem dX3_follow_15 : decode cX3_follow 15 = .ok (.istore_n 2, 1) := by decide +kernel
theorem dX3_follow_16 : decode cX3_follow 16 = .ok (.iconst 0, 1) := by decide +kernel
theorem dX3_follow_17 : decode cX3_follow 17 = .ok (.istore_n 3, 1) := by decide +kernel
theorem dX3_follow_18 : decode cX3_follow 18 = .ok (.iload_n 3, 1) := by decide +kernel
theorem dX3_follow_19 : decode cX3_follow 19 = .ok (.aload_n 0, 1) := by decide +kernel
theorem dX3_follow_20 : decode cX3_follow 20 = .ok (.getfield 39, 3) := by decide +kernel
theorem dX3_follow_23 : decode cX3_follow 23 = .ok (.if_icmp .ge 73, 3) := by decide +kernel
theorem dX3_follow_26 : decode cX3_follow 26 = .ok (.aload_n 0, 1) := by decide +kernel
theorem dX3_follow_27 : decode cX3_follow 27 = .ok (.iload_n 2, 1) := by decide +kernel
theorem dX3_follow_28 : decode cX3_follow 28 = .ok (.iload_n 1, 1) := by decide +kernel
theorem dX3_follow_29 : decode cX3_follow 29 = .ok (.invokevirtual 50, 3) := by decide +kernel
theorem dX3_follow_32 : decode cX3_follow 32 = .ok (.istore 4, 2) := by decide +kernel
theorem dX3_follow_34 : decode cX3_follow 34 = .ok (.iload 4, 2) := by decide +kernel
theorem dX3_follow_36 : decode cX3_follow 36 = .ok (.ifCond .ge 4, 3) := by decide +kernel
theorem dX3_follow_39 : decode cX3_follow 39 = .ok (.return_, 1) := by decide +kernel
theorem dX3_follow_40 : decode cX3_follow 40 = .ok (.aload_n 0, 1) := by decide +kernel
theorem dX3_follow_41 : decode cX3_follow 41 = .ok (.getfield 19, 3) := by decide +kernel
theorem dX3_follow_44 : decode cX3_follow 44 = .ok (.iload_n 3, 1) := by decide +kernel
theorem dX3_follow_45 : decode cX3_follow 45 = .ok (.aload_n 0, 1) := by decide +kernel
theorem dX3_follow_46 : decode cX3_follow 46 = .ok (.getfield 9, 3) := by decide +kernel
theorem dX3_follow_49 : decode cX3_follow 49 = .ok (.iload 4, 2) := by decide +kernel
theorem dX3_follow_51 : decode cX3_follow 51 = .ok (.iaload, 1) := by decide +kernel
theorem dX3_follow_52 : decode cX3_follow 52 = .ok (.iastore, 1) := by decide +kernel
theorem dX3_follow_53 : decode cX3_follow 53 = .ok (.aload_n 0, 1) := by decide +kernel
theorem dX3_follow_54 : decode cX3_follow 54 = .ok (.dup, 1) := by decide +kernel
theorem dX3_follow_55 : decode cX3_follow 55 = .ok (.getfield 35, 3) := by decide +kernel
theorem dX3_follow_58 : decode cX3_follow 58 = .ok (.iload_n 1, 1) := by decide +kernel
theorem dX3_follow_59 : decode cX3_follow 59 = .ok (.aload_n 0, 1) := by decide +kernel
theorem dX3_follow_60 : decode cX3_follow 60 = .ok (.getfield 9, 3) := by decide +kernel
theorem dX3_follow_63 : decode cX3_follow 63 = .ok (.iload 4, 2) := by decide +kernel
theorem dX3_follow_65 : decode cX3_follow 65 = .ok (.iaload, 1) := by decide +kernel
theorem dX3_follow_66 : decode cX3_follow 66 = .ok (.invokestatic 57, 3) := by decide +kernel
theorem dX3_follow_69 : decode cX3_follow 69 = .ok (.iadd, 1) := by decide +kernel
theorem dX3_follow_70 : decode cX3_follow 70 = .ok (.putfield 35, 3) := by decide +kernel
theorem dX3_follow_73 : decode cX3_follow 73 = .ok (.aload_n 0, 1) := by decide +kernel
theorem dX3_follow_74 : decode cX3_follow 74 = .ok (.getfield 9, 3) := by decide +kernel
theorem dX3_follow_77 : decode cX3_follow 77 = .ok (.iload 4, 2) := by decide +kernel
theorem dX3_follow_79 : decode cX3_follow 79 = .ok (.iaload, 1) := by decide +kernel
theorem dX3_follow_80 : decode cX3_follow 80 = .ok (.istore_n 1, 1) := by decide +kernel
theorem dX3_follow_81 : decode cX3_follow 81 = .ok (.iload_n 2, 1) := by decide +kernel
theorem dX3_follow_82 : decode cX3_follow 82 = .ok (.iconst 1, 1) := by decide +kernel
theorem dX3_follow_83 : decode cX3_follow 83 = .ok (.iload 4, 2) := by decide +kernel
theorem dX3_follow_85 : decode cX3_follow 85 = .ok (.ishl, 1) := by decide +kernel
theorem dX3_follow_86 : decode cX3_follow 86 = .ok (.iconst (-1), 1) := by decide +kernel
theorem dX3_follow_87 : decode cX3_follow 87 = .ok (.ixor, 1) := by decide +kernel
theorem dX3_follow_88 : decode cX3_follow 88 = .ok (.iand, 1) := by decide +kernel
theorem dX3_follow_89 : decode cX3_follow 89 = .ok (.istore_n 2, 1) := by decide +kernel
theorem dX3_follow_90 : decode cX3_follow 90 = .ok (.iinc 3 1, 3) := by decide +kernel
theorem dX3_follow_93 : decode cX3_follow 93 = .ok (.goto (-75), 3) := by decide +kernel
theorem dX3_follow_96 : decode cX3_follow 96 = .ok (.return_, 1) := by decide +kernel
set_option maxRecDepth 20000 in
theorem ggX4_init_X2_init : GoodIn wsX4_init wsX2_init := goodIn_r _ [21, 22, 2, 3, 23, 24, 25, 26, 27, 28, 29, 30, 31, 32, 17, 33, 34, 35, 36, 37, 70, 71, 72, 73, 74, 51, 52, 53] (by decide +kernel) (by decide +kernel)
set_option maxRecDepth 20000 in
theorem gX4_init_X2_init : GoodIn wsX4_init (wsX2_init) := ggX4_init_X2_init
set_option maxRecDepth 20000 in
theorem ggX4_init_X0_init : GoodIn wsX4_init wsX0_init := goodIn_r _ [39, 40, 2, 3, 41, 42, 17, 43, 60, 61, 62, 63] (by decide +kernel) (by decide +kernel)
set_option maxRecDepth 20000 in
theorem gX4_init_X0_init_n22 : GoodIn wsX4_init (wsX0_init) := ggX4_init_X0_init
set_option maxRecDepth 20000 in
theorem ggX4_init_X3_init : GoodIn wsX4_init wsX3_init := goodIn_r _ [45, 46, 2, 3, 17, 47, 48, 49, 50, 64, 65, 66, 67, 68, 69] (by decide +kernel) (by decide +kernel)
set_option maxRecDepth 20000 in
theorem gX4_init_X3_init_n29 : GoodIn wsX4_init (wsX3_init) := ggX4_init_X3_init
theorem dX4_init_0 : decode cX4_init 0 = .ok (.aload_n 0, 1) := by decide +kernel
theorem dX4_init_1 : decode cX4_init 1 = .ok (.invokespecial 1, 3) := by decide +kernel
theorem dX4_init_4 : decode cX4_init 4 = .ok (.aload_n 0, 1) := by decide +kernel
theorem dX4_init_5 : decode cX4_init 5 = .ok (.new 7, 3) := by decide +kernel
theorem dX4_init_8 : decode cX4_init 8 = .ok (.dup, 1) := by decide +kernel
theorem dX4_init_9 : decode cX4_init 9 = .ok (.invokespecial 9, 3) := by decide +kernel
theorem dX4_init_12 : decode cX4_init 12 = .ok (.putfield 10, 3) := by decide +kernel
theorem dX4_init_15 : decode cX4_init 15 = .ok (.aload_n 0, 1) := by decide +kernel
theorem dX4_init_16 : decode cX4_init 16 = .ok (.bipush 6, 2) := by decide +kernel
theorem dX4_init_18 : decode cX4_init 18 = .ok (.anewarray 7, 3) := by decide +kernel
theorem dX4_init_21 : decode cX4_init 21 = .ok (.putfield 16, 3) := by decide +kernel
theorem dX4_init_24 : decode cX4_init 24 = .ok (.iconst 0, 1) := by decide +kernel
theorem dX4_init_25 : decode cX4_init 25 = .ok (.istore_n 1, 1) := by decide +kernel
theorem dX4_init_26 : decode cX4_init 26 = .ok (.iload_n 1, 1) := by decide +kernel
theorem dX4_init_27 : decode cX4_init 27 = .ok (.aload_n 0, 1) := by decide +kernel
theorem dX4_init_28 : decode cX4_init 28 = .ok (.getfield 16, 3) := by decide +kernel
theorem dX4_init_31 : decode cX4_init 31 = .ok (.arraylength, 1) := by decide +kernel
theorem dX4_init_32 : decode cX4_init 32 = .ok (.if_icmp .ge 22, 3) := by decide +kernel
theorem dX4_init_35 : decode cX4_init 35 = .ok (.aload_n 0, 1) := by decide +kernel
theorem dX4_init_36 : decode cX4_init 36 = .ok (.getfield 16, 3) := by decide +kernel
theorem dX4_init_39 : decode cX4_init 39 = .ok (.iload_n 1, 1) := by decide +kernel
theorem dX4_init_40 : decode cX4_init 40 = .ok (.new 7, 3) := by decide +kernel
theorem dX4_init_43 : decode cX4_init 43 = .ok (.dup, 1) := by decide +kernel
theorem dX4_init_44 : decode cX4_init 44 = .ok (.invokespecial 9, 3) := by decide +kernel
theorem dX4_init_47 : decode cX4_init 47 = .ok (.aastore, 1) := by decide +kernel
theorem dX4_init_48 : decode cX4_init 48 = .ok (.iinc 1 1, 3) := by decide +kernel
theorem dX4_init_51 : decode cX4_init 51 = .ok (.goto (-25), 3) := by decide +kernel
theorem dX4_init_54 : decode cX4_init 54 = .ok (.aload_n 0, 1) := by decide +kernel
theorem dX4_init_55 : decode cX4_init 55 = .ok (.new 20, 3) := by decide +kernel
theorem dX4_init_58 : decode cX4_init 58 = .ok (.dup, 1) := by decide +kernel
theorem dX4_init_59 : decode cX4_init 59 = .ok (.invokespecial 22, 3) := by decide +kernel
theorem dX4_init_62 : decode cX4_init 62 = .ok (.putfield 23, 3) := by decide +kernel
theorem dX4_init_65 : decode cX4_init 65 = .ok (.aload_n 0, 1) := by decide +kernel
theorem dX4_init_66 : decode cX4_init 66 = .ok (.new 27, 3) := by decide +kernel
theorem dX4_init_69 : decode cX4_init 69 = .ok (.dup, 1) := by decide +kernel
theorem dX4_init_70 : decode cX4_init 70 = .ok (.invokespecial 29, 3) := by decide +kernel
theorem dX4_init_73 : decode cX4_init 73 = .ok (.putfield 30, 3) := by decide +kernel
theorem dX4_init_76 : decode cX4_init 76 = .ok (.aload_n 0, 1) := by decide +kernel
theorem dX4_init_77 : decode cX4_init 77 = .ok (.sipush 200, 3) := by decide +kernel
theorem dX4_init_80 : decode cX4_init 80 = .ok (.newarray .int, 2) := by decide +kernel
theorem dX4_init_82 : decode cX4_init 82 = .ok (.putfield 34, 3) := by decide +kernel
theorem dX4_init_85 : decode cX4_init 85 = .ok (.return_, 1) := by decide +kernel
set_option maxRecDepth 20000 in
theorem ggX4_set_X4_prepare : GoodIn wsX4_set wsX4_prepare := goodIn_r _ [7, 8, 9, 1, 10, 11, 12, 13, 14, 15, 16, 17, 18, 19, 20, 21, 22, 23, 24, 25, 26, 27, 28, 29, 30, 31, 46, 47, 48, 49, 50, 51, 52, 53, 54, 55, 56, 57, 58, 59] (by decide +kernel) (by decide +kernel)
set_option maxRecDepth 20000 in
theorem gX4_set_X4_prepare : GoodIn wsX4_set (wsV RX4 38 RX4 yX4_prepare wsX4_prepare) := goodIn_app (goodIn_of _ (by decide +kernel)) ggX4_set_X4_prepare
set_option maxRecDepth 20000 in
theorem ggX4_set_X1_putSetting : GoodIn wsX4_set wsX1_putSetting := goodIn_r _ [35, 36, 37, 31, 55, 56, 57, 58, 59] (by decide +kernel) (by decide +kernel)
set_option maxRecDepth 20000 in
theorem gX4_set_X1_putSetting : GoodIn wsX4_set (wsV RX4 45 RX1 yX1_putSetting wsX1_putSetting) := goodIn_app (goodIn_of _ (by decide +kernel)) ggX4_set_X1_putSetting
set_option maxRecDepth 20000 in
theorem ggX4_set_X4_finish : GoodIn wsX4_set wsX4_finish := goodIn_r _ [41, 9, 42, 43, 44, 6, 45, 8, 46, 47, 48, 49, 50, 51] (by decide +kernel) (by decide +kernel)
set_option maxRecDepth 20000 in
theorem gX4_set_X4_finish : GoodIn wsX4_set (wsV RX4 51 RX4 yX4_finish wsX4_finish) := goodIn_app (goodIn_of _ (by decide +kernel)) ggX4_set_X4_finish
theorem dX4_set_0 : decode cX4_set 0 = .ok (.aload_n 0, 1) := by decide +kernel
theorem dX4_set_1 : decode cX4_set 1 = .ok (.invokevirtual 38, 3) := by decide +kernel
theorem dX4_set_4 : decode cX4_set 4 = .ok (.aload_n 0, 1) := by decide +kernel
theorem dX4_set_5 : decode cX4_set 5 = .ok (.aload_n 0, 1) := by decide +kernel
theorem dX4_set_6 : decode cX4_set 6 = .ok (.getfield 10, 3) := by decide +kernel
theorem dX4_set_9 : decode cX4_set 9 = .ok (.getfield 41, 3) := by decide +kernel
theorem dX4_set_12 : decode cX4_set 12 = .ok (.iload_n 1, 1) := by decide +kernel
theorem dX4_set_13 : decode cX4_set 13 = .ok (.iload_n 2, 1) := by decide +kernel
theorem dX4_set_14 : decode cX4_set 14 = .ok (.invokevirtual 45, 3) := by decide +kernel
theorem dX4_set_17 : decode cX4_set 17 = .ok (.invokevirtual 51, 3) := by decide +kernel
theorem dX4_set_20 : decode cX4_set 20 = .ok (.ireturn, 1) := by decide +kernel
set_option maxRecDepth 20000 in
theorem ggX4_setPhosphor_X4_prepare : GoodIn wsX4_setPhosphor wsX4_prepare := goodIn_r _ [7, 8, 9, 1, 10, 11, 12, 13, 14, 15, 16, 17, 18, 19, 20, 21, 22, 23, 24, 25, 26, 27, 28, 29, 30, 31, 48, 49, 50, 51, 52, 53, 54, 55, 56, 57, 58, 59, 60, 61] (by decide +kernel) (by decide +kernel)
set_option maxRecDepth 20000 in
theorem gX4_setPhosphor_X4_prepare : GoodIn wsX4_setPhosphor (wsV RX4 38 RX4 yX4_prepare wsX4_prepare) := goodIn_app (goodIn_of _ (by decide +kernel)) ggX4_setPhosphor_X4_prepare
set_option maxRecDepth 20000 in
theorem ggX4_setPhosphor_X1_putPhosphor : GoodIn wsX4_setPhosphor wsX1_putPhosphor := goodIn_r _ [35, 23, 36, 6, 37, 38, 39, 57, 58, 59, 60, 61] (by decide +kernel) (by decide +kernel)
set_option maxRecDepth 20000 in
theorem gX4_setPhosphor_X1_putPhosphor : GoodIn wsX4_setPhosphor (wsV RX4 55 RX1 yX1_putPhosphor wsX1_putPhosphor) := goodIn_app (goodIn_of _ (by decide +kernel)) ggX4_setPhosphor_X1_putPhosphor
set_option maxRecDepth 20000 in
theorem ggX4_setPhosphor_X4_finish : GoodIn wsX4_setPhosphor wsX4_finish := goodIn_r _ [43, 9, 44, 45, 46, 6, 47, 8, 48, 49, 50, 51, 52, 53] (by decide +kernel) (by decide +kernel)
set_option maxRecDepth 20000 in
theorem gX4_setPhosphor_X4_finish : GoodIn wsX4_setPhosphor (wsV RX4 51 RX4 yX4_finish wsX4_finish) := goodIn_app (goodIn_of _ (by decide +kernel)) ggX4_setPhosphor_X4_finish
theorem dX4_setPhosphor_0 : decode cX4_setPhosphor 0 = .ok (.aload_n 0, 1) := by decide +kernel
theorem dX4_setPhosphor_1 : decode cX4_setPhosphor 1 = .ok (.invokevirtual 38, 3) := by decide +kernel
theorem dX4_setPhosphor_4 : decode cX4_setPhosphor 4 = .ok (.aload_n 0, 1) := by decide +kernel
theorem dX4_setPhosphor_5 : decode cX4_setPhosphor 5 = .ok (.aload_n 0, 1) := by decide +kernel
theorem dX4_setPhosphor_6 : decode cX4_setPhosphor 6 = .ok (.getfield 10, 3) := by decide +kernel
theorem dX4_setPhosphor_9 : decode cX4_setPhosphor 9 = .ok (.getfield 41, 3) := by decide +kernel
theorem dX4_setPhosphor_12 : decode cX4_setPhosphor 12 = .ok (.iload_n 1, 1) := by decide +kernel
theorem dX4_setPhosphor_13 : decode cX4_setPhosphor 13 = .ok (.iload_n 2, 1) := by decide +kernel
theorem dX4_setPhosphor_14 : decode cX4_setPhosphor 14 = .ok (.invokevirtual 55, 3) := by decide +kernel
theorem dX4_setPhosphor_17 : decode cX4_setPhosphor 17 = .ok (.invokevirtual 51, 3) := by decide +kernel
theorem dX4_setPhosphor_20 : decode cX4_setPhosphor 20 = .ok (.ireturn, 1) := by decide +kernel
set_option maxRecDepth 20000 in
theorem ggX4_light_X4_prepare : GoodIn wsX4_light wsX4_prepare := goodIn_r _ [7, 8, 9, 1, 10, 11, 12, 13, 14, 15, 16, 17, 18, 19, 20, 21, 22, 23, 24, 25, 26, 27, 28, 29, 30, 31, 50, 51, 52, 53, 54, 55, 56, 57, 58, 59, 60, 61, 62, 63] (by decide +kernel) (by decide +kernel)
set_option maxRecDepth 20000 in
theorem gX4_light_X4_prepare : GoodIn wsX4_light (wsV RX4 38 RX4 yX4_prepare wsX4_prepare) := goodIn_app (goodIn_of _ (by decide +kernel)) ggX4_light_X4_prepare
set_option maxRecDepth 20000 in
theorem ggX4_light_X1_addSpot : GoodIn wsX4_light wsX1_addSpot := goodIn_r _ [35, 29, 28, 36, 6, 37, 38, 39, 40, 21, 41, 59, 60, 61, 62, 63] (by decide +kernel) (by decide +kernel)
set_option maxRecDepth 20000 in
theorem gX4_light_X1_addSpot : GoodIn wsX4_light (wsV RX4 58 RX1 yX1_addSpot wsX1_addSpot) := goodIn_app (goodIn_of _ (by decide +kernel)) ggX4_light_X1_addSpot
set_option maxRecDepth 20000 in
theorem ggX4_light_X4_finish : GoodIn wsX4_light wsX4_finish := goodIn_r _ [45, 9, 46, 47, 48, 6, 49, 8, 50, 51, 52, 53, 54, 55] (by decide +kernel) (by decide +kernel)
set_option maxRecDepth 20000 in
theorem gX4_light_X4_finish : GoodIn wsX4_light (wsV RX4 51 RX4 yX4_finish wsX4_finish) := goodIn_app (goodIn_of _ (by decide +kernel)) ggX4_light_X4_finish
theorem dX4_light_0 : decode cX4_light 0 = .ok (.aload_n 0, 1) := by decide +kernel
theorem dX4_light_1 : decode cX4_light 1 = .ok (.invokevirtual 38, 3) := by decide +kernel
theorem dX4_light_4 : decode cX4_light 4 = .ok (.aload_n 0, 1) := by decide +kernel
theorem dX4_light_5 : decode cX4_light 5 = .ok (.aload_n 0, 1) := by decide +kernel
theorem dX4_light_6 : decode cX4_light 6 = .ok (.getfield 10, 3) := by decide +kernel
theorem dX4_light_9 : decode cX4_light 9 = .ok (.getfield 41, 3) := by decide +kernel
theorem dX4_light_12 : decode cX4_light 12 = .ok (.iload_n 1, 1) := by decide +kernel
theorem dX4_light_13 : decode cX4_light 13 = .ok (.invokevirtual 58, 3) := by decide +kernel
theorem dX4_light_16 : decode cX4_light 16 = .ok (.invokevirtual 51, 3) := by decide +kernel
theorem dX4_light_19 : decode cX4_light 19 = .ok (.ireturn, 1) := by decide +kernel
set_option maxRecDepth 20000 in
theorem ggX4_darken_X4_prepare : GoodIn wsX4_darken wsX4_prepare := goodIn_r _ [7, 8, 9, 1, 10, 11, 12, 13, 14, 15, 16, 17, 18, 19, 20, 21, 22, 23, 24, 25, 26, 27, 28, 29, 30, 31, 50, 51, 52, 53, 54, 55, 56, 57, 58, 59, 60, 61, 62, 63] (by decide +kernel) (by decide +kernel)
set_option maxRecDepth 20000 in
theorem gX4_darken_X4_prepare : GoodIn wsX4_darken (wsV RX4 38 RX4 yX4_prepare wsX4_prepare) := goodIn_app (goodIn_of _ (by decide +kernel)) ggX4_darken_X4_prepare
set_option maxRecDepth 20000 in
theorem ggX4_darken_X1_removeSpot : GoodIn wsX4_darken wsX1_removeSpot := goodIn_r _ [35, 29, 28, 36, 6, 37, 38, 39, 40, 21, 41, 59, 60, 61, 62, 63] (by decide +kernel) (by decide +kernel)
set_option maxRecDepth 20000 in
theorem gX4_darken_X1_removeSpot : GoodIn wsX4_darken (wsV RX4 61 RX1 yX1_removeSpot wsX1_removeSpot) := goodIn_app (goodIn_of _ (by decide +kernel)) ggX4_darken_X1_removeSpot
set_option maxRecDepth 20000 in
theorem ggX4_darken_X4_finish : GoodIn wsX4_darken wsX4_finish := goodIn_r _ [45, 9, 46, 47, 48, 6, 49, 8, 50, 51, 52, 53, 54, 55] (by decide +kernel) (by decide +kernel)
set_option maxRecDepth 20000 in
theorem gX4_darken_X4_finish : GoodIn wsX4_darken (wsV RX4 51 RX4 yX4_finish wsX4_finish) := goodIn_app (goodIn_of _ (by decide +kernel)) ggX4_darken_X4_finish
theorem dX4_darken_0 : decode cX4_darken 0 = .ok (.aload_n 0, 1) := by decide +kernel
theorem dX4_darken_1 : decode cX4_darken 1 = .ok (.invokevirtual 38, 3) := by decide +kernel
theorem dX4_darken_4 : decode cX4_darken 4 = .ok (.aload_n 0, 1) := by decide +kernel
theorem dX4_darken_5 : decode cX4_darken 5 = .ok (.aload_n 0, 1) := by decide +kernel
theorem dX4_darken_6 : decode cX4_darken 6 = .ok (.getfield 10, 3) := by decide +kernel
theorem dX4_darken_9 : decode cX4_darken 9 = .ok (.getfield 41, 3) := by decide +kernel
theorem dX4_darken_12 : decode cX4_darken 12 = .ok (.iload_n 1, 1) := by decide +kernel
theorem dX4_darken_13 : decode cX4_darken 13 = .ok (.invokevirtual 61, 3) := by decide +kernel
theorem dX4_darken_16 : decode cX4_darken 16 = .ok (.invokevirtual 51, 3) := by decide +kernel
theorem dX4_darken_19 : decode cX4_darken 19 = .ok (.ireturn, 1) := by decide +kernel
set_option maxRecDepth 20000 in
theorem ggX4_exchange_X4_prepare : GoodIn wsX4_exchange wsX4_prepare := goodIn_r _ [7, 8, 9, 1, 10, 11, 12, 13, 14, 15, 16, 17, 18, 19, 20, 21, 22, 23, 24, 25, 26, 27, 28, 29, 30, 31, 62, 63, 64, 65, 66, 67, 68, 69, 70, 71, 72, 73, 74, 75] (by decide +kernel) (by decide +kernel)
set_option maxRecDepth 20000 in
theorem gX4_exchange_X4_prepare : GoodIn wsX4_exchange (wsV RX4 38 RX4 yX4_prepare wsX4_prepare) := goodIn_app (goodIn_of _ (by decide +kernel)) ggX4_exchange_X4_prepare
set_option maxRecDepth 20000 in
theorem ggX4_exchange_X1_swapPositions : GoodIn wsX4_exchange wsX1_swapPositions := goodIn_r _ [35, 29, 36, 37, 38, 21, 39, 28, 40, 41, 42, 43, 31, 44, 45, 46, 47, 48, 6, 49, 50, 51, 52, 53, 71, 72, 73, 74, 75] (by decide +kernel) (by decide +kernel)
set_option maxRecDepth 20000 in
theorem gX4_exchange_X1_swapPositions : GoodIn wsX4_exchange (wsV RX4 64 RX1 yX1_swapPositions wsX1_swapPositions) := goodIn_app (goodIn_of _ (by decide +kernel)) ggX4_exchange_X1_swapPositions
set_option maxRecDepth 20000 in
theorem ggX4_exchange_X4_finish : GoodIn wsX4_exchange wsX4_finish := goodIn_r _ [57, 9, 58, 59, 60, 6, 61, 8, 62, 63, 64, 65, 66, 67] (by decide +kernel) (by decide +kernel)
set_option maxRecDepth 20000 in
theorem gX4_exchange_X4_finish : GoodIn wsX4_exchange (wsV RX4 51 RX4 yX4_finish wsX4_finish) := goodIn_app (goodIn_of _ (by decide +kernel)) ggX4_exchange_X4_finish
theorem dX4_exchange_0 : decode cX4_exchange 0 = .ok (.aload_n 0, 1) := by decide +kernel
theorem dX4_exchange_1 : decode cX4_exchange 1 = .ok (.invokevirtual 38, 3) := by decide +kernel
theorem dX4_exchange_4 : decode cX4_exchange 4 = .ok (.aload_n 0, 1) := by decide +kernel
theorem dX4_exchange_5 : decode cX4_exchange 5 = .ok (.aload_n 0, 1) := by decide +kernel
theorem dX4_exchange_6 : decode cX4_exchange 6 = .ok (.getfield 10, 3) := by decide +kernel
theorem dX4_exchange_9 : decode cX4_exchange 9 = .ok (.getfield 41, 3) := by decide +kernel
theorem dX4_exchange_12 : decode cX4_exchange 12 = .ok (.iload_n 1, 1) := by decide +kernel
theorem dX4_exchange_13 : decode cX4_exchange 13 = .ok (.iload_n 2, 1) := by decide +kernel
theorem dX4_exchange_14 : decode cX4_exchange 14 = .ok (.invokevirtual 64, 3) := by decide +kernel
theorem dX4_exchange_17 : decode cX4_exchange 17 = .ok (.invokevirtual 51, 3) := by decide +kernel
theorem dX4_exchange_20 : decode cX4_exchange 20 = .ok (.ireturn, 1) := by decide +kernel
set_option maxRecDepth 20000 in
theorem ggX4_sort_X4_prepare : GoodIn wsX4_sort wsX4_prepare := goodIn_r _ [7, 8, 9, 1, 10, 11, 12, 13, 14, 15, 16, 17, 18, 19, 20, 21, 22, 23, 24, 25, 26, 27, 28, 29, 30, 31, 76, 77, 78, 79, 80, 81, 82, 83, 84, 85, 86, 87, 88, 89] (by decide +kernel) (by decide +kernel)
set_option maxRecDepth 20000 in
theorem gX4_sort_X4_prepare : GoodIn wsX4_sort (wsV RX4 38 RX4 yX4_prepare wsX4_prepare) := goodIn_app (goodIn_of _ (by decide +kernel)) ggX4_sort_X4_prepare
set_option maxRecDepth 20000 in
theorem ggX4_sort_X1_arrange : GoodIn wsX4_sort wsX1_arrange := goodIn_r _ [35, 29, 28, 36, 37, 38, 21, 39, 30, 23, 40, 6, 41, 42, 43, 44, 45, 46, 47, 48, 49, 50, 51, 52, 53, 54, 55, 56, 57, 58, 59, 60, 61, 62, 63, 31, 64, 65, 66, 67, 85, 86, 87, 88, 89] (by decide +kernel) (by decide +kernel)
set_option maxRecDepth 20000 in
theorem gX4_sort_X1_arrange : GoodIn wsX4_sort (wsV RX4 67 RX1 yX1_arrange wsX1_arrange) := goodIn_app (goodIn_of _ (by decide +kernel)) ggX4_sort_X1_arrange
set_option maxRecDepth 20000 in
theorem ggX4_sort_X4_finish : GoodIn wsX4_sort wsX4_finish := goodIn_r _ [71, 9, 72, 73, 74, 6, 75, 8, 76, 77, 78, 79, 80, 81] (by decide +kernel) (by decide +kernel)
set_option maxRecDepth 20000 in
theorem gX4_sort_X4_finish : GoodIn wsX4_sort (wsV RX4 51 RX4 yX4_finish wsX4_finish) := goodIn_app (goodIn_of _ (by decide +kernel)) ggX4_sort_X4_finish
theorem dX4_sort_0 : decode cX4_sort 0 = .ok (.aload_n 0, 1) := by decide +kernel
theorem dX4_sort_1 : decode cX4_sort 1 = .ok (.invokevirtual 38, 3) := by decide +kernel
theorem dX4_sort_4 : decode cX4_sort 4 = .ok (.aload_n 0, 1) := by decide +kernel
theorem dX4_sort_5 : decode cX4_sort 5 = .ok (.aload_n 0, 1) := by decide +kernel
theorem dX4_sort_6 : decode cX4_sort 6 = .ok (.getfield 10, 3) := by decide +kernel
theorem dX4_sort_9 : decode cX4_sort 9 = .ok (.getfield 41, 3) := by decide +kernel
theorem dX4_sort_12 : decode cX4_sort 12 = .ok (.iload_n 1, 1) := by decide +kernel
theorem dX4_sort_13 : decode cX4_sort 13 = .ok (.invokevirtual 67, 3) := by decide +kernel
theorem dX4_sort_16 : decode cX4_sort 16 = .ok (.invokevirtual 51, 3) := by decide +kernel
theorem dX4_sort_19 : decode cX4_sort 19 = .ok (.ireturn, 1) := by decide +kernel
set_option maxRecDepth 20000 in
theorem ggX4_draw_X4_prepare : GoodIn wsX4_draw wsX4_prepare := goodIn_r _ [7, 8, 9, 1, 10, 11, 12, 13, 14, 15, 16, 17, 18, 19, 20, 21, 22, 23, 24, 25, 26, 27, 28, 29, 30, 31, 54, 55, 56, 57, 58, 59, 60, 61, 62, 63, 64, 65, 66, 67] (by decide +kernel) (by decide +kernel)
set_option maxRecDepth 20000 in
theorem gX4_draw_X4_prepare : GoodIn wsX4_draw (wsV RX4 38 RX4 yX4_prepare wsX4_prepare) := goodIn_app (goodIn_of _ (by decide +kernel)) ggX4_draw_X4_prepare
set_option maxRecDepth 20000 in
theorem ggX4_draw_X1_paint : GoodIn wsX4_draw wsX1_paint := goodIn_r _ [35, 30, 36, 37, 6, 38, 39, 40, 41, 42, 43, 44, 45, 63, 64, 65, 66, 67] (by decide +kernel) (by decide +kernel)
set_option maxRecDepth 20000 in
theorem gX4_draw_X1_paint : GoodIn wsX4_draw (wsV RX4 70 RX1 yX1_paint wsX1_paint) := goodIn_app (goodIn_of _ (by decide +kernel)) ggX4_draw_X1_paint
set_option maxRecDepth 20000 in
theorem ggX4_draw_X4_finish : GoodIn wsX4_draw wsX4_finish := goodIn_r _ [49, 9, 50, 51, 52, 6, 53, 8, 54, 55, 56, 57, 58, 59] (by decide +kernel) (by decide +kernel)
set_option maxRecDepth 20000 in
theorem gX4_draw_X4_finish : GoodIn wsX4_draw (wsV RX4 51 RX4 yX4_finish wsX4_finish) := goodIn_app (goodIn_of _ (by decide +kernel)) ggX4_draw_X4_finish
theorem dX4_draw_0 : decode cX4_draw 0 = .ok (.aload_n 0, 1) := by decide +kernel
theorem dX4_draw_1 : decode cX4_draw 1 = .ok (.invokevirtual 38, 3) := by decide +kernel
theorem dX4_draw_4 : decode cX4_draw 4 = .ok (.aload_n 0, 1) := by decide +kernel
theorem dX4_draw_5 : decode cX4_draw 5 = .ok (.aload_n 0, 1) := by decide +kernel
theorem dX4_draw_6 : decode cX4_draw 6 = .ok (.getfield 10, 3) := by decide +kernel
theorem dX4_draw_9 : decode cX4_draw 9 = .ok (.getfield 41, 3) := by decide +kernel
theorem dX4_draw_12 : decode cX4_draw 12 = .ok (.iload_n 1, 1) := by decide +kernel
theorem dX4_draw_13 : decode cX4_draw 13 = .ok (.iload_n 2, 1) := by decide +kernel
theorem dX4_draw_14 : decode cX4_draw 14 = .ok (.iload_n 3, 1) := by decide +kernel
theorem dX4_draw_15 : decode cX4_draw 15 = .ok (.invokevirtual 70, 3) := by decide +kernel
theorem dX4_draw_18 : decode cX4_draw 18 = .ok (.invokevirtual 51, 3) := by decide +kernel
theorem dX4_draw_21 : decode cX4_draw 21 = .ok (.ireturn, 1) := by decide +kernel
set_option maxRecDepth 20000 in
theorem ggX4_take_X4_prepare : GoodIn wsX4_take wsX4_prepare := goodIn_r _ [6, 7, 8, 1, 9, 10, 11, 12, 13, 14, 15, 16, 17, 18, 19, 20, 21, 22, 23, 24, 25, 26, 27, 28, 29, 30, 47, 48, 49, 50, 51, 52, 53, 54, 55, 56, 57, 58, 59, 60] (by decide +kernel) (by decide +kernel)
set_option maxRecDepth 20000 in
theorem gX4_take_X4_prepare : GoodIn wsX4_take (wsV RX4 38 RX4 yX4_prepare wsX4_prepare) := goodIn_app (goodIn_of _ (by decide +kernel)) ggX4_take_X4_prepare
set_option maxRecDepth 20000 in
theorem ggX4_take_X2_keepSnapshot : GoodIn wsX4_take wsX2_keepSnapshot := goodIn_r _ [34, 15, 14, 16, 35, 36, 37, 12, 38, 17, 18, 19, 20, 21, 22, 23, 24, 25, 26, 27, 28, 29, 30, 53, 54, 55, 56, 57, 58, 59, 60] (by decide +kernel) (by decide +kernel)
set_option maxRecDepth 20000 in
theorem gX4_take_X2_keepSnapshot : GoodIn wsX4_take (wsV RX4 74 RX2 yX2_keepSnapshot wsX2_keepSnapshot) := goodIn_app (goodIn_of _ (by decide +kernel)) ggX4_take_X2_keepSnapshot
set_option maxRecDepth 20000 in
theorem ggX4_take_X4_finish : GoodIn wsX4_take wsX4_finish := goodIn_r _ [42, 8, 43, 44, 45, 5, 46, 7, 47, 48, 49, 50, 51, 52] (by decide +kernel) (by decide +kernel)
set_option maxRecDepth 20000 in
theorem gX4_take_X4_finish : GoodIn wsX4_take (wsV RX4 51 RX4 yX4_finish wsX4_finish) := goodIn_app (goodIn_of _ (by decide +kernel)) ggX4_take_X4_finish
theorem dX4_take_0 : decode cX4_take 0 = .ok (.aload_n 0, 1) := by decide +kernel
theorem dX4_take_1 : decode cX4_take 1 = .ok (.invokevirtual 38, 3) := by decide +kernel
theorem dX4_take_4 : decode cX4_take 4 = .ok (.aload_n 0, 1) := by decide +kernel
theorem dX4_take_5 : decode cX4_take 5 = .ok (.aload_n 0, 1) := by decide +kernel
theorem dX4_take_6 : decode cX4_take 6 = .ok (.getfield 10, 3) := by decide +kernel
theorem dX4_take_9 : decode cX4_take 9 = .ok (.iload_n 1, 1) := by decide +kernel
theorem dX4_take_10 : decode cX4_take 10 = .ok (.invokevirtual 74, 3) := by decide +kernel
theorem dX4_take_13 : decode cX4_take 13 = .ok (.invokevirtual 51, 3) := by decide +kernel
theorem dX4_take_16 : decode cX4_take 16 = .ok (.ireturn, 1) := by decide +kernel
set_option maxRecDepth 20000 in
theorem ggX4_restore_X4_prepare : GoodIn wsX4_restore wsX4_prepare := goodIn_r _ [6, 7, 8, 1, 9, 10, 11, 12, 13, 14, 15, 16, 17, 18, 19, 20, 21, 22, 23, 24, 25, 26, 27, 28, 29, 30, 47, 48, 49, 50, 51, 52, 53, 54, 55, 56, 57, 58, 59, 60] (by decide +kernel) (by decide +kernel)
set_option maxRecDepth 20000 in
theorem gX4_restore_X4_prepare : GoodIn wsX4_restore (wsV RX4 38 RX4 yX4_prepare wsX4_prepare) := goodIn_app (goodIn_of _ (by decide +kernel)) ggX4_restore_X4_prepare
set_option maxRecDepth 20000 in
theorem ggX4_restore_X2_showSnapshot : GoodIn wsX4_restore wsX2_showSnapshot := goodIn_r _ [34, 16, 14, 15, 35, 36, 37, 12, 38, 17, 18, 19, 20, 21, 22, 23, 24, 25, 26, 27, 28, 29, 30, 53, 54, 55, 56, 57, 58, 59, 60] (by decide +kernel) (by decide +kernel)
set_option maxRecDepth 20000 in
theorem gX4_restore_X2_showSnapshot : GoodIn wsX4_restore (wsV RX4 77 RX2 yX2_showSnapshot wsX2_showSnapshot) := goodIn_app (goodIn_of _ (by decide +kernel)) ggX4_restore_X2_showSnapshot
set_option maxRecDepth 20000 in
theorem ggX4_restore_X4_finish : GoodIn wsX4_restore wsX4_finish := goodIn_r _ [42, 8, 43, 44, 45, 5, 46, 7, 47, 48, 49, 50, 51, 52] (by decide +kernel) (by decide +kernel)
set_option maxRecDepth 20000 in
theorem gX4_restore_X4_finish : GoodIn wsX4_restore (wsV RX4 51 RX4 yX4_finish wsX4_finish) := goodIn_app (goodIn_of _ (by decide +kernel)) ggX4_restore_X4_finish
theorem dX4_restore_0 : decode cX4_restore 0 = .ok (.aload_n 0, 1) := by decide +kernel
theorem dX4_restore_1 : decode cX4_restore 1 = .ok (.invokevirtual 38, 3) := by decide +kernel
theorem dX4_restore_4 : decode cX4_restore 4 = .ok (.aload_n 0, 1) := by decide +kernel
theorem dX4_restore_5 : decode cX4_restore 5 = .ok (.aload_n 0, 1) := by decide +kernel
theorem dX4_restore_6 : decode cX4_restore 6 = .ok (.getfield 10, 3) := by decide +kernel
theorem dX4_restore_9 : decode cX4_restore 9 = .ok (.iload_n 1, 1) := by decide +kernel
theorem dX4_restore_10 : decode cX4_restore 10 = .ok (.invokevirtual 77, 3) := by decide +kernel
theorem dX4_restore_13 : decode cX4_restore 13 = .ok (.invokevirtual 51, 3) := by decide +kernel
theorem dX4_restore_16 : decode cX4_restore 16 = .ok (.ireturn, 1) := by decide +kernel
set_option maxRecDepth 20000 in
theorem ggX4_undo_X2_copyFrom : GoodIn wsX4_undo wsX2_copyFrom := goodIn_r _ [8, 9, 10, 11, 12, 13, 14, 15, 16, 17, 18, 19, 20, 21, 22, 23, 24, 25, 32, 33, 34, 35, 36, 37, 38, 39] (by decide +kernel) (by decide +kernel)
set_option maxRecDepth 20000 in
theorem gX4_undo_X2_copyFrom : GoodIn wsX4_undo (wsV RX4 84 RX2 yX2_copyFrom wsX2_copyFrom) := goodIn_app (goodIn_of _ (by decide +kernel)) ggX4_undo_X2_copyFrom
theorem dX4_undo_0 : decode cX4_undo 0 = .ok (.aload_n 0, 1) := by decide +kernel
theorem dX4_undo_1 : decode cX4_undo 1 = .ok (.getfield 80, 3) := by decide +kernel
theorem dX4_undo_4 : decode cX4_undo 4 = .ok (.iconst 1, 1) := by decide +kernel
theorem dX4_undo_5 : decode cX4_undo 5 = .ok (.if_icmp .ge 6, 3) := by decide +kernel
theorem dX4_undo_8 : decode cX4_undo 8 = .ok (.bipush (-2), 2) := by decide +kernel
theorem dX4_undo_10 : decode cX4_undo 10 = .ok (.ireturn, 1) := by decide +kernel
theorem dX4_undo_11 : decode cX4_undo 11 = .ok (.aload_n 0, 1) := by decide +kernel
theorem dX4_undo_12 : decode cX4_undo 12 = .ok (.dup, 1) := by decide +kernel
theorem dX4_undo_13 : decode cX4_undo 13 = .ok (.getfield 80, 3) := by decide +kernel
theorem dX4_undo_16 : decode cX4_undo 16 = .ok (.iconst 1, 1) := by decide +kernel
theorem dX4_undo_17 : decode cX4_undo 17 = .ok (.isub, 1) := by decide +kernel
theorem dX4_undo_18 : decode cX4_undo 18 = .ok (.putfield 80, 3) := by decide +kernel
theorem dX4_undo_21 : decode cX4_undo 21 = .ok (.aload_n 0, 1) := by decide +kernel
theorem dX4_undo_22 : decode cX4_undo 22 = .ok (.getfield 10, 3) := by decide +kernel
theorem dX4_undo_25 : decode cX4_undo 25 = .ok (.aload_n 0, 1) := by decide +kernel
theorem dX4_undo_26 : decode cX4_undo 26 = .ok (.getfield 16, 3) := by decide +kernel
theorem dX4_undo_29 : decode cX4_undo 29 = .ok (.aload_n 0, 1) := by decide +kernel
theorem dX4_undo_30 : decode cX4_undo 30 = .ok (.getfield 80, 3) := by decide +kernel
theorem dX4_undo_33 : decode cX4_undo 33 = .ok (.aaload, 1) := by decide +kernel
theorem dX4_undo_34 : decode cX4_undo 34 = .ok (.invokevirtual 84, 3) := by decide +kernel
theorem dX4_undo_37 : decode cX4_undo 37 = .ok (.aload_n 0, 1) := by decide +kernel
theorem dX4_undo_38 : decode cX4_undo 38 = .ok (.getfield 80, 3) := by decide +kernel
theorem dX4_undo_41 : decode cX4_undo 41 = .ok (.ireturn, 1) := by decide +kernel
set_option maxRecDepth 20000 in
theorem ggX4_count_X1_litSize : GoodIn wsX4_count wsX1_litSize := goodIn_r _ [12, 13, 14, 15, 16, 17, 11, 18, 19, 20, 21, 22, 23, 24, 25, 26, 114, 115, 116, 117, 118] (by decide +kernel) (by decide +kernel)
set_option maxRecDepth 20000 in
theorem gX4_count_X1_litSize : GoodIn wsX4_count (wsV RX4 105 RX1 yX1_litSize wsX1_litSize) := goodIn_app (goodIn_of _ (by decide +kernel)) ggX4_count_X1_litSize
set_option maxRecDepth 20000 in
theorem ggX4_count_J13_bitCount_95d88 : GoodIn wsX4_count wsJ13_bitCount_95d88 := goodIn_r _ [30, 31, 32, 33] (by decide +kernel) (by decide +kernel)
set_option maxRecDepth 20000 in
theorem gX4_count_J13_bitCount_95d88 : GoodIn wsX4_count (va_wsS RX4 112 yJ13_bitCount_95d88 wsJ13_bitCount_95d88) := goodIn_app (goodIn_of _ (by decide +kernel)) ggX4_count_J13_bitCount_95d88
set_option maxRecDepth 20000 in
theorem ggX4_count_X1_seenByEye : GoodIn wsX4_count wsX1_seenByEye := goodIn_r _ [37, 14, 38, 39, 40, 11, 41, 13, 19, 42, 43, 44, 45, 46, 47, 48, 49, 50, 51, 52, 53, 15, 16, 17, 18, 20, 21, 22, 23, 24, 25, 26, 54, 55, 56, 57, 58, 59, 60, 61, 62, 63, 64, 65, 66, 67, 68, 69, 70, 114, 115, 116, 117, 118] (by decide +kernel) (by decide +kernel)
set_option maxRecDepth 20000 in
theorem gX4_count_X1_seenByEye : GoodIn wsX4_count (wsV RX4 118 RX1 yX1_seenByEye wsX1_seenByEye) := goodIn_app (goodIn_of _ (by decide +kernel)) ggX4_count_X1_seenByEye
set_option maxRecDepth 20000 in
theorem ggX4_count_X1_seenByShutter : GoodIn wsX4_count wsX1_seenByShutter := goodIn_r _ [74, 14, 75, 76, 77, 11, 78, 38, 39, 40, 41, 13, 19, 42, 43, 44, 45, 46, 47, 48, 49, 50, 51, 52, 53, 15, 16, 17, 18, 20, 21, 22, 23, 24, 25, 26, 54, 55, 56, 57, 58, 59, 60, 61, 62, 63, 64, 65, 66, 67, 68, 69, 70, 114, 115, 116, 117, 118] (by decide +kernel) (by decide +kernel)
