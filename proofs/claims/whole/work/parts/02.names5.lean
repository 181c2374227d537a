theorem dX5_count_118 : decode cX5_count 118 = .ok (.aload_n 0, 1) := by decide +kernel
theorem dX5_count_119 : decode cX5_count 119 = .ok (.iload_n 1, 1) := by decide +kernel
theorem dX5_count_120 : decode cX5_count 120 = .ok (.iconst 4, 1) := by decide +kernel
theorem dX5_count_121 : decode cX5_count 121 = .ok (.isub, 1) := by decide +kernel
theorem dX5_count_122 : decode cX5_count 122 = .ok (.invokevirtual 208, 3) := by decide +kernel
theorem dX5_count_125 : decode cX5_count 125 = .ok (.ireturn, 1) := by decide +kernel
theorem dX5_count_126 : decode cX5_count 126 = .ok (.aload_n 0, 1) := by decide +kernel
theorem dX5_count_127 : decode cX5_count 127 = .ok (.iload_n 1, 1) := by decide +kernel
theorem dX5_count_128 : decode cX5_count 128 = .ok (.bipush 6, 2) := by decide +kernel
theorem dX5_count_130 : decode cX5_count 130 = .ok (.isub, 1) := by decide +kernel
theorem dX5_count_131 : decode cX5_count 131 = .ok (.invokevirtual 211, 3) := by decide +kernel
theorem dX5_count_134 : decode cX5_count 134 = .ok (.ireturn, 1) := by decide +kernel
theorem dX5_count_135 : decode cX5_count 135 = .ok (.aload_n 0, 1) := by decide +kernel
theorem dX5_count_136 : decode cX5_count 136 = .ok (.invokevirtual 214, 3) := by decide +kernel
theorem dX5_count_139 : decode cX5_count 139 = .ok (.ireturn, 1) := by decide +kernel
theorem dX5_count_140 : decode cX5_count 140 = .ok (.aload_n 0, 1) := by decide +kernel
theorem dX5_count_141 : decode cX5_count 141 = .ok (.invokevirtual 217, 3) := by decide +kernel
theorem dX5_count_144 : decode cX5_count 144 = .ok (.ireturn, 1) := by decide +kernel
theorem dX5_count_145 : decode cX5_count 145 = .ok (.aload_n 0, 1) := by decide +kernel
theorem dX5_count_146 : decode cX5_count 146 = .ok (.getfield 7, 3) := by decide +kernel
theorem dX5_count_149 : decode cX5_count 149 = .ok (.iconst 0, 1) := by decide +kernel
theorem dX5_count_150 : decode cX5_count 150 = .ok (.invokestatic 151, 3) := by decide +kernel
theorem dX5_count_153 : decode cX5_count 153 = .ok (.iaload, 1) := by decide +kernel
theorem dX5_count_154 : decode cX5_count 154 = .ok (.aload_n 0, 1) := by decide +kernel
theorem dX5_count_155 : decode cX5_count 155 = .ok (.getfield 7, 3) := by decide +kernel
theorem dX5_count_158 : decode cX5_count 158 = .ok (.iconst 1, 1) := by decide +kernel
theorem dX5_count_159 : decode cX5_count 159 = .ok (.invokestatic 151, 3) := by decide +kernel
theorem dX5_count_162 : decode cX5_count 162 = .ok (.iaload, 1) := by decide +kernel
theorem dX5_count_163 : decode cX5_count 163 = .ok (.iadd, 1) := by decide +kernel
theorem dX5_count_164 : decode cX5_count 164 = .ok (.ireturn, 1) := by decide +kernel
theorem dX5_count_165 : decode cX5_count 165 = .ok (.aload_n 0, 1) := by decide +kernel
theorem dX5_count_166 : decode cX5_count 166 = .ok (.getfield 40, 3) := by decide +kernel
theorem dX5_count_169 : decode cX5_count 169 = .ok (.ireturn, 1) := by decide +kernel
theorem dX5_count_170 : decode cX5_count 170 = .ok (.aload_n 0, 1) := by decide +kernel
theorem dX5_count_171 : decode cX5_count 171 = .ok (.getfield 154, 3) := by decide +kernel
theorem dX5_count_174 : decode cX5_count 174 = .ok (.ireturn, 1) := by decide +kernel
theorem dX5_count_175 : decode cX5_count 175 = .ok (.iconst (-1), 1) := by decide +kernel
theorem dX5_count_176 : decode cX5_count 176 = .ok (.ireturn, 1) := by decide +kernel
set_option maxRecDepth 20000 in
theorem ggX5_flickerOf_X5_brightnessAt : GoodIn wsX5_flickerOf wsX5_brightnessAt := goodIn_r _ [6, 7, 1, 8, 9, 5, 10, 11, 12, 13, 14, 15, 16, 17, 18, 19, 20, 21, 22, 23, 24, 25, 26, 27] (by decide +kernel) (by decide +kernel)
set_option maxRecDepth 20000 in
theorem gX5_flickerOf_X5_brightnessAt : GoodIn wsX5_flickerOf (wsV RX5 60 RX5 yX5_brightnessAt wsX5_brightnessAt) := goodIn_app (goodIn_of _ (by decide +kernel)) ggX5_flickerOf_X5_brightnessAt
theorem dX5_flickerOf_0 : decode cX5_flickerOf 0 = .ok (.bipush 100, 2) := by decide +kernel
theorem dX5_flickerOf_2 : decode cX5_flickerOf 2 = .ok (.istore_n 2, 1) := by decide +kernel
theorem dX5_flickerOf_3 : decode cX5_flickerOf 3 = .ok (.iconst 0, 1) := by decide +kernel
theorem dX5_flickerOf_4 : decode cX5_flickerOf 4 = .ok (.istore_n 3, 1) := by decide +kernel
theorem dX5_flickerOf_5 : decode cX5_flickerOf 5 = .ok (.iconst 0, 1) := by decide +kernel
theorem dX5_flickerOf_6 : decode cX5_flickerOf 6 = .ok (.istore 4, 2) := by decide +kernel
theorem dX5_flickerOf_8 : decode cX5_flickerOf 8 = .ok (.iload 4, 2) := by decide +kernel
theorem dX5_flickerOf_10 : decode cX5_flickerOf 10 = .ok (.aload_n 0, 1) := by decide +kernel
theorem dX5_flickerOf_11 : decode cX5_flickerOf 11 = .ok (.getfield 7, 3) := by decide +kernel
theorem dX5_flickerOf_14 : decode cX5_flickerOf 14 = .ok (.iconst 0, 1) := by decide +kernel
theorem dX5_flickerOf_15 : decode cX5_flickerOf 15 = .ok (.iaload, 1) := by decide +kernel
theorem dX5_flickerOf_16 : decode cX5_flickerOf 16 = .ok (.if_icmp .ge 44, 3) := by decide +kernel
theorem dX5_flickerOf_19 : decode cX5_flickerOf 19 = .ok (.aload_n 0, 1) := by decide +kernel
theorem dX5_flickerOf_20 : decode cX5_flickerOf 20 = .ok (.iload_n 1, 1) := by decide +kernel
theorem dX5_flickerOf_21 : decode cX5_flickerOf 21 = .ok (.iload 4, 2) := by decide +kernel
theorem dX5_flickerOf_23 : decode cX5_flickerOf 23 = .ok (.invokevirtual 60, 3) := by decide +kernel
theorem dX5_flickerOf_26 : decode cX5_flickerOf 26 = .ok (.istore 5, 2) := by decide +kernel
theorem dX5_flickerOf_28 : decode cX5_flickerOf 28 = .ok (.iload 5, 2) := by decide +kernel
theorem dX5_flickerOf_30 : decode cX5_flickerOf 30 = .ok (.iload_n 2, 1) := by decide +kernel
theorem dX5_flickerOf_31 : decode cX5_flickerOf 31 = .ok (.if_icmp .ge 8, 3) := by decide +kernel
theorem dX5_flickerOf_34 : decode cX5_flickerOf 34 = .ok (.iload 5, 2) := by decide +kernel
theorem dX5_flickerOf_36 : decode cX5_flickerOf 36 = .ok (.goto 4, 3) := by decide +kernel
theorem dX5_flickerOf_39 : decode cX5_flickerOf 39 = .ok (.iload_n 2, 1) := by decide +kernel
theorem dX5_flickerOf_40 : decode cX5_flickerOf 40 = .ok (.istore_n 2, 1) := by decide +kernel
theorem dX5_flickerOf_41 : decode cX5_flickerOf 41 = .ok (.iload 5, 2) := by decide +kernel
theorem dX5_flickerOf_43 : decode cX5_flickerOf 43 = .ok (.iload_n 3, 1) := by decide +kernel
theorem dX5_flickerOf_44 : decode cX5_flickerOf 44 = .ok (.if_icmp .le 8, 3) := by decide +kernel
theorem dX5_flickerOf_47 : decode cX5_flickerOf 47 = .ok (.iload 5, 2) := by decide +kernel
theorem dX5_flickerOf_49 : decode cX5_flickerOf 49 = .ok (.goto 4, 3) := by decide +kernel
theorem dX5_flickerOf_52 : decode cX5_flickerOf 52 = .ok (.iload_n 3, 1) := by decide +kernel
theorem dX5_flickerOf_53 : decode cX5_flickerOf 53 = .ok (.istore_n 3, 1) := by decide +kernel
theorem dX5_flickerOf_54 : decode cX5_flickerOf 54 = .ok (.iinc 4 1, 3) := by decide +kernel
theorem dX5_flickerOf_57 : decode cX5_flickerOf 57 = .ok (.goto (-49), 3) := by decide +kernel
theorem dX5_flickerOf_60 : decode cX5_flickerOf 60 = .ok (.iload_n 3, 1) := by decide +kernel
theorem dX5_flickerOf_61 : decode cX5_flickerOf 61 = .ok (.iload_n 2, 1) := by decide +kernel
theorem dX5_flickerOf_62 : decode cX5_flickerOf 62 = .ok (.isub, 1) := by decide +kernel
theorem dX5_flickerOf_63 : decode cX5_flickerOf 63 = .ok (.ireturn, 1) := by decide +kernel
set_option maxRecDepth 20000 in
theorem ggX5_spot_X5_isSpot : GoodIn wsX5_spot wsX5_isSpot := goodIn_r _ [7, 8, 9, 6, 10] (by decide +kernel) (by decide +kernel)
set_option maxRecDepth 20000 in
theorem gX5_spot_X5_isSpot : GoodIn wsX5_spot (va_wsS RX5 92 yX5_isSpot wsX5_isSpot) := goodIn_app (goodIn_of _ (by decide +kernel)) ggX5_spot_X5_isSpot
set_option maxRecDepth 20000 in
theorem ggX5_spot_X5_in : GoodIn wsX5_spot wsX5_in := goodIn_r _ [10] (by decide +kernel) (by decide +kernel)
set_option maxRecDepth 20000 in
theorem gX5_spot_X5_in : GoodIn wsX5_spot (va_wsS RX5 36 yX5_in wsX5_in) := goodIn_app (goodIn_of _ (by decide +kernel)) ggX5_spot_X5_in
set_option maxRecDepth 20000 in
theorem ggX5_spot_X5_beam : GoodIn wsX5_spot wsX5_beam := goodIn_r _ [14, 3, 2, 15, 16, 17, 6, 18, 19, 20, 21, 22, 23, 24, 63, 64, 65, 66, 67, 68, 69, 70, 71, 72, 73, 74, 75, 76] (by decide +kernel) (by decide +kernel)
set_option maxRecDepth 20000 in
theorem gX5_spot_X5_beam : GoodIn wsX5_spot (wsV RX5 80 RX5 yX5_beam wsX5_beam) := goodIn_app (goodIn_of _ (by decide +kernel)) ggX5_spot_X5_beam
set_option maxRecDepth 20000 in
theorem ggX5_spot_X5_positionOf : GoodIn wsX5_spot wsX5_positionOf := goodIn_r _ [28, 2, 15, 16, 17, 6, 18, 63, 64, 65, 66, 67, 68, 69, 70, 71, 72, 73, 74, 75, 76] (by decide +kernel) (by decide +kernel)
set_option maxRecDepth 20000 in
theorem gX5_spot_X5_positionOf : GoodIn wsX5_spot (wsV RX5 101 RX5 yX5_positionOf wsX5_positionOf) := goodIn_app (goodIn_of _ (by decide +kernel)) ggX5_spot_X5_positionOf
set_option maxRecDepth 20000 in
theorem ggX5_spot_X5_isEyed : GoodIn wsX5_spot wsX5_isEyed := goodIn_r _ [32, 3, 2, 33, 34, 35, 6, 36, 37, 38, 39, 40, 41, 42, 43, 44, 45, 46, 63, 64, 65, 66, 67, 68, 69, 70, 71, 72, 73, 74, 75, 76] (by decide +kernel) (by decide +kernel)
set_option maxRecDepth 20000 in
theorem gX5_spot_X5_isEyed : GoodIn wsX5_spot (wsV RX5 73 RX5 yX5_isEyed wsX5_isEyed) := goodIn_app (goodIn_of _ (by decide +kernel)) ggX5_spot_X5_isEyed
set_option maxRecDepth 20000 in
theorem ggX5_spot_X5_isShotNow : GoodIn wsX5_spot wsX5_isShotNow := goodIn_r _ [50, 2, 51, 52, 53, 6, 54, 3, 55, 56, 57, 58, 37, 38, 39, 40, 41, 42, 43, 44, 45, 46, 63, 64, 65, 66, 67, 68, 69, 70, 71, 72, 73, 74, 75, 76] (by decide +kernel) (by decide +kernel)
set_option maxRecDepth 20000 in
theorem gX5_spot_X5_isShotNow : GoodIn wsX5_spot (wsV RX5 77 RX5 yX5_isShotNow wsX5_isShotNow) := goodIn_app (goodIn_of _ (by decide +kernel)) ggX5_spot_X5_isShotNow
set_option maxRecDepth 20000 in
theorem ggX5_spot_X5_eyeMean : GoodIn wsX5_spot wsX5_eyeMean := goodIn_r _ [36, 2, 37, 38, 39, 6, 40, 3, 41, 42, 43, 44, 45, 46, 63, 64, 65, 66, 67, 68, 69, 70, 71, 72, 73, 74, 75, 76] (by decide +kernel) (by decide +kernel)
set_option maxRecDepth 20000 in
theorem gX5_spot_X5_eyeMean : GoodIn wsX5_spot (wsV RX5 63 RX5 yX5_eyeMean wsX5_eyeMean) := goodIn_app (goodIn_of _ (by decide +kernel)) ggX5_spot_X5_eyeMean
set_option maxRecDepth 20000 in
theorem ggX5_spot_X5_shutterMean : GoodIn wsX5_spot wsX5_shutterMean := goodIn_r _ [58, 2, 37, 38, 39, 6, 40, 3, 41, 42, 43, 44, 45, 46, 63, 64, 65, 66, 67, 68, 69, 70, 71, 72, 73, 74, 75, 76] (by decide +kernel) (by decide +kernel)
set_option maxRecDepth 20000 in
theorem gX5_spot_X5_shutterMean : GoodIn wsX5_spot (wsV RX5 66 RX5 yX5_shutterMean wsX5_shutterMean) := goodIn_app (goodIn_of _ (by decide +kernel)) ggX5_spot_X5_shutterMean
set_option maxRecDepth 20000 in
theorem ggX5_spot_X5_flickerOf : GoodIn wsX5_spot wsX5_flickerOf := goodIn_r _ [62, 2, 37, 38, 39, 6, 40, 3, 41, 42, 43, 44, 45, 46, 63, 64, 65, 66, 67, 68, 69, 70, 71, 72, 73, 74, 75, 76] (by decide +kernel) (by decide +kernel)
set_option maxRecDepth 20000 in
theorem gX5_spot_X5_flickerOf : GoodIn wsX5_spot (wsV RX5 220 RX5 yX5_flickerOf wsX5_flickerOf) := goodIn_app (goodIn_of _ (by decide +kernel)) ggX5_spot_X5_flickerOf
theorem dX5_spot_0 : decode cX5_spot 0 = .ok (.aload_n 0, 1) := by decide +kernel
theorem dX5_spot_1 : decode cX5_spot 1 = .ok (.iconst 0, 1) := by decide +kernel
theorem dX5_spot_2 : decode cX5_spot 2 = .ok (.putfield 32, 3) := by decide +kernel
theorem dX5_spot_5 : decode cX5_spot 5 = .ok (.iload_n 1, 1) := by decide +kernel
theorem dX5_spot_6 : decode cX5_spot 6 = .ok (.invokestatic 92, 3) := by decide +kernel
theorem dX5_spot_9 : decode cX5_spot 9 = .ok (.ifCond .eq 13, 3) := by decide +kernel
theorem dX5_spot_12 : decode cX5_spot 12 = .ok (.iload_n 2, 1) := by decide +kernel
theorem dX5_spot_13 : decode cX5_spot 13 = .ok (.iconst 0, 1) := by decide +kernel
theorem dX5_spot_14 : decode cX5_spot 14 = .ok (.bipush 9, 2) := by decide +kernel
theorem dX5_spot_16 : decode cX5_spot 16 = .ok (.invokestatic 36, 3) := by decide +kernel
theorem dX5_spot_19 : decode cX5_spot 19 = .ok (.ifCond .ne 5, 3) := by decide +kernel
theorem dX5_spot_22 : decode cX5_spot 22 = .ok (.iconst (-1), 1) := by decide +kernel
theorem dX5_spot_23 : decode cX5_spot 23 = .ok (.ireturn, 1) := by decide +kernel
theorem dX5_spot_24 : decode cX5_spot 24 = .ok (.aload_n 0, 1) := by decide +kernel
theorem dX5_spot_25 : decode cX5_spot 25 = .ok (.invokevirtual 80, 3) := by decide +kernel
theorem dX5_spot_28 : decode cX5_spot 28 = .ok (.iload_n 2, 1) := by decide +kernel
theorem dX5_spot_29 : decode cX5_spot 29 = .ok (.tableswitch 147 0 8 #[51, 61, 71, 82, 88, 95, 109, 123, 129], 51) := by decide +kernel
theorem dX5_spot_80 : decode cX5_spot 80 = .ok (.aload_n 0, 1) := by decide +kernel
theorem dX5_spot_81 : decode cX5_spot 81 = .ok (.getfield 7, 3) := by decide +kernel
theorem dX5_spot_84 : decode cX5_spot 84 = .ok (.bipush 19, 2) := by decide +kernel
theorem dX5_spot_86 : decode cX5_spot 86 = .ok (.iload_n 1, 1) := by decide +kernel
theorem dX5_spot_87 : decode cX5_spot 87 = .ok (.iadd, 1) := by decide +kernel
theorem dX5_spot_88 : decode cX5_spot 88 = .ok (.iaload, 1) := by decide +kernel
theorem dX5_spot_89 : decode cX5_spot 89 = .ok (.ireturn, 1) := by decide +kernel
theorem dX5_spot_90 : decode cX5_spot 90 = .ok (.aload_n 0, 1) := by decide +kernel
theorem dX5_spot_91 : decode cX5_spot 91 = .ok (.getfield 7, 3) := by decide +kernel
theorem dX5_spot_94 : decode cX5_spot 94 = .ok (.bipush 83, 2) := by decide +kernel
theorem dX5_spot_96 : decode cX5_spot 96 = .ok (.iload_n 1, 1) := by decide +kernel
theorem dX5_spot_97 : decode cX5_spot 97 = .ok (.iadd, 1) := by decide +kernel
theorem dX5_spot_98 : decode cX5_spot 98 = .ok (.iaload, 1) := by decide +kernel
theorem dX5_spot_99 : decode cX5_spot 99 = .ok (.ireturn, 1) := by decide +kernel
theorem dX5_spot_100 : decode cX5_spot 100 = .ok (.aload_n 0, 1) := by decide +kernel
theorem dX5_spot_101 : decode cX5_spot 101 = .ok (.getfield 7, 3) := by decide +kernel
theorem dX5_spot_104 : decode cX5_spot 104 = .ok (.sipush 147, 3) := by decide +kernel
theorem dX5_spot_107 : decode cX5_spot 107 = .ok (.iload_n 1, 1) := by decide +kernel
theorem dX5_spot_108 : decode cX5_spot 108 = .ok (.iadd, 1) := by decide +kernel
theorem dX5_spot_109 : decode cX5_spot 109 = .ok (.iaload, 1) := by decide +kernel
theorem dX5_spot_110 : decode cX5_spot 110 = .ok (.ireturn, 1) := by decide +kernel
theorem dX5_spot_111 : decode cX5_spot 111 = .ok (.aload_n 0, 1) := by decide +kernel
theorem dX5_spot_112 : decode cX5_spot 112 = .ok (.iload_n 1, 1) := by decide +kernel
theorem dX5_spot_113 : decode cX5_spot 113 = .ok (.invokevirtual 101, 3) := by decide +kernel
theorem dX5_spot_116 : decode cX5_spot 116 = .ok (.ireturn, 1) := by decide +kernel
theorem dX5_spot_117 : decode cX5_spot 117 = .ok (.aload_n 0, 1) := by decide +kernel
theorem dX5_spot_118 : decode cX5_spot 118 = .ok (.getfield 25, 3) := by decide +kernel
theorem dX5_spot_121 : decode cX5_spot 121 = .ok (.iload_n 1, 1) := by decide +kernel
theorem dX5_spot_122 : decode cX5_spot 122 = .ok (.iaload, 1) := by decide +kernel
theorem dX5_spot_123 : decode cX5_spot 123 = .ok (.ireturn, 1) := by decide +kernel
theorem dX5_spot_124 : decode cX5_spot 124 = .ok (.aload_n 0, 1) := by decide +kernel
theorem dX5_spot_125 : decode cX5_spot 125 = .ok (.iload_n 1, 1) := by decide +kernel
theorem dX5_spot_126 : decode cX5_spot 126 = .ok (.invokevirtual 73, 3) := by decide +kernel
theorem dX5_spot_129 : decode cX5_spot 129 = .ok (.ifCond .eq 7, 3) := by decide +kernel
theorem dX5_spot_132 : decode cX5_spot 132 = .ok (.iconst 1, 1) := by decide +kernel
theorem dX5_spot_133 : decode cX5_spot 133 = .ok (.goto 4, 3) := by decide +kernel
theorem dX5_spot_136 : decode cX5_spot 136 = .ok (.iconst 0, 1) := by decide +kernel
theorem dX5_spot_137 : decode cX5_spot 137 = .ok (.ireturn, 1) := by decide +kernel
theorem dX5_spot_138 : decode cX5_spot 138 = .ok (.aload_n 0, 1) := by decide +kernel
theorem dX5_spot_139 : decode cX5_spot 139 = .ok (.iload_n 1, 1) := by decide +kernel
theorem dX5_spot_140 : decode cX5_spot 140 = .ok (.invokevirtual 77, 3) := by decide +kernel
theorem dX5_spot_143 : decode cX5_spot 143 = .ok (.ifCond .eq 7, 3) := by decide +kernel
theorem dX5_spot_146 : decode cX5_spot 146 = .ok (.iconst 1, 1) := by decide +kernel
theorem dX5_spot_147 : decode cX5_spot 147 = .ok (.goto 4, 3) := by decide +kernel
theorem dX5_spot_150 : decode cX5_spot 150 = .ok (.iconst 0, 1) := by decide +kernel
theorem dX5_spot_151 : decode cX5_spot 151 = .ok (.ireturn, 1) := by decide +kernel
theorem dX5_spot_152 : decode cX5_spot 152 = .ok (.aload_n 0, 1) := by decide +kernel
theorem dX5_spot_153 : decode cX5_spot 153 = .ok (.iload_n 1, 1) := by decide +kernel
theorem dX5_spot_154 : decode cX5_spot 154 = .ok (.invokevirtual 63, 3) := by decide +kernel
theorem dX5_spot_157 : decode cX5_spot 157 = .ok (.ireturn, 1) := by decide +kernel
theorem dX5_spot_158 : decode cX5_spot 158 = .ok (.aload_n 0, 1) := by decide +kernel
theorem dX5_spot_159 : decode cX5_spot 159 = .ok (.iload_n 1, 1) := by decide +kernel
theorem dX5_spot_160 : decode cX5_spot 160 = .ok (.aload_n 0, 1) := by decide +kernel
theorem dX5_spot_161 : decode cX5_spot 161 = .ok (.getfield 7, 3) := by decide +kernel
theorem dX5_spot_164 : decode cX5_spot 164 = .ok (.iconst 3, 1) := by decide +kernel
theorem dX5_spot_165 : decode cX5_spot 165 = .ok (.iaload, 1) := by decide +kernel
theorem dX5_spot_166 : decode cX5_spot 166 = .ok (.aload_n 0, 1) := by decide +kernel
theorem dX5_spot_167 : decode cX5_spot 167 = .ok (.getfield 7, 3) := by decide +kernel
theorem dX5_spot_170 : decode cX5_spot 170 = .ok (.iconst 4, 1) := by decide +kernel
theorem dX5_spot_171 : decode cX5_spot 171 = .ok (.iaload, 1) := by decide +kernel
theorem dX5_spot_172 : decode cX5_spot 172 = .ok (.invokevirtual 66, 3) := by decide +kernel
theorem dX5_spot_175 : decode cX5_spot 175 = .ok (.ireturn, 1) := by decide +kernel
theorem dX5_spot_176 : decode cX5_spot 176 = .ok (.aload_n 0, 1) := by decide +kernel
theorem dX5_spot_177 : decode cX5_spot 177 = .ok (.getfield 25, 3) := by decide +kernel
theorem dX5_spot_180 : decode cX5_spot 180 = .ok (.iload_n 1, 1) := by decide +kernel
theorem dX5_spot_181 : decode cX5_spot 181 = .ok (.iaload, 1) := by decide +kernel
theorem dX5_spot_182 : decode cX5_spot 182 = .ok (.bipush (-9), 2) := by decide +kernel
theorem dX5_spot_184 : decode cX5_spot 184 = .ok (.if_icmp .ne 7, 3) := by decide +kernel
theorem dX5_spot_187 : decode cX5_spot 187 = .ok (.iconst 0, 1) := by decide +kernel
theorem dX5_spot_188 : decode cX5_spot 188 = .ok (.goto 8, 3) := by decide +kernel
theorem dX5_spot_191 : decode cX5_spot 191 = .ok (.aload_n 0, 1) := by decide +kernel
theorem dX5_spot_192 : decode cX5_spot 192 = .ok (.iload_n 1, 1) := by decide +kernel
theorem dX5_spot_193 : decode cX5_spot 193 = .ok (.invokevirtual 220, 3) := by decide +kernel
theorem dX5_spot_196 : decode cX5_spot 196 = .ok (.ireturn, 1) := by decide +kernel
set_option maxRecDepth 20000 in
theorem ggX5_at_X5_spotAt : GoodIn wsX5_at wsX5_spotAt := goodIn_r _ [7, 2, 8, 9, 10, 11, 12, 13, 14, 15, 16, 17, 18, 19, 20, 21] (by decide +kernel) (by decide +kernel)
set_option maxRecDepth 20000 in
theorem gX5_at_X5_spotAt : GoodIn wsX5_at (wsV RX5 50 RX5 yX5_spotAt wsX5_spotAt) := goodIn_app (goodIn_of _ (by decide +kernel)) ggX5_at_X5_spotAt
theorem dX5_at_0 : decode cX5_at 0 = .ok (.aload_n 0, 1) := by decide +kernel
theorem dX5_at_1 : decode cX5_at 1 = .ok (.iconst 0, 1) := by decide +kernel
theorem dX5_at_2 : decode cX5_at 2 = .ok (.putfield 32, 3) := by decide +kernel
theorem dX5_at_5 : decode cX5_at 5 = .ok (.iload_n 1, 1) := by decide +kernel
theorem dX5_at_6 : decode cX5_at 6 = .ok (.ifCond .ge 7, 3) := by decide +kernel
theorem dX5_at_9 : decode cX5_at 9 = .ok (.iconst (-1), 1) := by decide +kernel
theorem dX5_at_10 : decode cX5_at 10 = .ok (.goto 24, 3) := by decide +kernel
theorem dX5_at_13 : decode cX5_at 13 = .ok (.iload_n 1, 1) := by decide +kernel
theorem dX5_at_14 : decode cX5_at 14 = .ok (.aload_n 0, 1) := by decide +kernel
theorem dX5_at_15 : decode cX5_at 15 = .ok (.getfield 7, 3) := by decide +kernel
theorem dX5_at_18 : decode cX5_at 18 = .ok (.bipush 6, 2) := by decide +kernel
theorem dX5_at_20 : decode cX5_at 20 = .ok (.iaload, 1) := by decide +kernel
theorem dX5_at_21 : decode cX5_at 21 = .ok (.if_icmp .ge 11, 3) := by decide +kernel
theorem dX5_at_24 : decode cX5_at 24 = .ok (.aload_n 0, 1) := by decide +kernel
theorem dX5_at_25 : decode cX5_at 25 = .ok (.iload_n 1, 1) := by decide +kernel
theorem dX5_at_26 : decode cX5_at 26 = .ok (.invokevirtual 50, 3) := by decide +kernel
theorem dX5_at_29 : decode cX5_at 29 = .ok (.goto 5, 3) := by decide +kernel
theorem dX5_at_32 : decode cX5_at 32 = .ok (.bipush (-9), 2) := by decide +kernel
theorem dX5_at_34 : decode cX5_at 34 = .ok (.ireturn, 1) := by decide +kernel
set_option maxRecDepth 20000 in
theorem ggX5_brightness_X5_isSpot : GoodIn wsX5_brightness wsX5_isSpot := goodIn_r _ [6, 7, 8, 5, 9] (by decide +kernel) (by decide +kernel)
set_option maxRecDepth 20000 in
theorem gX5_brightness_X5_isSpot : GoodIn wsX5_brightness (va_wsS RX5 92 yX5_isSpot wsX5_isSpot) := goodIn_app (goodIn_of _ (by decide +kernel)) ggX5_brightness_X5_isSpot
set_option maxRecDepth 20000 in
theorem ggX5_brightness_X5_in : GoodIn wsX5_brightness wsX5_in := goodIn_r _ [9] (by decide +kernel) (by decide +kernel)
set_option maxRecDepth 20000 in
theorem gX5_brightness_X5_in : GoodIn wsX5_brightness (va_wsS RX5 36 yX5_in wsX5_in) := goodIn_app (goodIn_of _ (by decide +kernel)) ggX5_brightness_X5_in
set_option maxRecDepth 20000 in
theorem ggX5_brightness_X5_beam : GoodIn wsX5_brightness wsX5_beam := goodIn_r _ [13, 14, 2, 15, 16, 17, 5, 18, 19, 20, 21, 22, 23, 24, 35, 36, 37, 38, 39, 40, 41, 42, 43, 44, 45, 46, 47, 48] (by decide +kernel) (by decide +kernel)
set_option maxRecDepth 20000 in
theorem gX5_brightness_X5_beam : GoodIn wsX5_brightness (wsV RX5 80 RX5 yX5_beam wsX5_beam) := goodIn_app (goodIn_of _ (by decide +kernel)) ggX5_brightness_X5_beam
set_option maxRecDepth 20000 in
theorem ggX5_brightness_X5_brightnessAt : GoodIn wsX5_brightness wsX5_brightnessAt := goodIn_r _ [28, 14, 2, 29, 30, 5, 31, 32, 33, 34, 35, 36, 37, 38, 39, 40, 41, 42, 43, 44, 45, 46, 47, 48] (by decide +kernel) (by decide +kernel)
set_option maxRecDepth 20000 in
theorem gX5_brightness_X5_brightnessAt : GoodIn wsX5_brightness (wsV RX5 60 RX5 yX5_brightnessAt wsX5_brightnessAt) := goodIn_app (goodIn_of _ (by decide +kernel)) ggX5_brightness_X5_brightnessAt
theorem dX5_brightness_0 : decode cX5_brightness 0 = .ok (.aload_n 0, 1) := by decide +kernel
theorem dX5_brightness_1 : decode cX5_brightness 1 = .ok (.iconst 0, 1) := by decide +kernel
theorem dX5_brightness_2 : decode cX5_brightness 2 = .ok (.putfield 32, 3) := by decide +kernel
theorem dX5_brightness_5 : decode cX5_brightness 5 = .ok (.iload_n 1, 1) := by decide +kernel
theorem dX5_brightness_6 : decode cX5_brightness 6 = .ok (.invokestatic 92, 3) := by decide +kernel
theorem dX5_brightness_9 : decode cX5_brightness 9 = .ok (.ifCond .eq 19, 3) := by decide +kernel
theorem dX5_brightness_12 : decode cX5_brightness 12 = .ok (.iload_n 2, 1) := by decide +kernel
theorem dX5_brightness_13 : decode cX5_brightness 13 = .ok (.iconst 0, 1) := by decide +kernel
theorem dX5_brightness_14 : decode cX5_brightness 14 = .ok (.aload_n 0, 1) := by decide +kernel
theorem dX5_brightness_15 : decode cX5_brightness 15 = .ok (.getfield 7, 3) := by decide +kernel
theorem dX5_brightness_18 : decode cX5_brightness 18 = .ok (.iconst 0, 1) := by decide +kernel
theorem dX5_brightness_19 : decode cX5_brightness 19 = .ok (.iaload, 1) := by decide +kernel
theorem dX5_brightness_20 : decode cX5_brightness 20 = .ok (.iconst 1, 1) := by decide +kernel
theorem dX5_brightness_21 : decode cX5_brightness 21 = .ok (.isub, 1) := by decide +kernel
theorem dX5_brightness_22 : decode cX5_brightness 22 = .ok (.invokestatic 36, 3) := by decide +kernel
theorem dX5_brightness_25 : decode cX5_brightness 25 = .ok (.ifCond .ne 5, 3) := by decide +kernel
theorem dX5_brightness_28 : decode cX5_brightness 28 = .ok (.iconst (-1), 1) := by decide +kernel
theorem dX5_brightness_29 : decode cX5_brightness 29 = .ok (.ireturn, 1) := by decide +kernel
theorem dX5_brightness_30 : decode cX5_brightness 30 = .ok (.aload_n 0, 1) := by decide +kernel
theorem dX5_brightness_31 : decode cX5_brightness 31 = .ok (.invokevirtual 80, 3) := by decide +kernel
theorem dX5_brightness_34 : decode cX5_brightness 34 = .ok (.aload_n 0, 1) := by decide +kernel
theorem dX5_brightness_35 : decode cX5_brightness 35 = .ok (.iload_n 1, 1) := by decide +kernel
theorem dX5_brightness_36 : decode cX5_brightness 36 = .ok (.iload_n 2, 1) := by decide +kernel
theorem dX5_brightness_37 : decode cX5_brightness 37 = .ok (.invokevirtual 60, 3) := by decide +kernel
theorem dX5_brightness_40 : decode cX5_brightness 40 = .ok (.ireturn, 1) := by decide +kernel
set_option maxRecDepth 20000 in
theorem ggX5_firstWrong_X5_isBit : GoodIn wsX5_firstWrong wsX5_isBit := goodIn_r _ [5, 6, 7, 4, 8] (by decide +kernel) (by decide +kernel)
set_option maxRecDepth 20000 in
theorem gX5_firstWrong_X5_isBit : GoodIn wsX5_firstWrong (va_wsS RX5 145 yX5_isBit wsX5_isBit) := goodIn_app (goodIn_of _ (by decide +kernel)) ggX5_firstWrong_X5_isBit
set_option maxRecDepth 20000 in
theorem ggX5_firstWrong_X5_beam : GoodIn wsX5_firstWrong wsX5_beam := goodIn_r _ [12, 13, 14, 15, 16, 17, 4, 18, 19, 20, 21, 22, 23, 24, 59, 60, 61, 62, 63, 64, 65, 66, 67, 68, 69, 70, 71, 72] (by decide +kernel) (by decide +kernel)
set_option maxRecDepth 20000 in
theorem gX5_firstWrong_X5_beam : GoodIn wsX5_firstWrong (wsV RX5 80 RX5 yX5_beam wsX5_beam) := goodIn_app (goodIn_of _ (by decide +kernel)) ggX5_firstWrong_X5_beam
set_option maxRecDepth 20000 in
theorem ggX5_firstWrong_X5_isWrong : GoodIn wsX5_firstWrong wsX5_isWrong := goodIn_r _ [28, 14, 29, 30, 31, 4, 32, 13, 33, 34, 35, 36, 37, 38, 39, 40, 41, 42, 43, 44, 45, 46, 47, 48, 49, 50, 51, 52, 53, 54, 55, 56, 57, 58, 59, 60, 61, 62, 63, 64, 65, 66, 67, 68, 69, 70, 71, 72] (by decide +kernel) (by decide +kernel)
set_option maxRecDepth 20000 in
theorem gX5_firstWrong_X5_isWrong : GoodIn wsX5_firstWrong (wsV RX5 204 RX5 yX5_isWrong wsX5_isWrong) := goodIn_app (goodIn_of _ (by decide +kernel)) ggX5_firstWrong_X5_isWrong
theorem dX5_firstWrong_0 : decode cX5_firstWrong 0 = .ok (.aload_n 0, 1) := by decide +kernel
theorem dX5_firstWrong_1 : decode cX5_firstWrong 1 = .ok (.iconst 0, 1) := by decide +kernel
theorem dX5_firstWrong_2 : decode cX5_firstWrong 2 = .ok (.putfield 32, 3) := by decide +kernel
theorem dX5_firstWrong_5 : decode cX5_firstWrong 5 = .ok (.iload_n 1, 1) := by decide +kernel
theorem dX5_firstWrong_6 : decode cX5_firstWrong 6 = .ok (.invokestatic 145, 3) := by decide +kernel
theorem dX5_firstWrong_9 : decode cX5_firstWrong 9 = .ok (.ifCond .ne 5, 3) := by decide +kernel
theorem dX5_firstWrong_12 : decode cX5_firstWrong 12 = .ok (.iconst (-1), 1) := by decide +kernel
theorem dX5_firstWrong_13 : decode cX5_firstWrong 13 = .ok (.ireturn, 1) := by decide +kernel
theorem dX5_firstWrong_14 : decode cX5_firstWrong 14 = .ok (.aload_n 0, 1) := by decide +kernel
theorem dX5_firstWrong_15 : decode cX5_firstWrong 15 = .ok (.invokevirtual 80, 3) := by decide +kernel
theorem dX5_firstWrong_18 : decode cX5_firstWrong 18 = .ok (.iconst 0, 1) := by decide +kernel
theorem dX5_firstWrong_19 : decode cX5_firstWrong 19 = .ok (.istore_n 2, 1) := by decide +kernel
theorem dX5_firstWrong_20 : decode cX5_firstWrong 20 = .ok (.iload_n 2, 1) := by decide +kernel
theorem dX5_firstWrong_21 : decode cX5_firstWrong 21 = .ok (.bipush 64, 2) := by decide +kernel
theorem dX5_firstWrong_23 : decode cX5_firstWrong 23 = .ok (.if_icmp .ge 20, 3) := by decide +kernel
theorem dX5_firstWrong_26 : decode cX5_firstWrong 26 = .ok (.aload_n 0, 1) := by decide +kernel
theorem dX5_firstWrong_27 : decode cX5_firstWrong 27 = .ok (.iload_n 2, 1) := by decide +kernel
theorem dX5_firstWrong_28 : decode cX5_firstWrong 28 = .ok (.iload_n 1, 1) := by decide +kernel
theorem dX5_firstWrong_29 : decode cX5_firstWrong 29 = .ok (.invokevirtual 204, 3) := by decide +kernel
theorem dX5_firstWrong_32 : decode cX5_firstWrong 32 = .ok (.ifCond .eq 5, 3) := by decide +kernel
theorem dX5_firstWrong_35 : decode cX5_firstWrong 35 = .ok (.iload_n 2, 1) := by decide +kernel
theorem dX5_firstWrong_36 : decode cX5_firstWrong 36 = .ok (.ireturn, 1) := by decide +kernel
theorem dX5_firstWrong_37 : decode cX5_firstWrong 37 = .ok (.iinc 2 1, 3) := by decide +kernel
theorem dX5_firstWrong_40 : decode cX5_firstWrong 40 = .ok (.goto (-20), 3) := by decide +kernel
theorem dX5_firstWrong_43 : decode cX5_firstWrong 43 = .ok (.bipush (-9), 2) := by decide +kernel
theorem dX5_firstWrong_45 : decode cX5_firstWrong 45 = .ok (.ireturn, 1) := by decide +kernel
set_option maxRecDepth 20000 in
theorem ggX5_bestStart_X5_isBit : GoodIn wsX5_bestStart wsX5_isBit := goodIn_r _ [6, 7, 8, 5, 9] (by decide +kernel) (by decide +kernel)
set_option maxRecDepth 20000 in
theorem gX5_bestStart_X5_isBit : GoodIn wsX5_bestStart (va_wsS RX5 145 yX5_isBit wsX5_isBit) := goodIn_app (goodIn_of _ (by decide +kernel)) ggX5_bestStart_X5_isBit
set_option maxRecDepth 20000 in
theorem ggX5_bestStart_X5_beam : GoodIn wsX5_bestStart wsX5_beam := goodIn_r _ [13, 14, 2, 15, 16, 17, 5, 18, 19, 20, 21, 22, 23, 24, 47, 48, 49, 50, 51, 52, 53, 54, 55, 56, 57, 58, 59, 60] (by decide +kernel) (by decide +kernel)
set_option maxRecDepth 20000 in
theorem gX5_bestStart_X5_beam : GoodIn wsX5_bestStart (wsV RX5 80 RX5 yX5_beam wsX5_beam) := goodIn_app (goodIn_of _ (by decide +kernel)) ggX5_bestStart_X5_beam
set_option maxRecDepth 20000 in
theorem ggX5_bestStart_X5_wrongFor : GoodIn wsX5_bestStart wsX5_wrongFor := goodIn_r _ [28, 2, 29, 30, 31, 5, 32, 14, 33, 34, 35, 36, 37, 38, 39, 40, 41, 42, 43, 44, 45, 46, 47, 48, 49, 50, 51, 52, 53, 54, 55, 56, 57, 58, 59, 60] (by decide +kernel) (by decide +kernel)
set_option maxRecDepth 20000 in
theorem gX5_bestStart_X5_wrongFor : GoodIn wsX5_bestStart (wsV RX5 223 RX5 yX5_wrongFor wsX5_wrongFor) := goodIn_app (goodIn_of _ (by decide +kernel)) ggX5_bestStart_X5_wrongFor
theorem dX5_bestStart_0 : decode cX5_bestStart 0 = .ok (.aload_n 0, 1) := by decide +kernel
theorem dX5_bestStart_1 : decode cX5_bestStart 1 = .ok (.iconst 0, 1) := by decide +kernel
theorem dX5_bestStart_2 : decode cX5_bestStart 2 = .ok (.putfield 32, 3) := by decide +kernel
theorem dX5_bestStart_5 : decode cX5_bestStart 5 = .ok (.iload_n 1, 1) := by decide +kernel
theorem dX5_bestStart_6 : decode cX5_bestStart 6 = .ok (.invokestatic 145, 3) := by decide +kernel
theorem dX5_bestStart_9 : decode cX5_bestStart 9 = .ok (.ifCond .ne 5, 3) := by decide +kernel
theorem dX5_bestStart_12 : decode cX5_bestStart 12 = .ok (.iconst (-1), 1) := by decide +kernel
theorem dX5_bestStart_13 : decode cX5_bestStart 13 = .ok (.ireturn, 1) := by decide +kernel
theorem dX5_bestStart_14 : decode cX5_bestStart 14 = .ok (.aload_n 0, 1) := by decide +kernel
theorem dX5_bestStart_15 : decode cX5_bestStart 15 = .ok (.invokevirtual 80, 3) := by decide +kernel
theorem dX5_bestStart_18 : decode cX5_bestStart 18 = .ok (.iconst 0, 1) := by decide +kernel
theorem dX5_bestStart_19 : decode cX5_bestStart 19 = .ok (.istore_n 2, 1) := by decide +kernel
theorem dX5_bestStart_20 : decode cX5_bestStart 20 = .ok (.aload_n 0, 1) := by decide +kernel
theorem dX5_bestStart_21 : decode cX5_bestStart 21 = .ok (.iconst 0, 1) := by decide +kernel
theorem dX5_bestStart_22 : decode cX5_bestStart 22 = .ok (.aload_n 0, 1) := by decide +kernel
theorem dX5_bestStart_23 : decode cX5_bestStart 23 = .ok (.getfield 7, 3) := by decide +kernel
theorem dX5_bestStart_26 : decode cX5_bestStart 26 = .ok (.iconst 4, 1) := by decide +kernel
theorem dX5_bestStart_27 : decode cX5_bestStart 27 = .ok (.iaload, 1) := by decide +kernel
theorem dX5_bestStart_28 : decode cX5_bestStart 28 = .ok (.invokevirtual 223, 3) := by decide +kernel
theorem dX5_bestStart_31 : decode cX5_bestStart 31 = .ok (.istore_n 3, 1) := by decide +kernel
theorem dX5_bestStart_32 : decode cX5_bestStart 32 = .ok (.iconst 1, 1) := by decide +kernel
theorem dX5_bestStart_33 : decode cX5_bestStart 33 = .ok (.istore 4, 2) := by decide +kernel
theorem dX5_bestStart_35 : decode cX5_bestStart 35 = .ok (.iload 4, 2) := by decide +kernel
theorem dX5_bestStart_37 : decode cX5_bestStart 37 = .ok (.aload_n 0, 1) := by decide +kernel
theorem dX5_bestStart_38 : decode cX5_bestStart 38 = .ok (.getfield 7, 3) := by decide +kernel
theorem dX5_bestStart_41 : decode cX5_bestStart 41 = .ok (.iconst 0, 1) := by decide +kernel
theorem dX5_bestStart_42 : decode cX5_bestStart 42 = .ok (.iaload, 1) := by decide +kernel
theorem dX5_bestStart_43 : decode cX5_bestStart 43 = .ok (.if_icmp .ge 49, 3) := by decide +kernel
theorem dX5_bestStart_46 : decode cX5_bestStart 46 = .ok (.aload_n 0, 1) := by decide +kernel
theorem dX5_bestStart_47 : decode cX5_bestStart 47 = .ok (.iload 4, 2) := by decide +kernel
theorem dX5_bestStart_49 : decode cX5_bestStart 49 = .ok (.aload_n 0, 1) := by decide +kernel
theorem dX5_bestStart_50 : decode cX5_bestStart 50 = .ok (.getfield 7, 3) := by decide +kernel
theorem dX5_bestStart_53 : decode cX5_bestStart 53 = .ok (.iconst 4, 1) := by decide +kernel
theorem dX5_bestStart_54 : decode cX5_bestStart 54 = .ok (.iaload, 1) := by decide +kernel
theorem dX5_bestStart_55 : decode cX5_bestStart 55 = .ok (.invokevirtual 223, 3) := by decide +kernel
theorem dX5_bestStart_58 : decode cX5_bestStart 58 = .ok (.istore 5, 2) := by decide +kernel
theorem dX5_bestStart_60 : decode cX5_bestStart 60 = .ok (.iload 5, 2) := by decide +kernel
theorem dX5_bestStart_62 : decode cX5_bestStart 62 = .ok (.iload_n 3, 1) := by decide +kernel
theorem dX5_bestStart_63 : decode cX5_bestStart 63 = .ok (.if_icmp .ge 8, 3) := by decide +kernel
theorem dX5_bestStart_66 : decode cX5_bestStart 66 = .ok (.iload 4, 2) := by decide +kernel
theorem dX5_bestStart_68 : decode cX5_bestStart 68 = .ok (.goto 4, 3) := by decide +kernel
theorem dX5_bestStart_71 : decode cX5_bestStart 71 = .ok (.iload_n 2, 1) := by decide +kernel
theorem dX5_bestStart_72 : decode cX5_bestStart 72 = .ok (.istore_n 2, 1) := by decide +kernel
theorem dX5_bestStart_73 : decode cX5_bestStart 73 = .ok (.iload 5, 2) := by decide +kernel
theorem dX5_bestStart_75 : decode cX5_bestStart 75 = .ok (.iload_n 3, 1) := by decide +kernel
theorem dX5_bestStart_76 : decode cX5_bestStart 76 = .ok (.if_icmp .ge 8, 3) := by decide +kernel
theorem dX5_bestStart_79 : decode cX5_bestStart 79 = .ok (.iload 5, 2) := by decide +kernel
theorem dX5_bestStart_81 : decode cX5_bestStart 81 = .ok (.goto 4, 3) := by decide +kernel
theorem dX5_bestStart_84 : decode cX5_bestStart 84 = .ok (.iload_n 3, 1) := by decide +kernel
theorem dX5_bestStart_85 : decode cX5_bestStart 85 = .ok (.istore_n 3, 1) := by decide +kernel
theorem dX5_bestStart_86 : decode cX5_bestStart 86 = .ok (.iinc 4 1, 3) := by decide +kernel
theorem dX5_bestStart_89 : decode cX5_bestStart 89 = .ok (.goto (-54), 3) := by decide +kernel
theorem dX5_bestStart_92 : decode cX5_bestStart 92 = .ok (.iload_n 1, 1) := by decide +kernel
theorem dX5_bestStart_93 : decode cX5_bestStart 93 = .ok (.ifCond .ne 7, 3) := by decide +kernel
theorem dX5_bestStart_96 : decode cX5_bestStart 96 = .ok (.iload_n 2, 1) := by decide +kernel
theorem dX5_bestStart_97 : decode cX5_bestStart 97 = .ok (.goto 4, 3) := by decide +kernel
theorem dX5_bestStart_100 : decode cX5_bestStart 100 = .ok (.iload_n 3, 1) := by decide +kernel
theorem dX5_bestStart_101 : decode cX5_bestStart 101 = .ok (.ireturn, 1) := by decide +kernel
set_option maxRecDepth 20000 in
theorem ggX5_reckonWays_X5_spotAt : GoodIn wsX5_reckonWays wsX5_spotAt := goodIn_r _ [8, 1, 15, 16, 17, 18, 19, 20, 21, 22, 23, 24, 25, 26, 27, 28] (by decide +kernel) (by decide +kernel)
set_option maxRecDepth 20000 in
theorem gX5_reckonWays_X5_spotAt : GoodIn wsX5_reckonWays (wsV RX5 50 RX5 yX5_spotAt wsX5_spotAt) := goodIn_app (goodIn_of _ (by decide +kernel)) ggX5_reckonWays_X5_spotAt
set_option maxRecDepth 20000 in
theorem ggX5_reckonWays_X5_way : GoodIn wsX5_reckonWays wsX5_way := goodIn_r _ [11, 12, 13, 7, 14] (by decide +kernel) (by decide +kernel)
set_option maxRecDepth 20000 in
theorem gX5_reckonWays_X5_way : GoodIn wsX5_reckonWays (va_wsS RX5 53 yX5_way wsX5_way) := goodIn_app (goodIn_of _ (by decide +kernel)) ggX5_reckonWays_X5_way
theorem dX5_reckonWays_0 : decode cX5_reckonWays 0 = .ok (.iconst 1, 1) := by decide +kernel
theorem dX5_reckonWays_1 : decode cX5_reckonWays 1 = .ok (.aload_n 0, 1) := by decide +kernel
theorem dX5_reckonWays_2 : decode cX5_reckonWays 2 = .ok (.getfield 7, 3) := by decide +kernel
theorem dX5_reckonWays_5 : decode cX5_reckonWays 5 = .ok (.bipush 6, 2) := by decide +kernel
theorem dX5_reckonWays_7 : decode cX5_reckonWays 7 = .ok (.iaload, 1) := by decide +kernel
theorem dX5_reckonWays_8 : decode cX5_reckonWays 8 = .ok (.ishl, 1) := by decide +kernel
theorem dX5_reckonWays_9 : decode cX5_reckonWays 9 = .ok (.istore_n 1, 1) := by decide +kernel
theorem dX5_reckonWays_10 : decode cX5_reckonWays 10 = .ok (.iload_n 1, 1) := by decide +kernel
theorem dX5_reckonWays_11 : decode cX5_reckonWays 11 = .ok (.iconst 1, 1) := by decide +kernel
theorem dX5_reckonWays_12 : decode cX5_reckonWays 12 = .ok (.isub, 1) := by decide +kernel
theorem dX5_reckonWays_13 : decode cX5_reckonWays 13 = .ok (.istore_n 2, 1) := by decide +kernel
theorem dX5_reckonWays_14 : decode cX5_reckonWays 14 = .ok (.iload_n 2, 1) := by decide +kernel
theorem dX5_reckonWays_15 : decode cX5_reckonWays 15 = .ok (.ifCond .le 142, 3) := by decide +kernel
theorem dX5_reckonWays_18 : decode cX5_reckonWays 18 = .ok (.iconst 0, 1) := by decide +kernel
theorem dX5_reckonWays_19 : decode cX5_reckonWays 19 = .ok (.istore_n 3, 1) := by decide +kernel
theorem dX5_reckonWays_20 : decode cX5_reckonWays 20 = .ok (.iload_n 3, 1) := by decide +kernel
theorem dX5_reckonWays_21 : decode cX5_reckonWays 21 = .ok (.aload_n 0, 1) := by decide +kernel
theorem dX5_reckonWays_22 : decode cX5_reckonWays 22 = .ok (.getfield 7, 3) := by decide +kernel
theorem dX5_reckonWays_25 : decode cX5_reckonWays 25 = .ok (.bipush 6, 2) := by decide +kernel
theorem dX5_reckonWays_27 : decode cX5_reckonWays 27 = .ok (.iaload, 1) := by decide +kernel
theorem dX5_reckonWays_28 : decode cX5_reckonWays 28 = .ok (.if_icmp .ge 123, 3) := by decide +kernel
theorem dX5_reckonWays_31 : decode cX5_reckonWays 31 = .ok (.iload_n 2, 1) := by decide +kernel
theorem dX5_reckonWays_32 : decode cX5_reckonWays 32 = .ok (.iload_n 1, 1) := by decide +kernel
theorem dX5_reckonWays_33 : decode cX5_reckonWays 33 = .ok (.iconst 1, 1) := by decide +kernel
theorem dX5_reckonWays_34 : decode cX5_reckonWays 34 = .ok (.isub, 1) := by decide +kernel
theorem dX5_reckonWays_35 : decode cX5_reckonWays 35 = .ok (.if_icmp .ne 7, 3) := by decide +kernel
theorem dX5_reckonWays_38 : decode cX5_reckonWays 38 = .ok (.iconst 0, 1) := by decide +kernel
theorem dX5_reckonWays_39 : decode cX5_reckonWays 39 = .ok (.goto 5, 3) := by decide +kernel
theorem dX5_reckonWays_42 : decode cX5_reckonWays 42 = .ok (.ldc 226, 2) := by decide +kernel
theorem dX5_reckonWays_44 : decode cX5_reckonWays 44 = .ok (.istore 4, 2) := by decide +kernel
theorem dX5_reckonWays_46 : decode cX5_reckonWays 46 = .ok (.iconst 0, 1) := by decide +kernel
theorem dX5_reckonWays_47 : decode cX5_reckonWays 47 = .ok (.istore 5, 2) := by decide +kernel
theorem dX5_reckonWays_49 : decode cX5_reckonWays 49 = .ok (.iload 5, 2) := by decide +kernel
theorem dX5_reckonWays_51 : decode cX5_reckonWays 51 = .ok (.aload_n 0, 1) := by decide +kernel
theorem dX5_reckonWays_52 : decode cX5_reckonWays 52 = .ok (.getfield 7, 3) := by decide +kernel
theorem dX5_reckonWays_55 : decode cX5_reckonWays 55 = .ok (.bipush 6, 2) := by decide +kernel
theorem dX5_reckonWays_57 : decode cX5_reckonWays 57 = .ok (.iaload, 1) := by decide +kernel
theorem dX5_reckonWays_58 : decode cX5_reckonWays 58 = .ok (.if_icmp .ge 74, 3) := by decide +kernel
theorem dX5_reckonWays_61 : decode cX5_reckonWays 61 = .ok (.iload_n 2, 1) := by decide +kernel
theorem dX5_reckonWays_62 : decode cX5_reckonWays 62 = .ok (.iload 5, 2) := by decide +kernel
theorem dX5_reckonWays_64 : decode cX5_reckonWays 64 = .ok (.ishr, 1) := by decide +kernel
theorem dX5_reckonWays_65 : decode cX5_reckonWays 65 = .ok (.iconst 1, 1) := by decide +kernel
theorem dX5_reckonWays_66 : decode cX5_reckonWays 66 = .ok (.iand, 1) := by decide +kernel
theorem dX5_reckonWays_67 : decode cX5_reckonWays 67 = .ok (.iconst 1, 1) := by decide +kernel
theorem dX5_reckonWays_68 : decode cX5_reckonWays 68 = .ok (.if_icmp .ne 8, 3) := by decide +kernel
theorem dX5_reckonWays_71 : decode cX5_reckonWays 71 = .ok (.ldc 226, 2) := by decide +kernel
theorem dX5_reckonWays_73 : decode cX5_reckonWays 73 = .ok (.goto 35, 3) := by decide +kernel
theorem dX5_reckonWays_76 : decode cX5_reckonWays 76 = .ok (.aload_n 0, 1) := by decide +kernel
theorem dX5_reckonWays_77 : decode cX5_reckonWays 77 = .ok (.iload_n 3, 1) := by decide +kernel
theorem dX5_reckonWays_78 : decode cX5_reckonWays 78 = .ok (.invokevirtual 50, 3) := by decide +kernel
theorem dX5_reckonWays_81 : decode cX5_reckonWays 81 = .ok (.aload_n 0, 1) := by decide +kernel
theorem dX5_reckonWays_82 : decode cX5_reckonWays 82 = .ok (.iload 5, 2) := by decide +kernel
theorem dX5_reckonWays_84 : decode cX5_reckonWays 84 = .ok (.invokevirtual 50, 3) := by decide +kernel
theorem dX5_reckonWays_87 : decode cX5_reckonWays 87 = .ok (.invokestatic 53, 3) := by decide +kernel
theorem dX5_reckonWays_90 : decode cX5_reckonWays 90 = .ok (.aload_n 0, 1) := by decide +kernel
theorem dX5_reckonWays_91 : decode cX5_reckonWays 91 = .ok (.getfield 29, 3) := by decide +kernel
theorem dX5_reckonWays_94 : decode cX5_reckonWays 94 = .ok (.bipush 12, 2) := by decide +kernel
theorem dX5_reckonWays_96 : decode cX5_reckonWays 96 = .ok (.iload_n 2, 1) := by decide +kernel
theorem dX5_reckonWays_97 : decode cX5_reckonWays 97 = .ok (.iconst 1, 1) := by decide +kernel
theorem dX5_reckonWays_98 : decode cX5_reckonWays 98 = .ok (.iload 5, 2) := by decide +kernel
theorem dX5_reckonWays_100 : decode cX5_reckonWays 100 = .ok (.ishl, 1) := by decide +kernel
theorem dX5_reckonWays_101 : decode cX5_reckonWays 101 = .ok (.ior, 1) := by decide +kernel
theorem dX5_reckonWays_102 : decode cX5_reckonWays 102 = .ok (.imul, 1) := by decide +kernel
theorem dX5_reckonWays_103 : decode cX5_reckonWays 103 = .ok (.iload 5, 2) := by decide +kernel
theorem dX5_reckonWays_105 : decode cX5_reckonWays 105 = .ok (.iadd, 1) := by decide +kernel
theorem dX5_reckonWays_106 : decode cX5_reckonWays 106 = .ok (.iaload, 1) := by decide +kernel
theorem dX5_reckonWays_107 : decode cX5_reckonWays 107 = .ok (.iadd, 1) := by decide +kernel
theorem dX5_reckonWays_108 : decode cX5_reckonWays 108 = .ok (.istore 6, 2) := by decide +kernel
theorem dX5_reckonWays_110 : decode cX5_reckonWays 110 = .ok (.iload 6, 2) := by decide +kernel
theorem dX5_reckonWays_112 : decode cX5_reckonWays 112 = .ok (.iload 4, 2) := by decide +kernel
theorem dX5_reckonWays_114 : decode cX5_reckonWays 114 = .ok (.if_icmp .ge 8, 3) := by decide +kernel
theorem dX5_reckonWays_117 : decode cX5_reckonWays 117 = .ok (.iload 6, 2) := by decide +kernel
theorem dX5_reckonWays_119 : decode cX5_reckonWays 119 = .ok (.goto 5, 3) := by decide +kernel
theorem dX5_reckonWays_122 : decode cX5_reckonWays 122 = .ok (.iload 4, 2) := by decide +kernel
theorem dX5_reckonWays_124 : decode cX5_reckonWays 124 = .ok (.istore 4, 2) := by decide +kernel
theorem dX5_reckonWays_126 : decode cX5_reckonWays 126 = .ok (.iinc 5 1, 3) := by decide +kernel
theorem dX5_reckonWays_129 : decode cX5_reckonWays 129 = .ok (.goto (-80), 3) := by decide +kernel
theorem dX5_reckonWays_132 : decode cX5_reckonWays 132 = .ok (.aload_n 0, 1) := by decide +kernel
theorem dX5_reckonWays_133 : decode cX5_reckonWays 133 = .ok (.getfield 29, 3) := by decide +kernel
theorem dX5_reckonWays_136 : decode cX5_reckonWays 136 = .ok (.bipush 12, 2) := by decide +kernel
theorem dX5_reckonWays_138 : decode cX5_reckonWays 138 = .ok (.iload_n 2, 1) := by decide +kernel
theorem dX5_reckonWays_139 : decode cX5_reckonWays 139 = .ok (.imul, 1) := by decide +kernel
theorem dX5_reckonWays_140 : decode cX5_reckonWays 140 = .ok (.iload_n 3, 1) := by decide +kernel
theorem dX5_reckonWays_141 : decode cX5_reckonWays 141 = .ok (.iadd, 1) := by decide +kernel
theorem dX5_reckonWays_142 : decode cX5_reckonWays 142 = .ok (.iload 4, 2) := by decide +kernel
theorem dX5_reckonWays_144 : decode cX5_reckonWays 144 = .ok (.iastore, 1) := by decide +kernel
theorem dX5_reckonWays_145 : decode cX5_reckonWays 145 = .ok (.iinc 3 1, 3) := by decide +kernel
theorem dX5_reckonWays_148 : decode cX5_reckonWays 148 = .ok (.goto (-128), 3) := by decide +kernel
theorem dX5_reckonWays_151 : decode cX5_reckonWays 151 = .ok (.iinc 2 (-1), 3) := by decide +kernel
theorem dX5_reckonWays_154 : decode cX5_reckonWays 154 = .ok (.goto (-140), 3) := by decide +kernel
theorem dX5_reckonWays_157 : decode cX5_reckonWays 157 = .ok (.return_, 1) := by decide +kernel
set_option maxRecDepth 20000 in
theorem ggX5_leastTravel_X5_reckonWays : GoodIn wsX5_leastTravel wsX5_reckonWays := goodIn_r _ [9, 2, 3, 4, 10, 11, 12, 8, 13, 14, 15, 16, 17, 18, 19, 20, 21, 22, 23, 24, 25, 26, 27, 28, 29, 30, 31, 32, 33] (by decide +kernel) (by decide +kernel)
set_option maxRecDepth 20000 in
theorem gX5_leastTravel_X5_reckonWays : GoodIn wsX5_leastTravel (wsV RX5 227 RX5 yX5_reckonWays wsX5_reckonWays) := goodIn_app (goodIn_of _ (by decide +kernel)) ggX5_leastTravel_X5_reckonWays
set_option maxRecDepth 20000 in
theorem ggX5_leastTravel_X5_spotAt : GoodIn wsX5_leastTravel wsX5_spotAt := goodIn_r _ [13, 2, 20, 21, 22, 23, 24, 25, 26, 27, 28, 29, 30, 31, 32, 33] (by decide +kernel) (by decide +kernel)
set_option maxRecDepth 20000 in
theorem gX5_leastTravel_X5_spotAt : GoodIn wsX5_leastTravel (wsV RX5 50 RX5 yX5_spotAt wsX5_spotAt) := goodIn_app (goodIn_of _ (by decide +kernel)) ggX5_leastTravel_X5_spotAt
set_option maxRecDepth 20000 in
theorem ggX5_leastTravel_X5_way : GoodIn wsX5_leastTravel wsX5_way := goodIn_r _ [16, 17, 18, 8, 19] (by decide +kernel) (by decide +kernel)
set_option maxRecDepth 20000 in
theorem gX5_leastTravel_X5_way : GoodIn wsX5_leastTravel (va_wsS RX5 53 yX5_way wsX5_way) := goodIn_app (goodIn_of _ (by decide +kernel)) ggX5_leastTravel_X5_way
theorem dX5_leastTravel_0 : decode cX5_leastTravel 0 = .ok (.aload_n 0, 1) := by decide +kernel
theorem dX5_leastTravel_1 : decode cX5_leastTravel 1 = .ok (.iconst 0, 1) := by decide +kernel
theorem dX5_leastTravel_2 : decode cX5_leastTravel 2 = .ok (.putfield 32, 3) := by decide +kernel
theorem dX5_leastTravel_5 : decode cX5_leastTravel 5 = .ok (.iload_n 1, 1) := by decide +kernel
theorem dX5_leastTravel_6 : decode cX5_leastTravel 6 = .ok (.iconst (-1), 1) := by decide +kernel
theorem dX5_leastTravel_7 : decode cX5_leastTravel 7 = .ok (.if_icmp .ge 5, 3) := by decide +kernel
theorem dX5_leastTravel_10 : decode cX5_leastTravel 10 = .ok (.iconst (-1), 1) := by decide +kernel
theorem dX5_leastTravel_11 : decode cX5_leastTravel 11 = .ok (.ireturn, 1) := by decide +kernel
theorem dX5_leastTravel_12 : decode cX5_leastTravel 12 = .ok (.iload_n 1, 1) := by decide +kernel
theorem dX5_leastTravel_13 : decode cX5_leastTravel 13 = .ok (.aload_n 0, 1) := by decide +kernel
theorem dX5_leastTravel_14 : decode cX5_leastTravel 14 = .ok (.getfield 7, 3) := by decide +kernel
theorem dX5_leastTravel_17 : decode cX5_leastTravel 17 = .ok (.bipush 6, 2) := by decide +kernel
theorem dX5_leastTravel_19 : decode cX5_leastTravel 19 = .ok (.iaload, 1) := by decide +kernel
theorem dX5_leastTravel_20 : decode cX5_leastTravel 20 = .ok (.if_icmp .lt 6, 3) := by decide +kernel
theorem dX5_leastTravel_23 : decode cX5_leastTravel 23 = .ok (.bipush (-9), 2) := by decide +kernel
theorem dX5_leastTravel_25 : decode cX5_leastTravel 25 = .ok (.ireturn, 1) := by decide +kernel
theorem dX5_leastTravel_26 : decode cX5_leastTravel 26 = .ok (.aload_n 0, 1) := by decide +kernel
theorem dX5_leastTravel_27 : decode cX5_leastTravel 27 = .ok (.invokevirtual 227, 3) := by decide +kernel
theorem dX5_leastTravel_30 : decode cX5_leastTravel 30 = .ok (.iconst 0, 1) := by decide +kernel
theorem dX5_leastTravel_31 : decode cX5_leastTravel 31 = .ok (.istore_n 2, 1) := by decide +kernel
theorem dX5_leastTravel_32 : decode cX5_leastTravel 32 = .ok (.iconst 0, 1) := by decide +kernel
theorem dX5_leastTravel_33 : decode cX5_leastTravel 33 = .ok (.istore_n 3, 1) := by decide +kernel
theorem dX5_leastTravel_34 : decode cX5_leastTravel 34 = .ok (.iconst 0, 1) := by decide +kernel
theorem dX5_leastTravel_35 : decode cX5_leastTravel 35 = .ok (.istore 4, 2) := by decide +kernel
theorem dX5_leastTravel_37 : decode cX5_leastTravel 37 = .ok (.iconst 0, 1) := by decide +kernel
theorem dX5_leastTravel_38 : decode cX5_leastTravel 38 = .ok (.istore 5, 2) := by decide +kernel
theorem dX5_leastTravel_40 : decode cX5_leastTravel 40 = .ok (.iload 5, 2) := by decide +kernel
theorem dX5_leastTravel_42 : decode cX5_leastTravel 42 = .ok (.aload_n 0, 1) := by decide +kernel
theorem dX5_leastTravel_43 : decode cX5_leastTravel 43 = .ok (.getfield 7, 3) := by decide +kernel
theorem dX5_leastTravel_46 : decode cX5_leastTravel 46 = .ok (.bipush 6, 2) := by decide +kernel
theorem dX5_leastTravel_48 : decode cX5_leastTravel 48 = .ok (.iaload, 1) := by decide +kernel
theorem dX5_leastTravel_49 : decode cX5_leastTravel 49 = .ok (.if_icmp .ge 192, 3) := by decide +kernel
theorem dX5_leastTravel_52 : decode cX5_leastTravel 52 = .ok (.bipush (-9), 2) := by decide +kernel
theorem dX5_leastTravel_54 : decode cX5_leastTravel 54 = .ok (.istore 6, 2) := by decide +kernel
theorem dX5_leastTravel_56 : decode cX5_leastTravel 56 = .ok (.ldc 226, 2) := by decide +kernel
theorem dX5_leastTravel_58 : decode cX5_leastTravel 58 = .ok (.istore 7, 2) := by decide +kernel
theorem dX5_leastTravel_60 : decode cX5_leastTravel 60 = .ok (.iconst 0, 1) := by decide +kernel
theorem dX5_leastTravel_61 : decode cX5_leastTravel 61 = .ok (.istore 8, 2) := by decide +kernel
theorem dX5_leastTravel_63 : decode cX5_leastTravel 63 = .ok (.iload 8, 2) := by decide +kernel
theorem dX5_leastTravel_65 : decode cX5_leastTravel 65 = .ok (.aload_n 0, 1) := by decide +kernel
theorem dX5_leastTravel_66 : decode cX5_leastTravel 66 = .ok (.getfield 7, 3) := by decide +kernel
theorem dX5_leastTravel_69 : decode cX5_leastTravel 69 = .ok (.bipush 6, 2) := by decide +kernel
theorem dX5_leastTravel_71 : decode cX5_leastTravel 71 = .ok (.iaload, 1) := by decide +kernel
theorem dX5_leastTravel_72 : decode cX5_leastTravel 72 = .ok (.if_icmp .ge 127, 3) := by decide +kernel
theorem dX5_leastTravel_75 : decode cX5_leastTravel 75 = .ok (.iload 4, 2) := by decide +kernel
theorem dX5_leastTravel_77 : decode cX5_leastTravel 77 = .ok (.iload 8, 2) := by decide +kernel
theorem dX5_leastTravel_79 : decode cX5_leastTravel 79 = .ok (.ishr, 1) := by decide +kernel
theorem dX5_leastTravel_80 : decode cX5_leastTravel 80 = .ok (.iconst 1, 1) := by decide +kernel
theorem dX5_leastTravel_81 : decode cX5_leastTravel 81 = .ok (.iand, 1) := by decide +kernel
theorem dX5_leastTravel_82 : decode cX5_leastTravel 82 = .ok (.iconst 1, 1) := by decide +kernel
theorem dX5_leastTravel_83 : decode cX5_leastTravel 83 = .ok (.if_icmp .ne 8, 3) := by decide +kernel
theorem dX5_leastTravel_86 : decode cX5_leastTravel 86 = .ok (.ldc 226, 2) := by decide +kernel
theorem dX5_leastTravel_88 : decode cX5_leastTravel 88 = .ok (.goto 32, 3) := by decide +kernel
theorem dX5_leastTravel_91 : decode cX5_leastTravel 91 = .ok (.iload_n 3, 1) := by decide +kernel
theorem dX5_leastTravel_92 : decode cX5_leastTravel 92 = .ok (.aload_n 0, 1) := by decide +kernel
theorem dX5_leastTravel_93 : decode cX5_leastTravel 93 = .ok (.iload 8, 2) := by decide +kernel
theorem dX5_leastTravel_95 : decode cX5_leastTravel 95 = .ok (.invokevirtual 50, 3) := by decide +kernel
theorem dX5_leastTravel_98 : decode cX5_leastTravel 98 = .ok (.invokestatic 53, 3) := by decide +kernel
theorem dX5_leastTravel_101 : decode cX5_leastTravel 101 = .ok (.aload_n 0, 1) := by decide +kernel
theorem dX5_leastTravel_102 : decode cX5_leastTravel 102 = .ok (.getfield 29, 3) := by decide +kernel
theorem dX5_leastTravel_105 : decode cX5_leastTravel 105 = .ok (.bipush 12, 2) := by decide +kernel
theorem dX5_leastTravel_107 : decode cX5_leastTravel 107 = .ok (.iload 4, 2) := by decide +kernel
theorem dX5_leastTravel_109 : decode cX5_leastTravel 109 = .ok (.iconst 1, 1) := by decide +kernel
theorem dX5_leastTravel_110 : decode cX5_leastTravel 110 = .ok (.iload 8, 2) := by decide +kernel
theorem dX5_leastTravel_112 : decode cX5_leastTravel 112 = .ok (.ishl, 1) := by decide +kernel
theorem dX5_leastTravel_113 : decode cX5_leastTravel 113 = .ok (.ior, 1) := by decide +kernel
theorem dX5_leastTravel_114 : decode cX5_leastTravel 114 = .ok (.imul, 1) := by decide +kernel
theorem dX5_leastTravel_115 : decode cX5_leastTravel 115 = .ok (.iload 8, 2) := by decide +kernel
theorem dX5_leastTravel_117 : decode cX5_leastTravel 117 = .ok (.iadd, 1) := by decide +kernel
theorem dX5_leastTravel_118 : decode cX5_leastTravel 118 = .ok (.iaload, 1) := by decide +kernel
theorem dX5_leastTravel_119 : decode cX5_leastTravel 119 = .ok (.iadd, 1) := by decide +kernel
theorem dX5_leastTravel_120 : decode cX5_leastTravel 120 = .ok (.istore 9, 2) := by decide +kernel
theorem dX5_leastTravel_122 : decode cX5_leastTravel 122 = .ok (.iload 9, 2) := by decide +kernel
theorem dX5_leastTravel_124 : decode cX5_leastTravel 124 = .ok (.iload 7, 2) := by decide +kernel
theorem dX5_leastTravel_126 : decode cX5_leastTravel 126 = .ok (.if_icmp .lt 32, 3) := by decide +kernel
theorem dX5_leastTravel_129 : decode cX5_leastTravel 129 = .ok (.iload 9, 2) := by decide +kernel
theorem dX5_leastTravel_131 : decode cX5_leastTravel 131 = .ok (.iload 7, 2) := by decide +kernel
theorem dX5_leastTravel_133 : decode cX5_leastTravel 133 = .ok (.if_icmp .ne 29, 3) := by decide +kernel
theorem dX5_leastTravel_136 : decode cX5_leastTravel 136 = .ok (.iload 9, 2) := by decide +kernel
theorem dX5_leastTravel_138 : decode cX5_leastTravel 138 = .ok (.ldc 226, 2) := by decide +kernel
theorem dX5_leastTravel_140 : decode cX5_leastTravel 140 = .ok (.if_icmp .ge 22, 3) := by decide +kernel
theorem dX5_leastTravel_143 : decode cX5_leastTravel 143 = .ok (.aload_n 0, 1) := by decide +kernel
theorem dX5_leastTravel_144 : decode cX5_leastTravel 144 = .ok (.iload 8, 2) := by decide +kernel
theorem dX5_leastTravel_146 : decode cX5_leastTravel 146 = .ok (.invokevirtual 50, 3) := by decide +kernel
theorem dX5_leastTravel_149 : decode cX5_leastTravel 149 = .ok (.aload_n 0, 1) := by decide +kernel
theorem dX5_leastTravel_150 : decode cX5_leastTravel 150 = .ok (.iload 6, 2) := by decide +kernel
theorem dX5_leastTravel_152 : decode cX5_leastTravel 152 = .ok (.invokevirtual 50, 3) := by decide +kernel
theorem dX5_leastTravel_155 : decode cX5_leastTravel 155 = .ok (.if_icmp .ge 7, 3) := by decide +kernel
theorem dX5_leastTravel_158 : decode cX5_leastTravel 158 = .ok (.iconst 1, 1) := by decide +kernel
theorem dX5_leastTravel_159 : decode cX5_leastTravel 159 = .ok (.goto 4, 3) := by decide +kernel
theorem dX5_leastTravel_162 : decode cX5_leastTravel 162 = .ok (.iconst 0, 1) := by decide +kernel
theorem dX5_leastTravel_163 : decode cX5_leastTravel 163 = .ok (.istore 10, 2) := by decide +kernel
theorem dX5_leastTravel_165 : decode cX5_leastTravel 165 = .ok (.iload 10, 2) := by decide +kernel
theorem dX5_leastTravel_167 : decode cX5_leastTravel 167 = .ok (.ifCond .eq 8, 3) := by decide +kernel
theorem dX5_leastTravel_170 : decode cX5_leastTravel 170 = .ok (.iload 8, 2) := by decide +kernel
theorem dX5_leastTravel_172 : decode cX5_leastTravel 172 = .ok (.goto 5, 3) := by decide +kernel
theorem dX5_leastTravel_175 : decode cX5_leastTravel 175 = .ok (.iload 6, 2) := by decide +kernel
theorem dX5_leastTravel_177 : decode cX5_leastTravel 177 = .ok (.istore 6, 2) := by decide +kernel
theorem dX5_leastTravel_179 : decode cX5_leastTravel 179 = .ok (.iload 10, 2) := by decide +kernel
theorem dX5_leastTravel_181 : decode cX5_leastTravel 181 = .ok (.ifCond .eq 8, 3) := by decide +kernel
theorem dX5_leastTravel_184 : decode cX5_leastTravel 184 = .ok (.iload 9, 2) := by decide +kernel
theorem dX5_leastTravel_186 : decode cX5_leastTravel 186 = .ok (.goto 5, 3) := by decide +kernel
theorem dX5_leastTravel_189 : decode cX5_leastTravel 189 = .ok (.iload 7, 2) := by decide +kernel
theorem dX5_leastTravel_191 : decode cX5_leastTravel 191 = .ok (.istore 7, 2) := by decide +kernel
theorem dX5_leastTravel_193 : decode cX5_leastTravel 193 = .ok (.iinc 8 1, 3) := by decide +kernel
theorem dX5_leastTravel_196 : decode cX5_leastTravel 196 = .ok (.goto (-133), 3) := by decide +kernel
theorem dX5_leastTravel_199 : decode cX5_leastTravel 199 = .ok (.iload 5, 2) := by decide +kernel
theorem dX5_leastTravel_201 : decode cX5_leastTravel 201 = .ok (.ifCond .ne 8, 3) := by decide +kernel
theorem dX5_leastTravel_204 : decode cX5_leastTravel 204 = .ok (.iload 7, 2) := by decide +kernel
theorem dX5_leastTravel_206 : decode cX5_leastTravel 206 = .ok (.goto 4, 3) := by decide +kernel
theorem dX5_leastTravel_209 : decode cX5_leastTravel 209 = .ok (.iload_n 2, 1) := by decide +kernel
theorem dX5_leastTravel_210 : decode cX5_leastTravel 210 = .ok (.istore_n 2, 1) := by decide +kernel
theorem dX5_leastTravel_211 : decode cX5_leastTravel 211 = .ok (.aload_n 0, 1) := by decide +kernel
theorem dX5_leastTravel_212 : decode cX5_leastTravel 212 = .ok (.iload 6, 2) := by decide +kernel
theorem dX5_leastTravel_214 : decode cX5_leastTravel 214 = .ok (.invokevirtual 50, 3) := by decide +kernel
theorem dX5_leastTravel_217 : decode cX5_leastTravel 217 = .ok (.istore_n 3, 1) := by decide +kernel
theorem dX5_leastTravel_218 : decode cX5_leastTravel 218 = .ok (.iload 4, 2) := by decide +kernel
theorem dX5_leastTravel_220 : decode cX5_leastTravel 220 = .ok (.iconst 1, 1) := by decide +kernel
theorem dX5_leastTravel_221 : decode cX5_leastTravel 221 = .ok (.iload 6, 2) := by decide +kernel
theorem dX5_leastTravel_223 : decode cX5_leastTravel 223 = .ok (.ishl, 1) := by decide +kernel
theorem dX5_leastTravel_224 : decode cX5_leastTravel 224 = .ok (.ior, 1) := by decide +kernel
theorem dX5_leastTravel_225 : decode cX5_leastTravel 225 = .ok (.istore 4, 2) := by decide +kernel
theorem dX5_leastTravel_227 : decode cX5_leastTravel 227 = .ok (.iload 5, 2) := by decide +kernel
theorem dX5_leastTravel_229 : decode cX5_leastTravel 229 = .ok (.iload_n 1, 1) := by decide +kernel
theorem dX5_leastTravel_230 : decode cX5_leastTravel 230 = .ok (.if_icmp .ne 5, 3) := by decide +kernel
theorem dX5_leastTravel_233 : decode cX5_leastTravel 233 = .ok (.iload_n 3, 1) := by decide +kernel
theorem dX5_leastTravel_234 : decode cX5_leastTravel 234 = .ok (.ireturn, 1) := by decide +kernel
theorem dX5_leastTravel_235 : decode cX5_leastTravel 235 = .ok (.iinc 5 1, 3) := by decide +kernel
theorem dX5_leastTravel_238 : decode cX5_leastTravel 238 = .ok (.goto (-198), 3) := by decide +kernel
theorem dX5_leastTravel_241 : decode cX5_leastTravel 241 = .ok (.iload_n 2, 1) := by decide +kernel
theorem dX5_leastTravel_242 : decode cX5_leastTravel 242 = .ok (.ireturn, 1) := by decide +kernel
set_option maxRecDepth 20000 in
theorem ggX5_longest_X5_beam : GoodIn wsX5_longest wsX5_beam := goodIn_r _ [7, 8, 2, 9, 10, 11, 6, 12, 13, 14, 15, 16, 17, 18, 41, 42, 43, 44, 45, 46, 47, 48, 49, 50, 51, 52, 53, 54] (by decide +kernel) (by decide +kernel)
set_option maxRecDepth 20000 in
theorem gX5_longest_X5_beam : GoodIn wsX5_longest (wsV RX5 80 RX5 yX5_beam wsX5_beam) := goodIn_app (goodIn_of _ (by decide +kernel)) ggX5_longest_X5_beam
set_option maxRecDepth 20000 in
theorem ggX5_longest_X5_wrongFor : GoodIn wsX5_longest wsX5_wrongFor := goodIn_r _ [22, 2, 23, 24, 25, 6, 26, 8, 27, 28, 29, 30, 31, 32, 33, 34, 35, 36, 37, 38, 39, 40, 41, 42, 43, 44, 45, 46, 47, 48, 49, 50, 51, 52, 53, 54] (by decide +kernel) (by decide +kernel)
set_option maxRecDepth 20000 in
theorem gX5_longest_X5_wrongFor : GoodIn wsX5_longest (wsV RX5 223 RX5 yX5_wrongFor wsX5_wrongFor) := goodIn_app (goodIn_of _ (by decide +kernel)) ggX5_longest_X5_wrongFor
theorem dX5_longest_0 : decode cX5_longest 0 = .ok (.aload_n 0, 1) := by decide +kernel
theorem dX5_longest_1 : decode cX5_longest 1 = .ok (.iconst 0, 1) := by decide +kernel
theorem dX5_longest_2 : decode cX5_longest 2 = .ok (.putfield 32, 3) := by decide +kernel
theorem dX5_longest_5 : decode cX5_longest 5 = .ok (.aload_n 0, 1) := by decide +kernel
theorem dX5_longest_6 : decode cX5_longest 6 = .ok (.invokevirtual 80, 3) := by decide +kernel
theorem dX5_longest_9 : decode cX5_longest 9 = .ok (.bipush 50, 2) := by decide +kernel
theorem dX5_longest_11 : decode cX5_longest 11 = .ok (.istore_n 1, 1) := by decide +kernel
theorem dX5_longest_12 : decode cX5_longest 12 = .ok (.iload_n 1, 1) := by decide +kernel
theorem dX5_longest_13 : decode cX5_longest 13 = .ok (.ifCond .le 25, 3) := by decide +kernel
theorem dX5_longest_16 : decode cX5_longest 16 = .ok (.aload_n 0, 1) := by decide +kernel
theorem dX5_longest_17 : decode cX5_longest 17 = .ok (.aload_n 0, 1) := by decide +kernel
theorem dX5_longest_18 : decode cX5_longest 18 = .ok (.getfield 7, 3) := by decide +kernel
theorem dX5_longest_21 : decode cX5_longest 21 = .ok (.iconst 3, 1) := by decide +kernel
theorem dX5_longest_22 : decode cX5_longest 22 = .ok (.iaload, 1) := by decide +kernel
theorem dX5_longest_23 : decode cX5_longest 23 = .ok (.iload_n 1, 1) := by decide +kernel
theorem dX5_longest_24 : decode cX5_longest 24 = .ok (.invokevirtual 223, 3) := by decide +kernel
theorem dX5_longest_27 : decode cX5_longest 27 = .ok (.ifCond .ne 5, 3) := by decide +kernel
theorem dX5_longest_30 : decode cX5_longest 30 = .ok (.iload_n 1, 1) := by decide +kernel
theorem dX5_longest_31 : decode cX5_longest 31 = .ok (.ireturn, 1) := by decide +kernel
theorem dX5_longest_32 : decode cX5_longest 32 = .ok (.iinc 1 (-1), 3) := by decide +kernel
theorem dX5_longest_35 : decode cX5_longest 35 = .ok (.goto (-23), 3) := by decide +kernel
theorem dX5_longest_38 : decode cX5_longest 38 = .ok (.bipush (-9), 2) := by decide +kernel
theorem dX5_longest_40 : decode cX5_longest 40 = .ok (.ireturn, 1) := by decide +kernel
set_option maxRecDepth 20000 in
theorem ggX5_ticks_X5_in : GoodIn wsX5_ticks wsX5_in := goodIn_r _ [5] (by decide +kernel) (by decide +kernel)
set_option maxRecDepth 20000 in
theorem gX5_ticks_X5_in : GoodIn wsX5_ticks (va_wsS RX5 36 yX5_in wsX5_in) := goodIn_app (goodIn_of _ (by decide +kernel)) ggX5_ticks_X5_in
set_option maxRecDepth 20000 in
theorem ggX5_ticks_X5_fading : GoodIn wsX5_ticks wsX5_fading := goodIn_r _ [8, 9, 10, 4, 11] (by decide +kernel) (by decide +kernel)
set_option maxRecDepth 20000 in
theorem gX5_ticks_X5_fading : GoodIn wsX5_ticks (va_wsS RX5 57 yX5_fading wsX5_fading) := goodIn_app (goodIn_of _ (by decide +kernel)) ggX5_ticks_X5_fading
theorem dX5_ticks_0 : decode cX5_ticks 0 = .ok (.aload_n 0, 1) := by decide +kernel
theorem dX5_ticks_1 : decode cX5_ticks 1 = .ok (.iconst 0, 1) := by decide +kernel
theorem dX5_ticks_2 : decode cX5_ticks 2 = .ok (.putfield 32, 3) := by decide +kernel
theorem dX5_ticks_5 : decode cX5_ticks 5 = .ok (.iload_n 1, 1) := by decide +kernel
theorem dX5_ticks_6 : decode cX5_ticks 6 = .ok (.iconst 0, 1) := by decide +kernel
theorem dX5_ticks_7 : decode cX5_ticks 7 = .ok (.iconst 3, 1) := by decide +kernel
theorem dX5_ticks_8 : decode cX5_ticks 8 = .ok (.invokestatic 36, 3) := by decide +kernel
theorem dX5_ticks_11 : decode cX5_ticks 11 = .ok (.ifCond .eq 13, 3) := by decide +kernel
theorem dX5_ticks_14 : decode cX5_ticks 14 = .ok (.iload_n 2, 1) := by decide +kernel
theorem dX5_ticks_15 : decode cX5_ticks 15 = .ok (.iconst 1, 1) := by decide +kernel
theorem dX5_ticks_16 : decode cX5_ticks 16 = .ok (.bipush 100, 2) := by decide +kernel
theorem dX5_ticks_18 : decode cX5_ticks 18 = .ok (.invokestatic 36, 3) := by decide +kernel
theorem dX5_ticks_21 : decode cX5_ticks 21 = .ok (.ifCond .ne 5, 3) := by decide +kernel
theorem dX5_ticks_24 : decode cX5_ticks 24 = .ok (.iconst (-1), 1) := by decide +kernel
theorem dX5_ticks_25 : decode cX5_ticks 25 = .ok (.ireturn, 1) := by decide +kernel
theorem dX5_ticks_26 : decode cX5_ticks 26 = .ok (.iconst 0, 1) := by decide +kernel
theorem dX5_ticks_27 : decode cX5_ticks 27 = .ok (.istore_n 3, 1) := by decide +kernel
theorem dX5_ticks_28 : decode cX5_ticks 28 = .ok (.iload_n 1, 1) := by decide +kernel
theorem dX5_ticks_29 : decode cX5_ticks 29 = .ok (.iload_n 3, 1) := by decide +kernel
theorem dX5_ticks_30 : decode cX5_ticks 30 = .ok (.invokestatic 57, 3) := by decide +kernel
theorem dX5_ticks_33 : decode cX5_ticks 33 = .ok (.iload_n 2, 1) := by decide +kernel
theorem dX5_ticks_34 : decode cX5_ticks 34 = .ok (.if_icmp .lt 9, 3) := by decide +kernel
theorem dX5_ticks_37 : decode cX5_ticks 37 = .ok (.iinc 3 1, 3) := by decide +kernel
theorem dX5_ticks_40 : decode cX5_ticks 40 = .ok (.goto (-12), 3) := by decide +kernel
theorem dX5_ticks_43 : decode cX5_ticks 43 = .ok (.iload_n 3, 1) := by decide +kernel
theorem dX5_ticks_44 : decode cX5_ticks 44 = .ok (.ireturn, 1) := by decide +kernel
set_option maxRecDepth 20000 in
theorem ggX5_shortestPeriod_X5_lastTick : GoodIn wsX5_shortestPeriod wsX5_lastTick := goodIn_r _ [6, 7, 8, 9, 10, 5, 11, 12, 13, 14, 15, 16, 17, 18, 19, 20, 21, 22, 23, 24, 25, 26, 27, 28, 29, 30, 31] (by decide +kernel) (by decide +kernel)
set_option maxRecDepth 20000 in
theorem gX5_shortestPeriod_X5_lastTick : GoodIn wsX5_shortestPeriod (wsV RX5 230 RX5 yX5_lastTick wsX5_lastTick) := goodIn_app (goodIn_of _ (by decide +kernel)) ggX5_shortestPeriod_X5_lastTick
theorem dX5_shortestPeriod_0 : decode cX5_shortestPeriod 0 = .ok (.aload_n 0, 1) := by decide +kernel
theorem dX5_shortestPeriod_1 : decode cX5_shortestPeriod 1 = .ok (.iconst 0, 1) := by decide +kernel
theorem dX5_shortestPeriod_2 : decode cX5_shortestPeriod 2 = .ok (.putfield 32, 3) := by decide +kernel
theorem dX5_shortestPeriod_5 : decode cX5_shortestPeriod 5 = .ok (.aload_n 0, 1) := by decide +kernel
theorem dX5_shortestPeriod_6 : decode cX5_shortestPeriod 6 = .ok (.invokevirtual 230, 3) := by decide +kernel
theorem dX5_shortestPeriod_9 : decode cX5_shortestPeriod 9 = .ok (.iconst 1, 1) := by decide +kernel
theorem dX5_shortestPeriod_10 : decode cX5_shortestPeriod 10 = .ok (.iadd, 1) := by decide +kernel
theorem dX5_shortestPeriod_11 : decode cX5_shortestPeriod 11 = .ok (.istore_n 1, 1) := by decide +kernel
theorem dX5_shortestPeriod_12 : decode cX5_shortestPeriod 12 = .ok (.iload_n 1, 1) := by decide +kernel
theorem dX5_shortestPeriod_13 : decode cX5_shortestPeriod 13 = .ok (.bipush 8, 2) := by decide +kernel
theorem dX5_shortestPeriod_15 : decode cX5_shortestPeriod 15 = .ok (.if_icmp .ge 8, 3) := by decide +kernel
theorem dX5_shortestPeriod_18 : decode cX5_shortestPeriod 18 = .ok (.bipush 8, 2) := by decide +kernel
theorem dX5_shortestPeriod_20 : decode cX5_shortestPeriod 20 = .ok (.goto 16, 3) := by decide +kernel
theorem dX5_shortestPeriod_23 : decode cX5_shortestPeriod 23 = .ok (.iload_n 1, 1) := by decide +kernel
theorem dX5_shortestPeriod_24 : decode cX5_shortestPeriod 24 = .ok (.sipush 200, 3) := by decide +kernel
theorem dX5_shortestPeriod_27 : decode cX5_shortestPeriod 27 = .ok (.if_icmp .le 8, 3) := by decide +kernel
theorem dX5_shortestPeriod_30 : decode cX5_shortestPeriod 30 = .ok (.bipush (-9), 2) := by decide +kernel
theorem dX5_shortestPeriod_32 : decode cX5_shortestPeriod 32 = .ok (.goto 4, 3) := by decide +kernel
theorem dX5_shortestPeriod_35 : decode cX5_shortestPeriod 35 = .ok (.iload_n 1, 1) := by decide +kernel
theorem dX5_shortestPeriod_36 : decode cX5_shortestPeriod 36 = .ok (.ireturn, 1) := by decide +kernel
theorem dJ13_bitCount_95d88_0 : decode cJ13_bitCount_95d88 0 = .ok (.lload_n 0, 1) := by decide +kernel
theorem dJ13_bitCount_95d88_1 : decode cJ13_bitCount_95d88 1 = .ok (.lload_n 0, 1) := by decide +kernel
theorem dJ13_bitCount_95d88_2 : decode cJ13_bitCount_95d88 2 = .ok (.iconst 1, 1) := by decide +kernel
theorem dJ13_bitCount_95d88_3 : decode cJ13_bitCount_95d88 3 = .ok (.lushr, 1) := by decide +kernel
theorem dJ13_bitCount_95d88_4 : decode cJ13_bitCount_95d88 4 = .ok (.ldc2_w 314, 3) := by decide +kernel
theorem dJ13_bitCount_95d88_7 : decode cJ13_bitCount_95d88 7 = .ok (.land, 1) := by decide +kernel
theorem dJ13_bitCount_95d88_8 : decode cJ13_bitCount_95d88 8 = .ok (.lsub, 1) := by decide +kernel
theorem dJ13_bitCount_95d88_9 : decode cJ13_bitCount_95d88 9 = .ok (.lstore_n 0, 1) := by decide +kernel
theorem dJ13_bitCount_95d88_10 : decode cJ13_bitCount_95d88 10 = .ok (.lload_n 0, 1) := by decide +kernel
theorem dJ13_bitCount_95d88_11 : decode cJ13_bitCount_95d88 11 = .ok (.ldc2_w 316, 3) := by decide +kernel
theorem dJ13_bitCount_95d88_14 : decode cJ13_bitCount_95d88 14 = .ok (.land, 1) := by decide +kernel
theorem dJ13_bitCount_95d88_15 : decode cJ13_bitCount_95d88 15 = .ok (.lload_n 0, 1) := by decide +kernel
theorem dJ13_bitCount_95d88_16 : decode cJ13_bitCount_95d88 16 = .ok (.iconst 2, 1) := by decide +kernel
theorem dJ13_bitCount_95d88_17 : decode cJ13_bitCount_95d88 17 = .ok (.lushr, 1) := by decide +kernel
theorem dJ13_bitCount_95d88_18 : decode cJ13_bitCount_95d88 18 = .ok (.ldc2_w 316, 3) := by decide +kernel
theorem dJ13_bitCount_95d88_21 : decode cJ13_bitCount_95d88 21 = .ok (.land, 1) := by decide +kernel
theorem dJ13_bitCount_95d88_22 : decode cJ13_bitCount_95d88 22 = .ok (.ladd, 1) := by decide +kernel
theorem dJ13_bitCount_95d88_23 : decode cJ13_bitCount_95d88 23 = .ok (.lstore_n 0, 1) := by decide +kernel
theorem dJ13_bitCount_95d88_24 : decode cJ13_bitCount_95d88 24 = .ok (.lload_n 0, 1) := by decide +kernel
theorem dJ13_bitCount_95d88_25 : decode cJ13_bitCount_95d88 25 = .ok (.lload_n 0, 1) := by decide +kernel
theorem dJ13_bitCount_95d88_26 : decode cJ13_bitCount_95d88 26 = .ok (.iconst 4, 1) := by decide +kernel
theorem dJ13_bitCount_95d88_27 : decode cJ13_bitCount_95d88 27 = .ok (.lushr, 1) := by decide +kernel
theorem dJ13_bitCount_95d88_28 : decode cJ13_bitCount_95d88 28 = .ok (.ladd, 1) := by decide +kernel
theorem dJ13_bitCount_95d88_29 : decode cJ13_bitCount_95d88 29 = .ok (.ldc2_w 318, 3) := by decide +kernel
theorem dJ13_bitCount_95d88_32 : decode cJ13_bitCount_95d88 32 = .ok (.land, 1) := by decide +kernel
theorem dJ13_bitCount_95d88_33 : decode cJ13_bitCount_95d88 33 = .ok (.lstore_n 0, 1) := by decide +kernel
theorem dJ13_bitCount_95d88_34 : decode cJ13_bitCount_95d88 34 = .ok (.lload_n 0, 1) := by decide +kernel
theorem dJ13_bitCount_95d88_35 : decode cJ13_bitCount_95d88 35 = .ok (.lload_n 0, 1) := by decide +kernel
theorem dJ13_bitCount_95d88_36 : decode cJ13_bitCount_95d88 36 = .ok (.bipush 8, 2) := by decide +kernel
theorem dJ13_bitCount_95d88_38 : decode cJ13_bitCount_95d88 38 = .ok (.lushr, 1) := by decide +kernel
theorem dJ13_bitCount_95d88_39 : decode cJ13_bitCount_95d88 39 = .ok (.ladd, 1) := by decide +kernel
theorem dJ13_bitCount_95d88_40 : decode cJ13_bitCount_95d88 40 = .ok (.lstore_n 0, 1) := by decide +kernel
theorem dJ13_bitCount_95d88_41 : decode cJ13_bitCount_95d88 41 = .ok (.lload_n 0, 1) := by decide +kernel
theorem dJ13_bitCount_95d88_42 : decode cJ13_bitCount_95d88 42 = .ok (.lload_n 0, 1) := by decide +kernel
theorem dJ13_bitCount_95d88_43 : decode cJ13_bitCount_95d88 43 = .ok (.bipush 16, 2) := by decide +kernel
theorem dJ13_bitCount_95d88_45 : decode cJ13_bitCount_95d88 45 = .ok (.lushr, 1) := by decide +kernel
theorem dJ13_bitCount_95d88_46 : decode cJ13_bitCount_95d88 46 = .ok (.ladd, 1) := by decide +kernel
theorem dJ13_bitCount_95d88_47 : decode cJ13_bitCount_95d88 47 = .ok (.lstore_n 0, 1) := by decide +kernel
theorem dJ13_bitCount_95d88_48 : decode cJ13_bitCount_95d88 48 = .ok (.lload_n 0, 1) := by decide +kernel
theorem dJ13_bitCount_95d88_49 : decode cJ13_bitCount_95d88 49 = .ok (.lload_n 0, 1) := by decide +kernel
theorem dJ13_bitCount_95d88_50 : decode cJ13_bitCount_95d88 50 = .ok (.bipush 32, 2) := by decide +kernel
theorem dJ13_bitCount_95d88_52 : decode cJ13_bitCount_95d88 52 = .ok (.lushr, 1) := by decide +kernel
theorem dJ13_bitCount_95d88_53 : decode cJ13_bitCount_95d88 53 = .ok (.ladd, 1) := by decide +kernel
theorem dJ13_bitCount_95d88_54 : decode cJ13_bitCount_95d88 54 = .ok (.lstore_n 0, 1) := by decide +kernel
theorem dJ13_bitCount_95d88_55 : decode cJ13_bitCount_95d88 55 = .ok (.lload_n 0, 1) := by decide +kernel
theorem dJ13_bitCount_95d88_56 : decode cJ13_bitCount_95d88 56 = .ok (.l2i, 1) := by decide +kernel
theorem dJ13_bitCount_95d88_57 : decode cJ13_bitCount_95d88 57 = .ok (.bipush 127, 2) := by decide +kernel
theorem dJ13_bitCount_95d88_59 : decode cJ13_bitCount_95d88 59 = .ok (.iand, 1) := by decide +kernel
theorem dJ13_bitCount_95d88_60 : decode cJ13_bitCount_95d88 60 = .ok (.ireturn, 1) := by decide +kernel
theorem dJ9_abs_0f7a4_0 : decode cJ9_abs_0f7a4 0 = .ok (.iload_n 0, 1) := by decide +kernel
theorem dJ9_abs_0f7a4_1 : decode cJ9_abs_0f7a4 1 = .ok (.ifCond .ge 8, 3) := by decide +kernel
theorem dJ9_abs_0f7a4_4 : decode cJ9_abs_0f7a4 4 = .ok (.iload_n 0, 1) := by decide +kernel
theorem dJ9_abs_0f7a4_5 : decode cJ9_abs_0f7a4 5 = .ok (.ineg, 1) := by decide +kernel
theorem dJ9_abs_0f7a4_6 : decode cJ9_abs_0f7a4 6 = .ok (.goto 4, 3) := by decide +kernel
theorem dJ9_abs_0f7a4_9 : decode cJ9_abs_0f7a4 9 = .ok (.iload_n 0, 1) := by decide +kernel
theorem dJ9_abs_0f7a4_10 : decode cJ9_abs_0f7a4 10 = .ok (.ireturn, 1) := by decide +kernel
theorem dJ9_max_7cf53_0 : decode cJ9_max_7cf53 0 = .ok (.iload_n 0, 1) := by decide +kernel
theorem dJ9_max_7cf53_1 : decode cJ9_max_7cf53 1 = .ok (.iload_n 1, 1) := by decide +kernel
theorem dJ9_max_7cf53_2 : decode cJ9_max_7cf53 2 = .ok (.if_icmp .lt 7, 3) := by decide +kernel
theorem dJ9_max_7cf53_5 : decode cJ9_max_7cf53 5 = .ok (.iload_n 0, 1) := by decide +kernel
theorem dJ9_max_7cf53_6 : decode cJ9_max_7cf53 6 = .ok (.goto 4, 3) := by decide +kernel
theorem dJ9_max_7cf53_9 : decode cJ9_max_7cf53 9 = .ok (.iload_n 1, 1) := by decide +kernel
theorem dJ9_max_7cf53_10 : decode cJ9_max_7cf53 10 = .ok (.ireturn, 1) := by decide +kernel
theorem dJ9_min_7cf53_0 : decode cJ9_min_7cf53 0 = .ok (.iload_n 0, 1) := by decide +kernel
theorem dJ9_min_7cf53_1 : decode cJ9_min_7cf53 1 = .ok (.iload_n 1, 1) := by decide +kernel
theorem dJ9_min_7cf53_2 : decode cJ9_min_7cf53 2 = .ok (.if_icmp .gt 7, 3) := by decide +kernel
theorem dJ9_min_7cf53_5 : decode cJ9_min_7cf53 5 = .ok (.iload_n 0, 1) := by decide +kernel
theorem dJ9_min_7cf53_6 : decode cJ9_min_7cf53 6 = .ok (.goto 4, 3) := by decide +kernel
theorem dJ9_min_7cf53_9 : decode cJ9_min_7cf53 9 = .ok (.iload_n 1, 1) := by decide +kernel
theorem dJ9_min_7cf53_10 : decode cJ9_min_7cf53 10 = .ok (.ireturn, 1) := by decide +kernel
set_option maxRecDepth 20000 in
theorem ggJ0_length_8abf5_J0_coder_7d493 : GoodIn wsJ0_length_8abf5 wsJ0_coder_7d493 := goodIn_r _ [6, 7, 8] (by decide +kernel) (by decide +kernel)
set_option maxRecDepth 20000 in
theorem gJ0_length_8abf5_J0_coder_7d493 : GoodIn wsJ0_length_8abf5 (wsV RJ0 335 RJ0 yJ0_coder_7d493 wsJ0_coder_7d493) := goodIn_app (goodIn_of _ (by decide +kernel)) ggJ0_length_8abf5_J0_coder_7d493
theorem dJ0_length_8abf5_0 : decode cJ0_length_8abf5 0 = .ok (.aload_n 0, 1) := by decide +kernel
theorem dJ0_length_8abf5_1 : decode cJ0_length_8abf5 1 = .ok (.getfield 9, 3) := by decide +kernel
theorem dJ0_length_8abf5_4 : decode cJ0_length_8abf5 4 = .ok (.arraylength, 1) := by decide +kernel
theorem dJ0_length_8abf5_5 : decode cJ0_length_8abf5 5 = .ok (.aload_n 0, 1) := by decide +kernel
theorem dJ0_length_8abf5_6 : decode cJ0_length_8abf5 6 = .ok (.invokevirtual 335, 3) := by decide +kernel
theorem dJ0_length_8abf5_9 : decode cJ0_length_8abf5 9 = .ok (.ishr, 1) := by decide +kernel
theorem dJ0_length_8abf5_10 : decode cJ0_length_8abf5 10 = .ok (.ireturn, 1) := by decide +kernel
set_option maxRecDepth 20000 in
theorem ggJ0_charAt_5068e_J0_isLatin1_aae02 : GoodIn wsJ0_charAt_5068e wsJ0_isLatin1_aae02 := goodIn_r _ [6, 7, 8] (by decide +kernel) (by decide +kernel)
set_option maxRecDepth 20000 in
theorem gJ0_charAt_5068e_J0_isLatin1_aae02 : GoodIn wsJ0_charAt_5068e (wsV RJ0 492 RJ0 yJ0_isLatin1_aae02 wsJ0_isLatin1_aae02) := goodIn_app (goodIn_of _ (by decide +kernel)) ggJ0_charAt_5068e_J0_isLatin1_aae02
set_option maxRecDepth 20000 in
theorem ggJ0_charAt_5068e_J1_charAt_3b067 : GoodIn wsJ0_charAt_5068e wsJ1_charAt_3b067 := goodIn_r _ [12, 13, 14, 5, 15, 16, 17, 18, 19, 20] (by decide +kernel) (by decide +kernel)
set_option maxRecDepth 20000 in
theorem gJ0_charAt_5068e_J1_charAt_3b067 : GoodIn wsJ0_charAt_5068e (va_wsS RJ0 495 yJ1_charAt_3b067 wsJ1_charAt_3b067) := goodIn_app (goodIn_of _ (by decide +kernel)) ggJ0_charAt_5068e_J1_charAt_3b067
set_option maxRecDepth 20000 in
theorem ggJ0_charAt_5068e_J2_charAt_3b067 : GoodIn wsJ0_charAt_5068e wsJ2_charAt_3b067 := goodIn_r _ [24, 25, 26, 23, 27, 28, 29, 30, 31, 14, 5, 15, 16, 17, 18, 19, 20, 32, 33, 34, 35, 36, 37] (by decide +kernel) (by decide +kernel)
set_option maxRecDepth 20000 in
theorem gJ0_charAt_5068e_J2_charAt_3b067 : GoodIn wsJ0_charAt_5068e (va_wsS RJ0 498 yJ2_charAt_3b067 wsJ2_charAt_3b067) := goodIn_app (goodIn_of _ (by decide +kernel)) ggJ0_charAt_5068e_J2_charAt_3b067
theorem dJ0_charAt_5068e_0 : decode cJ0_charAt_5068e 0 = .ok (.aload_n 0, 1) := by decide +kernel
theorem dJ0_charAt_5068e_1 : decode cJ0_charAt_5068e 1 = .ok (.invokevirtual 492, 3) := by decide +kernel
theorem dJ0_charAt_5068e_4 : decode cJ0_charAt_5068e 4 = .ok (.ifCond .eq 12, 3) := by decide +kernel
theorem dJ0_charAt_5068e_7 : decode cJ0_charAt_5068e 7 = .ok (.aload_n 0, 1) := by decide +kernel
theorem dJ0_charAt_5068e_8 : decode cJ0_charAt_5068e 8 = .ok (.getfield 9, 3) := by decide +kernel
theorem dJ0_charAt_5068e_11 : decode cJ0_charAt_5068e 11 = .ok (.iload_n 1, 1) := by decide +kernel
theorem dJ0_charAt_5068e_12 : decode cJ0_charAt_5068e 12 = .ok (.invokestatic 495, 3) := by decide +kernel
theorem dJ0_charAt_5068e_15 : decode cJ0_charAt_5068e 15 = .ok (.ireturn, 1) := by decide +kernel
theorem dJ0_charAt_5068e_16 : decode cJ0_charAt_5068e 16 = .ok (.aload_n 0, 1) := by decide +kernel
theorem dJ0_charAt_5068e_17 : decode cJ0_charAt_5068e 17 = .ok (.getfield 9, 3) := by decide +kernel
theorem dJ0_charAt_5068e_20 : decode cJ0_charAt_5068e 20 = .ok (.iload_n 1, 1) := by decide +kernel
theorem dJ0_charAt_5068e_21 : decode cJ0_charAt_5068e 21 = .ok (.invokestatic 498, 3) := by decide +kernel
theorem dJ0_charAt_5068e_24 : decode cJ0_charAt_5068e 24 = .ok (.ireturn, 1) := by decide +kernel
theorem dJ0_coder_7d493_0 : decode cJ0_coder_7d493 0 = .ok (.getstatic 38, 3) := by decide +kernel
theorem dJ0_coder_7d493_3 : decode cJ0_coder_7d493 3 = .ok (.ifCond .eq 10, 3) := by decide +kernel
theorem dJ0_coder_7d493_6 : decode cJ0_coder_7d493 6 = .ok (.aload_n 0, 1) := by decide +kernel
theorem dJ0_coder_7d493_7 : decode cJ0_coder_7d493 7 = .ok (.getfield 15, 3) := by decide +kernel
theorem dJ0_coder_7d493_10 : decode cJ0_coder_7d493 10 = .ok (.goto 4, 3) := by decide +kernel
theorem dJ0_coder_7d493_13 : decode cJ0_coder_7d493 13 = .ok (.iconst 1, 1) := by decide +kernel
theorem dJ0_coder_7d493_14 : decode cJ0_coder_7d493 14 = .ok (.ireturn, 1) := by decide +kernel
theorem dJ0_isLatin1_aae02_0 : decode cJ0_isLatin1_aae02 0 = .ok (.getstatic 38, 3) := by decide +kernel
theorem dJ0_isLatin1_aae02_3 : decode cJ0_isLatin1_aae02 3 = .ok (.ifCond .eq 14, 3) := by decide +kernel
theorem dJ0_isLatin1_aae02_6 : decode cJ0_isLatin1_aae02 6 = .ok (.aload_n 0, 1) := by decide +kernel
theorem dJ0_isLatin1_aae02_7 : decode cJ0_isLatin1_aae02 7 = .ok (.getfield 15, 3) := by decide +kernel
theorem dJ0_isLatin1_aae02_10 : decode cJ0_isLatin1_aae02 10 = .ok (.ifCond .ne 7, 3) := by decide +kernel
theorem dJ0_isLatin1_aae02_13 : decode cJ0_isLatin1_aae02 13 = .ok (.iconst 1, 1) := by decide +kernel
theorem dJ0_isLatin1_aae02_14 : decode cJ0_isLatin1_aae02 14 = .ok (.goto 4, 3) := by decide +kernel
theorem dJ0_isLatin1_aae02_17 : decode cJ0_isLatin1_aae02 17 = .ok (.iconst 0, 1) := by decide +kernel
theorem dJ0_isLatin1_aae02_18 : decode cJ0_isLatin1_aae02 18 = .ok (.ireturn, 1) := by decide +kernel
set_option maxRecDepth 20000 in
theorem ggJ0_checkIndex_df160_J3_checkIndex_8e157 : GoodIn wsJ0_checkIndex_df160 wsJ3_checkIndex_8e157 := goodIn_r _ [5] (by decide +kernel) (by decide +kernel)
set_option maxRecDepth 20000 in
theorem gJ0_checkIndex_df160_J3_checkIndex_8e157 : GoodIn wsJ0_checkIndex_df160 (va_wsS RJ0 1059 yJ3_checkIndex_8e157 wsJ3_checkIndex_8e157) := goodIn_app (goodIn_of _ (by decide +kernel)) ggJ0_checkIndex_df160_J3_checkIndex_8e157
theorem dJ0_checkIndex_df160_0 : decode cJ0_checkIndex_df160 0 = .ok (.iload_n 0, 1) := by decide +kernel
theorem dJ0_checkIndex_df160_1 : decode cJ0_checkIndex_df160 1 = .ok (.iload_n 1, 1) := by decide +kernel
theorem dJ0_checkIndex_df160_2 : decode cJ0_checkIndex_df160 2 = .ok (.getstatic 1053, 3) := by decide +kernel
theorem dJ0_checkIndex_df160_5 : decode cJ0_checkIndex_df160 5 = .ok (.invokestatic 1059, 3) := by decide +kernel
theorem dJ0_checkIndex_df160_8 : decode cJ0_checkIndex_df160 8 = .ok (.pop, 1) := by decide +kernel
theorem dJ0_checkIndex_df160_9 : decode cJ0_checkIndex_df160 9 = .ok (.return_, 1) := by decide +kernel
set_option maxRecDepth 20000 in
theorem ggJ1_charAt_3b067_J0_checkIndex_df160 : GoodIn wsJ1_charAt_3b067 wsJ0_checkIndex_df160 := goodIn_r _ [4, 5, 6, 7, 8, 9] (by decide +kernel) (by decide +kernel)
set_option maxRecDepth 20000 in
theorem gJ1_charAt_3b067_J0_checkIndex_df160 : GoodIn wsJ1_charAt_3b067 (va_wsS RJ1 9 yJ0_checkIndex_df160 wsJ0_checkIndex_df160) := goodIn_app (goodIn_of _ (by decide +kernel)) ggJ1_charAt_3b067_J0_checkIndex_df160
theorem dJ1_charAt_3b067_0 : decode cJ1_charAt_3b067 0 = .ok (.iload_n 1, 1) := by decide +kernel
theorem dJ1_charAt_3b067_1 : decode cJ1_charAt_3b067 1 = .ok (.aload_n 0, 1) := by decide +kernel
theorem dJ1_charAt_3b067_2 : decode cJ1_charAt_3b067 2 = .ok (.arraylength, 1) := by decide +kernel
theorem dJ1_charAt_3b067_3 : decode cJ1_charAt_3b067 3 = .ok (.invokestatic 9, 3) := by decide +kernel
theorem dJ1_charAt_3b067_6 : decode cJ1_charAt_3b067 6 = .ok (.aload_n 0, 1) := by decide +kernel
theorem dJ1_charAt_3b067_7 : decode cJ1_charAt_3b067 7 = .ok (.iload_n 1, 1) := by decide +kernel
theorem dJ1_charAt_3b067_8 : decode cJ1_charAt_3b067 8 = .ok (.baload, 1) := by decide +kernel
theorem dJ1_charAt_3b067_9 : decode cJ1_charAt_3b067 9 = .ok (.sipush 255, 3) := by decide +kernel
theorem dJ1_charAt_3b067_12 : decode cJ1_charAt_3b067 12 = .ok (.iand, 1) := by decide +kernel
theorem dJ1_charAt_3b067_13 : decode cJ1_charAt_3b067 13 = .ok (.i2c, 1) := by decide +kernel
theorem dJ1_charAt_3b067_14 : decode cJ1_charAt_3b067 14 = .ok (.ireturn, 1) := by decide +kernel
set_option maxRecDepth 20000 in
theorem ggJ2_getChar_3b067_J2_length_9d52b : GoodIn wsJ2_getChar_3b067 wsJ2_length_9d52b := goodIn_r _ [7] (by decide +kernel) (by decide +kernel)
set_option maxRecDepth 20000 in
theorem gJ2_getChar_3b067_J2_length_9d52b : GoodIn wsJ2_getChar_3b067 (va_wsS RJ2 48 yJ2_length_9d52b wsJ2_length_9d52b) := goodIn_app (goodIn_of _ (by decide +kernel)) ggJ2_getChar_3b067_J2_length_9d52b
theorem dJ2_getChar_3b067_0 : decode cJ2_getChar_3b067 0 = .ok (.getstatic 44, 3) := by decide +kernel
theorem dJ2_getChar_3b067_3 : decode cJ2_getChar_3b067 3 = .ok (.ifCond .ne 25, 3) := by decide +kernel
theorem dJ2_getChar_3b067_6 : decode cJ2_getChar_3b067 6 = .ok (.iload_n 1, 1) := by decide +kernel
theorem dJ2_getChar_3b067_7 : decode cJ2_getChar_3b067 7 = .ok (.ifCond .lt 11, 3) := by decide +kernel
theorem dJ2_getChar_3b067_10 : decode cJ2_getChar_3b067 10 = .ok (.iload_n 1, 1) := by decide +kernel
theorem dJ2_getChar_3b067_11 : decode cJ2_getChar_3b067 11 = .ok (.aload_n 0, 1) := by decide +kernel
theorem dJ2_getChar_3b067_12 : decode cJ2_getChar_3b067 12 = .ok (.invokestatic 48, 3) := by decide +kernel
theorem dJ2_getChar_3b067_15 : decode cJ2_getChar_3b067 15 = .ok (.if_icmp .lt 13, 3) := by decide +kernel
theorem dJ2_getChar_3b067_18 : decode cJ2_getChar_3b067 18 = .ok (.new 52, 3) := by decide +kernel
theorem dJ2_getChar_3b067_21 : decode cJ2_getChar_3b067 21 = .ok (.dup, 1) := by decide +kernel
theorem dJ2_getChar_3b067_22 : decode cJ2_getChar_3b067 22 = .ok (.ldc 54, 2) := by decide +kernel
theorem dJ2_getChar_3b067_24 : decode cJ2_getChar_3b067 24 = .ok (.invokespecial 56, 3) := by decide +kernel
theorem dJ2_getChar_3b067_27 : decode cJ2_getChar_3b067 27 = .ok (.athrow, 1) := by decide +kernel
theorem dJ2_getChar_3b067_28 : decode cJ2_getChar_3b067 28 = .ok (.iload_n 1, 1) := by decide +kernel
theorem dJ2_getChar_3b067_29 : decode cJ2_getChar_3b067 29 = .ok (.iconst 1, 1) := by decide +kernel
theorem dJ2_getChar_3b067_30 : decode cJ2_getChar_3b067 30 = .ok (.ishl, 1) := by decide +kernel
theorem dJ2_getChar_3b067_31 : decode cJ2_getChar_3b067 31 = .ok (.istore_n 1, 1) := by decide +kernel
theorem dJ2_getChar_3b067_32 : decode cJ2_getChar_3b067 32 = .ok (.aload_n 0, 1) := by decide +kernel
theorem dJ2_getChar_3b067_33 : decode cJ2_getChar_3b067 33 = .ok (.iload_n 1, 1) := by decide +kernel
theorem dJ2_getChar_3b067_34 : decode cJ2_getChar_3b067 34 = .ok (.iinc 1 1, 3) := by decide +kernel
theorem dJ2_getChar_3b067_37 : decode cJ2_getChar_3b067 37 = .ok (.baload, 1) := by decide +kernel
theorem dJ2_getChar_3b067_38 : decode cJ2_getChar_3b067 38 = .ok (.sipush 255, 3) := by decide +kernel
theorem dJ2_getChar_3b067_41 : decode cJ2_getChar_3b067 41 = .ok (.iand, 1) := by decide +kernel
theorem dJ2_getChar_3b067_42 : decode cJ2_getChar_3b067 42 = .ok (.getstatic 59, 3) := by decide +kernel
theorem dJ2_getChar_3b067_45 : decode cJ2_getChar_3b067 45 = .ok (.ishl, 1) := by decide +kernel
theorem dJ2_getChar_3b067_46 : decode cJ2_getChar_3b067 46 = .ok (.aload_n 0, 1) := by decide +kernel
theorem dJ2_getChar_3b067_47 : decode cJ2_getChar_3b067 47 = .ok (.iload_n 1, 1) := by decide +kernel
theorem dJ2_getChar_3b067_48 : decode cJ2_getChar_3b067 48 = .ok (.baload, 1) := by decide +kernel
theorem dJ2_getChar_3b067_49 : decode cJ2_getChar_3b067 49 = .ok (.sipush 255, 3) := by decide +kernel
theorem dJ2_getChar_3b067_52 : decode cJ2_getChar_3b067 52 = .ok (.iand, 1) := by decide +kernel
theorem dJ2_getChar_3b067_53 : decode cJ2_getChar_3b067 53 = .ok (.getstatic 63, 3) := by decide +kernel
theorem dJ2_getChar_3b067_56 : decode cJ2_getChar_3b067 56 = .ok (.ishl, 1) := by decide +kernel
theorem dJ2_getChar_3b067_57 : decode cJ2_getChar_3b067 57 = .ok (.ior, 1) := by decide +kernel
theorem dJ2_getChar_3b067_58 : decode cJ2_getChar_3b067 58 = .ok (.i2c, 1) := by decide +kernel
theorem dJ2_getChar_3b067_59 : decode cJ2_getChar_3b067 59 = .ok (.ireturn, 1) := by decide +kernel
theorem dJ2_length_9d52b_0 : decode cJ2_length_9d52b 0 = .ok (.aload_n 0, 1) := by decide +kernel
theorem dJ2_length_9d52b_1 : decode cJ2_length_9d52b 1 = .ok (.arraylength, 1) := by decide +kernel
theorem dJ2_length_9d52b_2 : decode cJ2_length_9d52b 2 = .ok (.iconst 1, 1) := by decide +kernel
theorem dJ2_length_9d52b_3 : decode cJ2_length_9d52b 3 = .ok (.ishr, 1) := by decide +kernel
theorem dJ2_length_9d52b_4 : decode cJ2_length_9d52b 4 = .ok (.ireturn, 1) := by decide +kernel
set_option maxRecDepth 20000 in
theorem ggJ2_charAt_3b067_J2_checkIndex_2214a : GoodIn wsJ2_charAt_3b067 wsJ2_checkIndex_2214a := goodIn_r _ [4, 5, 6, 3, 7, 8, 9, 10, 11, 12, 13, 14, 15, 16] (by decide +kernel) (by decide +kernel)
set_option maxRecDepth 20000 in
theorem gJ2_charAt_3b067_J2_checkIndex_2214a : GoodIn wsJ2_charAt_3b067 (va_wsS RJ2 67 yJ2_checkIndex_2214a wsJ2_checkIndex_2214a) := goodIn_app (goodIn_of _ (by decide +kernel)) ggJ2_charAt_3b067_J2_checkIndex_2214a
set_option maxRecDepth 20000 in
theorem ggJ2_charAt_3b067_J2_getChar_3b067 : GoodIn wsJ2_charAt_3b067 wsJ2_getChar_3b067 := goodIn_r _ [19, 20, 21, 22, 5, 6, 3, 7] (by decide +kernel) (by decide +kernel)
set_option maxRecDepth 20000 in
theorem gJ2_charAt_3b067_J2_getChar_3b067 : GoodIn wsJ2_charAt_3b067 (va_wsS RJ2 71 yJ2_getChar_3b067 wsJ2_getChar_3b067) := goodIn_app (goodIn_of _ (by decide +kernel)) ggJ2_charAt_3b067_J2_getChar_3b067
theorem dJ2_charAt_3b067_0 : decode cJ2_charAt_3b067 0 = .ok (.iload_n 1, 1) := by decide +kernel
theorem dJ2_charAt_3b067_1 : decode cJ2_charAt_3b067 1 = .ok (.aload_n 0, 1) := by decide +kernel
theorem dJ2_charAt_3b067_2 : decode cJ2_charAt_3b067 2 = .ok (.invokestatic 67, 3) := by decide +kernel
theorem dJ2_charAt_3b067_5 : decode cJ2_charAt_3b067 5 = .ok (.aload_n 0, 1) := by decide +kernel
theorem dJ2_charAt_3b067_6 : decode cJ2_charAt_3b067 6 = .ok (.iload_n 1, 1) := by decide +kernel
theorem dJ2_charAt_3b067_7 : decode cJ2_charAt_3b067 7 = .ok (.invokestatic 71, 3) := by decide +kernel
theorem dJ2_charAt_3b067_10 : decode cJ2_charAt_3b067 10 = .ok (.ireturn, 1) := by decide +kernel
set_option maxRecDepth 20000 in
theorem ggJ2_checkIndex_2214a_J2_length_9d52b : GoodIn wsJ2_checkIndex_2214a wsJ2_length_9d52b := goodIn_r _ [4] (by decide +kernel) (by decide +kernel)
set_option maxRecDepth 20000 in
theorem gJ2_checkIndex_2214a_J2_length_9d52b : GoodIn wsJ2_checkIndex_2214a (va_wsS RJ2 48 yJ2_length_9d52b wsJ2_length_9d52b) := goodIn_app (goodIn_of _ (by decide +kernel)) ggJ2_checkIndex_2214a_J2_length_9d52b
set_option maxRecDepth 20000 in
theorem ggJ2_checkIndex_2214a_J0_checkIndex_df160 : GoodIn wsJ2_checkIndex_2214a wsJ0_checkIndex_df160 := goodIn_r _ [8, 9, 10, 11, 12, 13] (by decide +kernel) (by decide +kernel)
set_option maxRecDepth 20000 in
theorem gJ2_checkIndex_2214a_J0_checkIndex_df160 : GoodIn wsJ2_checkIndex_2214a (va_wsS RJ2 414 yJ0_checkIndex_df160 wsJ0_checkIndex_df160) := goodIn_app (goodIn_of _ (by decide +kernel)) ggJ2_checkIndex_2214a_J0_checkIndex_df160
theorem dJ2_checkIndex_2214a_0 : decode cJ2_checkIndex_2214a 0 = .ok (.iload_n 0, 1) := by decide +kernel
theorem dJ2_checkIndex_2214a_1 : decode cJ2_checkIndex_2214a 1 = .ok (.aload_n 1, 1) := by decide +kernel
theorem dJ2_checkIndex_2214a_2 : decode cJ2_checkIndex_2214a 2 = .ok (.invokestatic 48, 3) := by decide +kernel
theorem dJ2_checkIndex_2214a_5 : decode cJ2_checkIndex_2214a 5 = .ok (.invokestatic 414, 3) := by decide +kernel
theorem dJ2_checkIndex_2214a_8 : decode cJ2_checkIndex_2214a 8 = .ok (.return_, 1) := by decide +kernel
theorem dJ7_fill_53178_0 : decode cJ7_fill_53178 0 = .ok (.iconst 0, 1) := by decide +kernel
theorem dJ7_fill_53178_1 : decode cJ7_fill_53178 1 = .ok (.istore_n 2, 1) := by decide +kernel
theorem dJ7_fill_53178_2 : decode cJ7_fill_53178 2 = .ok (.aload_n 0, 1) := by decide +kernel
theorem dJ7_fill_53178_3 : decode cJ7_fill_53178 3 = .ok (.arraylength, 1) := by decide +kernel
theorem dJ7_fill_53178_4 : decode cJ7_fill_53178 4 = .ok (.istore_n 3, 1) := by decide +kernel
theorem dJ7_fill_53178_5 : decode cJ7_fill_53178 5 = .ok (.iload_n 2, 1) := by decide +kernel
theorem dJ7_fill_53178_6 : decode cJ7_fill_53178 6 = .ok (.iload_n 3, 1) := by decide +kernel
theorem dJ7_fill_53178_7 : decode cJ7_fill_53178 7 = .ok (.if_icmp .ge 13, 3) := by decide +kernel
theorem dJ7_fill_53178_10 : decode cJ7_fill_53178 10 = .ok (.aload_n 0, 1) := by decide +kernel
theorem dJ7_fill_53178_11 : decode cJ7_fill_53178 11 = .ok (.iload_n 2, 1) := by decide +kernel
theorem dJ7_fill_53178_12 : decode cJ7_fill_53178 12 = .ok (.iload_n 1, 1) := by decide +kernel
theorem dJ7_fill_53178_13 : decode cJ7_fill_53178 13 = .ok (.iastore, 1) := by decide +kernel
theorem dJ7_fill_53178_14 : decode cJ7_fill_53178 14 = .ok (.iinc 2 1, 3) := by decide +kernel
theorem dJ7_fill_53178_17 : decode cJ7_fill_53178 17 = .ok (.goto (-12), 3) := by decide +kernel
theorem dJ7_fill_53178_20 : decode cJ7_fill_53178 20 = .ok (.return_, 1) := by decide +kernel
theorem dJ3_checkIndex_8e157_0 : decode cJ3_checkIndex_8e157 0 = .ok (.iload_n 0, 1) := by decide +kernel
theorem dJ3_checkIndex_8e157_1 : decode cJ3_checkIndex_8e157 1 = .ok (.ifCond .lt 8, 3) := by decide +kernel
theorem dJ3_checkIndex_8e157_4 : decode cJ3_checkIndex_8e157 4 = .ok (.iload_n 0, 1) := by decide +kernel
theorem dJ3_checkIndex_8e157_5 : decode cJ3_checkIndex_8e157 5 = .ok (.iload_n 1, 1) := by decide +kernel
theorem dJ3_checkIndex_8e157_6 : decode cJ3_checkIndex_8e157 6 = .ok (.if_icmp .lt 10, 3) := by decide +kernel
theorem dJ3_checkIndex_8e157_9 : decode cJ3_checkIndex_8e157 9 = .ok (.aload_n 2, 1) := by decide +kernel
theorem dJ3_checkIndex_8e157_10 : decode cJ3_checkIndex_8e157 10 = .ok (.iload_n 0, 1) := by decide +kernel
theorem dJ3_checkIndex_8e157_11 : decode cJ3_checkIndex_8e157 11 = .ok (.iload_n 1, 1) := by decide +kernel
theorem dJ3_checkIndex_8e157_12 : decode cJ3_checkIndex_8e157 12 = .ok (.invokestatic 95, 3) := by decide +kernel
theorem dJ3_checkIndex_8e157_15 : decode cJ3_checkIndex_8e157 15 = .ok (.athrow, 1) := by decide +kernel
theorem dJ3_checkIndex_8e157_16 : decode cJ3_checkIndex_8e157 16 = .ok (.iload_n 0, 1) := by decide +kernel
theorem dJ3_checkIndex_8e157_17 : decode cJ3_checkIndex_8e157 17 = .ok (.ireturn, 1) := by decide +kernel
set_option maxRecDepth 20000 in
theorem ggL_law_X4_init : GoodIn wsL_law wsX4_init := goodIn_r _ [8, 9, 10, 11, 12, 13, 14, 15, 16, 17, 18, 19, 20, 21, 22, 23, 24, 25, 26, 27, 28, 29, 30, 31, 32, 33, 34, 35, 36, 37, 38, 39, 40, 41, 42, 43, 44, 45, 46, 47, 48, 49, 50, 51, 52, 53, 54, 55, 56, 57, 58, 858, 859, 860, 838, 839, 840, 841, 842, 843, 861, 862, 863, 864, 865, 866, 867, 868, 869, 870, 871, 872, 873, 874, 875] (by decide +kernel) (by decide +kernel)
set_option maxRecDepth 20000 in
theorem gL_law_X4_init : GoodIn wsL_law (wsX4_init) := ggL_law_X4_init
set_option maxRecDepth 20000 in
theorem ggL_law_X5_init : GoodIn wsL_law wsX5_init := goodIn_r _ [61, 62, 10, 11, 25, 63, 64, 65, 66, 67, 68, 69, 70, 71, 844, 845, 846, 847, 848, 849, 850, 851, 852, 853, 854, 855, 856, 857] (by decide +kernel) (by decide +kernel)
set_option maxRecDepth 20000 in
theorem gL_law_X5_init : GoodIn wsL_law (wsX5_init) := ggL_law_X5_init
set_option maxRecDepth 20000 in
theorem ggL_law_X4_set : GoodIn wsL_law wsX4_set := goodIn_r _ [75, 15, 76, 77, 78, 79, 2, 80, 16, 81, 82, 83, 84, 14, 85, 34, 35, 37, 86, 87, 88, 33, 89, 41, 90, 91, 92, 93, 42, 94, 44, 45, 95, 96, 97, 98, 99, 100, 101, 102, 103, 104, 105, 106, 107, 108, 838, 839, 840, 841, 842, 843, 858, 859, 860, 871, 872, 873, 874, 875] (by decide +kernel) (by decide +kernel)
set_option maxRecDepth 20000 in
theorem gL_law_X4_set : GoodIn wsL_law (wsV RL 13 RX4 yX4_set wsX4_set) := goodIn_app (goodIn_of _ (by decide +kernel)) ggL_law_X4_set
set_option maxRecDepth 20000 in
theorem ggL_law_X5_set : GoodIn wsL_law wsX5_set := goodIn_r _ [112, 71, 63, 113, 114, 5, 115, 116, 117, 118, 119, 120, 121, 122, 123, 124, 125, 126, 65, 844, 845, 846, 847, 848, 849, 850, 851, 852, 853, 854, 855, 856, 857] (by decide +kernel) (by decide +kernel)
set_option maxRecDepth 20000 in
theorem gL_law_X5_set : GoodIn wsL_law (wsV RL 17 RX5 yX5_set wsX5_set) := goodIn_app (goodIn_of _ (by decide +kernel)) ggL_law_X5_set
set_option maxRecDepth 20000 in
theorem ggL_law_X4_setPhosphor : GoodIn wsL_law wsX4_setPhosphor := goodIn_r _ [130, 15, 76, 77, 78, 79, 2, 80, 16, 81, 82, 83, 84, 14, 85, 34, 35, 37, 86, 87, 88, 33, 89, 41, 90, 91, 92, 93, 42, 94, 44, 45, 131, 132, 133, 134, 135, 136, 137, 138, 101, 102, 103, 104, 105, 106, 107, 108, 838, 839, 840, 841, 842, 843, 858, 859, 860, 871, 872, 873, 874, 875] (by decide +kernel) (by decide +kernel)
set_option maxRecDepth 20000 in
theorem gL_law_X4_setPhosphor : GoodIn wsL_law (wsV RL 18 RX4 yX4_setPhosphor wsX4_setPhosphor) := goodIn_app (goodIn_of _ (by decide +kernel)) ggL_law_X4_setPhosphor
set_option maxRecDepth 20000 in
theorem ggL_law_X5_setPhosphor : GoodIn wsL_law wsX5_setPhosphor := goodIn_r _ [142, 71, 143, 144, 145, 5, 146, 147, 148, 149, 113, 114, 115, 122, 123, 124, 125, 126, 65, 63, 150, 151, 152, 153, 844, 845, 846, 847, 848, 849, 850, 851, 852, 853, 854, 855, 856, 857] (by decide +kernel) (by decide +kernel)
set_option maxRecDepth 20000 in
theorem gL_law_X5_setPhosphor : GoodIn wsL_law (wsV RL 21 RX5 yX5_setPhosphor wsX5_setPhosphor) := goodIn_app (goodIn_of _ (by decide +kernel)) ggL_law_X5_setPhosphor
set_option maxRecDepth 20000 in
theorem ggL_law_X4_light : GoodIn wsL_law wsX4_light := goodIn_r _ [157, 15, 76, 77, 78, 79, 2, 80, 16, 81, 82, 83, 84, 14, 85, 34, 35, 37, 86, 87, 88, 33, 89, 41, 90, 91, 92, 93, 42, 94, 44, 45, 158, 159, 160, 161, 135, 136, 162, 163, 164, 165, 101, 102, 103, 104, 105, 106, 107, 108, 838, 839, 840, 841, 842, 843, 858, 859, 860, 871, 872, 873, 874, 875] (by decide +kernel) (by decide +kernel)
set_option maxRecDepth 20000 in
theorem gL_law_X4_light : GoodIn wsL_law (wsV RL 22 RX4 yX4_light wsX4_light) := goodIn_app (goodIn_of _ (by decide +kernel)) ggL_law_X4_light
set_option maxRecDepth 20000 in
theorem ggL_law_X5_light : GoodIn wsL_law wsX5_light := goodIn_r _ [169, 71, 170, 171, 172, 5, 173, 63, 147, 148, 149, 113, 114, 115, 174, 175, 176, 177, 178, 179, 180, 181, 122, 123, 124, 125, 126, 65, 182, 183, 184, 185, 844, 845, 846, 847, 848, 849, 850, 851, 852, 853, 854, 855, 856, 857] (by decide +kernel) (by decide +kernel)
set_option maxRecDepth 20000 in
theorem gL_law_X5_light : GoodIn wsL_law (wsV RL 26 RX5 yX5_light wsX5_light) := goodIn_app (goodIn_of _ (by decide +kernel)) ggL_law_X5_light
set_option maxRecDepth 20000 in
theorem ggL_law_X4_darken : GoodIn wsL_law wsX4_darken := goodIn_r _ [189, 15, 76, 77, 78, 79, 2, 80, 16, 81, 82, 83, 84, 14, 85, 34, 35, 37, 86, 87, 88, 33, 89, 41, 90, 91, 92, 93, 42, 94, 44, 45, 190, 191, 192, 193, 135, 136, 162, 163, 164, 165, 101, 102, 103, 104, 105, 106, 107, 108, 838, 839, 840, 841, 842, 843, 858, 859, 860, 871, 872, 873, 874, 875] (by decide +kernel) (by decide +kernel)
set_option maxRecDepth 20000 in
theorem gL_law_X4_darken : GoodIn wsL_law (wsV RL 27 RX4 yX4_darken wsX4_darken) := goodIn_app (goodIn_of _ (by decide +kernel)) ggL_law_X4_darken
set_option maxRecDepth 20000 in
theorem ggL_law_X5_darken : GoodIn wsL_law wsX5_darken := goodIn_r _ [197, 71, 198, 199, 200, 5, 201, 147, 148, 149, 113, 114, 115, 174, 175, 176, 177, 63, 178, 179, 180, 181, 122, 123, 124, 125, 126, 65, 202, 203, 204, 205, 844, 845, 846, 847, 848, 849, 850, 851, 852, 853, 854, 855, 856, 857] (by decide +kernel) (by decide +kernel)
set_option maxRecDepth 20000 in
theorem gL_law_X5_darken : GoodIn wsL_law (wsV RL 30 RX5 yX5_darken wsX5_darken) := goodIn_app (goodIn_of _ (by decide +kernel)) ggL_law_X5_darken
set_option maxRecDepth 20000 in
theorem ggL_law_X4_exchange : GoodIn wsL_law wsX4_exchange := goodIn_r _ [209, 15, 76, 77, 78, 79, 2, 80, 16, 81, 82, 83, 84, 14, 85, 34, 35, 37, 86, 87, 88, 33, 89, 41, 90, 91, 92, 93, 42, 94, 44, 45, 210, 211, 212, 213, 214, 215, 216, 217, 218, 219, 220, 221, 222, 223, 224, 225, 226, 227, 228, 229, 230, 231, 101, 102, 103, 104, 105, 106, 107, 108, 838, 839, 840, 841, 842, 843, 858, 859, 860, 871, 872, 873, 874, 875] (by decide +kernel) (by decide +kernel)
set_option maxRecDepth 20000 in
theorem gL_law_X4_exchange : GoodIn wsL_law (wsV RL 31 RX4 yX4_exchange wsX4_exchange) := goodIn_app (goodIn_of _ (by decide +kernel)) ggL_law_X4_exchange
set_option maxRecDepth 20000 in
theorem ggL_law_X5_exchange : GoodIn wsL_law wsX5_exchange := goodIn_r _ [235, 71, 236, 237, 238, 5, 239, 63, 113, 114, 115, 122, 123, 124, 125, 126, 65, 240, 241, 242, 243, 244, 245, 246, 247, 248, 249, 250, 251, 68, 252, 253, 254, 255, 178, 179, 180, 181, 256, 257, 258, 259, 260, 261, 844, 845, 846, 847, 848, 849, 850, 851, 852, 853, 854, 855, 856, 857] (by decide +kernel) (by decide +kernel)
set_option maxRecDepth 20000 in
theorem gL_law_X5_exchange : GoodIn wsL_law (wsV RL 34 RX5 yX5_exchange wsX5_exchange) := goodIn_app (goodIn_of _ (by decide +kernel)) ggL_law_X5_exchange
set_option maxRecDepth 20000 in
theorem ggL_law_X4_sort : GoodIn wsL_law wsX4_sort := goodIn_r _ [265, 15, 76, 77, 78, 79, 2, 80, 16, 81, 82, 83, 84, 14, 85, 34, 35, 37, 86, 87, 88, 33, 89, 41, 90, 91, 92, 93, 42, 94, 44, 45, 266, 267, 268, 269, 270, 271, 272, 273, 274, 275, 226, 227, 228, 229, 230, 231, 276, 277, 278, 279, 280, 281, 282, 283, 214, 215, 216, 217, 218, 219, 220, 221, 222, 223, 224, 225, 101, 102, 103, 104, 105, 106, 107, 108, 838, 839, 840, 841, 842, 843, 858, 859, 860, 871, 872, 873, 874, 875] (by decide +kernel) (by decide +kernel)
set_option maxRecDepth 20000 in
theorem gL_law_X4_sort : GoodIn wsL_law (wsV RL 35 RX4 yX4_sort wsX4_sort) := goodIn_app (goodIn_of _ (by decide +kernel)) ggL_law_X4_sort
set_option maxRecDepth 20000 in
theorem ggL_law_X5_sort : GoodIn wsL_law wsX5_sort := goodIn_r _ [287, 71, 288, 289, 290, 5, 291, 113, 114, 115, 122, 123, 124, 125, 126, 65, 63, 292, 293, 294, 295, 178, 179, 180, 181, 296, 297, 298, 299, 256, 257, 258, 259, 260, 261, 300, 301, 302, 303, 304, 305, 306, 307, 308, 244, 245, 246, 247, 248, 249, 250, 251, 68, 252, 253, 254, 255, 844, 845, 846, 847, 848, 849, 850, 851, 852, 853, 854, 855, 856, 857] (by decide +kernel) (by decide +kernel)
set_option maxRecDepth 20000 in
theorem gL_law_X5_sort : GoodIn wsL_law (wsV RL 38 RX5 yX5_sort wsX5_sort) := goodIn_app (goodIn_of _ (by decide +kernel)) ggL_law_X5_sort
set_option maxRecDepth 20000 in
theorem ggL_law_X4_draw : GoodIn wsL_law wsX4_draw := goodIn_r _ [312, 15, 76, 77, 78, 79, 2, 80, 16, 81, 82, 83, 84, 14, 85, 34, 35, 37, 86, 87, 88, 33, 89, 41, 90, 91, 92, 93, 42, 94, 44, 45, 313, 314, 315, 316, 317, 135, 136, 318, 319, 320, 321, 322, 323, 324, 101, 102, 103, 104, 105, 106, 107, 108, 838, 839, 840, 841, 842, 843, 858, 859, 860, 871, 872, 873, 874, 875] (by decide +kernel) (by decide +kernel)
set_option maxRecDepth 20000 in
theorem gL_law_X4_draw : GoodIn wsL_law (wsV RL 39 RX4 yX4_draw wsX4_draw) := goodIn_app (goodIn_of _ (by decide +kernel)) ggL_law_X4_draw
set_option maxRecDepth 20000 in
theorem ggL_law_X5_draw : GoodIn wsL_law wsX5_draw := goodIn_r _ [328, 71, 329, 330, 5, 331, 113, 114, 115, 147, 148, 149, 122, 123, 124, 125, 126, 65, 63, 332, 333, 334, 335, 336, 337, 338, 339, 844, 845, 846, 847, 848, 849, 850, 851, 852, 853, 854, 855, 856, 857] (by decide +kernel) (by decide +kernel)
set_option maxRecDepth 20000 in
theorem gL_law_X5_draw : GoodIn wsL_law (wsV RL 43 RX5 yX5_draw wsX5_draw) := goodIn_app (goodIn_of _ (by decide +kernel)) ggL_law_X5_draw
set_option maxRecDepth 20000 in
theorem ggL_law_X4_take : GoodIn wsL_law wsX4_take := goodIn_r _ [343, 15, 77, 78, 79, 2, 80, 16, 81, 82, 83, 84, 14, 85, 34, 35, 37, 86, 87, 88, 33, 89, 41, 90, 91, 92, 93, 42, 94, 44, 45, 344, 345, 346, 347, 348, 349, 350, 351, 101, 102, 103, 104, 105, 106, 107, 108, 838, 839, 840, 841, 842, 843, 858, 859, 860, 871, 872, 873, 874, 875] (by decide +kernel) (by decide +kernel)
set_option maxRecDepth 20000 in
theorem gL_law_X4_take : GoodIn wsL_law (wsV RL 44 RX4 yX4_take wsX4_take) := goodIn_app (goodIn_of _ (by decide +kernel)) ggL_law_X4_take
set_option maxRecDepth 20000 in
theorem ggL_law_X5_take : GoodIn wsL_law wsX5_take := goodIn_r _ [355, 71, 63, 329, 330, 5, 331, 113, 114, 115, 122, 123, 124, 125, 126, 65, 356, 357, 358, 844, 845, 846, 847, 848, 849, 850, 851, 852, 853, 854, 855, 856, 857] (by decide +kernel) (by decide +kernel)
set_option maxRecDepth 20000 in
theorem gL_law_X5_take : GoodIn wsL_law (wsV RL 47 RX5 yX5_take wsX5_take) := goodIn_app (goodIn_of _ (by decide +kernel)) ggL_law_X5_take
set_option maxRecDepth 20000 in
theorem ggL_law_X4_restore : GoodIn wsL_law wsX4_restore := goodIn_r _ [362, 15, 77, 78, 79, 2, 80, 16, 81, 82, 83, 84, 14, 85, 34, 35, 37, 86, 87, 88, 33, 89, 41, 90, 91, 92, 93, 42, 94, 44, 45, 363, 364, 365, 366, 348, 349, 350, 351, 101, 102, 103, 104, 105, 106, 107, 108, 838, 839, 840, 841, 842, 843, 858, 859, 860, 871, 872, 873, 874, 875] (by decide +kernel) (by decide +kernel)
set_option maxRecDepth 20000 in
theorem gL_law_X4_restore : GoodIn wsL_law (wsV RL 48 RX4 yX4_restore wsX4_restore) := goodIn_app (goodIn_of _ (by decide +kernel)) ggL_law_X4_restore
set_option maxRecDepth 20000 in
theorem ggL_law_X5_restore : GoodIn wsL_law wsX5_restore := goodIn_r _ [370, 71, 63, 329, 330, 5, 331, 113, 114, 115, 356, 357, 358, 122, 123, 124, 125, 126, 65, 844, 845, 846, 847, 848, 849, 850, 851, 852, 853, 854, 855, 856, 857] (by decide +kernel) (by decide +kernel)
set_option maxRecDepth 20000 in
theorem gL_law_X5_restore : GoodIn wsL_law (wsV RL 51 RX5 yX5_restore wsX5_restore) := goodIn_app (goodIn_of _ (by decide +kernel)) ggL_law_X5_restore
set_option maxRecDepth 20000 in
theorem ggL_law_X4_undo : GoodIn wsL_law wsX4_undo := goodIn_r _ [374, 81, 15, 16, 82, 83, 84, 14, 85, 34, 35, 37, 86, 87, 88, 33, 89, 41, 90, 91, 92, 93, 42, 94, 44, 45, 838, 839, 840, 841, 842, 843, 858, 859, 860, 871, 872, 873, 874, 875] (by decide +kernel) (by decide +kernel)
set_option maxRecDepth 20000 in
theorem gL_law_X4_undo : GoodIn wsL_law (wsV RL 52 RX4 yX4_undo wsX4_undo) := goodIn_app (goodIn_of _ (by decide +kernel)) ggL_law_X4_undo
set_option maxRecDepth 20000 in
theorem ggL_law_X5_undo : GoodIn wsL_law wsX5_undo := goodIn_r _ [378, 71, 126, 63, 65, 844, 845, 846, 847, 848, 849, 850, 851, 852, 853, 854, 855, 856, 857] (by decide +kernel) (by decide +kernel)
set_option maxRecDepth 20000 in
theorem gL_law_X5_undo : GoodIn wsL_law (wsV RL 56 RX5 yX5_undo wsX5_undo) := goodIn_app (goodIn_of _ (by decide +kernel)) ggL_law_X5_undo
set_option maxRecDepth 20000 in
theorem ggL_law_X4_append : GoodIn wsL_law wsX4_append := goodIn_r _ [382, 20, 383, 384, 385, 19, 386, 387, 50, 838, 839, 840, 841, 842, 843, 861, 862, 863, 864] (by decide +kernel) (by decide +kernel)
set_option maxRecDepth 20000 in
theorem gL_law_X4_append : GoodIn wsL_law (wsV RL 57 RX4 yX4_append wsX4_append) := goodIn_app (goodIn_of _ (by decide +kernel)) ggL_law_X4_append
set_option maxRecDepth 20000 in
theorem ggL_law_X5_append : GoodIn wsL_law wsX5_append := goodIn_r _ [391, 71, 392, 66, 113, 114, 5, 115, 844, 845, 846, 847, 848, 849, 850, 851, 852, 853, 854, 855, 856, 857] (by decide +kernel) (by decide +kernel)
set_option maxRecDepth 20000 in
theorem gL_law_X5_append : GoodIn wsL_law (wsV RL 60 RX5 yX5_append wsX5_append) := goodIn_app (goodIn_of _ (by decide +kernel)) ggL_law_X5_append
set_option maxRecDepth 20000 in
theorem ggL_law_X4_clearText : GoodIn wsL_law wsX4_clearText := goodIn_r _ [396, 20, 397, 398, 399, 19, 400, 387, 838, 839, 840, 841, 842, 843, 861, 862, 863, 864] (by decide +kernel) (by decide +kernel)
set_option maxRecDepth 20000 in
theorem gL_law_X4_clearText : GoodIn wsL_law (wsV RL 61 RX4 yX4_clearText wsX4_clearText) := goodIn_app (goodIn_of _ (by decide +kernel)) ggL_law_X4_clearText
set_option maxRecDepth 20000 in
theorem ggL_law_X5_clearText : GoodIn wsL_law wsX5_clearText := goodIn_r _ [404, 71, 392, 844, 845, 846, 847, 848, 849, 850, 851, 852, 853, 854, 855, 856, 857] (by decide +kernel) (by decide +kernel)
set_option maxRecDepth 20000 in
theorem gL_law_X5_clearText : GoodIn wsL_law (wsV RL 64 RX5 yX5_clearText wsX5_clearText) := goodIn_app (goodIn_of _ (by decide +kernel)) ggL_law_X5_clearText
set_option maxRecDepth 20000 in
theorem ggL_law_X4_run : GoodIn wsL_law wsX4_run := goodIn_r _ [408, 20, 15, 76, 16, 81, 77, 78, 79, 2, 80, 82, 83, 84, 14, 85, 34, 35, 37, 86, 87, 88, 33, 89, 41, 90, 91, 92, 93, 42, 94, 44, 45, 409, 410, 411, 19, 412, 413, 387, 414, 415, 416, 417, 50, 418, 419, 420, 421, 422, 423, 424, 425, 426, 427, 428, 429, 430, 431, 432, 433, 434, 435, 436, 437, 438, 439, 440, 441, 442, 443, 444, 445, 446, 447, 448, 449, 450, 451, 452, 453, 454, 455, 456, 457, 458, 459, 460, 461, 462, 463, 464, 465, 466, 467, 468, 469, 470, 471, 472, 473, 474, 475, 476, 477, 478, 479, 480, 481, 482, 483, 484, 51, 485, 486, 487, 488, 489, 490, 491, 492, 493, 494, 495, 496, 497, 159, 160, 161, 135, 136, 162, 163, 164, 165, 498, 191, 192, 193, 499, 132, 133, 134, 137, 138, 500, 314, 315, 316, 317, 318, 319, 320, 321, 322, 323, 324, 501, 267, 268, 269, 270, 271, 272, 273, 274, 275, 226, 227, 228, 229, 230, 231, 276, 277, 278, 279, 280, 281, 282, 283, 214, 215, 216, 217, 218, 219, 220, 221, 222, 223, 224, 225, 502, 211, 212, 213, 397, 398, 399, 400, 101, 102, 103, 104, 105, 106, 107, 108, 838, 839, 840, 841, 842, 843, 858, 859, 860, 871, 872, 873, 874, 875, 861, 862, 863, 864] (by decide +kernel) (by decide +kernel)
set_option maxRecDepth 20000 in
theorem gL_law_X4_run : GoodIn wsL_law (wsV RL 65 RX4 yX4_run wsX4_run) := goodIn_app (goodIn_of _ (by decide +kernel)) ggL_law_X4_run
set_option maxRecDepth 20000 in
theorem ggL_law_X5_run : GoodIn wsL_law wsX5_run := goodIn_r _ [506, 71, 64, 63, 507, 508, 509, 392, 510, 511, 512, 5, 513, 514, 515, 516, 517, 518, 66, 113, 114, 115, 519, 520, 521, 522, 67, 523, 524, 525, 526, 527, 528, 529, 530, 531, 532, 533, 534, 535, 536, 537, 538, 539, 540, 541, 542, 543, 544, 545, 546, 547, 548, 170, 171, 172, 173, 147, 148, 149, 174, 175, 176, 177, 178, 179, 180, 181, 198, 199, 200, 201, 143, 144, 145, 146, 288, 289, 290, 291, 236, 237, 238, 239, 549, 550, 551, 552, 182, 183, 184, 185, 202, 203, 204, 205, 150, 151, 152, 153, 292, 293, 294, 295, 296, 297, 298, 299, 256, 257, 258, 259, 260, 261, 300, 301, 302, 303, 304, 305, 306, 307, 308, 244, 245, 246, 247, 248, 249, 250, 251, 68, 252, 253, 254, 255, 240, 241, 242, 243, 332, 333, 334, 335, 336, 337, 338, 339, 122, 123, 124, 125, 126, 65, 844, 845, 846, 847, 848, 849, 850, 851, 852, 853, 854, 855, 856, 857] (by decide +kernel) (by decide +kernel)
set_option maxRecDepth 20000 in
theorem gL_law_X5_run : GoodIn wsL_law (wsV RL 68 RX5 yX5_run wsX5_run) := goodIn_app (goodIn_of _ (by decide +kernel)) ggL_law_X5_run
set_option maxRecDepth 20000 in
theorem ggL_law_X4_count : GoodIn wsL_law wsX4_count := goodIn_r _ [556, 15, 76, 557, 558, 559, 81, 20, 560, 219, 220, 33, 221, 94, 45, 222, 223, 224, 225, 42, 226, 2, 227, 228, 229, 230, 231, 561, 319, 320, 321, 322, 323, 324, 562, 563, 564, 565, 566, 567, 568, 569, 570, 571, 572, 573, 574, 575, 576, 577, 162, 163, 164, 165, 578, 579, 580, 581, 41, 279, 280, 281, 282, 283, 582, 583, 584, 585, 586, 587, 588, 589, 590, 591, 592, 593, 594, 595, 596, 597, 598, 599, 600, 44, 601, 602, 603, 604, 605, 606, 607, 608, 14, 609, 37, 610, 611, 612, 19, 613, 387, 614, 615, 616, 617, 838, 839, 840, 841, 842, 843, 858, 859, 860, 871, 872, 873, 874, 875, 861, 862, 863, 864] (by decide +kernel) (by decide +kernel)
set_option maxRecDepth 20000 in
theorem gL_law_X4_count : GoodIn wsL_law (wsV RL 69 RX4 yX4_count wsX4_count) := goodIn_app (goodIn_of _ (by decide +kernel)) ggL_law_X4_count
set_option maxRecDepth 20000 in
theorem ggL_law_X5_count : GoodIn wsL_law wsX5_count := goodIn_r _ [621, 71, 63, 126, 392, 113, 114, 5, 115, 248, 249, 250, 251, 68, 252, 253, 254, 255, 178, 179, 180, 181, 256, 257, 258, 259, 260, 261, 336, 337, 338, 339, 622, 623, 624, 625, 626, 627, 628, 629, 630, 631, 632, 633, 634, 635, 636, 637, 303, 304, 305, 306, 307, 308, 638, 639, 640, 641, 642, 643, 644, 645, 646, 647, 648, 649, 650, 651, 652, 653, 654, 655, 656, 657, 658, 659, 660, 661, 662, 663, 664, 665, 356, 357, 358, 844, 845, 846, 847, 848, 849, 850, 851, 852, 853, 854, 855, 856, 857] (by decide +kernel) (by decide +kernel)
set_option maxRecDepth 20000 in
theorem gL_law_X5_count : GoodIn wsL_law (wsV RL 72 RX5 yX5_count wsX5_count) := goodIn_app (goodIn_of _ (by decide +kernel)) ggL_law_X5_count
set_option maxRecDepth 20000 in
theorem ggL_law_X4_spot : GoodIn wsL_law wsX4_spot := goodIn_r _ [669, 15, 76, 670, 559, 557, 671, 135, 2, 136, 672, 274, 275, 673, 163, 164, 33, 165, 94, 42, 674, 575, 576, 577, 45, 162, 222, 223, 224, 225, 226, 227, 228, 229, 230, 231, 562, 563, 564, 565, 566, 567, 568, 569, 570, 571, 572, 573, 574, 578, 579, 580, 581, 41, 279, 280, 281, 282, 283, 582, 583, 584, 585, 586, 587, 588, 589, 590, 591, 592, 593, 594, 595, 596, 675, 676, 677, 678, 679, 680, 681, 682, 683, 684, 685, 686, 687, 688, 689, 690, 838, 839, 840, 841, 842, 843, 858, 859, 860, 871, 872, 873, 874, 875] (by decide +kernel) (by decide +kernel)
set_option maxRecDepth 20000 in
theorem gL_law_X4_spot : GoodIn wsL_law (wsV RL 73 RX4 yX4_spot wsX4_spot) := goodIn_app (goodIn_of _ (by decide +kernel)) ggL_law_X4_spot
set_option maxRecDepth 20000 in
theorem ggL_law_X5_spot : GoodIn wsL_law wsX5_spot := goodIn_r _ [694, 71, 63, 68, 147, 148, 5, 149, 113, 114, 115, 252, 253, 254, 255, 178, 179, 180, 181, 256, 257, 258, 259, 260, 261, 174, 175, 176, 177, 626, 627, 628, 629, 630, 631, 632, 633, 634, 635, 636, 637, 303, 304, 305, 306, 307, 308, 638, 639, 640, 641, 642, 643, 644, 645, 646, 647, 648, 649, 695, 696, 697, 698, 844, 845, 846, 847, 848, 849, 850, 851, 852, 853, 854, 855, 856, 857] (by decide +kernel) (by decide +kernel)
set_option maxRecDepth 20000 in
theorem gL_law_X5_spot : GoodIn wsL_law (wsV RL 76 RX5 yX5_spot wsX5_spot) := goodIn_app (goodIn_of _ (by decide +kernel)) ggL_law_X5_spot
set_option maxRecDepth 20000 in
theorem ggL_law_X4_at : GoodIn wsL_law wsX4_at := goodIn_r _ [702, 15, 76, 558, 703, 838, 839, 840, 841, 842, 843, 858, 859, 860, 871, 872, 873, 874, 875] (by decide +kernel) (by decide +kernel)
set_option maxRecDepth 20000 in
theorem gL_law_X4_at : GoodIn wsL_law (wsV RL 77 RX4 yX4_at wsX4_at) := goodIn_app (goodIn_of _ (by decide +kernel)) ggL_law_X4_at
set_option maxRecDepth 20000 in
theorem ggL_law_X5_at : GoodIn wsL_law wsX5_at := goodIn_r _ [707, 71, 63, 178, 179, 180, 5, 181, 844, 845, 846, 847, 848, 849, 850, 851, 852, 853, 854, 855, 856, 857] (by decide +kernel) (by decide +kernel)
set_option maxRecDepth 20000 in
theorem gL_law_X5_at : GoodIn wsL_law (wsV RL 80 RX5 yX5_at wsX5_at) := goodIn_app (goodIn_of _ (by decide +kernel)) ggL_law_X5_at
set_option maxRecDepth 20000 in
theorem ggL_law_X4_brightness : GoodIn wsL_law wsX4_brightness := goodIn_r _ [711, 15, 76, 557, 671, 135, 2, 136, 674, 575, 576, 33, 577, 45, 162, 163, 164, 165, 94, 42, 222, 223, 224, 225, 226, 227, 228, 229, 230, 231, 712, 579, 580, 581, 41, 279, 280, 281, 282, 283, 838, 839, 840, 841, 842, 843, 858, 859, 860, 871, 872, 873, 874, 875] (by decide +kernel) (by decide +kernel)
set_option maxRecDepth 20000 in
theorem gL_law_X4_brightness : GoodIn wsL_law (wsV RL 81 RX4 yX4_brightness wsX4_brightness) := goodIn_app (goodIn_of _ (by decide +kernel)) ggL_law_X4_brightness
set_option maxRecDepth 20000 in
theorem ggL_law_X5_brightness : GoodIn wsL_law wsX5_brightness := goodIn_r _ [716, 71, 63, 147, 148, 5, 149, 113, 114, 115, 252, 253, 254, 255, 68, 178, 179, 180, 181, 256, 257, 258, 259, 260, 261, 634, 635, 636, 637, 303, 304, 305, 306, 307, 308, 844, 845, 846, 847, 848, 849, 850, 851, 852, 853, 854, 855, 856, 857] (by decide +kernel) (by decide +kernel)
set_option maxRecDepth 20000 in
theorem gL_law_X5_brightness : GoodIn wsL_law (wsV RL 84 RX5 yX5_brightness wsX5_brightness) := goodIn_app (goodIn_of _ (by decide +kernel)) ggL_law_X5_brightness
set_option maxRecDepth 20000 in
theorem ggL_law_X4_firstWrong : GoodIn wsL_law wsX4_firstWrong := goodIn_r _ [720, 15, 76, 557, 562, 563, 564, 33, 565, 45, 566, 567, 568, 569, 94, 42, 570, 571, 572, 573, 574, 575, 576, 577, 162, 163, 164, 165, 222, 223, 224, 225, 226, 2, 227, 228, 229, 230, 231, 578, 579, 580, 581, 41, 279, 280, 281, 282, 283, 582, 583, 584, 585, 586, 587, 588, 597, 598, 599, 600, 44, 721, 722, 723, 672, 274, 275, 589, 590, 591, 592, 593, 594, 595, 596, 838, 839, 840, 841, 842, 843, 858, 859, 860, 871, 872, 873, 874, 875] (by decide +kernel) (by decide +kernel)
set_option maxRecDepth 20000 in
theorem gL_law_X4_firstWrong : GoodIn wsL_law (wsV RL 85 RX4 yX4_firstWrong wsX4_firstWrong) := goodIn_app (goodIn_of _ (by decide +kernel)) ggL_law_X4_firstWrong
set_option maxRecDepth 20000 in
theorem ggL_law_X5_firstWrong : GoodIn wsL_law wsX5_firstWrong := goodIn_r _ [727, 71, 329, 330, 5, 331, 113, 114, 115, 252, 253, 254, 255, 68, 63, 178, 179, 180, 181, 256, 257, 258, 259, 260, 261, 654, 655, 656, 657, 626, 627, 628, 629, 630, 631, 632, 633, 634, 635, 636, 637, 303, 304, 305, 306, 307, 308, 638, 639, 640, 641, 642, 643, 644, 645, 646, 647, 648, 649, 844, 845, 846, 847, 848, 849, 850, 851, 852, 853, 854, 855, 856, 857] (by decide +kernel) (by decide +kernel)
set_option maxRecDepth 20000 in
theorem gL_law_X5_firstWrong : GoodIn wsL_law (wsV RL 88 RX5 yX5_firstWrong wsX5_firstWrong) := goodIn_app (goodIn_of _ (by decide +kernel)) ggL_law_X5_firstWrong
set_option maxRecDepth 20000 in
theorem ggL_law_X4_bestStart : GoodIn wsL_law wsX4_bestStart := goodIn_r _ [731, 15, 76, 26, 557, 732, 733, 734, 33, 735, 44, 94, 42, 318, 319, 320, 321, 322, 323, 324, 736, 737, 738, 739, 740, 741, 742, 743, 45, 274, 2, 275, 574, 575, 576, 577, 162, 163, 164, 165, 222, 223, 224, 225, 226, 227, 228, 229, 230, 231, 570, 571, 572, 573, 578, 579, 580, 581, 41, 279, 280, 281, 282, 283, 582, 583, 584, 585, 586, 587, 588, 838, 839, 840, 841, 842, 843, 858, 859, 860, 871, 872, 873, 874, 875] (by decide +kernel) (by decide +kernel)
set_option maxRecDepth 20000 in
theorem gL_law_X4_bestStart : GoodIn wsL_law (wsV RL 89 RX4 yX4_bestStart wsX4_bestStart) := goodIn_app (goodIn_of _ (by decide +kernel)) ggL_law_X4_bestStart
set_option maxRecDepth 20000 in
theorem ggL_law_X5_bestStart : GoodIn wsL_law wsX5_bestStart := goodIn_r _ [747, 71, 63, 329, 330, 5, 331, 113, 114, 115, 252, 253, 254, 255, 68, 178, 179, 180, 181, 256, 257, 258, 259, 260, 261, 748, 749, 750, 751, 642, 643, 644, 645, 646, 647, 648, 649, 634, 635, 636, 637, 303, 304, 305, 306, 307, 308, 844, 845, 846, 847, 848, 849, 850, 851, 852, 853, 854, 855, 856, 857] (by decide +kernel) (by decide +kernel)
set_option maxRecDepth 20000 in
theorem gL_law_X5_bestStart : GoodIn wsL_law (wsV RL 92 RX5 yX5_bestStart wsX5_bestStart) := goodIn_app (goodIn_of _ (by decide +kernel)) ggL_law_X5_bestStart
set_option maxRecDepth 20000 in
theorem ggL_law_X4_leastTravel : GoodIn wsL_law wsX4_leastTravel := goodIn_r _ [755, 24, 15, 76, 756, 757, 758, 33, 759, 94, 42, 760, 761, 762, 23, 763, 764, 765, 766, 767, 768, 769, 55, 274, 2, 275, 770, 771, 772, 773, 57, 774, 775, 776, 777, 778, 779, 780, 781, 782, 783, 784, 785, 226, 227, 228, 229, 230, 231, 786, 787, 788, 789, 790, 58, 791, 792, 793, 794, 795, 796, 797, 798, 838, 839, 840, 841, 842, 843, 858, 859, 860, 871, 872, 873, 874, 875, 865, 866, 867, 868, 869, 870] (by decide +kernel) (by decide +kernel)
set_option maxRecDepth 20000 in
theorem gL_law_X4_leastTravel : GoodIn wsL_law (wsV RL 93 RX4 yX4_leastTravel wsX4_leastTravel) := goodIn_app (goodIn_of _ (by decide +kernel)) ggL_law_X4_leastTravel
set_option maxRecDepth 20000 in
theorem ggL_law_X5_leastTravel : GoodIn wsL_law wsX5_leastTravel := goodIn_r _ [802, 71, 63, 803, 70, 804, 805, 806, 5, 807, 178, 179, 180, 181, 256, 257, 258, 259, 260, 261, 844, 845, 846, 847, 848, 849, 850, 851, 852, 853, 854, 855, 856, 857] (by decide +kernel) (by decide +kernel)
set_option maxRecDepth 20000 in
theorem gL_law_X5_leastTravel : GoodIn wsL_law (wsV RL 96 RX5 yX5_leastTravel wsX5_leastTravel) := goodIn_app (goodIn_of _ (by decide +kernel)) ggL_law_X5_leastTravel
set_option maxRecDepth 20000 in
theorem ggL_law_X4_longest : GoodIn wsL_law wsX4_longest := goodIn_r _ [811, 15, 76, 589, 590, 591, 33, 592, 45, 593, 594, 595, 596, 566, 567, 568, 569, 94, 42, 570, 571, 572, 573, 574, 575, 576, 577, 162, 163, 164, 165, 222, 223, 224, 225, 226, 2, 227, 228, 229, 230, 231, 578, 579, 580, 581, 41, 279, 280, 281, 282, 283, 582, 583, 584, 585, 586, 587, 588, 597, 598, 599, 600, 44, 838, 839, 840, 841, 842, 843, 858, 859, 860, 871, 872, 873, 874, 875] (by decide +kernel) (by decide +kernel)
set_option maxRecDepth 20000 in
theorem gL_law_X4_longest : GoodIn wsL_law (wsV RL 97 RX4 yX4_longest wsX4_longest) := goodIn_app (goodIn_of _ (by decide +kernel)) ggL_law_X4_longest
set_option maxRecDepth 20000 in
theorem ggL_law_X5_longest : GoodIn wsL_law wsX5_longest := goodIn_r _ [815, 71, 63, 252, 253, 254, 5, 255, 68, 178, 179, 180, 181, 256, 257, 258, 259, 260, 261, 748, 749, 750, 751, 642, 643, 644, 645, 646, 647, 648, 649, 634, 635, 636, 637, 303, 304, 305, 306, 307, 308, 844, 845, 846, 847, 848, 849, 850, 851, 852, 853, 854, 855, 856, 857] (by decide +kernel) (by decide +kernel)
set_option maxRecDepth 20000 in
theorem gL_law_X5_longest : GoodIn wsL_law (wsV RL 100 RX5 yX5_longest wsX5_longest) := goodIn_app (goodIn_of _ (by decide +kernel)) ggL_law_X5_longest
set_option maxRecDepth 20000 in
theorem ggL_law_X4_ticks : GoodIn wsL_law wsX4_ticks := goodIn_r _ [819, 820, 137, 2, 138, 821, 276, 277, 278, 279, 280, 281, 282, 230, 283] (by decide +kernel) (by decide +kernel)
set_option maxRecDepth 20000 in
theorem gL_law_X4_ticks : GoodIn wsL_law (wsV RL 101 RX4 yX4_ticks wsX4_ticks) := goodIn_app (goodIn_of _ (by decide +kernel)) ggL_law_X4_ticks
set_option maxRecDepth 20000 in
theorem ggL_law_X5_ticks : GoodIn wsL_law wsX5_ticks := goodIn_r _ [825, 71, 113, 114, 5, 115, 303, 304, 305, 306, 307, 308, 844, 845, 846, 847, 848, 849, 850, 851, 852, 853, 854, 855, 856, 857] (by decide +kernel) (by decide +kernel)
set_option maxRecDepth 20000 in
theorem gL_law_X5_ticks : GoodIn wsL_law (wsV RL 104 RX5 yX5_ticks wsX5_ticks) := goodIn_app (goodIn_of _ (by decide +kernel)) ggL_law_X5_ticks
set_option maxRecDepth 20000 in
theorem ggL_law_X4_shortestPeriod : GoodIn wsL_law wsX4_shortestPeriod := goodIn_r _ [829, 15, 76, 558, 281, 282, 230, 283, 605, 223, 224, 33, 225, 94, 42, 45, 226, 2, 227, 228, 229, 231, 838, 839, 840, 841, 842, 843, 858, 859, 860, 871, 872, 873, 874, 875] (by decide +kernel) (by decide +kernel)
set_option maxRecDepth 20000 in
theorem gL_law_X4_shortestPeriod : GoodIn wsL_law (wsV RL 105 RX4 yX4_shortestPeriod wsX4_shortestPeriod) := goodIn_app (goodIn_of _ (by decide +kernel)) ggL_law_X4_shortestPeriod
set_option maxRecDepth 20000 in
theorem ggL_law_X5_shortestPeriod : GoodIn wsL_law wsX5_shortestPeriod := goodIn_r _ [833, 71, 834, 835, 836, 5, 837, 63, 178, 179, 180, 181, 256, 257, 258, 259, 260, 261, 844, 845, 846, 847, 848, 849, 850, 851, 852, 853, 854, 855, 856, 857] (by decide +kernel) (by decide +kernel)
set_option maxRecDepth 20000 in
theorem gL_law_X5_shortestPeriod : GoodIn wsL_law (wsV RL 108 RX5 yX5_shortestPeriod wsX5_shortestPeriod) := goodIn_app (goodIn_of _ (by decide +kernel)) ggL_law_X5_shortestPeriod
theorem dL_law_0 : decode cL_law 0 = .ok (.new 7, 3) := by decide +kernel
theorem dL_law_3 : decode cL_law 3 = .ok (.dup, 1) := by decide +kernel
theorem dL_law_4 : decode cL_law 4 = .ok (.invokespecial 9, 3) := by decide +kernel
theorem dL_law_7 : decode cL_law 7 = .ok (.astore_n 1, 1) := by decide +kernel
theorem dL_law_8 : decode cL_law 8 = .ok (.new 10, 3) := by decide +kernel
theorem dL_law_11 : decode cL_law 11 = .ok (.dup, 1) := by decide +kernel
theorem dL_law_12 : decode cL_law 12 = .ok (.invokespecial 12, 3) := by decide +kernel
theorem dL_law_15 : decode cL_law 15 = .ok (.astore_n 2, 1) := by decide +kernel
theorem dL_law_16 : decode cL_law 16 = .ok (.iconst 0, 1) := by decide +kernel
theorem dL_law_17 : decode cL_law 17 = .ok (.istore_n 3, 1) := by decide +kernel
theorem dL_law_18 : decode cL_law 18 = .ok (.iload_n 3, 1) := by decide +kernel
theorem dL_law_19 : decode cL_law 19 = .ok (.aload_n 0, 1) := by decide +kernel
theorem dL_law_20 : decode cL_law 20 = .ok (.arraylength, 1) := by decide +kernel
theorem dL_law_21 : decode cL_law 21 = .ok (.iconst 4, 1) := by decide +kernel
theorem dL_law_22 : decode cL_law 22 = .ok (.isub, 1) := by decide +kernel
theorem dL_law_23 : decode cL_law 23 = .ok (.if_icmp .gt 682, 3) := by decide +kernel
theorem dL_law_26 : decode cL_law 26 = .ok (.aload_n 0, 1) := by decide +kernel
theorem dL_law_27 : decode cL_law 27 = .ok (.iload_n 3, 1) := by decide +kernel
theorem dL_law_28 : decode cL_law 28 = .ok (.iaload, 1) := by decide +kernel
theorem dL_law_29 : decode cL_law 29 = .ok (.bipush 31, 2) := by decide +kernel
theorem dL_law_31 : decode cL_law 31 = .ok (.iand, 1) := by decide +kernel
theorem dL_law_32 : decode cL_law 32 = .ok (.tableswitch 667 0 22 #[108, 141, 174, 197, 220, 253, 276, 319, 342, 365, 378, 401, 414, 427, 450, 483, 506, 539, 562, 585, 608, 621, 654], 108) := by decide +kernel
theorem dL_law_140 : decode cL_law 140 = .ok (.aload_n 1, 1) := by decide +kernel
theorem dL_law_141 : decode cL_law 141 = .ok (.aload_n 0, 1) := by decide +kernel
theorem dL_law_142 : decode cL_law 142 = .ok (.iload_n 3, 1) := by decide +kernel
theorem dL_law_143 : decode cL_law 143 = .ok (.iconst 1, 1) := by decide +kernel
theorem dL_law_144 : decode cL_law 144 = .ok (.iadd, 1) := by decide +kernel
theorem dL_law_145 : decode cL_law 145 = .ok (.iaload, 1) := by decide +kernel
theorem dL_law_146 : decode cL_law 146 = .ok (.aload_n 0, 1) := by decide +kernel
theorem dL_law_147 : decode cL_law 147 = .ok (.iload_n 3, 1) := by decide +kernel
theorem dL_law_148 : decode cL_law 148 = .ok (.iconst 2, 1) := by decide +kernel
theorem dL_law_149 : decode cL_law 149 = .ok (.iadd, 1) := by decide +kernel
theorem dL_law_150 : decode cL_law 150 = .ok (.iaload, 1) := by decide +kernel
theorem dL_law_151 : decode cL_law 151 = .ok (.invokevirtual 13, 3) := by decide +kernel
theorem dL_law_154 : decode cL_law 154 = .ok (.aload_n 2, 1) := by decide +kernel
theorem dL_law_155 : decode cL_law 155 = .ok (.aload_n 0, 1) := by decide +kernel
theorem dL_law_156 : decode cL_law 156 = .ok (.iload_n 3, 1) := by decide +kernel
theorem dL_law_157 : decode cL_law 157 = .ok (.iconst 1, 1) := by decide +kernel
theorem dL_law_158 : decode cL_law 158 = .ok (.iadd, 1) := by decide +kernel
theorem dL_law_159 : decode cL_law 159 = .ok (.iaload, 1) := by decide +kernel
theorem dL_law_160 : decode cL_law 160 = .ok (.aload_n 0, 1) := by decide +kernel
theorem dL_law_161 : decode cL_law 161 = .ok (.iload_n 3, 1) := by decide +kernel
theorem dL_law_162 : decode cL_law 162 = .ok (.iconst 2, 1) := by decide +kernel
theorem dL_law_163 : decode cL_law 163 = .ok (.iadd, 1) := by decide +kernel
theorem dL_law_164 : decode cL_law 164 = .ok (.iaload, 1) := by decide +kernel
theorem dL_law_165 : decode cL_law 165 = .ok (.invokevirtual 17, 3) := by decide +kernel
theorem dL_law_168 : decode cL_law 168 = .ok (.if_icmp .eq 531, 3) := by decide +kernel
theorem dL_law_171 : decode cL_law 171 = .ok (.iconst 0, 1) := by decide +kernel
theorem dL_law_172 : decode cL_law 172 = .ok (.ireturn, 1) := by decide +kernel
theorem dL_law_173 : decode cL_law 173 = .ok (.aload_n 1, 1) := by decide +kernel
theorem dL_law_174 : decode cL_law 174 = .ok (.aload_n 0, 1) := by decide +kernel
theorem dL_law_175 : decode cL_law 175 = .ok (.iload_n 3, 1) := by decide +kernel
theorem dL_law_176 : decode cL_law 176 = .ok (.iconst 1, 1) := by decide +kernel
theorem dL_law_177 : decode cL_law 177 = .ok (.iadd, 1) := by decide +kernel
theorem dL_law_178 : decode cL_law 178 = .ok (.iaload, 1) := by decide +kernel
theorem dL_law_179 : decode cL_law 179 = .ok (.aload_n 0, 1) := by decide +kernel
theorem dL_law_180 : decode cL_law 180 = .ok (.iload_n 3, 1) := by decide +kernel
theorem dL_law_181 : decode cL_law 181 = .ok (.iconst 2, 1) := by decide +kernel
theorem dL_law_182 : decode cL_law 182 = .ok (.iadd, 1) := by decide +kernel
theorem dL_law_183 : decode cL_law 183 = .ok (.iaload, 1) := by decide +kernel
theorem dL_law_184 : decode cL_law 184 = .ok (.invokevirtual 18, 3) := by decide +kernel
theorem dL_law_187 : decode cL_law 187 = .ok (.aload_n 2, 1) := by decide +kernel
theorem dL_law_188 : decode cL_law 188 = .ok (.aload_n 0, 1) := by decide +kernel
theorem dL_law_189 : decode cL_law 189 = .ok (.iload_n 3, 1) := by decide +kernel
theorem dL_law_190 : decode cL_law 190 = .ok (.iconst 1, 1) := by decide +kernel
theorem dL_law_191 : decode cL_law 191 = .ok (.iadd, 1) := by decide +kernel
theorem dL_law_192 : decode cL_law 192 = .ok (.iaload, 1) := by decide +kernel
theorem dL_law_193 : decode cL_law 193 = .ok (.aload_n 0, 1) := by decide +kernel
theorem dL_law_194 : decode cL_law 194 = .ok (.iload_n 3, 1) := by decide +kernel
theorem dL_law_195 : decode cL_law 195 = .ok (.iconst 2, 1) := by decide +kernel
theorem dL_law_196 : decode cL_law 196 = .ok (.iadd, 1) := by decide +kernel
theorem dL_law_197 : decode cL_law 197 = .ok (.iaload, 1) := by decide +kernel
theorem dL_law_198 : decode cL_law 198 = .ok (.invokevirtual 21, 3) := by decide +kernel
theorem dL_law_201 : decode cL_law 201 = .ok (.if_icmp .eq 498, 3) := by decide +kernel
theorem dL_law_204 : decode cL_law 204 = .ok (.iconst 0, 1) := by decide +kernel
theorem dL_law_205 : decode cL_law 205 = .ok (.ireturn, 1) := by decide +kernel
theorem dL_law_206 : decode cL_law 206 = .ok (.aload_n 1, 1) := by decide +kernel
theorem dL_law_207 : decode cL_law 207 = .ok (.aload_n 0, 1) := by decide +kernel
theorem dL_law_208 : decode cL_law 208 = .ok (.iload_n 3, 1) := by decide +kernel
theorem dL_law_209 : decode cL_law 209 = .ok (.iconst 1, 1) := by decide +kernel
theorem dL_law_210 : decode cL_law 210 = .ok (.iadd, 1) := by decide +kernel
theorem dL_law_211 : decode cL_law 211 = .ok (.iaload, 1) := by decide +kernel
theorem dL_law_212 : decode cL_law 212 = .ok (.invokevirtual 22, 3) := by decide +kernel
theorem dL_law_215 : decode cL_law 215 = .ok (.aload_n 2, 1) := by decide +kernel
theorem dL_law_216 : decode cL_law 216 = .ok (.aload_n 0, 1) := by decide +kernel
theorem dL_law_217 : decode cL_law 217 = .ok (.iload_n 3, 1) := by decide +kernel
theorem dL_law_218 : decode cL_law 218 = .ok (.iconst 1, 1) := by decide +kernel
theorem dL_law_219 : decode cL_law 219 = .ok (.iadd, 1) := by decide +kernel
theorem dL_law_220 : decode cL_law 220 = .ok (.iaload, 1) := by decide +kernel
theorem dL_law_221 : decode cL_law 221 = .ok (.invokevirtual 26, 3) := by decide +kernel
theorem dL_law_224 : decode cL_law 224 = .ok (.if_icmp .eq 475, 3) := by decide +kernel
theorem dL_law_227 : decode cL_law 227 = .ok (.iconst 0, 1) := by decide +kernel
theorem dL_law_228 : decode cL_law 228 = .ok (.ireturn, 1) := by decide +kernel
theorem dL_law_229 : decode cL_law 229 = .ok (.aload_n 1, 1) := by decide +kernel
theorem dL_law_230 : decode cL_law 230 = .ok (.aload_n 0, 1) := by decide +kernel
theorem dL_law_231 : decode cL_law 231 = .ok (.iload_n 3, 1) := by decide +kernel
theorem dL_law_232 : decode cL_law 232 = .ok (.iconst 1, 1) := by decide +kernel
theorem dL_law_233 : decode cL_law 233 = .ok (.iadd, 1) := by decide +kernel
theorem dL_law_234 : decode cL_law 234 = .ok (.iaload, 1) := by decide +kernel
theorem dL_law_235 : decode cL_law 235 = .ok (.invokevirtual 27, 3) := by decide +kernel
theorem dL_law_238 : decode cL_law 238 = .ok (.aload_n 2, 1) := by decide +kernel
theorem dL_law_239 : decode cL_law 239 = .ok (.aload_n 0, 1) := by decide +kernel
theorem dL_law_240 : decode cL_law 240 = .ok (.iload_n 3, 1) := by decide +kernel
theorem dL_law_241 : decode cL_law 241 = .ok (.iconst 1, 1) := by decide +kernel
theorem dL_law_242 : decode cL_law 242 = .ok (.iadd, 1) := by decide +kernel
theorem dL_law_243 : decode cL_law 243 = .ok (.iaload, 1) := by decide +kernel
theorem dL_law_244 : decode cL_law 244 = .ok (.invokevirtual 30, 3) := by decide +kernel
theorem dL_law_247 : decode cL_law 247 = .ok (.if_icmp .eq 452, 3) := by decide +kernel
theorem dL_law_250 : decode cL_law 250 = .ok (.iconst 0, 1) := by decide +kernel
theorem dL_law_251 : decode cL_law 251 = .ok (.ireturn, 1) := by decide +kernel
theorem dL_law_252 : decode cL_law 252 = .ok (.aload_n 1, 1) := by decide +kernel
theorem dL_law_253 : decode cL_law 253 = .ok (.aload_n 0, 1) := by decide +kernel
theorem dL_law_254 : decode cL_law 254 = .ok (.iload_n 3, 1) := by decide +kernel
theorem dL_law_255 : decode cL_law 255 = .ok (.iconst 1, 1) := by decide +kernel
theorem dL_law_256 : decode cL_law 256 = .ok (.iadd, 1) := by decide +kernel
theorem dL_law_257 : decode cL_law 257 = .ok (.iaload, 1) := by decide +kernel
theorem dL_law_258 : decode cL_law 258 = .ok (.aload_n 0, 1) := by decide +kernel
theorem dL_law_259 : decode cL_law 259 = .ok (.iload_n 3, 1) := by decide +kernel
theorem dL_law_260 : decode cL_law 260 = .ok (.iconst 2, 1) := by decide +kernel
theorem dL_law_261 : decode cL_law 261 = .ok (.iadd, 1) := by decide +kernel
theorem dL_law_262 : decode cL_law 262 = .ok (.iaload, 1) := by decide +kernel
theorem dL_law_263 : decode cL_law 263 = .ok (.invokevirtual 31, 3) := by decide +kernel
theorem dL_law_266 : decode cL_law 266 = .ok (.aload_n 2, 1) := by decide +kernel
theorem dL_law_267 : decode cL_law 267 = .ok (.aload_n 0, 1) := by decide +kernel
theorem dL_law_268 : decode cL_law 268 = .ok (.iload_n 3, 1) := by decide +kernel
theorem dL_law_269 : decode cL_law 269 = .ok (.iconst 1, 1) := by decide +kernel
theorem dL_law_270 : decode cL_law 270 = .ok (.iadd, 1) := by decide +kernel
theorem dL_law_271 : decode cL_law 271 = .ok (.iaload, 1) := by decide +kernel
theorem dL_law_272 : decode cL_law 272 = .ok (.aload_n 0, 1) := by decide +kernel
theorem dL_law_273 : decode cL_law 273 = .ok (.iload_n 3, 1) := by decide +kernel
theorem dL_law_274 : decode cL_law 274 = .ok (.iconst 2, 1) := by decide +kernel
theorem dL_law_275 : decode cL_law 275 = .ok (.iadd, 1) := by decide +kernel
theorem dL_law_276 : decode cL_law 276 = .ok (.iaload, 1) := by decide +kernel
theorem dL_law_277 : decode cL_law 277 = .ok (.invokevirtual 34, 3) := by decide +kernel
theorem dL_law_280 : decode cL_law 280 = .ok (.if_icmp .eq 419, 3) := by decide +kernel
theorem dL_law_283 : decode cL_law 283 = .ok (.iconst 0, 1) := by decide +kernel
theorem dL_law_284 : decode cL_law 284 = .ok (.ireturn, 1) := by decide +kernel
theorem dL_law_285 : decode cL_law 285 = .ok (.aload_n 1, 1) := by decide +kernel
theorem dL_law_286 : decode cL_law 286 = .ok (.aload_n 0, 1) := by decide +kernel
theorem dL_law_287 : decode cL_law 287 = .ok (.iload_n 3, 1) := by decide +kernel
theorem dL_law_288 : decode cL_law 288 = .ok (.iconst 1, 1) := by decide +kernel
theorem dL_law_289 : decode cL_law 289 = .ok (.iadd, 1) := by decide +kernel
theorem dL_law_290 : decode cL_law 290 = .ok (.iaload, 1) := by decide +kernel
theorem dL_law_291 : decode cL_law 291 = .ok (.invokevirtual 35, 3) := by decide +kernel
theorem dL_law_294 : decode cL_law 294 = .ok (.aload_n 2, 1) := by decide +kernel
theorem dL_law_295 : decode cL_law 295 = .ok (.aload_n 0, 1) := by decide +kernel
theorem dL_law_296 : decode cL_law 296 = .ok (.iload_n 3, 1) := by decide +kernel
theorem dL_law_297 : decode cL_law 297 = .ok (.iconst 1, 1) := by decide +kernel
theorem dL_law_298 : decode cL_law 298 = .ok (.iadd, 1) := by decide +kernel
theorem dL_law_299 : decode cL_law 299 = .ok (.iaload, 1) := by decide +kernel
theorem dL_law_300 : decode cL_law 300 = .ok (.invokevirtual 38, 3) := by decide +kernel
theorem dL_law_303 : decode cL_law 303 = .ok (.if_icmp .eq 396, 3) := by decide +kernel
theorem dL_law_306 : decode cL_law 306 = .ok (.iconst 0, 1) := by decide +kernel
theorem dL_law_307 : decode cL_law 307 = .ok (.ireturn, 1) := by decide +kernel
theorem dL_law_308 : decode cL_law 308 = .ok (.aload_n 1, 1) := by decide +kernel
theorem dL_law_309 : decode cL_law 309 = .ok (.aload_n 0, 1) := by decide +kernel
theorem dL_law_310 : decode cL_law 310 = .ok (.iload_n 3, 1) := by decide +kernel
theorem dL_law_311 : decode cL_law 311 = .ok (.iconst 1, 1) := by decide +kernel
theorem dL_law_312 : decode cL_law 312 = .ok (.iadd, 1) := by decide +kernel
theorem dL_law_313 : decode cL_law 313 = .ok (.iaload, 1) := by decide +kernel
theorem dL_law_314 : decode cL_law 314 = .ok (.aload_n 0, 1) := by decide +kernel
theorem dL_law_315 : decode cL_law 315 = .ok (.iload_n 3, 1) := by decide +kernel
theorem dL_law_316 : decode cL_law 316 = .ok (.iconst 2, 1) := by decide +kernel
theorem dL_law_317 : decode cL_law 317 = .ok (.iadd, 1) := by decide +kernel
theorem dL_law_318 : decode cL_law 318 = .ok (.iaload, 1) := by decide +kernel
theorem dL_law_319 : decode cL_law 319 = .ok (.aload_n 0, 1) := by decide +kernel
theorem dL_law_320 : decode cL_law 320 = .ok (.iload_n 3, 1) := by decide +kernel
theorem dL_law_321 : decode cL_law 321 = .ok (.iconst 3, 1) := by decide +kernel
theorem dL_law_322 : decode cL_law 322 = .ok (.iadd, 1) := by decide +kernel
theorem dL_law_323 : decode cL_law 323 = .ok (.iaload, 1) := by decide +kernel
theorem dL_law_324 : decode cL_law 324 = .ok (.invokevirtual 39, 3) := by decide +kernel
theorem dL_law_327 : decode cL_law 327 = .ok (.aload_n 2, 1) := by decide +kernel
theorem dL_law_328 : decode cL_law 328 = .ok (.aload_n 0, 1) := by decide +kernel
theorem dL_law_329 : decode cL_law 329 = .ok (.iload_n 3, 1) := by decide +kernel
theorem dL_law_330 : decode cL_law 330 = .ok (.iconst 1, 1) := by decide +kernel
theorem dL_law_331 : decode cL_law 331 = .ok (.iadd, 1) := by decide +kernel
theorem dL_law_332 : decode cL_law 332 = .ok (.iaload, 1) := by decide +kernel
theorem dL_law_333 : decode cL_law 333 = .ok (.aload_n 0, 1) := by decide +kernel
theorem dL_law_334 : decode cL_law 334 = .ok (.iload_n 3, 1) := by decide +kernel
theorem dL_law_335 : decode cL_law 335 = .ok (.iconst 2, 1) := by decide +kernel
theorem dL_law_336 : decode cL_law 336 = .ok (.iadd, 1) := by decide +kernel
theorem dL_law_337 : decode cL_law 337 = .ok (.iaload, 1) := by decide +kernel
theorem dL_law_338 : decode cL_law 338 = .ok (.aload_n 0, 1) := by decide +kernel
theorem dL_law_339 : decode cL_law 339 = .ok (.iload_n 3, 1) := by decide +kernel
theorem dL_law_340 : decode cL_law 340 = .ok (.iconst 3, 1) := by decide +kernel
theorem dL_law_341 : decode cL_law 341 = .ok (.iadd, 1) := by decide +kernel
theorem dL_law_342 : decode cL_law 342 = .ok (.iaload, 1) := by decide +kernel
theorem dL_law_343 : decode cL_law 343 = .ok (.invokevirtual 43, 3) := by decide +kernel
theorem dL_law_346 : decode cL_law 346 = .ok (.if_icmp .eq 353, 3) := by decide +kernel
theorem dL_law_349 : decode cL_law 349 = .ok (.iconst 0, 1) := by decide +kernel
theorem dL_law_350 : decode cL_law 350 = .ok (.ireturn, 1) := by decide +kernel
theorem dL_law_351 : decode cL_law 351 = .ok (.aload_n 1, 1) := by decide +kernel
theorem dL_law_352 : decode cL_law 352 = .ok (.aload_n 0, 1) := by decide +kernel
theorem dL_law_353 : decode cL_law 353 = .ok (.iload_n 3, 1) := by decide +kernel
theorem dL_law_354 : decode cL_law 354 = .ok (.iconst 1, 1) := by decide +kernel
theorem dL_law_355 : decode cL_law 355 = .ok (.iadd, 1) := by decide +kernel
theorem dL_law_356 : decode cL_law 356 = .ok (.iaload, 1) := by decide +kernel
theorem dL_law_357 : decode cL_law 357 = .ok (.invokevirtual 44, 3) := by decide +kernel
theorem dL_law_360 : decode cL_law 360 = .ok (.aload_n 2, 1) := by decide +kernel
theorem dL_law_361 : decode cL_law 361 = .ok (.aload_n 0, 1) := by decide +kernel
theorem dL_law_362 : decode cL_law 362 = .ok (.iload_n 3, 1) := by decide +kernel
theorem dL_law_363 : decode cL_law 363 = .ok (.iconst 1, 1) := by decide +kernel
theorem dL_law_364 : decode cL_law 364 = .ok (.iadd, 1) := by decide +kernel
theorem dL_law_365 : decode cL_law 365 = .ok (.iaload, 1) := by decide +kernel
theorem dL_law_366 : decode cL_law 366 = .ok (.invokevirtual 47, 3) := by decide +kernel
theorem dL_law_369 : decode cL_law 369 = .ok (.if_icmp .eq 330, 3) := by decide +kernel
theorem dL_law_372 : decode cL_law 372 = .ok (.iconst 0, 1) := by decide +kernel
theorem dL_law_373 : decode cL_law 373 = .ok (.ireturn, 1) := by decide +kernel
theorem dL_law_374 : decode cL_law 374 = .ok (.aload_n 1, 1) := by decide +kernel
theorem dL_law_375 : decode cL_law 375 = .ok (.aload_n 0, 1) := by decide +kernel
theorem dL_law_376 : decode cL_law 376 = .ok (.iload_n 3, 1) := by decide +kernel
theorem dL_law_377 : decode cL_law 377 = .ok (.iconst 1, 1) := by decide +kernel
theorem dL_law_378 : decode cL_law 378 = .ok (.iadd, 1) := by decide +kernel
theorem dL_law_379 : decode cL_law 379 = .ok (.iaload, 1) := by decide +kernel
theorem dL_law_380 : decode cL_law 380 = .ok (.invokevirtual 48, 3) := by decide +kernel
theorem dL_law_383 : decode cL_law 383 = .ok (.aload_n 2, 1) := by decide +kernel
theorem dL_law_384 : decode cL_law 384 = .ok (.aload_n 0, 1) := by decide +kernel
theorem dL_law_385 : decode cL_law 385 = .ok (.iload_n 3, 1) := by decide +kernel
theorem dL_law_386 : decode cL_law 386 = .ok (.iconst 1, 1) := by decide +kernel
theorem dL_law_387 : decode cL_law 387 = .ok (.iadd, 1) := by decide +kernel
theorem dL_law_388 : decode cL_law 388 = .ok (.iaload, 1) := by decide +kernel
theorem dL_law_389 : decode cL_law 389 = .ok (.invokevirtual 51, 3) := by decide +kernel
theorem dL_law_392 : decode cL_law 392 = .ok (.if_icmp .eq 307, 3) := by decide +kernel
theorem dL_law_395 : decode cL_law 395 = .ok (.iconst 0, 1) := by decide +kernel
theorem dL_law_396 : decode cL_law 396 = .ok (.ireturn, 1) := by decide +kernel
theorem dL_law_397 : decode cL_law 397 = .ok (.aload_n 1, 1) := by decide +kernel
theorem dL_law_398 : decode cL_law 398 = .ok (.invokevirtual 52, 3) := by decide +kernel
theorem dL_law_401 : decode cL_law 401 = .ok (.aload_n 2, 1) := by decide +kernel
theorem dL_law_402 : decode cL_law 402 = .ok (.invokevirtual 56, 3) := by decide +kernel
theorem dL_law_405 : decode cL_law 405 = .ok (.if_icmp .eq 294, 3) := by decide +kernel
theorem dL_law_408 : decode cL_law 408 = .ok (.iconst 0, 1) := by decide +kernel
theorem dL_law_409 : decode cL_law 409 = .ok (.ireturn, 1) := by decide +kernel
theorem dL_law_410 : decode cL_law 410 = .ok (.aload_n 1, 1) := by decide +kernel
theorem dL_law_411 : decode cL_law 411 = .ok (.aload_n 0, 1) := by decide +kernel
theorem dL_law_412 : decode cL_law 412 = .ok (.iload_n 3, 1) := by decide +kernel
theorem dL_law_413 : decode cL_law 413 = .ok (.iconst 1, 1) := by decide +kernel
theorem dL_law_414 : decode cL_law 414 = .ok (.iadd, 1) := by decide +kernel
theorem dL_law_415 : decode cL_law 415 = .ok (.iaload, 1) := by decide +kernel
theorem dL_law_416 : decode cL_law 416 = .ok (.invokevirtual 57, 3) := by decide +kernel
theorem dL_law_419 : decode cL_law 419 = .ok (.aload_n 2, 1) := by decide +kernel
theorem dL_law_420 : decode cL_law 420 = .ok (.aload_n 0, 1) := by decide +kernel
theorem dL_law_421 : decode cL_law 421 = .ok (.iload_n 3, 1) := by decide +kernel
theorem dL_law_422 : decode cL_law 422 = .ok (.iconst 1, 1) := by decide +kernel
theorem dL_law_423 : decode cL_law 423 = .ok (.iadd, 1) := by decide +kernel
theorem dL_law_424 : decode cL_law 424 = .ok (.iaload, 1) := by decide +kernel
theorem dL_law_425 : decode cL_law 425 = .ok (.invokevirtual 60, 3) := by decide +kernel
theorem dL_law_428 : decode cL_law 428 = .ok (.if_icmp .eq 271, 3) := by decide +kernel
theorem dL_law_431 : decode cL_law 431 = .ok (.iconst 0, 1) := by decide +kernel
theorem dL_law_432 : decode cL_law 432 = .ok (.ireturn, 1) := by decide +kernel
theorem dL_law_433 : decode cL_law 433 = .ok (.aload_n 1, 1) := by decide +kernel
theorem dL_law_434 : decode cL_law 434 = .ok (.invokevirtual 61, 3) := by decide +kernel
theorem dL_law_437 : decode cL_law 437 = .ok (.aload_n 2, 1) := by decide +kernel
theorem dL_law_438 : decode cL_law 438 = .ok (.invokevirtual 64, 3) := by decide +kernel
theorem dL_law_441 : decode cL_law 441 = .ok (.if_icmp .eq 258, 3) := by decide +kernel
theorem dL_law_444 : decode cL_law 444 = .ok (.iconst 0, 1) := by decide +kernel
theorem dL_law_445 : decode cL_law 445 = .ok (.ireturn, 1) := by decide +kernel
theorem dL_law_446 : decode cL_law 446 = .ok (.aload_n 1, 1) := by decide +kernel
theorem dL_law_447 : decode cL_law 447 = .ok (.invokevirtual 65, 3) := by decide +kernel
theorem dL_law_450 : decode cL_law 450 = .ok (.aload_n 2, 1) := by decide +kernel
theorem dL_law_451 : decode cL_law 451 = .ok (.invokevirtual 68, 3) := by decide +kernel
theorem dL_law_454 : decode cL_law 454 = .ok (.if_icmp .eq 245, 3) := by decide +kernel
theorem dL_law_457 : decode cL_law 457 = .ok (.iconst 0, 1) := by decide +kernel
theorem dL_law_458 : decode cL_law 458 = .ok (.ireturn, 1) := by decide +kernel
theorem dL_law_459 : decode cL_law 459 = .ok (.aload_n 1, 1) := by decide +kernel
theorem dL_law_460 : decode cL_law 460 = .ok (.aload_n 0, 1) := by decide +kernel
theorem dL_law_461 : decode cL_law 461 = .ok (.iload_n 3, 1) := by decide +kernel
theorem dL_law_462 : decode cL_law 462 = .ok (.iconst 1, 1) := by decide +kernel
theorem dL_law_463 : decode cL_law 463 = .ok (.iadd, 1) := by decide +kernel
theorem dL_law_464 : decode cL_law 464 = .ok (.iaload, 1) := by decide +kernel
theorem dL_law_465 : decode cL_law 465 = .ok (.invokevirtual 69, 3) := by decide +kernel
theorem dL_law_468 : decode cL_law 468 = .ok (.aload_n 2, 1) := by decide +kernel
theorem dL_law_469 : decode cL_law 469 = .ok (.aload_n 0, 1) := by decide +kernel
theorem dL_law_470 : decode cL_law 470 = .ok (.iload_n 3, 1) := by decide +kernel
theorem dL_law_471 : decode cL_law 471 = .ok (.iconst 1, 1) := by decide +kernel
theorem dL_law_472 : decode cL_law 472 = .ok (.iadd, 1) := by decide +kernel
theorem dL_law_473 : decode cL_law 473 = .ok (.iaload, 1) := by decide +kernel
theorem dL_law_474 : decode cL_law 474 = .ok (.invokevirtual 72, 3) := by decide +kernel
theorem dL_law_477 : decode cL_law 477 = .ok (.if_icmp .eq 222, 3) := by decide +kernel
theorem dL_law_480 : decode cL_law 480 = .ok (.iconst 0, 1) := by decide +kernel
theorem dL_law_481 : decode cL_law 481 = .ok (.ireturn, 1) := by decide +kernel
theorem dL_law_482 : decode cL_law 482 = .ok (.aload_n 1, 1) := by decide +kernel
theorem dL_law_483 : decode cL_law 483 = .ok (.aload_n 0, 1) := by decide +kernel
theorem dL_law_484 : decode cL_law 484 = .ok (.iload_n 3, 1) := by decide +kernel
theorem dL_law_485 : decode cL_law 485 = .ok (.iconst 1, 1) := by decide +kernel
theorem dL_law_486 : decode cL_law 486 = .ok (.iadd, 1) := by decide +kernel
theorem dL_law_487 : decode cL_law 487 = .ok (.iaload, 1) := by decide +kernel
theorem dL_law_488 : decode cL_law 488 = .ok (.aload_n 0, 1) := by decide +kernel
theorem dL_law_489 : decode cL_law 489 = .ok (.iload_n 3, 1) := by decide +kernel
theorem dL_law_490 : decode cL_law 490 = .ok (.iconst 2, 1) := by decide +kernel
theorem dL_law_491 : decode cL_law 491 = .ok (.iadd, 1) := by decide +kernel
theorem dL_law_492 : decode cL_law 492 = .ok (.iaload, 1) := by decide +kernel
theorem dL_law_493 : decode cL_law 493 = .ok (.invokevirtual 73, 3) := by decide +kernel
theorem dL_law_496 : decode cL_law 496 = .ok (.aload_n 2, 1) := by decide +kernel
theorem dL_law_497 : decode cL_law 497 = .ok (.aload_n 0, 1) := by decide +kernel
theorem dL_law_498 : decode cL_law 498 = .ok (.iload_n 3, 1) := by decide +kernel
theorem dL_law_499 : decode cL_law 499 = .ok (.iconst 1, 1) := by decide +kernel
theorem dL_law_500 : decode cL_law 500 = .ok (.iadd, 1) := by decide +kernel
theorem dL_law_501 : decode cL_law 501 = .ok (.iaload, 1) := by decide +kernel
theorem dL_law_502 : decode cL_law 502 = .ok (.aload_n 0, 1) := by decide +kernel
theorem dL_law_503 : decode cL_law 503 = .ok (.iload_n 3, 1) := by decide +kernel
theorem dL_law_504 : decode cL_law 504 = .ok (.iconst 2, 1) := by decide +kernel
theorem dL_law_505 : decode cL_law 505 = .ok (.iadd, 1) := by decide +kernel
theorem dL_law_506 : decode cL_law 506 = .ok (.iaload, 1) := by decide +kernel
theorem dL_law_507 : decode cL_law 507 = .ok (.invokevirtual 76, 3) := by decide +kernel
theorem dL_law_510 : decode cL_law 510 = .ok (.if_icmp .eq 189, 3) := by decide +kernel
theorem dL_law_513 : decode cL_law 513 = .ok (.iconst 0, 1) := by decide +kernel
theorem dL_law_514 : decode cL_law 514 = .ok (.ireturn, 1) := by decide +kernel
theorem dL_law_515 : decode cL_law 515 = .ok (.aload_n 1, 1) := by decide +kernel
theorem dL_law_516 : decode cL_law 516 = .ok (.aload_n 0, 1) := by decide +kernel
theorem dL_law_517 : decode cL_law 517 = .ok (.iload_n 3, 1) := by decide +kernel
theorem dL_law_518 : decode cL_law 518 = .ok (.iconst 1, 1) := by decide +kernel
theorem dL_law_519 : decode cL_law 519 = .ok (.iadd, 1) := by decide +kernel
theorem dL_law_520 : decode cL_law 520 = .ok (.iaload, 1) := by decide +kernel
theorem dL_law_521 : decode cL_law 521 = .ok (.invokevirtual 77, 3) := by decide +kernel
theorem dL_law_524 : decode cL_law 524 = .ok (.aload_n 2, 1) := by decide +kernel
theorem dL_law_525 : decode cL_law 525 = .ok (.aload_n 0, 1) := by decide +kernel
theorem dL_law_526 : decode cL_law 526 = .ok (.iload_n 3, 1) := by decide +kernel
theorem dL_law_527 : decode cL_law 527 = .ok (.iconst 1, 1) := by decide +kernel
theorem dL_law_528 : decode cL_law 528 = .ok (.iadd, 1) := by decide +kernel
theorem dL_law_529 : decode cL_law 529 = .ok (.iaload, 1) := by decide +kernel
theorem dL_law_530 : decode cL_law 530 = .ok (.invokevirtual 80, 3) := by decide +kernel
theorem dL_law_533 : decode cL_law 533 = .ok (.if_icmp .eq 166, 3) := by decide +kernel
theorem dL_law_536 : decode cL_law 536 = .ok (.iconst 0, 1) := by decide +kernel
theorem dL_law_537 : decode cL_law 537 = .ok (.ireturn, 1) := by decide +kernel
theorem dL_law_538 : decode cL_law 538 = .ok (.aload_n 1, 1) := by decide +kernel
theorem dL_law_539 : decode cL_law 539 = .ok (.aload_n 0, 1) := by decide +kernel
theorem dL_law_540 : decode cL_law 540 = .ok (.iload_n 3, 1) := by decide +kernel
theorem dL_law_541 : decode cL_law 541 = .ok (.iconst 1, 1) := by decide +kernel
theorem dL_law_542 : decode cL_law 542 = .ok (.iadd, 1) := by decide +kernel
theorem dL_law_543 : decode cL_law 543 = .ok (.iaload, 1) := by decide +kernel
theorem dL_law_544 : decode cL_law 544 = .ok (.aload_n 0, 1) := by decide +kernel
theorem dL_law_545 : decode cL_law 545 = .ok (.iload_n 3, 1) := by decide +kernel
theorem dL_law_546 : decode cL_law 546 = .ok (.iconst 2, 1) := by decide +kernel
theorem dL_law_547 : decode cL_law 547 = .ok (.iadd, 1) := by decide +kernel
theorem dL_law_548 : decode cL_law 548 = .ok (.iaload, 1) := by decide +kernel
theorem dL_law_549 : decode cL_law 549 = .ok (.invokevirtual 81, 3) := by decide +kernel
theorem dL_law_552 : decode cL_law 552 = .ok (.aload_n 2, 1) := by decide +kernel
theorem dL_law_553 : decode cL_law 553 = .ok (.aload_n 0, 1) := by decide +kernel
theorem dL_law_554 : decode cL_law 554 = .ok (.iload_n 3, 1) := by decide +kernel
theorem dL_law_555 : decode cL_law 555 = .ok (.iconst 1, 1) := by decide +kernel
theorem dL_law_556 : decode cL_law 556 = .ok (.iadd, 1) := by decide +kernel
theorem dL_law_557 : decode cL_law 557 = .ok (.iaload, 1) := by decide +kernel
theorem dL_law_558 : decode cL_law 558 = .ok (.aload_n 0, 1) := by decide +kernel
theorem dL_law_559 : decode cL_law 559 = .ok (.iload_n 3, 1) := by decide +kernel
theorem dL_law_560 : decode cL_law 560 = .ok (.iconst 2, 1) := by decide +kernel
theorem dL_law_561 : decode cL_law 561 = .ok (.iadd, 1) := by decide +kernel
theorem dL_law_562 : decode cL_law 562 = .ok (.iaload, 1) := by decide +kernel
theorem dL_law_563 : decode cL_law 563 = .ok (.invokevirtual 84, 3) := by decide +kernel
theorem dL_law_566 : decode cL_law 566 = .ok (.if_icmp .eq 133, 3) := by decide +kernel
theorem dL_law_569 : decode cL_law 569 = .ok (.iconst 0, 1) := by decide +kernel
theorem dL_law_570 : decode cL_law 570 = .ok (.ireturn, 1) := by decide +kernel
theorem dL_law_571 : decode cL_law 571 = .ok (.aload_n 1, 1) := by decide +kernel
theorem dL_law_572 : decode cL_law 572 = .ok (.aload_n 0, 1) := by decide +kernel
theorem dL_law_573 : decode cL_law 573 = .ok (.iload_n 3, 1) := by decide +kernel
theorem dL_law_574 : decode cL_law 574 = .ok (.iconst 1, 1) := by decide +kernel
theorem dL_law_575 : decode cL_law 575 = .ok (.iadd, 1) := by decide +kernel
theorem dL_law_576 : decode cL_law 576 = .ok (.iaload, 1) := by decide +kernel
theorem dL_law_577 : decode cL_law 577 = .ok (.invokevirtual 85, 3) := by decide +kernel
theorem dL_law_580 : decode cL_law 580 = .ok (.aload_n 2, 1) := by decide +kernel
theorem dL_law_581 : decode cL_law 581 = .ok (.aload_n 0, 1) := by decide +kernel
theorem dL_law_582 : decode cL_law 582 = .ok (.iload_n 3, 1) := by decide +kernel
theorem dL_law_583 : decode cL_law 583 = .ok (.iconst 1, 1) := by decide +kernel
theorem dL_law_584 : decode cL_law 584 = .ok (.iadd, 1) := by decide +kernel
theorem dL_law_585 : decode cL_law 585 = .ok (.iaload, 1) := by decide +kernel
theorem dL_law_586 : decode cL_law 586 = .ok (.invokevirtual 88, 3) := by decide +kernel
theorem dL_law_589 : decode cL_law 589 = .ok (.if_icmp .eq 110, 3) := by decide +kernel
theorem dL_law_592 : decode cL_law 592 = .ok (.iconst 0, 1) := by decide +kernel
theorem dL_law_593 : decode cL_law 593 = .ok (.ireturn, 1) := by decide +kernel
theorem dL_law_594 : decode cL_law 594 = .ok (.aload_n 1, 1) := by decide +kernel
theorem dL_law_595 : decode cL_law 595 = .ok (.aload_n 0, 1) := by decide +kernel
theorem dL_law_596 : decode cL_law 596 = .ok (.iload_n 3, 1) := by decide +kernel
theorem dL_law_597 : decode cL_law 597 = .ok (.iconst 1, 1) := by decide +kernel
theorem dL_law_598 : decode cL_law 598 = .ok (.iadd, 1) := by decide +kernel
theorem dL_law_599 : decode cL_law 599 = .ok (.iaload, 1) := by decide +kernel
theorem dL_law_600 : decode cL_law 600 = .ok (.invokevirtual 89, 3) := by decide +kernel
theorem dL_law_603 : decode cL_law 603 = .ok (.aload_n 2, 1) := by decide +kernel
theorem dL_law_604 : decode cL_law 604 = .ok (.aload_n 0, 1) := by decide +kernel
theorem dL_law_605 : decode cL_law 605 = .ok (.iload_n 3, 1) := by decide +kernel
theorem dL_law_606 : decode cL_law 606 = .ok (.iconst 1, 1) := by decide +kernel
theorem dL_law_607 : decode cL_law 607 = .ok (.iadd, 1) := by decide +kernel
theorem dL_law_608 : decode cL_law 608 = .ok (.iaload, 1) := by decide +kernel
theorem dL_law_609 : decode cL_law 609 = .ok (.invokevirtual 92, 3) := by decide +kernel
theorem dL_law_612 : decode cL_law 612 = .ok (.if_icmp .eq 87, 3) := by decide +kernel
theorem dL_law_615 : decode cL_law 615 = .ok (.iconst 0, 1) := by decide +kernel
theorem dL_law_616 : decode cL_law 616 = .ok (.ireturn, 1) := by decide +kernel
theorem dL_law_617 : decode cL_law 617 = .ok (.aload_n 1, 1) := by decide +kernel
theorem dL_law_618 : decode cL_law 618 = .ok (.aload_n 0, 1) := by decide +kernel
theorem dL_law_619 : decode cL_law 619 = .ok (.iload_n 3, 1) := by decide +kernel
theorem dL_law_620 : decode cL_law 620 = .ok (.iconst 1, 1) := by decide +kernel
theorem dL_law_621 : decode cL_law 621 = .ok (.iadd, 1) := by decide +kernel
theorem dL_law_622 : decode cL_law 622 = .ok (.iaload, 1) := by decide +kernel
theorem dL_law_623 : decode cL_law 623 = .ok (.invokevirtual 93, 3) := by decide +kernel
theorem dL_law_626 : decode cL_law 626 = .ok (.aload_n 2, 1) := by decide +kernel
theorem dL_law_627 : decode cL_law 627 = .ok (.aload_n 0, 1) := by decide +kernel
theorem dL_law_628 : decode cL_law 628 = .ok (.iload_n 3, 1) := by decide +kernel
theorem dL_law_629 : decode cL_law 629 = .ok (.iconst 1, 1) := by decide +kernel
theorem dL_law_630 : decode cL_law 630 = .ok (.iadd, 1) := by decide +kernel
theorem dL_law_631 : decode cL_law 631 = .ok (.iaload, 1) := by decide +kernel
theorem dL_law_632 : decode cL_law 632 = .ok (.invokevirtual 96, 3) := by decide +kernel
theorem dL_law_635 : decode cL_law 635 = .ok (.if_icmp .eq 64, 3) := by decide +kernel
theorem dL_law_638 : decode cL_law 638 = .ok (.iconst 0, 1) := by decide +kernel
theorem dL_law_639 : decode cL_law 639 = .ok (.ireturn, 1) := by decide +kernel
theorem dL_law_640 : decode cL_law 640 = .ok (.aload_n 1, 1) := by decide +kernel
theorem dL_law_641 : decode cL_law 641 = .ok (.invokevirtual 97, 3) := by decide +kernel
theorem dL_law_644 : decode cL_law 644 = .ok (.aload_n 2, 1) := by decide +kernel
theorem dL_law_645 : decode cL_law 645 = .ok (.invokevirtual 100, 3) := by decide +kernel
theorem dL_law_648 : decode cL_law 648 = .ok (.if_icmp .eq 51, 3) := by decide +kernel
theorem dL_law_651 : decode cL_law 651 = .ok (.iconst 0, 1) := by decide +kernel
theorem dL_law_652 : decode cL_law 652 = .ok (.ireturn, 1) := by decide +kernel
theorem dL_law_653 : decode cL_law 653 = .ok (.aload_n 1, 1) := by decide +kernel
theorem dL_law_654 : decode cL_law 654 = .ok (.aload_n 0, 1) := by decide +kernel
theorem dL_law_655 : decode cL_law 655 = .ok (.iload_n 3, 1) := by decide +kernel
theorem dL_law_656 : decode cL_law 656 = .ok (.iconst 1, 1) := by decide +kernel
theorem dL_law_657 : decode cL_law 657 = .ok (.iadd, 1) := by decide +kernel
theorem dL_law_658 : decode cL_law 658 = .ok (.iaload, 1) := by decide +kernel
theorem dL_law_659 : decode cL_law 659 = .ok (.aload_n 0, 1) := by decide +kernel
theorem dL_law_660 : decode cL_law 660 = .ok (.iload_n 3, 1) := by decide +kernel
theorem dL_law_661 : decode cL_law 661 = .ok (.iconst 2, 1) := by decide +kernel
theorem dL_law_662 : decode cL_law 662 = .ok (.iadd, 1) := by decide +kernel
theorem dL_law_663 : decode cL_law 663 = .ok (.iaload, 1) := by decide +kernel
theorem dL_law_664 : decode cL_law 664 = .ok (.invokevirtual 101, 3) := by decide +kernel
theorem dL_law_667 : decode cL_law 667 = .ok (.aload_n 2, 1) := by decide +kernel
theorem dL_law_668 : decode cL_law 668 = .ok (.aload_n 0, 1) := by decide +kernel
theorem dL_law_669 : decode cL_law 669 = .ok (.iload_n 3, 1) := by decide +kernel
theorem dL_law_670 : decode cL_law 670 = .ok (.iconst 1, 1) := by decide +kernel
theorem dL_law_671 : decode cL_law 671 = .ok (.iadd, 1) := by decide +kernel
theorem dL_law_672 : decode cL_law 672 = .ok (.iaload, 1) := by decide +kernel
theorem dL_law_673 : decode cL_law 673 = .ok (.aload_n 0, 1) := by decide +kernel
theorem dL_law_674 : decode cL_law 674 = .ok (.iload_n 3, 1) := by decide +kernel
theorem dL_law_675 : decode cL_law 675 = .ok (.iconst 2, 1) := by decide +kernel
theorem dL_law_676 : decode cL_law 676 = .ok (.iadd, 1) := by decide +kernel
theorem dL_law_677 : decode cL_law 677 = .ok (.iaload, 1) := by decide +kernel
theorem dL_law_678 : decode cL_law 678 = .ok (.invokevirtual 104, 3) := by decide +kernel
theorem dL_law_681 : decode cL_law 681 = .ok (.if_icmp .eq 18, 3) := by decide +kernel
theorem dL_law_684 : decode cL_law 684 = .ok (.iconst 0, 1) := by decide +kernel
theorem dL_law_685 : decode cL_law 685 = .ok (.ireturn, 1) := by decide +kernel
theorem dL_law_686 : decode cL_law 686 = .ok (.aload_n 1, 1) := by decide +kernel
theorem dL_law_687 : decode cL_law 687 = .ok (.invokevirtual 105, 3) := by decide +kernel
theorem dL_law_690 : decode cL_law 690 = .ok (.aload_n 2, 1) := by decide +kernel
theorem dL_law_691 : decode cL_law 691 = .ok (.invokevirtual 108, 3) := by decide +kernel
theorem dL_law_694 : decode cL_law 694 = .ok (.if_icmp .eq 5, 3) := by decide +kernel
theorem dL_law_697 : decode cL_law 697 = .ok (.iconst 0, 1) := by decide +kernel
theorem dL_law_698 : decode cL_law 698 = .ok (.ireturn, 1) := by decide +kernel
theorem dL_law_699 : decode cL_law 699 = .ok (.iinc 3 4, 3) := by decide +kernel
theorem dL_law_702 : decode cL_law 702 = .ok (.goto (-684), 3) := by decide +kernel
theorem dL_law_705 : decode cL_law 705 = .ok (.iconst 1, 1) := by decide +kernel
theorem dL_law_706 : decode cL_law 706 = .ok (.ireturn, 1) := by decide +kernel
abbrev vwCl : List vw_C := [(RX0, TX0, 4), (RX1, TX1, 5), (RX2, TX2, 3), (RX3, TX3, 6), (RX4, TX4, 6), (RX5, TX5, 14)]
