set_option maxRecDepth 20000 in
theorem gX4_count_X1_seenByShutter : GoodIn wsX4_count (wsV RX4 122 RX1 yX1_seenByShutter wsX1_seenByShutter) := goodIn_app (goodIn_of _ (by decide +kernel)) ggX4_count_X1_seenByShutter
set_option maxRecDepth 20000 in
theorem ggX4_count_X1_wrong : GoodIn wsX4_count wsX1_wrong := goodIn_r _ [82, 83, 114, 115, 116, 117, 118] (by decide +kernel) (by decide +kernel)
set_option maxRecDepth 20000 in
theorem gX4_count_X1_wrong : GoodIn wsX4_count (wsV RX4 126 RX1 yX1_wrong wsX1_wrong) := goodIn_app (goodIn_of _ (by decide +kernel)) ggX4_count_X1_wrong
set_option maxRecDepth 20000 in
theorem ggX4_count_X1_sumOfWays : GoodIn wsX4_count wsX1_sumOfWays := goodIn_r _ [87, 13, 19, 20, 21, 22, 23, 24, 25, 26, 114, 115, 116, 117, 118] (by decide +kernel) (by decide +kernel)
set_option maxRecDepth 20000 in
theorem gX4_count_X1_sumOfWays : GoodIn wsX4_count (wsV RX4 130 RX1 yX1_sumOfWays wsX1_sumOfWays) := goodIn_app (goodIn_of _ (by decide +kernel)) ggX4_count_X1_sumOfWays
set_option maxRecDepth 20000 in
theorem ggX4_count_X1_arrival : GoodIn wsX4_count wsX1_arrival := goodIn_r _ [18, 13, 19, 14, 20, 21, 22, 23, 24, 25, 26, 114, 115, 116, 117, 118] (by decide +kernel) (by decide +kernel)
set_option maxRecDepth 20000 in
theorem gX4_count_X1_arrival : GoodIn wsX4_count (wsV RX4 133 RX1 yX1_arrival wsX1_arrival) := goodIn_app (goodIn_of _ (by decide +kernel)) ggX4_count_X1_arrival
set_option maxRecDepth 20000 in
theorem ggX4_count_X2_snapshots : GoodIn wsX4_count wsX2_snapshots := goodIn_r _ [93, 94, 111, 112, 113] (by decide +kernel) (by decide +kernel)
set_option maxRecDepth 20000 in
theorem gX4_count_X2_snapshots : GoodIn wsX4_count (wsV RX4 136 RX2 yX2_snapshots wsX2_snapshots) := goodIn_app (goodIn_of _ (by decide +kernel)) ggX4_count_X2_snapshots
set_option maxRecDepth 20000 in
theorem ggX4_count_X0_size : GoodIn wsX4_count wsX0_size := goodIn_r _ [99, 100, 119, 120, 121, 122] (by decide +kernel) (by decide +kernel)
set_option maxRecDepth 20000 in
theorem gX4_count_X0_size : GoodIn wsX4_count (wsV RX4 139 RX0 yX0_size wsX0_size) := goodIn_app (goodIn_of _ (by decide +kernel)) ggX4_count_X0_size
set_option maxRecDepth 20000 in
theorem ggX4_count_X4_settingCount : GoodIn wsX4_count wsX4_settingCount := goodIn_r _ [104, 1, 2, 3, 105, 106, 107, 108, 109, 110, 111, 112, 113, 114, 115, 116, 117, 118] (by decide +kernel) (by decide +kernel)
set_option maxRecDepth 20000 in
theorem gX4_count_X4_settingCount : GoodIn wsX4_count (wsV RX4 141 RX4 yX4_settingCount wsX4_settingCount) := goodIn_app (goodIn_of _ (by decide +kernel)) ggX4_count_X4_settingCount
theorem dX4_count_0 : decode cX4_count 0 = .ok (.aload_n 0, 1) := by decide +kernel
theorem dX4_count_1 : decode cX4_count 1 = .ok (.getfield 10, 3) := by decide +kernel
theorem dX4_count_4 : decode cX4_count 4 = .ok (.getfield 41, 3) := by decide +kernel
theorem dX4_count_7 : decode cX4_count 7 = .ok (.astore_n 2, 1) := by decide +kernel
theorem dX4_count_8 : decode cX4_count 8 = .ok (.aload_n 2, 1) := by decide +kernel
theorem dX4_count_9 : decode cX4_count 9 = .ok (.getfield 99, 3) := by decide +kernel
theorem dX4_count_12 : decode cX4_count 12 = .ok (.iconst 4, 1) := by decide +kernel
theorem dX4_count_13 : decode cX4_count 13 = .ok (.iaload, 1) := by decide +kernel
theorem dX4_count_14 : decode cX4_count 14 = .ok (.istore_n 3, 1) := by decide +kernel
theorem dX4_count_15 : decode cX4_count 15 = .ok (.iload_n 1, 1) := by decide +kernel
theorem dX4_count_16 : decode cX4_count 16 = .ok (.tableswitch 191 0 12 #[68, 73, 78, 88, 98, 106, 115, 128, 142, 147, 170, 178, 183], 68) := by decide +kernel
theorem dX4_count_84 : decode cX4_count 84 = .ok (.aload_n 2, 1) := by decide +kernel
theorem dX4_count_85 : decode cX4_count 85 = .ok (.getfield 102, 3) := by decide +kernel
theorem dX4_count_88 : decode cX4_count 88 = .ok (.ireturn, 1) := by decide +kernel
theorem dX4_count_89 : decode cX4_count 89 = .ok (.aload_n 2, 1) := by decide +kernel
theorem dX4_count_90 : decode cX4_count 90 = .ok (.invokevirtual 105, 3) := by decide +kernel
theorem dX4_count_93 : decode cX4_count 93 = .ok (.ireturn, 1) := by decide +kernel
theorem dX4_count_94 : decode cX4_count 94 = .ok (.aload_n 2, 1) := by decide +kernel
theorem dX4_count_95 : decode cX4_count 95 = .ok (.getfield 108, 3) := by decide +kernel
theorem dX4_count_98 : decode cX4_count 98 = .ok (.iconst 0, 1) := by decide +kernel
theorem dX4_count_99 : decode cX4_count 99 = .ok (.laload, 1) := by decide +kernel
theorem dX4_count_100 : decode cX4_count 100 = .ok (.invokestatic 112, 3) := by decide +kernel
theorem dX4_count_103 : decode cX4_count 103 = .ok (.ireturn, 1) := by decide +kernel
theorem dX4_count_104 : decode cX4_count 104 = .ok (.aload_n 2, 1) := by decide +kernel
theorem dX4_count_105 : decode cX4_count 105 = .ok (.getfield 108, 3) := by decide +kernel
theorem dX4_count_108 : decode cX4_count 108 = .ok (.iconst 1, 1) := by decide +kernel
theorem dX4_count_109 : decode cX4_count 109 = .ok (.laload, 1) := by decide +kernel
theorem dX4_count_110 : decode cX4_count 110 = .ok (.invokestatic 112, 3) := by decide +kernel
theorem dX4_count_113 : decode cX4_count 113 = .ok (.ireturn, 1) := by decide +kernel
theorem dX4_count_114 : decode cX4_count 114 = .ok (.aload_n 2, 1) := by decide +kernel
theorem dX4_count_115 : decode cX4_count 115 = .ok (.invokevirtual 118, 3) := by decide +kernel
theorem dX4_count_118 : decode cX4_count 118 = .ok (.invokestatic 112, 3) := by decide +kernel
theorem dX4_count_121 : decode cX4_count 121 = .ok (.ireturn, 1) := by decide +kernel
theorem dX4_count_122 : decode cX4_count 122 = .ok (.aload_n 2, 1) := by decide +kernel
theorem dX4_count_123 : decode cX4_count 123 = .ok (.iload_n 3, 1) := by decide +kernel
theorem dX4_count_124 : decode cX4_count 124 = .ok (.invokevirtual 122, 3) := by decide +kernel
theorem dX4_count_127 : decode cX4_count 127 = .ok (.invokestatic 112, 3) := by decide +kernel
theorem dX4_count_130 : decode cX4_count 130 = .ok (.ireturn, 1) := by decide +kernel
theorem dX4_count_131 : decode cX4_count 131 = .ok (.aload_n 2, 1) := by decide +kernel
theorem dX4_count_132 : decode cX4_count 132 = .ok (.iconst 0, 1) := by decide +kernel
theorem dX4_count_133 : decode cX4_count 133 = .ok (.aload_n 2, 1) := by decide +kernel
theorem dX4_count_134 : decode cX4_count 134 = .ok (.invokevirtual 118, 3) := by decide +kernel
theorem dX4_count_137 : decode cX4_count 137 = .ok (.invokevirtual 126, 3) := by decide +kernel
theorem dX4_count_140 : decode cX4_count 140 = .ok (.invokestatic 112, 3) := by decide +kernel
theorem dX4_count_143 : decode cX4_count 143 = .ok (.ireturn, 1) := by decide +kernel
theorem dX4_count_144 : decode cX4_count 144 = .ok (.aload_n 2, 1) := by decide +kernel
theorem dX4_count_145 : decode cX4_count 145 = .ok (.iconst 1, 1) := by decide +kernel
theorem dX4_count_146 : decode cX4_count 146 = .ok (.aload_n 2, 1) := by decide +kernel
theorem dX4_count_147 : decode cX4_count 147 = .ok (.iload_n 3, 1) := by decide +kernel
theorem dX4_count_148 : decode cX4_count 148 = .ok (.invokevirtual 122, 3) := by decide +kernel
theorem dX4_count_151 : decode cX4_count 151 = .ok (.invokevirtual 126, 3) := by decide +kernel
theorem dX4_count_154 : decode cX4_count 154 = .ok (.invokestatic 112, 3) := by decide +kernel
theorem dX4_count_157 : decode cX4_count 157 = .ok (.ireturn, 1) := by decide +kernel
theorem dX4_count_158 : decode cX4_count 158 = .ok (.aload_n 2, 1) := by decide +kernel
theorem dX4_count_159 : decode cX4_count 159 = .ok (.invokevirtual 130, 3) := by decide +kernel
theorem dX4_count_162 : decode cX4_count 162 = .ok (.ireturn, 1) := by decide +kernel
theorem dX4_count_163 : decode cX4_count 163 = .ok (.aload_n 2, 1) := by decide +kernel
theorem dX4_count_164 : decode cX4_count 164 = .ok (.invokevirtual 105, 3) := by decide +kernel
theorem dX4_count_167 : decode cX4_count 167 = .ok (.ifCond .le 16, 3) := by decide +kernel
theorem dX4_count_170 : decode cX4_count 170 = .ok (.aload_n 2, 1) := by decide +kernel
theorem dX4_count_171 : decode cX4_count 171 = .ok (.aload_n 2, 1) := by decide +kernel
theorem dX4_count_172 : decode cX4_count 172 = .ok (.invokevirtual 105, 3) := by decide +kernel
theorem dX4_count_175 : decode cX4_count 175 = .ok (.iconst 1, 1) := by decide +kernel
theorem dX4_count_176 : decode cX4_count 176 = .ok (.isub, 1) := by decide +kernel
theorem dX4_count_177 : decode cX4_count 177 = .ok (.invokevirtual 133, 3) := by decide +kernel
theorem dX4_count_180 : decode cX4_count 180 = .ok (.goto 5, 3) := by decide +kernel
theorem dX4_count_183 : decode cX4_count 183 = .ok (.bipush (-9), 2) := by decide +kernel
theorem dX4_count_185 : decode cX4_count 185 = .ok (.ireturn, 1) := by decide +kernel
theorem dX4_count_186 : decode cX4_count 186 = .ok (.aload_n 0, 1) := by decide +kernel
theorem dX4_count_187 : decode cX4_count 187 = .ok (.getfield 10, 3) := by decide +kernel
theorem dX4_count_190 : decode cX4_count 190 = .ok (.invokevirtual 136, 3) := by decide +kernel
theorem dX4_count_193 : decode cX4_count 193 = .ok (.ireturn, 1) := by decide +kernel
theorem dX4_count_194 : decode cX4_count 194 = .ok (.aload_n 0, 1) := by decide +kernel
theorem dX4_count_195 : decode cX4_count 195 = .ok (.getfield 80, 3) := by decide +kernel
theorem dX4_count_198 : decode cX4_count 198 = .ok (.ireturn, 1) := by decide +kernel
theorem dX4_count_199 : decode cX4_count 199 = .ok (.aload_n 0, 1) := by decide +kernel
theorem dX4_count_200 : decode cX4_count 200 = .ok (.getfield 23, 3) := by decide +kernel
theorem dX4_count_203 : decode cX4_count 203 = .ok (.invokevirtual 139, 3) := by decide +kernel
theorem dX4_count_206 : decode cX4_count 206 = .ok (.ireturn, 1) := by decide +kernel
theorem dX4_count_207 : decode cX4_count 207 = .ok (.aload_n 0, 1) := by decide +kernel
theorem dX4_count_208 : decode cX4_count 208 = .ok (.iload_n 1, 1) := by decide +kernel
theorem dX4_count_209 : decode cX4_count 209 = .ok (.invokevirtual 141, 3) := by decide +kernel
theorem dX4_count_212 : decode cX4_count 212 = .ok (.ireturn, 1) := by decide +kernel
set_option maxRecDepth 20000 in
theorem ggX4_spot_X4_isSpot : GoodIn wsX4_spot wsX4_isSpot := goodIn_r _ [9] (by decide +kernel) (by decide +kernel)
set_option maxRecDepth 20000 in
theorem gX4_spot_X4_isSpot : GoodIn wsX4_spot (va_wsS RX4 144 yX4_isSpot wsX4_isSpot) := goodIn_app (goodIn_of _ (by decide +kernel)) ggX4_spot_X4_isSpot
set_option maxRecDepth 20000 in
theorem ggX4_spot_X4_bit : GoodIn wsX4_spot wsX4_bit := goodIn_r _ [12] (by decide +kernel) (by decide +kernel)
set_option maxRecDepth 20000 in
theorem gX4_spot_X4_bit : GoodIn wsX4_spot (va_wsS RX4 151 yX4_bit wsX4_bit) := goodIn_app (goodIn_of _ (by decide +kernel)) ggX4_spot_X4_bit
set_option maxRecDepth 20000 in
theorem ggX4_spot_X1_positionOf : GoodIn wsX4_spot wsX1_positionOf := goodIn_r _ [17, 18, 19, 99, 100, 101, 102, 103] (by decide +kernel) (by decide +kernel)
set_option maxRecDepth 20000 in
theorem gX4_spot_X1_positionOf : GoodIn wsX4_spot (wsV RX4 155 RX1 yX1_positionOf wsX1_positionOf) := goodIn_app (goodIn_of _ (by decide +kernel)) ggX4_spot_X1_positionOf
set_option maxRecDepth 20000 in
theorem ggX4_spot_X1_litTick : GoodIn wsX4_spot wsX1_litTick := goodIn_r _ [23, 24, 25, 14, 15, 16, 17, 18, 19, 26, 27, 28, 29, 30, 8, 31, 32, 33, 34, 35, 99, 100, 101, 102, 103] (by decide +kernel) (by decide +kernel)
set_option maxRecDepth 20000 in
theorem gX4_spot_X1_litTick : GoodIn wsX4_spot (wsV RX4 158 RX1 yX1_litTick wsX1_litTick) := goodIn_app (goodIn_of _ (by decide +kernel)) ggX4_spot_X1_litTick
set_option maxRecDepth 20000 in
theorem ggX4_spot_X1_seenByEye : GoodIn wsX4_spot wsX1_seenByEye := goodIn_r _ [39, 24, 40, 41, 42, 16, 43, 18, 19, 44, 45, 46, 47, 48, 21, 22, 23, 25, 14, 15, 17, 26, 27, 28, 29, 30, 8, 31, 32, 33, 34, 35, 49, 50, 51, 52, 53, 54, 55, 56, 57, 58, 59, 60, 61, 62, 63, 64, 65, 99, 100, 101, 102, 103] (by decide +kernel) (by decide +kernel)
set_option maxRecDepth 20000 in
theorem gX4_spot_X1_seenByEye : GoodIn wsX4_spot (wsV RX4 118 RX1 yX1_seenByEye wsX1_seenByEye) := goodIn_app (goodIn_of _ (by decide +kernel)) ggX4_spot_X1_seenByEye
set_option maxRecDepth 20000 in
theorem ggX4_spot_X1_seenByShutter : GoodIn wsX4_spot wsX1_seenByShutter := goodIn_r _ [69, 24, 70, 71, 72, 16, 73, 40, 41, 42, 43, 18, 19, 44, 45, 46, 47, 48, 21, 22, 23, 25, 14, 15, 17, 26, 27, 28, 29, 30, 8, 31, 32, 33, 34, 35, 49, 50, 51, 52, 53, 54, 55, 56, 57, 58, 59, 60, 61, 62, 63, 64, 65, 99, 100, 101, 102, 103] (by decide +kernel) (by decide +kernel)
set_option maxRecDepth 20000 in
theorem gX4_spot_X1_seenByShutter : GoodIn wsX4_spot (wsV RX4 122 RX1 yX1_seenByShutter wsX1_seenByShutter) := goodIn_app (goodIn_of _ (by decide +kernel)) ggX4_spot_X1_seenByShutter
set_option maxRecDepth 20000 in
theorem ggX4_spot_X1_eyeMean : GoodIn wsX4_spot wsX1_eyeMean := goodIn_r _ [77, 24, 44, 45, 46, 16, 47, 48, 21, 22, 23, 25, 14, 15, 17, 18, 19, 26, 27, 28, 29, 30, 8, 31, 32, 33, 34, 35, 49, 50, 51, 52, 53, 54, 55, 56, 57, 58, 59, 60, 61, 62, 63, 64, 65, 99, 100, 101, 102, 103] (by decide +kernel) (by decide +kernel)
set_option maxRecDepth 20000 in
theorem gX4_spot_X1_eyeMean : GoodIn wsX4_spot (wsV RX4 161 RX1 yX1_eyeMean wsX1_eyeMean) := goodIn_app (goodIn_of _ (by decide +kernel)) ggX4_spot_X1_eyeMean
set_option maxRecDepth 20000 in
theorem ggX4_spot_X1_shutterMean : GoodIn wsX4_spot wsX1_shutterMean := goodIn_r _ [81, 70, 71, 72, 16, 73, 24, 44, 45, 46, 47, 48, 21, 22, 23, 25, 14, 15, 17, 18, 19, 26, 27, 28, 29, 30, 8, 31, 32, 33, 34, 35, 49, 50, 51, 52, 53, 54, 55, 56, 57, 58, 59, 60, 61, 62, 63, 64, 65, 99, 100, 101, 102, 103] (by decide +kernel) (by decide +kernel)
set_option maxRecDepth 20000 in
theorem gX4_spot_X1_shutterMean : GoodIn wsX4_spot (wsV RX4 164 RX1 yX1_shutterMean wsX1_shutterMean) := goodIn_app (goodIn_of _ (by decide +kernel)) ggX4_spot_X1_shutterMean
set_option maxRecDepth 20000 in
theorem ggX4_spot_X1_flicker : GoodIn wsX4_spot wsX1_flicker := goodIn_r _ [85, 24, 86, 57, 34, 58, 87, 88, 89, 48, 21, 22, 16, 23, 25, 14, 15, 17, 18, 19, 26, 27, 28, 29, 30, 8, 31, 32, 33, 35, 49, 50, 51, 52, 53, 54, 55, 56, 99, 100, 101, 102, 103] (by decide +kernel) (by decide +kernel)
set_option maxRecDepth 20000 in
theorem gX4_spot_X1_flicker : GoodIn wsX4_spot (wsV RX4 167 RX1 yX1_flicker wsX1_flicker) := goodIn_app (goodIn_of _ (by decide +kernel)) ggX4_spot_X1_flicker
theorem dX4_spot_0 : decode cX4_spot 0 = .ok (.iload_n 1, 1) := by decide +kernel
theorem dX4_spot_1 : decode cX4_spot 1 = .ok (.invokestatic 144, 3) := by decide +kernel
theorem dX4_spot_4 : decode cX4_spot 4 = .ok (.ifCond .ne 5, 3) := by decide +kernel
theorem dX4_spot_7 : decode cX4_spot 7 = .ok (.iconst (-1), 1) := by decide +kernel
theorem dX4_spot_8 : decode cX4_spot 8 = .ok (.ireturn, 1) := by decide +kernel
theorem dX4_spot_9 : decode cX4_spot 9 = .ok (.aload_n 0, 1) := by decide +kernel
theorem dX4_spot_10 : decode cX4_spot 10 = .ok (.getfield 10, 3) := by decide +kernel
theorem dX4_spot_13 : decode cX4_spot 13 = .ok (.getfield 41, 3) := by decide +kernel
theorem dX4_spot_16 : decode cX4_spot 16 = .ok (.astore_n 3, 1) := by decide +kernel
theorem dX4_spot_17 : decode cX4_spot 17 = .ok (.iload_n 2, 1) := by decide +kernel
theorem dX4_spot_18 : decode cX4_spot 18 = .ok (.tableswitch 143 0 9 #[54, 61, 72, 83, 89, 95, 104, 119, 125, 137], 54) := by decide +kernel
theorem dX4_spot_72 : decode cX4_spot 72 = .ok (.aload_n 3, 1) := by decide +kernel
theorem dX4_spot_73 : decode cX4_spot 73 = .ok (.getfield 148, 3) := by decide +kernel
theorem dX4_spot_76 : decode cX4_spot 76 = .ok (.iload_n 1, 1) := by decide +kernel
theorem dX4_spot_77 : decode cX4_spot 77 = .ok (.iaload, 1) := by decide +kernel
theorem dX4_spot_78 : decode cX4_spot 78 = .ok (.ireturn, 1) := by decide +kernel
theorem dX4_spot_79 : decode cX4_spot 79 = .ok (.aload_n 3, 1) := by decide +kernel
theorem dX4_spot_80 : decode cX4_spot 80 = .ok (.getfield 108, 3) := by decide +kernel
theorem dX4_spot_83 : decode cX4_spot 83 = .ok (.iconst 0, 1) := by decide +kernel
theorem dX4_spot_84 : decode cX4_spot 84 = .ok (.laload, 1) := by decide +kernel
theorem dX4_spot_85 : decode cX4_spot 85 = .ok (.iload_n 1, 1) := by decide +kernel
theorem dX4_spot_86 : decode cX4_spot 86 = .ok (.invokestatic 151, 3) := by decide +kernel
theorem dX4_spot_89 : decode cX4_spot 89 = .ok (.ireturn, 1) := by decide +kernel
theorem dX4_spot_90 : decode cX4_spot 90 = .ok (.aload_n 3, 1) := by decide +kernel
theorem dX4_spot_91 : decode cX4_spot 91 = .ok (.getfield 108, 3) := by decide +kernel
theorem dX4_spot_94 : decode cX4_spot 94 = .ok (.iconst 1, 1) := by decide +kernel
theorem dX4_spot_95 : decode cX4_spot 95 = .ok (.laload, 1) := by decide +kernel
theorem dX4_spot_96 : decode cX4_spot 96 = .ok (.iload_n 1, 1) := by decide +kernel
theorem dX4_spot_97 : decode cX4_spot 97 = .ok (.invokestatic 151, 3) := by decide +kernel
theorem dX4_spot_100 : decode cX4_spot 100 = .ok (.ireturn, 1) := by decide +kernel
theorem dX4_spot_101 : decode cX4_spot 101 = .ok (.aload_n 3, 1) := by decide +kernel
theorem dX4_spot_102 : decode cX4_spot 102 = .ok (.iload_n 1, 1) := by decide +kernel
theorem dX4_spot_103 : decode cX4_spot 103 = .ok (.invokevirtual 155, 3) := by decide +kernel
theorem dX4_spot_106 : decode cX4_spot 106 = .ok (.ireturn, 1) := by decide +kernel
theorem dX4_spot_107 : decode cX4_spot 107 = .ok (.aload_n 3, 1) := by decide +kernel
theorem dX4_spot_108 : decode cX4_spot 108 = .ok (.iload_n 1, 1) := by decide +kernel
theorem dX4_spot_109 : decode cX4_spot 109 = .ok (.invokevirtual 158, 3) := by decide +kernel
theorem dX4_spot_112 : decode cX4_spot 112 = .ok (.ireturn, 1) := by decide +kernel
theorem dX4_spot_113 : decode cX4_spot 113 = .ok (.aload_n 3, 1) := by decide +kernel
theorem dX4_spot_114 : decode cX4_spot 114 = .ok (.invokevirtual 118, 3) := by decide +kernel
theorem dX4_spot_117 : decode cX4_spot 117 = .ok (.iload_n 1, 1) := by decide +kernel
theorem dX4_spot_118 : decode cX4_spot 118 = .ok (.invokestatic 151, 3) := by decide +kernel
theorem dX4_spot_121 : decode cX4_spot 121 = .ok (.ireturn, 1) := by decide +kernel
theorem dX4_spot_122 : decode cX4_spot 122 = .ok (.aload_n 3, 1) := by decide +kernel
theorem dX4_spot_123 : decode cX4_spot 123 = .ok (.aload_n 3, 1) := by decide +kernel
theorem dX4_spot_124 : decode cX4_spot 124 = .ok (.getfield 99, 3) := by decide +kernel
theorem dX4_spot_127 : decode cX4_spot 127 = .ok (.iconst 4, 1) := by decide +kernel
theorem dX4_spot_128 : decode cX4_spot 128 = .ok (.iaload, 1) := by decide +kernel
theorem dX4_spot_129 : decode cX4_spot 129 = .ok (.invokevirtual 122, 3) := by decide +kernel
theorem dX4_spot_132 : decode cX4_spot 132 = .ok (.iload_n 1, 1) := by decide +kernel
theorem dX4_spot_133 : decode cX4_spot 133 = .ok (.invokestatic 151, 3) := by decide +kernel
theorem dX4_spot_136 : decode cX4_spot 136 = .ok (.ireturn, 1) := by decide +kernel
theorem dX4_spot_137 : decode cX4_spot 137 = .ok (.aload_n 3, 1) := by decide +kernel
theorem dX4_spot_138 : decode cX4_spot 138 = .ok (.iload_n 1, 1) := by decide +kernel
theorem dX4_spot_139 : decode cX4_spot 139 = .ok (.invokevirtual 161, 3) := by decide +kernel
theorem dX4_spot_142 : decode cX4_spot 142 = .ok (.ireturn, 1) := by decide +kernel
theorem dX4_spot_143 : decode cX4_spot 143 = .ok (.aload_n 3, 1) := by decide +kernel
theorem dX4_spot_144 : decode cX4_spot 144 = .ok (.iload_n 1, 1) := by decide +kernel
theorem dX4_spot_145 : decode cX4_spot 145 = .ok (.aload_n 3, 1) := by decide +kernel
theorem dX4_spot_146 : decode cX4_spot 146 = .ok (.getfield 99, 3) := by decide +kernel
theorem dX4_spot_149 : decode cX4_spot 149 = .ok (.iconst 4, 1) := by decide +kernel
theorem dX4_spot_150 : decode cX4_spot 150 = .ok (.iaload, 1) := by decide +kernel
theorem dX4_spot_151 : decode cX4_spot 151 = .ok (.invokevirtual 164, 3) := by decide +kernel
theorem dX4_spot_154 : decode cX4_spot 154 = .ok (.ireturn, 1) := by decide +kernel
theorem dX4_spot_155 : decode cX4_spot 155 = .ok (.aload_n 3, 1) := by decide +kernel
theorem dX4_spot_156 : decode cX4_spot 156 = .ok (.iload_n 1, 1) := by decide +kernel
theorem dX4_spot_157 : decode cX4_spot 157 = .ok (.invokevirtual 167, 3) := by decide +kernel
theorem dX4_spot_160 : decode cX4_spot 160 = .ok (.ireturn, 1) := by decide +kernel
theorem dX4_spot_161 : decode cX4_spot 161 = .ok (.iconst (-1), 1) := by decide +kernel
theorem dX4_spot_162 : decode cX4_spot 162 = .ok (.ireturn, 1) := by decide +kernel
theorem dX4_at_0 : decode cX4_at 0 = .ok (.iload_n 1, 1) := by decide +kernel
theorem dX4_at_1 : decode cX4_at 1 = .ok (.ifCond .ge 5, 3) := by decide +kernel
theorem dX4_at_4 : decode cX4_at 4 = .ok (.iconst (-1), 1) := by decide +kernel
theorem dX4_at_5 : decode cX4_at 5 = .ok (.ireturn, 1) := by decide +kernel
theorem dX4_at_6 : decode cX4_at 6 = .ok (.iload_n 1, 1) := by decide +kernel
theorem dX4_at_7 : decode cX4_at 7 = .ok (.aload_n 0, 1) := by decide +kernel
theorem dX4_at_8 : decode cX4_at 8 = .ok (.getfield 10, 3) := by decide +kernel
theorem dX4_at_11 : decode cX4_at 11 = .ok (.getfield 41, 3) := by decide +kernel
theorem dX4_at_14 : decode cX4_at 14 = .ok (.getfield 102, 3) := by decide +kernel
theorem dX4_at_17 : decode cX4_at 17 = .ok (.if_icmp .ge 18, 3) := by decide +kernel
theorem dX4_at_20 : decode cX4_at 20 = .ok (.aload_n 0, 1) := by decide +kernel
theorem dX4_at_21 : decode cX4_at 21 = .ok (.getfield 10, 3) := by decide +kernel
theorem dX4_at_24 : decode cX4_at 24 = .ok (.getfield 41, 3) := by decide +kernel
theorem dX4_at_27 : decode cX4_at 27 = .ok (.getfield 170, 3) := by decide +kernel
theorem dX4_at_30 : decode cX4_at 30 = .ok (.iload_n 1, 1) := by decide +kernel
theorem dX4_at_31 : decode cX4_at 31 = .ok (.iaload, 1) := by decide +kernel
theorem dX4_at_32 : decode cX4_at 32 = .ok (.goto 5, 3) := by decide +kernel
theorem dX4_at_35 : decode cX4_at 35 = .ok (.bipush (-9), 2) := by decide +kernel
theorem dX4_at_37 : decode cX4_at 37 = .ok (.ireturn, 1) := by decide +kernel
set_option maxRecDepth 20000 in
theorem ggX4_brightness_X4_isSpot : GoodIn wsX4_brightness wsX4_isSpot := goodIn_r _ [7] (by decide +kernel) (by decide +kernel)
set_option maxRecDepth 20000 in
theorem gX4_brightness_X4_isSpot : GoodIn wsX4_brightness (va_wsS RX4 144 yX4_isSpot wsX4_isSpot) := goodIn_app (goodIn_of _ (by decide +kernel)) ggX4_brightness_X4_isSpot
set_option maxRecDepth 20000 in
theorem ggX4_brightness_X1_litTick : GoodIn wsX4_brightness wsX1_litTick := goodIn_r _ [12, 13, 14, 15, 16, 11, 17, 18, 19, 20, 21, 22, 23, 24, 6, 25, 26, 27, 28, 29, 49, 50, 51, 52, 53] (by decide +kernel) (by decide +kernel)
set_option maxRecDepth 20000 in
theorem gX4_brightness_X1_litTick : GoodIn wsX4_brightness (wsV RX4 158 RX1 yX1_litTick wsX1_litTick) := goodIn_app (goodIn_of _ (by decide +kernel)) ggX4_brightness_X1_litTick
set_option maxRecDepth 20000 in
theorem ggX4_brightness_X1_shine : GoodIn wsX4_brightness wsX1_shine := goodIn_r _ [33, 34, 13, 35, 6, 36, 37, 38, 28, 39, 49, 50, 51, 52, 53] (by decide +kernel) (by decide +kernel)
set_option maxRecDepth 20000 in
theorem gX4_brightness_X1_shine : GoodIn wsX4_brightness (wsV RX4 173 RX1 yX1_shine wsX1_shine) := goodIn_app (goodIn_of _ (by decide +kernel)) ggX4_brightness_X1_shine
theorem dX4_brightness_0 : decode cX4_brightness 0 = .ok (.aload_n 0, 1) := by decide +kernel
theorem dX4_brightness_1 : decode cX4_brightness 1 = .ok (.getfield 10, 3) := by decide +kernel
theorem dX4_brightness_4 : decode cX4_brightness 4 = .ok (.getfield 41, 3) := by decide +kernel
theorem dX4_brightness_7 : decode cX4_brightness 7 = .ok (.astore_n 3, 1) := by decide +kernel
theorem dX4_brightness_8 : decode cX4_brightness 8 = .ok (.iload_n 1, 1) := by decide +kernel
theorem dX4_brightness_9 : decode cX4_brightness 9 = .ok (.invokestatic 144, 3) := by decide +kernel
theorem dX4_brightness_12 : decode cX4_brightness 12 = .ok (.ifCond .eq 17, 3) := by decide +kernel
theorem dX4_brightness_15 : decode cX4_brightness 15 = .ok (.iload_n 2, 1) := by decide +kernel
theorem dX4_brightness_16 : decode cX4_brightness 16 = .ok (.ifCond .lt 13, 3) := by decide +kernel
theorem dX4_brightness_19 : decode cX4_brightness 19 = .ok (.iload_n 2, 1) := by decide +kernel
theorem dX4_brightness_20 : decode cX4_brightness 20 = .ok (.aload_n 3, 1) := by decide +kernel
theorem dX4_brightness_21 : decode cX4_brightness 21 = .ok (.getfield 99, 3) := by decide +kernel
theorem dX4_brightness_24 : decode cX4_brightness 24 = .ok (.iconst 0, 1) := by decide +kernel
theorem dX4_brightness_25 : decode cX4_brightness 25 = .ok (.iaload, 1) := by decide +kernel
theorem dX4_brightness_26 : decode cX4_brightness 26 = .ok (.if_icmp .lt 5, 3) := by decide +kernel
theorem dX4_brightness_29 : decode cX4_brightness 29 = .ok (.iconst (-1), 1) := by decide +kernel
theorem dX4_brightness_30 : decode cX4_brightness 30 = .ok (.ireturn, 1) := by decide +kernel
theorem dX4_brightness_31 : decode cX4_brightness 31 = .ok (.aload_n 3, 1) := by decide +kernel
theorem dX4_brightness_32 : decode cX4_brightness 32 = .ok (.iload_n 1, 1) := by decide +kernel
theorem dX4_brightness_33 : decode cX4_brightness 33 = .ok (.aload_n 3, 1) := by decide +kernel
theorem dX4_brightness_34 : decode cX4_brightness 34 = .ok (.iload_n 1, 1) := by decide +kernel
theorem dX4_brightness_35 : decode cX4_brightness 35 = .ok (.invokevirtual 158, 3) := by decide +kernel
theorem dX4_brightness_38 : decode cX4_brightness 38 = .ok (.iload_n 2, 1) := by decide +kernel
theorem dX4_brightness_39 : decode cX4_brightness 39 = .ok (.invokevirtual 173, 3) := by decide +kernel
theorem dX4_brightness_42 : decode cX4_brightness 42 = .ok (.ireturn, 1) := by decide +kernel
set_option maxRecDepth 20000 in
theorem ggX4_firstWrong_X1_seenByEye : GoodIn wsX4_firstWrong wsX1_seenByEye := goodIn_r _ [8, 9, 10, 11, 12, 7, 13, 14, 15, 16, 17, 18, 19, 20, 21, 22, 23, 24, 25, 26, 27, 28, 29, 30, 31, 32, 33, 34, 35, 36, 37, 38, 39, 40, 41, 42, 43, 44, 45, 46, 47, 48, 49, 50, 51, 52, 53, 54, 55, 84, 85, 86, 87, 88] (by decide +kernel) (by decide +kernel)
set_option maxRecDepth 20000 in
theorem gX4_firstWrong_X1_seenByEye : GoodIn wsX4_firstWrong (wsV RX4 118 RX1 yX1_seenByEye wsX1_seenByEye) := goodIn_app (goodIn_of _ (by decide +kernel)) ggX4_firstWrong_X1_seenByEye
set_option maxRecDepth 20000 in
theorem ggX4_firstWrong_X1_wrong : GoodIn wsX4_firstWrong wsX1_wrong := goodIn_r _ [59, 60, 84, 85, 86, 87, 88] (by decide +kernel) (by decide +kernel)
set_option maxRecDepth 20000 in
theorem gX4_firstWrong_X1_wrong : GoodIn wsX4_firstWrong (wsV RX4 126 RX1 yX1_wrong wsX1_wrong) := goodIn_app (goodIn_of _ (by decide +kernel)) ggX4_firstWrong_X1_wrong
set_option maxRecDepth 20000 in
theorem ggX4_firstWrong_X4_firstOf : GoodIn wsX4_firstWrong wsX4_firstOf := goodIn_r _ [63, 64, 65, 33, 66] (by decide +kernel) (by decide +kernel)
set_option maxRecDepth 20000 in
theorem gX4_firstWrong_X4_firstOf : GoodIn wsX4_firstWrong (va_wsS RX4 176 yX4_firstOf wsX4_firstOf) := goodIn_app (goodIn_of _ (by decide +kernel)) ggX4_firstWrong_X4_firstOf
set_option maxRecDepth 20000 in
theorem ggX4_firstWrong_X1_seenByShutter : GoodIn wsX4_firstWrong wsX1_seenByShutter := goodIn_r _ [70, 9, 71, 72, 73, 7, 74, 10, 11, 12, 13, 14, 15, 16, 17, 18, 19, 20, 21, 22, 23, 24, 25, 26, 27, 28, 29, 30, 31, 32, 33, 34, 35, 36, 37, 38, 39, 40, 41, 42, 43, 44, 45, 46, 47, 48, 49, 50, 51, 52, 53, 54, 55, 84, 85, 86, 87, 88] (by decide +kernel) (by decide +kernel)
set_option maxRecDepth 20000 in
theorem gX4_firstWrong_X1_seenByShutter : GoodIn wsX4_firstWrong (wsV RX4 122 RX1 yX1_seenByShutter wsX1_seenByShutter) := goodIn_app (goodIn_of _ (by decide +kernel)) ggX4_firstWrong_X1_seenByShutter
theorem dX4_firstWrong_0 : decode cX4_firstWrong 0 = .ok (.aload_n 0, 1) := by decide +kernel
theorem dX4_firstWrong_1 : decode cX4_firstWrong 1 = .ok (.getfield 10, 3) := by decide +kernel
theorem dX4_firstWrong_4 : decode cX4_firstWrong 4 = .ok (.getfield 41, 3) := by decide +kernel
theorem dX4_firstWrong_7 : decode cX4_firstWrong 7 = .ok (.astore_n 2, 1) := by decide +kernel
theorem dX4_firstWrong_8 : decode cX4_firstWrong 8 = .ok (.iload_n 1, 1) := by decide +kernel
theorem dX4_firstWrong_9 : decode cX4_firstWrong 9 = .ok (.lookupswitch 59 #[(0, 27), (1, 40)], 27) := by decide +kernel
theorem dX4_firstWrong_36 : decode cX4_firstWrong 36 = .ok (.aload_n 2, 1) := by decide +kernel
theorem dX4_firstWrong_37 : decode cX4_firstWrong 37 = .ok (.iconst 0, 1) := by decide +kernel
theorem dX4_firstWrong_38 : decode cX4_firstWrong 38 = .ok (.aload_n 2, 1) := by decide +kernel
theorem dX4_firstWrong_39 : decode cX4_firstWrong 39 = .ok (.invokevirtual 118, 3) := by decide +kernel
theorem dX4_firstWrong_42 : decode cX4_firstWrong 42 = .ok (.invokevirtual 126, 3) := by decide +kernel
theorem dX4_firstWrong_45 : decode cX4_firstWrong 45 = .ok (.invokestatic 176, 3) := by decide +kernel
theorem dX4_firstWrong_48 : decode cX4_firstWrong 48 = .ok (.ireturn, 1) := by decide +kernel
theorem dX4_firstWrong_49 : decode cX4_firstWrong 49 = .ok (.aload_n 2, 1) := by decide +kernel
theorem dX4_firstWrong_50 : decode cX4_firstWrong 50 = .ok (.iconst 1, 1) := by decide +kernel
theorem dX4_firstWrong_51 : decode cX4_firstWrong 51 = .ok (.aload_n 2, 1) := by decide +kernel
theorem dX4_firstWrong_52 : decode cX4_firstWrong 52 = .ok (.aload_n 2, 1) := by decide +kernel
theorem dX4_firstWrong_53 : decode cX4_firstWrong 53 = .ok (.getfield 99, 3) := by decide +kernel
theorem dX4_firstWrong_56 : decode cX4_firstWrong 56 = .ok (.iconst 4, 1) := by decide +kernel
theorem dX4_firstWrong_57 : decode cX4_firstWrong 57 = .ok (.iaload, 1) := by decide +kernel
theorem dX4_firstWrong_58 : decode cX4_firstWrong 58 = .ok (.invokevirtual 122, 3) := by decide +kernel
theorem dX4_firstWrong_61 : decode cX4_firstWrong 61 = .ok (.invokevirtual 126, 3) := by decide +kernel
theorem dX4_firstWrong_64 : decode cX4_firstWrong 64 = .ok (.invokestatic 176, 3) := by decide +kernel
theorem dX4_firstWrong_67 : decode cX4_firstWrong 67 = .ok (.ireturn, 1) := by decide +kernel
theorem dX4_firstWrong_68 : decode cX4_firstWrong 68 = .ok (.iconst (-1), 1) := by decide +kernel
theorem dX4_firstWrong_69 : decode cX4_firstWrong 69 = .ok (.ireturn, 1) := by decide +kernel
set_option maxRecDepth 20000 in
theorem ggX4_bestStart_X1_countWrong : GoodIn wsX4_bestStart wsX1_countWrong := goodIn_r _ [9, 10, 11, 12, 13, 14, 15, 16, 17, 18, 19, 20, 21, 22, 23, 24, 25, 26, 8, 27, 28, 29, 30, 31, 32, 33, 34, 35, 36, 37, 38, 39, 40, 41, 42, 43, 44, 45, 46, 47, 48, 49, 50, 51, 52, 53, 54, 55, 56, 57, 58, 59, 60, 61, 62, 63, 64, 65, 66, 67, 68, 69, 70, 80, 81, 82, 83, 84] (by decide +kernel) (by decide +kernel)
set_option maxRecDepth 20000 in
theorem gX4_bestStart_X1_countWrong : GoodIn wsX4_bestStart (wsV RX4 179 RX1 yX1_countWrong wsX1_countWrong) := goodIn_app (goodIn_of _ (by decide +kernel)) ggX4_bestStart_X1_countWrong
theorem dX4_bestStart_0 : decode cX4_bestStart 0 = .ok (.iload_n 1, 1) := by decide +kernel
theorem dX4_bestStart_1 : decode cX4_bestStart 1 = .ok (.ifCond .lt 8, 3) := by decide +kernel
theorem dX4_bestStart_4 : decode cX4_bestStart 4 = .ok (.iload_n 1, 1) := by decide +kernel
theorem dX4_bestStart_5 : decode cX4_bestStart 5 = .ok (.iconst 1, 1) := by decide +kernel
theorem dX4_bestStart_6 : decode cX4_bestStart 6 = .ok (.if_icmp .le 5, 3) := by decide +kernel
theorem dX4_bestStart_9 : decode cX4_bestStart 9 = .ok (.iconst (-1), 1) := by decide +kernel
theorem dX4_bestStart_10 : decode cX4_bestStart 10 = .ok (.ireturn, 1) := by decide +kernel
theorem dX4_bestStart_11 : decode cX4_bestStart 11 = .ok (.aload_n 0, 1) := by decide +kernel
theorem dX4_bestStart_12 : decode cX4_bestStart 12 = .ok (.getfield 10, 3) := by decide +kernel
theorem dX4_bestStart_15 : decode cX4_bestStart 15 = .ok (.getfield 41, 3) := by decide +kernel
theorem dX4_bestStart_18 : decode cX4_bestStart 18 = .ok (.aload_n 0, 1) := by decide +kernel
theorem dX4_bestStart_19 : decode cX4_bestStart 19 = .ok (.getfield 34, 3) := by decide +kernel
theorem dX4_bestStart_22 : decode cX4_bestStart 22 = .ok (.invokevirtual 179, 3) := by decide +kernel
theorem dX4_bestStart_25 : decode cX4_bestStart 25 = .ok (.iconst 0, 1) := by decide +kernel
theorem dX4_bestStart_26 : decode cX4_bestStart 26 = .ok (.istore_n 2, 1) := by decide +kernel
theorem dX4_bestStart_27 : decode cX4_bestStart 27 = .ok (.iconst 1, 1) := by decide +kernel
theorem dX4_bestStart_28 : decode cX4_bestStart 28 = .ok (.istore_n 3, 1) := by decide +kernel
theorem dX4_bestStart_29 : decode cX4_bestStart 29 = .ok (.iload_n 3, 1) := by decide +kernel
theorem dX4_bestStart_30 : decode cX4_bestStart 30 = .ok (.aload_n 0, 1) := by decide +kernel
theorem dX4_bestStart_31 : decode cX4_bestStart 31 = .ok (.getfield 10, 3) := by decide +kernel
theorem dX4_bestStart_34 : decode cX4_bestStart 34 = .ok (.getfield 41, 3) := by decide +kernel
theorem dX4_bestStart_37 : decode cX4_bestStart 37 = .ok (.getfield 99, 3) := by decide +kernel
theorem dX4_bestStart_40 : decode cX4_bestStart 40 = .ok (.iconst 0, 1) := by decide +kernel
theorem dX4_bestStart_41 : decode cX4_bestStart 41 = .ok (.iaload, 1) := by decide +kernel
theorem dX4_bestStart_42 : decode cX4_bestStart 42 = .ok (.if_icmp .ge 33, 3) := by decide +kernel
theorem dX4_bestStart_45 : decode cX4_bestStart 45 = .ok (.iload_n 3, 1) := by decide +kernel
theorem dX4_bestStart_46 : decode cX4_bestStart 46 = .ok (.sipush 200, 3) := by decide +kernel
theorem dX4_bestStart_49 : decode cX4_bestStart 49 = .ok (.if_icmp .ge 26, 3) := by decide +kernel
theorem dX4_bestStart_52 : decode cX4_bestStart 52 = .ok (.aload_n 0, 1) := by decide +kernel
theorem dX4_bestStart_53 : decode cX4_bestStart 53 = .ok (.getfield 34, 3) := by decide +kernel
theorem dX4_bestStart_56 : decode cX4_bestStart 56 = .ok (.iload_n 3, 1) := by decide +kernel
theorem dX4_bestStart_57 : decode cX4_bestStart 57 = .ok (.iaload, 1) := by decide +kernel
theorem dX4_bestStart_58 : decode cX4_bestStart 58 = .ok (.aload_n 0, 1) := by decide +kernel
theorem dX4_bestStart_59 : decode cX4_bestStart 59 = .ok (.getfield 34, 3) := by decide +kernel
theorem dX4_bestStart_62 : decode cX4_bestStart 62 = .ok (.iload_n 2, 1) := by decide +kernel
theorem dX4_bestStart_63 : decode cX4_bestStart 63 = .ok (.iaload, 1) := by decide +kernel
theorem dX4_bestStart_64 : decode cX4_bestStart 64 = .ok (.if_icmp .ge 5, 3) := by decide +kernel
theorem dX4_bestStart_67 : decode cX4_bestStart 67 = .ok (.iload_n 3, 1) := by decide +kernel
theorem dX4_bestStart_68 : decode cX4_bestStart 68 = .ok (.istore_n 2, 1) := by decide +kernel
theorem dX4_bestStart_69 : decode cX4_bestStart 69 = .ok (.iinc 3 1, 3) := by decide +kernel
theorem dX4_bestStart_72 : decode cX4_bestStart 72 = .ok (.goto (-43), 3) := by decide +kernel
theorem dX4_bestStart_75 : decode cX4_bestStart 75 = .ok (.iload_n 1, 1) := by decide +kernel
theorem dX4_bestStart_76 : decode cX4_bestStart 76 = .ok (.ifCond .ne 7, 3) := by decide +kernel
theorem dX4_bestStart_79 : decode cX4_bestStart 79 = .ok (.iload_n 2, 1) := by decide +kernel
theorem dX4_bestStart_80 : decode cX4_bestStart 80 = .ok (.goto 9, 3) := by decide +kernel
theorem dX4_bestStart_83 : decode cX4_bestStart 83 = .ok (.aload_n 0, 1) := by decide +kernel
theorem dX4_bestStart_84 : decode cX4_bestStart 84 = .ok (.getfield 34, 3) := by decide +kernel
theorem dX4_bestStart_87 : decode cX4_bestStart 87 = .ok (.iload_n 2, 1) := by decide +kernel
theorem dX4_bestStart_88 : decode cX4_bestStart 88 = .ok (.iaload, 1) := by decide +kernel
theorem dX4_bestStart_89 : decode cX4_bestStart 89 = .ok (.ireturn, 1) := by decide +kernel
set_option maxRecDepth 20000 in
theorem ggX4_leastTravel_X1_spotsOfOrder : GoodIn wsX4_leastTravel wsX1_spotsOfOrder := goodIn_r _ [8, 9, 10, 72, 73, 74, 75, 76] (by decide +kernel) (by decide +kernel)
set_option maxRecDepth 20000 in
theorem gX4_leastTravel_X1_spotsOfOrder : GoodIn wsX4_leastTravel (wsV RX4 183 RX1 yX1_spotsOfOrder wsX1_spotsOfOrder) := goodIn_app (goodIn_of _ (by decide +kernel)) ggX4_leastTravel_X1_spotsOfOrder
set_option maxRecDepth 20000 in
theorem ggX4_leastTravel_X3_plan : GoodIn wsX4_leastTravel wsX3_plan := goodIn_r _ [15, 16, 17, 18, 19, 14, 20, 21, 22, 23, 24, 25, 26, 27, 28, 29, 30, 31, 32, 33, 34, 35, 36, 37, 38, 39, 40, 41, 42, 43, 44, 45, 46, 47, 48, 49, 50, 51, 52, 53, 54, 77, 78, 79, 80, 81, 82] (by decide +kernel) (by decide +kernel)
set_option maxRecDepth 20000 in
theorem gX4_leastTravel_X3_plan : GoodIn wsX4_leastTravel (wsV RX4 186 RX3 yX3_plan wsX3_plan) := goodIn_app (goodIn_of _ (by decide +kernel)) ggX4_leastTravel_X3_plan
set_option maxRecDepth 20000 in
theorem ggX4_leastTravel_X3_sumOfWays : GoodIn wsX4_leastTravel wsX3_sumOfWays := goodIn_r _ [58, 53, 77, 78, 79, 80, 81, 82] (by decide +kernel) (by decide +kernel)
set_option maxRecDepth 20000 in
theorem gX4_leastTravel_X3_sumOfWays : GoodIn wsX4_leastTravel (wsV RX4 190 RX3 yX3_sumOfWays wsX3_sumOfWays) := goodIn_app (goodIn_of _ (by decide +kernel)) ggX4_leastTravel_X3_sumOfWays
set_option maxRecDepth 20000 in
theorem ggX4_leastTravel_X3_stop : GoodIn wsX4_leastTravel wsX3_stop := goodIn_r _ [62, 21, 54, 77, 78, 79, 80, 81, 82] (by decide +kernel) (by decide +kernel)
set_option maxRecDepth 20000 in
theorem gX4_leastTravel_X3_stop : GoodIn wsX4_leastTravel (wsV RX4 191 RX3 yX3_stop wsX3_stop) := goodIn_app (goodIn_of _ (by decide +kernel)) ggX4_leastTravel_X3_stop
theorem dX4_leastTravel_0 : decode cX4_leastTravel 0 = .ok (.iload_n 1, 1) := by decide +kernel
theorem dX4_leastTravel_1 : decode cX4_leastTravel 1 = .ok (.iconst (-1), 1) := by decide +kernel
theorem dX4_leastTravel_2 : decode cX4_leastTravel 2 = .ok (.if_icmp .ge 5, 3) := by decide +kernel
theorem dX4_leastTravel_5 : decode cX4_leastTravel 5 = .ok (.iconst (-1), 1) := by decide +kernel
theorem dX4_leastTravel_6 : decode cX4_leastTravel 6 = .ok (.ireturn, 1) := by decide +kernel
theorem dX4_leastTravel_7 : decode cX4_leastTravel 7 = .ok (.aload_n 0, 1) := by decide +kernel
theorem dX4_leastTravel_8 : decode cX4_leastTravel 8 = .ok (.getfield 30, 3) := by decide +kernel
theorem dX4_leastTravel_11 : decode cX4_leastTravel 11 = .ok (.aload_n 0, 1) := by decide +kernel
theorem dX4_leastTravel_12 : decode cX4_leastTravel 12 = .ok (.getfield 10, 3) := by decide +kernel
theorem dX4_leastTravel_15 : decode cX4_leastTravel 15 = .ok (.getfield 41, 3) := by decide +kernel
theorem dX4_leastTravel_18 : decode cX4_leastTravel 18 = .ok (.invokevirtual 183, 3) := by decide +kernel
theorem dX4_leastTravel_21 : decode cX4_leastTravel 21 = .ok (.invokevirtual 186, 3) := by decide +kernel
theorem dX4_leastTravel_24 : decode cX4_leastTravel 24 = .ok (.iload_n 1, 1) := by decide +kernel
theorem dX4_leastTravel_25 : decode cX4_leastTravel 25 = .ok (.ifCond .ge 13, 3) := by decide +kernel
theorem dX4_leastTravel_28 : decode cX4_leastTravel 28 = .ok (.aload_n 0, 1) := by decide +kernel
theorem dX4_leastTravel_29 : decode cX4_leastTravel 29 = .ok (.getfield 30, 3) := by decide +kernel
theorem dX4_leastTravel_32 : decode cX4_leastTravel 32 = .ok (.invokevirtual 190, 3) := by decide +kernel
theorem dX4_leastTravel_35 : decode cX4_leastTravel 35 = .ok (.goto 11, 3) := by decide +kernel
theorem dX4_leastTravel_38 : decode cX4_leastTravel 38 = .ok (.aload_n 0, 1) := by decide +kernel
theorem dX4_leastTravel_39 : decode cX4_leastTravel 39 = .ok (.getfield 30, 3) := by decide +kernel
theorem dX4_leastTravel_42 : decode cX4_leastTravel 42 = .ok (.iload_n 1, 1) := by decide +kernel
theorem dX4_leastTravel_43 : decode cX4_leastTravel 43 = .ok (.invokevirtual 191, 3) := by decide +kernel
theorem dX4_leastTravel_46 : decode cX4_leastTravel 46 = .ok (.ireturn, 1) := by decide +kernel
set_option maxRecDepth 20000 in
theorem ggX4_longest_X1_seenByShutter : GoodIn wsX4_longest wsX1_seenByShutter := goodIn_r _ [7, 8, 9, 10, 11, 6, 12, 13, 14, 15, 16, 17, 18, 19, 20, 21, 22, 23, 24, 25, 26, 27, 28, 29, 30, 31, 32, 33, 34, 35, 36, 37, 38, 39, 40, 41, 42, 43, 44, 45, 46, 47, 48, 49, 50, 51, 52, 53, 54, 55, 56, 57, 58, 73, 74, 75, 76, 77] (by decide +kernel) (by decide +kernel)
set_option maxRecDepth 20000 in
theorem gX4_longest_X1_seenByShutter : GoodIn wsX4_longest (wsV RX4 122 RX1 yX1_seenByShutter wsX1_seenByShutter) := goodIn_app (goodIn_of _ (by decide +kernel)) ggX4_longest_X1_seenByShutter
set_option maxRecDepth 20000 in
theorem ggX4_longest_X1_wrong : GoodIn wsX4_longest wsX1_wrong := goodIn_r _ [62, 63, 73, 74, 75, 76, 77] (by decide +kernel) (by decide +kernel)
set_option maxRecDepth 20000 in
theorem gX4_longest_X1_wrong : GoodIn wsX4_longest (wsV RX4 126 RX1 yX1_wrong wsX1_wrong) := goodIn_app (goodIn_of _ (by decide +kernel)) ggX4_longest_X1_wrong
theorem dX4_longest_0 : decode cX4_longest 0 = .ok (.bipush 50, 2) := by decide +kernel
theorem dX4_longest_2 : decode cX4_longest 2 = .ok (.istore_n 1, 1) := by decide +kernel
theorem dX4_longest_3 : decode cX4_longest 3 = .ok (.iload_n 1, 1) := by decide +kernel
theorem dX4_longest_4 : decode cX4_longest 4 = .ok (.ifCond .le 38, 3) := by decide +kernel
theorem dX4_longest_7 : decode cX4_longest 7 = .ok (.aload_n 0, 1) := by decide +kernel
theorem dX4_longest_8 : decode cX4_longest 8 = .ok (.getfield 10, 3) := by decide +kernel
theorem dX4_longest_11 : decode cX4_longest 11 = .ok (.getfield 41, 3) := by decide +kernel
theorem dX4_longest_14 : decode cX4_longest 14 = .ok (.iconst 1, 1) := by decide +kernel
theorem dX4_longest_15 : decode cX4_longest 15 = .ok (.aload_n 0, 1) := by decide +kernel
theorem dX4_longest_16 : decode cX4_longest 16 = .ok (.getfield 10, 3) := by decide +kernel
theorem dX4_longest_19 : decode cX4_longest 19 = .ok (.getfield 41, 3) := by decide +kernel
theorem dX4_longest_22 : decode cX4_longest 22 = .ok (.iload_n 1, 1) := by decide +kernel
theorem dX4_longest_23 : decode cX4_longest 23 = .ok (.invokevirtual 122, 3) := by decide +kernel
theorem dX4_longest_26 : decode cX4_longest 26 = .ok (.invokevirtual 126, 3) := by decide +kernel
theorem dX4_longest_29 : decode cX4_longest 29 = .ok (.lconst 0, 1) := by decide +kernel
theorem dX4_longest_30 : decode cX4_longest 30 = .ok (.lcmp, 1) := by decide +kernel
theorem dX4_longest_31 : decode cX4_longest 31 = .ok (.ifCond .ne 5, 3) := by decide +kernel
theorem dX4_longest_34 : decode cX4_longest 34 = .ok (.iload_n 1, 1) := by decide +kernel
theorem dX4_longest_35 : decode cX4_longest 35 = .ok (.ireturn, 1) := by decide +kernel
theorem dX4_longest_36 : decode cX4_longest 36 = .ok (.iinc 1 (-1), 3) := by decide +kernel
theorem dX4_longest_39 : decode cX4_longest 39 = .ok (.goto (-36), 3) := by decide +kernel
theorem dX4_longest_42 : decode cX4_longest 42 = .ok (.bipush (-9), 2) := by decide +kernel
theorem dX4_longest_44 : decode cX4_longest 44 = .ok (.ireturn, 1) := by decide +kernel
set_option maxRecDepth 20000 in
theorem ggX4_ticks_X4_isPhosphor : GoodIn wsX4_ticks wsX4_isPhosphor := goodIn_r _ [4] (by decide +kernel) (by decide +kernel)
set_option maxRecDepth 20000 in
theorem gX4_ticks_X4_isPhosphor : GoodIn wsX4_ticks (va_wsS RX4 194 yX4_isPhosphor wsX4_isPhosphor) := goodIn_app (goodIn_of _ (by decide +kernel)) ggX4_ticks_X4_isPhosphor
set_option maxRecDepth 20000 in
theorem ggX4_ticks_X4_ticksAbove : GoodIn wsX4_ticks wsX4_ticksAbove := goodIn_r _ [7, 8, 9, 3, 10, 11, 12, 13, 14] (by decide +kernel) (by decide +kernel)
set_option maxRecDepth 20000 in
theorem gX4_ticks_X4_ticksAbove : GoodIn wsX4_ticks (va_wsS RX4 197 yX4_ticksAbove wsX4_ticksAbove) := goodIn_app (goodIn_of _ (by decide +kernel)) ggX4_ticks_X4_ticksAbove
theorem dX4_ticks_0 : decode cX4_ticks 0 = .ok (.iload_n 1, 1) := by decide +kernel
theorem dX4_ticks_1 : decode cX4_ticks 1 = .ok (.invokestatic 194, 3) := by decide +kernel
theorem dX4_ticks_4 : decode cX4_ticks 4 = .ok (.ifCond .eq 14, 3) := by decide +kernel
theorem dX4_ticks_7 : decode cX4_ticks 7 = .ok (.iload_n 2, 1) := by decide +kernel
theorem dX4_ticks_8 : decode cX4_ticks 8 = .ok (.iconst 1, 1) := by decide +kernel
theorem dX4_ticks_9 : decode cX4_ticks 9 = .ok (.if_icmp .lt 9, 3) := by decide +kernel
theorem dX4_ticks_12 : decode cX4_ticks 12 = .ok (.iload_n 2, 1) := by decide +kernel
theorem dX4_ticks_13 : decode cX4_ticks 13 = .ok (.bipush 100, 2) := by decide +kernel
theorem dX4_ticks_15 : decode cX4_ticks 15 = .ok (.if_icmp .le 5, 3) := by decide +kernel
theorem dX4_ticks_18 : decode cX4_ticks 18 = .ok (.iconst (-1), 1) := by decide +kernel
theorem dX4_ticks_19 : decode cX4_ticks 19 = .ok (.ireturn, 1) := by decide +kernel
theorem dX4_ticks_20 : decode cX4_ticks 20 = .ok (.iload_n 1, 1) := by decide +kernel
theorem dX4_ticks_21 : decode cX4_ticks 21 = .ok (.iload_n 2, 1) := by decide +kernel
theorem dX4_ticks_22 : decode cX4_ticks 22 = .ok (.invokestatic 197, 3) := by decide +kernel
theorem dX4_ticks_25 : decode cX4_ticks 25 = .ok (.ireturn, 1) := by decide +kernel
set_option maxRecDepth 20000 in
theorem ggX4_shortestPeriod_X1_arrival : GoodIn wsX4_shortestPeriod wsX1_arrival := goodIn_r _ [12, 13, 14, 15, 16, 17, 18, 19, 20, 6, 21, 31, 32, 33, 34, 35] (by decide +kernel) (by decide +kernel)
set_option maxRecDepth 20000 in
theorem gX4_shortestPeriod_X1_arrival : GoodIn wsX4_shortestPeriod (wsV RX4 133 RX1 yX1_arrival wsX1_arrival) := goodIn_app (goodIn_of _ (by decide +kernel)) ggX4_shortestPeriod_X1_arrival
theorem dX4_shortestPeriod_0 : decode cX4_shortestPeriod 0 = .ok (.aload_n 0, 1) := by decide +kernel
theorem dX4_shortestPeriod_1 : decode cX4_shortestPeriod 1 = .ok (.getfield 10, 3) := by decide +kernel
theorem dX4_shortestPeriod_4 : decode cX4_shortestPeriod 4 = .ok (.getfield 41, 3) := by decide +kernel
theorem dX4_shortestPeriod_7 : decode cX4_shortestPeriod 7 = .ok (.aload_n 0, 1) := by decide +kernel
theorem dX4_shortestPeriod_8 : decode cX4_shortestPeriod 8 = .ok (.getfield 10, 3) := by decide +kernel
theorem dX4_shortestPeriod_11 : decode cX4_shortestPeriod 11 = .ok (.getfield 41, 3) := by decide +kernel
theorem dX4_shortestPeriod_14 : decode cX4_shortestPeriod 14 = .ok (.getfield 102, 3) := by decide +kernel
theorem dX4_shortestPeriod_17 : decode cX4_shortestPeriod 17 = .ok (.iconst 1, 1) := by decide +kernel
theorem dX4_shortestPeriod_18 : decode cX4_shortestPeriod 18 = .ok (.isub, 1) := by decide +kernel
theorem dX4_shortestPeriod_19 : decode cX4_shortestPeriod 19 = .ok (.invokevirtual 133, 3) := by decide +kernel
theorem dX4_shortestPeriod_22 : decode cX4_shortestPeriod 22 = .ok (.iconst 1, 1) := by decide +kernel
theorem dX4_shortestPeriod_23 : decode cX4_shortestPeriod 23 = .ok (.iadd, 1) := by decide +kernel
theorem dX4_shortestPeriod_24 : decode cX4_shortestPeriod 24 = .ok (.istore_n 1, 1) := by decide +kernel
theorem dX4_shortestPeriod_25 : decode cX4_shortestPeriod 25 = .ok (.iload_n 1, 1) := by decide +kernel
theorem dX4_shortestPeriod_26 : decode cX4_shortestPeriod 26 = .ok (.sipush 200, 3) := by decide +kernel
theorem dX4_shortestPeriod_29 : decode cX4_shortestPeriod 29 = .ok (.if_icmp .le 8, 3) := by decide +kernel
theorem dX4_shortestPeriod_32 : decode cX4_shortestPeriod 32 = .ok (.bipush (-9), 2) := by decide +kernel
theorem dX4_shortestPeriod_34 : decode cX4_shortestPeriod 34 = .ok (.goto 9, 3) := by decide +kernel
theorem dX4_shortestPeriod_37 : decode cX4_shortestPeriod 37 = .ok (.bipush 8, 2) := by decide +kernel
theorem dX4_shortestPeriod_39 : decode cX4_shortestPeriod 39 = .ok (.iload_n 1, 1) := by decide +kernel
theorem dX4_shortestPeriod_40 : decode cX4_shortestPeriod 40 = .ok (.invokestatic 200, 3) := by decide +kernel
theorem dX4_shortestPeriod_43 : decode cX4_shortestPeriod 43 = .ok (.ireturn, 1) := by decide +kernel
set_option maxRecDepth 20000 in
theorem ggX4_prepare_X2_copyFrom : GoodIn wsX4_prepare wsX2_copyFrom := goodIn_r _ [8, 9, 10, 11, 12, 13, 14, 15, 16, 17, 18, 19, 20, 21, 22, 23, 24, 25, 32, 33, 34, 35, 36, 37, 38, 39] (by decide +kernel) (by decide +kernel)
set_option maxRecDepth 20000 in
theorem gX4_prepare_X2_copyFrom : GoodIn wsX4_prepare (wsV RX4 84 RX2 yX2_copyFrom wsX2_copyFrom) := goodIn_app (goodIn_of _ (by decide +kernel)) ggX4_prepare_X2_copyFrom
theorem dX4_prepare_0 : decode cX4_prepare 0 = .ok (.aload_n 0, 1) := by decide +kernel
theorem dX4_prepare_1 : decode cX4_prepare 1 = .ok (.getfield 16, 3) := by decide +kernel
theorem dX4_prepare_4 : decode cX4_prepare 4 = .ok (.aload_n 0, 1) := by decide +kernel
theorem dX4_prepare_5 : decode cX4_prepare 5 = .ok (.getfield 80, 3) := by decide +kernel
theorem dX4_prepare_8 : decode cX4_prepare 8 = .ok (.aaload, 1) := by decide +kernel
theorem dX4_prepare_9 : decode cX4_prepare 9 = .ok (.aload_n 0, 1) := by decide +kernel
theorem dX4_prepare_10 : decode cX4_prepare 10 = .ok (.getfield 10, 3) := by decide +kernel
theorem dX4_prepare_13 : decode cX4_prepare 13 = .ok (.invokevirtual 84, 3) := by decide +kernel
theorem dX4_prepare_16 : decode cX4_prepare 16 = .ok (.return_, 1) := by decide +kernel
set_option maxRecDepth 20000 in
theorem ggX4_finish_X4_dropOldest : GoodIn wsX4_finish wsX4_dropOldest := goodIn_r _ [6, 7, 8, 9, 10, 11, 12, 13] (by decide +kernel) (by decide +kernel)
set_option maxRecDepth 20000 in
theorem gX4_finish_X4_dropOldest : GoodIn wsX4_finish (wsV RX4 205 RX4 yX4_dropOldest wsX4_dropOldest) := goodIn_app (goodIn_of _ (by decide +kernel)) ggX4_finish_X4_dropOldest
theorem dX4_finish_0 : decode cX4_finish 0 = .ok (.iload_n 1, 1) := by decide +kernel
theorem dX4_finish_1 : decode cX4_finish 1 = .ok (.ifCond .lt 28, 3) := by decide +kernel
theorem dX4_finish_4 : decode cX4_finish 4 = .ok (.aload_n 0, 1) := by decide +kernel
theorem dX4_finish_5 : decode cX4_finish 5 = .ok (.getfield 80, 3) := by decide +kernel
theorem dX4_finish_8 : decode cX4_finish 8 = .ok (.iconst 5, 1) := by decide +kernel
theorem dX4_finish_9 : decode cX4_finish 9 = .ok (.if_icmp .ge 16, 3) := by decide +kernel
theorem dX4_finish_12 : decode cX4_finish 12 = .ok (.aload_n 0, 1) := by decide +kernel
theorem dX4_finish_13 : decode cX4_finish 13 = .ok (.dup, 1) := by decide +kernel
theorem dX4_finish_14 : decode cX4_finish 14 = .ok (.getfield 80, 3) := by decide +kernel
theorem dX4_finish_17 : decode cX4_finish 17 = .ok (.iconst 1, 1) := by decide +kernel
theorem dX4_finish_18 : decode cX4_finish 18 = .ok (.iadd, 1) := by decide +kernel
theorem dX4_finish_19 : decode cX4_finish 19 = .ok (.putfield 80, 3) := by decide +kernel
theorem dX4_finish_22 : decode cX4_finish 22 = .ok (.goto 7, 3) := by decide +kernel
theorem dX4_finish_25 : decode cX4_finish 25 = .ok (.aload_n 0, 1) := by decide +kernel
theorem dX4_finish_26 : decode cX4_finish 26 = .ok (.invokevirtual 205, 3) := by decide +kernel
theorem dX4_finish_29 : decode cX4_finish 29 = .ok (.iload_n 1, 1) := by decide +kernel
theorem dX4_finish_30 : decode cX4_finish 30 = .ok (.ireturn, 1) := by decide +kernel
theorem dX4_dropOldest_0 : decode cX4_dropOldest 0 = .ok (.aload_n 0, 1) := by decide +kernel
theorem dX4_dropOldest_1 : decode cX4_dropOldest 1 = .ok (.getfield 16, 3) := by decide +kernel
theorem dX4_dropOldest_4 : decode cX4_dropOldest 4 = .ok (.iconst 0, 1) := by decide +kernel
theorem dX4_dropOldest_5 : decode cX4_dropOldest 5 = .ok (.aaload, 1) := by decide +kernel
theorem dX4_dropOldest_6 : decode cX4_dropOldest 6 = .ok (.astore_n 1, 1) := by decide +kernel
theorem dX4_dropOldest_7 : decode cX4_dropOldest 7 = .ok (.iconst 0, 1) := by decide +kernel
theorem dX4_dropOldest_8 : decode cX4_dropOldest 8 = .ok (.istore_n 2, 1) := by decide +kernel
theorem dX4_dropOldest_9 : decode cX4_dropOldest 9 = .ok (.iload_n 2, 1) := by decide +kernel
theorem dX4_dropOldest_10 : decode cX4_dropOldest 10 = .ok (.iconst 5, 1) := by decide +kernel
theorem dX4_dropOldest_11 : decode cX4_dropOldest 11 = .ok (.if_icmp .ge 23, 3) := by decide +kernel
theorem dX4_dropOldest_14 : decode cX4_dropOldest 14 = .ok (.aload_n 0, 1) := by decide +kernel
theorem dX4_dropOldest_15 : decode cX4_dropOldest 15 = .ok (.getfield 16, 3) := by decide +kernel
theorem dX4_dropOldest_18 : decode cX4_dropOldest 18 = .ok (.iload_n 2, 1) := by decide +kernel
theorem dX4_dropOldest_19 : decode cX4_dropOldest 19 = .ok (.aload_n 0, 1) := by decide +kernel
theorem dX4_dropOldest_20 : decode cX4_dropOldest 20 = .ok (.getfield 16, 3) := by decide +kernel
theorem dX4_dropOldest_23 : decode cX4_dropOldest 23 = .ok (.iload_n 2, 1) := by decide +kernel
theorem dX4_dropOldest_24 : decode cX4_dropOldest 24 = .ok (.iconst 1, 1) := by decide +kernel
theorem dX4_dropOldest_25 : decode cX4_dropOldest 25 = .ok (.iadd, 1) := by decide +kernel
theorem dX4_dropOldest_26 : decode cX4_dropOldest 26 = .ok (.aaload, 1) := by decide +kernel
theorem dX4_dropOldest_27 : decode cX4_dropOldest 27 = .ok (.aastore, 1) := by decide +kernel
theorem dX4_dropOldest_28 : decode cX4_dropOldest 28 = .ok (.iinc 2 1, 3) := by decide +kernel
theorem dX4_dropOldest_31 : decode cX4_dropOldest 31 = .ok (.goto (-22), 3) := by decide +kernel
theorem dX4_dropOldest_34 : decode cX4_dropOldest 34 = .ok (.aload_n 0, 1) := by decide +kernel
theorem dX4_dropOldest_35 : decode cX4_dropOldest 35 = .ok (.getfield 16, 3) := by decide +kernel
theorem dX4_dropOldest_38 : decode cX4_dropOldest 38 = .ok (.iconst 5, 1) := by decide +kernel
theorem dX4_dropOldest_39 : decode cX4_dropOldest 39 = .ok (.aload_n 1, 1) := by decide +kernel
theorem dX4_dropOldest_40 : decode cX4_dropOldest 40 = .ok (.aastore, 1) := by decide +kernel
theorem dX4_dropOldest_41 : decode cX4_dropOldest 41 = .ok (.return_, 1) := by decide +kernel
theorem dX4_settingCount_0 : decode cX4_settingCount 0 = .ok (.iload_n 1, 1) := by decide +kernel
theorem dX4_settingCount_1 : decode cX4_settingCount 1 = .ok (.bipush 13, 2) := by decide +kernel
theorem dX4_settingCount_3 : decode cX4_settingCount 3 = .ok (.if_icmp .lt 9, 3) := by decide +kernel
theorem dX4_settingCount_6 : decode cX4_settingCount 6 = .ok (.iload_n 1, 1) := by decide +kernel
theorem dX4_settingCount_7 : decode cX4_settingCount 7 = .ok (.bipush 19, 2) := by decide +kernel
theorem dX4_settingCount_9 : decode cX4_settingCount 9 = .ok (.if_icmp .lt 5, 3) := by decide +kernel
theorem dX4_settingCount_12 : decode cX4_settingCount 12 = .ok (.iconst (-1), 1) := by decide +kernel
theorem dX4_settingCount_13 : decode cX4_settingCount 13 = .ok (.ireturn, 1) := by decide +kernel
theorem dX4_settingCount_14 : decode cX4_settingCount 14 = .ok (.aload_n 0, 1) := by decide +kernel
theorem dX4_settingCount_15 : decode cX4_settingCount 15 = .ok (.getfield 10, 3) := by decide +kernel
theorem dX4_settingCount_18 : decode cX4_settingCount 18 = .ok (.getfield 41, 3) := by decide +kernel
theorem dX4_settingCount_21 : decode cX4_settingCount 21 = .ok (.getfield 99, 3) := by decide +kernel
theorem dX4_settingCount_24 : decode cX4_settingCount 24 = .ok (.iload_n 1, 1) := by decide +kernel
theorem dX4_settingCount_25 : decode cX4_settingCount 25 = .ok (.bipush 13, 2) := by decide +kernel
theorem dX4_settingCount_27 : decode cX4_settingCount 27 = .ok (.isub, 1) := by decide +kernel
theorem dX4_settingCount_28 : decode cX4_settingCount 28 = .ok (.iaload, 1) := by decide +kernel
theorem dX4_settingCount_29 : decode cX4_settingCount 29 = .ok (.ireturn, 1) := by decide +kernel
theorem dX4_isSpot_0 : decode cX4_isSpot 0 = .ok (.iload_n 0, 1) := by decide +kernel
theorem dX4_isSpot_1 : decode cX4_isSpot 1 = .ok (.ifCond .lt 13, 3) := by decide +kernel
theorem dX4_isSpot_4 : decode cX4_isSpot 4 = .ok (.iload_n 0, 1) := by decide +kernel
theorem dX4_isSpot_5 : decode cX4_isSpot 5 = .ok (.bipush 64, 2) := by decide +kernel
theorem dX4_isSpot_7 : decode cX4_isSpot 7 = .ok (.if_icmp .ge 7, 3) := by decide +kernel
theorem dX4_isSpot_10 : decode cX4_isSpot 10 = .ok (.iconst 1, 1) := by decide +kernel
theorem dX4_isSpot_11 : decode cX4_isSpot 11 = .ok (.goto 4, 3) := by decide +kernel
theorem dX4_isSpot_14 : decode cX4_isSpot 14 = .ok (.iconst 0, 1) := by decide +kernel
theorem dX4_isSpot_15 : decode cX4_isSpot 15 = .ok (.ireturn, 1) := by decide +kernel
theorem dX4_isPhosphor_0 : decode cX4_isPhosphor 0 = .ok (.iload_n 0, 1) := by decide +kernel
theorem dX4_isPhosphor_1 : decode cX4_isPhosphor 1 = .ok (.ifCond .lt 12, 3) := by decide +kernel
theorem dX4_isPhosphor_4 : decode cX4_isPhosphor 4 = .ok (.iload_n 0, 1) := by decide +kernel
theorem dX4_isPhosphor_5 : decode cX4_isPhosphor 5 = .ok (.iconst 4, 1) := by decide +kernel
theorem dX4_isPhosphor_6 : decode cX4_isPhosphor 6 = .ok (.if_icmp .ge 7, 3) := by decide +kernel
theorem dX4_isPhosphor_9 : decode cX4_isPhosphor 9 = .ok (.iconst 1, 1) := by decide +kernel
theorem dX4_isPhosphor_10 : decode cX4_isPhosphor 10 = .ok (.goto 4, 3) := by decide +kernel
theorem dX4_isPhosphor_13 : decode cX4_isPhosphor 13 = .ok (.iconst 0, 1) := by decide +kernel
theorem dX4_isPhosphor_14 : decode cX4_isPhosphor 14 = .ok (.ireturn, 1) := by decide +kernel
theorem dX4_way_0 : decode cX4_way 0 = .ok (.iload_n 0, 1) := by decide +kernel
theorem dX4_way_1 : decode cX4_way 1 = .ok (.bipush 8, 2) := by decide +kernel
theorem dX4_way_3 : decode cX4_way 3 = .ok (.idiv, 1) := by decide +kernel
theorem dX4_way_4 : decode cX4_way 4 = .ok (.iload_n 1, 1) := by decide +kernel
theorem dX4_way_5 : decode cX4_way 5 = .ok (.bipush 8, 2) := by decide +kernel
theorem dX4_way_7 : decode cX4_way 7 = .ok (.idiv, 1) := by decide +kernel
theorem dX4_way_8 : decode cX4_way 8 = .ok (.isub, 1) := by decide +kernel
theorem dX4_way_9 : decode cX4_way 9 = .ok (.invokestatic 208, 3) := by decide +kernel
theorem dX4_way_12 : decode cX4_way 12 = .ok (.iload_n 0, 1) := by decide +kernel
theorem dX4_way_13 : decode cX4_way 13 = .ok (.bipush 8, 2) := by decide +kernel
theorem dX4_way_15 : decode cX4_way 15 = .ok (.irem, 1) := by decide +kernel
theorem dX4_way_16 : decode cX4_way 16 = .ok (.iload_n 1, 1) := by decide +kernel
theorem dX4_way_17 : decode cX4_way 17 = .ok (.bipush 8, 2) := by decide +kernel
theorem dX4_way_19 : decode cX4_way 19 = .ok (.irem, 1) := by decide +kernel
theorem dX4_way_20 : decode cX4_way 20 = .ok (.isub, 1) := by decide +kernel
theorem dX4_way_21 : decode cX4_way 21 = .ok (.invokestatic 208, 3) := by decide +kernel
theorem dX4_way_24 : decode cX4_way 24 = .ok (.iadd, 1) := by decide +kernel
theorem dX4_way_25 : decode cX4_way 25 = .ok (.ireturn, 1) := by decide +kernel
theorem dX4_bit_0 : decode cX4_bit 0 = .ok (.lload_n 0, 1) := by decide +kernel
theorem dX4_bit_1 : decode cX4_bit 1 = .ok (.iload_n 2, 1) := by decide +kernel
theorem dX4_bit_2 : decode cX4_bit 2 = .ok (.lushr, 1) := by decide +kernel
theorem dX4_bit_3 : decode cX4_bit 3 = .ok (.l2i, 1) := by decide +kernel
theorem dX4_bit_4 : decode cX4_bit 4 = .ok (.iconst 1, 1) := by decide +kernel
theorem dX4_bit_5 : decode cX4_bit 5 = .ok (.iand, 1) := by decide +kernel
theorem dX4_bit_6 : decode cX4_bit 6 = .ok (.ireturn, 1) := by decide +kernel
set_option maxRecDepth 20000 in
theorem ggX4_firstOf_X4_bit : GoodIn wsX4_firstOf wsX4_bit := goodIn_r _ [4] (by decide +kernel) (by decide +kernel)
set_option maxRecDepth 20000 in
theorem gX4_firstOf_X4_bit : GoodIn wsX4_firstOf (va_wsS RX4 151 yX4_bit wsX4_bit) := goodIn_app (goodIn_of _ (by decide +kernel)) ggX4_firstOf_X4_bit
theorem dX4_firstOf_0 : decode cX4_firstOf 0 = .ok (.iconst 0, 1) := by decide +kernel
theorem dX4_firstOf_1 : decode cX4_firstOf 1 = .ok (.istore_n 2, 1) := by decide +kernel
theorem dX4_firstOf_2 : decode cX4_firstOf 2 = .ok (.iload_n 2, 1) := by decide +kernel
theorem dX4_firstOf_3 : decode cX4_firstOf 3 = .ok (.bipush 64, 2) := by decide +kernel
theorem dX4_firstOf_5 : decode cX4_firstOf 5 = .ok (.if_icmp .ge 20, 3) := by decide +kernel
theorem dX4_firstOf_8 : decode cX4_firstOf 8 = .ok (.lload_n 0, 1) := by decide +kernel
theorem dX4_firstOf_9 : decode cX4_firstOf 9 = .ok (.iload_n 2, 1) := by decide +kernel
theorem dX4_firstOf_10 : decode cX4_firstOf 10 = .ok (.invokestatic 151, 3) := by decide +kernel
theorem dX4_firstOf_13 : decode cX4_firstOf 13 = .ok (.iconst 1, 1) := by decide +kernel
theorem dX4_firstOf_14 : decode cX4_firstOf 14 = .ok (.if_icmp .ne 5, 3) := by decide +kernel
theorem dX4_firstOf_17 : decode cX4_firstOf 17 = .ok (.iload_n 2, 1) := by decide +kernel
theorem dX4_firstOf_18 : decode cX4_firstOf 18 = .ok (.ireturn, 1) := by decide +kernel
theorem dX4_firstOf_19 : decode cX4_firstOf 19 = .ok (.iinc 2 1, 3) := by decide +kernel
theorem dX4_firstOf_22 : decode cX4_firstOf 22 = .ok (.goto (-20), 3) := by decide +kernel
theorem dX4_firstOf_25 : decode cX4_firstOf 25 = .ok (.bipush (-9), 2) := by decide +kernel
theorem dX4_firstOf_27 : decode cX4_firstOf 27 = .ok (.ireturn, 1) := by decide +kernel
theorem dX4_glow_0 : decode cX4_glow 0 = .ok (.iload_n 0, 1) := by decide +kernel
theorem dX4_glow_1 : decode cX4_glow 1 = .ok (.tableswitch 67 0 2 #[27, 39, 50], 27) := by decide +kernel
theorem dX4_glow_28 : decode cX4_glow 28 = .ok (.iconst 0, 1) := by decide +kernel
theorem dX4_glow_29 : decode cX4_glow 29 = .ok (.bipush 100, 2) := by decide +kernel
theorem dX4_glow_31 : decode cX4_glow 31 = .ok (.bipush 20, 2) := by decide +kernel
theorem dX4_glow_33 : decode cX4_glow 33 = .ok (.iload_n 1, 1) := by decide +kernel
theorem dX4_glow_34 : decode cX4_glow 34 = .ok (.imul, 1) := by decide +kernel
theorem dX4_glow_35 : decode cX4_glow 35 = .ok (.isub, 1) := by decide +kernel
theorem dX4_glow_36 : decode cX4_glow 36 = .ok (.invokestatic 200, 3) := by decide +kernel
theorem dX4_glow_39 : decode cX4_glow 39 = .ok (.ireturn, 1) := by decide +kernel
theorem dX4_glow_40 : decode cX4_glow 40 = .ok (.iconst 0, 1) := by decide +kernel
theorem dX4_glow_41 : decode cX4_glow 41 = .ok (.bipush 100, 2) := by decide +kernel
theorem dX4_glow_43 : decode cX4_glow 43 = .ok (.iconst 4, 1) := by decide +kernel
theorem dX4_glow_44 : decode cX4_glow 44 = .ok (.iload_n 1, 1) := by decide +kernel
theorem dX4_glow_45 : decode cX4_glow 45 = .ok (.imul, 1) := by decide +kernel
theorem dX4_glow_46 : decode cX4_glow 46 = .ok (.isub, 1) := by decide +kernel
theorem dX4_glow_47 : decode cX4_glow 47 = .ok (.invokestatic 200, 3) := by decide +kernel
theorem dX4_glow_50 : decode cX4_glow 50 = .ok (.ireturn, 1) := by decide +kernel
theorem dX4_glow_51 : decode cX4_glow 51 = .ok (.iload_n 1, 1) := by decide +kernel
theorem dX4_glow_52 : decode cX4_glow 52 = .ok (.bipush 35, 2) := by decide +kernel
theorem dX4_glow_54 : decode cX4_glow 54 = .ok (.if_icmp .ge 12, 3) := by decide +kernel
theorem dX4_glow_57 : decode cX4_glow 57 = .ok (.bipush 100, 2) := by decide +kernel
theorem dX4_glow_59 : decode cX4_glow 59 = .ok (.iload_n 1, 1) := by decide +kernel
theorem dX4_glow_60 : decode cX4_glow 60 = .ok (.iconst 5, 1) := by decide +kernel
theorem dX4_glow_61 : decode cX4_glow 61 = .ok (.idiv, 1) := by decide +kernel
theorem dX4_glow_62 : decode cX4_glow 62 = .ok (.ishr, 1) := by decide +kernel
theorem dX4_glow_63 : decode cX4_glow 63 = .ok (.goto 4, 3) := by decide +kernel
theorem dX4_glow_66 : decode cX4_glow 66 = .ok (.iconst 0, 1) := by decide +kernel
theorem dX4_glow_67 : decode cX4_glow 67 = .ok (.ireturn, 1) := by decide +kernel
theorem dX4_glow_68 : decode cX4_glow 68 = .ok (.iload_n 1, 1) := by decide +kernel
theorem dX4_glow_69 : decode cX4_glow 69 = .ok (.bipush 8, 2) := by decide +kernel
theorem dX4_glow_71 : decode cX4_glow 71 = .ok (.if_icmp .ge 8, 3) := by decide +kernel
theorem dX4_glow_74 : decode cX4_glow 74 = .ok (.bipush 100, 2) := by decide +kernel
theorem dX4_glow_76 : decode cX4_glow 76 = .ok (.goto 4, 3) := by decide +kernel
theorem dX4_glow_79 : decode cX4_glow 79 = .ok (.iconst 0, 1) := by decide +kernel
theorem dX4_glow_80 : decode cX4_glow 80 = .ok (.ireturn, 1) := by decide +kernel
set_option maxRecDepth 20000 in
theorem ggX4_ticksAbove_X4_glow : GoodIn wsX4_ticksAbove wsX4_glow := goodIn_r _ [4, 5, 6, 7, 8] (by decide +kernel) (by decide +kernel)
set_option maxRecDepth 20000 in
theorem gX4_ticksAbove_X4_glow : GoodIn wsX4_ticksAbove (va_wsS RX4 211 yX4_glow wsX4_glow) := goodIn_app (goodIn_of _ (by decide +kernel)) ggX4_ticksAbove_X4_glow
theorem dX4_ticksAbove_0 : decode cX4_ticksAbove 0 = .ok (.iconst 0, 1) := by decide +kernel
theorem dX4_ticksAbove_1 : decode cX4_ticksAbove 1 = .ok (.istore_n 2, 1) := by decide +kernel
theorem dX4_ticksAbove_2 : decode cX4_ticksAbove 2 = .ok (.iload_n 2, 1) := by decide +kernel
theorem dX4_ticksAbove_3 : decode cX4_ticksAbove 3 = .ok (.sipush 200, 3) := by decide +kernel
theorem dX4_ticksAbove_6 : decode cX4_ticksAbove 6 = .ok (.if_icmp .ge 18, 3) := by decide +kernel
theorem dX4_ticksAbove_9 : decode cX4_ticksAbove 9 = .ok (.iload_n 0, 1) := by decide +kernel
theorem dX4_ticksAbove_10 : decode cX4_ticksAbove 10 = .ok (.iload_n 2, 1) := by decide +kernel
theorem dX4_ticksAbove_11 : decode cX4_ticksAbove 11 = .ok (.invokestatic 211, 3) := by decide +kernel
theorem dX4_ticksAbove_14 : decode cX4_ticksAbove 14 = .ok (.iload_n 1, 1) := by decide +kernel
theorem dX4_ticksAbove_15 : decode cX4_ticksAbove 15 = .ok (.if_icmp .lt 9, 3) := by decide +kernel
theorem dX4_ticksAbove_18 : decode cX4_ticksAbove 18 = .ok (.iinc 2 1, 3) := by decide +kernel
theorem dX4_ticksAbove_21 : decode cX4_ticksAbove 21 = .ok (.goto (-19), 3) := by decide +kernel
theorem dX4_ticksAbove_24 : decode cX4_ticksAbove 24 = .ok (.iload_n 2, 1) := by decide +kernel
theorem dX4_ticksAbove_25 : decode cX4_ticksAbove 25 = .ok (.ireturn, 1) := by decide +kernel
theorem dJ13_bitCount_95d88_0 : decode cJ13_bitCount_95d88 0 = .ok (.lload_n 0, 1) := by decide +kernel
theorem dJ13_bitCount_95d88_1 : decode cJ13_bitCount_95d88 1 = .ok (.lload_n 0, 1) := by decide +kernel
theorem dJ13_bitCount_95d88_2 : decode cJ13_bitCount_95d88 2 = .ok (.iconst 1, 1) := by decide +kernel
theorem dJ13_bitCount_95d88_3 : decode cJ13_bitCount_95d88 3 = .ok (.lushr, 1) := by decide +kernel
theorem dJ13_bitCount_95d88_4 : decode cJ13_bitCount_95d88 4 = .ok (.ldc2_w 314, 3) := by decide +kernel
theorem dJ13_bitCount_95d88_7 : decode cJ13_bitCount_95d88 7 = .ok (.land, 1) := by decide +kernel
theorem dJ13_bitCount_95d88_8 : decode cJ13_bitCount_95d88 8 = .ok (.lsub, 1) := by decide +kernel
theorem dJ13_bitCount_95d88_9 : decode cJ13_bitCount_95d88 9 = .ok (.lstore_n 0, 1) := by decide +kernel
theorem dJ13_bitCount_95d88_10 : decode cJ13_bitCount_95d88 10 = .ok (.lload_n 0, 1) := by decide +kernel
theorem dJ13_bitCount_95d88_11 : decode cJ13_bitCount_95d88 11 = .ok (.ldc2_w 316, 3) := by decide +kernel
theorem dJ13_bitCount_95d88_14 : decode cJ13_bitCount_95d88 14 = .ok (.land, 1) := by decide +kernel
theorem dJ13_bitCount_95d88_15 : decode cJ13_bitCount_95d88 15 = .ok (.lload_n 0, 1) := by decide +kernel
theorem dJ13_bitCount_95d88_16 : decode cJ13_bitCount_95d88 16 = .ok (.iconst 2, 1) := by decide +kernel
theorem dJ13_bitCount_95d88_17 : decode cJ13_bitCount_95d88 17 = .ok (.lushr, 1) := by decide +kernel
theorem dJ13_bitCount_95d88_18 : decode cJ13_bitCount_95d88 18 = .ok (.ldc2_w 316, 3) := by decide +kernel
theorem dJ13_bitCount_95d88_21 : decode cJ13_bitCount_95d88 21 = .ok (.land, 1) := by decide +kernel
theorem dJ13_bitCount_95d88_22 : decode cJ13_bitCount_95d88 22 = .ok (.ladd, 1) := by decide +kernel
theorem dJ13_bitCount_95d88_23 : decode cJ13_bitCount_95d88 23 = .ok (.lstore_n 0, 1) := by decide +kernel
theorem dJ13_bitCount_95d88_24 : decode cJ13_bitCount_95d88 24 = .ok (.lload_n 0, 1) := by decide +kernel
theorem dJ13_bitCount_95d88_25 : decode cJ13_bitCount_95d88 25 = .ok (.lload_n 0, 1) := by decide +kernel
theorem dJ13_bitCount_95d88_26 : decode cJ13_bitCount_95d88 26 = .ok (.iconst 4, 1) := by decide +kernel
theorem dJ13_bitCount_95d88_27 : decode cJ13_bitCount_95d88 27 = .ok (.lushr, 1) := by decide +kernel
theorem dJ13_bitCount_95d88_28 : decode cJ13_bitCount_95d88 28 = .ok (.ladd, 1) := by decide +kernel
theorem dJ13_bitCount_95d88_29 : decode cJ13_bitCount_95d88 29 = .ok (.ldc2_w 318, 3) := by decide +kernel
theorem dJ13_bitCount_95d88_32 : decode cJ13_bitCount_95d88 32 = .ok (.land, 1) := by decide +kernel
theorem dJ13_bitCount_95d88_33 : decode cJ13_bitCount_95d88 33 = .ok (.lstore_n 0, 1) := by decide +kernel
theorem dJ13_bitCount_95d88_34 : decode cJ13_bitCount_95d88 34 = .ok (.lload_n 0, 1) := by decide +kernel
theorem dJ13_bitCount_95d88_35 : decode cJ13_bitCount_95d88 35 = .ok (.lload_n 0, 1) := by decide +kernel
theorem dJ13_bitCount_95d88_36 : decode cJ13_bitCount_95d88 36 = .ok (.bipush 8, 2) := by decide +kernel
theorem dJ13_bitCount_95d88_38 : decode cJ13_bitCount_95d88 38 = .ok (.lushr, 1) := by decide +kernel
theorem dJ13_bitCount_95d88_39 : decode cJ13_bitCount_95d88 39 = .ok (.ladd, 1) := by decide +kernel
theorem dJ13_bitCount_95d88_40 : decode cJ13_bitCount_95d88 40 = .ok (.lstore_n 0, 1) := by decide +kernel
theorem dJ13_bitCount_95d88_41 : decode cJ13_bitCount_95d88 41 = .ok (.lload_n 0, 1) := by decide +kernel
theorem dJ13_bitCount_95d88_42 : decode cJ13_bitCount_95d88 42 = .ok (.lload_n 0, 1) := by decide +kernel
theorem dJ13_bitCount_95d88_43 : decode cJ13_bitCount_95d88 43 = .ok (.bipush 16, 2) := by decide +kernel
theorem dJ13_bitCount_95d88_45 : decode cJ13_bitCount_95d88 45 = .ok (.lushr, 1) := by decide +kernel
theorem dJ13_bitCount_95d88_46 : decode cJ13_bitCount_95d88 46 = .ok (.ladd, 1) := by decide +kernel
theorem dJ13_bitCount_95d88_47 : decode cJ13_bitCount_95d88 47 = .ok (.lstore_n 0, 1) := by decide +kernel
theorem dJ13_bitCount_95d88_48 : decode cJ13_bitCount_95d88 48 = .ok (.lload_n 0, 1) := by decide +kernel
theorem dJ13_bitCount_95d88_49 : decode cJ13_bitCount_95d88 49 = .ok (.lload_n 0, 1) := by decide +kernel
theorem dJ13_bitCount_95d88_50 : decode cJ13_bitCount_95d88 50 = .ok (.bipush 32, 2) := by decide +kernel
theorem dJ13_bitCount_95d88_52 : decode cJ13_bitCount_95d88 52 = .ok (.lushr, 1) := by decide +kernel
theorem dJ13_bitCount_95d88_53 : decode cJ13_bitCount_95d88 53 = .ok (.ladd, 1) := by decide +kernel
theorem dJ13_bitCount_95d88_54 : decode cJ13_bitCount_95d88 54 = .ok (.lstore_n 0, 1) := by decide +kernel
theorem dJ13_bitCount_95d88_55 : decode cJ13_bitCount_95d88 55 = .ok (.lload_n 0, 1) := by decide +kernel
theorem dJ13_bitCount_95d88_56 : decode cJ13_bitCount_95d88 56 = .ok (.l2i, 1) := by decide +kernel
theorem dJ13_bitCount_95d88_57 : decode cJ13_bitCount_95d88 57 = .ok (.bipush 127, 2) := by decide +kernel
theorem dJ13_bitCount_95d88_59 : decode cJ13_bitCount_95d88 59 = .ok (.iand, 1) := by decide +kernel
theorem dJ13_bitCount_95d88_60 : decode cJ13_bitCount_95d88 60 = .ok (.ireturn, 1) := by decide +kernel
theorem dJ9_abs_0f7a4_0 : decode cJ9_abs_0f7a4 0 = .ok (.iload_n 0, 1) := by decide +kernel
theorem dJ9_abs_0f7a4_1 : decode cJ9_abs_0f7a4 1 = .ok (.ifCond .ge 8, 3) := by decide +kernel
theorem dJ9_abs_0f7a4_4 : decode cJ9_abs_0f7a4 4 = .ok (.iload_n 0, 1) := by decide +kernel
theorem dJ9_abs_0f7a4_5 : decode cJ9_abs_0f7a4 5 = .ok (.ineg, 1) := by decide +kernel
theorem dJ9_abs_0f7a4_6 : decode cJ9_abs_0f7a4 6 = .ok (.goto 4, 3) := by decide +kernel
theorem dJ9_abs_0f7a4_9 : decode cJ9_abs_0f7a4 9 = .ok (.iload_n 0, 1) := by decide +kernel
theorem dJ9_abs_0f7a4_10 : decode cJ9_abs_0f7a4 10 = .ok (.ireturn, 1) := by decide +kernel
theorem dJ9_max_7cf53_0 : decode cJ9_max_7cf53 0 = .ok (.iload_n 0, 1) := by decide +kernel
theorem dJ9_max_7cf53_1 : decode cJ9_max_7cf53 1 = .ok (.iload_n 1, 1) := by decide +kernel
theorem dJ9_max_7cf53_2 : decode cJ9_max_7cf53 2 = .ok (.if_icmp .lt 7, 3) := by decide +kernel
theorem dJ9_max_7cf53_5 : decode cJ9_max_7cf53 5 = .ok (.iload_n 0, 1) := by decide +kernel
theorem dJ9_max_7cf53_6 : decode cJ9_max_7cf53 6 = .ok (.goto 4, 3) := by decide +kernel
theorem dJ9_max_7cf53_9 : decode cJ9_max_7cf53 9 = .ok (.iload_n 1, 1) := by decide +kernel
theorem dJ9_max_7cf53_10 : decode cJ9_max_7cf53 10 = .ok (.ireturn, 1) := by decide +kernel
theorem dJ9_min_7cf53_0 : decode cJ9_min_7cf53 0 = .ok (.iload_n 0, 1) := by decide +kernel
theorem dJ9_min_7cf53_1 : decode cJ9_min_7cf53 1 = .ok (.iload_n 1, 1) := by decide +kernel
theorem dJ9_min_7cf53_2 : decode cJ9_min_7cf53 2 = .ok (.if_icmp .gt 7, 3) := by decide +kernel
theorem dJ9_min_7cf53_5 : decode cJ9_min_7cf53 5 = .ok (.iload_n 0, 1) := by decide +kernel
theorem dJ9_min_7cf53_6 : decode cJ9_min_7cf53 6 = .ok (.goto 4, 3) := by decide +kernel
theorem dJ9_min_7cf53_9 : decode cJ9_min_7cf53 9 = .ok (.iload_n 1, 1) := by decide +kernel
theorem dJ9_min_7cf53_10 : decode cJ9_min_7cf53 10 = .ok (.ireturn, 1) := by decide +kernel
theorem dJ7_fill_53178_0 : decode cJ7_fill_53178 0 = .ok (.iconst 0, 1) := by decide +kernel
theorem dJ7_fill_53178_1 : decode cJ7_fill_53178 1 = .ok (.istore_n 2, 1) := by decide +kernel
theorem dJ7_fill_53178_2 : decode cJ7_fill_53178 2 = .ok (.aload_n 0, 1) := by decide +kernel
theorem dJ7_fill_53178_3 : decode cJ7_fill_53178 3 = .ok (.arraylength, 1) := by decide +kernel
theorem dJ7_fill_53178_4 : decode cJ7_fill_53178 4 = .ok (.istore_n 3, 1) := by decide +kernel
theorem dJ7_fill_53178_5 : decode cJ7_fill_53178 5 = .ok (.iload_n 2, 1) := by decide +kernel
theorem dJ7_fill_53178_6 : decode cJ7_fill_53178 6 = .ok (.iload_n 3, 1) := by decide +kernel
theorem dJ7_fill_53178_7 : decode cJ7_fill_53178 7 = .ok (.if_icmp .ge 13, 3) := by decide +kernel
theorem dJ7_fill_53178_10 : decode cJ7_fill_53178 10 = .ok (.aload_n 0, 1) := by decide +kernel
theorem dJ7_fill_53178_11 : decode cJ7_fill_53178 11 = .ok (.iload_n 2, 1) := by decide +kernel
theorem dJ7_fill_53178_12 : decode cJ7_fill_53178 12 = .ok (.iload_n 1, 1) := by decide +kernel
theorem dJ7_fill_53178_13 : decode cJ7_fill_53178 13 = .ok (.iastore, 1) := by decide +kernel
theorem dJ7_fill_53178_14 : decode cJ7_fill_53178 14 = .ok (.iinc 2 1, 3) := by decide +kernel
theorem dJ7_fill_53178_17 : decode cJ7_fill_53178 17 = .ok (.goto (-12), 3) := by decide +kernel
theorem dJ7_fill_53178_20 : decode cJ7_fill_53178 20 = .ok (.return_, 1) := by decide +kernel
theorem dL_cell_0 : decode cL_cell 0 = .ok (.iload_n 1, 1) := by decide +kernel
theorem dL_cell_1 : decode cL_cell 1 = .ok (.aload_n 0, 1) := by decide +kernel
theorem dL_cell_2 : decode cL_cell 2 = .ok (.arraylength, 1) := by decide +kernel
theorem dL_cell_3 : decode cL_cell 3 = .ok (.if_icmp .ge 9, 3) := by decide +kernel
theorem dL_cell_6 : decode cL_cell 6 = .ok (.aload_n 0, 1) := by decide +kernel
theorem dL_cell_7 : decode cL_cell 7 = .ok (.iload_n 1, 1) := by decide +kernel
theorem dL_cell_8 : decode cL_cell 8 = .ok (.iaload, 1) := by decide +kernel
theorem dL_cell_9 : decode cL_cell 9 = .ok (.goto 15, 3) := by decide +kernel
theorem dL_cell_12 : decode cL_cell 12 = .ok (.sipush 7919, 3) := by decide +kernel
theorem dL_cell_15 : decode cL_cell 15 = .ok (.iload_n 1, 1) := by decide +kernel
theorem dL_cell_16 : decode cL_cell 16 = .ok (.iconst 3, 1) := by decide +kernel
theorem dL_cell_17 : decode cL_cell 17 = .ok (.iadd, 1) := by decide +kernel
theorem dL_cell_18 : decode cL_cell 18 = .ok (.imul, 1) := by decide +kernel
theorem dL_cell_19 : decode cL_cell 19 = .ok (.iload_n 1, 1) := by decide +kernel
theorem dL_cell_20 : decode cL_cell 20 = .ok (.bipush 11, 2) := by decide +kernel
theorem dL_cell_22 : decode cL_cell 22 = .ok (.iadd, 1) := by decide +kernel
theorem dL_cell_23 : decode cL_cell 23 = .ok (.imul, 1) := by decide +kernel
theorem dL_cell_24 : decode cL_cell 24 = .ok (.ireturn, 1) := by decide +kernel
theorem dL_low_0 : decode cL_low 0 = .ok (.iload_n 0, 1) := by decide +kernel
theorem dL_low_1 : decode cL_low 1 = .ok (.ldc 7, 2) := by decide +kernel
theorem dL_low_3 : decode cL_low 3 = .ok (.iand, 1) := by decide +kernel
theorem dL_low_4 : decode cL_low 4 = .ok (.iload_n 1, 1) := by decide +kernel
theorem dL_low_5 : decode cL_low 5 = .ok (.irem, 1) := by decide +kernel
theorem dL_low_6 : decode cL_low 6 = .ok (.ireturn, 1) := by decide +kernel
set_option maxRecDepth 20000 in
theorem ggL_digest_X4_count : GoodIn wsL_digest wsX4_count := goodIn_r _ [7, 8, 9, 10, 11, 12, 13, 14, 15, 16, 17, 18, 19, 20, 21, 22, 23, 24, 25, 26, 27, 6, 28, 29, 30, 31, 32, 33, 34, 35, 36, 37, 38, 39, 40, 41, 42, 43, 44, 45, 46, 47, 48, 49, 50, 51, 52, 53, 54, 55, 56, 57, 58, 59, 60, 61, 62, 63, 64, 65, 66, 67, 68, 69, 70, 71, 72, 73, 74, 75, 76, 77, 78, 79, 80, 81, 82, 83, 84, 85, 86, 87, 88, 89, 90, 91, 92, 93, 94, 95, 96, 97, 98, 99, 100, 101, 102, 103, 104, 105, 106, 107, 108, 109, 110, 145, 146, 147, 148, 149, 150, 151, 152, 153, 154, 155, 156, 157, 158, 159, 160, 161, 162] (by decide +kernel) (by decide +kernel)
set_option maxRecDepth 20000 in
theorem gL_digest_X4_count : GoodIn wsL_digest (wsV RL 12 RX4 yX4_count wsX4_count) := goodIn_app (goodIn_of _ (by decide +kernel)) ggL_digest_X4_count
set_option maxRecDepth 20000 in
theorem ggL_digest_X4_at : GoodIn wsL_digest wsX4_at := goodIn_r _ [114, 8, 9, 11, 115, 145, 146, 147, 148, 149, 150, 151, 152, 153, 154, 155, 156, 157, 158] (by decide +kernel) (by decide +kernel)
set_option maxRecDepth 20000 in
theorem gL_digest_X4_at : GoodIn wsL_digest (wsV RL 18 RX4 yX4_at wsX4_at) := goodIn_app (goodIn_of _ (by decide +kernel)) ggL_digest_X4_at
set_option maxRecDepth 20000 in
theorem ggL_digest_X4_spot : GoodIn wsL_digest wsX4_spot := goodIn_r _ [119, 8, 9, 120, 12, 10, 121, 122, 6, 123, 124, 125, 126, 127, 57, 58, 18, 59, 20, 26, 128, 53, 54, 55, 21, 56, 22, 23, 24, 25, 27, 28, 29, 30, 31, 32, 40, 41, 42, 43, 44, 45, 46, 47, 48, 49, 50, 51, 52, 60, 61, 62, 63, 64, 65, 66, 67, 68, 69, 70, 71, 72, 73, 74, 75, 76, 77, 78, 79, 80, 81, 82, 83, 84, 129, 130, 131, 132, 133, 134, 135, 136, 137, 138, 139, 140, 141, 142, 143, 144, 145, 146, 147, 148, 149, 150, 151, 152, 153, 154, 155, 156, 157, 158] (by decide +kernel) (by decide +kernel)
set_option maxRecDepth 20000 in
theorem gL_digest_X4_spot : GoodIn wsL_digest (wsV RL 21 RX4 yX4_spot wsX4_spot) := goodIn_app (goodIn_of _ (by decide +kernel)) ggL_digest_X4_spot
theorem dL_digest_0 : decode cL_digest 0 = .ok (.ldc2_w 8, 3) := by decide +kernel
theorem dL_digest_3 : decode cL_digest 3 = .ok (.lstore_n 1, 1) := by decide +kernel
theorem dL_digest_4 : decode cL_digest 4 = .ok (.iconst 0, 1) := by decide +kernel
theorem dL_digest_5 : decode cL_digest 5 = .ok (.istore_n 3, 1) := by decide +kernel
theorem dL_digest_6 : decode cL_digest 6 = .ok (.iload_n 3, 1) := by decide +kernel
theorem dL_digest_7 : decode cL_digest 7 = .ok (.bipush 11, 2) := by decide +kernel
theorem dL_digest_9 : decode cL_digest 9 = .ok (.if_icmp .ge 22, 3) := by decide +kernel
theorem dL_digest_12 : decode cL_digest 12 = .ok (.ldc2_w 10, 3) := by decide +kernel
theorem dL_digest_15 : decode cL_digest 15 = .ok (.lload_n 1, 1) := by decide +kernel
theorem dL_digest_16 : decode cL_digest 16 = .ok (.lmul, 1) := by decide +kernel
theorem dL_digest_17 : decode cL_digest 17 = .ok (.aload_n 0, 1) := by decide +kernel
theorem dL_digest_18 : decode cL_digest 18 = .ok (.iload_n 3, 1) := by decide +kernel
theorem dL_digest_19 : decode cL_digest 19 = .ok (.invokevirtual 12, 3) := by decide +kernel
theorem dL_digest_22 : decode cL_digest 22 = .ok (.i2l, 1) := by decide +kernel
theorem dL_digest_23 : decode cL_digest 23 = .ok (.ladd, 1) := by decide +kernel
theorem dL_digest_24 : decode cL_digest 24 = .ok (.lstore_n 1, 1) := by decide +kernel
theorem dL_digest_25 : decode cL_digest 25 = .ok (.iinc 3 1, 3) := by decide +kernel
theorem dL_digest_28 : decode cL_digest 28 = .ok (.goto (-22), 3) := by decide +kernel
theorem dL_digest_31 : decode cL_digest 31 = .ok (.iconst 0, 1) := by decide +kernel
theorem dL_digest_32 : decode cL_digest 32 = .ok (.istore_n 3, 1) := by decide +kernel
theorem dL_digest_33 : decode cL_digest 33 = .ok (.iload_n 3, 1) := by decide +kernel
theorem dL_digest_34 : decode cL_digest 34 = .ok (.bipush 12, 2) := by decide +kernel
theorem dL_digest_36 : decode cL_digest 36 = .ok (.if_icmp .ge 22, 3) := by decide +kernel
theorem dL_digest_39 : decode cL_digest 39 = .ok (.ldc2_w 10, 3) := by decide +kernel
theorem dL_digest_42 : decode cL_digest 42 = .ok (.lload_n 1, 1) := by decide +kernel
theorem dL_digest_43 : decode cL_digest 43 = .ok (.lmul, 1) := by decide +kernel
theorem dL_digest_44 : decode cL_digest 44 = .ok (.aload_n 0, 1) := by decide +kernel
theorem dL_digest_45 : decode cL_digest 45 = .ok (.iload_n 3, 1) := by decide +kernel
theorem dL_digest_46 : decode cL_digest 46 = .ok (.invokevirtual 18, 3) := by decide +kernel
theorem dL_digest_49 : decode cL_digest 49 = .ok (.i2l, 1) := by decide +kernel
theorem dL_digest_50 : decode cL_digest 50 = .ok (.ladd, 1) := by decide +kernel
theorem dL_digest_51 : decode cL_digest 51 = .ok (.lstore_n 1, 1) := by decide +kernel
theorem dL_digest_52 : decode cL_digest 52 = .ok (.iinc 3 1, 3) := by decide +kernel
theorem dL_digest_55 : decode cL_digest 55 = .ok (.goto (-22), 3) := by decide +kernel
theorem dL_digest_58 : decode cL_digest 58 = .ok (.iconst 0, 1) := by decide +kernel
theorem dL_digest_59 : decode cL_digest 59 = .ok (.istore_n 3, 1) := by decide +kernel
theorem dL_digest_60 : decode cL_digest 60 = .ok (.iload_n 3, 1) := by decide +kernel
theorem dL_digest_61 : decode cL_digest 61 = .ok (.bipush 64, 2) := by decide +kernel
theorem dL_digest_63 : decode cL_digest 63 = .ok (.if_icmp .ge 44, 3) := by decide +kernel
theorem dL_digest_66 : decode cL_digest 66 = .ok (.ldc2_w 10, 3) := by decide +kernel
theorem dL_digest_69 : decode cL_digest 69 = .ok (.lload_n 1, 1) := by decide +kernel
theorem dL_digest_70 : decode cL_digest 70 = .ok (.lmul, 1) := by decide +kernel
theorem dL_digest_71 : decode cL_digest 71 = .ok (.aload_n 0, 1) := by decide +kernel
theorem dL_digest_72 : decode cL_digest 72 = .ok (.iload_n 3, 1) := by decide +kernel
theorem dL_digest_73 : decode cL_digest 73 = .ok (.iconst 0, 1) := by decide +kernel
theorem dL_digest_74 : decode cL_digest 74 = .ok (.invokevirtual 21, 3) := by decide +kernel
theorem dL_digest_77 : decode cL_digest 77 = .ok (.i2l, 1) := by decide +kernel
theorem dL_digest_78 : decode cL_digest 78 = .ok (.ladd, 1) := by decide +kernel
theorem dL_digest_79 : decode cL_digest 79 = .ok (.iconst 5, 1) := by decide +kernel
theorem dL_digest_80 : decode cL_digest 80 = .ok (.aload_n 0, 1) := by decide +kernel
theorem dL_digest_81 : decode cL_digest 81 = .ok (.iload_n 3, 1) := by decide +kernel
theorem dL_digest_82 : decode cL_digest 82 = .ok (.iconst 1, 1) := by decide +kernel
theorem dL_digest_83 : decode cL_digest 83 = .ok (.invokevirtual 21, 3) := by decide +kernel
theorem dL_digest_86 : decode cL_digest 86 = .ok (.imul, 1) := by decide +kernel
theorem dL_digest_87 : decode cL_digest 87 = .ok (.i2l, 1) := by decide +kernel
theorem dL_digest_88 : decode cL_digest 88 = .ok (.ladd, 1) := by decide +kernel
theorem dL_digest_89 : decode cL_digest 89 = .ok (.bipush 11, 2) := by decide +kernel
theorem dL_digest_91 : decode cL_digest 91 = .ok (.aload_n 0, 1) := by decide +kernel
theorem dL_digest_92 : decode cL_digest 92 = .ok (.iload_n 3, 1) := by decide +kernel
theorem dL_digest_93 : decode cL_digest 93 = .ok (.iconst 2, 1) := by decide +kernel
theorem dL_digest_94 : decode cL_digest 94 = .ok (.invokevirtual 21, 3) := by decide +kernel
theorem dL_digest_97 : decode cL_digest 97 = .ok (.imul, 1) := by decide +kernel
theorem dL_digest_98 : decode cL_digest 98 = .ok (.i2l, 1) := by decide +kernel
theorem dL_digest_99 : decode cL_digest 99 = .ok (.ladd, 1) := by decide +kernel
theorem dL_digest_100 : decode cL_digest 100 = .ok (.lstore_n 1, 1) := by decide +kernel
theorem dL_digest_101 : decode cL_digest 101 = .ok (.iinc 3 1, 3) := by decide +kernel
theorem dL_digest_104 : decode cL_digest 104 = .ok (.goto (-44), 3) := by decide +kernel
theorem dL_digest_107 : decode cL_digest 107 = .ok (.bipush 13, 2) := by decide +kernel
theorem dL_digest_109 : decode cL_digest 109 = .ok (.istore_n 3, 1) := by decide +kernel
theorem dL_digest_110 : decode cL_digest 110 = .ok (.iload_n 3, 1) := by decide +kernel
theorem dL_digest_111 : decode cL_digest 111 = .ok (.bipush 19, 2) := by decide +kernel
theorem dL_digest_113 : decode cL_digest 113 = .ok (.if_icmp .ge 22, 3) := by decide +kernel
theorem dL_digest_116 : decode cL_digest 116 = .ok (.ldc2_w 10, 3) := by decide +kernel
theorem dL_digest_119 : decode cL_digest 119 = .ok (.lload_n 1, 1) := by decide +kernel
theorem dL_digest_120 : decode cL_digest 120 = .ok (.lmul, 1) := by decide +kernel
theorem dL_digest_121 : decode cL_digest 121 = .ok (.aload_n 0, 1) := by decide +kernel
theorem dL_digest_122 : decode cL_digest 122 = .ok (.iload_n 3, 1) := by decide +kernel
theorem dL_digest_123 : decode cL_digest 123 = .ok (.invokevirtual 12, 3) := by decide +kernel
theorem dL_digest_126 : decode cL_digest 126 = .ok (.i2l, 1) := by decide +kernel
theorem dL_digest_127 : decode cL_digest 127 = .ok (.ladd, 1) := by decide +kernel
theorem dL_digest_128 : decode cL_digest 128 = .ok (.lstore_n 1, 1) := by decide +kernel
theorem dL_digest_129 : decode cL_digest 129 = .ok (.iinc 3 1, 3) := by decide +kernel
theorem dL_digest_132 : decode cL_digest 132 = .ok (.goto (-22), 3) := by decide +kernel
theorem dL_digest_135 : decode cL_digest 135 = .ok (.lload_n 1, 1) := by decide +kernel
theorem dL_digest_136 : decode cL_digest 136 = .ok (.lreturn, 1) := by decide +kernel
set_option maxRecDepth 20000 in
theorem ggL_act_L_low : GoodIn wsL_act wsL_low := goodIn_r _ [4, 5] (by decide +kernel) (by decide +kernel)
set_option maxRecDepth 20000 in
theorem gL_act_L_low : GoodIn wsL_act (va_wsS RL 25 yL_low wsL_low) := goodIn_app (goodIn_of _ (by decide +kernel)) ggL_act_L_low
set_option maxRecDepth 20000 in
theorem ggL_act_X4_count : GoodIn wsL_act wsX4_count := goodIn_r _ [10, 11, 12, 13, 14, 15, 16, 17, 18, 19, 20, 21, 22, 23, 24, 25, 26, 27, 28, 29, 30, 9, 31, 32, 33, 34, 35, 36, 37, 38, 39, 40, 41, 42, 43, 44, 45, 46, 47, 48, 49, 50, 51, 52, 53, 54, 55, 56, 57, 58, 59, 60, 61, 62, 63, 64, 65, 66, 67, 68, 69, 70, 71, 72, 73, 74, 75, 76, 77, 78, 79, 80, 81, 82, 83, 84, 85, 86, 87, 88, 89, 90, 91, 92, 93, 94, 95, 96, 97, 98, 99, 100, 101, 102, 103, 104, 105, 106, 107, 108, 109, 110, 111, 112, 113, 236, 237, 238, 239, 240, 241, 242, 243, 244, 245, 246, 247, 248, 249, 250, 251, 252, 253] (by decide +kernel) (by decide +kernel)
set_option maxRecDepth 20000 in
theorem gL_act_X4_count : GoodIn wsL_act (wsV RL 12 RX4 yX4_count wsX4_count) := goodIn_app (goodIn_of _ (by decide +kernel)) ggL_act_X4_count
set_option maxRecDepth 20000 in
theorem ggL_act_X4_at : GoodIn wsL_act wsX4_at := goodIn_r _ [117, 11, 12, 14, 118, 236, 237, 238, 239, 240, 241, 242, 243, 244, 245, 246, 247, 248, 249] (by decide +kernel) (by decide +kernel)
set_option maxRecDepth 20000 in
theorem gL_act_X4_at : GoodIn wsL_act (wsV RL 18 RX4 yX4_at wsX4_at) := goodIn_app (goodIn_of _ (by decide +kernel)) ggL_act_X4_at
set_option maxRecDepth 20000 in
theorem ggL_act_X4_set : GoodIn wsL_act wsX4_set := goodIn_r _ [122, 11, 12, 123, 124, 125, 9, 126, 127, 16, 128, 129, 130, 101, 131, 132, 133, 103, 134, 135, 136, 21, 137, 67, 138, 139, 140, 141, 29, 23, 92, 24, 142, 143, 144, 145, 146, 147, 148, 149, 150, 151, 152, 153, 154, 155, 236, 237, 238, 239, 240, 241, 242, 243, 244, 245, 246, 247, 248, 249] (by decide +kernel) (by decide +kernel)
set_option maxRecDepth 20000 in
theorem gL_act_X4_set : GoodIn wsL_act (wsV RL 30 RX4 yX4_set wsX4_set) := goodIn_app (goodIn_of _ (by decide +kernel)) ggL_act_X4_set
set_option maxRecDepth 20000 in
theorem ggL_act_X4_setPhosphor : GoodIn wsL_act wsX4_setPhosphor := goodIn_r _ [159, 11, 12, 123, 124, 125, 9, 126, 127, 16, 128, 129, 130, 101, 131, 132, 133, 103, 134, 135, 136, 21, 137, 67, 138, 139, 140, 141, 29, 23, 92, 24, 160, 161, 162, 163, 164, 165, 166, 167, 148, 149, 150, 151, 152, 153, 154, 155, 236, 237, 238, 239, 240, 241, 242, 243, 244, 245, 246, 247, 248, 249] (by decide +kernel) (by decide +kernel)
set_option maxRecDepth 20000 in
theorem gL_act_X4_setPhosphor : GoodIn wsL_act (wsV RL 33 RX4 yX4_setPhosphor wsX4_setPhosphor) := goodIn_app (goodIn_of _ (by decide +kernel)) ggL_act_X4_setPhosphor
