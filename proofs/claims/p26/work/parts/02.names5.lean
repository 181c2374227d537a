set_option maxRecDepth 20000 in
theorem ggL_act_X4_darken : GoodIn wsL_act wsX4_darken := goodIn_r _ [171, 11, 12, 123, 124, 125, 9, 126, 127, 16, 128, 129, 130, 101, 131, 132, 133, 103, 134, 135, 136, 21, 137, 67, 138, 139, 140, 141, 29, 23, 92, 24, 172, 173, 174, 175, 164, 165, 59, 60, 61, 62, 148, 149, 150, 151, 152, 153, 154, 155, 236, 237, 238, 239, 240, 241, 242, 243, 244, 245, 246, 247, 248, 249] (by decide +kernel) (by decide +kernel)
set_option maxRecDepth 20000 in
theorem gL_act_X4_darken : GoodIn wsL_act (wsV RL 36 RX4 yX4_darken wsX4_darken) := goodIn_app (goodIn_of _ (by decide +kernel)) ggL_act_X4_darken
set_option maxRecDepth 20000 in
theorem ggL_act_X4_exchange : GoodIn wsL_act wsX4_exchange := goodIn_r _ [179, 11, 12, 123, 124, 125, 9, 126, 127, 16, 128, 129, 130, 101, 131, 132, 133, 103, 134, 135, 136, 21, 137, 67, 138, 139, 140, 141, 29, 23, 92, 24, 180, 181, 182, 183, 184, 185, 186, 187, 188, 19, 20, 22, 25, 26, 27, 28, 30, 31, 32, 33, 34, 35, 148, 149, 150, 151, 152, 153, 154, 155, 236, 237, 238, 239, 240, 241, 242, 243, 244, 245, 246, 247, 248, 249] (by decide +kernel) (by decide +kernel)
set_option maxRecDepth 20000 in
theorem gL_act_X4_exchange : GoodIn wsL_act (wsV RL 39 RX4 yX4_exchange wsX4_exchange) := goodIn_app (goodIn_of _ (by decide +kernel)) ggL_act_X4_exchange
set_option maxRecDepth 20000 in
theorem ggL_act_X4_sort : GoodIn wsL_act wsX4_sort := goodIn_r _ [192, 11, 12, 123, 124, 125, 9, 126, 127, 16, 128, 129, 130, 101, 131, 132, 133, 103, 134, 135, 136, 21, 137, 67, 138, 139, 140, 141, 29, 23, 92, 24, 193, 194, 195, 196, 197, 198, 199, 200, 201, 202, 30, 31, 32, 33, 34, 35, 203, 204, 205, 68, 69, 70, 71, 72, 184, 185, 186, 187, 188, 19, 20, 22, 25, 26, 27, 28, 148, 149, 150, 151, 152, 153, 154, 155, 236, 237, 238, 239, 240, 241, 242, 243, 244, 245, 246, 247, 248, 249] (by decide +kernel) (by decide +kernel)
set_option maxRecDepth 20000 in
theorem gL_act_X4_sort : GoodIn wsL_act (wsV RL 42 RX4 yX4_sort wsX4_sort) := goodIn_app (goodIn_of _ (by decide +kernel)) ggL_act_X4_sort
set_option maxRecDepth 20000 in
theorem ggL_act_X4_draw : GoodIn wsL_act wsX4_draw := goodIn_r _ [209, 11, 12, 123, 124, 125, 9, 126, 127, 16, 128, 129, 130, 101, 131, 132, 133, 103, 134, 135, 136, 21, 137, 67, 138, 139, 140, 141, 29, 23, 92, 24, 210, 211, 212, 213, 214, 164, 165, 215, 37, 38, 39, 40, 41, 42, 148, 149, 150, 151, 152, 153, 154, 155, 236, 237, 238, 239, 240, 241, 242, 243, 244, 245, 246, 247, 248, 249] (by decide +kernel) (by decide +kernel)
set_option maxRecDepth 20000 in
theorem gL_act_X4_draw : GoodIn wsL_act (wsV RL 45 RX4 yX4_draw wsX4_draw) := goodIn_app (goodIn_of _ (by decide +kernel)) ggL_act_X4_draw
set_option maxRecDepth 20000 in
theorem ggL_act_X4_take : GoodIn wsL_act wsX4_take := goodIn_r _ [219, 11, 123, 124, 125, 9, 126, 127, 16, 128, 129, 130, 101, 131, 132, 133, 103, 134, 135, 136, 21, 137, 67, 138, 139, 140, 141, 29, 23, 92, 24, 220, 221, 222, 223, 224, 225, 226, 227, 148, 149, 150, 151, 152, 153, 154, 155, 236, 237, 238, 239, 240, 241, 242, 243, 244, 245, 246, 247, 248, 249] (by decide +kernel) (by decide +kernel)
set_option maxRecDepth 20000 in
theorem gL_act_X4_take : GoodIn wsL_act (wsV RL 49 RX4 yX4_take wsX4_take) := goodIn_app (goodIn_of _ (by decide +kernel)) ggL_act_X4_take
set_option maxRecDepth 20000 in
theorem ggL_act_X4_light : GoodIn wsL_act wsX4_light := goodIn_r _ [231, 11, 12, 123, 124, 125, 9, 126, 127, 16, 128, 129, 130, 101, 131, 132, 133, 103, 134, 135, 136, 21, 137, 67, 138, 139, 140, 141, 29, 23, 92, 24, 232, 233, 234, 235, 164, 165, 59, 60, 61, 62, 148, 149, 150, 151, 152, 153, 154, 155, 236, 237, 238, 239, 240, 241, 242, 243, 244, 245, 246, 247, 248, 249] (by decide +kernel) (by decide +kernel)
set_option maxRecDepth 20000 in
theorem gL_act_X4_light : GoodIn wsL_act (wsV RL 52 RX4 yX4_light wsX4_light) := goodIn_app (goodIn_of _ (by decide +kernel)) ggL_act_X4_light
theorem dL_act_0 : decode cL_act 0 = .ok (.iload_n 1, 1) := by decide +kernel
theorem dL_act_1 : decode cL_act 1 = .ok (.iconst 4, 1) := by decide +kernel
theorem dL_act_2 : decode cL_act 2 = .ok (.ishr, 1) := by decide +kernel
theorem dL_act_3 : decode cL_act 3 = .ok (.bipush 64, 2) := by decide +kernel
theorem dL_act_5 : decode cL_act 5 = .ok (.invokestatic 25, 3) := by decide +kernel
theorem dL_act_8 : decode cL_act 8 = .ok (.istore_n 2, 1) := by decide +kernel
theorem dL_act_9 : decode cL_act 9 = .ok (.aload_n 0, 1) := by decide +kernel
theorem dL_act_10 : decode cL_act 10 = .ok (.iload_n 1, 1) := by decide +kernel
theorem dL_act_11 : decode cL_act 11 = .ok (.iconst 4, 1) := by decide +kernel
theorem dL_act_12 : decode cL_act 12 = .ok (.ishr, 1) := by decide +kernel
theorem dL_act_13 : decode cL_act 13 = .ok (.aload_n 0, 1) := by decide +kernel
theorem dL_act_14 : decode cL_act 14 = .ok (.iconst 0, 1) := by decide +kernel
theorem dL_act_15 : decode cL_act 15 = .ok (.invokevirtual 12, 3) := by decide +kernel
theorem dL_act_18 : decode cL_act 18 = .ok (.iconst 1, 1) := by decide +kernel
theorem dL_act_19 : decode cL_act 19 = .ok (.iadd, 1) := by decide +kernel
theorem dL_act_20 : decode cL_act 20 = .ok (.invokestatic 25, 3) := by decide +kernel
theorem dL_act_23 : decode cL_act 23 = .ok (.invokevirtual 18, 3) := by decide +kernel
theorem dL_act_26 : decode cL_act 26 = .ok (.istore_n 3, 1) := by decide +kernel
theorem dL_act_27 : decode cL_act 27 = .ok (.iload_n 3, 1) := by decide +kernel
theorem dL_act_28 : decode cL_act 28 = .ok (.ifCond .ge 7, 3) := by decide +kernel
theorem dL_act_31 : decode cL_act 31 = .ok (.iload_n 2, 1) := by decide +kernel
theorem dL_act_32 : decode cL_act 32 = .ok (.goto 4, 3) := by decide +kernel
theorem dL_act_35 : decode cL_act 35 = .ok (.iload_n 3, 1) := by decide +kernel
theorem dL_act_36 : decode cL_act 36 = .ok (.istore 4, 2) := by decide +kernel
theorem dL_act_38 : decode cL_act 38 = .ok (.iload_n 1, 1) := by decide +kernel
theorem dL_act_39 : decode cL_act 39 = .ok (.bipush 15, 2) := by decide +kernel
theorem dL_act_41 : decode cL_act 41 = .ok (.iand, 1) := by decide +kernel
theorem dL_act_42 : decode cL_act 42 = .ok (.tableswitch 253 0 12 #[66, 83, 98, 125, 140, 156, 156, 171, 178, 210, 222, 222, 243], 66) := by decide +kernel
theorem dL_act_108 : decode cL_act 108 = .ok (.aload_n 0, 1) := by decide +kernel
theorem dL_act_109 : decode cL_act 109 = .ok (.iconst 0, 1) := by decide +kernel
theorem dL_act_110 : decode cL_act 110 = .ok (.bipush 8, 2) := by decide +kernel
theorem dL_act_112 : decode cL_act 112 = .ok (.iload_n 1, 1) := by decide +kernel
theorem dL_act_113 : decode cL_act 113 = .ok (.iconst 4, 1) := by decide +kernel
theorem dL_act_114 : decode cL_act 114 = .ok (.ishr, 1) := by decide +kernel
theorem dL_act_115 : decode cL_act 115 = .ok (.bipush 120, 2) := by decide +kernel
theorem dL_act_117 : decode cL_act 117 = .ok (.invokestatic 25, 3) := by decide +kernel
theorem dL_act_120 : decode cL_act 120 = .ok (.iadd, 1) := by decide +kernel
theorem dL_act_121 : decode cL_act 121 = .ok (.invokevirtual 30, 3) := by decide +kernel
theorem dL_act_124 : decode cL_act 124 = .ok (.ireturn, 1) := by decide +kernel
theorem dL_act_125 : decode cL_act 125 = .ok (.aload_n 0, 1) := by decide +kernel
theorem dL_act_126 : decode cL_act 126 = .ok (.iconst 1, 1) := by decide +kernel
theorem dL_act_127 : decode cL_act 127 = .ok (.iconst 1, 1) := by decide +kernel
theorem dL_act_128 : decode cL_act 128 = .ok (.iload_n 1, 1) := by decide +kernel
theorem dL_act_129 : decode cL_act 129 = .ok (.iconst 4, 1) := by decide +kernel
theorem dL_act_130 : decode cL_act 130 = .ok (.ishr, 1) := by decide +kernel
theorem dL_act_131 : decode cL_act 131 = .ok (.iconst 4, 1) := by decide +kernel
theorem dL_act_132 : decode cL_act 132 = .ok (.invokestatic 25, 3) := by decide +kernel
theorem dL_act_135 : decode cL_act 135 = .ok (.iadd, 1) := by decide +kernel
theorem dL_act_136 : decode cL_act 136 = .ok (.invokevirtual 30, 3) := by decide +kernel
theorem dL_act_139 : decode cL_act 139 = .ok (.ireturn, 1) := by decide +kernel
theorem dL_act_140 : decode cL_act 140 = .ok (.aload_n 0, 1) := by decide +kernel
theorem dL_act_141 : decode cL_act 141 = .ok (.iconst 2, 1) := by decide +kernel
theorem dL_act_142 : decode cL_act 142 = .ok (.iload_n 1, 1) := by decide +kernel
theorem dL_act_143 : decode cL_act 143 = .ok (.iconst 4, 1) := by decide +kernel
theorem dL_act_144 : decode cL_act 144 = .ok (.ishr, 1) := by decide +kernel
theorem dL_act_145 : decode cL_act 145 = .ok (.iconst 2, 1) := by decide +kernel
theorem dL_act_146 : decode cL_act 146 = .ok (.invokestatic 25, 3) := by decide +kernel
theorem dL_act_149 : decode cL_act 149 = .ok (.iconst 3, 1) := by decide +kernel
theorem dL_act_150 : decode cL_act 150 = .ok (.imul, 1) := by decide +kernel
theorem dL_act_151 : decode cL_act 151 = .ok (.iadd, 1) := by decide +kernel
theorem dL_act_152 : decode cL_act 152 = .ok (.iconst 1, 1) := by decide +kernel
theorem dL_act_153 : decode cL_act 153 = .ok (.iload_n 1, 1) := by decide +kernel
theorem dL_act_154 : decode cL_act 154 = .ok (.bipush 6, 2) := by decide +kernel
theorem dL_act_156 : decode cL_act 156 = .ok (.ishr, 1) := by decide +kernel
theorem dL_act_157 : decode cL_act 157 = .ok (.bipush 100, 2) := by decide +kernel
theorem dL_act_159 : decode cL_act 159 = .ok (.invokestatic 25, 3) := by decide +kernel
theorem dL_act_162 : decode cL_act 162 = .ok (.iadd, 1) := by decide +kernel
theorem dL_act_163 : decode cL_act 163 = .ok (.invokevirtual 30, 3) := by decide +kernel
theorem dL_act_166 : decode cL_act 166 = .ok (.ireturn, 1) := by decide +kernel
theorem dL_act_167 : decode cL_act 167 = .ok (.aload_n 0, 1) := by decide +kernel
theorem dL_act_168 : decode cL_act 168 = .ok (.iconst 3, 1) := by decide +kernel
theorem dL_act_169 : decode cL_act 169 = .ok (.iload_n 1, 1) := by decide +kernel
theorem dL_act_170 : decode cL_act 170 = .ok (.iconst 4, 1) := by decide +kernel
theorem dL_act_171 : decode cL_act 171 = .ok (.ishr, 1) := by decide +kernel
theorem dL_act_172 : decode cL_act 172 = .ok (.sipush 200, 3) := by decide +kernel
theorem dL_act_175 : decode cL_act 175 = .ok (.invokestatic 25, 3) := by decide +kernel
theorem dL_act_178 : decode cL_act 178 = .ok (.invokevirtual 30, 3) := by decide +kernel
theorem dL_act_181 : decode cL_act 181 = .ok (.ireturn, 1) := by decide +kernel
theorem dL_act_182 : decode cL_act 182 = .ok (.aload_n 0, 1) := by decide +kernel
theorem dL_act_183 : decode cL_act 183 = .ok (.iconst 4, 1) := by decide +kernel
theorem dL_act_184 : decode cL_act 184 = .ok (.iconst 1, 1) := by decide +kernel
theorem dL_act_185 : decode cL_act 185 = .ok (.iload_n 1, 1) := by decide +kernel
theorem dL_act_186 : decode cL_act 186 = .ok (.iconst 4, 1) := by decide +kernel
theorem dL_act_187 : decode cL_act 187 = .ok (.ishr, 1) := by decide +kernel
theorem dL_act_188 : decode cL_act 188 = .ok (.bipush 50, 2) := by decide +kernel
theorem dL_act_190 : decode cL_act 190 = .ok (.invokestatic 25, 3) := by decide +kernel
theorem dL_act_193 : decode cL_act 193 = .ok (.iadd, 1) := by decide +kernel
theorem dL_act_194 : decode cL_act 194 = .ok (.invokevirtual 30, 3) := by decide +kernel
theorem dL_act_197 : decode cL_act 197 = .ok (.ireturn, 1) := by decide +kernel
theorem dL_act_198 : decode cL_act 198 = .ok (.aload_n 0, 1) := by decide +kernel
theorem dL_act_199 : decode cL_act 199 = .ok (.iload 4, 2) := by decide +kernel
theorem dL_act_201 : decode cL_act 201 = .ok (.iload_n 1, 1) := by decide +kernel
theorem dL_act_202 : decode cL_act 202 = .ok (.bipush 10, 2) := by decide +kernel
theorem dL_act_204 : decode cL_act 204 = .ok (.ishr, 1) := by decide +kernel
theorem dL_act_205 : decode cL_act 205 = .ok (.iconst 4, 1) := by decide +kernel
theorem dL_act_206 : decode cL_act 206 = .ok (.invokestatic 25, 3) := by decide +kernel
theorem dL_act_209 : decode cL_act 209 = .ok (.invokevirtual 33, 3) := by decide +kernel
theorem dL_act_212 : decode cL_act 212 = .ok (.ireturn, 1) := by decide +kernel
theorem dL_act_213 : decode cL_act 213 = .ok (.aload_n 0, 1) := by decide +kernel
theorem dL_act_214 : decode cL_act 214 = .ok (.iload 4, 2) := by decide +kernel
theorem dL_act_216 : decode cL_act 216 = .ok (.invokevirtual 36, 3) := by decide +kernel
theorem dL_act_219 : decode cL_act 219 = .ok (.ireturn, 1) := by decide +kernel
theorem dL_act_220 : decode cL_act 220 = .ok (.aload_n 0, 1) := by decide +kernel
theorem dL_act_221 : decode cL_act 221 = .ok (.iload_n 1, 1) := by decide +kernel
theorem dL_act_222 : decode cL_act 222 = .ok (.iconst 4, 1) := by decide +kernel
theorem dL_act_223 : decode cL_act 223 = .ok (.ishr, 1) := by decide +kernel
theorem dL_act_224 : decode cL_act 224 = .ok (.aload_n 0, 1) := by decide +kernel
theorem dL_act_225 : decode cL_act 225 = .ok (.iconst 0, 1) := by decide +kernel
theorem dL_act_226 : decode cL_act 226 = .ok (.invokevirtual 12, 3) := by decide +kernel
theorem dL_act_229 : decode cL_act 229 = .ok (.iconst 1, 1) := by decide +kernel
theorem dL_act_230 : decode cL_act 230 = .ok (.iadd, 1) := by decide +kernel
theorem dL_act_231 : decode cL_act 231 = .ok (.invokestatic 25, 3) := by decide +kernel
theorem dL_act_234 : decode cL_act 234 = .ok (.iload_n 1, 1) := by decide +kernel
theorem dL_act_235 : decode cL_act 235 = .ok (.bipush 8, 2) := by decide +kernel
theorem dL_act_237 : decode cL_act 237 = .ok (.ishr, 1) := by decide +kernel
theorem dL_act_238 : decode cL_act 238 = .ok (.aload_n 0, 1) := by decide +kernel
theorem dL_act_239 : decode cL_act 239 = .ok (.iconst 0, 1) := by decide +kernel
theorem dL_act_240 : decode cL_act 240 = .ok (.invokevirtual 12, 3) := by decide +kernel
theorem dL_act_243 : decode cL_act 243 = .ok (.iconst 1, 1) := by decide +kernel
theorem dL_act_244 : decode cL_act 244 = .ok (.iadd, 1) := by decide +kernel
theorem dL_act_245 : decode cL_act 245 = .ok (.invokestatic 25, 3) := by decide +kernel
theorem dL_act_248 : decode cL_act 248 = .ok (.invokevirtual 39, 3) := by decide +kernel
theorem dL_act_251 : decode cL_act 251 = .ok (.ireturn, 1) := by decide +kernel
theorem dL_act_252 : decode cL_act 252 = .ok (.aload_n 0, 1) := by decide +kernel
theorem dL_act_253 : decode cL_act 253 = .ok (.iload_n 1, 1) := by decide +kernel
theorem dL_act_254 : decode cL_act 254 = .ok (.iconst 4, 1) := by decide +kernel
theorem dL_act_255 : decode cL_act 255 = .ok (.ishr, 1) := by decide +kernel
theorem dL_act_256 : decode cL_act 256 = .ok (.iconst 4, 1) := by decide +kernel
theorem dL_act_257 : decode cL_act 257 = .ok (.invokestatic 25, 3) := by decide +kernel
theorem dL_act_260 : decode cL_act 260 = .ok (.invokevirtual 42, 3) := by decide +kernel
theorem dL_act_263 : decode cL_act 263 = .ok (.ireturn, 1) := by decide +kernel
theorem dL_act_264 : decode cL_act 264 = .ok (.aload_n 0, 1) := by decide +kernel
theorem dL_act_265 : decode cL_act 265 = .ok (.iload_n 1, 1) := by decide +kernel
theorem dL_act_266 : decode cL_act 266 = .ok (.bipush 12, 2) := by decide +kernel
theorem dL_act_268 : decode cL_act 268 = .ok (.ishr, 1) := by decide +kernel
theorem dL_act_269 : decode cL_act 269 = .ok (.iconst 1, 1) := by decide +kernel
theorem dL_act_270 : decode cL_act 270 = .ok (.iand, 1) := by decide +kernel
theorem dL_act_271 : decode cL_act 271 = .ok (.iload 4, 2) := by decide +kernel
theorem dL_act_273 : decode cL_act 273 = .ok (.iload_n 1, 1) := by decide +kernel
theorem dL_act_274 : decode cL_act 274 = .ok (.bipush 13, 2) := by decide +kernel
theorem dL_act_276 : decode cL_act 276 = .ok (.ishr, 1) := by decide +kernel
theorem dL_act_277 : decode cL_act 277 = .ok (.iconst 3, 1) := by decide +kernel
theorem dL_act_278 : decode cL_act 278 = .ok (.iand, 1) := by decide +kernel
theorem dL_act_279 : decode cL_act 279 = .ok (.iconst 1, 1) := by decide +kernel
theorem dL_act_280 : decode cL_act 280 = .ok (.iand, 1) := by decide +kernel
theorem dL_act_281 : decode cL_act 281 = .ok (.invokevirtual 45, 3) := by decide +kernel
theorem dL_act_284 : decode cL_act 284 = .ok (.ireturn, 1) := by decide +kernel
theorem dL_act_285 : decode cL_act 285 = .ok (.aload_n 0, 1) := by decide +kernel
theorem dL_act_286 : decode cL_act 286 = .ok (.iload_n 1, 1) := by decide +kernel
theorem dL_act_287 : decode cL_act 287 = .ok (.iconst 4, 1) := by decide +kernel
theorem dL_act_288 : decode cL_act 288 = .ok (.ishr, 1) := by decide +kernel
theorem dL_act_289 : decode cL_act 289 = .ok (.iconst 1, 1) := by decide +kernel
theorem dL_act_290 : decode cL_act 290 = .ok (.iand, 1) := by decide +kernel
theorem dL_act_291 : decode cL_act 291 = .ok (.invokevirtual 49, 3) := by decide +kernel
theorem dL_act_294 : decode cL_act 294 = .ok (.ireturn, 1) := by decide +kernel
theorem dL_act_295 : decode cL_act 295 = .ok (.aload_n 0, 1) := by decide +kernel
theorem dL_act_296 : decode cL_act 296 = .ok (.iload_n 2, 1) := by decide +kernel
theorem dL_act_297 : decode cL_act 297 = .ok (.invokevirtual 52, 3) := by decide +kernel
theorem dL_act_300 : decode cL_act 300 = .ok (.ireturn, 1) := by decide +kernel
set_option maxRecDepth 20000 in
theorem ggL_isRow_X4_count : GoodIn wsL_isRow wsX4_count := goodIn_r _ [5, 6, 7, 8, 9, 10, 11, 12, 13, 14, 15, 16, 17, 18, 19, 20, 21, 22, 23, 24, 25, 4, 26, 27, 28, 29, 30, 31, 32, 33, 34, 35, 36, 37, 38, 39, 40, 41, 42, 43, 44, 45, 46, 47, 48, 49, 50, 51, 52, 53, 54, 55, 56, 57, 58, 59, 60, 61, 62, 63, 64, 65, 66, 67, 68, 69, 70, 71, 72, 73, 74, 75, 76, 77, 78, 79, 80, 81, 82, 83, 84, 85, 86, 87, 88, 89, 90, 91, 92, 93, 94, 95, 96, 97, 98, 99, 100, 101, 102, 103, 104, 105, 106, 107, 108, 148, 149, 150, 151, 152, 153, 154, 155, 156, 157, 158, 159, 160, 161, 162, 163, 164, 165] (by decide +kernel) (by decide +kernel)
set_option maxRecDepth 20000 in
theorem gL_isRow_X4_count : GoodIn wsL_isRow (wsV RL 12 RX4 yX4_count wsX4_count) := goodIn_app (goodIn_of _ (by decide +kernel)) ggL_isRow_X4_count
set_option maxRecDepth 20000 in
theorem ggL_isRow_X4_at : GoodIn wsL_isRow wsX4_at := goodIn_r _ [112, 6, 7, 9, 113, 148, 149, 150, 151, 152, 153, 154, 155, 156, 157, 158, 159, 160, 161] (by decide +kernel) (by decide +kernel)
set_option maxRecDepth 20000 in
theorem gL_isRow_X4_at : GoodIn wsL_isRow (wsV RL 18 RX4 yX4_at wsX4_at) := goodIn_app (goodIn_of _ (by decide +kernel)) ggL_isRow_X4_at
set_option maxRecDepth 20000 in
theorem ggL_isRow_X4_spot : GoodIn wsL_isRow wsX4_spot := goodIn_r _ [117, 6, 7, 118, 10, 8, 119, 120, 4, 121, 122, 123, 124, 125, 55, 56, 16, 57, 18, 24, 126, 51, 52, 53, 19, 54, 20, 21, 22, 23, 25, 26, 27, 28, 29, 30, 38, 39, 40, 41, 42, 43, 44, 45, 46, 47, 48, 49, 50, 58, 59, 60, 61, 62, 63, 64, 65, 66, 67, 68, 69, 70, 71, 72, 73, 74, 75, 76, 77, 78, 79, 80, 81, 82, 127, 128, 129, 130, 131, 132, 133, 134, 135, 136, 137, 138, 139, 140, 141, 142, 148, 149, 150, 151, 152, 153, 154, 155, 156, 157, 158, 159, 160, 161] (by decide +kernel) (by decide +kernel)
set_option maxRecDepth 20000 in
theorem gL_isRow_X4_spot : GoodIn wsL_isRow (wsV RL 21 RX4 yX4_spot wsX4_spot) := goodIn_app (goodIn_of _ (by decide +kernel)) ggL_isRow_X4_spot
set_option maxRecDepth 20000 in
theorem ggL_isRow_X4_brightness : GoodIn wsL_isRow wsX4_brightness := goodIn_r _ [146, 6, 7, 8, 119, 120, 4, 121, 126, 51, 52, 16, 53, 19, 54, 55, 56, 57, 18, 24, 20, 21, 22, 23, 25, 26, 27, 28, 29, 30, 147, 59, 60, 61, 62, 63, 64, 65, 66, 67, 148, 149, 150, 151, 152, 153, 154, 155, 156, 157, 158, 159, 160, 161] (by decide +kernel) (by decide +kernel)
set_option maxRecDepth 20000 in
theorem gL_isRow_X4_brightness : GoodIn wsL_isRow (wsV RL 55 RX4 yX4_brightness wsX4_brightness) := goodIn_app (goodIn_of _ (by decide +kernel)) ggL_isRow_X4_brightness
theorem dL_isRow_0 : decode cL_isRow 0 = .ok (.aload_n 0, 1) := by decide +kernel
theorem dL_isRow_1 : decode cL_isRow 1 = .ok (.iconst 0, 1) := by decide +kernel
theorem dL_isRow_2 : decode cL_isRow 2 = .ok (.invokevirtual 12, 3) := by decide +kernel
theorem dL_isRow_5 : decode cL_isRow 5 = .ok (.istore_n 1, 1) := by decide +kernel
theorem dL_isRow_6 : decode cL_isRow 6 = .ok (.iconst 0, 1) := by decide +kernel
theorem dL_isRow_7 : decode cL_isRow 7 = .ok (.istore_n 2, 1) := by decide +kernel
theorem dL_isRow_8 : decode cL_isRow 8 = .ok (.iconst 0, 1) := by decide +kernel
theorem dL_isRow_9 : decode cL_isRow 9 = .ok (.istore_n 3, 1) := by decide +kernel
theorem dL_isRow_10 : decode cL_isRow 10 = .ok (.iconst 0, 1) := by decide +kernel
theorem dL_isRow_11 : decode cL_isRow 11 = .ok (.istore 4, 2) := by decide +kernel
theorem dL_isRow_13 : decode cL_isRow 13 = .ok (.iconst 0, 1) := by decide +kernel
theorem dL_isRow_14 : decode cL_isRow 14 = .ok (.istore 5, 2) := by decide +kernel
theorem dL_isRow_16 : decode cL_isRow 16 = .ok (.iload 5, 2) := by decide +kernel
theorem dL_isRow_18 : decode cL_isRow 18 = .ok (.iload_n 1, 1) := by decide +kernel
theorem dL_isRow_19 : decode cL_isRow 19 = .ok (.if_icmp .ge 106, 3) := by decide +kernel
theorem dL_isRow_22 : decode cL_isRow 22 = .ok (.aload_n 0, 1) := by decide +kernel
theorem dL_isRow_23 : decode cL_isRow 23 = .ok (.iload 5, 2) := by decide +kernel
theorem dL_isRow_25 : decode cL_isRow 25 = .ok (.invokevirtual 18, 3) := by decide +kernel
theorem dL_isRow_28 : decode cL_isRow 28 = .ok (.istore 6, 2) := by decide +kernel
theorem dL_isRow_30 : decode cL_isRow 30 = .ok (.aload_n 0, 1) := by decide +kernel
theorem dL_isRow_31 : decode cL_isRow 31 = .ok (.iload 6, 2) := by decide +kernel
theorem dL_isRow_33 : decode cL_isRow 33 = .ok (.iconst 4, 1) := by decide +kernel
theorem dL_isRow_34 : decode cL_isRow 34 = .ok (.invokevirtual 21, 3) := by decide +kernel
theorem dL_isRow_37 : decode cL_isRow 37 = .ok (.istore 7, 2) := by decide +kernel
theorem dL_isRow_39 : decode cL_isRow 39 = .ok (.aload_n 0, 1) := by decide +kernel
theorem dL_isRow_40 : decode cL_isRow 40 = .ok (.iload 6, 2) := by decide +kernel
theorem dL_isRow_42 : decode cL_isRow 42 = .ok (.iconst 3, 1) := by decide +kernel
theorem dL_isRow_43 : decode cL_isRow 43 = .ok (.invokevirtual 21, 3) := by decide +kernel
theorem dL_isRow_46 : decode cL_isRow 46 = .ok (.iload 5, 2) := by decide +kernel
theorem dL_isRow_48 : decode cL_isRow 48 = .ok (.if_icmp .ne 32, 3) := by decide +kernel
theorem dL_isRow_51 : decode cL_isRow 51 = .ok (.iload 7, 2) := by decide +kernel
theorem dL_isRow_53 : decode cL_isRow 53 = .ok (.ifCond .lt 29, 3) := by decide +kernel
theorem dL_isRow_56 : decode cL_isRow 56 = .ok (.iload 4, 2) := by decide +kernel
theorem dL_isRow_58 : decode cL_isRow 58 = .ok (.ifCond .ne 22, 3) := by decide +kernel
theorem dL_isRow_61 : decode cL_isRow 61 = .ok (.iload 7, 2) := by decide +kernel
theorem dL_isRow_63 : decode cL_isRow 63 = .ok (.iload_n 3, 1) := by decide +kernel
theorem dL_isRow_64 : decode cL_isRow 64 = .ok (.if_icmp .le 16, 3) := by decide +kernel
theorem dL_isRow_67 : decode cL_isRow 67 = .ok (.aload_n 0, 1) := by decide +kernel
theorem dL_isRow_68 : decode cL_isRow 68 = .ok (.iload 6, 2) := by decide +kernel
theorem dL_isRow_70 : decode cL_isRow 70 = .ok (.iload 7, 2) := by decide +kernel
theorem dL_isRow_72 : decode cL_isRow 72 = .ok (.invokevirtual 55, 3) := by decide +kernel
theorem dL_isRow_75 : decode cL_isRow 75 = .ok (.bipush 100, 2) := by decide +kernel
theorem dL_isRow_77 : decode cL_isRow 77 = .ok (.if_icmp .eq 5, 3) := by decide +kernel
theorem dL_isRow_80 : decode cL_isRow 80 = .ok (.iconst 0, 1) := by decide +kernel
theorem dL_isRow_81 : decode cL_isRow 81 = .ok (.ireturn, 1) := by decide +kernel
theorem dL_isRow_82 : decode cL_isRow 82 = .ok (.iload 7, 2) := by decide +kernel
theorem dL_isRow_84 : decode cL_isRow 84 = .ok (.ifCond .ge 7, 3) := by decide +kernel
theorem dL_isRow_87 : decode cL_isRow 87 = .ok (.iconst 1, 1) := by decide +kernel
theorem dL_isRow_88 : decode cL_isRow 88 = .ok (.goto 4, 3) := by decide +kernel
theorem dL_isRow_91 : decode cL_isRow 91 = .ok (.iconst 0, 1) := by decide +kernel
theorem dL_isRow_92 : decode cL_isRow 92 = .ok (.istore 4, 2) := by decide +kernel
theorem dL_isRow_94 : decode cL_isRow 94 = .ok (.iload 7, 2) := by decide +kernel
theorem dL_isRow_96 : decode cL_isRow 96 = .ok (.ifCond .ge 7, 3) := by decide +kernel
theorem dL_isRow_99 : decode cL_isRow 99 = .ok (.iload_n 3, 1) := by decide +kernel
theorem dL_isRow_100 : decode cL_isRow 100 = .ok (.goto 5, 3) := by decide +kernel
theorem dL_isRow_103 : decode cL_isRow 103 = .ok (.iload 7, 2) := by decide +kernel
theorem dL_isRow_105 : decode cL_isRow 105 = .ok (.istore_n 3, 1) := by decide +kernel
theorem dL_isRow_106 : decode cL_isRow 106 = .ok (.iload_n 2, 1) := by decide +kernel
theorem dL_isRow_107 : decode cL_isRow 107 = .ok (.iload 7, 2) := by decide +kernel
theorem dL_isRow_109 : decode cL_isRow 109 = .ok (.ifCond .ge 7, 3) := by decide +kernel
theorem dL_isRow_112 : decode cL_isRow 112 = .ok (.iconst 0, 1) := by decide +kernel
theorem dL_isRow_113 : decode cL_isRow 113 = .ok (.goto 4, 3) := by decide +kernel
theorem dL_isRow_116 : decode cL_isRow 116 = .ok (.iconst 1, 1) := by decide +kernel
theorem dL_isRow_117 : decode cL_isRow 117 = .ok (.iadd, 1) := by decide +kernel
theorem dL_isRow_118 : decode cL_isRow 118 = .ok (.istore_n 2, 1) := by decide +kernel
theorem dL_isRow_119 : decode cL_isRow 119 = .ok (.iinc 5 1, 3) := by decide +kernel
theorem dL_isRow_122 : decode cL_isRow 122 = .ok (.goto (-106), 3) := by decide +kernel
theorem dL_isRow_125 : decode cL_isRow 125 = .ok (.iload_n 2, 1) := by decide +kernel
theorem dL_isRow_126 : decode cL_isRow 126 = .ok (.aload_n 0, 1) := by decide +kernel
theorem dL_isRow_127 : decode cL_isRow 127 = .ok (.iconst 1, 1) := by decide +kernel
theorem dL_isRow_128 : decode cL_isRow 128 = .ok (.invokevirtual 12, 3) := by decide +kernel
theorem dL_isRow_131 : decode cL_isRow 131 = .ok (.if_icmp .ne 36, 3) := by decide +kernel
theorem dL_isRow_134 : decode cL_isRow 134 = .ok (.aload_n 0, 1) := by decide +kernel
theorem dL_isRow_135 : decode cL_isRow 135 = .ok (.iload_n 1, 1) := by decide +kernel
theorem dL_isRow_136 : decode cL_isRow 136 = .ok (.invokevirtual 18, 3) := by decide +kernel
theorem dL_isRow_139 : decode cL_isRow 139 = .ok (.bipush (-9), 2) := by decide +kernel
theorem dL_isRow_141 : decode cL_isRow 141 = .ok (.if_icmp .ne 26, 3) := by decide +kernel
theorem dL_isRow_144 : decode cL_isRow 144 = .ok (.aload_n 0, 1) := by decide +kernel
theorem dL_isRow_145 : decode cL_isRow 145 = .ok (.bipush 9, 2) := by decide +kernel
theorem dL_isRow_147 : decode cL_isRow 147 = .ok (.invokevirtual 12, 3) := by decide +kernel
theorem dL_isRow_150 : decode cL_isRow 150 = .ok (.iload_n 2, 1) := by decide +kernel
theorem dL_isRow_151 : decode cL_isRow 151 = .ok (.ifCond .ne 8, 3) := by decide +kernel
theorem dL_isRow_154 : decode cL_isRow 154 = .ok (.bipush (-9), 2) := by decide +kernel
theorem dL_isRow_156 : decode cL_isRow 156 = .ok (.goto 4, 3) := by decide +kernel
theorem dL_isRow_159 : decode cL_isRow 159 = .ok (.iload_n 3, 1) := by decide +kernel
theorem dL_isRow_160 : decode cL_isRow 160 = .ok (.if_icmp .ne 7, 3) := by decide +kernel
theorem dL_isRow_163 : decode cL_isRow 163 = .ok (.iconst 1, 1) := by decide +kernel
theorem dL_isRow_164 : decode cL_isRow 164 = .ok (.goto 4, 3) := by decide +kernel
theorem dL_isRow_167 : decode cL_isRow 167 = .ok (.iconst 0, 1) := by decide +kernel
theorem dL_isRow_168 : decode cL_isRow 168 = .ok (.ireturn, 1) := by decide +kernel
set_option maxRecDepth 20000 in
theorem ggL_isSeen_X4_spot : GoodIn wsL_isSeen wsX4_spot := goodIn_r _ [5, 6, 7, 8, 9, 10, 11, 12, 4, 13, 14, 15, 16, 17, 18, 19, 20, 21, 22, 23, 24, 25, 26, 27, 28, 29, 30, 31, 32, 33, 34, 35, 36, 37, 38, 39, 40, 41, 42, 43, 44, 45, 46, 47, 48, 49, 50, 51, 52, 53, 54, 55, 56, 57, 58, 59, 60, 61, 62, 63, 64, 65, 66, 67, 68, 69, 70, 71, 72, 73, 74, 75, 76, 77, 78, 79, 80, 81, 82, 83, 84, 85, 86, 87, 88, 89, 90, 91, 92, 93, 145, 146, 147, 148, 149, 150, 151, 152, 153, 154, 155, 156, 157, 158] (by decide +kernel) (by decide +kernel)
set_option maxRecDepth 20000 in
theorem gL_isSeen_X4_spot : GoodIn wsL_isSeen (wsV RL 21 RX4 yX4_spot wsX4_spot) := goodIn_app (goodIn_of _ (by decide +kernel)) ggL_isSeen_X4_spot
set_option maxRecDepth 20000 in
theorem ggL_isSeen_X4_count : GoodIn wsL_isSeen wsX4_count := goodIn_r _ [97, 6, 7, 10, 98, 9, 99, 100, 101, 102, 103, 20, 104, 22, 28, 30, 31, 32, 33, 23, 34, 4, 35, 36, 37, 38, 39, 105, 106, 107, 108, 109, 110, 111, 40, 41, 42, 43, 44, 45, 46, 47, 48, 49, 50, 51, 52, 25, 26, 27, 29, 18, 19, 21, 53, 54, 55, 56, 57, 58, 59, 60, 61, 62, 63, 64, 65, 66, 67, 68, 69, 70, 71, 72, 73, 74, 75, 76, 77, 112, 113, 114, 115, 116, 117, 118, 119, 120, 121, 122, 123, 124, 125, 126, 127, 128, 129, 130, 131, 132, 133, 134, 135, 136, 137, 145, 146, 147, 148, 149, 150, 151, 152, 153, 154, 155, 156, 157, 158, 159, 160, 161, 162] (by decide +kernel) (by decide +kernel)
set_option maxRecDepth 20000 in
theorem gL_isSeen_X4_count : GoodIn wsL_isSeen (wsV RL 12 RX4 yX4_count wsX4_count) := goodIn_app (goodIn_of _ (by decide +kernel)) ggL_isSeen_X4_count
set_option maxRecDepth 20000 in
theorem ggL_isSeen_X4_firstWrong : GoodIn wsL_isSeen wsX4_firstWrong := goodIn_r _ [141, 6, 7, 10, 40, 41, 42, 20, 43, 28, 44, 45, 46, 47, 22, 23, 48, 49, 50, 51, 52, 25, 26, 27, 29, 18, 19, 21, 30, 31, 32, 33, 34, 4, 35, 36, 37, 38, 39, 53, 54, 55, 56, 57, 58, 59, 60, 61, 62, 63, 64, 65, 66, 67, 68, 69, 112, 113, 114, 115, 116, 142, 143, 144, 14, 15, 16, 70, 71, 72, 73, 74, 75, 76, 77, 145, 146, 147, 148, 149, 150, 151, 152, 153, 154, 155, 156, 157, 158] (by decide +kernel) (by decide +kernel)
set_option maxRecDepth 20000 in
theorem gL_isSeen_X4_firstWrong : GoodIn wsL_isSeen (wsV RL 58 RX4 yX4_firstWrong wsX4_firstWrong) := goodIn_app (goodIn_of _ (by decide +kernel)) ggL_isSeen_X4_firstWrong
theorem dL_isSeen_0 : decode cL_isSeen 0 = .ok (.iconst 0, 1) := by decide +kernel
theorem dL_isSeen_1 : decode cL_isSeen 1 = .ok (.istore_n 1, 1) := by decide +kernel
theorem dL_isSeen_2 : decode cL_isSeen 2 = .ok (.iconst 0, 1) := by decide +kernel
theorem dL_isSeen_3 : decode cL_isSeen 3 = .ok (.istore_n 2, 1) := by decide +kernel
theorem dL_isSeen_4 : decode cL_isSeen 4 = .ok (.iconst 0, 1) := by decide +kernel
theorem dL_isSeen_5 : decode cL_isSeen 5 = .ok (.istore_n 3, 1) := by decide +kernel
theorem dL_isSeen_6 : decode cL_isSeen 6 = .ok (.iconst 0, 1) := by decide +kernel
theorem dL_isSeen_7 : decode cL_isSeen 7 = .ok (.istore 4, 2) := by decide +kernel
theorem dL_isSeen_9 : decode cL_isSeen 9 = .ok (.bipush (-9), 2) := by decide +kernel
theorem dL_isSeen_11 : decode cL_isSeen 11 = .ok (.istore 5, 2) := by decide +kernel
theorem dL_isSeen_13 : decode cL_isSeen 13 = .ok (.bipush (-9), 2) := by decide +kernel
theorem dL_isSeen_15 : decode cL_isSeen 15 = .ok (.istore 6, 2) := by decide +kernel
theorem dL_isSeen_17 : decode cL_isSeen 17 = .ok (.bipush 63, 2) := by decide +kernel
theorem dL_isSeen_19 : decode cL_isSeen 19 = .ok (.istore 7, 2) := by decide +kernel
theorem dL_isSeen_21 : decode cL_isSeen 21 = .ok (.iload 7, 2) := by decide +kernel
theorem dL_isSeen_23 : decode cL_isSeen 23 = .ok (.ifCond .lt 135, 3) := by decide +kernel
theorem dL_isSeen_26 : decode cL_isSeen 26 = .ok (.aload_n 0, 1) := by decide +kernel
theorem dL_isSeen_27 : decode cL_isSeen 27 = .ok (.iload 7, 2) := by decide +kernel
theorem dL_isSeen_29 : decode cL_isSeen 29 = .ok (.iconst 5, 1) := by decide +kernel
theorem dL_isSeen_30 : decode cL_isSeen 30 = .ok (.invokevirtual 21, 3) := by decide +kernel
theorem dL_isSeen_33 : decode cL_isSeen 33 = .ok (.aload_n 0, 1) := by decide +kernel
theorem dL_isSeen_34 : decode cL_isSeen 34 = .ok (.iload 7, 2) := by decide +kernel
theorem dL_isSeen_36 : decode cL_isSeen 36 = .ok (.iconst 1, 1) := by decide +kernel
theorem dL_isSeen_37 : decode cL_isSeen 37 = .ok (.invokevirtual 21, 3) := by decide +kernel
theorem dL_isSeen_40 : decode cL_isSeen 40 = .ok (.if_icmp .eq 7, 3) := by decide +kernel
theorem dL_isSeen_43 : decode cL_isSeen 43 = .ok (.iconst 1, 1) := by decide +kernel
theorem dL_isSeen_44 : decode cL_isSeen 44 = .ok (.goto 4, 3) := by decide +kernel
theorem dL_isSeen_47 : decode cL_isSeen 47 = .ok (.iconst 0, 1) := by decide +kernel
theorem dL_isSeen_48 : decode cL_isSeen 48 = .ok (.istore 8, 2) := by decide +kernel
theorem dL_isSeen_50 : decode cL_isSeen 50 = .ok (.aload_n 0, 1) := by decide +kernel
theorem dL_isSeen_51 : decode cL_isSeen 51 = .ok (.iload 7, 2) := by decide +kernel
theorem dL_isSeen_53 : decode cL_isSeen 53 = .ok (.bipush 6, 2) := by decide +kernel
theorem dL_isSeen_55 : decode cL_isSeen 55 = .ok (.invokevirtual 21, 3) := by decide +kernel
theorem dL_isSeen_58 : decode cL_isSeen 58 = .ok (.aload_n 0, 1) := by decide +kernel
theorem dL_isSeen_59 : decode cL_isSeen 59 = .ok (.iload 7, 2) := by decide +kernel
theorem dL_isSeen_61 : decode cL_isSeen 61 = .ok (.iconst 2, 1) := by decide +kernel
theorem dL_isSeen_62 : decode cL_isSeen 62 = .ok (.invokevirtual 21, 3) := by decide +kernel
theorem dL_isSeen_65 : decode cL_isSeen 65 = .ok (.if_icmp .eq 7, 3) := by decide +kernel
theorem dL_isSeen_68 : decode cL_isSeen 68 = .ok (.iconst 1, 1) := by decide +kernel
theorem dL_isSeen_69 : decode cL_isSeen 69 = .ok (.goto 4, 3) := by decide +kernel
theorem dL_isSeen_72 : decode cL_isSeen 72 = .ok (.iconst 0, 1) := by decide +kernel
theorem dL_isSeen_73 : decode cL_isSeen 73 = .ok (.istore 9, 2) := by decide +kernel
theorem dL_isSeen_75 : decode cL_isSeen 75 = .ok (.iload_n 1, 1) := by decide +kernel
theorem dL_isSeen_76 : decode cL_isSeen 76 = .ok (.iload 8, 2) := by decide +kernel
theorem dL_isSeen_78 : decode cL_isSeen 78 = .ok (.ifCond .eq 7, 3) := by decide +kernel
theorem dL_isSeen_81 : decode cL_isSeen 81 = .ok (.iconst 1, 1) := by decide +kernel
theorem dL_isSeen_82 : decode cL_isSeen 82 = .ok (.goto 4, 3) := by decide +kernel
theorem dL_isSeen_85 : decode cL_isSeen 85 = .ok (.iconst 0, 1) := by decide +kernel
theorem dL_isSeen_86 : decode cL_isSeen 86 = .ok (.iadd, 1) := by decide +kernel
theorem dL_isSeen_87 : decode cL_isSeen 87 = .ok (.istore_n 1, 1) := by decide +kernel
theorem dL_isSeen_88 : decode cL_isSeen 88 = .ok (.iload_n 2, 1) := by decide +kernel
theorem dL_isSeen_89 : decode cL_isSeen 89 = .ok (.iload 9, 2) := by decide +kernel
theorem dL_isSeen_91 : decode cL_isSeen 91 = .ok (.ifCond .eq 7, 3) := by decide +kernel
theorem dL_isSeen_94 : decode cL_isSeen 94 = .ok (.iconst 1, 1) := by decide +kernel
theorem dL_isSeen_95 : decode cL_isSeen 95 = .ok (.goto 4, 3) := by decide +kernel
theorem dL_isSeen_98 : decode cL_isSeen 98 = .ok (.iconst 0, 1) := by decide +kernel
theorem dL_isSeen_99 : decode cL_isSeen 99 = .ok (.iadd, 1) := by decide +kernel
theorem dL_isSeen_100 : decode cL_isSeen 100 = .ok (.istore_n 2, 1) := by decide +kernel
theorem dL_isSeen_101 : decode cL_isSeen 101 = .ok (.iload 8, 2) := by decide +kernel
theorem dL_isSeen_103 : decode cL_isSeen 103 = .ok (.ifCond .eq 8, 3) := by decide +kernel
theorem dL_isSeen_106 : decode cL_isSeen 106 = .ok (.iload 7, 2) := by decide +kernel
theorem dL_isSeen_108 : decode cL_isSeen 108 = .ok (.goto 5, 3) := by decide +kernel
theorem dL_isSeen_111 : decode cL_isSeen 111 = .ok (.iload 5, 2) := by decide +kernel
theorem dL_isSeen_113 : decode cL_isSeen 113 = .ok (.istore 5, 2) := by decide +kernel
theorem dL_isSeen_115 : decode cL_isSeen 115 = .ok (.iload 9, 2) := by decide +kernel
theorem dL_isSeen_117 : decode cL_isSeen 117 = .ok (.ifCond .eq 8, 3) := by decide +kernel
theorem dL_isSeen_120 : decode cL_isSeen 120 = .ok (.iload 7, 2) := by decide +kernel
theorem dL_isSeen_122 : decode cL_isSeen 122 = .ok (.goto 5, 3) := by decide +kernel
theorem dL_isSeen_125 : decode cL_isSeen 125 = .ok (.iload 6, 2) := by decide +kernel
theorem dL_isSeen_127 : decode cL_isSeen 127 = .ok (.istore 6, 2) := by decide +kernel
theorem dL_isSeen_129 : decode cL_isSeen 129 = .ok (.iload_n 3, 1) := by decide +kernel
theorem dL_isSeen_130 : decode cL_isSeen 130 = .ok (.aload_n 0, 1) := by decide +kernel
theorem dL_isSeen_131 : decode cL_isSeen 131 = .ok (.iload 7, 2) := by decide +kernel
theorem dL_isSeen_133 : decode cL_isSeen 133 = .ok (.iconst 5, 1) := by decide +kernel
theorem dL_isSeen_134 : decode cL_isSeen 134 = .ok (.invokevirtual 21, 3) := by decide +kernel
theorem dL_isSeen_137 : decode cL_isSeen 137 = .ok (.iadd, 1) := by decide +kernel
theorem dL_isSeen_138 : decode cL_isSeen 138 = .ok (.istore_n 3, 1) := by decide +kernel
theorem dL_isSeen_139 : decode cL_isSeen 139 = .ok (.iload 4, 2) := by decide +kernel
theorem dL_isSeen_141 : decode cL_isSeen 141 = .ok (.aload_n 0, 1) := by decide +kernel
theorem dL_isSeen_142 : decode cL_isSeen 142 = .ok (.iload 7, 2) := by decide +kernel
theorem dL_isSeen_144 : decode cL_isSeen 144 = .ok (.bipush 6, 2) := by decide +kernel
theorem dL_isSeen_146 : decode cL_isSeen 146 = .ok (.invokevirtual 21, 3) := by decide +kernel
theorem dL_isSeen_149 : decode cL_isSeen 149 = .ok (.iadd, 1) := by decide +kernel
theorem dL_isSeen_150 : decode cL_isSeen 150 = .ok (.istore 4, 2) := by decide +kernel
theorem dL_isSeen_152 : decode cL_isSeen 152 = .ok (.iinc 7 (-1), 3) := by decide +kernel
theorem dL_isSeen_155 : decode cL_isSeen 155 = .ok (.goto (-134), 3) := by decide +kernel
theorem dL_isSeen_158 : decode cL_isSeen 158 = .ok (.aload_n 0, 1) := by decide +kernel
theorem dL_isSeen_159 : decode cL_isSeen 159 = .ok (.bipush 6, 2) := by decide +kernel
theorem dL_isSeen_161 : decode cL_isSeen 161 = .ok (.invokevirtual 12, 3) := by decide +kernel
theorem dL_isSeen_164 : decode cL_isSeen 164 = .ok (.iload_n 1, 1) := by decide +kernel
theorem dL_isSeen_165 : decode cL_isSeen 165 = .ok (.if_icmp .ne 56, 3) := by decide +kernel
theorem dL_isSeen_168 : decode cL_isSeen 168 = .ok (.aload_n 0, 1) := by decide +kernel
theorem dL_isSeen_169 : decode cL_isSeen 169 = .ok (.bipush 7, 2) := by decide +kernel
theorem dL_isSeen_171 : decode cL_isSeen 171 = .ok (.invokevirtual 12, 3) := by decide +kernel
theorem dL_isSeen_174 : decode cL_isSeen 174 = .ok (.iload_n 2, 1) := by decide +kernel
theorem dL_isSeen_175 : decode cL_isSeen 175 = .ok (.if_icmp .ne 46, 3) := by decide +kernel
theorem dL_isSeen_178 : decode cL_isSeen 178 = .ok (.aload_n 0, 1) := by decide +kernel
theorem dL_isSeen_179 : decode cL_isSeen 179 = .ok (.iconst 0, 1) := by decide +kernel
theorem dL_isSeen_180 : decode cL_isSeen 180 = .ok (.invokevirtual 58, 3) := by decide +kernel
theorem dL_isSeen_183 : decode cL_isSeen 183 = .ok (.iload 5, 2) := by decide +kernel
theorem dL_isSeen_185 : decode cL_isSeen 185 = .ok (.if_icmp .ne 36, 3) := by decide +kernel
theorem dL_isSeen_188 : decode cL_isSeen 188 = .ok (.aload_n 0, 1) := by decide +kernel
theorem dL_isSeen_189 : decode cL_isSeen 189 = .ok (.iconst 1, 1) := by decide +kernel
theorem dL_isSeen_190 : decode cL_isSeen 190 = .ok (.invokevirtual 58, 3) := by decide +kernel
theorem dL_isSeen_193 : decode cL_isSeen 193 = .ok (.iload 6, 2) := by decide +kernel
theorem dL_isSeen_195 : decode cL_isSeen 195 = .ok (.if_icmp .ne 26, 3) := by decide +kernel
theorem dL_isSeen_198 : decode cL_isSeen 198 = .ok (.aload_n 0, 1) := by decide +kernel
theorem dL_isSeen_199 : decode cL_isSeen 199 = .ok (.iconst 4, 1) := by decide +kernel
theorem dL_isSeen_200 : decode cL_isSeen 200 = .ok (.invokevirtual 12, 3) := by decide +kernel
theorem dL_isSeen_203 : decode cL_isSeen 203 = .ok (.iload_n 3, 1) := by decide +kernel
theorem dL_isSeen_204 : decode cL_isSeen 204 = .ok (.if_icmp .ne 17, 3) := by decide +kernel
theorem dL_isSeen_207 : decode cL_isSeen 207 = .ok (.aload_n 0, 1) := by decide +kernel
theorem dL_isSeen_208 : decode cL_isSeen 208 = .ok (.iconst 5, 1) := by decide +kernel
theorem dL_isSeen_209 : decode cL_isSeen 209 = .ok (.invokevirtual 12, 3) := by decide +kernel
theorem dL_isSeen_212 : decode cL_isSeen 212 = .ok (.iload 4, 2) := by decide +kernel
theorem dL_isSeen_214 : decode cL_isSeen 214 = .ok (.if_icmp .ne 7, 3) := by decide +kernel
theorem dL_isSeen_217 : decode cL_isSeen 217 = .ok (.iconst 1, 1) := by decide +kernel
theorem dL_isSeen_218 : decode cL_isSeen 218 = .ok (.goto 4, 3) := by decide +kernel
theorem dL_isSeen_221 : decode cL_isSeen 221 = .ok (.iconst 0, 1) := by decide +kernel
theorem dL_isSeen_222 : decode cL_isSeen 222 = .ok (.ireturn, 1) := by decide +kernel
set_option maxRecDepth 20000 in
theorem ggL_isMean_X4_count : GoodIn wsL_isMean wsX4_count := goodIn_r _ [5, 6, 7, 8, 9, 10, 11, 12, 13, 14, 15, 16, 17, 18, 19, 20, 21, 22, 23, 24, 25, 4, 26, 27, 28, 29, 30, 31, 32, 33, 34, 35, 36, 37, 38, 39, 40, 41, 42, 43, 44, 45, 46, 47, 48, 49, 50, 51, 52, 53, 54, 55, 56, 57, 58, 59, 60, 61, 62, 63, 64, 65, 66, 67, 68, 69, 70, 71, 72, 73, 74, 75, 76, 77, 78, 79, 80, 81, 82, 83, 84, 85, 86, 87, 88, 89, 90, 91, 92, 93, 94, 95, 96, 97, 98, 99, 100, 101, 102, 103, 104, 105, 106, 107, 108, 143, 144, 145, 146, 147, 148, 149, 150, 151, 152, 153, 154, 155, 156, 157, 158, 159, 160] (by decide +kernel) (by decide +kernel)
set_option maxRecDepth 20000 in
theorem gL_isMean_X4_count : GoodIn wsL_isMean (wsV RL 12 RX4 yX4_count wsX4_count) := goodIn_app (goodIn_of _ (by decide +kernel)) ggL_isMean_X4_count
set_option maxRecDepth 20000 in
theorem ggL_isMean_X4_brightness : GoodIn wsL_isMean wsX4_brightness := goodIn_r _ [112, 6, 7, 8, 113, 114, 4, 115, 116, 51, 52, 16, 53, 19, 54, 55, 56, 57, 18, 24, 20, 21, 22, 23, 25, 26, 27, 28, 29, 30, 117, 59, 60, 61, 62, 63, 64, 65, 66, 67, 143, 144, 145, 146, 147, 148, 149, 150, 151, 152, 153, 154, 155, 156] (by decide +kernel) (by decide +kernel)
set_option maxRecDepth 20000 in
theorem gL_isMean_X4_brightness : GoodIn wsL_isMean (wsV RL 55 RX4 yX4_brightness wsX4_brightness) := goodIn_app (goodIn_of _ (by decide +kernel)) ggL_isMean_X4_brightness
set_option maxRecDepth 20000 in
theorem ggL_isMean_X4_spot : GoodIn wsL_isMean wsX4_spot := goodIn_r _ [121, 6, 7, 122, 10, 8, 113, 114, 4, 115, 123, 124, 125, 126, 55, 56, 16, 57, 18, 24, 116, 51, 52, 53, 19, 54, 20, 21, 22, 23, 25, 26, 27, 28, 29, 30, 38, 39, 40, 41, 42, 43, 44, 45, 46, 47, 48, 49, 50, 58, 59, 60, 61, 62, 63, 64, 65, 66, 67, 68, 69, 70, 71, 72, 73, 74, 75, 76, 77, 78, 79, 80, 81, 82, 127, 128, 129, 130, 131, 132, 133, 134, 135, 136, 137, 138, 139, 140, 141, 142, 143, 144, 145, 146, 147, 148, 149, 150, 151, 152, 153, 154, 155, 156] (by decide +kernel) (by decide +kernel)
set_option maxRecDepth 20000 in
theorem gL_isMean_X4_spot : GoodIn wsL_isMean (wsV RL 21 RX4 yX4_spot wsX4_spot) := goodIn_app (goodIn_of _ (by decide +kernel)) ggL_isMean_X4_spot
theorem dL_isMean_0 : decode cL_isMean 0 = .ok (.aload_n 0, 1) := by decide +kernel
theorem dL_isMean_1 : decode cL_isMean 1 = .ok (.bipush 13, 2) := by decide +kernel
theorem dL_isMean_3 : decode cL_isMean 3 = .ok (.invokevirtual 12, 3) := by decide +kernel
theorem dL_isMean_6 : decode cL_isMean 6 = .ok (.istore_n 2, 1) := by decide +kernel
theorem dL_isMean_7 : decode cL_isMean 7 = .ok (.iconst 0, 1) := by decide +kernel
theorem dL_isMean_8 : decode cL_isMean 8 = .ok (.istore_n 3, 1) := by decide +kernel
theorem dL_isMean_9 : decode cL_isMean 9 = .ok (.bipush 100, 2) := by decide +kernel
theorem dL_isMean_11 : decode cL_isMean 11 = .ok (.istore 4, 2) := by decide +kernel
theorem dL_isMean_13 : decode cL_isMean 13 = .ok (.iconst 0, 1) := by decide +kernel
theorem dL_isMean_14 : decode cL_isMean 14 = .ok (.istore 5, 2) := by decide +kernel
theorem dL_isMean_16 : decode cL_isMean 16 = .ok (.iconst 0, 1) := by decide +kernel
theorem dL_isMean_17 : decode cL_isMean 17 = .ok (.istore 6, 2) := by decide +kernel
theorem dL_isMean_19 : decode cL_isMean 19 = .ok (.iload 6, 2) := by decide +kernel
theorem dL_isMean_21 : decode cL_isMean 21 = .ok (.iload_n 2, 1) := by decide +kernel
theorem dL_isMean_22 : decode cL_isMean 22 = .ok (.if_icmp .ge 55, 3) := by decide +kernel
theorem dL_isMean_25 : decode cL_isMean 25 = .ok (.aload_n 0, 1) := by decide +kernel
theorem dL_isMean_26 : decode cL_isMean 26 = .ok (.iload_n 1, 1) := by decide +kernel
theorem dL_isMean_27 : decode cL_isMean 27 = .ok (.iload 6, 2) := by decide +kernel
theorem dL_isMean_29 : decode cL_isMean 29 = .ok (.invokevirtual 55, 3) := by decide +kernel
theorem dL_isMean_32 : decode cL_isMean 32 = .ok (.istore 7, 2) := by decide +kernel
theorem dL_isMean_34 : decode cL_isMean 34 = .ok (.iload_n 3, 1) := by decide +kernel
theorem dL_isMean_35 : decode cL_isMean 35 = .ok (.iload 7, 2) := by decide +kernel
theorem dL_isMean_37 : decode cL_isMean 37 = .ok (.iadd, 1) := by decide +kernel
theorem dL_isMean_38 : decode cL_isMean 38 = .ok (.istore_n 3, 1) := by decide +kernel
theorem dL_isMean_39 : decode cL_isMean 39 = .ok (.iload 7, 2) := by decide +kernel
theorem dL_isMean_41 : decode cL_isMean 41 = .ok (.iload 4, 2) := by decide +kernel
theorem dL_isMean_43 : decode cL_isMean 43 = .ok (.if_icmp .ge 8, 3) := by decide +kernel
theorem dL_isMean_46 : decode cL_isMean 46 = .ok (.iload 7, 2) := by decide +kernel
theorem dL_isMean_48 : decode cL_isMean 48 = .ok (.goto 5, 3) := by decide +kernel
theorem dL_isMean_51 : decode cL_isMean 51 = .ok (.iload 4, 2) := by decide +kernel
theorem dL_isMean_53 : decode cL_isMean 53 = .ok (.istore 4, 2) := by decide +kernel
theorem dL_isMean_55 : decode cL_isMean 55 = .ok (.iload 7, 2) := by decide +kernel
theorem dL_isMean_57 : decode cL_isMean 57 = .ok (.iload 5, 2) := by decide +kernel
theorem dL_isMean_59 : decode cL_isMean 59 = .ok (.if_icmp .le 8, 3) := by decide +kernel
theorem dL_isMean_62 : decode cL_isMean 62 = .ok (.iload 7, 2) := by decide +kernel
theorem dL_isMean_64 : decode cL_isMean 64 = .ok (.goto 5, 3) := by decide +kernel
theorem dL_isMean_67 : decode cL_isMean 67 = .ok (.iload 5, 2) := by decide +kernel
theorem dL_isMean_69 : decode cL_isMean 69 = .ok (.istore 5, 2) := by decide +kernel
theorem dL_isMean_71 : decode cL_isMean 71 = .ok (.iinc 6 1, 3) := by decide +kernel
theorem dL_isMean_74 : decode cL_isMean 74 = .ok (.goto (-55), 3) := by decide +kernel
theorem dL_isMean_77 : decode cL_isMean 77 = .ok (.aload_n 0, 1) := by decide +kernel
theorem dL_isMean_78 : decode cL_isMean 78 = .ok (.iload_n 1, 1) := by decide +kernel
theorem dL_isMean_79 : decode cL_isMean 79 = .ok (.bipush 7, 2) := by decide +kernel
theorem dL_isMean_81 : decode cL_isMean 81 = .ok (.invokevirtual 21, 3) := by decide +kernel
theorem dL_isMean_84 : decode cL_isMean 84 = .ok (.iload_n 3, 1) := by decide +kernel
theorem dL_isMean_85 : decode cL_isMean 85 = .ok (.iload_n 2, 1) := by decide +kernel
theorem dL_isMean_86 : decode cL_isMean 86 = .ok (.idiv, 1) := by decide +kernel
theorem dL_isMean_87 : decode cL_isMean 87 = .ok (.if_icmp .ne 46, 3) := by decide +kernel
theorem dL_isMean_90 : decode cL_isMean 90 = .ok (.aload_n 0, 1) := by decide +kernel
theorem dL_isMean_91 : decode cL_isMean 91 = .ok (.iload_n 1, 1) := by decide +kernel
theorem dL_isMean_92 : decode cL_isMean 92 = .ok (.bipush 9, 2) := by decide +kernel
theorem dL_isMean_94 : decode cL_isMean 94 = .ok (.invokevirtual 21, 3) := by decide +kernel
theorem dL_isMean_97 : decode cL_isMean 97 = .ok (.iload 5, 2) := by decide +kernel
theorem dL_isMean_99 : decode cL_isMean 99 = .ok (.iload 4, 2) := by decide +kernel
theorem dL_isMean_101 : decode cL_isMean 101 = .ok (.isub, 1) := by decide +kernel
theorem dL_isMean_102 : decode cL_isMean 102 = .ok (.if_icmp .ne 31, 3) := by decide +kernel
theorem dL_isMean_105 : decode cL_isMean 105 = .ok (.aload_n 0, 1) := by decide +kernel
theorem dL_isMean_106 : decode cL_isMean 106 = .ok (.iload_n 1, 1) := by decide +kernel
theorem dL_isMean_107 : decode cL_isMean 107 = .ok (.iconst 4, 1) := by decide +kernel
theorem dL_isMean_108 : decode cL_isMean 108 = .ok (.invokevirtual 21, 3) := by decide +kernel
theorem dL_isMean_111 : decode cL_isMean 111 = .ok (.ifCond .ge 8, 3) := by decide +kernel
theorem dL_isMean_114 : decode cL_isMean 114 = .ok (.iload 5, 2) := by decide +kernel
theorem dL_isMean_116 : decode cL_isMean 116 = .ok (.ifCond .ne 17, 3) := by decide +kernel
theorem dL_isMean_119 : decode cL_isMean 119 = .ok (.aload_n 0, 1) := by decide +kernel
theorem dL_isMean_120 : decode cL_isMean 120 = .ok (.iload_n 1, 1) := by decide +kernel
theorem dL_isMean_121 : decode cL_isMean 121 = .ok (.iload_n 2, 1) := by decide +kernel
theorem dL_isMean_122 : decode cL_isMean 122 = .ok (.invokevirtual 55, 3) := by decide +kernel
theorem dL_isMean_125 : decode cL_isMean 125 = .ok (.iconst (-1), 1) := by decide +kernel
theorem dL_isMean_126 : decode cL_isMean 126 = .ok (.if_icmp .ne 7, 3) := by decide +kernel
theorem dL_isMean_129 : decode cL_isMean 129 = .ok (.iconst 1, 1) := by decide +kernel
theorem dL_isMean_130 : decode cL_isMean 130 = .ok (.goto 4, 3) := by decide +kernel
theorem dL_isMean_133 : decode cL_isMean 133 = .ok (.iconst 0, 1) := by decide +kernel
theorem dL_isMean_134 : decode cL_isMean 134 = .ok (.ireturn, 1) := by decide +kernel
set_option maxRecDepth 20000 in
theorem ggL_law_X4_init : GoodIn wsL_law wsX4_init := goodIn_r _ [5, 6, 7, 8, 9, 10, 11, 12, 13, 14, 15, 16, 17, 18, 19, 20, 21, 22, 23, 24, 25, 26, 27, 28, 29, 30, 31, 32, 33, 34, 35, 36, 37, 38, 39, 40, 41, 42, 43, 44, 45, 46, 47, 48, 49, 50, 51, 52, 53, 54, 55, 429, 430, 431, 423, 424, 425, 426, 427, 428, 432, 433, 434, 435, 436, 437, 438, 439, 440, 441, 442, 443, 444, 445, 446] (by decide +kernel) (by decide +kernel)
set_option maxRecDepth 20000 in
theorem gL_law_X4_init : GoodIn wsL_law (wsX4_init) := ggL_law_X4_init
set_option maxRecDepth 20000 in
theorem ggL_law_L_cell : GoodIn wsL_law wsL_cell := goodIn_r _ [59] (by decide +kernel) (by decide +kernel)
set_option maxRecDepth 20000 in
theorem gL_law_L_cell : GoodIn wsL_law (va_wsS RL 62 yL_cell wsL_cell) := goodIn_app (goodIn_of _ (by decide +kernel)) ggL_law_L_cell
set_option maxRecDepth 20000 in
theorem ggL_law_L_low : GoodIn wsL_law wsL_low := goodIn_r _ [62, 63] (by decide +kernel) (by decide +kernel)
set_option maxRecDepth 20000 in
theorem gL_law_L_low : GoodIn wsL_law (va_wsS RL 25 yL_low wsL_low) := goodIn_app (goodIn_of _ (by decide +kernel)) ggL_law_L_low
set_option maxRecDepth 20000 in
theorem ggL_law_X4_light : GoodIn wsL_law wsX4_light := goodIn_r _ [67, 12, 68, 69, 70, 71, 2, 72, 13, 73, 74, 75, 76, 11, 77, 31, 32, 34, 78, 79, 80, 30, 81, 38, 82, 83, 84, 85, 39, 86, 41, 42, 87, 88, 89, 90, 91, 92, 93, 94, 95, 96, 97, 98, 99, 100, 101, 102, 103, 104, 423, 424, 425, 426, 427, 428, 429, 430, 431, 442, 443, 444, 445, 446] (by decide +kernel) (by decide +kernel)
set_option maxRecDepth 20000 in
theorem gL_law_X4_light : GoodIn wsL_law (wsV RL 52 RX4 yX4_light wsX4_light) := goodIn_app (goodIn_of _ (by decide +kernel)) ggL_law_X4_light
set_option maxRecDepth 20000 in
theorem ggL_law_L_digest : GoodIn wsL_law wsL_digest := goodIn_r _ [107, 108, 109, 110, 111, 112, 2, 113, 12, 68, 114, 115, 116, 73, 17, 117, 118, 119, 30, 120, 86, 42, 121, 122, 123, 124, 39, 125, 126, 127, 128, 129, 130, 131, 132, 133, 134, 135, 136, 137, 138, 139, 140, 141, 142, 143, 144, 145, 146, 147, 148, 149, 150, 151, 152, 153, 93, 94, 95, 96, 154, 155, 156, 157, 38, 158, 159, 160, 161, 162, 163, 164, 165, 166, 167, 168, 169, 170, 171, 172, 173, 174, 175, 176, 177, 178, 179, 180, 181, 41, 182, 183, 184, 185, 186, 187, 188, 189, 11, 190, 34, 191, 192, 193, 16, 194, 195, 196, 197, 198, 199, 200, 201, 202, 203, 204, 205, 206, 207, 208, 209, 210, 91, 92, 211, 212, 213, 214, 215, 216, 217, 218, 219, 220, 221, 222, 223, 224, 225, 226, 227, 228, 229, 230, 231, 423, 424, 425, 426, 427, 428, 429, 430, 431, 442, 443, 444, 445, 446, 432, 433, 434, 435] (by decide +kernel) (by decide +kernel)
set_option maxRecDepth 20000 in
theorem gL_law_L_digest : GoodIn wsL_law (va_wsS RL 66 yL_digest wsL_digest) := goodIn_app (goodIn_of _ (by decide +kernel)) ggL_law_L_digest
set_option maxRecDepth 20000 in
theorem ggL_law_X4_count : GoodIn wsL_law wsX4_count := goodIn_r _ [113, 12, 68, 114, 115, 116, 73, 17, 117, 118, 119, 30, 120, 86, 42, 121, 122, 123, 124, 39, 125, 2, 126, 127, 128, 129, 130, 131, 132, 133, 134, 135, 136, 137, 138, 139, 140, 141, 142, 143, 144, 145, 146, 147, 148, 149, 150, 151, 152, 153, 93, 94, 95, 96, 154, 155, 156, 157, 38, 158, 159, 160, 161, 162, 163, 164, 165, 166, 167, 168, 169, 170, 171, 172, 173, 174, 175, 176, 177, 178, 179, 180, 181, 41, 182, 183, 184, 185, 186, 187, 188, 189, 11, 190, 34, 191, 192, 193, 16, 194, 195, 196, 197, 198, 199, 423, 424, 425, 426, 427, 428, 429, 430, 431, 442, 443, 444, 445, 446, 432, 433, 434, 435] (by decide +kernel) (by decide +kernel)
set_option maxRecDepth 20000 in
theorem gL_law_X4_count : GoodIn wsL_law (wsV RL 12 RX4 yX4_count wsX4_count) := goodIn_app (goodIn_of _ (by decide +kernel)) ggL_law_X4_count
set_option maxRecDepth 20000 in
theorem ggL_law_L_act : GoodIn wsL_law wsL_act := goodIn_r _ [234, 60, 61, 58, 62, 63, 110, 111, 112, 2, 113, 12, 68, 114, 115, 116, 73, 17, 117, 118, 119, 30, 120, 86, 42, 121, 122, 123, 124, 39, 125, 126, 127, 128, 129, 130, 131, 132, 133, 134, 135, 136, 137, 138, 139, 140, 141, 142, 143, 144, 145, 146, 147, 148, 149, 150, 151, 152, 153, 93, 94, 95, 96, 154, 155, 156, 157, 38, 158, 159, 160, 161, 162, 163, 164, 165, 166, 167, 168, 169, 170, 171, 172, 173, 174, 175, 176, 177, 178, 179, 180, 181, 41, 182, 183, 184, 185, 186, 187, 188, 189, 11, 190, 34, 191, 192, 193, 16, 194, 195, 196, 197, 198, 199, 200, 201, 202, 203, 204, 235, 236, 237, 238, 69, 70, 71, 72, 13, 74, 75, 76, 77, 31, 32, 78, 79, 80, 81, 82, 83, 84, 85, 239, 240, 241, 242, 243, 244, 97, 98, 99, 100, 101, 102, 103, 104, 245, 246, 247, 248, 249, 250, 251, 252, 91, 92, 253, 254, 255, 256, 257, 258, 259, 260, 261, 262, 263, 264, 265, 266, 267, 268, 269, 270, 271, 272, 273, 274, 275, 276, 277, 278, 279, 280, 281, 282, 283, 284, 285, 286, 287, 212, 213, 288, 289, 290, 291, 292, 293, 294, 295, 296, 297, 298, 299, 300, 301, 302, 303, 304, 305, 306, 307, 308, 309, 310, 311, 312, 64, 65, 66, 67, 87, 88, 89, 90, 423, 424, 425, 426, 427, 428, 429, 430, 431, 442, 443, 444, 445, 446, 432, 433, 434, 435] (by decide +kernel) (by decide +kernel)
set_option maxRecDepth 20000 in
theorem gL_law_L_act : GoodIn wsL_law (va_wsS RL 70 yL_act wsL_act) := goodIn_app (goodIn_of _ (by decide +kernel)) ggL_law_L_act
set_option maxRecDepth 20000 in
theorem ggL_law_X4_undo : GoodIn wsL_law wsX4_undo := goodIn_r _ [316, 73, 12, 13, 74, 75, 76, 11, 77, 31, 32, 34, 78, 79, 80, 30, 81, 38, 82, 83, 84, 85, 39, 86, 41, 42, 423, 424, 425, 426, 427, 428, 429, 430, 431, 442, 443, 444, 445, 446] (by decide +kernel) (by decide +kernel)
set_option maxRecDepth 20000 in
theorem gL_law_X4_undo : GoodIn wsL_law (wsV RL 74 RX4 yX4_undo wsX4_undo) := goodIn_app (goodIn_of _ (by decide +kernel)) ggL_law_X4_undo
set_option maxRecDepth 20000 in
theorem ggL_law_L_isRow : GoodIn wsL_law wsL_isRow := goodIn_r _ [319, 110, 111, 112, 2, 113, 12, 68, 114, 115, 116, 73, 17, 117, 118, 119, 30, 120, 86, 42, 121, 122, 123, 124, 39, 125, 126, 127, 128, 129, 130, 131, 132, 133, 134, 135, 136, 137, 138, 139, 140, 141, 142, 143, 144, 145, 146, 147, 148, 149, 150, 151, 152, 153, 93, 94, 95, 96, 154, 155, 156, 157, 38, 158, 159, 160, 161, 162, 163, 164, 165, 166, 167, 168, 169, 170, 171, 172, 173, 174, 175, 176, 177, 178, 179, 180, 181, 41, 182, 183, 184, 185, 186, 187, 188, 189, 11, 190, 34, 191, 192, 193, 16, 194, 195, 196, 197, 198, 199, 200, 201, 202, 203, 204, 205, 206, 207, 208, 209, 210, 91, 92, 211, 212, 213, 214, 215, 216, 217, 218, 219, 220, 221, 222, 223, 224, 225, 226, 227, 228, 229, 230, 231, 320, 321, 322, 323, 324, 423, 424, 425, 426, 427, 428, 429, 430, 431, 442, 443, 444, 445, 446, 432, 433, 434, 435] (by decide +kernel) (by decide +kernel)
set_option maxRecDepth 20000 in
theorem gL_law_L_isRow : GoodIn wsL_law (va_wsS RL 78 yL_isRow wsL_isRow) := goodIn_app (goodIn_of _ (by decide +kernel)) ggL_law_L_isRow
set_option maxRecDepth 20000 in
theorem ggL_law_X4_at : GoodIn wsL_law wsX4_at := goodIn_r _ [203, 12, 68, 115, 204, 423, 424, 425, 426, 427, 428, 429, 430, 431, 442, 443, 444, 445, 446] (by decide +kernel) (by decide +kernel)
set_option maxRecDepth 20000 in
theorem gL_law_X4_at : GoodIn wsL_law (wsV RL 18 RX4 yX4_at wsX4_at) := goodIn_app (goodIn_of _ (by decide +kernel)) ggL_law_X4_at
set_option maxRecDepth 20000 in
theorem ggL_law_L_isSeen : GoodIn wsL_law wsL_isSeen := goodIn_r _ [327, 205, 206, 207, 2, 208, 12, 68, 209, 116, 114, 210, 91, 92, 211, 212, 213, 214, 94, 95, 30, 96, 86, 39, 215, 151, 152, 153, 42, 93, 121, 122, 123, 124, 125, 126, 127, 128, 129, 130, 138, 139, 140, 141, 142, 143, 144, 145, 146, 147, 148, 149, 150, 154, 155, 156, 157, 38, 158, 159, 160, 161, 162, 163, 164, 165, 166, 167, 168, 169, 170, 171, 172, 173, 174, 175, 176, 177, 216, 217, 218, 219, 220, 221, 222, 223, 224, 225, 226, 227, 228, 229, 230, 231, 110, 111, 112, 113, 115, 73, 17, 117, 118, 119, 120, 131, 132, 133, 134, 135, 136, 137, 178, 179, 180, 181, 41, 182, 183, 184, 185, 186, 187, 188, 189, 11, 190, 34, 191, 192, 193, 16, 194, 195, 196, 197, 198, 199, 328, 329, 330, 331, 332, 333, 334, 423, 424, 425, 426, 427, 428, 429, 430, 431, 442, 443, 444, 445, 446, 432, 433, 434, 435] (by decide +kernel) (by decide +kernel)
set_option maxRecDepth 20000 in
theorem gL_law_L_isSeen : GoodIn wsL_law (va_wsS RL 82 yL_isSeen wsL_isSeen) := goodIn_app (goodIn_of _ (by decide +kernel)) ggL_law_L_isSeen
set_option maxRecDepth 20000 in
theorem ggL_law_L_isMean : GoodIn wsL_law wsL_isMean := goodIn_r _ [337, 110, 111, 112, 2, 113, 12, 68, 114, 115, 116, 73, 17, 117, 118, 119, 30, 120, 86, 42, 121, 122, 123, 124, 39, 125, 126, 127, 128, 129, 130, 131, 132, 133, 134, 135, 136, 137, 138, 139, 140, 141, 142, 143, 144, 145, 146, 147, 148, 149, 150, 151, 152, 153, 93, 94, 95, 96, 154, 155, 156, 157, 38, 158, 159, 160, 161, 162, 163, 164, 165, 166, 167, 168, 169, 170, 171, 172, 173, 174, 175, 176, 177, 178, 179, 180, 181, 41, 182, 183, 184, 185, 186, 187, 188, 189, 11, 190, 34, 191, 192, 193, 16, 194, 195, 196, 197, 198, 199, 320, 321, 322, 323, 210, 91, 92, 215, 324, 205, 206, 207, 208, 209, 211, 212, 213, 214, 216, 217, 218, 219, 220, 221, 222, 223, 224, 225, 226, 227, 228, 229, 230, 231, 423, 424, 425, 426, 427, 428, 429, 430, 431, 442, 443, 444, 445, 446, 432, 433, 434, 435] (by decide +kernel) (by decide +kernel)
set_option maxRecDepth 20000 in
theorem gL_law_L_isMean : GoodIn wsL_law (va_wsS RL 85 yL_isMean wsL_isMean) := goodIn_app (goodIn_of _ (by decide +kernel)) ggL_law_L_isMean
set_option maxRecDepth 20000 in
theorem ggL_law_X4_set : GoodIn wsL_law wsX4_set := goodIn_r _ [238, 12, 68, 69, 70, 71, 2, 72, 13, 73, 74, 75, 76, 11, 77, 31, 32, 34, 78, 79, 80, 30, 81, 38, 82, 83, 84, 85, 39, 86, 41, 42, 239, 240, 241, 242, 243, 244, 97, 98, 99, 100, 101, 102, 103, 104, 423, 424, 425, 426, 427, 428, 429, 430, 431, 442, 443, 444, 445, 446] (by decide +kernel) (by decide +kernel)
set_option maxRecDepth 20000 in
theorem gL_law_X4_set : GoodIn wsL_law (wsV RL 30 RX4 yX4_set wsX4_set) := goodIn_app (goodIn_of _ (by decide +kernel)) ggL_law_X4_set
set_option maxRecDepth 20000 in
theorem ggL_law_X4_exchange : GoodIn wsL_law wsX4_exchange := goodIn_r _ [266, 12, 68, 69, 70, 71, 2, 72, 13, 73, 74, 75, 76, 11, 77, 31, 32, 34, 78, 79, 80, 30, 81, 38, 82, 83, 84, 85, 39, 86, 41, 42, 267, 268, 269, 270, 271, 272, 273, 274, 275, 118, 119, 120, 121, 122, 123, 124, 125, 126, 127, 128, 129, 130, 97, 98, 99, 100, 101, 102, 103, 104, 423, 424, 425, 426, 427, 428, 429, 430, 431, 442, 443, 444, 445, 446] (by decide +kernel) (by decide +kernel)
set_option maxRecDepth 20000 in
theorem gL_law_X4_exchange : GoodIn wsL_law (wsV RL 39 RX4 yX4_exchange wsX4_exchange) := goodIn_app (goodIn_of _ (by decide +kernel)) ggL_law_X4_exchange
set_option maxRecDepth 20000 in
theorem ggL_law_X4_draw : GoodIn wsL_law wsX4_draw := goodIn_r _ [294, 12, 68, 69, 70, 71, 2, 72, 13, 73, 74, 75, 76, 11, 77, 31, 32, 34, 78, 79, 80, 30, 81, 38, 82, 83, 84, 85, 39, 86, 41, 42, 295, 296, 297, 298, 299, 91, 92, 300, 132, 133, 134, 135, 136, 137, 97, 98, 99, 100, 101, 102, 103, 104, 423, 424, 425, 426, 427, 428, 429, 430, 431, 442, 443, 444, 445, 446] (by decide +kernel) (by decide +kernel)
set_option maxRecDepth 20000 in
theorem gL_law_X4_draw : GoodIn wsL_law (wsV RL 45 RX4 yX4_draw wsX4_draw) := goodIn_app (goodIn_of _ (by decide +kernel)) ggL_law_X4_draw
set_option maxRecDepth 20000 in
theorem ggL_law_X4_restore : GoodIn wsL_law wsX4_restore := goodIn_r _ [341, 12, 69, 70, 71, 2, 72, 13, 73, 74, 75, 76, 11, 77, 31, 32, 34, 78, 79, 80, 30, 81, 38, 82, 83, 84, 85, 39, 86, 41, 42, 342, 343, 344, 345, 309, 310, 311, 312, 97, 98, 99, 100, 101, 102, 103, 104, 423, 424, 425, 426, 427, 428, 429, 430, 431, 442, 443, 444, 445, 446] (by decide +kernel) (by decide +kernel)
set_option maxRecDepth 20000 in
theorem gL_law_X4_restore : GoodIn wsL_law (wsV RL 89 RX4 yX4_restore wsX4_restore) := goodIn_app (goodIn_of _ (by decide +kernel)) ggL_law_X4_restore
set_option maxRecDepth 20000 in
theorem ggL_law_X4_ticks : GoodIn wsL_law wsX4_ticks := goodIn_r _ [349, 350, 253, 2, 254, 351, 288, 289, 290, 158, 159, 160, 161, 129, 162] (by decide +kernel) (by decide +kernel)
set_option maxRecDepth 20000 in
theorem gL_law_X4_ticks : GoodIn wsL_law (wsV RL 92 RX4 yX4_ticks wsX4_ticks) := goodIn_app (goodIn_of _ (by decide +kernel)) ggL_law_X4_ticks
set_option maxRecDepth 20000 in
theorem ggL_law_X4_bestStart : GoodIn wsL_law wsX4_bestStart := goodIn_r _ [355, 12, 68, 23, 114, 356, 357, 358, 30, 359, 41, 86, 39, 300, 132, 133, 134, 135, 136, 137, 360, 361, 362, 363, 364, 365, 366, 367, 42, 212, 2, 213, 150, 151, 152, 153, 93, 94, 95, 96, 121, 122, 123, 124, 125, 126, 127, 128, 129, 130, 146, 147, 148, 149, 154, 155, 156, 157, 38, 158, 159, 160, 161, 162, 163, 164, 165, 166, 167, 168, 169, 423, 424, 425, 426, 427, 428, 429, 430, 431, 442, 443, 444, 445, 446] (by decide +kernel) (by decide +kernel)
set_option maxRecDepth 20000 in
theorem gL_law_X4_bestStart : GoodIn wsL_law (wsV RL 95 RX4 yX4_bestStart wsX4_bestStart) := goodIn_app (goodIn_of _ (by decide +kernel)) ggL_law_X4_bestStart
set_option maxRecDepth 20000 in
theorem ggL_law_X4_leastTravel : GoodIn wsL_law wsX4_leastTravel := goodIn_r _ [371, 21, 12, 68, 372, 373, 374, 30, 375, 86, 39, 376, 377, 378, 20, 379, 380, 381, 382, 383, 384, 385, 52, 212, 2, 213, 386, 387, 388, 389, 54, 390, 391, 392, 393, 394, 395, 396, 397, 398, 399, 400, 401, 125, 126, 127, 128, 129, 130, 402, 403, 404, 405, 406, 55, 407, 408, 409, 410, 411, 412, 413, 414, 423, 424, 425, 426, 427, 428, 429, 430, 431, 442, 443, 444, 445, 446, 436, 437, 438, 439, 440, 441] (by decide +kernel) (by decide +kernel)
set_option maxRecDepth 20000 in
theorem gL_law_X4_leastTravel : GoodIn wsL_law (wsV RL 98 RX4 yX4_leastTravel wsX4_leastTravel) := goodIn_app (goodIn_of _ (by decide +kernel)) ggL_law_X4_leastTravel
set_option maxRecDepth 20000 in
theorem ggL_law_X4_longest : GoodIn wsL_law wsX4_longest := goodIn_r _ [418, 12, 68, 170, 171, 172, 30, 173, 42, 174, 175, 176, 177, 142, 143, 144, 145, 86, 39, 146, 147, 148, 149, 150, 151, 152, 153, 93, 94, 95, 96, 121, 122, 123, 124, 125, 2, 126, 127, 128, 129, 130, 154, 155, 156, 157, 38, 158, 159, 160, 161, 162, 163, 164, 165, 166, 167, 168, 169, 178, 179, 180, 181, 41, 423, 424, 425, 426, 427, 428, 429, 430, 431, 442, 443, 444, 445, 446] (by decide +kernel) (by decide +kernel)
set_option maxRecDepth 20000 in
theorem gL_law_X4_longest : GoodIn wsL_law (wsV RL 101 RX4 yX4_longest wsX4_longest) := goodIn_app (goodIn_of _ (by decide +kernel)) ggL_law_X4_longest
set_option maxRecDepth 20000 in
theorem ggL_law_X4_shortestPeriod : GoodIn wsL_law wsX4_shortestPeriod := goodIn_r _ [422, 12, 68, 115, 160, 161, 129, 162, 186, 122, 123, 30, 124, 86, 39, 42, 125, 2, 126, 127, 128, 130, 423, 424, 425, 426, 427, 428, 429, 430, 431, 442, 443, 444, 445, 446] (by decide +kernel) (by decide +kernel)
set_option maxRecDepth 20000 in
theorem gL_law_X4_shortestPeriod : GoodIn wsL_law (wsV RL 104 RX4 yX4_shortestPeriod wsX4_shortestPeriod) := goodIn_app (goodIn_of _ (by decide +kernel)) ggL_law_X4_shortestPeriod
theorem dL_law_0 : decode cL_law 0 = .ok (.new 13, 3) := by decide +kernel
theorem dL_law_3 : decode cL_law 3 = .ok (.dup, 1) := by decide +kernel
theorem dL_law_4 : decode cL_law 4 = .ok (.invokespecial 61, 3) := by decide +kernel
theorem dL_law_7 : decode cL_law 7 = .ok (.astore_n 1, 1) := by decide +kernel
theorem dL_law_8 : decode cL_law 8 = .ok (.aload_n 0, 1) := by decide +kernel
theorem dL_law_9 : decode cL_law 9 = .ok (.iconst 0, 1) := by decide +kernel
theorem dL_law_10 : decode cL_law 10 = .ok (.invokestatic 62, 3) := by decide +kernel
theorem dL_law_13 : decode cL_law 13 = .ok (.istore_n 2, 1) := by decide +kernel
theorem dL_law_14 : decode cL_law 14 = .ok (.aload_n 1, 1) := by decide +kernel
theorem dL_law_15 : decode cL_law 15 = .ok (.iload_n 2, 1) := by decide +kernel
theorem dL_law_16 : decode cL_law 16 = .ok (.bipush 64, 2) := by decide +kernel
theorem dL_law_18 : decode cL_law 18 = .ok (.invokestatic 25, 3) := by decide +kernel
theorem dL_law_21 : decode cL_law 21 = .ok (.invokevirtual 52, 3) := by decide +kernel
theorem dL_law_24 : decode cL_law 24 = .ok (.pop, 1) := by decide +kernel
theorem dL_law_25 : decode cL_law 25 = .ok (.aload_n 1, 1) := by decide +kernel
theorem dL_law_26 : decode cL_law 26 = .ok (.iconst 1, 1) := by decide +kernel
theorem dL_law_27 : decode cL_law 27 = .ok (.iload_n 2, 1) := by decide +kernel
theorem dL_law_28 : decode cL_law 28 = .ok (.bipush 64, 2) := by decide +kernel
theorem dL_law_30 : decode cL_law 30 = .ok (.invokestatic 25, 3) := by decide +kernel
theorem dL_law_33 : decode cL_law 33 = .ok (.iadd, 1) := by decide +kernel
theorem dL_law_34 : decode cL_law 34 = .ok (.iload_n 2, 1) := by decide +kernel
theorem dL_law_35 : decode cL_law 35 = .ok (.bipush 6, 2) := by decide +kernel
theorem dL_law_37 : decode cL_law 37 = .ok (.ishr, 1) := by decide +kernel
theorem dL_law_38 : decode cL_law 38 = .ok (.bipush 63, 2) := by decide +kernel
theorem dL_law_40 : decode cL_law 40 = .ok (.invokestatic 25, 3) := by decide +kernel
theorem dL_law_43 : decode cL_law 43 = .ok (.iadd, 1) := by decide +kernel
theorem dL_law_44 : decode cL_law 44 = .ok (.bipush 64, 2) := by decide +kernel
theorem dL_law_46 : decode cL_law 46 = .ok (.irem, 1) := by decide +kernel
theorem dL_law_47 : decode cL_law 47 = .ok (.invokevirtual 52, 3) := by decide +kernel
theorem dL_law_50 : decode cL_law 50 = .ok (.pop, 1) := by decide +kernel
theorem dL_law_51 : decode cL_law 51 = .ok (.iconst 1, 1) := by decide +kernel
theorem dL_law_52 : decode cL_law 52 = .ok (.istore_n 3, 1) := by decide +kernel
theorem dL_law_53 : decode cL_law 53 = .ok (.iload_n 3, 1) := by decide +kernel
theorem dL_law_54 : decode cL_law 54 = .ok (.bipush 18, 2) := by decide +kernel
theorem dL_law_56 : decode cL_law 56 = .ok (.if_icmp .ge 123, 3) := by decide +kernel
theorem dL_law_59 : decode cL_law 59 = .ok (.aload_n 0, 1) := by decide +kernel
theorem dL_law_60 : decode cL_law 60 = .ok (.iload_n 3, 1) := by decide +kernel
theorem dL_law_61 : decode cL_law 61 = .ok (.invokestatic 62, 3) := by decide +kernel
theorem dL_law_64 : decode cL_law 64 = .ok (.istore 4, 2) := by decide +kernel
theorem dL_law_66 : decode cL_law 66 = .ok (.aload_n 1, 1) := by decide +kernel
theorem dL_law_67 : decode cL_law 67 = .ok (.invokestatic 66, 3) := by decide +kernel
theorem dL_law_70 : decode cL_law 70 = .ok (.lstore 5, 2) := by decide +kernel
theorem dL_law_72 : decode cL_law 72 = .ok (.aload_n 1, 1) := by decide +kernel
theorem dL_law_73 : decode cL_law 73 = .ok (.iconst 0, 1) := by decide +kernel
theorem dL_law_74 : decode cL_law 74 = .ok (.invokevirtual 12, 3) := by decide +kernel
theorem dL_law_77 : decode cL_law 77 = .ok (.istore 7, 2) := by decide +kernel
theorem dL_law_79 : decode cL_law 79 = .ok (.aload_n 1, 1) := by decide +kernel
theorem dL_law_80 : decode cL_law 80 = .ok (.iload 4, 2) := by decide +kernel
theorem dL_law_82 : decode cL_law 82 = .ok (.invokestatic 70, 3) := by decide +kernel
theorem dL_law_85 : decode cL_law 85 = .ok (.istore 8, 2) := by decide +kernel
theorem dL_law_87 : decode cL_law 87 = .ok (.iload 8, 2) := by decide +kernel
theorem dL_law_89 : decode cL_law 89 = .ok (.ifCond .ge 15, 3) := by decide +kernel
theorem dL_law_92 : decode cL_law 92 = .ok (.aload_n 1, 1) := by decide +kernel
theorem dL_law_93 : decode cL_law 93 = .ok (.invokestatic 66, 3) := by decide +kernel
theorem dL_law_96 : decode cL_law 96 = .ok (.lload 5, 2) := by decide +kernel
theorem dL_law_98 : decode cL_law 98 = .ok (.lcmp, 1) := by decide +kernel
theorem dL_law_99 : decode cL_law 99 = .ok (.ifCond .eq 5, 3) := by decide +kernel
theorem dL_law_102 : decode cL_law 102 = .ok (.iconst 0, 1) := by decide +kernel
theorem dL_law_103 : decode cL_law 103 = .ok (.ireturn, 1) := by decide +kernel
theorem dL_law_104 : decode cL_law 104 = .ok (.iload 8, 2) := by decide +kernel
theorem dL_law_106 : decode cL_law 106 = .ok (.ifCond .lt 38, 3) := by decide +kernel
theorem dL_law_109 : decode cL_law 109 = .ok (.iload_n 3, 1) := by decide +kernel
theorem dL_law_110 : decode cL_law 110 = .ok (.iconst 3, 1) := by decide +kernel
theorem dL_law_111 : decode cL_law 111 = .ok (.iand, 1) := by decide +kernel
theorem dL_law_112 : decode cL_law 112 = .ok (.iconst 2, 1) := by decide +kernel
theorem dL_law_113 : decode cL_law 113 = .ok (.if_icmp .ne 31, 3) := by decide +kernel
theorem dL_law_116 : decode cL_law 116 = .ok (.aload_n 1, 1) := by decide +kernel
theorem dL_law_117 : decode cL_law 117 = .ok (.invokevirtual 74, 3) := by decide +kernel
theorem dL_law_120 : decode cL_law 120 = .ok (.pop, 1) := by decide +kernel
theorem dL_law_121 : decode cL_law 121 = .ok (.aload_n 1, 1) := by decide +kernel
theorem dL_law_122 : decode cL_law 122 = .ok (.invokestatic 66, 3) := by decide +kernel
theorem dL_law_125 : decode cL_law 125 = .ok (.lload 5, 2) := by decide +kernel
theorem dL_law_127 : decode cL_law 127 = .ok (.lcmp, 1) := by decide +kernel
theorem dL_law_128 : decode cL_law 128 = .ok (.ifCond .ne 14, 3) := by decide +kernel
theorem dL_law_131 : decode cL_law 131 = .ok (.aload_n 1, 1) := by decide +kernel
theorem dL_law_132 : decode cL_law 132 = .ok (.iload 4, 2) := by decide +kernel
theorem dL_law_134 : decode cL_law 134 = .ok (.invokestatic 70, 3) := by decide +kernel
theorem dL_law_137 : decode cL_law 137 = .ok (.iload 8, 2) := by decide +kernel
theorem dL_law_139 : decode cL_law 139 = .ok (.if_icmp .eq 5, 3) := by decide +kernel
theorem dL_law_142 : decode cL_law 142 = .ok (.iconst 0, 1) := by decide +kernel
theorem dL_law_143 : decode cL_law 143 = .ok (.ireturn, 1) := by decide +kernel
theorem dL_law_144 : decode cL_law 144 = .ok (.iload 4, 2) := by decide +kernel
theorem dL_law_146 : decode cL_law 146 = .ok (.bipush 15, 2) := by decide +kernel
theorem dL_law_148 : decode cL_law 148 = .ok (.iand, 1) := by decide +kernel
theorem dL_law_149 : decode cL_law 149 = .ok (.bipush 9, 2) := by decide +kernel
theorem dL_law_151 : decode cL_law 151 = .ok (.if_icmp .ne 13, 3) := by decide +kernel
theorem dL_law_154 : decode cL_law 154 = .ok (.aload_n 1, 1) := by decide +kernel
theorem dL_law_155 : decode cL_law 155 = .ok (.iconst 0, 1) := by decide +kernel
theorem dL_law_156 : decode cL_law 156 = .ok (.invokevirtual 12, 3) := by decide +kernel
theorem dL_law_159 : decode cL_law 159 = .ok (.iload 7, 2) := by decide +kernel
theorem dL_law_161 : decode cL_law 161 = .ok (.if_icmp .ne 10, 3) := by decide +kernel
theorem dL_law_164 : decode cL_law 164 = .ok (.aload_n 1, 1) := by decide +kernel
theorem dL_law_165 : decode cL_law 165 = .ok (.invokestatic 78, 3) := by decide +kernel
theorem dL_law_168 : decode cL_law 168 = .ok (.ifCond .ne 5, 3) := by decide +kernel
theorem dL_law_171 : decode cL_law 171 = .ok (.iconst 0, 1) := by decide +kernel
theorem dL_law_172 : decode cL_law 172 = .ok (.ireturn, 1) := by decide +kernel
theorem dL_law_173 : decode cL_law 173 = .ok (.iinc 3 1, 3) := by decide +kernel
theorem dL_law_176 : decode cL_law 176 = .ok (.goto (-123), 3) := by decide +kernel
theorem dL_law_179 : decode cL_law 179 = .ok (.aload_n 1, 1) := by decide +kernel
theorem dL_law_180 : decode cL_law 180 = .ok (.iconst 0, 1) := by decide +kernel
theorem dL_law_181 : decode cL_law 181 = .ok (.invokevirtual 12, 3) := by decide +kernel
theorem dL_law_184 : decode cL_law 184 = .ok (.ifCond .le 21, 3) := by decide +kernel
theorem dL_law_187 : decode cL_law 187 = .ok (.aload_n 1, 1) := by decide +kernel
theorem dL_law_188 : decode cL_law 188 = .ok (.iload_n 2, 1) := by decide +kernel
theorem dL_law_189 : decode cL_law 189 = .ok (.iconst 4, 1) := by decide +kernel
theorem dL_law_190 : decode cL_law 190 = .ok (.ishr, 1) := by decide +kernel
theorem dL_law_191 : decode cL_law 191 = .ok (.aload_n 1, 1) := by decide +kernel
theorem dL_law_192 : decode cL_law 192 = .ok (.iconst 0, 1) := by decide +kernel
theorem dL_law_193 : decode cL_law 193 = .ok (.invokevirtual 12, 3) := by decide +kernel
theorem dL_law_196 : decode cL_law 196 = .ok (.invokestatic 25, 3) := by decide +kernel
theorem dL_law_199 : decode cL_law 199 = .ok (.invokevirtual 18, 3) := by decide +kernel
theorem dL_law_202 : decode cL_law 202 = .ok (.goto 4, 3) := by decide +kernel
theorem dL_law_205 : decode cL_law 205 = .ok (.iconst 0, 1) := by decide +kernel
theorem dL_law_206 : decode cL_law 206 = .ok (.istore_n 3, 1) := by decide +kernel
theorem dL_law_207 : decode cL_law 207 = .ok (.aload_n 1, 1) := by decide +kernel
theorem dL_law_208 : decode cL_law 208 = .ok (.invokestatic 82, 3) := by decide +kernel
theorem dL_law_211 : decode cL_law 211 = .ok (.ifCond .eq 27, 3) := by decide +kernel
theorem dL_law_214 : decode cL_law 214 = .ok (.aload_n 1, 1) := by decide +kernel
theorem dL_law_215 : decode cL_law 215 = .ok (.iload_n 3, 1) := by decide +kernel
theorem dL_law_216 : decode cL_law 216 = .ok (.invokestatic 85, 3) := by decide +kernel
theorem dL_law_219 : decode cL_law 219 = .ok (.ifCond .eq 19, 3) := by decide +kernel
theorem dL_law_222 : decode cL_law 222 = .ok (.aload_n 1, 1) := by decide +kernel
theorem dL_law_223 : decode cL_law 223 = .ok (.iload_n 2, 1) := by decide +kernel
theorem dL_law_224 : decode cL_law 224 = .ok (.bipush 9, 2) := by decide +kernel
theorem dL_law_226 : decode cL_law 226 = .ok (.ishr, 1) := by decide +kernel
theorem dL_law_227 : decode cL_law 227 = .ok (.bipush 64, 2) := by decide +kernel
theorem dL_law_229 : decode cL_law 229 = .ok (.invokestatic 25, 3) := by decide +kernel
theorem dL_law_232 : decode cL_law 232 = .ok (.invokestatic 85, 3) := by decide +kernel
theorem dL_law_235 : decode cL_law 235 = .ok (.ifCond .ne 5, 3) := by decide +kernel
theorem dL_law_238 : decode cL_law 238 = .ok (.iconst 0, 1) := by decide +kernel
theorem dL_law_239 : decode cL_law 239 = .ok (.ireturn, 1) := by decide +kernel
theorem dL_law_240 : decode cL_law 240 = .ok (.aload_n 1, 1) := by decide +kernel
theorem dL_law_241 : decode cL_law 241 = .ok (.invokestatic 66, 3) := by decide +kernel
theorem dL_law_244 : decode cL_law 244 = .ok (.lstore 4, 2) := by decide +kernel
theorem dL_law_246 : decode cL_law 246 = .ok (.aload_n 1, 1) := by decide +kernel
theorem dL_law_247 : decode cL_law 247 = .ok (.iconst 0, 1) := by decide +kernel
theorem dL_law_248 : decode cL_law 248 = .ok (.bipush 7, 2) := by decide +kernel
theorem dL_law_250 : decode cL_law 250 = .ok (.invokevirtual 30, 3) := by decide +kernel
theorem dL_law_253 : decode cL_law 253 = .ok (.iconst (-1), 1) := by decide +kernel
theorem dL_law_254 : decode cL_law 254 = .ok (.if_icmp .ne 84, 3) := by decide +kernel
theorem dL_law_257 : decode cL_law 257 = .ok (.aload_n 1, 1) := by decide +kernel
theorem dL_law_258 : decode cL_law 258 = .ok (.bipush 6, 2) := by decide +kernel
theorem dL_law_260 : decode cL_law 260 = .ok (.iconst 1, 1) := by decide +kernel
theorem dL_law_261 : decode cL_law 261 = .ok (.invokevirtual 30, 3) := by decide +kernel
theorem dL_law_264 : decode cL_law 264 = .ok (.iconst (-1), 1) := by decide +kernel
theorem dL_law_265 : decode cL_law 265 = .ok (.if_icmp .ne 73, 3) := by decide +kernel
theorem dL_law_268 : decode cL_law 268 = .ok (.aload_n 1, 1) := by decide +kernel
theorem dL_law_269 : decode cL_law 269 = .ok (.bipush 64, 2) := by decide +kernel
theorem dL_law_271 : decode cL_law 271 = .ok (.invokevirtual 52, 3) := by decide +kernel
theorem dL_law_274 : decode cL_law 274 = .ok (.iconst (-1), 1) := by decide +kernel
theorem dL_law_275 : decode cL_law 275 = .ok (.if_icmp .ne 63, 3) := by decide +kernel
theorem dL_law_278 : decode cL_law 278 = .ok (.aload_n 1, 1) := by decide +kernel
theorem dL_law_279 : decode cL_law 279 = .ok (.bipush 12, 2) := by decide +kernel
theorem dL_law_281 : decode cL_law 281 = .ok (.iconst 0, 1) := by decide +kernel
theorem dL_law_282 : decode cL_law 282 = .ok (.invokevirtual 39, 3) := by decide +kernel
theorem dL_law_285 : decode cL_law 285 = .ok (.iconst (-1), 1) := by decide +kernel
theorem dL_law_286 : decode cL_law 286 = .ok (.if_icmp .ne 52, 3) := by decide +kernel
theorem dL_law_289 : decode cL_law 289 = .ok (.aload_n 1, 1) := by decide +kernel
theorem dL_law_290 : decode cL_law 290 = .ok (.iconst 2, 1) := by decide +kernel
theorem dL_law_291 : decode cL_law 291 = .ok (.iconst 0, 1) := by decide +kernel
theorem dL_law_292 : decode cL_law 292 = .ok (.iconst 0, 1) := by decide +kernel
theorem dL_law_293 : decode cL_law 293 = .ok (.invokevirtual 45, 3) := by decide +kernel
theorem dL_law_296 : decode cL_law 296 = .ok (.iconst (-1), 1) := by decide +kernel
theorem dL_law_297 : decode cL_law 297 = .ok (.if_icmp .ne 41, 3) := by decide +kernel
theorem dL_law_300 : decode cL_law 300 = .ok (.aload_n 1, 1) := by decide +kernel
theorem dL_law_301 : decode cL_law 301 = .ok (.iconst 2, 1) := by decide +kernel
theorem dL_law_302 : decode cL_law 302 = .ok (.invokevirtual 89, 3) := by decide +kernel
theorem dL_law_305 : decode cL_law 305 = .ok (.iconst (-1), 1) := by decide +kernel
theorem dL_law_306 : decode cL_law 306 = .ok (.if_icmp .ne 32, 3) := by decide +kernel
theorem dL_law_309 : decode cL_law 309 = .ok (.aload_n 1, 1) := by decide +kernel
theorem dL_law_310 : decode cL_law 310 = .ok (.iconst 0, 1) := by decide +kernel
theorem dL_law_311 : decode cL_law 311 = .ok (.iconst 0, 1) := by decide +kernel
theorem dL_law_312 : decode cL_law 312 = .ok (.invokevirtual 92, 3) := by decide +kernel
theorem dL_law_315 : decode cL_law 315 = .ok (.iconst (-1), 1) := by decide +kernel
theorem dL_law_316 : decode cL_law 316 = .ok (.if_icmp .ne 22, 3) := by decide +kernel
theorem dL_law_319 : decode cL_law 319 = .ok (.aload_n 1, 1) := by decide +kernel
theorem dL_law_320 : decode cL_law 320 = .ok (.iconst (-1), 1) := by decide +kernel
theorem dL_law_321 : decode cL_law 321 = .ok (.invokevirtual 18, 3) := by decide +kernel
theorem dL_law_324 : decode cL_law 324 = .ok (.iconst (-1), 1) := by decide +kernel
theorem dL_law_325 : decode cL_law 325 = .ok (.if_icmp .ne 13, 3) := by decide +kernel
theorem dL_law_328 : decode cL_law 328 = .ok (.aload_n 1, 1) := by decide +kernel
theorem dL_law_329 : decode cL_law 329 = .ok (.invokestatic 66, 3) := by decide +kernel
theorem dL_law_332 : decode cL_law 332 = .ok (.lload 4, 2) := by decide +kernel
theorem dL_law_334 : decode cL_law 334 = .ok (.lcmp, 1) := by decide +kernel
theorem dL_law_335 : decode cL_law 335 = .ok (.ifCond .eq 5, 3) := by decide +kernel
theorem dL_law_338 : decode cL_law 338 = .ok (.iconst 0, 1) := by decide +kernel
theorem dL_law_339 : decode cL_law 339 = .ok (.ireturn, 1) := by decide +kernel
theorem dL_law_340 : decode cL_law 340 = .ok (.aload_n 1, 1) := by decide +kernel
theorem dL_law_341 : decode cL_law 341 = .ok (.iconst 1, 1) := by decide +kernel
theorem dL_law_342 : decode cL_law 342 = .ok (.invokevirtual 95, 3) := by decide +kernel
theorem dL_law_345 : decode cL_law 345 = .ok (.istore 6, 2) := by decide +kernel
theorem dL_law_347 : decode cL_law 347 = .ok (.aload_n 1, 1) := by decide +kernel
theorem dL_law_348 : decode cL_law 348 = .ok (.iconst 0, 1) := by decide +kernel
theorem dL_law_349 : decode cL_law 349 = .ok (.invokevirtual 95, 3) := by decide +kernel
theorem dL_law_352 : decode cL_law 352 = .ok (.istore 7, 2) := by decide +kernel
theorem dL_law_354 : decode cL_law 354 = .ok (.iload 6, 2) := by decide +kernel
theorem dL_law_356 : decode cL_law 356 = .ok (.aload_n 1, 1) := by decide +kernel
theorem dL_law_357 : decode cL_law 357 = .ok (.bipush 7, 2) := by decide +kernel
theorem dL_law_359 : decode cL_law 359 = .ok (.invokevirtual 12, 3) := by decide +kernel
theorem dL_law_362 : decode cL_law 362 = .ok (.if_icmp .gt 28, 3) := by decide +kernel
theorem dL_law_365 : decode cL_law 365 = .ok (.iload 7, 2) := by decide +kernel
theorem dL_law_367 : decode cL_law 367 = .ok (.aload_n 1, 1) := by decide +kernel
theorem dL_law_368 : decode cL_law 368 = .ok (.bipush 13, 2) := by decide +kernel
theorem dL_law_370 : decode cL_law 370 = .ok (.invokevirtual 12, 3) := by decide +kernel
theorem dL_law_373 : decode cL_law 373 = .ok (.if_icmp .ge 17, 3) := by decide +kernel
theorem dL_law_376 : decode cL_law 376 = .ok (.aload_n 1, 1) := by decide +kernel
theorem dL_law_377 : decode cL_law 377 = .ok (.iconst (-1), 1) := by decide +kernel
theorem dL_law_378 : decode cL_law 378 = .ok (.invokevirtual 98, 3) := by decide +kernel
theorem dL_law_381 : decode cL_law 381 = .ok (.aload_n 1, 1) := by decide +kernel
theorem dL_law_382 : decode cL_law 382 = .ok (.bipush 8, 2) := by decide +kernel
theorem dL_law_384 : decode cL_law 384 = .ok (.invokevirtual 12, 3) := by decide +kernel
theorem dL_law_387 : decode cL_law 387 = .ok (.if_icmp .le 5, 3) := by decide +kernel
theorem dL_law_390 : decode cL_law 390 = .ok (.iconst 0, 1) := by decide +kernel
theorem dL_law_391 : decode cL_law 391 = .ok (.ireturn, 1) := by decide +kernel
theorem dL_law_392 : decode cL_law 392 = .ok (.aload_n 1, 1) := by decide +kernel
theorem dL_law_393 : decode cL_law 393 = .ok (.invokevirtual 101, 3) := by decide +kernel
theorem dL_law_396 : decode cL_law 396 = .ok (.istore 8, 2) := by decide +kernel
theorem dL_law_398 : decode cL_law 398 = .ok (.iload 8, 2) := by decide +kernel
theorem dL_law_400 : decode cL_law 400 = .ok (.ifCond .le 29, 3) := by decide +kernel
theorem dL_law_403 : decode cL_law 403 = .ok (.aload_n 1, 1) := by decide +kernel
theorem dL_law_404 : decode cL_law 404 = .ok (.iconst 4, 1) := by decide +kernel
theorem dL_law_405 : decode cL_law 405 = .ok (.iload 8, 2) := by decide +kernel
theorem dL_law_407 : decode cL_law 407 = .ok (.invokevirtual 30, 3) := by decide +kernel
theorem dL_law_410 : decode cL_law 410 = .ok (.pop, 1) := by decide +kernel
theorem dL_law_411 : decode cL_law 411 = .ok (.aload_n 1, 1) := by decide +kernel
theorem dL_law_412 : decode cL_law 412 = .ok (.bipush 7, 2) := by decide +kernel
theorem dL_law_414 : decode cL_law 414 = .ok (.invokevirtual 12, 3) := by decide +kernel
theorem dL_law_417 : decode cL_law 417 = .ok (.ifCond .ne 10, 3) := by decide +kernel
theorem dL_law_420 : decode cL_law 420 = .ok (.aload_n 1, 1) := by decide +kernel
theorem dL_law_421 : decode cL_law 421 = .ok (.invokevirtual 74, 3) := by decide +kernel
theorem dL_law_424 : decode cL_law 424 = .ok (.ifCond .ge 5, 3) := by decide +kernel
theorem dL_law_427 : decode cL_law 427 = .ok (.iconst 0, 1) := by decide +kernel
theorem dL_law_428 : decode cL_law 428 = .ok (.ireturn, 1) := by decide +kernel
theorem dL_law_429 : decode cL_law 429 = .ok (.aload_n 1, 1) := by decide +kernel
theorem dL_law_430 : decode cL_law 430 = .ok (.iconst 3, 1) := by decide +kernel
theorem dL_law_431 : decode cL_law 431 = .ok (.iload 7, 2) := by decide +kernel
theorem dL_law_433 : decode cL_law 433 = .ok (.invokevirtual 30, 3) := by decide +kernel
theorem dL_law_436 : decode cL_law 436 = .ok (.pop, 1) := by decide +kernel
theorem dL_law_437 : decode cL_law 437 = .ok (.aload_n 1, 1) := by decide +kernel
theorem dL_law_438 : decode cL_law 438 = .ok (.bipush 7, 2) := by decide +kernel
theorem dL_law_440 : decode cL_law 440 = .ok (.invokevirtual 12, 3) := by decide +kernel
theorem dL_law_443 : decode cL_law 443 = .ok (.iload 6, 2) := by decide +kernel
theorem dL_law_445 : decode cL_law 445 = .ok (.if_icmp .eq 5, 3) := by decide +kernel
theorem dL_law_448 : decode cL_law 448 = .ok (.iconst 0, 1) := by decide +kernel
theorem dL_law_449 : decode cL_law 449 = .ok (.ireturn, 1) := by decide +kernel
theorem dL_law_450 : decode cL_law 450 = .ok (.aload_n 1, 1) := by decide +kernel
theorem dL_law_451 : decode cL_law 451 = .ok (.invokevirtual 104, 3) := by decide +kernel
theorem dL_law_454 : decode cL_law 454 = .ok (.istore 9, 2) := by decide +kernel
theorem dL_law_456 : decode cL_law 456 = .ok (.iload 9, 2) := by decide +kernel
theorem dL_law_458 : decode cL_law 458 = .ok (.ifCond .le 58, 3) := by decide +kernel
theorem dL_law_461 : decode cL_law 461 = .ok (.aload_n 1, 1) := by decide +kernel
theorem dL_law_462 : decode cL_law 462 = .ok (.iconst 0, 1) := by decide +kernel
theorem dL_law_463 : decode cL_law 463 = .ok (.iload 9, 2) := by decide +kernel
theorem dL_law_465 : decode cL_law 465 = .ok (.invokevirtual 30, 3) := by decide +kernel
theorem dL_law_468 : decode cL_law 468 = .ok (.pop, 1) := by decide +kernel
theorem dL_law_469 : decode cL_law 469 = .ok (.aload_n 1, 1) := by decide +kernel
theorem dL_law_470 : decode cL_law 470 = .ok (.iconst 1, 1) := by decide +kernel
theorem dL_law_471 : decode cL_law 471 = .ok (.invokevirtual 12, 3) := by decide +kernel
theorem dL_law_474 : decode cL_law 474 = .ok (.aload_n 1, 1) := by decide +kernel
theorem dL_law_475 : decode cL_law 475 = .ok (.iconst 0, 1) := by decide +kernel
theorem dL_law_476 : decode cL_law 476 = .ok (.invokevirtual 12, 3) := by decide +kernel
theorem dL_law_479 : decode cL_law 479 = .ok (.if_icmp .eq 5, 3) := by decide +kernel
theorem dL_law_482 : decode cL_law 482 = .ok (.iconst 0, 1) := by decide +kernel
theorem dL_law_483 : decode cL_law 483 = .ok (.ireturn, 1) := by decide +kernel
theorem dL_law_484 : decode cL_law 484 = .ok (.iload 9, 2) := by decide +kernel
theorem dL_law_486 : decode cL_law 486 = .ok (.bipush 8, 2) := by decide +kernel
theorem dL_law_488 : decode cL_law 488 = .ok (.if_icmp .le 28, 3) := by decide +kernel
theorem dL_law_491 : decode cL_law 491 = .ok (.aload_n 1, 1) := by decide +kernel
theorem dL_law_492 : decode cL_law 492 = .ok (.iconst 0, 1) := by decide +kernel
theorem dL_law_493 : decode cL_law 493 = .ok (.iload 9, 2) := by decide +kernel
theorem dL_law_495 : decode cL_law 495 = .ok (.iconst 1, 1) := by decide +kernel
theorem dL_law_496 : decode cL_law 496 = .ok (.isub, 1) := by decide +kernel
theorem dL_law_497 : decode cL_law 497 = .ok (.invokevirtual 30, 3) := by decide +kernel
theorem dL_law_500 : decode cL_law 500 = .ok (.pop, 1) := by decide +kernel
theorem dL_law_501 : decode cL_law 501 = .ok (.aload_n 1, 1) := by decide +kernel
theorem dL_law_502 : decode cL_law 502 = .ok (.iconst 1, 1) := by decide +kernel
theorem dL_law_503 : decode cL_law 503 = .ok (.invokevirtual 12, 3) := by decide +kernel
theorem dL_law_506 : decode cL_law 506 = .ok (.aload_n 1, 1) := by decide +kernel
theorem dL_law_507 : decode cL_law 507 = .ok (.iconst 0, 1) := by decide +kernel
theorem dL_law_508 : decode cL_law 508 = .ok (.invokevirtual 12, 3) := by decide +kernel
theorem dL_law_511 : decode cL_law 511 = .ok (.if_icmp .ne 5, 3) := by decide +kernel
theorem dL_law_514 : decode cL_law 514 = .ok (.iconst 0, 1) := by decide +kernel
theorem dL_law_515 : decode cL_law 515 = .ok (.ireturn, 1) := by decide +kernel
theorem dL_law_516 : decode cL_law 516 = .ok (.aload_n 1, 1) := by decide +kernel
theorem dL_law_517 : decode cL_law 517 = .ok (.invokestatic 78, 3) := by decide +kernel
theorem dL_law_520 : decode cL_law 520 = .ok (.ifCond .eq 57, 3) := by decide +kernel
theorem dL_law_523 : decode cL_law 523 = .ok (.aload_n 1, 1) := by decide +kernel
theorem dL_law_524 : decode cL_law 524 = .ok (.invokestatic 82, 3) := by decide +kernel
theorem dL_law_527 : decode cL_law 527 = .ok (.ifCond .eq 50, 3) := by decide +kernel
theorem dL_law_530 : decode cL_law 530 = .ok (.aload_n 1, 1) := by decide +kernel
theorem dL_law_531 : decode cL_law 531 = .ok (.iconst 0, 1) := by decide +kernel
theorem dL_law_532 : decode cL_law 532 = .ok (.iconst 1, 1) := by decide +kernel
theorem dL_law_533 : decode cL_law 533 = .ok (.invokevirtual 92, 3) := by decide +kernel
theorem dL_law_536 : decode cL_law 536 = .ok (.iconst 5, 1) := by decide +kernel
theorem dL_law_537 : decode cL_law 537 = .ok (.if_icmp .ne 40, 3) := by decide +kernel
theorem dL_law_540 : decode cL_law 540 = .ok (.aload_n 1, 1) := by decide +kernel
theorem dL_law_541 : decode cL_law 541 = .ok (.iconst 1, 1) := by decide +kernel
theorem dL_law_542 : decode cL_law 542 = .ok (.iconst 1, 1) := by decide +kernel
theorem dL_law_543 : decode cL_law 543 = .ok (.invokevirtual 92, 3) := by decide +kernel
theorem dL_law_546 : decode cL_law 546 = .ok (.bipush 25, 2) := by decide +kernel
theorem dL_law_548 : decode cL_law 548 = .ok (.if_icmp .ne 29, 3) := by decide +kernel
theorem dL_law_551 : decode cL_law 551 = .ok (.aload_n 1, 1) := by decide +kernel
theorem dL_law_552 : decode cL_law 552 = .ok (.iconst 2, 1) := by decide +kernel
theorem dL_law_553 : decode cL_law 553 = .ok (.iconst 1, 1) := by decide +kernel
theorem dL_law_554 : decode cL_law 554 = .ok (.invokevirtual 92, 3) := by decide +kernel
theorem dL_law_557 : decode cL_law 557 = .ok (.bipush 35, 2) := by decide +kernel
theorem dL_law_559 : decode cL_law 559 = .ok (.if_icmp .ne 18, 3) := by decide +kernel
theorem dL_law_562 : decode cL_law 562 = .ok (.aload_n 1, 1) := by decide +kernel
theorem dL_law_563 : decode cL_law 563 = .ok (.iconst 3, 1) := by decide +kernel
theorem dL_law_564 : decode cL_law 564 = .ok (.iconst 1, 1) := by decide +kernel
theorem dL_law_565 : decode cL_law 565 = .ok (.invokevirtual 92, 3) := by decide +kernel
theorem dL_law_568 : decode cL_law 568 = .ok (.bipush 8, 2) := by decide +kernel
theorem dL_law_570 : decode cL_law 570 = .ok (.if_icmp .ne 7, 3) := by decide +kernel
theorem dL_law_573 : decode cL_law 573 = .ok (.iconst 1, 1) := by decide +kernel
theorem dL_law_574 : decode cL_law 574 = .ok (.goto 4, 3) := by decide +kernel
theorem dL_law_577 : decode cL_law 577 = .ok (.iconst 0, 1) := by decide +kernel
theorem dL_law_578 : decode cL_law 578 = .ok (.ireturn, 1) := by decide +kernel
abbrev vwCl : List vw_C := [(RX0, TX0, 4), (RX1, TX1, 5), (RX2, TX2, 3), (RX3, TX3, 6), (RX4, TX4, 6)]
