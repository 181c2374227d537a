theorem dX4_sort_5 : decode cX4_sort 5 = .ok (.aload_n 0, 1) := by decide +kernel
theorem dX4_sort_6 : decode cX4_sort 6 = .ok (.getfield 10, 3) := by decide +kernel
theorem dX4_sort_9 : decode cX4_sort 9 = .ok (.getfield 41, 3) := by decide +kernel
theorem dX4_sort_12 : decode cX4_sort 12 = .ok (.iload_n 1, 1) := by decide +kernel
theorem dX4_sort_13 : decode cX4_sort 13 = .ok (.invokevirtual 67, 3) := by decide +kernel
theorem dX4_sort_16 : decode cX4_sort 16 = .ok (.invokevirtual 51, 3) := by decide +kernel
theorem dX4_sort_19 : decode cX4_sort 19 = .ok (.ireturn, 1) := by decide +kernel
set_option maxRecDepth 20000 in
theorem ggX4_draw_X4_prepare : GoodIn wsX4_draw wsX4_prepare := goodIn_r _ [7, 8, 9, 1, 10, 11, 12, 13, 14, 15, 16, 17, 18, 19, 20, 21, 22, 23, 24, 25, 26, 27, 28, 29, 30, 31, 54, 55, 56, 57, 58, 59, 60, 61, 62, 63, 64, 65, 66, 67] (by decide +kernel) (by decide +kernel)
set_option maxRecDepth 20000 in
theorem gX4_draw_X4_prepare : GoodIn wsX4_draw (wsV RX4 38 RX4 yX4_prepare wsX4_prepare) := goodIn_app (goodIn_of _ (by decide +kernel)) ggX4_draw_X4_prepare
set_option maxRecDepth 20000 in
theorem ggX4_draw_X1_paint : GoodIn wsX4_draw wsX1_paint := goodIn_r _ [35, 30, 36, 37, 6, 38, 39, 40, 41, 42, 43, 44, 45, 63, 64, 65, 66, 67] (by decide +kernel) (by decide +kernel)
set_option maxRecDepth 20000 in
theorem gX4_draw_X1_paint : GoodIn wsX4_draw (wsV RX4 70 RX1 yX1_paint wsX1_paint) := goodIn_app (goodIn_of _ (by decide +kernel)) ggX4_draw_X1_paint
set_option maxRecDepth 20000 in
theorem ggX4_draw_X4_finish : GoodIn wsX4_draw wsX4_finish := goodIn_r _ [49, 9, 50, 51, 52, 6, 53, 8, 54, 55, 56, 57, 58, 59] (by decide +kernel) (by decide +kernel)
set_option maxRecDepth 20000 in
theorem gX4_draw_X4_finish : GoodIn wsX4_draw (wsV RX4 51 RX4 yX4_finish wsX4_finish) := goodIn_app (goodIn_of _ (by decide +kernel)) ggX4_draw_X4_finish
theorem dX4_draw_0 : decode cX4_draw 0 = .ok (.aload_n 0, 1) := by decide +kernel
theorem dX4_draw_1 : decode cX4_draw 1 = .ok (.invokevirtual 38, 3) := by decide +kernel
theorem dX4_draw_4 : decode cX4_draw 4 = .ok (.aload_n 0, 1) := by decide +kernel
theorem dX4_draw_5 : decode cX4_draw 5 = .ok (.aload_n 0, 1) := by decide +kernel
theorem dX4_draw_6 : decode cX4_draw 6 = .ok (.getfield 10, 3) := by decide +kernel
theorem dX4_draw_9 : decode cX4_draw 9 = .ok (.getfield 41, 3) := by decide +kernel
theorem dX4_draw_12 : decode cX4_draw 12 = .ok (.iload_n 1, 1) := by decide +kernel
theorem dX4_draw_13 : decode cX4_draw 13 = .ok (.iload_n 2, 1) := by decide +kernel
theorem dX4_draw_14 : decode cX4_draw 14 = .ok (.iload_n 3, 1) := by decide +kernel
theorem dX4_draw_15 : decode cX4_draw 15 = .ok (.invokevirtual 70, 3) := by decide +kernel
theorem dX4_draw_18 : decode cX4_draw 18 = .ok (.invokevirtual 51, 3) := by decide +kernel
theorem dX4_draw_21 : decode cX4_draw 21 = .ok (.ireturn, 1) := by decide +kernel
set_option maxRecDepth 20000 in
theorem ggX4_take_X4_prepare : GoodIn wsX4_take wsX4_prepare := goodIn_r _ [6, 7, 8, 1, 9, 10, 11, 12, 13, 14, 15, 16, 17, 18, 19, 20, 21, 22, 23, 24, 25, 26, 27, 28, 29, 30, 47, 48, 49, 50, 51, 52, 53, 54, 55, 56, 57, 58, 59, 60] (by decide +kernel) (by decide +kernel)
set_option maxRecDepth 20000 in
theorem gX4_take_X4_prepare : GoodIn wsX4_take (wsV RX4 38 RX4 yX4_prepare wsX4_prepare) := goodIn_app (goodIn_of _ (by decide +kernel)) ggX4_take_X4_prepare
set_option maxRecDepth 20000 in
theorem ggX4_take_X2_keepSnapshot : GoodIn wsX4_take wsX2_keepSnapshot := goodIn_r _ [34, 15, 14, 16, 35, 36, 37, 12, 38, 17, 18, 19, 20, 21, 22, 23, 24, 25, 26, 27, 28, 29, 30, 53, 54, 55, 56, 57, 58, 59, 60] (by decide +kernel) (by decide +kernel)
set_option maxRecDepth 20000 in
theorem gX4_take_X2_keepSnapshot : GoodIn wsX4_take (wsV RX4 74 RX2 yX2_keepSnapshot wsX2_keepSnapshot) := goodIn_app (goodIn_of _ (by decide +kernel)) ggX4_take_X2_keepSnapshot
set_option maxRecDepth 20000 in
theorem ggX4_take_X4_finish : GoodIn wsX4_take wsX4_finish := goodIn_r _ [42, 8, 43, 44, 45, 5, 46, 7, 47, 48, 49, 50, 51, 52] (by decide +kernel) (by decide +kernel)
set_option maxRecDepth 20000 in
theorem gX4_take_X4_finish : GoodIn wsX4_take (wsV RX4 51 RX4 yX4_finish wsX4_finish) := goodIn_app (goodIn_of _ (by decide +kernel)) ggX4_take_X4_finish
theorem dX4_take_0 : decode cX4_take 0 = .ok (.aload_n 0, 1) := by decide +kernel
theorem dX4_take_1 : decode cX4_take 1 = .ok (.invokevirtual 38, 3) := by decide +kernel
theorem dX4_take_4 : decode cX4_take 4 = .ok (.aload_n 0, 1) := by decide +kernel
theorem dX4_take_5 : decode cX4_take 5 = .ok (.aload_n 0, 1) := by decide +kernel
theorem dX4_take_6 : decode cX4_take 6 = .ok (.getfield 10, 3) := by decide +kernel
theorem dX4_take_9 : decode cX4_take 9 = .ok (.iload_n 1, 1) := by decide +kernel
theorem dX4_take_10 : decode cX4_take 10 = .ok (.invokevirtual 74, 3) := by decide +kernel
theorem dX4_take_13 : decode cX4_take 13 = .ok (.invokevirtual 51, 3) := by decide +kernel
theorem dX4_take_16 : decode cX4_take 16 = .ok (.ireturn, 1) := by decide +kernel
set_option maxRecDepth 20000 in
theorem ggX4_restore_X4_prepare : GoodIn wsX4_restore wsX4_prepare := goodIn_r _ [6, 7, 8, 1, 9, 10, 11, 12, 13, 14, 15, 16, 17, 18, 19, 20, 21, 22, 23, 24, 25, 26, 27, 28, 29, 30, 47, 48, 49, 50, 51, 52, 53, 54, 55, 56, 57, 58, 59, 60] (by decide +kernel) (by decide +kernel)
set_option maxRecDepth 20000 in
theorem gX4_restore_X4_prepare : GoodIn wsX4_restore (wsV RX4 38 RX4 yX4_prepare wsX4_prepare) := goodIn_app (goodIn_of _ (by decide +kernel)) ggX4_restore_X4_prepare
set_option maxRecDepth 20000 in
theorem ggX4_restore_X2_showSnapshot : GoodIn wsX4_restore wsX2_showSnapshot := goodIn_r _ [34, 16, 14, 15, 35, 36, 37, 12, 38, 17, 18, 19, 20, 21, 22, 23, 24, 25, 26, 27, 28, 29, 30, 53, 54, 55, 56, 57, 58, 59, 60] (by decide +kernel) (by decide +kernel)
set_option maxRecDepth 20000 in
theorem gX4_restore_X2_showSnapshot : GoodIn wsX4_restore (wsV RX4 77 RX2 yX2_showSnapshot wsX2_showSnapshot) := goodIn_app (goodIn_of _ (by decide +kernel)) ggX4_restore_X2_showSnapshot
set_option maxRecDepth 20000 in
theorem ggX4_restore_X4_finish : GoodIn wsX4_restore wsX4_finish := goodIn_r _ [42, 8, 43, 44, 45, 5, 46, 7, 47, 48, 49, 50, 51, 52] (by decide +kernel) (by decide +kernel)
set_option maxRecDepth 20000 in
theorem gX4_restore_X4_finish : GoodIn wsX4_restore (wsV RX4 51 RX4 yX4_finish wsX4_finish) := goodIn_app (goodIn_of _ (by decide +kernel)) ggX4_restore_X4_finish
theorem dX4_restore_0 : decode cX4_restore 0 = .ok (.aload_n 0, 1) := by decide +kernel
theorem dX4_restore_1 : decode cX4_restore 1 = .ok (.invokevirtual 38, 3) := by decide +kernel
theorem dX4_restore_4 : decode cX4_restore 4 = .ok (.aload_n 0, 1) := by decide +kernel
theorem dX4_restore_5 : decode cX4_restore 5 = .ok (.aload_n 0, 1) := by decide +kernel
theorem dX4_restore_6 : decode cX4_restore 6 = .ok (.getfield 10, 3) := by decide +kernel
theorem dX4_restore_9 : decode cX4_restore 9 = .ok (.iload_n 1, 1) := by decide +kernel
theorem dX4_restore_10 : decode cX4_restore 10 = .ok (.invokevirtual 77, 3) := by decide +kernel
theorem dX4_restore_13 : decode cX4_restore 13 = .ok (.invokevirtual 51, 3) := by decide +kernel
theorem dX4_restore_16 : decode cX4_restore 16 = .ok (.ireturn, 1) := by decide +kernel
set_option maxRecDepth 20000 in
theorem ggX4_undo_X2_copyFrom : GoodIn wsX4_undo wsX2_copyFrom := goodIn_r _ [8, 9, 10, 11, 12, 13, 14, 15, 16, 17, 18, 19, 20, 21, 22, 23, 24, 25, 32, 33, 34, 35, 36, 37, 38, 39] (by decide +kernel) (by decide +kernel)
set_option maxRecDepth 20000 in
theorem gX4_undo_X2_copyFrom : GoodIn wsX4_undo (wsV RX4 84 RX2 yX2_copyFrom wsX2_copyFrom) := goodIn_app (goodIn_of _ (by decide +kernel)) ggX4_undo_X2_copyFrom
theorem dX4_undo_0 : decode cX4_undo 0 = .ok (.aload_n 0, 1) := by decide +kernel
theorem dX4_undo_1 : decode cX4_undo 1 = .ok (.getfield 80, 3) := by decide +kernel
theorem dX4_undo_4 : decode cX4_undo 4 = .ok (.iconst 1, 1) := by decide +kernel
theorem dX4_undo_5 : decode cX4_undo 5 = .ok (.if_icmp .ge 6, 3) := by decide +kernel
theorem dX4_undo_8 : decode cX4_undo 8 = .ok (.bipush (-2), 2) := by decide +kernel
theorem dX4_undo_10 : decode cX4_undo 10 = .ok (.ireturn, 1) := by decide +kernel
theorem dX4_undo_11 : decode cX4_undo 11 = .ok (.aload_n 0, 1) := by decide +kernel
theorem dX4_undo_12 : decode cX4_undo 12 = .ok (.dup, 1) := by decide +kernel
theorem dX4_undo_13 : decode cX4_undo 13 = .ok (.getfield 80, 3) := by decide +kernel
theorem dX4_undo_16 : decode cX4_undo 16 = .ok (.iconst 1, 1) := by decide +kernel
theorem dX4_undo_17 : decode cX4_undo 17 = .ok (.isub, 1) := by decide +kernel
theorem dX4_undo_18 : decode cX4_undo 18 = .ok (.putfield 80, 3) := by decide +kernel
theorem dX4_undo_21 : decode cX4_undo 21 = .ok (.aload_n 0, 1) := by decide +kernel
theorem dX4_undo_22 : decode cX4_undo 22 = .ok (.getfield 10, 3) := by decide +kernel
theorem dX4_undo_25 : decode cX4_undo 25 = .ok (.aload_n 0, 1) := by decide +kernel
theorem dX4_undo_26 : decode cX4_undo 26 = .ok (.getfield 16, 3) := by decide +kernel
theorem dX4_undo_29 : decode cX4_undo 29 = .ok (.aload_n 0, 1) := by decide +kernel
theorem dX4_undo_30 : decode cX4_undo 30 = .ok (.getfield 80, 3) := by decide +kernel
theorem dX4_undo_33 : decode cX4_undo 33 = .ok (.aaload, 1) := by decide +kernel
theorem dX4_undo_34 : decode cX4_undo 34 = .ok (.invokevirtual 84, 3) := by decide +kernel
theorem dX4_undo_37 : decode cX4_undo 37 = .ok (.aload_n 0, 1) := by decide +kernel
theorem dX4_undo_38 : decode cX4_undo 38 = .ok (.getfield 80, 3) := by decide +kernel
theorem dX4_undo_41 : decode cX4_undo 41 = .ok (.ireturn, 1) := by decide +kernel
set_option maxRecDepth 20000 in
theorem ggX4_append_X0_addCharacter : GoodIn wsX4_append wsX0_addCharacter := goodIn_r _ [6, 7, 8, 15, 16, 17, 18] (by decide +kernel) (by decide +kernel)
set_option maxRecDepth 20000 in
theorem gX4_append_X0_addCharacter : GoodIn wsX4_append (wsV RX4 88 RX0 yX0_addCharacter wsX0_addCharacter) := goodIn_app (goodIn_of _ (by decide +kernel)) ggX4_append_X0_addCharacter
theorem dX4_append_0 : decode cX4_append 0 = .ok (.aload_n 0, 1) := by decide +kernel
theorem dX4_append_1 : decode cX4_append 1 = .ok (.getfield 23, 3) := by decide +kernel
theorem dX4_append_4 : decode cX4_append 4 = .ok (.iload_n 1, 1) := by decide +kernel
theorem dX4_append_5 : decode cX4_append 5 = .ok (.invokevirtual 88, 3) := by decide +kernel
theorem dX4_append_8 : decode cX4_append 8 = .ok (.ireturn, 1) := by decide +kernel
set_option maxRecDepth 20000 in
theorem ggX4_clearText_X0_empty : GoodIn wsX4_clearText wsX0_empty := goodIn_r _ [6, 7, 14, 15, 16, 17] (by decide +kernel) (by decide +kernel)
set_option maxRecDepth 20000 in
theorem gX4_clearText_X0_empty : GoodIn wsX4_clearText (wsV RX4 91 RX0 yX0_empty wsX0_empty) := goodIn_app (goodIn_of _ (by decide +kernel)) ggX4_clearText_X0_empty
theorem dX4_clearText_0 : decode cX4_clearText 0 = .ok (.aload_n 0, 1) := by decide +kernel
theorem dX4_clearText_1 : decode cX4_clearText 1 = .ok (.getfield 23, 3) := by decide +kernel
theorem dX4_clearText_4 : decode cX4_clearText 4 = .ok (.invokevirtual 91, 3) := by decide +kernel
theorem dX4_clearText_7 : decode cX4_clearText 7 = .ok (.ireturn, 1) := by decide +kernel
set_option maxRecDepth 20000 in
theorem ggX4_run_X4_prepare : GoodIn wsX4_run wsX4_prepare := goodIn_r _ [10, 4, 5, 2, 11, 12, 13, 14, 15, 16, 17, 18, 19, 20, 21, 22, 23, 24, 25, 26, 27, 28, 29, 30, 31, 32, 209, 210, 211, 212, 213, 214, 215, 216, 217, 218, 219, 220, 221, 222] (by decide +kernel) (by decide +kernel)
set_option maxRecDepth 20000 in
theorem gX4_run_X4_prepare : GoodIn wsX4_run (wsV RX4 38 RX4 yX4_prepare wsX4_prepare) := goodIn_app (goodIn_of _ (by decide +kernel)) ggX4_run_X4_prepare
set_option maxRecDepth 20000 in
theorem ggX4_run_X0_runOn : GoodIn wsX4_run wsX0_runOn := goodIn_r _ [37, 38, 39, 40, 41, 42, 36, 43, 44, 45, 46, 47, 48, 49, 50, 51, 52, 53, 54, 55, 56, 57, 58, 59, 60, 61, 62, 63, 64, 65, 66, 67, 68, 69, 70, 71, 72, 73, 74, 75, 76, 77, 78, 79, 80, 81, 82, 83, 84, 85, 86, 87, 88, 89, 90, 91, 92, 93, 94, 95, 96, 97, 98, 99, 100, 101, 102, 103, 104, 105, 106, 107, 108, 109, 110, 111, 112, 113, 114, 115, 116, 117, 118, 119, 120, 121, 122, 123, 124, 125, 126, 127, 22, 128, 30, 29, 129, 9, 130, 131, 132, 133, 134, 135, 136, 137, 138, 139, 140, 141, 142, 24, 143, 144, 145, 146, 147, 148, 31, 149, 150, 151, 152, 153, 154, 155, 156, 157, 158, 159, 160, 161, 162, 163, 164, 165, 166, 167, 168, 169, 170, 171, 172, 173, 174, 175, 176, 177, 178, 179, 180, 181, 182, 183, 184, 185, 186, 187, 188, 32, 189, 190, 191, 192, 193, 194, 195, 196, 223, 224, 225, 226, 218, 219, 220, 221, 222] (by decide +kernel) (by decide +kernel)
set_option maxRecDepth 20000 in
theorem gX4_run_X0_runOn : GoodIn wsX4_run (wsV RX4 95 RX0 yX0_runOn wsX0_runOn) := goodIn_app (goodIn_of _ (by decide +kernel)) ggX4_run_X0_runOn
set_option maxRecDepth 20000 in
theorem ggX4_run_X2_copyFrom : GoodIn wsX4_run wsX2_copyFrom := goodIn_r _ [15, 16, 17, 18, 19, 20, 21, 22, 23, 24, 25, 26, 27, 28, 29, 30, 31, 32, 215, 216, 217, 218, 219, 220, 221, 222] (by decide +kernel) (by decide +kernel)
set_option maxRecDepth 20000 in
theorem gX4_run_X2_copyFrom : GoodIn wsX4_run (wsV RX4 84 RX2 yX2_copyFrom wsX2_copyFrom) := goodIn_app (goodIn_of _ (by decide +kernel)) ggX4_run_X2_copyFrom
set_option maxRecDepth 20000 in
theorem ggX4_run_X0_empty : GoodIn wsX4_run wsX0_empty := goodIn_r _ [200, 39, 223, 224, 225, 226] (by decide +kernel) (by decide +kernel)
set_option maxRecDepth 20000 in
theorem gX4_run_X0_empty : GoodIn wsX4_run (wsV RX4 91 RX0 yX0_empty wsX0_empty) := goodIn_app (goodIn_of _ (by decide +kernel)) ggX4_run_X0_empty
set_option maxRecDepth 20000 in
theorem ggX4_run_X4_finish : GoodIn wsX4_run wsX4_finish := goodIn_r _ [204, 5, 205, 206, 207, 9, 208, 4, 209, 210, 211, 212, 213, 214] (by decide +kernel) (by decide +kernel)
set_option maxRecDepth 20000 in
theorem gX4_run_X4_finish : GoodIn wsX4_run (wsV RX4 51 RX4 yX4_finish wsX4_finish) := goodIn_app (goodIn_of _ (by decide +kernel)) ggX4_run_X4_finish
theorem dX4_run_0 : decode cX4_run 0 = .ok (.aload_n 0, 1) := by decide +kernel
theorem dX4_run_1 : decode cX4_run 1 = .ok (.invokevirtual 38, 3) := by decide +kernel
theorem dX4_run_4 : decode cX4_run 4 = .ok (.aload_n 0, 1) := by decide +kernel
theorem dX4_run_5 : decode cX4_run 5 = .ok (.getfield 23, 3) := by decide +kernel
theorem dX4_run_8 : decode cX4_run 8 = .ok (.aload_n 0, 1) := by decide +kernel
theorem dX4_run_9 : decode cX4_run 9 = .ok (.getfield 10, 3) := by decide +kernel
theorem dX4_run_12 : decode cX4_run 12 = .ok (.getfield 41, 3) := by decide +kernel
theorem dX4_run_15 : decode cX4_run 15 = .ok (.invokevirtual 95, 3) := by decide +kernel
theorem dX4_run_18 : decode cX4_run 18 = .ok (.istore_n 1, 1) := by decide +kernel
theorem dX4_run_19 : decode cX4_run 19 = .ok (.iload_n 1, 1) := by decide +kernel
theorem dX4_run_20 : decode cX4_run 20 = .ok (.ifCond .ge 21, 3) := by decide +kernel
theorem dX4_run_23 : decode cX4_run 23 = .ok (.aload_n 0, 1) := by decide +kernel
theorem dX4_run_24 : decode cX4_run 24 = .ok (.getfield 10, 3) := by decide +kernel
theorem dX4_run_27 : decode cX4_run 27 = .ok (.aload_n 0, 1) := by decide +kernel
theorem dX4_run_28 : decode cX4_run 28 = .ok (.getfield 16, 3) := by decide +kernel
theorem dX4_run_31 : decode cX4_run 31 = .ok (.aload_n 0, 1) := by decide +kernel
theorem dX4_run_32 : decode cX4_run 32 = .ok (.getfield 80, 3) := by decide +kernel
theorem dX4_run_35 : decode cX4_run 35 = .ok (.aaload, 1) := by decide +kernel
theorem dX4_run_36 : decode cX4_run 36 = .ok (.invokevirtual 84, 3) := by decide +kernel
theorem dX4_run_39 : decode cX4_run 39 = .ok (.iload_n 1, 1) := by decide +kernel
theorem dX4_run_40 : decode cX4_run 40 = .ok (.ireturn, 1) := by decide +kernel
theorem dX4_run_41 : decode cX4_run 41 = .ok (.aload_n 0, 1) := by decide +kernel
theorem dX4_run_42 : decode cX4_run 42 = .ok (.getfield 23, 3) := by decide +kernel
theorem dX4_run_45 : decode cX4_run 45 = .ok (.invokevirtual 91, 3) := by decide +kernel
theorem dX4_run_48 : decode cX4_run 48 = .ok (.pop, 1) := by decide +kernel
theorem dX4_run_49 : decode cX4_run 49 = .ok (.aload_n 0, 1) := by decide +kernel
theorem dX4_run_50 : decode cX4_run 50 = .ok (.iload_n 1, 1) := by decide +kernel
theorem dX4_run_51 : decode cX4_run 51 = .ok (.invokevirtual 51, 3) := by decide +kernel
theorem dX4_run_54 : decode cX4_run 54 = .ok (.ireturn, 1) := by decide +kernel
set_option maxRecDepth 20000 in
theorem ggX4_count_X1_litSize : GoodIn wsX4_count wsX1_litSize := goodIn_r _ [12, 13, 14, 15, 16, 17, 11, 18, 19, 20, 21, 22, 23, 24, 25, 26, 114, 115, 116, 117, 118] (by decide +kernel) (by decide +kernel)
set_option maxRecDepth 20000 in
theorem gX4_count_X1_litSize : GoodIn wsX4_count (wsV RX4 105 RX1 yX1_litSize wsX1_litSize) := goodIn_app (goodIn_of _ (by decide +kernel)) ggX4_count_X1_litSize
set_option maxRecDepth 20000 in
theorem ggX4_count_J13_bitCount_95d88 : GoodIn wsX4_count wsJ13_bitCount_95d88 := goodIn_r _ [30, 31, 32, 33] (by decide +kernel) (by decide +kernel)
set_option maxRecDepth 20000 in
theorem gX4_count_J13_bitCount_95d88 : GoodIn wsX4_count (va_wsS RX4 112 yJ13_bitCount_95d88 wsJ13_bitCount_95d88) := goodIn_app (goodIn_of _ (by decide +kernel)) ggX4_count_J13_bitCount_95d88
set_option maxRecDepth 20000 in
theorem ggX4_count_X1_seenByEye : GoodIn wsX4_count wsX1_seenByEye := goodIn_r _ [37, 14, 38, 39, 40, 11, 41, 13, 19, 42, 43, 44, 45, 46, 47, 48, 49, 50, 51, 52, 53, 15, 16, 17, 18, 20, 21, 22, 23, 24, 25, 26, 54, 55, 56, 57, 58, 59, 60, 61, 62, 63, 64, 65, 66, 67, 68, 69, 70, 114, 115, 116, 117, 118] (by decide +kernel) (by decide +kernel)
set_option maxRecDepth 20000 in
theorem gX4_count_X1_seenByEye : GoodIn wsX4_count (wsV RX4 118 RX1 yX1_seenByEye wsX1_seenByEye) := goodIn_app (goodIn_of _ (by decide +kernel)) ggX4_count_X1_seenByEye
set_option maxRecDepth 20000 in
theorem ggX4_count_X1_seenByShutter : GoodIn wsX4_count wsX1_seenByShutter := goodIn_r _ [74, 14, 75, 76, 77, 11, 78, 38, 39, 40, 41, 13, 19, 42, 43, 44, 45, 46, 47, 48, 49, 50, 51, 52, 53, 15, 16, 17, 18, 20, 21, 22, 23, 24, 25, 26, 54, 55, 56, 57, 58, 59, 60, 61, 62, 63, 64, 65, 66, 67, 68, 69, 70, 114, 115, 116, 117, 118] (by decide +kernel) (by decide +kernel)
set_option maxRecDepth 20000 in
theorem gX4_count_X1_seenByShutter : GoodIn wsX4_count (wsV RX4 122 RX1 yX1_seenByShutter wsX1_seenByShutter) := goodIn_app (goodIn_of _ (by decide +kernel)) ggX4_count_X1_seenByShutter
set_option maxRecDepth 20000 in
theorem ggX4_count_X1_wrong : GoodIn wsX4_count wsX1_wrong := goodIn_r _ [82, 83, 114, 115, 116, 117, 118] (by decide +kernel) (by decide +kernel)
set_option maxRecDepth 20000 in
theorem gX4_count_X1_wrong : GoodIn wsX4_count (wsV RX4 126 RX1 yX1_wrong wsX1_wrong) := goodIn_app (goodIn_of _ (by decide +kernel)) ggX4_count_X1_wrong
set_option maxRecDepth 20000 in
theorem ggX4_count_X1_sumOfWays : GoodIn wsX4_count wsX1_sumOfWays := goodIn_r _ [87, 13, 19, 20, 21, 22, 23, 24, 25, 26, 114, 115, 116, 117, 118] (by decide +kernel) (by decide +kernel)
set_option maxRecDepth 20000 in
theorem gX4_count_X1_sumOfWays : GoodIn wsX4_count (wsV RX4 130 RX1 yX1_sumOfWays wsX1_sumOfWays) := goodIn_app (goodIn_of _ (by decide +kernel)) ggX4_count_X1_sumOfWays
set_option maxRecDepth 20000 in
theorem ggX4_count_X1_arrival : GoodIn wsX4_count wsX1_arrival := goodIn_r _ [18, 13, 19, 14, 20, 21, 22, 23, 24, 25, 26, 114, 115, 116, 117, 118] (by decide +kernel) (by decide +kernel)
set_option maxRecDepth 20000 in
theorem gX4_count_X1_arrival : GoodIn wsX4_count (wsV RX4 133 RX1 yX1_arrival wsX1_arrival) := goodIn_app (goodIn_of _ (by decide +kernel)) ggX4_count_X1_arrival
set_option maxRecDepth 20000 in
theorem ggX4_count_X2_snapshots : GoodIn wsX4_count wsX2_snapshots := goodIn_r _ [93, 94, 111, 112, 113] (by decide +kernel) (by decide +kernel)
set_option maxRecDepth 20000 in
theorem gX4_count_X2_snapshots : GoodIn wsX4_count (wsV RX4 136 RX2 yX2_snapshots wsX2_snapshots) := goodIn_app (goodIn_of _ (by decide +kernel)) ggX4_count_X2_snapshots
set_option maxRecDepth 20000 in
theorem ggX4_count_X0_size : GoodIn wsX4_count wsX0_size := goodIn_r _ [99, 100, 119, 120, 121, 122] (by decide +kernel) (by decide +kernel)
set_option maxRecDepth 20000 in
theorem gX4_count_X0_size : GoodIn wsX4_count (wsV RX4 139 RX0 yX0_size wsX0_size) := goodIn_app (goodIn_of _ (by decide +kernel)) ggX4_count_X0_size
set_option maxRecDepth 20000 in
theorem ggX4_count_X4_settingCount : GoodIn wsX4_count wsX4_settingCount := goodIn_r _ [104, 1, 2, 3, 105, 106, 107, 108, 109, 110, 111, 112, 113, 114, 115, 116, 117, 118] (by decide +kernel) (by decide +kernel)
set_option maxRecDepth 20000 in
theorem gX4_count_X4_settingCount : GoodIn wsX4_count (wsV RX4 141 RX4 yX4_settingCount wsX4_settingCount) := goodIn_app (goodIn_of _ (by decide +kernel)) ggX4_count_X4_settingCount
theorem dX4_count_0 : decode cX4_count 0 = .ok (.aload_n 0, 1) := by decide +kernel
theorem dX4_count_1 : decode cX4_count 1 = .ok (.getfield 10, 3) := by decide +kernel
theorem dX4_count_4 : decode cX4_count 4 = .ok (.getfield 41, 3) := by decide +kernel
theorem dX4_count_7 : decode cX4_count 7 = .ok (.astore_n 2, 1) := by decide +kernel
theorem dX4_count_8 : decode cX4_count 8 = .ok (.aload_n 2, 1) := by decide +kernel
theorem dX4_count_9 : decode cX4_count 9 = .ok (.getfield 99, 3) := by decide +kernel
theorem dX4_count_12 : decode cX4_count 12 = .ok (.iconst 4, 1) := by decide +kernel
theorem dX4_count_13 : decode cX4_count 13 = .ok (.iaload, 1) := by decide +kernel
theorem dX4_count_14 : decode cX4_count 14 = .ok (.istore_n 3, 1) := by decide +kernel
theorem dX4_count_15 : decode cX4_count 15 = .ok (.iload_n 1, 1) := by decide +kernel
theorem dX4_count_16 : decode cX4_count 16 = .ok (.tableswitch 191 0 12 #[68, 73, 78, 88, 98, 106, 115, 128, 142, 147, 170, 178, 183], 68) := by decide +kernel
theorem dX4_count_84 : decode cX4_count 84 = .ok (.aload_n 2, 1) := by decide +kernel
theorem dX4_count_85 : decode cX4_count 85 = .ok (.getfield 102, 3) := by decide +kernel
theorem dX4_count_88 : decode cX4_count 88 = .ok (.ireturn, 1) := by decide +kernel
theorem dX4_count_89 : decode cX4_count 89 = .ok (.aload_n 2, 1) := by decide +kernel
theorem dX4_count_90 : decode cX4_count 90 = .ok (.invokevirtual 105, 3) := by decide +kernel
theorem dX4_count_93 : decode cX4_count 93 = .ok (.ireturn, 1) := by decide +kernel
theorem dX4_count_94 : decode cX4_count 94 = .ok (.aload_n 2, 1) := by decide +kernel
theorem dX4_count_95 : decode cX4_count 95 = .ok (.getfield 108, 3) := by decide +kernel
theorem dX4_count_98 : decode cX4_count 98 = .ok (.iconst 0, 1) := by decide +kernel
theorem dX4_count_99 : decode cX4_count 99 = .ok (.laload, 1) := by decide +kernel
theorem dX4_count_100 : decode cX4_count 100 = .ok (.invokestatic 112, 3) := by decide +kernel
theorem dX4_count_103 : decode cX4_count 103 = .ok (.ireturn, 1) := by decide +kernel
theorem dX4_count_104 : decode cX4_count 104 = .ok (.aload_n 2, 1) := by decide +kernel
theorem dX4_count_105 : decode cX4_count 105 = .ok (.getfield 108, 3) := by decide +kernel
theorem dX4_count_108 : decode cX4_count 108 = .ok (.iconst 1, 1) := by decide +kernel
theorem dX4_count_109 : decode cX4_count 109 = .ok (.laload, 1) := by decide +kernel
theorem dX4_count_110 : decode cX4_count 110 = .ok (.invokestatic 112, 3) := by decide +kernel
theorem dX4_count_113 : decode cX4_count 113 = .ok (.ireturn, 1) := by decide +kernel
theorem dX4_count_114 : decode cX4_count 114 = .ok (.aload_n 2, 1) := by decide +kernel
theorem dX4_count_115 : decode cX4_count 115 = .ok (.invokevirtual 118, 3) := by decide +kernel
theorem dX4_count_118 : decode cX4_count 118 = .ok (.invokestatic 112, 3) := by decide +kernel
theorem dX4_count_121 : decode cX4_count 121 = .ok (.ireturn, 1) := by decide +kernel
theorem dX4_count_122 : decode cX4_count 122 = .ok (.aload_n 2, 1) := by decide +kernel
theorem dX4_count_123 : decode cX4_count 123 = .ok (.iload_n 3, 1) := by decide +kernel
theorem dX4_count_124 : decode cX4_count 124 = .ok (.invokevirtual 122, 3) := by decide +kernel
theorem dX4_count_127 : decode cX4_count 127 = .ok (.invokestatic 112, 3) := by decide +kernel
theorem dX4_count_130 : decode cX4_count 130 = .ok (.ireturn, 1) := by decide +kernel
theorem dX4_count_131 : decode cX4_count 131 = .ok (.aload_n 2, 1) := by decide +kernel
theorem dX4_count_132 : decode cX4_count 132 = .ok (.iconst 0, 1) := by decide +kernel
theorem dX4_count_133 : decode cX4_count 133 = .ok (.aload_n 2, 1) := by decide +kernel
theorem dX4_count_134 : decode cX4_count 134 = .ok (.invokevirtual 118, 3) := by decide +kernel
theorem dX4_count_137 : decode cX4_count 137 = .ok (.invokevirtual 126, 3) := by decide +kernel
theorem dX4_count_140 : decode cX4_count 140 = .ok (.invokestatic 112, 3) := by decide +kernel
theorem dX4_count_143 : decode cX4_count 143 = .ok (.ireturn, 1) := by decide +kernel
theorem dX4_count_144 : decode cX4_count 144 = .ok (.aload_n 2, 1) := by decide +kernel
theorem dX4_count_145 : decode cX4_count 145 = .ok (.iconst 1, 1) := by decide +kernel
theorem dX4_count_146 : decode cX4_count 146 = .ok (.aload_n 2, 1) := by decide +kernel
theorem dX4_count_147 : decode cX4_count 147 = .ok (.iload_n 3, 1) := by decide +kernel
theorem dX4_count_148 : decode cX4_count 148 = .ok (.invokevirtual 122, 3) := by decide +kernel
theorem dX4_count_151 : decode cX4_count 151 = .ok (.invokevirtual 126, 3) := by decide +kernel
theorem dX4_count_154 : decode cX4_count 154 = .ok (.invokestatic 112, 3) := by decide +kernel
theorem dX4_count_157 : decode cX4_count 157 = .ok (.ireturn, 1) := by decide +kernel
theorem dX4_count_158 : decode cX4_count 158 = .ok (.aload_n 2, 1) := by decide +kernel
theorem dX4_count_159 : decode cX4_count 159 = .ok (.invokevirtual 130, 3) := by decide +kernel
theorem dX4_count_162 : decode cX4_count 162 = .ok (.ireturn, 1) := by decide +kernel
theorem dX4_count_163 : decode cX4_count 163 = .ok (.aload_n 2, 1) := by decide +kernel
theorem dX4_count_164 : decode cX4_count 164 = .ok (.invokevirtual 105, 3) := by decide +kernel
theorem dX4_count_167 : decode cX4_count 167 = .ok (.ifCond .le 16, 3) := by decide +kernel
theorem dX4_count_170 : decode cX4_count 170 = .ok (.aload_n 2, 1) := by decide +kernel
theorem dX4_count_171 : decode cX4_count 171 = .ok (.aload_n 2, 1) := by decide +kernel
theorem dX4_count_172 : decode cX4_count 172 = .ok (.invokevirtual 105, 3) := by decide +kernel
theorem dX4_count_175 : decode cX4_count 175 = .ok (.iconst 1, 1) := by decide +kernel
theorem dX4_count_176 : decode cX4_count 176 = .ok (.isub, 1) := by decide +kernel
theorem dX4_count_177 : decode cX4_count 177 = .ok (.invokevirtual 133, 3) := by decide +kernel
theorem dX4_count_180 : decode cX4_count 180 = .ok (.goto 5, 3) := by decide +kernel
theorem dX4_count_183 : decode cX4_count 183 = .ok (.bipush (-9), 2) := by decide +kernel
theorem dX4_count_185 : decode cX4_count 185 = .ok (.ireturn, 1) := by decide +kernel
theorem dX4_count_186 : decode cX4_count 186 = .ok (.aload_n 0, 1) := by decide +kernel
theorem dX4_count_187 : decode cX4_count 187 = .ok (.getfield 10, 3) := by decide +kernel
theorem dX4_count_190 : decode cX4_count 190 = .ok (.invokevirtual 136, 3) := by decide +kernel
theorem dX4_count_193 : decode cX4_count 193 = .ok (.ireturn, 1) := by decide +kernel
theorem dX4_count_194 : decode cX4_count 194 = .ok (.aload_n 0, 1) := by decide +kernel
theorem dX4_count_195 : decode cX4_count 195 = .ok (.getfield 80, 3) := by decide +kernel
theorem dX4_count_198 : decode cX4_count 198 = .ok (.ireturn, 1) := by decide +kernel
theorem dX4_count_199 : decode cX4_count 199 = .ok (.aload_n 0, 1) := by decide +kernel
theorem dX4_count_200 : decode cX4_count 200 = .ok (.getfield 23, 3) := by decide +kernel
theorem dX4_count_203 : decode cX4_count 203 = .ok (.invokevirtual 139, 3) := by decide +kernel
theorem dX4_count_206 : decode cX4_count 206 = .ok (.ireturn, 1) := by decide +kernel
theorem dX4_count_207 : decode cX4_count 207 = .ok (.aload_n 0, 1) := by decide +kernel
theorem dX4_count_208 : decode cX4_count 208 = .ok (.iload_n 1, 1) := by decide +kernel
theorem dX4_count_209 : decode cX4_count 209 = .ok (.invokevirtual 141, 3) := by decide +kernel
theorem dX4_count_212 : decode cX4_count 212 = .ok (.ireturn, 1) := by decide +kernel
set_option maxRecDepth 20000 in
theorem ggX4_spot_X4_isSpot : GoodIn wsX4_spot wsX4_isSpot := goodIn_r _ [9] (by decide +kernel) (by decide +kernel)
set_option maxRecDepth 20000 in
theorem gX4_spot_X4_isSpot : GoodIn wsX4_spot (va_wsS RX4 144 yX4_isSpot wsX4_isSpot) := goodIn_app (goodIn_of _ (by decide +kernel)) ggX4_spot_X4_isSpot
set_option maxRecDepth 20000 in
theorem ggX4_spot_X4_bit : GoodIn wsX4_spot wsX4_bit := goodIn_r _ [12] (by decide +kernel) (by decide +kernel)
set_option maxRecDepth 20000 in
theorem gX4_spot_X4_bit : GoodIn wsX4_spot (va_wsS RX4 151 yX4_bit wsX4_bit) := goodIn_app (goodIn_of _ (by decide +kernel)) ggX4_spot_X4_bit
set_option maxRecDepth 20000 in
theorem ggX4_spot_X1_positionOf : GoodIn wsX4_spot wsX1_positionOf := goodIn_r _ [17, 18, 19, 99, 100, 101, 102, 103] (by decide +kernel) (by decide +kernel)
set_option maxRecDepth 20000 in
theorem gX4_spot_X1_positionOf : GoodIn wsX4_spot (wsV RX4 155 RX1 yX1_positionOf wsX1_positionOf) := goodIn_app (goodIn_of _ (by decide +kernel)) ggX4_spot_X1_positionOf
set_option maxRecDepth 20000 in
theorem ggX4_spot_X1_litTick : GoodIn wsX4_spot wsX1_litTick := goodIn_r _ [23, 24, 25, 14, 15, 16, 17, 18, 19, 26, 27, 28, 29, 30, 8, 31, 32, 33, 34, 35, 99, 100, 101, 102, 103] (by decide +kernel) (by decide +kernel)
set_option maxRecDepth 20000 in
theorem gX4_spot_X1_litTick : GoodIn wsX4_spot (wsV RX4 158 RX1 yX1_litTick wsX1_litTick) := goodIn_app (goodIn_of _ (by decide +kernel)) ggX4_spot_X1_litTick
set_option maxRecDepth 20000 in
theorem ggX4_spot_X1_seenByEye : GoodIn wsX4_spot wsX1_seenByEye := goodIn_r _ [39, 24, 40, 41, 42, 16, 43, 18, 19, 44, 45, 46, 47, 48, 21, 22, 23, 25, 14, 15, 17, 26, 27, 28, 29, 30, 8, 31, 32, 33, 34, 35, 49, 50, 51, 52, 53, 54, 55, 56, 57, 58, 59, 60, 61, 62, 63, 64, 65, 99, 100, 101, 102, 103] (by decide +kernel) (by decide +kernel)
set_option maxRecDepth 20000 in
theorem gX4_spot_X1_seenByEye : GoodIn wsX4_spot (wsV RX4 118 RX1 yX1_seenByEye wsX1_seenByEye) := goodIn_app (goodIn_of _ (by decide +kernel)) ggX4_spot_X1_seenByEye
set_option maxRecDepth 20000 in
theorem ggX4_spot_X1_seenByShutter : GoodIn wsX4_spot wsX1_seenByShutter := goodIn_r _ [69, 24, 70, 71, 72, 16, 73, 40, 41, 42, 43, 18, 19, 44, 45, 46, 47, 48, 21, 22, 23, 25, 14, 15, 17, 26, 27, 28, 29, 30, 8, 31, 32, 33, 34, 35, 49, 50, 51, 52, 53, 54, 55, 56, 57, 58, 59, 60, 61, 62, 63, 64, 65, 99, 100, 101, 102, 103] (by decide +kernel) (by decide +kernel)
set_option maxRecDepth 20000 in
theorem gX4_spot_X1_seenByShutter : GoodIn wsX4_spot (wsV RX4 122 RX1 yX1_seenByShutter wsX1_seenByShutter) := goodIn_app (goodIn_of _ (by decide +kernel)) ggX4_spot_X1_seenByShutter
set_option maxRecDepth 20000 in
theorem ggX4_spot_X1_eyeMean : GoodIn wsX4_spot wsX1_eyeMean := goodIn_r _ [77, 24, 44, 45, 46, 16, 47, 48, 21, 22, 23, 25, 14, 15, 17, 18, 19, 26, 27, 28, 29, 30, 8, 31, 32, 33, 34, 35, 49, 50, 51, 52, 53, 54, 55, 56, 57, 58, 59, 60, 61, 62, 63, 64, 65, 99, 100, 101, 102, 103] (by decide +kernel) (by decide +kernel)
set_option maxRecDepth 20000 in
theorem gX4_spot_X1_eyeMean : GoodIn wsX4_spot (wsV RX4 161 RX1 yX1_eyeMean wsX1_eyeMean) := goodIn_app (goodIn_of _ (by decide +kernel)) ggX4_spot_X1_eyeMean
set_option maxRecDepth 20000 in
theorem ggX4_spot_X1_shutterMean : GoodIn wsX4_spot wsX1_shutterMean := goodIn_r _ [81, 70, 71, 72, 16, 73, 24, 44, 45, 46, 47, 48, 21, 22, 23, 25, 14, 15, 17, 18, 19, 26, 27, 28, 29, 30, 8, 31, 32, 33, 34, 35, 49, 50, 51, 52, 53, 54, 55, 56, 57, 58, 59, 60, 61, 62, 63, 64, 65, 99, 100, 101, 102, 103] (by decide +kernel) (by decide +kernel)
set_option maxRecDepth 20000 in
theorem gX4_spot_X1_shutterMean : GoodIn wsX4_spot (wsV RX4 164 RX1 yX1_shutterMean wsX1_shutterMean) := goodIn_app (goodIn_of _ (by decide +kernel)) ggX4_spot_X1_shutterMean
set_option maxRecDepth 20000 in
theorem ggX4_spot_X1_flicker : GoodIn wsX4_spot wsX1_flicker := goodIn_r _ [85, 24, 86, 57, 34, 58, 87, 88, 89, 48, 21, 22, 16, 23, 25, 14, 15, 17, 18, 19, 26, 27, 28, 29, 30, 8, 31, 32, 33, 35, 49, 50, 51, 52, 53, 54, 55, 56, 99, 100, 101, 102, 103] (by decide +kernel) (by decide +kernel)
set_option maxRecDepth 20000 in
theorem gX4_spot_X1_flicker : GoodIn wsX4_spot (wsV RX4 167 RX1 yX1_flicker wsX1_flicker) := goodIn_app (goodIn_of _ (by decide +kernel)) ggX4_spot_X1_flicker
theorem dX4_spot_0 : decode cX4_spot 0 = .ok (.iload_n 1, 1) := by decide +kernel
theorem dX4_spot_1 : decode cX4_spot 1 = .ok (.invokestatic 144, 3) := by decide +kernel
theorem dX4_spot_4 : decode cX4_spot 4 = .ok (.ifCond .ne 5, 3) := by decide +kernel
theorem dX4_spot_7 : decode cX4_spot 7 = .ok (.iconst (-1), 1) := by decide +kernel
theorem dX4_spot_8 : decode cX4_spot 8 = .ok (.ireturn, 1) := by decide +kernel
theorem dX4_spot_9 : decode cX4_spot 9 = .ok (.aload_n 0, 1) := by decide +kernel
theorem dX4_spot_10 : decode cX4_spot 10 = .ok (.getfield 10, 3) := by decide +kernel
theorem dX4_spot_13 : decode cX4_spot 13 = .ok (.getfield 41, 3) := by decide +kernel
theorem dX4_spot_16 : decode cX4_spot 16 = .ok (.astore_n 3, 1) := by decide +kernel
theorem dX4_spot_17 : decode cX4_spot 17 = .ok (.iload_n 2, 1) := by decide +kernel
theorem dX4_spot_18 : decode cX4_spot 18 = .ok (.tableswitch 143 0 9 #[54, 61, 72, 83, 89, 95, 104, 119, 125, 137], 54) := by decide +kernel
theorem dX4_spot_72 : decode cX4_spot 72 = .ok (.aload_n 3, 1) := by decide +kernel
theorem dX4_spot_73 : decode cX4_spot 73 = .ok (.getfield 148, 3) := by decide +kernel
theorem dX4_spot_76 : decode cX4_spot 76 = .ok (.iload_n 1, 1) := by decide +kernel
theorem dX4_spot_77 : decode cX4_spot 77 = .ok (.iaload, 1) := by decide +kernel
theorem dX4_spot_78 : decode cX4_spot 78 = .ok (.ireturn, 1) := by decide +kernel
theorem dX4_spot_79 : decode cX4_spot 79 = .ok (.aload_n 3, 1) := by decide +kernel
theorem dX4_spot_80 : decode cX4_spot 80 = .ok (.getfield 108, 3) := by decide +kernel
theorem dX4_spot_83 : decode cX4_spot 83 = .ok (.iconst 0, 1) := by decide +kernel
theorem dX4_spot_84 : decode cX4_spot 84 = .ok (.laload, 1) := by decide +kernel
theorem dX4_spot_85 : decode cX4_spot 85 = .ok (.iload_n 1, 1) := by decide +kernel
theorem dX4_spot_86 : decode cX4_spot 86 = .ok (.invokestatic 151, 3) := by decide +kernel
theorem dX4_spot_89 : decode cX4_spot 89 = .ok (.ireturn, 1) := by decide +kernel
theorem dX4_spot_90 : decode cX4_spot 90 = .ok (.aload_n 3, 1) := by decide +kernel
theorem dX4_spot_91 : decode cX4_spot 91 = .ok (.getfield 108, 3) := by decide +kernel
theorem dX4_spot_94 : decode cX4_spot 94 = .ok (.iconst 1, 1) := by decide +kernel
theorem dX4_spot_95 : decode cX4_spot 95 = .ok (.laload, 1) := by decide +kernel
theorem dX4_spot_96 : decode cX4_spot 96 = .ok (.iload_n 1, 1) := by decide +kernel
theorem dX4_spot_97 : decode cX4_spot 97 = .ok (.invokestatic 151, 3) := by decide +kernel
theorem dX4_spot_100 : decode cX4_spot 100 = .ok (.ireturn, 1) := by decide +kernel
theorem dX4_spot_101 : decode cX4_spot 101 = .ok (.aload_n 3, 1) := by decide +kernel
theorem dX4_spot_102 : decode cX4_spot 102 = .ok (.iload_n 1, 1) := by decide +kernel
theorem dX4_spot_103 : decode cX4_spot 103 = .ok (.invokevirtual 155, 3) := by decide +kernel
theorem dX4_spot_106 : decode cX4_spot 106 = .ok (.ireturn, 1) := by decide +kernel
theorem dX4_spot_107 : decode cX4_spot 107 = .ok (.aload_n 3, 1) := by decide +kernel
theorem dX4_spot_108 : decode cX4_spot 108 = .ok (.iload_n 1, 1) := by decide +kernel
theorem dX4_spot_109 : decode cX4_spot 109 = .ok (.invokevirtual 158, 3) := by decide +kernel
theorem dX4_spot_112 : decode cX4_spot 112 = .ok (.ireturn, 1) := by decide +kernel
theorem dX4_spot_113 : decode cX4_spot 113 = .ok (.aload_n 3, 1) := by decide +kernel
theorem dX4_spot_114 : decode cX4_spot 114 = .ok (.invokevirtual 118, 3) := by decide +kernel
theorem dX4_spot_117 : decode cX4_spot 117 = .ok (.iload_n 1, 1) := by decide +kernel
theorem dX4_spot_118 : decode cX4_spot 118 = .ok (.invokestatic 151, 3) := by decide +kernel
theorem dX4_spot_121 : decode cX4_spot 121 = .ok (.ireturn, 1) := by decide +kernel
theorem dX4_spot_122 : decode cX4_spot 122 = .ok (.aload_n 3, 1) := by decide +kernel
theorem dX4_spot_123 : decode cX4_spot 123 = .ok (.aload_n 3, 1) := by decide +kernel
theorem dX4_spot_124 : decode cX4_spot 124 = .ok (.getfield 99, 3) := by decide +kernel
theorem dX4_spot_127 : decode cX4_spot 127 = .ok (.iconst 4, 1) := by decide +kernel
theorem dX4_spot_128 : decode cX4_spot 128 = .ok (.iaload, 1) := by decide +kernel
theorem dX4_spot_129 : decode cX4_spot 129 = .ok (.invokevirtual 122, 3) := by decide +kernel
theorem dX4_spot_132 : decode cX4_spot 132 = .ok (.iload_n 1, 1) := by decide +kernel
theorem dX4_spot_133 : decode cX4_spot 133 = .ok (.invokestatic 151, 3) := by decide +kernel
theorem dX4_spot_136 : decode cX4_spot 136 = .ok (.ireturn, 1) := by decide +kernel
theorem dX4_spot_137 : decode cX4_spot 137 = .ok (.aload_n 3, 1) := by decide +kernel
theorem dX4_spot_138 : decode cX4_spot 138 = .ok (.iload_n 1, 1) := by decide +kernel
theorem dX4_spot_139 : decode cX4_spot 139 = .ok (.invokevirtual 161, 3) := by decide +kernel
theorem dX4_spot_142 : decode cX4_spot 142 = .ok (.ireturn, 1) := by decide +kernel
theorem dX4_spot_143 : decode cX4_spot 143 = .ok (.aload_n 3, 1) := by decide +kernel
theorem dX4_spot_144 : decode cX4_spot 144 = .ok (.iload_n 1, 1) := by decide +kernel
theorem dX4_spot_145 : decode cX4_spot 145 = .ok (.aload_n 3, 1) := by decide +kernel
theorem dX4_spot_146 : decode cX4_spot 146 = .ok (.getfield 99, 3) := by decide +kernel
theorem dX4_spot_149 : decode cX4_spot 149 = .ok (.iconst 4, 1) := by decide +kernel
theorem dX4_spot_150 : decode cX4_spot 150 = .ok (.iaload, 1) := by decide +kernel
theorem dX4_spot_151 : decode cX4_spot 151 = .ok (.invokevirtual 164, 3) := by decide +kernel
theorem dX4_spot_154 : decode cX4_spot 154 = .ok (.ireturn, 1) := by decide +kernel
theorem dX4_spot_155 : decode cX4_spot 155 = .ok (.aload_n 3, 1) := by decide +kernel
theorem dX4_spot_156 : decode cX4_spot 156 = .ok (.iload_n 1, 1) := by decide +kernel
theorem dX4_spot_157 : decode cX4_spot 157 = .ok (.invokevirtual 167, 3) := by decide +kernel
theorem dX4_spot_160 : decode cX4_spot 160 = .ok (.ireturn, 1) := by decide +kernel
theorem dX4_spot_161 : decode cX4_spot 161 = .ok (.iconst (-1), 1) := by decide +kernel
theorem dX4_spot_162 : decode cX4_spot 162 = .ok (.ireturn, 1) := by decide +kernel
theorem dX4_at_0 : decode cX4_at 0 = .ok (.iload_n 1, 1) := by decide +kernel
theorem dX4_at_1 : decode cX4_at 1 = .ok (.ifCond .ge 5, 3) := by decide +kernel
theorem dX4_at_4 : decode cX4_at 4 = .ok (.iconst (-1), 1) := by decide +kernel
theorem dX4_at_5 : decode cX4_at 5 = .ok (.ireturn, 1) := by decide +kernel
theorem dX4_at_6 : decode cX4_at 6 = .ok (.iload_n 1, 1) := by decide +kernel
theorem dX4_at_7 : decode cX4_at 7 = .ok (.aload_n 0, 1) := by decide +kernel
theorem dX4_at_8 : decode cX4_at 8 = .ok (.getfield 10, 3) := by decide +kernel
theorem dX4_at_11 : decode cX4_at 11 = .ok (.getfield 41, 3) := by decide +kernel
theorem dX4_at_14 : decode cX4_at 14 = .ok (.getfield 102, 3) := by decide +kernel
theorem dX4_at_17 : decode cX4_at 17 = .ok (.if_icmp .ge 18, 3) := by decide +kernel
theorem dX4_at_20 : decode cX4_at 20 = .ok (.aload_n 0, 1) := by decide +kernel
theorem dX4_at_21 : decode cX4_at 21 = .ok (.getfield 10, 3) := by decide +kernel
theorem dX4_at_24 : decode cX4_at 24 = .ok (.getfield 41, 3) := by decide +kernel
theorem dX4_at_27 : decode cX4_at 27 = .ok (.getfield 170, 3) := by decide +kernel
theorem dX4_at_30 : decode cX4_at 30 = .ok (.iload_n 1, 1) := by decide +kernel
theorem dX4_at_31 : decode cX4_at 31 = .ok (.iaload, 1) := by decide +kernel
theorem dX4_at_32 : decode cX4_at 32 = .ok (.goto 5, 3) := by decide +kernel
theorem dX4_at_35 : decode cX4_at 35 = .ok (.bipush (-9), 2) := by decide +kernel
theorem dX4_at_37 : decode cX4_at 37 = .ok (.ireturn, 1) := by decide +kernel
set_option maxRecDepth 20000 in
theorem ggX4_brightness_X4_isSpot : GoodIn wsX4_brightness wsX4_isSpot := goodIn_r _ [7] (by decide +kernel) (by decide +kernel)
set_option maxRecDepth 20000 in
theorem gX4_brightness_X4_isSpot : GoodIn wsX4_brightness (va_wsS RX4 144 yX4_isSpot wsX4_isSpot) := goodIn_app (goodIn_of _ (by decide +kernel)) ggX4_brightness_X4_isSpot
set_option maxRecDepth 20000 in
theorem ggX4_brightness_X1_litTick : GoodIn wsX4_brightness wsX1_litTick := goodIn_r _ [12, 13, 14, 15, 16, 11, 17, 18, 19, 20, 21, 22, 23, 24, 6, 25, 26, 27, 28, 29, 49, 50, 51, 52, 53] (by decide +kernel) (by decide +kernel)
set_option maxRecDepth 20000 in
theorem gX4_brightness_X1_litTick : GoodIn wsX4_brightness (wsV RX4 158 RX1 yX1_litTick wsX1_litTick) := goodIn_app (goodIn_of _ (by decide +kernel)) ggX4_brightness_X1_litTick
set_option maxRecDepth 20000 in
theorem ggX4_brightness_X1_shine : GoodIn wsX4_brightness wsX1_shine := goodIn_r _ [33, 34, 13, 35, 6, 36, 37, 38, 28, 39, 49, 50, 51, 52, 53] (by decide +kernel) (by decide +kernel)
set_option maxRecDepth 20000 in
theorem gX4_brightness_X1_shine : GoodIn wsX4_brightness (wsV RX4 173 RX1 yX1_shine wsX1_shine) := goodIn_app (goodIn_of _ (by decide +kernel)) ggX4_brightness_X1_shine
theorem dX4_brightness_0 : decode cX4_brightness 0 = .ok (.aload_n 0, 1) := by decide +kernel
theorem dX4_brightness_1 : decode cX4_brightness 1 = .ok (.getfield 10, 3) := by decide +kernel
theorem dX4_brightness_4 : decode cX4_brightness 4 = .ok (.getfield 41, 3) := by decide +kernel
theorem dX4_brightness_7 : decode cX4_brightness 7 = .ok (.astore_n 3, 1) := by decide +kernel
theorem dX4_brightness_8 : decode cX4_brightness 8 = .ok (.iload_n 1, 1) := by decide +kernel
theorem dX4_brightness_9 : decode cX4_brightness 9 = .ok (.invokestatic 144, 3) := by decide +kernel
theorem dX4_brightness_12 : decode cX4_brightness 12 = .ok (.ifCond .eq 17, 3) := by decide +kernel
theorem dX4_brightness_15 : decode cX4_brightness 15 = .ok (.iload_n 2, 1) := by decide +kernel
theorem dX4_brightness_16 : decode cX4_brightness 16 = .ok (.ifCond .lt 13, 3) := by decide +kernel
theorem dX4_brightness_19 : decode cX4_brightness 19 = .ok (.iload_n 2, 1) := by decide +kernel
theorem dX4_brightness_20 : decode cX4_brightness 20 = .ok (.aload_n 3, 1) := by decide +kernel
theorem dX4_brightness_21 : decode cX4_brightness 21 = .ok (.getfield 99, 3) := by decide +kernel
theorem dX4_brightness_24 : decode cX4_brightness 24 = .ok (.iconst 0, 1) := by decide +kernel
theorem dX4_brightness_25 : decode cX4_brightness 25 = .ok (.iaload, 1) := by decide +kernel
theorem dX4_brightness_26 : decode cX4_brightness 26 = .ok (.if_icmp .lt 5, 3) := by decide +kernel
theorem dX4_brightness_29 : decode cX4_brightness 29 = .ok (.iconst (-1), 1) := by decide +kernel
theorem dX4_brightness_30 : decode cX4_brightness 30 = .ok (.ireturn, 1) := by decide +kernel
theorem dX4_brightness_31 : decode cX4_brightness 31 = .ok (.aload_n 3, 1) := by decide +kernel
theorem dX4_brightness_32 : decode cX4_brightness 32 = .ok (.iload_n 1, 1) := by decide +kernel
theorem dX4_brightness_33 : decode cX4_brightness 33 = .ok (.aload_n 3, 1) := by decide +kernel
theorem dX4_brightness_34 : decode cX4_brightness 34 = .ok (.iload_n 1, 1) := by decide +kernel
theorem dX4_brightness_35 : decode cX4_brightness 35 = .ok (.invokevirtual 158, 3) := by decide +kernel
theorem dX4_brightness_38 : decode cX4_brightness 38 = .ok (.iload_n 2, 1) := by decide +kernel
theorem dX4_brightness_39 : decode cX4_brightness 39 = .ok (.invokevirtual 173, 3) := by decide +kernel
theorem dX4_brightness_42 : decode cX4_brightness 42 = .ok (.ireturn, 1) := by decide +kernel
set_option maxRecDepth 20000 in
theorem ggX4_firstWrong_X1_seenByEye : GoodIn wsX4_firstWrong wsX1_seenByEye := goodIn_r _ [8, 9, 10, 11, 12, 7, 13, 14, 15, 16, 17, 18, 19, 20, 21, 22, 23, 24, 25, 26, 27, 28, 29, 30, 31, 32, 33, 34, 35, 36, 37, 38, 39, 40, 41, 42, 43, 44, 45, 46, 47, 48, 49, 50, 51, 52, 53, 54, 55, 84, 85, 86, 87, 88] (by decide +kernel) (by decide +kernel)
set_option maxRecDepth 20000 in
theorem gX4_firstWrong_X1_seenByEye : GoodIn wsX4_firstWrong (wsV RX4 118 RX1 yX1_seenByEye wsX1_seenByEye) := goodIn_app (goodIn_of _ (by decide +kernel)) ggX4_firstWrong_X1_seenByEye
set_option maxRecDepth 20000 in
theorem ggX4_firstWrong_X1_wrong : GoodIn wsX4_firstWrong wsX1_wrong := goodIn_r _ [59, 60, 84, 85, 86, 87, 88] (by decide +kernel) (by decide +kernel)
set_option maxRecDepth 20000 in
theorem gX4_firstWrong_X1_wrong : GoodIn wsX4_firstWrong (wsV RX4 126 RX1 yX1_wrong wsX1_wrong) := goodIn_app (goodIn_of _ (by decide +kernel)) ggX4_firstWrong_X1_wrong
set_option maxRecDepth 20000 in
theorem ggX4_firstWrong_X4_firstOf : GoodIn wsX4_firstWrong wsX4_firstOf := goodIn_r _ [63, 64, 65, 33, 66] (by decide +kernel) (by decide +kernel)
set_option maxRecDepth 20000 in
theorem gX4_firstWrong_X4_firstOf : GoodIn wsX4_firstWrong (va_wsS RX4 176 yX4_firstOf wsX4_firstOf) := goodIn_app (goodIn_of _ (by decide +kernel)) ggX4_firstWrong_X4_firstOf
set_option maxRecDepth 20000 in
theorem ggX4_firstWrong_X1_seenByShutter : GoodIn wsX4_firstWrong wsX1_seenByShutter := goodIn_r _ [70, 9, 71, 72, 73, 7, 74, 10, 11, 12, 13, 14, 15, 16, 17, 18, 19, 20, 21, 22, 23, 24, 25, 26, 27, 28, 29, 30, 31, 32, 33, 34, 35, 36, 37, 38, 39, 40, 41, 42, 43, 44, 45, 46, 47, 48, 49, 50, 51, 52, 53, 54, 55, 84, 85, 86, 87, 88] (by decide +kernel) (by decide +kernel)
set_option maxRecDepth 20000 in
theorem gX4_firstWrong_X1_seenByShutter : GoodIn wsX4_firstWrong (wsV RX4 122 RX1 yX1_seenByShutter wsX1_seenByShutter) := goodIn_app (goodIn_of _ (by decide +kernel)) ggX4_firstWrong_X1_seenByShutter
theorem dX4_firstWrong_0 : decode cX4_firstWrong 0 = .ok (.aload_n 0, 1) := by decide +kernel
theorem dX4_firstWrong_1 : decode cX4_firstWrong 1 = .ok (.getfield 10, 3) := by decide +kernel
theorem dX4_firstWrong_4 : decode cX4_firstWrong 4 = .ok (.getfield 41, 3) := by decide +kernel
theorem dX4_firstWrong_7 : decode cX4_firstWrong 7 = .ok (.astore_n 2, 1) := by decide +kernel
theorem dX4_firstWrong_8 : decode cX4_firstWrong 8 = .ok (.iload_n 1, 1) := by decide +kernel
theorem dX4_firstWrong_9 : decode cX4_firstWrong 9 = .ok (.lookupswitch 59 #[(0, 27), (1, 40)], 27) := by decide +kernel
theorem dX4_firstWrong_36 : decode cX4_firstWrong 36 = .ok (.aload_n 2, 1) := by decide +kernel
theorem dX4_firstWrong_37 : decode cX4_firstWrong 37 = .ok (.iconst 0, 1) := by decide +kernel
theorem dX4_firstWrong_38 : decode cX4_firstWrong 38 = .ok (.aload_n 2, 1) := by decide +kernel
theorem dX4_firstWrong_39 : decode cX4_firstWrong 39 = .ok (.invokevirtual 118, 3) := by decide +kernel
theorem dX4_firstWrong_42 : decode cX4_firstWrong 42 = .ok (.invokevirtual 126, 3) := by decide +kernel
theorem dX4_firstWrong_45 : decode cX4_firstWrong 45 = .ok (.invokestatic 176, 3) := by decide +kernel
theorem dX4_firstWrong_48 : decode cX4_firstWrong 48 = .ok (.ireturn, 1) := by decide +kernel
theorem dX4_firstWrong_49 : decode cX4_firstWrong 49 = .ok (.aload_n 2, 1) := by decide +kernel
theorem dX4_firstWrong_50 : decode cX4_firstWrong 50 = .ok (.iconst 1, 1) := by decide +kernel
theorem dX4_firstWrong_51 : decode cX4_firstWrong 51 = .ok (.aload_n 2, 1) := by decide +kernel
theorem dX4_firstWrong_52 : decode cX4_firstWrong 52 = .ok (.aload_n 2, 1) := by decide +kernel
theorem dX4_firstWrong_53 : decode cX4_firstWrong 53 = .ok (.getfield 99, 3) := by decide +kernel
theorem dX4_firstWrong_56 : decode cX4_firstWrong 56 = .ok (.iconst 4, 1) := by decide +kernel
theorem dX4_firstWrong_57 : decode cX4_firstWrong 57 = .ok (.iaload, 1) := by decide +kernel
theorem dX4_firstWrong_58 : decode cX4_firstWrong 58 = .ok (.invokevirtual 122, 3) := by decide +kernel
theorem dX4_firstWrong_61 : decode cX4_firstWrong 61 = .ok (.invokevirtual 126, 3) := by decide +kernel
theorem dX4_firstWrong_64 : decode cX4_firstWrong 64 = .ok (.invokestatic 176, 3) := by decide +kernel
theorem dX4_firstWrong_67 : decode cX4_firstWrong 67 = .ok (.ireturn, 1) := by decide +kernel
theorem dX4_firstWrong_68 : decode cX4_firstWrong 68 = .ok (.iconst (-1), 1) := by decide +kernel
theorem dX4_firstWrong_69 : decode cX4_firstWrong 69 = .ok (.ireturn, 1) := by decide +kernel
set_option maxRecDepth 20000 in
theorem ggX4_bestStart_X1_countWrong : GoodIn wsX4_bestStart wsX1_countWrong := goodIn_r _ [9, 10, 11, 12, 13, 14, 15, 16, 17, 18, 19, 20, 21, 22, 23, 24, 25, 26, 8, 27, 28, 29, 30, 31, 32, 33, 34, 35, 36, 37, 38, 39, 40, 41, 42, 43, 44, 45, 46, 47, 48, 49, 50, 51, 52, 53, 54, 55, 56, 57, 58, 59, 60, 61, 62, 63, 64, 65, 66, 67, 68, 69, 70, 80, 81, 82, 83, 84] (by decide +kernel) (by decide +kernel)
set_option maxRecDepth 20000 in
theorem gX4_bestStart_X1_countWrong : GoodIn wsX4_bestStart (wsV RX4 179 RX1 yX1_countWrong wsX1_countWrong) := goodIn_app (goodIn_of _ (by decide +kernel)) ggX4_bestStart_X1_countWrong
theorem dX4_bestStart_0 : decode cX4_bestStart 0 = .ok (.iload_n 1, 1) := by decide +kernel
theorem dX4_bestStart_1 : decode cX4_bestStart 1 = .ok (.ifCond .lt 8, 3) := by decide +kernel
theorem dX4_bestStart_4 : decode cX4_bestStart 4 = .ok (.iload_n 1, 1) := by decide +kernel
theorem dX4_bestStart_5 : decode cX4_bestStart 5 = .ok (.iconst 1, 1) := by decide +kernel
theorem dX4_bestStart_6 : decode cX4_bestStart 6 = .ok (.if_icmp .le 5, 3) := by decide +kernel
theorem dX4_bestStart_9 : decode cX4_bestStart 9 = .ok (.iconst (-1), 1) := by decide +kernel
theorem dX4_bestStart_10 : decode cX4_bestStart 10 = .ok (.ireturn, 1) := by decide +kernel
theorem dX4_bestStart_11 : decode cX4_bestStart 11 = .ok (.aload_n 0, 1) := by decide +kernel
theorem dX4_bestStart_12 : decode cX4_bestStart 12 = .ok (.getfield 10, 3) := by decide +kernel
theorem dX4_bestStart_15 : decode cX4_bestStart 15 = .ok (.getfield 41, 3) := by decide +kernel
theorem dX4_bestStart_18 : decode cX4_bestStart 18 = .ok (.aload_n 0, 1) := by decide +kernel
theorem dX4_bestStart_19 : decode cX4_bestStart 19 = .ok (.getfield 34, 3) := by decide +kernel
theorem dX4_bestStart_22 : decode cX4_bestStart 22 = .ok (.invokevirtual 179, 3) := by decide +kernel
theorem dX4_bestStart_25 : decode cX4_bestStart 25 = .ok (.iconst 0, 1) := by decide +kernel
theorem dX4_bestStart_26 : decode cX4_bestStart 26 = .ok (.istore_n 2, 1) := by decide +kernel
theorem dX4_bestStart_27 : decode cX4_bestStart 27 = .ok (.iconst 1, 1) := by decide +kernel
theorem dX4_bestStart_28 : decode cX4_bestStart 28 = .ok (.istore_n 3, 1) := by decide +kernel
theorem dX4_bestStart_29 : decode cX4_bestStart 29 = .ok (.iload_n 3, 1) := by decide +kernel
theorem dX4_bestStart_30 : decode cX4_bestStart 30 = .ok (.aload_n 0, 1) := by decide +kernel
theorem dX4_bestStart_31 : decode cX4_bestStart 31 = .ok (.getfield 10, 3) := by decide +kernel
theorem dX4_bestStart_34 : decode cX4_bestStart 34 = .ok (.getfield 41, 3) := by decide +kernel
theorem dX4_bestStart_37 : decode cX4_bestStart 37 = .ok (.getfield 99, 3) := by decide +kernel
theorem dX4_bestStart_40 : decode cX4_bestStart 40 = .ok (.iconst 0, 1) := by decide +kernel
theorem dX4_bestStart_41 : decode cX4_bestStart 41 = .ok (.iaload, 1) := by decide +kernel
theorem dX4_bestStart_42 : decode cX4_bestStart 42 = .ok (.if_icmp .ge 33, 3) := by decide +kernel
theorem dX4_bestStart_45 : decode cX4_bestStart 45 = .ok (.iload_n 3, 1) := by decide +kernel
theorem dX4_bestStart_46 : decode cX4_bestStart 46 = .ok (.sipush 200, 3) := by decide +kernel
theorem dX4_bestStart_49 : decode cX4_bestStart 49 = .ok (.if_icmp .ge 26, 3) := by decide +kernel
theorem dX4_bestStart_52 : decode cX4_bestStart 52 = .ok (.aload_n 0, 1) := by decide +kernel
theorem dX4_bestStart_53 : decode cX4_bestStart 53 = .ok (.getfield 34, 3) := by decide +kernel
theorem dX4_bestStart_56 : decode cX4_bestStart 56 = .ok (.iload_n 3, 1) := by decide +kernel
theorem dX4_bestStart_57 : decode cX4_bestStart 57 = .ok (.iaload, 1) := by decide +kernel
theorem dX4_bestStart_58 : decode cX4_bestStart 58 = .ok (.aload_n 0, 1) := by decide +kernel
theorem dX4_bestStart_59 : decode cX4_bestStart 59 = .ok (.getfield 34, 3) := by decide +kernel
theorem dX4_bestStart_62 : decode cX4_bestStart 62 = .ok (.iload_n 2, 1) := by decide +kernel
theorem dX4_bestStart_63 : decode cX4_bestStart 63 = .ok (.iaload, 1) := by decide +kernel
theorem dX4_bestStart_64 : decode cX4_bestStart 64 = .ok (.if_icmp .ge 5, 3) := by decide +kernel
theorem dX4_bestStart_67 : decode cX4_bestStart 67 = .ok (.iload_n 3, 1) := by decide +kernel
theorem dX4_bestStart_68 : decode cX4_bestStart 68 = .ok (.istore_n 2, 1) := by decide +kernel
theorem dX4_bestStart_69 : decode cX4_bestStart 69 = .ok (.iinc 3 1, 3) := by decide +kernel
theorem dX4_bestStart_72 : decode cX4_bestStart 72 = .ok (.goto (-43), 3) := by decide +kernel
theorem dX4_bestStart_75 : decode cX4_bestStart 75 = .ok (.iload_n 1, 1) := by decide +kernel
theorem dX4_bestStart_76 : decode cX4_bestStart 76 = .ok (.ifCond .ne 7, 3) := by decide +kernel
theorem dX4_bestStart_79 : decode cX4_bestStart 79 = .ok (.iload_n 2, 1) := by decide +kernel
theorem dX4_bestStart_80 : decode cX4_bestStart 80 = .ok (.goto 9, 3) := by decide +kernel
theorem dX4_bestStart_83 : decode cX4_bestStart 83 = .ok (.aload_n 0, 1) := by decide +kernel
theorem dX4_bestStart_84 : decode cX4_bestStart 84 = .ok (.getfield 34, 3) := by decide +kernel
theorem dX4_bestStart_87 : decode cX4_bestStart 87 = .ok (.iload_n 2, 1) := by decide +kernel
theorem dX4_bestStart_88 : decode cX4_bestStart 88 = .ok (.iaload, 1) := by decide +kernel
theorem dX4_bestStart_89 : decode cX4_bestStart 89 = .ok (.ireturn, 1) := by decide +kernel
set_option maxRecDepth 20000 in
theorem ggX4_leastTravel_X1_spotsOfOrder : GoodIn wsX4_leastTravel wsX1_spotsOfOrder := goodIn_r _ [8, 9, 10, 72, 73, 74, 75, 76] (by decide +kernel) (by decide +kernel)
set_option maxRecDepth 20000 in
theorem gX4_leastTravel_X1_spotsOfOrder : GoodIn wsX4_leastTravel (wsV RX4 183 RX1 yX1_spotsOfOrder wsX1_spotsOfOrder) := goodIn_app (goodIn_of _ (by decide +kernel)) ggX4_leastTravel_X1_spotsOfOrder
set_option maxRecDepth 20000 in
theorem ggX4_leastTravel_X3_plan : GoodIn wsX4_leastTravel wsX3_plan := goodIn_r _ [15, 16, 17, 18, 19, 14, 20, 21, 22, 23, 24, 25, 26, 27, 28, 29, 30, 31, 32, 33, 34, 35, 36, 37, 38, 39, 40, 41, 42, 43, 44, 45, 46, 47, 48, 49, 50, 51, 52, 53, 54, 77, 78, 79, 80, 81, 82] (by decide +kernel) (by decide +kernel)
set_option maxRecDepth 20000 in
theorem gX4_leastTravel_X3_plan : GoodIn wsX4_leastTravel (wsV RX4 186 RX3 yX3_plan wsX3_plan) := goodIn_app (goodIn_of _ (by decide +kernel)) ggX4_leastTravel_X3_plan
set_option maxRecDepth 20000 in
theorem ggX4_leastTravel_X3_sumOfWays : GoodIn wsX4_leastTravel wsX3_sumOfWays := goodIn_r _ [58, 53, 77, 78, 79, 80, 81, 82] (by decide +kernel) (by decide +kernel)
set_option maxRecDepth 20000 in
theorem gX4_leastTravel_X3_sumOfWays : GoodIn wsX4_leastTravel (wsV RX4 190 RX3 yX3_sumOfWays wsX3_sumOfWays) := goodIn_app (goodIn_of _ (by decide +kernel)) ggX4_leastTravel_X3_sumOfWays
set_option maxRecDepth 20000 in
theorem ggX4_leastTravel_X3_stop : GoodIn wsX4_leastTravel wsX3_stop := goodIn_r _ [62, 21, 54, 77, 78, 79, 80, 81, 82] (by decide +kernel) (by decide +kernel)
set_option maxRecDepth 20000 in
theorem gX4_leastTravel_X3_stop : GoodIn wsX4_leastTravel (wsV RX4 191 RX3 yX3_stop wsX3_stop) := goodIn_app (goodIn_of _ (by decide +kernel)) ggX4_leastTravel_X3_stop
theorem dX4_leastTravel_0 : decode cX4_leastTravel 0 = .ok (.iload_n 1, 1) := by decide +kernel
theorem dX4_leastTravel_1 : decode cX4_leastTravel 1 = .ok (.iconst (-1), 1) := by decide +kernel
theorem dX4_leastTravel_2 : decode cX4_leastTravel 2 = .ok (.if_icmp .ge 5, 3) := by decide +kernel
theorem dX4_leastTravel_5 : decode cX4_leastTravel 5 = .ok (.iconst (-1), 1) := by decide +kernel
theorem dX4_leastTravel_6 : decode cX4_leastTravel 6 = .ok (.ireturn, 1) := by decide +kernel
theorem dX4_leastTravel_7 : decode cX4_leastTravel 7 = .ok (.aload_n 0, 1) := by decide +kernel
theorem dX4_leastTravel_8 : decode cX4_leastTravel 8 = .ok (.getfield 30, 3) := by decide +kernel
theorem dX4_leastTravel_11 : decode cX4_leastTravel 11 = .ok (.aload_n 0, 1) := by decide +kernel
theorem dX4_leastTravel_12 : decode cX4_leastTravel 12 = .ok (.getfield 10, 3) := by decide +kernel
theorem dX4_leastTravel_15 : decode cX4_leastTravel 15 = .ok (.getfield 41, 3) := by decide +kernel
theorem dX4_leastTravel_18 : decode cX4_leastTravel 18 = .ok (.invokevirtual 183, 3) := by decide +kernel
theorem dX4_leastTravel_21 : decode cX4_leastTravel 21 = .ok (.invokevirtual 186, 3) := by decide +kernel
theorem dX4_leastTravel_24 : decode cX4_leastTravel 24 = .ok (.iload_n 1, 1) := by decide +kernel
theorem dX4_leastTravel_25 : decode cX4_leastTravel 25 = .ok (.ifCond .ge 13, 3) := by decide +kernel
theorem dX4_leastTravel_28 : decode cX4_leastTravel 28 = .ok (.aload_n 0, 1) := by decide +kernel
theorem dX4_leastTravel_29 : decode cX4_leastTravel 29 = .ok (.getfield 30, 3) := by decide +kernel
theorem dX4_leastTravel_32 : decode cX4_leastTravel 32 = .ok (.invokevirtual 190, 3) := by decide +kernel
theorem dX4_leastTravel_35 : decode cX4_leastTravel 35 = .ok (.goto 11, 3) := by decide +kernel
theorem dX4_leastTravel_38 : decode cX4_leastTravel 38 = .ok (.aload_n 0, 1) := by decide +kernel
theorem dX4_leastTravel_39 : decode cX4_leastTravel 39 = .ok (.getfield 30, 3) := by decide +kernel
theorem dX4_leastTravel_42 : decode cX4_leastTravel 42 = .ok (.iload_n 1, 1) := by decide +kernel
theorem dX4_leastTravel_43 : decode cX4_leastTravel 43 = .ok (.invokevirtual 191, 3) := by decide +kernel
theorem dX4_leastTravel_46 : decode cX4_leastTravel 46 = .ok (.ireturn, 1) := by decide +kernel
set_option maxRecDepth 20000 in
theorem ggX4_longest_X1_seenByShutter : GoodIn wsX4_longest wsX1_seenByShutter := goodIn_r _ [7, 8, 9, 10, 11, 6, 12, 13, 14, 15, 16, 17, 18, 19, 20, 21, 22, 23, 24, 25, 26, 27, 28, 29, 30, 31, 32, 33, 34, 35, 36, 37, 38, 39, 40, 41, 42, 43, 44, 45, 46, 47, 48, 49, 50, 51, 52, 53, 54, 55, 56, 57, 58, 73, 74, 75, 76, 77] (by decide +kernel) (by decide +kernel)
set_option maxRecDepth 20000 in
theorem gX4_longest_X1_seenByShutter : GoodIn wsX4_longest (wsV RX4 122 RX1 yX1_seenByShutter wsX1_seenByShutter) := goodIn_app (goodIn_of _ (by decide +kernel)) ggX4_longest_X1_seenByShutter
set_option maxRecDepth 20000 in
theorem ggX4_longest_X1_wrong : GoodIn wsX4_longest wsX1_wrong := goodIn_r _ [62, 63, 73, 74, 75, 76, 77] (by decide +kernel) (by decide +kernel)
set_option maxRecDepth 20000 in
theorem gX4_longest_X1_wrong : GoodIn wsX4_longest (wsV RX4 126 RX1 yX1_wrong wsX1_wrong) := goodIn_app (goodIn_of _ (by decide +kernel)) ggX4_longest_X1_wrong
theorem dX4_longest_0 : decode cX4_longest 0 = .ok (.bipush 50, 2) := by decide +kernel
theorem dX4_longest_2 : decode cX4_longest 2 = .ok (.istore_n 1, 1) := by decide +kernel
theorem dX4_longest_3 : decode cX4_longest 3 = .ok (.iload_n 1, 1) := by decide +kernel
theorem dX4_longest_4 : decode cX4_longest 4 = .ok (.ifCond .le 38, 3) := by decide +kernel
theorem dX4_longest_7 : decode cX4_longest 7 = .ok (.aload_n 0, 1) := by decide +kernel
theorem dX4_longest_8 : decode cX4_longest 8 = .ok (.getfield 10, 3) := by decide +kernel
theorem dX4_longest_11 : decode cX4_longest 11 = .ok (.getfield 41, 3) := by decide +kernel
theorem dX4_longest_14 : decode cX4_longest 14 = .ok (.iconst 1, 1) := by decide +kernel
theorem dX4_longest_15 : decode cX4_longest 15 = .ok (.aload_n 0, 1) := by decide +kernel
theorem dX4_longest_16 : decode cX4_longest 16 = .ok (.getfield 10, 3) := by decide +kernel
theorem dX4_longest_19 : decode cX4_longest 19 = .ok (.getfield 41, 3) := by decide +kernel
theorem dX4_longest_22 : decode cX4_longest 22 = .ok (.iload_n 1, 1) := by decide +kernel
theorem dX4_longest_23 : decode cX4_longest 23 = .ok (.invokevirtual 122, 3) := by decide +kernel
theorem dX4_longest_26 : decode cX4_longest 26 = .ok (.invokevirtual 126, 3) := by decide +kernel
theorem dX4_longest_29 : decode cX4_longest 29 = .ok (.lconst 0, 1) := by decide +kernel
theorem dX4_longest_30 : decode cX4_longest 30 = .ok (.lcmp, 1) := by decide +kernel
theorem dX4_longest_31 : decode cX4_longest 31 = .ok (.ifCond .ne 5, 3) := by decide +kernel
theorem dX4_longest_34 : decode cX4_longest 34 = .ok (.iload_n 1, 1) := by decide +kernel
theorem dX4_longest_35 : decode cX4_longest 35 = .ok (.ireturn, 1) := by decide +kernel
theorem dX4_longest_36 : decode cX4_longest 36 = .ok (.iinc 1 (-1), 3) := by decide +kernel
theorem dX4_longest_39 : decode cX4_longest 39 = .ok (.goto (-36), 3) := by decide +kernel
theorem dX4_longest_42 : decode cX4_longest 42 = .ok (.bipush (-9), 2) := by decide +kernel
theorem dX4_longest_44 : decode cX4_longest 44 = .ok (.ireturn, 1) := by decide +kernel
set_option maxRecDepth 20000 in
theorem ggX4_ticks_X4_isPhosphor : GoodIn wsX4_ticks wsX4_isPhosphor := goodIn_r _ [4] (by decide +kernel) (by decide +kernel)
set_option maxRecDepth 20000 in
theorem gX4_ticks_X4_isPhosphor : GoodIn wsX4_ticks (va_wsS RX4 194 yX4_isPhosphor wsX4_isPhosphor) := goodIn_app (goodIn_of _ (by decide +kernel)) ggX4_ticks_X4_isPhosphor
set_option maxRecDepth 20000 in
theorem ggX4_ticks_X4_ticksAbove : GoodIn wsX4_ticks wsX4_ticksAbove := goodIn_r _ [7, 8, 9, 3, 10, 11, 12, 13, 14] (by decide +kernel) (by decide +kernel)
set_option maxRecDepth 20000 in
theorem gX4_ticks_X4_ticksAbove : GoodIn wsX4_ticks (va_wsS RX4 197 yX4_ticksAbove wsX4_ticksAbove) := goodIn_app (goodIn_of _ (by decide +kernel)) ggX4_ticks_X4_ticksAbove
theorem dX4_ticks_0 : decode cX4_ticks 0 = .ok (.iload_n 1, 1) := by decide +kernel
theorem dX4_ticks_1 : decode cX4_ticks 1 = .ok (.invokestatic 194, 3) := by decide +kernel
theorem dX4_ticks_4 : decode cX4_ticks 4 = .ok (.ifCond .eq 14, 3) := by decide +kernel
theorem dX4_ticks_7 : decode cX4_ticks 7 = .ok (.iload_n 2, 1) := by decide +kernel
theorem dX4_ticks_8 : decode cX4_ticks 8 = .ok (.iconst 1, 1) := by decide +kernel
theorem dX4_ticks_9 : decode cX4_ticks 9 = .ok (.if_icmp .lt 9, 3) := by decide +kernel
theorem dX4_ticks_12 : decode cX4_ticks 12 = .ok (.iload_n 2, 1) := by decide +kernel
theorem dX4_ticks_13 : decode cX4_ticks 13 = .ok (.bipush 100, 2) := by decide +kernel
theorem dX4_ticks_15 : decode cX4_ticks 15 = .ok (.if_icmp .le 5, 3) := by decide +kernel
theorem dX4_ticks_18 : decode cX4_ticks 18 = .ok (.iconst (-1), 1) := by decide +kernel
theorem dX4_ticks_19 : decode cX4_ticks 19 = .ok (.ireturn, 1) := by decide +kernel
theorem dX4_ticks_20 : decode cX4_ticks 20 = .ok (.iload_n 1, 1) := by decide +kernel
theorem dX4_ticks_21 : decode cX4_ticks 21 = .ok (.iload_n 2, 1) := by decide +kernel
theorem dX4_ticks_22 : decode cX4_ticks 22 = .ok (.invokestatic 197, 3) := by decide +kernel
theorem dX4_ticks_25 : decode cX4_ticks 25 = .ok (.ireturn, 1) := by decide +kernel
set_option maxRecDepth 20000 in
theorem ggX4_shortestPeriod_X1_arrival : GoodIn wsX4_shortestPeriod wsX1_arrival := goodIn_r _ [12, 13, 14, 15, 16, 17, 18, 19, 20, 6, 21, 31, 32, 33, 34, 35] (by decide +kernel) (by decide +kernel)
set_option maxRecDepth 20000 in
theorem gX4_shortestPeriod_X1_arrival : GoodIn wsX4_shortestPeriod (wsV RX4 133 RX1 yX1_arrival wsX1_arrival) := goodIn_app (goodIn_of _ (by decide +kernel)) ggX4_shortestPeriod_X1_arrival
theorem dX4_shortestPeriod_0 : decode cX4_shortestPeriod 0 = .ok (.aload_n 0, 1) := by decide +kernel
theorem dX4_shortestPeriod_1 : decode cX4_shortestPeriod 1 = .ok (.getfield 10, 3) := by decide +kernel
theorem dX4_shortestPeriod_4 : decode cX4_shortestPeriod 4 = .ok (.getfield 41, 3) := by decide +kernel
theorem dX4_shortestPeriod_7 : decode cX4_shortestPeriod 7 = .ok (.aload_n 0, 1) := by decide +kernel
theorem dX4_shortestPeriod_8 : decode cX4_shortestPeriod 8 = .ok (.getfield 10, 3) := by decide +kernel
theorem dX4_shortestPeriod_11 : decode cX4_shortestPeriod 11 = .ok (.getfield 41, 3) := by decide +kernel
theorem dX4_shortestPeriod_14 : decode cX4_shortestPeriod 14 = .ok (.getfield 102, 3) := by decide +kernel
theorem dX4_shortestPeriod_17 : decode cX4_shortestPeriod 17 = .ok (.iconst 1, 1) := by decide +kernel
theorem dX4_shortestPeriod_18 : decode cX4_shortestPeriod 18 = .ok (.isub, 1) := by decide +kernel
theorem dX4_shortestPeriod_19 : decode cX4_shortestPeriod 19 = .ok (.invokevirtual 133, 3) := by decide +kernel
theorem dX4_shortestPeriod_22 : decode cX4_shortestPeriod 22 = .ok (.iconst 1, 1) := by decide +kernel
theorem dX4_shortestPeriod_23 : decode cX4_shortestPeriod 23 = .ok (.iadd, 1) := by decide +kernel
theorem dX4_shortestPeriod_24 : decode cX4_shortestPeriod 24 = .ok (.istore_n 1, 1) := by decide +kernel
theorem dX4_shortestPeriod_25 : decode cX4_shortestPeriod 25 = .ok (.iload_n 1, 1) := by decide +kernel
theorem dX4_shortestPeriod_26 : decode cX4_shortestPeriod 26 = .ok (.sipush 200, 3) := by decide +kernel
theorem dX4_shortestPeriod_29 : decode cX4_shortestPeriod 29 = .ok (.if_icmp .le 8, 3) := by decide +kernel
theorem dX4_shortestPeriod_32 : decode cX4_shortestPeriod 32 = .ok (.bipush (-9), 2) := by decide +kernel
theorem dX4_shortestPeriod_34 : decode cX4_shortestPeriod 34 = .ok (.goto 9, 3) := by decide +kernel
theorem dX4_shortestPeriod_37 : decode cX4_shortestPeriod 37 = .ok (.bipush 8, 2) := by decide +kernel
theorem dX4_shortestPeriod_39 : decode cX4_shortestPeriod 39 = .ok (.iload_n 1, 1) := by decide +kernel
theorem dX4_shortestPeriod_40 : decode cX4_shortestPeriod 40 = .ok (.invokestatic 200, 3) := by decide +kernel
theorem dX4_shortestPeriod_43 : decode cX4_shortestPeriod 43 = .ok (.ireturn, 1) := by decide +kernel
set_option maxRecDepth 20000 in
theorem ggX4_prepare_X2_copyFrom : GoodIn wsX4_prepare wsX2_copyFrom := goodIn_r _ [8, 9, 10, 11, 12, 13, 14, 15, 16, 17, 18, 19, 20, 21, 22, 23, 24, 25, 32, 33, 34, 35, 36, 37, 38, 39] (by decide +kernel) (by decide +kernel)
set_option maxRecDepth 20000 in
theorem gX4_prepare_X2_copyFrom : GoodIn wsX4_prepare (wsV RX4 84 RX2 yX2_copyFrom wsX2_copyFrom) := goodIn_app (goodIn_of _ (by decide +kernel)) ggX4_prepare_X2_copyFrom
theorem dX4_prepare_0 : decode cX4_prepare 0 = .ok (.aload_n 0, 1) := by decide +kernel
theorem dX4_prepare_1 : decode cX4_prepare 1 = .ok (.getfield 16, 3) := by decide +kernel
theorem dX4_prepare_4 : decode cX4_prepare 4 = .ok (.aload_n 0, 1) := by decide +kernel
theorem dX4_prepare_5 : decode cX4_prepare 5 = .ok (.getfield 80, 3) := by decide +kernel
theorem dX4_prepare_8 : decode cX4_prepare 8 = .ok (.aaload, 1) := by decide +kernel
theorem dX4_prepare_9 : decode cX4_prepare 9 = .ok (.aload_n 0, 1) := by decide +kernel
theorem dX4_prepare_10 : decode cX4_prepare 10 = .ok (.getfield 10, 3) := by decide +kernel
theorem dX4_prepare_13 : decode cX4_prepare 13 = .ok (.invokevirtual 84, 3) := by decide +kernel
theorem dX4_prepare_16 : decode cX4_prepare 16 = .ok (.return_, 1) := by decide +kernel
set_option maxRecDepth 20000 in
theorem ggX4_finish_X4_dropOldest : GoodIn wsX4_finish wsX4_dropOldest := goodIn_r _ [6, 7, 8, 9, 10, 11, 12, 13] (by decide +kernel) (by decide +kernel)
set_option maxRecDepth 20000 in
theorem gX4_finish_X4_dropOldest : GoodIn wsX4_finish (wsV RX4 205 RX4 yX4_dropOldest wsX4_dropOldest) := goodIn_app (goodIn_of _ (by decide +kernel)) ggX4_finish_X4_dropOldest
theorem dX4_finish_0 : decode cX4_finish 0 = .ok (.iload_n 1, 1) := by decide +kernel
theorem dX4_finish_1 : decode cX4_finish 1 = .ok (.ifCond .lt 28, 3) := by decide +kernel
theorem dX4_finish_4 : decode cX4_finish 4 = .ok (.aload_n 0, 1) := by decide +kernel
theorem dX4_finish_5 : decode cX4_finish 5 = .ok (.getfield 80, 3) := by decide +kernel
theorem dX4_finish_8 : decode cX4_finish 8 = .ok (.iconst 5, 1) := by decide +kernel
theorem dX4_finish_9 : decode cX4_finish 9 = .ok (.if_icmp .ge 16, 3) := by decide +kernel
theorem dX4_finish_12 : decode cX4_finish 12 = .ok (.aload_n 0, 1) := by decide +kernel
theorem dX4_finish_13 : decode cX4_finish 13 = .ok (.dup, 1) := by decide +kernel
theorem dX4_finish_14 : decode cX4_finish 14 = .ok (.getfield 80, 3) := by decide +kernel
theorem dX4_finish_17 : decode cX4_finish 17 = .ok (.iconst 1, 1) := by decide +kernel
theorem dX4_finish_18 : decode cX4_finish 18 = .ok (.iadd, 1) := by decide +kernel
theorem dX4_finish_19 : decode cX4_finish 19 = .ok (.putfield 80, 3) := by decide +kernel
theorem dX4_finish_22 : decode cX4_finish 22 = .ok (.goto 7, 3) := by decide +kernel
theorem dX4_finish_25 : decode cX4_finish 25 = .ok (.aload_n 0, 1) := by decide +kernel
theorem dX4_finish_26 : decode cX4_finish 26 = .ok (.invokevirtual 205, 3) := by decide +kernel
theorem dX4_finish_29 : decode cX4_finish 29 = .ok (.iload_n 1, 1) := by decide +kernel
theorem dX4_finish_30 : decode cX4_finish 30 = .ok (.ireturn, 1) := by decide +kernel
theorem dX4_dropOldest_0 : decode cX4_dropOldest 0 = .ok (.aload_n 0, 1) := by decide +kernel
theorem dX4_dropOldest_1 : decode cX4_dropOldest 1 = .ok (.getfield 16, 3) := by decide +kernel
theorem dX4_dropOldest_4 : decode cX4_dropOldest 4 = .ok (.iconst 0, 1) := by decide +kernel
theorem dX4_dropOldest_5 : decode cX4_dropOldest 5 = .ok (.aaload, 1) := by decide +kernel
theorem dX4_dropOldest_6 : decode cX4_dropOldest 6 = .ok (.astore_n 1, 1) := by decide +kernel
theorem dX4_dropOldest_7 : decode cX4_dropOldest 7 = .ok (.iconst 0, 1) := by decide +kernel
theorem dX4_dropOldest_8 : decode cX4_dropOldest 8 = .ok (.istore_n 2, 1) := by decide +kernel
theorem dX4_dropOldest_9 : decode cX4_dropOldest 9 = .ok (.iload_n 2, 1) := by decide +kernel
theorem dX4_dropOldest_10 : decode cX4_dropOldest 10 = .ok (.iconst 5, 1) := by decide +kernel
theorem dX4_dropOldest_11 : decode cX4_dropOldest 11 = .ok (.if_icmp .ge 23, 3) := by decide +kernel
theorem dX4_dropOldest_14 : decode cX4_dropOldest 14 = .ok (.aload_n 0, 1) := by decide +kernel
theorem dX4_dropOldest_15 : decode cX4_dropOldest 15 = .ok (.getfield 16, 3) := by decide +kernel
theorem dX4_dropOldest_18 : decode cX4_dropOldest 18 = .ok (.iload_n 2, 1) := by decide +kernel
theorem dX4_dropOldest_19 : decode cX4_dropOldest 19 = .ok (.aload_n 0, 1) := by decide +kernel
theorem dX4_dropOldest_20 : decode cX4_dropOldest 20 = .ok (.getfield 16, 3) := by decide +kernel
theorem dX4_dropOldest_23 : decode cX4_dropOldest 23 = .ok (.iload_n 2, 1) := by decide +kernel
theorem dX4_dropOldest_24 : decode cX4_dropOldest 24 = .ok (.iconst 1, 1) := by decide +kernel
theorem dX4_dropOldest_25 : decode cX4_dropOldest 25 = .ok (.iadd, 1) := by decide +kernel
theorem dX4_dropOldest_26 : decode cX4_dropOldest 26 = .ok (.aaload, 1) := by decide +kernel
theorem dX4_dropOldest_27 : decode cX4_dropOldest 27 = .ok (.aastore, 1) := by decide +kernel
theorem dX4_dropOldest_28 : decode cX4_dropOldest 28 = .ok (.iinc 2 1, 3) := by decide +kernel
theorem dX4_dropOldest_31 : decode cX4_dropOldest 31 = .ok (.goto (-22), 3) := by decide +kernel
theorem dX4_dropOldest_34 : decode cX4_dropOldest 34 = .ok (.aload_n 0, 1) := by decide +kernel
theorem dX4_dropOldest_35 : decode cX4_dropOldest 35 = .ok (.getfield 16, 3) := by decide +kernel
theorem dX4_dropOldest_38 : decode cX4_dropOldest 38 = .ok (.iconst 5, 1) := by decide +kernel
theorem dX4_dropOldest_39 : decode cX4_dropOldest 39 = .ok (.aload_n 1, 1) := by decide +kernel
theorem dX4_dropOldest_40 : decode cX4_dropOldest 40 = .ok (.aastore, 1) := by decide +kernel
theorem dX4_dropOldest_41 : decode cX4_dropOldest 41 = .ok (.return_, 1) := by decide +kernel
theorem dX4_settingCount_0 : decode cX4_settingCount 0 = .ok (.iload_n 1, 1) := by decide +kernel
theorem dX4_settingCount_1 : decode cX4_settingCount 1 = .ok (.bipush 13, 2) := by decide +kernel
theorem dX4_settingCount_3 : decode cX4_settingCount 3 = .ok (.if_icmp .lt 9, 3) := by decide +kernel
theorem dX4_settingCount_6 : decode cX4_settingCount 6 = .ok (.iload_n 1, 1) := by decide +kernel
theorem dX4_settingCount_7 : decode cX4_settingCount 7 = .ok (.bipush 19, 2) := by decide +kernel
theorem dX4_settingCount_9 : decode cX4_settingCount 9 = .ok (.if_icmp .lt 5, 3) := by decide +kernel
theorem dX4_settingCount_12 : decode cX4_settingCount 12 = .ok (.iconst (-1), 1) := by decide +kernel
theorem dX4_settingCount_13 : decode cX4_settingCount 13 = .ok (.ireturn, 1) := by decide +kernel
theorem dX4_settingCount_14 : decode cX4_settingCount 14 = .ok (.aload_n 0, 1) := by decide +kernel
theorem dX4_settingCount_15 : decode cX4_settingCount 15 = .ok (.getfield 10, 3) := by decide +kernel
theorem dX4_settingCount_18 : decode cX4_settingCount 18 = .ok (.getfield 41, 3) := by decide +kernel
theorem dX4_settingCount_21 : decode cX4_settingCount 21 = .ok (.getfield 99, 3) := by decide +kernel
theorem dX4_settingCount_24 : decode cX4_settingCount 24 = .ok (.iload_n 1, 1) := by decide +kernel
theorem dX4_settingCount_25 : decode cX4_settingCount 25 = .ok (.bipush 13, 2) := by decide +kernel
theorem dX4_settingCount_27 : decode cX4_settingCount 27 = .ok (.isub, 1) := by decide +kernel
theorem dX4_settingCount_28 : decode cX4_settingCount 28 = .ok (.iaload, 1) := by decide +kernel
theorem dX4_settingCount_29 : decode cX4_settingCount 29 = .ok (.ireturn, 1) := by decide +kernel
theorem dX4_isSpot_0 : decode cX4_isSpot 0 = .ok (.iload_n 0, 1) := by decide +kernel
theorem dX4_isSpot_1 : decode cX4_isSpot 1 = .ok (.ifCond .lt 13, 3) := by decide +kernel
theorem dX4_isSpot_4 : decode cX4_isSpot 4 = .ok (.iload_n 0, 1) := by decide +kernel
theorem dX4_isSpot_5 : decode cX4_isSpot 5 = .ok (.bipush 64, 2) := by decide +kernel
theorem dX4_isSpot_7 : decode cX4_isSpot 7 = .ok (.if_icmp .ge 7, 3) := by decide +kernel
theorem dX4_isSpot_10 : decode cX4_isSpot 10 = .ok (.iconst 1, 1) := by decide +kernel
theorem dX4_isSpot_11 : decode cX4_isSpot 11 = .ok (.goto 4, 3) := by decide +kernel
theorem dX4_isSpot_14 : decode cX4_isSpot 14 = .ok (.iconst 0, 1) := by decide +kernel
theorem dX4_isSpot_15 : decode cX4_isSpot 15 = .ok (.ireturn, 1) := by decide +kernel
theorem dX4_isPhosphor_0 : decode cX4_isPhosphor 0 = .ok (.iload_n 0, 1) := by decide +kernel
theorem dX4_isPhosphor_1 : decode cX4_isPhosphor 1 = .ok (.ifCond .lt 12, 3) := by decide +kernel
theorem dX4_isPhosphor_4 : decode cX4_isPhosphor 4 = .ok (.iload_n 0, 1) := by decide +kernel
theorem dX4_isPhosphor_5 : decode cX4_isPhosphor 5 = .ok (.iconst 4, 1) := by decide +kernel
theorem dX4_isPhosphor_6 : decode cX4_isPhosphor 6 = .ok (.if_icmp .ge 7, 3) := by decide +kernel
theorem dX4_isPhosphor_9 : decode cX4_isPhosphor 9 = .ok (.iconst 1, 1) := by decide +kernel
theorem dX4_isPhosphor_10 : decode cX4_isPhosphor 10 = .ok (.goto 4, 3) := by decide +kernel
theorem dX4_isPhosphor_13 : decode cX4_isPhosphor 13 = .ok (.iconst 0, 1) := by decide +kernel
theorem dX4_isPhosphor_14 : decode cX4_isPhosphor 14 = .ok (.ireturn, 1) := by decide +kernel
theorem dX4_way_0 : decode cX4_way 0 = .ok (.iload_n 0, 1) := by decide +kernel
theorem dX4_way_1 : decode cX4_way 1 = .ok (.bipush 8, 2) := by decide +kernel
theorem dX4_way_3 : decode cX4_way 3 = .ok (.idiv, 1) := by decide +kernel
theorem dX4_way_4 : decode cX4_way 4 = .ok (.iload_n 1, 1) := by decide +kernel
theorem dX4_way_5 : decode cX4_way 5 = .ok (.bipush 8, 2) := by decide +kernel
theorem dX4_way_7 : decode cX4_way 7 = .ok (.idiv, 1) := by decide +kernel
theorem dX4_way_8 : decode cX4_way 8 = .ok (.isub, 1) := by decide +kernel
theorem dX4_way_9 : decode cX4_way 9 = .ok (.invokestatic 208, 3) := by decide +kernel
theorem dX4_way_12 : decode cX4_way 12 = .ok (.iload_n 0, 1) := by decide +kernel
theorem dX4_way_13 : decode cX4_way 13 = .ok (.bipush 8, 2) := by decide +kernel
theorem dX4_way_15 : decode cX4_way 15 = .ok (.irem, 1) := by decide +kernel
theorem dX4_way_16 : decode cX4_way 16 = .ok (.iload_n 1, 1) := by decide +kernel
theorem dX4_way_17 : decode cX4_way 17 = .ok (.bipush 8, 2) := by decide +kernel
theorem dX4_way_19 : decode cX4_way 19 = .ok (.irem, 1) := by decide +kernel
theorem dX4_way_20 : decode cX4_way 20 = .ok (.isub, 1) := by decide +kernel
theorem dX4_way_21 : decode cX4_way 21 = .ok (.invokestatic 208, 3) := by decide +kernel
theorem dX4_way_24 : decode cX4_way 24 = .ok (.iadd, 1) := by decide +kernel
theorem dX4_way_25 : decode cX4_way 25 = .ok (.ireturn, 1) := by decide +kernel
theorem dX4_bit_0 : decode cX4_bit 0 = .ok (.lload_n 0, 1) := by decide +kernel
theorem dX4_bit_1 : decode cX4_bit 1 = .ok (.iload_n 2, 1) := by decide +kernel
theorem dX4_bit_2 : decode cX4_bit 2 = .ok (.lushr, 1) := by decide +kernel
theorem dX4_bit_3 : decode cX4_bit 3 = .ok (.l2i, 1) := by decide +kernel
theorem dX4_bit_4 : decode cX4_bit 4 = .ok (.iconst 1, 1) := by decide +kernel
theorem dX4_bit_5 : decode cX4_bit 5 = .ok (.iand, 1) := by decide +kernel
theorem dX4_bit_6 : decode cX4_bit 6 = .ok (.ireturn, 1) := by decide +kernel
set_option maxRecDepth 20000 in
theorem ggX4_firstOf_X4_bit : GoodIn wsX4_firstOf wsX4_bit := goodIn_r _ [4] (by decide +kernel) (by decide +kernel)
set_option maxRecDepth 20000 in
theorem gX4_firstOf_X4_bit : GoodIn wsX4_firstOf (va_wsS RX4 151 yX4_bit wsX4_bit) := goodIn_app (goodIn_of _ (by decide +kernel)) ggX4_firstOf_X4_bit
theorem dX4_firstOf_0 : decode cX4_firstOf 0 = .ok (.iconst 0, 1) := by decide +kernel
theorem dX4_firstOf_1 : decode cX4_firstOf 1 = .ok (.istore_n 2, 1) := by decide +kernel
theorem dX4_firstOf_2 : decode cX4_firstOf 2 = .ok (.iload_n 2, 1) := by decide +kernel
theorem dX4_firstOf_3 : decode cX4_firstOf 3 = .ok (.bipush 64, 2) := by decide +kernel
theorem dX4_firstOf_5 : decode cX4_firstOf 5 = .ok (.if_icmp .ge 20, 3) := by decide +kernel
theorem dX4_firstOf_8 : decode cX4_firstOf 8 = .ok (.lload_n 0, 1) := by decide +kernel
theorem dX4_firstOf_9 : decode cX4_firstOf 9 = .ok (.iload_n 2, 1) := by decide +kernel
theorem dX4_firstOf_10 : decode cX4_firstOf 10 = .ok (.invokestatic 151, 3) := by decide +kernel
theorem dX4_firstOf_13 : decode cX4_firstOf 13 = .ok (.iconst 1, 1) := by decide +kernel
theorem dX4_firstOf_14 : decode cX4_firstOf 14 = .ok (.if_icmp .ne 5, 3) := by decide +kernel
theorem dX4_firstOf_17 : decode cX4_firstOf 17 = .ok (.iload_n 2, 1) := by decide +kernel
theorem dX4_firstOf_18 : decode cX4_firstOf 18 = .ok (.ireturn, 1) := by decide +kernel
theorem dX4_firstOf_19 : decode cX4_firstOf 19 = .ok (.iinc 2 1, 3) := by decide +kernel
theorem dX4_firstOf_22 : decode cX4_firstOf 22 = .ok (.goto (-20), 3) := by decide +kernel
theorem dX4_firstOf_25 : decode cX4_firstOf 25 = .ok (.bipush (-9), 2) := by decide +kernel
theorem dX4_firstOf_27 : decode cX4_firstOf 27 = .ok (.ireturn, 1) := by decide +kernel
theorem dX4_glow_0 : decode cX4_glow 0 = .ok (.iload_n 0, 1) := by decide +kernel
theorem dX4_glow_1 : decode cX4_glow 1 = .ok (.tableswitch 67 0 2 #[27, 39, 50], 27) := by decide +kernel
theorem dX4_glow_28 : decode cX4_glow 28 = .ok (.iconst 0, 1) := by decide +kernel
theorem dX4_glow_29 : decode cX4_glow 29 = .ok (.bipush 100, 2) := by decide +kernel
theorem dX4_glow_31 : decode cX4_glow 31 = .ok (.bipush 20, 2) := by decide +kernel
theorem dX4_glow_33 : decode cX4_glow 33 = .ok (.iload_n 1, 1) := by decide +kernel
theorem dX4_glow_34 : decode cX4_glow 34 = .ok (.imul, 1) := by decide +kernel
theorem dX4_glow_35 : decode cX4_glow 35 = .ok (.isub, 1) := by decide +kernel
theorem dX4_glow_36 : decode cX4_glow 36 = .ok (.invokestatic 200, 3) := by decide +kernel
theorem dX4_glow_39 : decode cX4_glow 39 = .ok (.ireturn, 1) := by decide +kernel
theorem dX4_glow_40 : decode cX4_glow 40 = .ok (.iconst 0, 1) := by decide +kernel
theorem dX4_glow_41 : decode cX4_glow 41 = .ok (.bipush 100, 2) := by decide +kernel
theorem dX4_glow_43 : decode cX4_glow 43 = .ok (.iconst 4, 1) := by decide +kernel
theorem dX4_glow_44 : decode cX4_glow 44 = .ok (.iload_n 1, 1) := by decide +kernel
theorem dX4_glow_45 : decode cX4_glow 45 = .ok (.imul, 1) := by decide +kernel
theorem dX4_glow_46 : decode cX4_glow 46 = .ok (.isub, 1) := by decide +kernel
theorem dX4_glow_47 : decode cX4_glow 47 = .ok (.invokestatic 200, 3) := by decide +kernel
theorem dX4_glow_50 : decode cX4_glow 50 = .ok (.ireturn, 1) := by decide +kernel
theorem dX4_glow_51 : decode cX4_glow 51 = .ok (.iload_n 1, 1) := by decide +kernel
theorem dX4_glow_52 : decode cX4_glow 52 = .ok (.bipush 35, 2) := by decide +kernel
theorem dX4_glow_54 : decode cX4_glow 54 = .ok (.if_icmp .ge 12, 3) := by decide +kernel
theorem dX4_glow_57 : decode cX4_glow 57 = .ok (.bipush 100, 2) := by decide +kernel
theorem dX4_glow_59 : decode cX4_glow 59 = .ok (.iload_n 1, 1) := by decide +kernel
theorem dX4_glow_60 : decode cX4_glow 60 = .ok (.iconst 5, 1) := by decide +kernel
theorem dX4_glow_61 : decode cX4_glow 61 = .ok (.idiv, 1) := by decide +kernel
theorem dX4_glow_62 : decode cX4_glow 62 = .ok (.ishr, 1) := by decide +kernel
theorem dX4_glow_63 : decode cX4_glow 63 = .ok (.goto 4, 3) := by decide +kernel
theorem dX4_glow_66 : decode cX4_glow 66 = .ok (.iconst 0, 1) := by decide +kernel
theorem dX4_glow_67 : decode cX4_glow 67 = .ok (.ireturn, 1) := by decide +kernel
theorem dX4_glow_68 : decode cX4_glow 68 = .ok (.iload_n 1, 1) := by decide +kernel
theorem dX4_glow_69 : decode cX4_glow 69 = .ok (.bipush 8, 2) := by decide +kernel
theorem dX4_glow_71 : decode cX4_glow 71 = .ok (.if_icmp .ge 8, 3) := by decide +kernel
theorem dX4_glow_74 : decode cX4_glow 74 = .ok (.bipush 100, 2) := by decide +kernel
theorem dX4_glow_76 : decode cX4_glow 76 = .ok (.goto 4, 3) := by decide +kernel
theorem dX4_glow_79 : decode cX4_glow 79 = .ok (.iconst 0, 1) := by decide +kernel
theorem dX4_glow_80 : decode cX4_glow 80 = .ok (.ireturn, 1) := by decide +kernel
set_option maxRecDepth 20000 in
theorem ggX4_ticksAbove_X4_glow : GoodIn wsX4_ticksAbove wsX4_glow := goodIn_r _ [4, 5, 6, 7, 8] (by decide +kernel) (by decide +kernel)
set_option maxRecDepth 20000 in
theorem gX4_ticksAbove_X4_glow : GoodIn wsX4_ticksAbove (va_wsS RX4 211 yX4_glow wsX4_glow) := goodIn_app (goodIn_of _ (by decide +kernel)) ggX4_ticksAbove_X4_glow
theorem dX4_ticksAbove_0 : decode cX4_ticksAbove 0 = .ok (.iconst 0, 1) := by decide +kernel
theorem dX4_ticksAbove_1 : decode cX4_ticksAbove 1 = .ok (.istore_n 2, 1) := by decide +kernel
theorem dX4_ticksAbove_2 : decode cX4_ticksAbove 2 = .ok (.iload_n 2, 1) := by decide +kernel
theorem dX4_ticksAbove_3 : decode cX4_ticksAbove 3 = .ok (.sipush 200, 3) := by decide +kernel
theorem dX4_ticksAbove_6 : decode cX4_ticksAbove 6 = .ok (.if_icmp .ge 18, 3) := by decide +kernel
theorem dX4_ticksAbove_9 : decode cX4_ticksAbove 9 = .ok (.iload_n 0, 1) := by decide +kernel
theorem dX4_ticksAbove_10 : decode cX4_ticksAbove 10 = .ok (.iload_n 2, 1) := by decide +kernel
theorem dX4_ticksAbove_11 : decode cX4_ticksAbove 11 = .ok (.invokestatic 211, 3) := by decide +kernel
theorem dX4_ticksAbove_14 : decode cX4_ticksAbove 14 = .ok (.iload_n 1, 1) := by decide +kernel
theorem dX4_ticksAbove_15 : decode cX4_ticksAbove 15 = .ok (.if_icmp .lt 9, 3) := by decide +kernel
theorem dX4_ticksAbove_18 : decode cX4_ticksAbove 18 = .ok (.iinc 2 1, 3) := by decide +kernel
theorem dX4_ticksAbove_21 : decode cX4_ticksAbove 21 = .ok (.goto (-19), 3) := by decide +kernel
theorem dX4_ticksAbove_24 : decode cX4_ticksAbove 24 = .ok (.iload_n 2, 1) := by decide +kernel
theorem dX4_ticksAbove_25 : decode cX4_ticksAbove 25 = .ok (.ireturn, 1) := by decide +kernel
theorem dX5_init_0 : decode cX5_init 0 = .ok (.aload_n 0, 1) := by decide +kernel
theorem dX5_init_1 : decode cX5_init 1 = .ok (.invokespecial 1, 3) := by decide +kernel
theorem dX5_init_4 : decode cX5_init 4 = .ok (.aload_n 0, 1) := by decide +kernel
theorem dX5_init_5 : decode cX5_init 5 = .ok (.sipush 635, 3) := by decide +kernel
theorem dX5_init_8 : decode cX5_init 8 = .ok (.newarray .int, 2) := by decide +kernel
theorem dX5_init_10 : decode cX5_init 10 = .ok (.putfield 7, 3) := by decide +kernel
theorem dX5_init_13 : decode cX5_init 13 = .ok (.aload_n 0, 1) := by decide +kernel
theorem dX5_init_14 : decode cX5_init 14 = .ok (.sipush 635, 3) := by decide +kernel
theorem dX5_init_17 : decode cX5_init 17 = .ok (.newarray .int, 2) := by decide +kernel
theorem dX5_init_19 : decode cX5_init 19 = .ok (.putfield 13, 3) := by decide +kernel
theorem dX5_init_22 : decode cX5_init 22 = .ok (.aload_n 0, 1) := by decide +kernel
theorem dX5_init_23 : decode cX5_init 23 = .ok (.sipush 3175, 3) := by decide +kernel
theorem dX5_init_26 : decode cX5_init 26 = .ok (.newarray .int, 2) := by decide +kernel
theorem dX5_init_28 : decode cX5_init 28 = .ok (.putfield 16, 3) := by decide +kernel
theorem dX5_init_31 : decode cX5_init 31 = .ok (.aload_n 0, 1) := by decide +kernel
theorem dX5_init_32 : decode cX5_init 32 = .ok (.sipush 140, 3) := by decide +kernel
theorem dX5_init_35 : decode cX5_init 35 = .ok (.newarray .int, 2) := by decide +kernel
theorem dX5_init_37 : decode cX5_init 37 = .ok (.putfield 19, 3) := by decide +kernel
theorem dX5_init_40 : decode cX5_init 40 = .ok (.aload_n 0, 1) := by decide +kernel
theorem dX5_init_41 : decode cX5_init 41 = .ok (.iconst 2, 1) := by decide +kernel
theorem dX5_init_42 : decode cX5_init 42 = .ok (.newarray .int, 2) := by decide +kernel
theorem dX5_init_44 : decode cX5_init 44 = .ok (.putfield 22, 3) := by decide +kernel
theorem dX5_init_47 : decode cX5_init 47 = .ok (.aload_n 0, 1) := by decide +kernel
theorem dX5_init_48 : decode cX5_init 48 = .ok (.bipush 64, 2) := by decide +kernel
theorem dX5_init_50 : decode cX5_init 50 = .ok (.newarray .int, 2) := by decide +kernel
theorem dX5_init_52 : decode cX5_init 52 = .ok (.putfield 25, 3) := by decide +kernel
theorem dX5_init_55 : decode cX5_init 55 = .ok (.aload_n 0, 1) := by decide +kernel
theorem dX5_init_56 : decode cX5_init 56 = .ok (.ldc 28, 2) := by decide +kernel
theorem dX5_init_58 : decode cX5_init 58 = .ok (.newarray .int, 2) := by decide +kernel
theorem dX5_init_60 : decode cX5_init 60 = .ok (.putfield 29, 3) := by decide +kernel
theorem dX5_init_63 : decode cX5_init 63 = .ok (.aload_n 0, 1) := by decide +kernel
theorem dX5_init_64 : decode cX5_init 64 = .ok (.iconst 0, 1) := by decide +kernel
theorem dX5_init_65 : decode cX5_init 65 = .ok (.putfield 32, 3) := by decide +kernel
theorem dX5_init_68 : decode cX5_init 68 = .ok (.aload_n 0, 1) := by decide +kernel
theorem dX5_init_69 : decode cX5_init 69 = .ok (.getfield 7, 3) := by decide +kernel
theorem dX5_init_72 : decode cX5_init 72 = .ok (.iconst 0, 1) := by decide +kernel
theorem dX5_init_73 : decode cX5_init 73 = .ok (.bipush 60, 2) := by decide +kernel
theorem dX5_init_75 : decode cX5_init 75 = .ok (.iastore, 1) := by decide +kernel
theorem dX5_init_76 : decode cX5_init 76 = .ok (.aload_n 0, 1) := by decide +kernel
theorem dX5_init_77 : decode cX5_init 77 = .ok (.getfield 7, 3) := by decide +kernel
theorem dX5_init_80 : decode cX5_init 80 = .ok (.iconst 1, 1) := by decide +kernel
theorem dX5_init_81 : decode cX5_init 81 = .ok (.iconst 1, 1) := by decide +kernel
theorem dX5_init_82 : decode cX5_init 82 = .ok (.iastore, 1) := by decide +kernel
theorem dX5_init_83 : decode cX5_init 83 = .ok (.aload_n 0, 1) := by decide +kernel
theorem dX5_init_84 : decode cX5_init 84 = .ok (.getfield 7, 3) := by decide +kernel
theorem dX5_init_87 : decode cX5_init 87 = .ok (.iconst 2, 1) := by decide +kernel
theorem dX5_init_88 : decode cX5_init 88 = .ok (.bipush 20, 2) := by decide +kernel
theorem dX5_init_90 : decode cX5_init 90 = .ok (.iastore, 1) := by decide +kernel
theorem dX5_init_91 : decode cX5_init 91 = .ok (.aload_n 0, 1) := by decide +kernel
theorem dX5_init_92 : decode cX5_init 92 = .ok (.getfield 7, 3) := by decide +kernel
theorem dX5_init_95 : decode cX5_init 95 = .ok (.iconst 3, 1) := by decide +kernel
theorem dX5_init_96 : decode cX5_init 96 = .ok (.iconst 0, 1) := by decide +kernel
theorem dX5_init_97 : decode cX5_init 97 = .ok (.iastore, 1) := by decide +kernel
theorem dX5_init_98 : decode cX5_init 98 = .ok (.aload_n 0, 1) := by decide +kernel
theorem dX5_init_99 : decode cX5_init 99 = .ok (.getfield 7, 3) := by decide +kernel
theorem dX5_init_102 : decode cX5_init 102 = .ok (.iconst 4, 1) := by decide +kernel
theorem dX5_init_103 : decode cX5_init 103 = .ok (.iconst 4, 1) := by decide +kernel
theorem dX5_init_104 : decode cX5_init 104 = .ok (.iastore, 1) := by decide +kernel
theorem dX5_init_105 : decode cX5_init 105 = .ok (.aload_n 0, 1) := by decide +kernel
theorem dX5_init_106 : decode cX5_init 106 = .ok (.getfield 7, 3) := by decide +kernel
theorem dX5_init_109 : decode cX5_init 109 = .ok (.iconst 5, 1) := by decide +kernel
theorem dX5_init_110 : decode cX5_init 110 = .ok (.bipush 60, 2) := by decide +kernel
theorem dX5_init_112 : decode cX5_init 112 = .ok (.iastore, 1) := by decide +kernel
theorem dX5_init_113 : decode cX5_init 113 = .ok (.return_, 1) := by decide +kernel
theorem dX5_in_0 : decode cX5_in 0 = .ok (.iload_n 0, 1) := by decide +kernel
theorem dX5_in_1 : decode cX5_in 1 = .ok (.iload_n 1, 1) := by decide +kernel
theorem dX5_in_2 : decode cX5_in 2 = .ok (.if_icmp .lt 12, 3) := by decide +kernel
theorem dX5_in_5 : decode cX5_in 5 = .ok (.iload_n 0, 1) := by decide +kernel
theorem dX5_in_6 : decode cX5_in 6 = .ok (.iload_n 2, 1) := by decide +kernel
theorem dX5_in_7 : decode cX5_in 7 = .ok (.if_icmp .gt 7, 3) := by decide +kernel
theorem dX5_in_10 : decode cX5_in 10 = .ok (.iconst 1, 1) := by decide +kernel
theorem dX5_in_11 : decode cX5_in 11 = .ok (.goto 4, 3) := by decide +kernel
theorem dX5_in_14 : decode cX5_in 14 = .ok (.iconst 0, 1) := by decide +kernel
theorem dX5_in_15 : decode cX5_in 15 = .ok (.ireturn, 1) := by decide +kernel
set_option maxRecDepth 20000 in
theorem ggX5_isSpot_X5_in : GoodIn wsX5_isSpot wsX5_in := goodIn_r _ [4] (by decide +kernel) (by decide +kernel)
set_option maxRecDepth 20000 in
theorem gX5_isSpot_X5_in : GoodIn wsX5_isSpot (va_wsS RX5 36 yX5_in wsX5_in) := goodIn_app (goodIn_of _ (by decide +kernel)) ggX5_isSpot_X5_in
theorem dX5_isSpot_0 : decode cX5_isSpot 0 = .ok (.iload_n 0, 1) := by decide +kernel
theorem dX5_isSpot_1 : decode cX5_isSpot 1 = .ok (.iconst 0, 1) := by decide +kernel
theorem dX5_isSpot_2 : decode cX5_isSpot 2 = .ok (.bipush 63, 2) := by decide +kernel
theorem dX5_isSpot_4 : decode cX5_isSpot 4 = .ok (.invokestatic 36, 3) := by decide +kernel
theorem dX5_isSpot_7 : decode cX5_isSpot 7 = .ok (.ireturn, 1) := by decide +kernel
set_option maxRecDepth 20000 in
theorem ggX5_isBit_X5_in : GoodIn wsX5_isBit wsX5_in := goodIn_r _ [4] (by decide +kernel) (by decide +kernel)
set_option maxRecDepth 20000 in
theorem gX5_isBit_X5_in : GoodIn wsX5_isBit (va_wsS RX5 36 yX5_in wsX5_in) := goodIn_app (goodIn_of _ (by decide +kernel)) ggX5_isBit_X5_in
theorem dX5_isBit_0 : decode cX5_isBit 0 = .ok (.iload_n 0, 1) := by decide +kernel
theorem dX5_isBit_1 : decode cX5_isBit 1 = .ok (.iconst 0, 1) := by decide +kernel
theorem dX5_isBit_2 : decode cX5_isBit 2 = .ok (.iconst 1, 1) := by decide +kernel
theorem dX5_isBit_3 : decode cX5_isBit 3 = .ok (.invokestatic 36, 3) := by decide +kernel
theorem dX5_isBit_6 : decode cX5_isBit 6 = .ok (.ireturn, 1) := by decide +kernel
theorem dX5_size_0 : decode cX5_size 0 = .ok (.iload_n 0, 1) := by decide +kernel
theorem dX5_size_1 : decode cX5_size 1 = .ok (.ifCond .ge 8, 3) := by decide +kernel
theorem dX5_size_4 : decode cX5_size 4 = .ok (.iload_n 0, 1) := by decide +kernel
theorem dX5_size_5 : decode cX5_size 5 = .ok (.ineg, 1) := by decide +kernel
theorem dX5_size_6 : decode cX5_size 6 = .ok (.goto 4, 3) := by decide +kernel
theorem dX5_size_9 : decode cX5_size 9 = .ok (.iload_n 0, 1) := by decide +kernel
theorem dX5_size_10 : decode cX5_size 10 = .ok (.ireturn, 1) := by decide +kernel
theorem dX5_act_0 : decode cX5_act 0 = .ok (.aload_n 0, 1) := by decide +kernel
theorem dX5_act_1 : decode cX5_act 1 = .ok (.getfield 40, 3) := by decide +kernel
theorem dX5_act_4 : decode cX5_act 4 = .ok (.iconst 5, 1) := by decide +kernel
theorem dX5_act_5 : decode cX5_act 5 = .ok (.if_icmp .ne 44, 3) := by decide +kernel
theorem dX5_act_8 : decode cX5_act 8 = .ok (.iconst 0, 1) := by decide +kernel
theorem dX5_act_9 : decode cX5_act 9 = .ok (.istore_n 1, 1) := by decide +kernel
theorem dX5_act_10 : decode cX5_act 10 = .ok (.iload_n 1, 1) := by decide +kernel
theorem dX5_act_11 : decode cX5_act 11 = .ok (.sipush 2540, 3) := by decide +kernel
theorem dX5_act_14 : decode cX5_act 14 = .ok (.if_icmp .ge 25, 3) := by decide +kernel
theorem dX5_act_17 : decode cX5_act 17 = .ok (.aload_n 0, 1) := by decide +kernel
theorem dX5_act_18 : decode cX5_act 18 = .ok (.getfield 16, 3) := by decide +kernel
theorem dX5_act_21 : decode cX5_act 21 = .ok (.iload_n 1, 1) := by decide +kernel
theorem dX5_act_22 : decode cX5_act 22 = .ok (.aload_n 0, 1) := by decide +kernel
theorem dX5_act_23 : decode cX5_act 23 = .ok (.getfield 16, 3) := by decide +kernel
theorem dX5_act_26 : decode cX5_act 26 = .ok (.iload_n 1, 1) := by decide +kernel
theorem dX5_act_27 : decode cX5_act 27 = .ok (.sipush 635, 3) := by decide +kernel
theorem dX5_act_30 : decode cX5_act 30 = .ok (.iadd, 1) := by decide +kernel
theorem dX5_act_31 : decode cX5_act 31 = .ok (.iaload, 1) := by decide +kernel
theorem dX5_act_32 : decode cX5_act 32 = .ok (.iastore, 1) := by decide +kernel
theorem dX5_act_33 : decode cX5_act 33 = .ok (.iinc 1 1, 3) := by decide +kernel
theorem dX5_act_36 : decode cX5_act 36 = .ok (.goto (-26), 3) := by decide +kernel
theorem dX5_act_39 : decode cX5_act 39 = .ok (.aload_n 0, 1) := by decide +kernel
theorem dX5_act_40 : decode cX5_act 40 = .ok (.dup, 1) := by decide +kernel
theorem dX5_act_41 : decode cX5_act 41 = .ok (.getfield 40, 3) := by decide +kernel
theorem dX5_act_44 : decode cX5_act 44 = .ok (.iconst 1, 1) := by decide +kernel
theorem dX5_act_45 : decode cX5_act 45 = .ok (.isub, 1) := by decide +kernel
theorem dX5_act_46 : decode cX5_act 46 = .ok (.putfield 40, 3) := by decide +kernel
theorem dX5_act_49 : decode cX5_act 49 = .ok (.iconst 0, 1) := by decide +kernel
theorem dX5_act_50 : decode cX5_act 50 = .ok (.istore_n 1, 1) := by decide +kernel
theorem dX5_act_51 : decode cX5_act 51 = .ok (.iload_n 1, 1) := by decide +kernel
theorem dX5_act_52 : decode cX5_act 52 = .ok (.sipush 635, 3) := by decide +kernel
theorem dX5_act_55 : decode cX5_act 55 = .ok (.if_icmp .ge 30, 3) := by decide +kernel
theorem dX5_act_58 : decode cX5_act 58 = .ok (.aload_n 0, 1) := by decide +kernel
theorem dX5_act_59 : decode cX5_act 59 = .ok (.getfield 16, 3) := by decide +kernel
theorem dX5_act_62 : decode cX5_act 62 = .ok (.sipush 635, 3) := by decide +kernel
theorem dX5_act_65 : decode cX5_act 65 = .ok (.aload_n 0, 1) := by decide +kernel
theorem dX5_act_66 : decode cX5_act 66 = .ok (.getfield 40, 3) := by decide +kernel
theorem dX5_act_69 : decode cX5_act 69 = .ok (.imul, 1) := by decide +kernel
theorem dX5_act_70 : decode cX5_act 70 = .ok (.iload_n 1, 1) := by decide +kernel
theorem dX5_act_71 : decode cX5_act 71 = .ok (.iadd, 1) := by decide +kernel
theorem dX5_act_72 : decode cX5_act 72 = .ok (.aload_n 0, 1) := by decide +kernel
theorem dX5_act_73 : decode cX5_act 73 = .ok (.getfield 7, 3) := by decide +kernel
theorem dX5_act_76 : decode cX5_act 76 = .ok (.iload_n 1, 1) := by decide +kernel
theorem dX5_act_77 : decode cX5_act 77 = .ok (.iaload, 1) := by decide +kernel
theorem dX5_act_78 : decode cX5_act 78 = .ok (.iastore, 1) := by decide +kernel
theorem dX5_act_79 : decode cX5_act 79 = .ok (.iinc 1 1, 3) := by decide +kernel
theorem dX5_act_82 : decode cX5_act 82 = .ok (.goto (-31), 3) := by decide +kernel
theorem dX5_act_85 : decode cX5_act 85 = .ok (.aload_n 0, 1) := by decide +kernel
theorem dX5_act_86 : decode cX5_act 86 = .ok (.dup, 1) := by decide +kernel
theorem dX5_act_87 : decode cX5_act 87 = .ok (.getfield 40, 3) := by decide +kernel
theorem dX5_act_90 : decode cX5_act 90 = .ok (.iconst 1, 1) := by decide +kernel
theorem dX5_act_91 : decode cX5_act 91 = .ok (.iadd, 1) := by decide +kernel
theorem dX5_act_92 : decode cX5_act 92 = .ok (.putfield 40, 3) := by decide +kernel
theorem dX5_act_95 : decode cX5_act 95 = .ok (.return_, 1) := by decide +kernel
set_option maxRecDepth 20000 in
theorem ggX5_way_X5_size : GoodIn wsX5_way wsX5_size := goodIn_r _ [4] (by decide +kernel) (by decide +kernel)
set_option maxRecDepth 20000 in
theorem gX5_way_X5_size : GoodIn wsX5_way (va_wsS RX5 43 yX5_size wsX5_size) := goodIn_app (goodIn_of _ (by decide +kernel)) ggX5_way_X5_size
theorem dX5_way_0 : decode cX5_way 0 = .ok (.iload_n 0, 1) := by decide +kernel
theorem dX5_way_1 : decode cX5_way 1 = .ok (.bipush 8, 2) := by decide +kernel
theorem dX5_way_3 : decode cX5_way 3 = .ok (.idiv, 1) := by decide +kernel
theorem dX5_way_4 : decode cX5_way 4 = .ok (.iload_n 1, 1) := by decide +kernel
theorem dX5_way_5 : decode cX5_way 5 = .ok (.bipush 8, 2) := by decide +kernel
theorem dX5_way_7 : decode cX5_way 7 = .ok (.idiv, 1) := by decide +kernel
theorem dX5_way_8 : decode cX5_way 8 = .ok (.isub, 1) := by decide +kernel
theorem dX5_way_9 : decode cX5_way 9 = .ok (.invokestatic 43, 3) := by decide +kernel
theorem dX5_way_12 : decode cX5_way 12 = .ok (.iload_n 0, 1) := by decide +kernel
theorem dX5_way_13 : decode cX5_way 13 = .ok (.bipush 8, 2) := by decide +kernel
theorem dX5_way_15 : decode cX5_way 15 = .ok (.irem, 1) := by decide +kernel
theorem dX5_way_16 : decode cX5_way 16 = .ok (.iload_n 1, 1) := by decide +kernel
theorem dX5_way_17 : decode cX5_way 17 = .ok (.bipush 8, 2) := by decide +kernel
theorem dX5_way_19 : decode cX5_way 19 = .ok (.irem, 1) := by decide +kernel
theorem dX5_way_20 : decode cX5_way 20 = .ok (.isub, 1) := by decide +kernel
theorem dX5_way_21 : decode cX5_way 21 = .ok (.invokestatic 43, 3) := by decide +kernel
theorem dX5_way_24 : decode cX5_way 24 = .ok (.iadd, 1) := by decide +kernel
theorem dX5_way_25 : decode cX5_way 25 = .ok (.ireturn, 1) := by decide +kernel
theorem dX5_halved_0 : decode cX5_halved 0 = .ok (.bipush 100, 2) := by decide +kernel
theorem dX5_halved_2 : decode cX5_halved 2 = .ok (.istore_n 1, 1) := by decide +kernel
theorem dX5_halved_3 : decode cX5_halved 3 = .ok (.iconst 0, 1) := by decide +kernel
theorem dX5_halved_4 : decode cX5_halved 4 = .ok (.istore_n 2, 1) := by decide +kernel
theorem dX5_halved_5 : decode cX5_halved 5 = .ok (.iload_n 2, 1) := by decide +kernel
theorem dX5_halved_6 : decode cX5_halved 6 = .ok (.iload_n 0, 1) := by decide +kernel
theorem dX5_halved_7 : decode cX5_halved 7 = .ok (.if_icmp .ge 17, 3) := by decide +kernel
theorem dX5_halved_10 : decode cX5_halved 10 = .ok (.iload_n 1, 1) := by decide +kernel
theorem dX5_halved_11 : decode cX5_halved 11 = .ok (.ifCond .le 13, 3) := by decide +kernel
theorem dX5_halved_14 : decode cX5_halved 14 = .ok (.iload_n 1, 1) := by decide +kernel
theorem dX5_halved_15 : decode cX5_halved 15 = .ok (.iconst 2, 1) := by decide +kernel
theorem dX5_halved_16 : decode cX5_halved 16 = .ok (.idiv, 1) := by decide +kernel
theorem dX5_halved_17 : decode cX5_halved 17 = .ok (.istore_n 1, 1) := by decide +kernel
theorem dX5_halved_18 : decode cX5_halved 18 = .ok (.iinc 2 1, 3) := by decide +kernel
theorem dX5_halved_21 : decode cX5_halved 21 = .ok (.goto (-16), 3) := by decide +kernel
theorem dX5_halved_24 : decode cX5_halved 24 = .ok (.iload_n 1, 1) := by decide +kernel
theorem dX5_halved_25 : decode cX5_halved 25 = .ok (.ireturn, 1) := by decide +kernel
set_option maxRecDepth 20000 in
theorem ggX5_fading_X5_halved : GoodIn wsX5_fading wsX5_halved := goodIn_r _ [4] (by decide +kernel) (by decide +kernel)
set_option maxRecDepth 20000 in
theorem gX5_fading_X5_halved : GoodIn wsX5_fading (va_wsS RX5 47 yX5_halved wsX5_halved) := goodIn_app (goodIn_of _ (by decide +kernel)) ggX5_fading_X5_halved
theorem dX5_fading_0 : decode cX5_fading 0 = .ok (.iload_n 0, 1) := by decide +kernel
theorem dX5_fading_1 : decode cX5_fading 1 = .ok (.tableswitch 58 0 2 #[27, 38, 48], 27) := by decide +kernel
theorem dX5_fading_28 : decode cX5_fading 28 = .ok (.bipush 100, 2) := by decide +kernel
theorem dX5_fading_30 : decode cX5_fading 30 = .ok (.bipush 20, 2) := by decide +kernel
theorem dX5_fading_32 : decode cX5_fading 32 = .ok (.iload_n 1, 1) := by decide +kernel
theorem dX5_fading_33 : decode cX5_fading 33 = .ok (.imul, 1) := by decide +kernel
theorem dX5_fading_34 : decode cX5_fading 34 = .ok (.isub, 1) := by decide +kernel
theorem dX5_fading_35 : decode cX5_fading 35 = .ok (.istore_n 2, 1) := by decide +kernel
theorem dX5_fading_36 : decode cX5_fading 36 = .ok (.goto 36, 3) := by decide +kernel
theorem dX5_fading_39 : decode cX5_fading 39 = .ok (.bipush 100, 2) := by decide +kernel
theorem dX5_fading_41 : decode cX5_fading 41 = .ok (.iconst 4, 1) := by decide +kernel
theorem dX5_fading_42 : decode cX5_fading 42 = .ok (.iload_n 1, 1) := by decide +kernel
theorem dX5_fading_43 : decode cX5_fading 43 = .ok (.imul, 1) := by decide +kernel
theorem dX5_fading_44 : decode cX5_fading 44 = .ok (.isub, 1) := by decide +kernel
theorem dX5_fading_45 : decode cX5_fading 45 = .ok (.istore_n 2, 1) := by decide +kernel
theorem dX5_fading_46 : decode cX5_fading 46 = .ok (.goto 26, 3) := by decide +kernel
theorem dX5_fading_49 : decode cX5_fading 49 = .ok (.iload_n 1, 1) := by decide +kernel
theorem dX5_fading_50 : decode cX5_fading 50 = .ok (.iconst 5, 1) := by decide +kernel
theorem dX5_fading_51 : decode cX5_fading 51 = .ok (.idiv, 1) := by decide +kernel
theorem dX5_fading_52 : decode cX5_fading 52 = .ok (.invokestatic 47, 3) := by decide +kernel
theorem dX5_fading_55 : decode cX5_fading 55 = .ok (.istore_n 2, 1) := by decide +kernel
theorem dX5_fading_56 : decode cX5_fading 56 = .ok (.goto 16, 3) := by decide +kernel
theorem dX5_fading_59 : decode cX5_fading 59 = .ok (.iload_n 1, 1) := by decide +kernel
theorem dX5_fading_60 : decode cX5_fading 60 = .ok (.bipush 8, 2) := by decide +kernel
theorem dX5_fading_62 : decode cX5_fading 62 = .ok (.if_icmp .ge 8, 3) := by decide +kernel
theorem dX5_fading_65 : decode cX5_fading 65 = .ok (.bipush 100, 2) := by decide +kernel
theorem dX5_fading_67 : decode cX5_fading 67 = .ok (.goto 4, 3) := by decide +kernel
theorem dX5_fading_70 : decode cX5_fading 70 = .ok (.iconst 0, 1) := by decide +kernel
theorem dX5_fading_71 : decode cX5_fading 71 = .ok (.istore_n 2, 1) := by decide +kernel
theorem dX5_fading_72 : decode cX5_fading 72 = .ok (.iload_n 2, 1) := by decide +kernel
theorem dX5_fading_73 : decode cX5_fading 73 = .ok (.ifCond .ge 7, 3) := by decide +kernel
theorem dX5_fading_76 : decode cX5_fading 76 = .ok (.iconst 0, 1) := by decide +kernel
theorem dX5_fading_77 : decode cX5_fading 77 = .ok (.goto 4, 3) := by decide +kernel
theorem dX5_fading_80 : decode cX5_fading 80 = .ok (.iload_n 2, 1) := by decide +kernel
theorem dX5_fading_81 : decode cX5_fading 81 = .ok (.ireturn, 1) := by decide +kernel
theorem dX5_spotAt_0 : decode cX5_spotAt 0 = .ok (.aload_n 0, 1) := by decide +kernel
theorem dX5_spotAt_1 : decode cX5_spotAt 1 = .ok (.getfield 7, 3) := by decide +kernel
theorem dX5_spotAt_4 : decode cX5_spotAt 4 = .ok (.bipush 7, 2) := by decide +kernel
theorem dX5_spotAt_6 : decode cX5_spotAt 6 = .ok (.iload_n 1, 1) := by decide +kernel
theorem dX5_spotAt_7 : decode cX5_spotAt 7 = .ok (.iadd, 1) := by decide +kernel
theorem dX5_spotAt_8 : decode cX5_spotAt 8 = .ok (.iaload, 1) := by decide +kernel
theorem dX5_spotAt_9 : decode cX5_spotAt 9 = .ok (.ireturn, 1) := by decide +kernel
set_option maxRecDepth 20000 in
theorem ggX5_lastTick_X5_spotAt : GoodIn wsX5_lastTick wsX5_spotAt := goodIn_r _ [6, 1, 13, 14, 15, 16, 17, 18, 19, 20, 21, 22, 23, 24, 25, 26] (by decide +kernel) (by decide +kernel)
set_option maxRecDepth 20000 in
theorem gX5_lastTick_X5_spotAt : GoodIn wsX5_lastTick (wsV RX5 50 RX5 yX5_spotAt wsX5_spotAt) := goodIn_app (goodIn_of _ (by decide +kernel)) ggX5_lastTick_X5_spotAt
set_option maxRecDepth 20000 in
theorem ggX5_lastTick_X5_way : GoodIn wsX5_lastTick wsX5_way := goodIn_r _ [9, 10, 11, 5, 12] (by decide +kernel) (by decide +kernel)
set_option maxRecDepth 20000 in
theorem gX5_lastTick_X5_way : GoodIn wsX5_lastTick (va_wsS RX5 53 yX5_way wsX5_way) := goodIn_app (goodIn_of _ (by decide +kernel)) ggX5_lastTick_X5_way
theorem dX5_lastTick_0 : decode cX5_lastTick 0 = .ok (.iconst 0, 1) := by decide +kernel
theorem dX5_lastTick_1 : decode cX5_lastTick 1 = .ok (.istore_n 1, 1) := by decide +kernel
theorem dX5_lastTick_2 : decode cX5_lastTick 2 = .ok (.iconst 0, 1) := by decide +kernel
theorem dX5_lastTick_3 : decode cX5_lastTick 3 = .ok (.istore_n 2, 1) := by decide +kernel
theorem dX5_lastTick_4 : decode cX5_lastTick 4 = .ok (.iconst 0, 1) := by decide +kernel
theorem dX5_lastTick_5 : decode cX5_lastTick 5 = .ok (.istore_n 3, 1) := by decide +kernel
theorem dX5_lastTick_6 : decode cX5_lastTick 6 = .ok (.iload_n 3, 1) := by decide +kernel
theorem dX5_lastTick_7 : decode cX5_lastTick 7 = .ok (.aload_n 0, 1) := by decide +kernel
theorem dX5_lastTick_8 : decode cX5_lastTick 8 = .ok (.getfield 7, 3) := by decide +kernel
theorem dX5_lastTick_11 : decode cX5_lastTick 11 = .ok (.bipush 6, 2) := by decide +kernel
theorem dX5_lastTick_13 : decode cX5_lastTick 13 = .ok (.iaload, 1) := by decide +kernel
theorem dX5_lastTick_14 : decode cX5_lastTick 14 = .ok (.if_icmp .ge 36, 3) := by decide +kernel
theorem dX5_lastTick_17 : decode cX5_lastTick 17 = .ok (.iload_n 1, 1) := by decide +kernel
theorem dX5_lastTick_18 : decode cX5_lastTick 18 = .ok (.iload_n 2, 1) := by decide +kernel
theorem dX5_lastTick_19 : decode cX5_lastTick 19 = .ok (.aload_n 0, 1) := by decide +kernel
theorem dX5_lastTick_20 : decode cX5_lastTick 20 = .ok (.iload_n 3, 1) := by decide +kernel
theorem dX5_lastTick_21 : decode cX5_lastTick 21 = .ok (.invokevirtual 50, 3) := by decide +kernel
theorem dX5_lastTick_24 : decode cX5_lastTick 24 = .ok (.invokestatic 53, 3) := by decide +kernel
theorem dX5_lastTick_27 : decode cX5_lastTick 27 = .ok (.aload_n 0, 1) := by decide +kernel
theorem dX5_lastTick_28 : decode cX5_lastTick 28 = .ok (.getfield 7, 3) := by decide +kernel
theorem dX5_lastTick_31 : decode cX5_lastTick 31 = .ok (.iconst 1, 1) := by decide +kernel
theorem dX5_lastTick_32 : decode cX5_lastTick 32 = .ok (.iaload, 1) := by decide +kernel
theorem dX5_lastTick_33 : decode cX5_lastTick 33 = .ok (.imul, 1) := by decide +kernel
theorem dX5_lastTick_34 : decode cX5_lastTick 34 = .ok (.iconst 1, 1) := by decide +kernel
theorem dX5_lastTick_35 : decode cX5_lastTick 35 = .ok (.iadd, 1) := by decide +kernel
theorem dX5_lastTick_36 : decode cX5_lastTick 36 = .ok (.iadd, 1) := by decide +kernel
theorem dX5_lastTick_37 : decode cX5_lastTick 37 = .ok (.istore_n 1, 1) := by decide +kernel
theorem dX5_lastTick_38 : decode cX5_lastTick 38 = .ok (.aload_n 0, 1) := by decide +kernel
theorem dX5_lastTick_39 : decode cX5_lastTick 39 = .ok (.iload_n 3, 1) := by decide +kernel
theorem dX5_lastTick_40 : decode cX5_lastTick 40 = .ok (.invokevirtual 50, 3) := by decide +kernel
theorem dX5_lastTick_43 : decode cX5_lastTick 43 = .ok (.istore_n 2, 1) := by decide +kernel
theorem dX5_lastTick_44 : decode cX5_lastTick 44 = .ok (.iinc 3 1, 3) := by decide +kernel
theorem dX5_lastTick_47 : decode cX5_lastTick 47 = .ok (.goto (-41), 3) := by decide +kernel
theorem dX5_lastTick_50 : decode cX5_lastTick 50 = .ok (.iload_n 1, 1) := by decide +kernel
theorem dX5_lastTick_51 : decode cX5_lastTick 51 = .ok (.ireturn, 1) := by decide +kernel
set_option maxRecDepth 20000 in
theorem ggX5_beam_X5_spotAt : GoodIn wsX5_beam wsX5_spotAt := goodIn_r _ [7, 2, 14, 15, 16, 17, 18, 19, 20, 21, 22, 23, 24, 25, 26, 27] (by decide +kernel) (by decide +kernel)
set_option maxRecDepth 20000 in
theorem gX5_beam_X5_spotAt : GoodIn wsX5_beam (wsV RX5 50 RX5 yX5_spotAt wsX5_spotAt) := goodIn_app (goodIn_of _ (by decide +kernel)) ggX5_beam_X5_spotAt
set_option maxRecDepth 20000 in
theorem ggX5_beam_X5_way : GoodIn wsX5_beam wsX5_way := goodIn_r _ [10, 11, 12, 6, 13] (by decide +kernel) (by decide +kernel)
set_option maxRecDepth 20000 in
theorem gX5_beam_X5_way : GoodIn wsX5_beam (va_wsS RX5 53 yX5_way wsX5_way) := goodIn_app (goodIn_of _ (by decide +kernel)) ggX5_beam_X5_way
theorem dX5_beam_0 : decode cX5_beam 0 = .ok (.iconst 0, 1) := by decide +kernel
theorem dX5_beam_1 : decode cX5_beam 1 = .ok (.istore_n 1, 1) := by decide +kernel
theorem dX5_beam_2 : decode cX5_beam 2 = .ok (.iload_n 1, 1) := by decide +kernel
theorem dX5_beam_3 : decode cX5_beam 3 = .ok (.bipush 64, 2) := by decide +kernel
theorem dX5_beam_5 : decode cX5_beam 5 = .ok (.if_icmp .ge 17, 3) := by decide +kernel
theorem dX5_beam_8 : decode cX5_beam 8 = .ok (.aload_n 0, 1) := by decide +kernel
theorem dX5_beam_9 : decode cX5_beam 9 = .ok (.getfield 25, 3) := by decide +kernel
theorem dX5_beam_12 : decode cX5_beam 12 = .ok (.iload_n 1, 1) := by decide +kernel
theorem dX5_beam_13 : decode cX5_beam 13 = .ok (.bipush (-9), 2) := by decide +kernel
theorem dX5_beam_15 : decode cX5_beam 15 = .ok (.iastore, 1) := by decide +kernel
theorem dX5_beam_16 : decode cX5_beam 16 = .ok (.iinc 1 1, 3) := by decide +kernel
theorem dX5_beam_19 : decode cX5_beam 19 = .ok (.goto (-17), 3) := by decide +kernel
theorem dX5_beam_22 : decode cX5_beam 22 = .ok (.iconst 0, 1) := by decide +kernel
theorem dX5_beam_23 : decode cX5_beam 23 = .ok (.istore_n 1, 1) := by decide +kernel
theorem dX5_beam_24 : decode cX5_beam 24 = .ok (.iconst 0, 1) := by decide +kernel
theorem dX5_beam_25 : decode cX5_beam 25 = .ok (.istore_n 2, 1) := by decide +kernel
theorem dX5_beam_26 : decode cX5_beam 26 = .ok (.iconst 0, 1) := by decide +kernel
theorem dX5_beam_27 : decode cX5_beam 27 = .ok (.istore_n 3, 1) := by decide +kernel
theorem dX5_beam_28 : decode cX5_beam 28 = .ok (.iload_n 3, 1) := by decide +kernel
theorem dX5_beam_29 : decode cX5_beam 29 = .ok (.aload_n 0, 1) := by decide +kernel
theorem dX5_beam_30 : decode cX5_beam 30 = .ok (.getfield 7, 3) := by decide +kernel
theorem dX5_beam_33 : decode cX5_beam 33 = .ok (.bipush 6, 2) := by decide +kernel
theorem dX5_beam_35 : decode cX5_beam 35 = .ok (.iaload, 1) := by decide +kernel
theorem dX5_beam_36 : decode cX5_beam 36 = .ok (.if_icmp .ge 58, 3) := by decide +kernel
theorem dX5_beam_39 : decode cX5_beam 39 = .ok (.iload_n 1, 1) := by decide +kernel
theorem dX5_beam_40 : decode cX5_beam 40 = .ok (.iload_n 2, 1) := by decide +kernel
theorem dX5_beam_41 : decode cX5_beam 41 = .ok (.aload_n 0, 1) := by decide +kernel
theorem dX5_beam_42 : decode cX5_beam 42 = .ok (.iload_n 3, 1) := by decide +kernel
theorem dX5_beam_43 : decode cX5_beam 43 = .ok (.invokevirtual 50, 3) := by decide +kernel
theorem dX5_beam_46 : decode cX5_beam 46 = .ok (.invokestatic 53, 3) := by decide +kernel
theorem dX5_beam_49 : decode cX5_beam 49 = .ok (.aload_n 0, 1) := by decide +kernel
theorem dX5_beam_50 : decode cX5_beam 50 = .ok (.getfield 7, 3) := by decide +kernel
theorem dX5_beam_53 : decode cX5_beam 53 = .ok (.iconst 1, 1) := by decide +kernel
theorem dX5_beam_54 : decode cX5_beam 54 = .ok (.iaload, 1) := by decide +kernel
theorem dX5_beam_55 : decode cX5_beam 55 = .ok (.imul, 1) := by decide +kernel
theorem dX5_beam_56 : decode cX5_beam 56 = .ok (.iconst 1, 1) := by decide +kernel
theorem dX5_beam_57 : decode cX5_beam 57 = .ok (.iadd, 1) := by decide +kernel
theorem dX5_beam_58 : decode cX5_beam 58 = .ok (.iadd, 1) := by decide +kernel
theorem dX5_beam_59 : decode cX5_beam 59 = .ok (.istore_n 1, 1) := by decide +kernel
theorem dX5_beam_60 : decode cX5_beam 60 = .ok (.aload_n 0, 1) := by decide +kernel
theorem dX5_beam_61 : decode cX5_beam 61 = .ok (.iload_n 3, 1) := by decide +kernel
theorem dX5_beam_62 : decode cX5_beam 62 = .ok (.invokevirtual 50, 3) := by decide +kernel
theorem dX5_beam_65 : decode cX5_beam 65 = .ok (.istore_n 2, 1) := by decide +kernel
theorem dX5_beam_66 : decode cX5_beam 66 = .ok (.aload_n 0, 1) := by decide +kernel
theorem dX5_beam_67 : decode cX5_beam 67 = .ok (.getfield 25, 3) := by decide +kernel
theorem dX5_beam_70 : decode cX5_beam 70 = .ok (.iload_n 2, 1) := by decide +kernel
theorem dX5_beam_71 : decode cX5_beam 71 = .ok (.iload_n 1, 1) := by decide +kernel
theorem dX5_beam_72 : decode cX5_beam 72 = .ok (.aload_n 0, 1) := by decide +kernel
theorem dX5_beam_73 : decode cX5_beam 73 = .ok (.getfield 7, 3) := by decide +kernel
theorem dX5_beam_76 : decode cX5_beam 76 = .ok (.iconst 0, 1) := by decide +kernel
theorem dX5_beam_77 : decode cX5_beam 77 = .ok (.iaload, 1) := by decide +kernel
theorem dX5_beam_78 : decode cX5_beam 78 = .ok (.if_icmp .ge 7, 3) := by decide +kernel
theorem dX5_beam_81 : decode cX5_beam 81 = .ok (.iload_n 1, 1) := by decide +kernel
theorem dX5_beam_82 : decode cX5_beam 82 = .ok (.goto 5, 3) := by decide +kernel
theorem dX5_beam_85 : decode cX5_beam 85 = .ok (.bipush (-9), 2) := by decide +kernel
theorem dX5_beam_87 : decode cX5_beam 87 = .ok (.iastore, 1) := by decide +kernel
theorem dX5_beam_88 : decode cX5_beam 88 = .ok (.iinc 3 1, 3) := by decide +kernel
theorem dX5_beam_91 : decode cX5_beam 91 = .ok (.goto (-63), 3) := by decide +kernel
theorem dX5_beam_94 : decode cX5_beam 94 = .ok (.return_, 1) := by decide +kernel
set_option maxRecDepth 20000 in
theorem ggX5_brightnessAt_X5_fading : GoodIn wsX5_brightnessAt wsX5_fading := goodIn_r _ [6, 7, 8, 5, 9] (by decide +kernel) (by decide +kernel)
set_option maxRecDepth 20000 in
theorem gX5_brightnessAt_X5_fading : GoodIn wsX5_brightnessAt (va_wsS RX5 57 yX5_fading wsX5_fading) := goodIn_app (goodIn_of _ (by decide +kernel)) ggX5_brightnessAt_X5_fading
theorem dX5_brightnessAt_0 : decode cX5_brightnessAt 0 = .ok (.aload_n 0, 1) := by decide +kernel
theorem dX5_brightnessAt_1 : decode cX5_brightnessAt 1 = .ok (.getfield 25, 3) := by decide +kernel
theorem dX5_brightnessAt_4 : decode cX5_brightnessAt 4 = .ok (.iload_n 1, 1) := by decide +kernel
theorem dX5_brightnessAt_5 : decode cX5_brightnessAt 5 = .ok (.iaload, 1) := by decide +kernel
theorem dX5_brightnessAt_6 : decode cX5_brightnessAt 6 = .ok (.bipush (-9), 2) := by decide +kernel
theorem dX5_brightnessAt_8 : decode cX5_brightnessAt 8 = .ok (.if_icmp .ne 5, 3) := by decide +kernel
theorem dX5_brightnessAt_11 : decode cX5_brightnessAt 11 = .ok (.iconst 0, 1) := by decide +kernel
theorem dX5_brightnessAt_12 : decode cX5_brightnessAt 12 = .ok (.ireturn, 1) := by decide +kernel
theorem dX5_brightnessAt_13 : decode cX5_brightnessAt 13 = .ok (.iload_n 2, 1) := by decide +kernel
theorem dX5_brightnessAt_14 : decode cX5_brightnessAt 14 = .ok (.aload_n 0, 1) := by decide +kernel
theorem dX5_brightnessAt_15 : decode cX5_brightnessAt 15 = .ok (.getfield 25, 3) := by decide +kernel
theorem dX5_brightnessAt_18 : decode cX5_brightnessAt 18 = .ok (.iload_n 1, 1) := by decide +kernel
theorem dX5_brightnessAt_19 : decode cX5_brightnessAt 19 = .ok (.iaload, 1) := by decide +kernel
theorem dX5_brightnessAt_20 : decode cX5_brightnessAt 20 = .ok (.isub, 1) := by decide +kernel
theorem dX5_brightnessAt_21 : decode cX5_brightnessAt 21 = .ok (.istore_n 3, 1) := by decide +kernel
theorem dX5_brightnessAt_22 : decode cX5_brightnessAt 22 = .ok (.aload_n 0, 1) := by decide +kernel
theorem dX5_brightnessAt_23 : decode cX5_brightnessAt 23 = .ok (.getfield 7, 3) := by decide +kernel
theorem dX5_brightnessAt_26 : decode cX5_brightnessAt 26 = .ok (.bipush 19, 2) := by decide +kernel
theorem dX5_brightnessAt_28 : decode cX5_brightnessAt 28 = .ok (.iload_n 1, 1) := by decide +kernel
theorem dX5_brightnessAt_29 : decode cX5_brightnessAt 29 = .ok (.iadd, 1) := by decide +kernel
theorem dX5_brightnessAt_30 : decode cX5_brightnessAt 30 = .ok (.iaload, 1) := by decide +kernel
theorem dX5_brightnessAt_31 : decode cX5_brightnessAt 31 = .ok (.iload_n 3, 1) := by decide +kernel
theorem dX5_brightnessAt_32 : decode cX5_brightnessAt 32 = .ok (.ifCond .ge 14, 3) := by decide +kernel
theorem dX5_brightnessAt_35 : decode cX5_brightnessAt 35 = .ok (.iload_n 3, 1) := by decide +kernel
theorem dX5_brightnessAt_36 : decode cX5_brightnessAt 36 = .ok (.aload_n 0, 1) := by decide +kernel
theorem dX5_brightnessAt_37 : decode cX5_brightnessAt 37 = .ok (.getfield 7, 3) := by decide +kernel
theorem dX5_brightnessAt_40 : decode cX5_brightnessAt 40 = .ok (.iconst 0, 1) := by decide +kernel
theorem dX5_brightnessAt_41 : decode cX5_brightnessAt 41 = .ok (.iaload, 1) := by decide +kernel
theorem dX5_brightnessAt_42 : decode cX5_brightnessAt 42 = .ok (.iadd, 1) := by decide +kernel
theorem dX5_brightnessAt_43 : decode cX5_brightnessAt 43 = .ok (.goto 4, 3) := by decide +kernel
theorem dX5_brightnessAt_46 : decode cX5_brightnessAt 46 = .ok (.iload_n 3, 1) := by decide +kernel
theorem dX5_brightnessAt_47 : decode cX5_brightnessAt 47 = .ok (.invokestatic 57, 3) := by decide +kernel
theorem dX5_brightnessAt_50 : decode cX5_brightnessAt 50 = .ok (.ireturn, 1) := by decide +kernel
set_option maxRecDepth 20000 in
theorem ggX5_eyeMean_X5_brightnessAt : GoodIn wsX5_eyeMean wsX5_brightnessAt := goodIn_r _ [6, 7, 1, 8, 9, 5, 10, 11, 12, 13, 14, 15, 16, 17, 18, 19, 20, 21, 22, 23, 24, 25, 26, 27] (by decide +kernel) (by decide +kernel)
set_option maxRecDepth 20000 in
theorem gX5_eyeMean_X5_brightnessAt : GoodIn wsX5_eyeMean (wsV RX5 60 RX5 yX5_brightnessAt wsX5_brightnessAt) := goodIn_app (goodIn_of _ (by decide +kernel)) ggX5_eyeMean_X5_brightnessAt
theorem dX5_eyeMean_0 : decode cX5_eyeMean 0 = .ok (.iconst 0, 1) := by decide +kernel
theorem dX5_eyeMean_1 : decode cX5_eyeMean 1 = .ok (.istore_n 2, 1) := by decide +kernel
theorem dX5_eyeMean_2 : decode cX5_eyeMean 2 = .ok (.iconst 0, 1) := by decide +kernel
theorem dX5_eyeMean_3 : decode cX5_eyeMean 3 = .ok (.istore_n 3, 1) := by decide +kernel
theorem dX5_eyeMean_4 : decode cX5_eyeMean 4 = .ok (.iload_n 3, 1) := by decide +kernel
theorem dX5_eyeMean_5 : decode cX5_eyeMean 5 = .ok (.aload_n 0, 1) := by decide +kernel
theorem dX5_eyeMean_6 : decode cX5_eyeMean 6 = .ok (.getfield 7, 3) := by decide +kernel
theorem dX5_eyeMean_9 : decode cX5_eyeMean 9 = .ok (.iconst 0, 1) := by decide +kernel
theorem dX5_eyeMean_10 : decode cX5_eyeMean 10 = .ok (.iaload, 1) := by decide +kernel
theorem dX5_eyeMean_11 : decode cX5_eyeMean 11 = .ok (.if_icmp .ge 18, 3) := by decide +kernel
theorem dX5_eyeMean_14 : decode cX5_eyeMean 14 = .ok (.iload_n 2, 1) := by decide +kernel
theorem dX5_eyeMean_15 : decode cX5_eyeMean 15 = .ok (.aload_n 0, 1) := by decide +kernel
theorem dX5_eyeMean_16 : decode cX5_eyeMean 16 = .ok (.iload_n 1, 1) := by decide +kernel
theorem dX5_eyeMean_17 : decode cX5_eyeMean 17 = .ok (.iload_n 3, 1) := by decide +kernel
theorem dX5_eyeMean_18 : decode cX5_eyeMean 18 = .ok (.invokevirtual 60, 3) := by decide +kernel
theorem dX5_eyeMean_21 : decode cX5_eyeMean 21 = .ok (.iadd, 1) := by decide +kernel
theorem dX5_eyeMean_22 : decode cX5_eyeMean 22 = .ok (.istore_n 2, 1) := by decide +kernel
theorem dX5_eyeMean_23 : decode cX5_eyeMean 23 = .ok (.iinc 3 1, 3) := by decide +kernel
theorem dX5_eyeMean_26 : decode cX5_eyeMean 26 = .ok (.goto (-22), 3) := by decide +kernel
theorem dX5_eyeMean_29 : decode cX5_eyeMean 29 = .ok (.iload_n 2, 1) := by decide +kernel
theorem dX5_eyeMean_30 : decode cX5_eyeMean 30 = .ok (.aload_n 0, 1) := by decide +kernel
theorem dX5_eyeMean_31 : decode cX5_eyeMean 31 = .ok (.getfield 7, 3) := by decide +kernel
theorem dX5_eyeMean_34 : decode cX5_eyeMean 34 = .ok (.iconst 0, 1) := by decide +kernel
theorem dX5_eyeMean_35 : decode cX5_eyeMean 35 = .ok (.iaload, 1) := by decide +kernel
theorem dX5_eyeMean_36 : decode cX5_eyeMean 36 = .ok (.idiv, 1) := by decide +kernel
theorem dX5_eyeMean_37 : decode cX5_eyeMean 37 = .ok (.ireturn, 1) := by decide +kernel
set_option maxRecDepth 20000 in
theorem ggX5_shutterMean_X5_brightnessAt : GoodIn wsX5_shutterMean wsX5_brightnessAt := goodIn_r _ [6, 7, 1, 8, 9, 5, 10, 11, 12, 13, 14, 15, 16, 17, 18, 19, 20, 21, 22, 23, 24, 25, 26, 27] (by decide +kernel) (by decide +kernel)
set_option maxRecDepth 20000 in
theorem gX5_shutterMean_X5_brightnessAt : GoodIn wsX5_shutterMean (wsV RX5 60 RX5 yX5_brightnessAt wsX5_brightnessAt) := goodIn_app (goodIn_of _ (by decide +kernel)) ggX5_shutterMean_X5_brightnessAt
theorem dX5_shutterMean_0 : decode cX5_shutterMean 0 = .ok (.iconst 0, 1) := by decide +kernel
theorem dX5_shutterMean_1 : decode cX5_shutterMean 1 = .ok (.istore 4, 2) := by decide +kernel
theorem dX5_shutterMean_3 : decode cX5_shutterMean 3 = .ok (.iconst 0, 1) := by decide +kernel
theorem dX5_shutterMean_4 : decode cX5_shutterMean 4 = .ok (.istore 5, 2) := by decide +kernel
theorem dX5_shutterMean_6 : decode cX5_shutterMean 6 = .ok (.iload 5, 2) := by decide +kernel
theorem dX5_shutterMean_8 : decode cX5_shutterMean 8 = .ok (.iload_n 3, 1) := by decide +kernel
theorem dX5_shutterMean_9 : decode cX5_shutterMean 9 = .ok (.if_icmp .ge 30, 3) := by decide +kernel
theorem dX5_shutterMean_12 : decode cX5_shutterMean 12 = .ok (.iload 4, 2) := by decide +kernel
theorem dX5_shutterMean_14 : decode cX5_shutterMean 14 = .ok (.aload_n 0, 1) := by decide +kernel
theorem dX5_shutterMean_15 : decode cX5_shutterMean 15 = .ok (.iload_n 1, 1) := by decide +kernel
theorem dX5_shutterMean_16 : decode cX5_shutterMean 16 = .ok (.iload_n 2, 1) := by decide +kernel
theorem dX5_shutterMean_17 : decode cX5_shutterMean 17 = .ok (.iload 5, 2) := by decide +kernel
theorem dX5_shutterMean_19 : decode cX5_shutterMean 19 = .ok (.iadd, 1) := by decide +kernel
theorem dX5_shutterMean_20 : decode cX5_shutterMean 20 = .ok (.aload_n 0, 1) := by decide +kernel
theorem dX5_shutterMean_21 : decode cX5_shutterMean 21 = .ok (.getfield 7, 3) := by decide +kernel
theorem dX5_shutterMean_24 : decode cX5_shutterMean 24 = .ok (.iconst 0, 1) := by decide +kernel
theorem dX5_shutterMean_25 : decode cX5_shutterMean 25 = .ok (.iaload, 1) := by decide +kernel
theorem dX5_shutterMean_26 : decode cX5_shutterMean 26 = .ok (.irem, 1) := by decide +kernel
theorem dX5_shutterMean_27 : decode cX5_shutterMean 27 = .ok (.invokevirtual 60, 3) := by decide +kernel
theorem dX5_shutterMean_30 : decode cX5_shutterMean 30 = .ok (.iadd, 1) := by decide +kernel
theorem dX5_shutterMean_31 : decode cX5_shutterMean 31 = .ok (.istore 4, 2) := by decide +kernel
theorem dX5_shutterMean_33 : decode cX5_shutterMean 33 = .ok (.iinc 5 1, 3) := by decide +kernel
theorem dX5_shutterMean_36 : decode cX5_shutterMean 36 = .ok (.goto (-30), 3) := by decide +kernel
theorem dX5_shutterMean_39 : decode cX5_shutterMean 39 = .ok (.iload 4, 2) := by decide +kernel
theorem dX5_shutterMean_41 : decode cX5_shutterMean 41 = .ok (.iload_n 3, 1) := by decide +kernel
theorem dX5_shutterMean_42 : decode cX5_shutterMean 42 = .ok (.idiv, 1) := by decide +kernel
theorem dX5_shutterMean_43 : decode cX5_shutterMean 43 = .ok (.ireturn, 1) := by decide +kernel
set_option maxRecDepth 20000 in
theorem ggX5_isEyed_X5_eyeMean : GoodIn wsX5_isEyed wsX5_eyeMean := goodIn_r _ [7, 2, 8, 9, 10, 6, 11, 1, 12, 13, 14, 15, 16, 17, 18, 19, 20, 21, 22, 23, 24, 25, 26, 27, 28, 29, 30, 31] (by decide +kernel) (by decide +kernel)
set_option maxRecDepth 20000 in
theorem gX5_isEyed_X5_eyeMean : GoodIn wsX5_isEyed (wsV RX5 63 RX5 yX5_eyeMean wsX5_eyeMean) := goodIn_app (goodIn_of _ (by decide +kernel)) ggX5_isEyed_X5_eyeMean
theorem dX5_isEyed_0 : decode cX5_isEyed 0 = .ok (.aload_n 0, 1) := by decide +kernel
theorem dX5_isEyed_1 : decode cX5_isEyed 1 = .ok (.getfield 25, 3) := by decide +kernel
theorem dX5_isEyed_4 : decode cX5_isEyed 4 = .ok (.iload_n 1, 1) := by decide +kernel
theorem dX5_isEyed_5 : decode cX5_isEyed 5 = .ok (.iaload, 1) := by decide +kernel
theorem dX5_isEyed_6 : decode cX5_isEyed 6 = .ok (.bipush (-9), 2) := by decide +kernel
theorem dX5_isEyed_8 : decode cX5_isEyed 8 = .ok (.if_icmp .eq 21, 3) := by decide +kernel
theorem dX5_isEyed_11 : decode cX5_isEyed 11 = .ok (.aload_n 0, 1) := by decide +kernel
theorem dX5_isEyed_12 : decode cX5_isEyed 12 = .ok (.iload_n 1, 1) := by decide +kernel
theorem dX5_isEyed_13 : decode cX5_isEyed 13 = .ok (.invokevirtual 63, 3) := by decide +kernel
theorem dX5_isEyed_16 : decode cX5_isEyed 16 = .ok (.aload_n 0, 1) := by decide +kernel
theorem dX5_isEyed_17 : decode cX5_isEyed 17 = .ok (.getfield 7, 3) := by decide +kernel
theorem dX5_isEyed_20 : decode cX5_isEyed 20 = .ok (.iconst 2, 1) := by decide +kernel
theorem dX5_isEyed_21 : decode cX5_isEyed 21 = .ok (.iaload, 1) := by decide +kernel
theorem dX5_isEyed_22 : decode cX5_isEyed 22 = .ok (.if_icmp .lt 7, 3) := by decide +kernel
theorem dX5_isEyed_25 : decode cX5_isEyed 25 = .ok (.iconst 1, 1) := by decide +kernel
theorem dX5_isEyed_26 : decode cX5_isEyed 26 = .ok (.goto 4, 3) := by decide +kernel
theorem dX5_isEyed_29 : decode cX5_isEyed 29 = .ok (.iconst 0, 1) := by decide +kernel
theorem dX5_isEyed_30 : decode cX5_isEyed 30 = .ok (.ireturn, 1) := by decide +kernel
set_option maxRecDepth 20000 in
theorem ggX5_isShot_X5_shutterMean : GoodIn wsX5_isShot wsX5_shutterMean := goodIn_r _ [7, 2, 8, 9, 10, 6, 11, 1, 12, 13, 14, 15, 16, 17, 18, 19, 20, 21, 22, 23, 24, 25, 26, 27, 28, 29, 30, 31] (by decide +kernel) (by decide +kernel)
set_option maxRecDepth 20000 in
theorem gX5_isShot_X5_shutterMean : GoodIn wsX5_isShot (wsV RX5 66 RX5 yX5_shutterMean wsX5_shutterMean) := goodIn_app (goodIn_of _ (by decide +kernel)) ggX5_isShot_X5_shutterMean
theorem dX5_isShot_0 : decode cX5_isShot 0 = .ok (.aload_n 0, 1) := by decide +kernel
theorem dX5_isShot_1 : decode cX5_isShot 1 = .ok (.getfield 25, 3) := by decide +kernel
theorem dX5_isShot_4 : decode cX5_isShot 4 = .ok (.iload_n 1, 1) := by decide +kernel
theorem dX5_isShot_5 : decode cX5_isShot 5 = .ok (.iaload, 1) := by decide +kernel
theorem dX5_isShot_6 : decode cX5_isShot 6 = .ok (.bipush (-9), 2) := by decide +kernel
theorem dX5_isShot_8 : decode cX5_isShot 8 = .ok (.if_icmp .eq 23, 3) := by decide +kernel
theorem dX5_isShot_11 : decode cX5_isShot 11 = .ok (.aload_n 0, 1) := by decide +kernel
theorem dX5_isShot_12 : decode cX5_isShot 12 = .ok (.iload_n 1, 1) := by decide +kernel
theorem dX5_isShot_13 : decode cX5_isShot 13 = .ok (.iload_n 2, 1) := by decide +kernel
theorem dX5_isShot_14 : decode cX5_isShot 14 = .ok (.iload_n 3, 1) := by decide +kernel
theorem dX5_isShot_15 : decode cX5_isShot 15 = .ok (.invokevirtual 66, 3) := by decide +kernel
theorem dX5_isShot_18 : decode cX5_isShot 18 = .ok (.aload_n 0, 1) := by decide +kernel
theorem dX5_isShot_19 : decode cX5_isShot 19 = .ok (.getfield 7, 3) := by decide +kernel
theorem dX5_isShot_22 : decode cX5_isShot 22 = .ok (.iconst 5, 1) := by decide +kernel
theorem dX5_isShot_23 : decode cX5_isShot 23 = .ok (.iaload, 1) := by decide +kernel
theorem dX5_isShot_24 : decode cX5_isShot 24 = .ok (.if_icmp .lt 7, 3) := by decide +kernel
theorem dX5_isShot_27 : decode cX5_isShot 27 = .ok (.iconst 1, 1) := by decide +kernel
theorem dX5_isShot_28 : decode cX5_isShot 28 = .ok (.goto 4, 3) := by decide +kernel
theorem dX5_isShot_31 : decode cX5_isShot 31 = .ok (.iconst 0, 1) := by decide +kernel
theorem dX5_isShot_32 : decode cX5_isShot 32 = .ok (.ireturn, 1) := by decide +kernel
set_option maxRecDepth 20000 in
theorem ggX5_isShotNow_X5_isShot : GoodIn wsX5_isShotNow wsX5_isShot := goodIn_r _ [6, 7, 1, 8, 9, 10, 5, 11, 12, 13, 14, 15, 16, 17, 18, 19, 20, 21, 22, 23, 24, 25, 26, 27, 28, 29, 30, 31, 32, 33, 34, 35] (by decide +kernel) (by decide +kernel)
set_option maxRecDepth 20000 in
theorem gX5_isShotNow_X5_isShot : GoodIn wsX5_isShotNow (wsV RX5 70 RX5 yX5_isShot wsX5_isShot) := goodIn_app (goodIn_of _ (by decide +kernel)) ggX5_isShotNow_X5_isShot
theorem dX5_isShotNow_0 : decode cX5_isShotNow 0 = .ok (.aload_n 0, 1) := by decide +kernel
theorem dX5_isShotNow_1 : decode cX5_isShotNow 1 = .ok (.iload_n 1, 1) := by decide +kernel
theorem dX5_isShotNow_2 : decode cX5_isShotNow 2 = .ok (.aload_n 0, 1) := by decide +kernel
theorem dX5_isShotNow_3 : decode cX5_isShotNow 3 = .ok (.getfield 7, 3) := by decide +kernel
theorem dX5_isShotNow_6 : decode cX5_isShotNow 6 = .ok (.iconst 3, 1) := by decide +kernel
theorem dX5_isShotNow_7 : decode cX5_isShotNow 7 = .ok (.iaload, 1) := by decide +kernel
theorem dX5_isShotNow_8 : decode cX5_isShotNow 8 = .ok (.aload_n 0, 1) := by decide +kernel
theorem dX5_isShotNow_9 : decode cX5_isShotNow 9 = .ok (.getfield 7, 3) := by decide +kernel
theorem dX5_isShotNow_12 : decode cX5_isShotNow 12 = .ok (.iconst 4, 1) := by decide +kernel
theorem dX5_isShotNow_13 : decode cX5_isShotNow 13 = .ok (.iaload, 1) := by decide +kernel
theorem dX5_isShotNow_14 : decode cX5_isShotNow 14 = .ok (.invokevirtual 70, 3) := by decide +kernel
theorem dX5_isShotNow_17 : decode cX5_isShotNow 17 = .ok (.ireturn, 1) := by decide +kernel
set_option maxRecDepth 20000 in
theorem ggX5_wrongFor_X5_isShot : GoodIn wsX5_wrongFor wsX5_isShot := goodIn_r _ [6, 7, 1, 8, 9, 10, 5, 11, 12, 13, 14, 15, 16, 17, 18, 19, 20, 21, 22, 23, 24, 25, 26, 27, 28, 29, 30, 31, 32, 33, 34, 35] (by decide +kernel) (by decide +kernel)
set_option maxRecDepth 20000 in
theorem gX5_wrongFor_X5_isShot : GoodIn wsX5_wrongFor (wsV RX5 70 RX5 yX5_isShot wsX5_isShot) := goodIn_app (goodIn_of _ (by decide +kernel)) ggX5_wrongFor_X5_isShot
theorem dX5_wrongFor_0 : decode cX5_wrongFor 0 = .ok (.iconst 0, 1) := by decide +kernel
theorem dX5_wrongFor_1 : decode cX5_wrongFor 1 = .ok (.istore_n 3, 1) := by decide +kernel
theorem dX5_wrongFor_2 : decode cX5_wrongFor 2 = .ok (.iconst 0, 1) := by decide +kernel
theorem dX5_wrongFor_3 : decode cX5_wrongFor 3 = .ok (.istore 4, 2) := by decide +kernel
theorem dX5_wrongFor_5 : decode cX5_wrongFor 5 = .ok (.iload 4, 2) := by decide +kernel
theorem dX5_wrongFor_7 : decode cX5_wrongFor 7 = .ok (.bipush 64, 2) := by decide +kernel
theorem dX5_wrongFor_9 : decode cX5_wrongFor 9 = .ok (.if_icmp .ge 48, 3) := by decide +kernel
theorem dX5_wrongFor_12 : decode cX5_wrongFor 12 = .ok (.iload_n 3, 1) := by decide +kernel
theorem dX5_wrongFor_13 : decode cX5_wrongFor 13 = .ok (.aload_n 0, 1) := by decide +kernel
theorem dX5_wrongFor_14 : decode cX5_wrongFor 14 = .ok (.iload 4, 2) := by decide +kernel
theorem dX5_wrongFor_16 : decode cX5_wrongFor 16 = .ok (.iload_n 1, 1) := by decide +kernel
theorem dX5_wrongFor_17 : decode cX5_wrongFor 17 = .ok (.iload_n 2, 1) := by decide +kernel
theorem dX5_wrongFor_18 : decode cX5_wrongFor 18 = .ok (.invokevirtual 70, 3) := by decide +kernel
theorem dX5_wrongFor_21 : decode cX5_wrongFor 21 = .ok (.aload_n 0, 1) := by decide +kernel
theorem dX5_wrongFor_22 : decode cX5_wrongFor 22 = .ok (.getfield 7, 3) := by decide +kernel
theorem dX5_wrongFor_25 : decode cX5_wrongFor 25 = .ok (.sipush 147, 3) := by decide +kernel
theorem dX5_wrongFor_28 : decode cX5_wrongFor 28 = .ok (.iload 4, 2) := by decide +kernel
theorem dX5_wrongFor_30 : decode cX5_wrongFor 30 = .ok (.iadd, 1) := by decide +kernel
theorem dX5_wrongFor_31 : decode cX5_wrongFor 31 = .ok (.iaload, 1) := by decide +kernel
theorem dX5_wrongFor_32 : decode cX5_wrongFor 32 = .ok (.iconst 1, 1) := by decide +kernel
theorem dX5_wrongFor_33 : decode cX5_wrongFor 33 = .ok (.if_icmp .ne 7, 3) := by decide +kernel
theorem dX5_wrongFor_36 : decode cX5_wrongFor 36 = .ok (.iconst 1, 1) := by decide +kernel
theorem dX5_wrongFor_37 : decode cX5_wrongFor 37 = .ok (.goto 4, 3) := by decide +kernel
theorem dX5_wrongFor_40 : decode cX5_wrongFor 40 = .ok (.iconst 0, 1) := by decide +kernel
theorem dX5_wrongFor_41 : decode cX5_wrongFor 41 = .ok (.if_icmp .ne 7, 3) := by decide +kernel
theorem dX5_wrongFor_44 : decode cX5_wrongFor 44 = .ok (.iconst 0, 1) := by decide +kernel
theorem dX5_wrongFor_45 : decode cX5_wrongFor 45 = .ok (.goto 4, 3) := by decide +kernel
theorem dX5_wrongFor_48 : decode cX5_wrongFor 48 = .ok (.iconst 1, 1) := by decide +kernel
theorem dX5_wrongFor_49 : decode cX5_wrongFor 49 = .ok (.iadd, 1) := by decide +kernel
theorem dX5_wrongFor_50 : decode cX5_wrongFor 50 = .ok (.istore_n 3, 1) := by decide +kernel
theorem dX5_wrongFor_51 : decode cX5_wrongFor 51 = .ok (.iinc 4 1, 3) := by decide +kernel
theorem dX5_wrongFor_54 : decode cX5_wrongFor 54 = .ok (.goto (-49), 3) := by decide +kernel
theorem dX5_wrongFor_57 : decode cX5_wrongFor 57 = .ok (.iload_n 3, 1) := by decide +kernel
theorem dX5_wrongFor_58 : decode cX5_wrongFor 58 = .ok (.ireturn, 1) := by decide +kernel
set_option maxRecDepth 20000 in
theorem ggX5_isWrong_X5_isEyed : GoodIn wsX5_isWrong wsX5_isEyed := goodIn_r _ [6, 7, 1, 8, 9, 10, 5, 11, 12, 13, 14, 15, 16, 17, 18, 19, 20, 21, 34, 35, 36, 37, 38, 39, 40, 41, 42, 43, 44, 45, 46, 47] (by decide +kernel) (by decide +kernel)
set_option maxRecDepth 20000 in
theorem gX5_isWrong_X5_isEyed : GoodIn wsX5_isWrong (wsV RX5 73 RX5 yX5_isEyed wsX5_isEyed) := goodIn_app (goodIn_of _ (by decide +kernel)) ggX5_isWrong_X5_isEyed
set_option maxRecDepth 20000 in
theorem ggX5_isWrong_X5_isShotNow : GoodIn wsX5_isWrong wsX5_isShotNow := goodIn_r _ [25, 1, 26, 27, 28, 5, 29, 7, 30, 31, 32, 33, 12, 13, 14, 15, 16, 17, 18, 19, 20, 21, 34, 35, 36, 37, 38, 39, 40, 41, 42, 43, 44, 45, 46, 47] (by decide +kernel) (by decide +kernel)
set_option maxRecDepth 20000 in
theorem gX5_isWrong_X5_isShotNow : GoodIn wsX5_isWrong (wsV RX5 77 RX5 yX5_isShotNow wsX5_isShotNow) := goodIn_app (goodIn_of _ (by decide +kernel)) ggX5_isWrong_X5_isShotNow
theorem dX5_isWrong_0 : decode cX5_isWrong 0 = .ok (.iload_n 2, 1) := by decide +kernel
theorem dX5_isWrong_1 : decode cX5_isWrong 1 = .ok (.ifCond .ne 37, 3) := by decide +kernel
theorem dX5_isWrong_4 : decode cX5_isWrong 4 = .ok (.aload_n 0, 1) := by decide +kernel
theorem dX5_isWrong_5 : decode cX5_isWrong 5 = .ok (.iload_n 1, 1) := by decide +kernel
theorem dX5_isWrong_6 : decode cX5_isWrong 6 = .ok (.invokevirtual 73, 3) := by decide +kernel
theorem dX5_isWrong_9 : decode cX5_isWrong 9 = .ok (.aload_n 0, 1) := by decide +kernel
theorem dX5_isWrong_10 : decode cX5_isWrong 10 = .ok (.getfield 7, 3) := by decide +kernel
theorem dX5_isWrong_13 : decode cX5_isWrong 13 = .ok (.bipush 83, 2) := by decide +kernel
theorem dX5_isWrong_15 : decode cX5_isWrong 15 = .ok (.iload_n 1, 1) := by decide +kernel
theorem dX5_isWrong_16 : decode cX5_isWrong 16 = .ok (.iadd, 1) := by decide +kernel
theorem dX5_isWrong_17 : decode cX5_isWrong 17 = .ok (.iaload, 1) := by decide +kernel
theorem dX5_isWrong_18 : decode cX5_isWrong 18 = .ok (.iconst 1, 1) := by decide +kernel
theorem dX5_isWrong_19 : decode cX5_isWrong 19 = .ok (.if_icmp .ne 7, 3) := by decide +kernel
theorem dX5_isWrong_22 : decode cX5_isWrong 22 = .ok (.iconst 1, 1) := by decide +kernel
theorem dX5_isWrong_23 : decode cX5_isWrong 23 = .ok (.goto 4, 3) := by decide +kernel
theorem dX5_isWrong_26 : decode cX5_isWrong 26 = .ok (.iconst 0, 1) := by decide +kernel
theorem dX5_isWrong_27 : decode cX5_isWrong 27 = .ok (.if_icmp .eq 7, 3) := by decide +kernel
theorem dX5_isWrong_30 : decode cX5_isWrong 30 = .ok (.iconst 1, 1) := by decide +kernel
theorem dX5_isWrong_31 : decode cX5_isWrong 31 = .ok (.goto 39, 3) := by decide +kernel
theorem dX5_isWrong_34 : decode cX5_isWrong 34 = .ok (.iconst 0, 1) := by decide +kernel
theorem dX5_isWrong_35 : decode cX5_isWrong 35 = .ok (.goto 35, 3) := by decide +kernel
theorem dX5_isWrong_38 : decode cX5_isWrong 38 = .ok (.aload_n 0, 1) := by decide +kernel
theorem dX5_isWrong_39 : decode cX5_isWrong 39 = .ok (.iload_n 1, 1) := by decide +kernel
theorem dX5_isWrong_40 : decode cX5_isWrong 40 = .ok (.invokevirtual 77, 3) := by decide +kernel
theorem dX5_isWrong_43 : decode cX5_isWrong 43 = .ok (.aload_n 0, 1) := by decide +kernel
theorem dX5_isWrong_44 : decode cX5_isWrong 44 = .ok (.getfield 7, 3) := by decide +kernel
theorem dX5_isWrong_47 : decode cX5_isWrong 47 = .ok (.sipush 147, 3) := by decide +kernel
theorem dX5_isWrong_50 : decode cX5_isWrong 50 = .ok (.iload_n 1, 1) := by decide +kernel
theorem dX5_isWrong_51 : decode cX5_isWrong 51 = .ok (.iadd, 1) := by decide +kernel
theorem dX5_isWrong_52 : decode cX5_isWrong 52 = .ok (.iaload, 1) := by decide +kernel
theorem dX5_isWrong_53 : decode cX5_isWrong 53 = .ok (.iconst 1, 1) := by decide +kernel
theorem dX5_isWrong_54 : decode cX5_isWrong 54 = .ok (.if_icmp .ne 7, 3) := by decide +kernel
theorem dX5_isWrong_57 : decode cX5_isWrong 57 = .ok (.iconst 1, 1) := by decide +kernel
theorem dX5_isWrong_58 : decode cX5_isWrong 58 = .ok (.goto 4, 3) := by decide +kernel
theorem dX5_isWrong_61 : decode cX5_isWrong 61 = .ok (.iconst 0, 1) := by decide +kernel
theorem dX5_isWrong_62 : decode cX5_isWrong 62 = .ok (.if_icmp .eq 7, 3) := by decide +kernel
theorem dX5_isWrong_65 : decode cX5_isWrong 65 = .ok (.iconst 1, 1) := by decide +kernel
theorem dX5_isWrong_66 : decode cX5_isWrong 66 = .ok (.goto 4, 3) := by decide +kernel
theorem dX5_isWrong_69 : decode cX5_isWrong 69 = .ok (.iconst 0, 1) := by decide +kernel
theorem dX5_isWrong_70 : decode cX5_isWrong 70 = .ok (.ireturn, 1) := by decide +kernel
set_option maxRecDepth 20000 in
theorem ggX5_litMany_X5_beam : GoodIn wsX5_litMany wsX5_beam := goodIn_r _ [6, 1, 7, 8, 9, 10, 5, 11, 12, 13, 14, 15, 16, 17, 18, 19, 20, 21, 22, 23, 24, 25, 26, 27, 28, 29, 30, 31] (by decide +kernel) (by decide +kernel)
set_option maxRecDepth 20000 in
theorem gX5_litMany_X5_beam : GoodIn wsX5_litMany (wsV RX5 80 RX5 yX5_beam wsX5_beam) := goodIn_app (goodIn_of _ (by decide +kernel)) ggX5_litMany_X5_beam
theorem dX5_litMany_0 : decode cX5_litMany 0 = .ok (.aload_n 0, 1) := by decide +kernel
theorem dX5_litMany_1 : decode cX5_litMany 1 = .ok (.invokevirtual 80, 3) := by decide +kernel
theorem dX5_litMany_4 : decode cX5_litMany 4 = .ok (.iconst 0, 1) := by decide +kernel
theorem dX5_litMany_5 : decode cX5_litMany 5 = .ok (.istore_n 1, 1) := by decide +kernel
theorem dX5_litMany_6 : decode cX5_litMany 6 = .ok (.iconst 0, 1) := by decide +kernel
theorem dX5_litMany_7 : decode cX5_litMany 7 = .ok (.istore_n 2, 1) := by decide +kernel
theorem dX5_litMany_8 : decode cX5_litMany 8 = .ok (.iload_n 2, 1) := by decide +kernel
theorem dX5_litMany_9 : decode cX5_litMany 9 = .ok (.bipush 64, 2) := by decide +kernel
theorem dX5_litMany_11 : decode cX5_litMany 11 = .ok (.if_icmp .ge 28, 3) := by decide +kernel
theorem dX5_litMany_14 : decode cX5_litMany 14 = .ok (.iload_n 1, 1) := by decide +kernel
theorem dX5_litMany_15 : decode cX5_litMany 15 = .ok (.aload_n 0, 1) := by decide +kernel
theorem dX5_litMany_16 : decode cX5_litMany 16 = .ok (.getfield 25, 3) := by decide +kernel
theorem dX5_litMany_19 : decode cX5_litMany 19 = .ok (.iload_n 2, 1) := by decide +kernel
theorem dX5_litMany_20 : decode cX5_litMany 20 = .ok (.iaload, 1) := by decide +kernel
theorem dX5_litMany_21 : decode cX5_litMany 21 = .ok (.bipush (-9), 2) := by decide +kernel
theorem dX5_litMany_23 : decode cX5_litMany 23 = .ok (.if_icmp .ne 7, 3) := by decide +kernel
theorem dX5_litMany_26 : decode cX5_litMany 26 = .ok (.iconst 0, 1) := by decide +kernel
theorem dX5_litMany_27 : decode cX5_litMany 27 = .ok (.goto 4, 3) := by decide +kernel
theorem dX5_litMany_30 : decode cX5_litMany 30 = .ok (.iconst 1, 1) := by decide +kernel
theorem dX5_litMany_31 : decode cX5_litMany 31 = .ok (.iadd, 1) := by decide +kernel
theorem dX5_litMany_32 : decode cX5_litMany 32 = .ok (.istore_n 1, 1) := by decide +kernel
theorem dX5_litMany_33 : decode cX5_litMany 33 = .ok (.iinc 2 1, 3) := by decide +kernel
theorem dX5_litMany_36 : decode cX5_litMany 36 = .ok (.goto (-28), 3) := by decide +kernel
theorem dX5_litMany_39 : decode cX5_litMany 39 = .ok (.iload_n 1, 1) := by decide +kernel
theorem dX5_litMany_40 : decode cX5_litMany 40 = .ok (.ireturn, 1) := by decide +kernel
theorem dX5_leastOf_0 : decode cX5_leastOf 0 = .ok (.iload_n 0, 1) := by decide +kernel
theorem dX5_leastOf_1 : decode cX5_leastOf 1 = .ok (.ifCond .ne 8, 3) := by decide +kernel
theorem dX5_leastOf_4 : decode cX5_leastOf 4 = .ok (.bipush 8, 2) := by decide +kernel
theorem dX5_leastOf_6 : decode cX5_leastOf 6 = .ok (.goto 13, 3) := by decide +kernel
theorem dX5_leastOf_9 : decode cX5_leastOf 9 = .ok (.iload_n 0, 1) := by decide +kernel
theorem dX5_leastOf_10 : decode cX5_leastOf 10 = .ok (.iconst 3, 1) := by decide +kernel
theorem dX5_leastOf_11 : decode cX5_leastOf 11 = .ok (.if_icmp .ne 7, 3) := by decide +kernel
theorem dX5_leastOf_14 : decode cX5_leastOf 14 = .ok (.iconst 0, 1) := by decide +kernel
theorem dX5_leastOf_15 : decode cX5_leastOf 15 = .ok (.goto 4, 3) := by decide +kernel
theorem dX5_leastOf_18 : decode cX5_leastOf 18 = .ok (.iconst 1, 1) := by decide +kernel
theorem dX5_leastOf_19 : decode cX5_leastOf 19 = .ok (.ireturn, 1) := by decide +kernel
theorem dX5_mostOf_0 : decode cX5_mostOf 0 = .ok (.iload_n 0, 1) := by decide +kernel
theorem dX5_mostOf_1 : decode cX5_mostOf 1 = .ok (.ifCond .ne 9, 3) := by decide +kernel
theorem dX5_mostOf_4 : decode cX5_mostOf 4 = .ok (.sipush 200, 3) := by decide +kernel
theorem dX5_mostOf_7 : decode cX5_mostOf 7 = .ok (.goto 35, 3) := by decide +kernel
theorem dX5_mostOf_10 : decode cX5_mostOf 10 = .ok (.iload_n 0, 1) := by decide +kernel
theorem dX5_mostOf_11 : decode cX5_mostOf 11 = .ok (.iconst 1, 1) := by decide +kernel
theorem dX5_mostOf_12 : decode cX5_mostOf 12 = .ok (.if_icmp .ne 7, 3) := by decide +kernel
theorem dX5_mostOf_15 : decode cX5_mostOf 15 = .ok (.iconst 4, 1) := by decide +kernel
theorem dX5_mostOf_16 : decode cX5_mostOf 16 = .ok (.goto 26, 3) := by decide +kernel
theorem dX5_mostOf_19 : decode cX5_mostOf 19 = .ok (.iload_n 0, 1) := by decide +kernel
theorem dX5_mostOf_20 : decode cX5_mostOf 20 = .ok (.iconst 3, 1) := by decide +kernel
theorem dX5_mostOf_21 : decode cX5_mostOf 21 = .ok (.if_icmp .ne 9, 3) := by decide +kernel
theorem dX5_mostOf_24 : decode cX5_mostOf 24 = .ok (.sipush 199, 3) := by decide +kernel
theorem dX5_mostOf_27 : decode cX5_mostOf 27 = .ok (.goto 15, 3) := by decide +kernel
theorem dX5_mostOf_30 : decode cX5_mostOf 30 = .ok (.iload_n 0, 1) := by decide +kernel
theorem dX5_mostOf_31 : decode cX5_mostOf 31 = .ok (.iconst 4, 1) := by decide +kernel
theorem dX5_mostOf_32 : decode cX5_mostOf 32 = .ok (.if_icmp .ne 8, 3) := by decide +kernel
theorem dX5_mostOf_35 : decode cX5_mostOf 35 = .ok (.bipush 50, 2) := by decide +kernel
theorem dX5_mostOf_37 : decode cX5_mostOf 37 = .ok (.goto 5, 3) := by decide +kernel
theorem dX5_mostOf_40 : decode cX5_mostOf 40 = .ok (.bipush 100, 2) := by decide +kernel
theorem dX5_mostOf_42 : decode cX5_mostOf 42 = .ok (.ireturn, 1) := by decide +kernel
set_option maxRecDepth 20000 in
theorem ggX5_set_X5_in : GoodIn wsX5_set wsX5_in := goodIn_r _ [6] (by decide +kernel) (by decide +kernel)
set_option maxRecDepth 20000 in
theorem gX5_set_X5_in : GoodIn wsX5_set (va_wsS RX5 36 yX5_in wsX5_in) := goodIn_app (goodIn_of _ (by decide +kernel)) ggX5_set_X5_in
set_option maxRecDepth 20000 in
theorem ggX5_set_X5_leastOf : GoodIn wsX5_set wsX5_leastOf := goodIn_r _ [9] (by decide +kernel) (by decide +kernel)
set_option maxRecDepth 20000 in
theorem gX5_set_X5_leastOf : GoodIn wsX5_set (va_wsS RX5 83 yX5_leastOf wsX5_leastOf) := goodIn_app (goodIn_of _ (by decide +kernel)) ggX5_set_X5_leastOf
set_option maxRecDepth 20000 in
theorem ggX5_set_X5_mostOf : GoodIn wsX5_set wsX5_mostOf := goodIn_r _ [12] (by decide +kernel) (by decide +kernel)
set_option maxRecDepth 20000 in
theorem gX5_set_X5_mostOf : GoodIn wsX5_set (va_wsS RX5 86 yX5_mostOf wsX5_mostOf) := goodIn_app (goodIn_of _ (by decide +kernel)) ggX5_set_X5_mostOf
set_option maxRecDepth 20000 in
theorem ggX5_set_X5_act : GoodIn wsX5_set wsX5_act := goodIn_r _ [16, 17, 18, 2, 19, 20, 21, 22, 23, 24, 25, 26, 27, 28, 29, 30, 31, 32] (by decide +kernel) (by decide +kernel)
set_option maxRecDepth 20000 in
theorem gX5_set_X5_act : GoodIn wsX5_set (wsV RX5 89 RX5 yX5_act wsX5_act) := goodIn_app (goodIn_of _ (by decide +kernel)) ggX5_set_X5_act
theorem dX5_set_0 : decode cX5_set 0 = .ok (.aload_n 0, 1) := by decide +kernel
theorem dX5_set_1 : decode cX5_set 1 = .ok (.iconst 0, 1) := by decide +kernel
theorem dX5_set_2 : decode cX5_set 2 = .ok (.putfield 32, 3) := by decide +kernel
theorem dX5_set_5 : decode cX5_set 5 = .ok (.iload_n 1, 1) := by decide +kernel
theorem dX5_set_6 : decode cX5_set 6 = .ok (.iconst 0, 1) := by decide +kernel
theorem dX5_set_7 : decode cX5_set 7 = .ok (.iconst 5, 1) := by decide +kernel
theorem dX5_set_8 : decode cX5_set 8 = .ok (.invokestatic 36, 3) := by decide +kernel
theorem dX5_set_11 : decode cX5_set 11 = .ok (.ifCond .eq 18, 3) := by decide +kernel
theorem dX5_set_14 : decode cX5_set 14 = .ok (.iload_n 2, 1) := by decide +kernel
theorem dX5_set_15 : decode cX5_set 15 = .ok (.iload_n 1, 1) := by decide +kernel
theorem dX5_set_16 : decode cX5_set 16 = .ok (.invokestatic 83, 3) := by decide +kernel
theorem dX5_set_19 : decode cX5_set 19 = .ok (.iload_n 1, 1) := by decide +kernel
theorem dX5_set_20 : decode cX5_set 20 = .ok (.invokestatic 86, 3) := by decide +kernel
theorem dX5_set_23 : decode cX5_set 23 = .ok (.invokestatic 36, 3) := by decide +kernel
theorem dX5_set_26 : decode cX5_set 26 = .ok (.ifCond .ne 5, 3) := by decide +kernel
theorem dX5_set_29 : decode cX5_set 29 = .ok (.iconst (-1), 1) := by decide +kernel
theorem dX5_set_30 : decode cX5_set 30 = .ok (.ireturn, 1) := by decide +kernel
theorem dX5_set_31 : decode cX5_set 31 = .ok (.aload_n 0, 1) := by decide +kernel
theorem dX5_set_32 : decode cX5_set 32 = .ok (.invokevirtual 89, 3) := by decide +kernel
theorem dX5_set_35 : decode cX5_set 35 = .ok (.aload_n 0, 1) := by decide +kernel
theorem dX5_set_36 : decode cX5_set 36 = .ok (.getfield 7, 3) := by decide +kernel
theorem dX5_set_39 : decode cX5_set 39 = .ok (.iconst 0, 1) := by decide +kernel
theorem dX5_set_40 : decode cX5_set 40 = .ok (.iload_n 1, 1) := by decide +kernel
theorem dX5_set_41 : decode cX5_set 41 = .ok (.iadd, 1) := by decide +kernel
theorem dX5_set_42 : decode cX5_set 42 = .ok (.iaload, 1) := by decide +kernel
theorem dX5_set_43 : decode cX5_set 43 = .ok (.istore_n 3, 1) := by decide +kernel
theorem dX5_set_44 : decode cX5_set 44 = .ok (.aload_n 0, 1) := by decide +kernel
theorem dX5_set_45 : decode cX5_set 45 = .ok (.getfield 7, 3) := by decide +kernel
theorem dX5_set_48 : decode cX5_set 48 = .ok (.iconst 0, 1) := by decide +kernel
theorem dX5_set_49 : decode cX5_set 49 = .ok (.iload_n 1, 1) := by decide +kernel
theorem dX5_set_50 : decode cX5_set 50 = .ok (.iadd, 1) := by decide +kernel
theorem dX5_set_51 : decode cX5_set 51 = .ok (.iload_n 2, 1) := by decide +kernel
theorem dX5_set_52 : decode cX5_set 52 = .ok (.iastore, 1) := by decide +kernel
theorem dX5_set_53 : decode cX5_set 53 = .ok (.iload_n 3, 1) := by decide +kernel
theorem dX5_set_54 : decode cX5_set 54 = .ok (.ireturn, 1) := by decide +kernel
set_option maxRecDepth 20000 in
theorem ggX5_kindCode_X5_isSpot : GoodIn wsX5_kindCode wsX5_isSpot := goodIn_r _ [4, 5, 6, 3, 7] (by decide +kernel) (by decide +kernel)
set_option maxRecDepth 20000 in
theorem gX5_kindCode_X5_isSpot : GoodIn wsX5_kindCode (va_wsS RX5 92 yX5_isSpot wsX5_isSpot) := goodIn_app (goodIn_of _ (by decide +kernel)) ggX5_kindCode_X5_isSpot
set_option maxRecDepth 20000 in
theorem ggX5_kindCode_X5_in : GoodIn wsX5_kindCode wsX5_in := goodIn_r _ [7] (by decide +kernel) (by decide +kernel)
set_option maxRecDepth 20000 in
theorem gX5_kindCode_X5_in : GoodIn wsX5_kindCode (va_wsS RX5 36 yX5_in wsX5_in) := goodIn_app (goodIn_of _ (by decide +kernel)) ggX5_kindCode_X5_in
theorem dX5_kindCode_0 : decode cX5_kindCode 0 = .ok (.iload_n 1, 1) := by decide +kernel
theorem dX5_kindCode_1 : decode cX5_kindCode 1 = .ok (.invokestatic 92, 3) := by decide +kernel
theorem dX5_kindCode_4 : decode cX5_kindCode 4 = .ok (.ifCond .eq 16, 3) := by decide +kernel
theorem dX5_kindCode_7 : decode cX5_kindCode 7 = .ok (.iload_n 2, 1) := by decide +kernel
theorem dX5_kindCode_8 : decode cX5_kindCode 8 = .ok (.iconst 0, 1) := by decide +kernel
theorem dX5_kindCode_9 : decode cX5_kindCode 9 = .ok (.iconst 3, 1) := by decide +kernel
theorem dX5_kindCode_10 : decode cX5_kindCode 10 = .ok (.invokestatic 36, 3) := by decide +kernel
theorem dX5_kindCode_13 : decode cX5_kindCode 13 = .ok (.ifCond .eq 7, 3) := by decide +kernel
theorem dX5_kindCode_16 : decode cX5_kindCode 16 = .ok (.iconst 0, 1) := by decide +kernel
theorem dX5_kindCode_17 : decode cX5_kindCode 17 = .ok (.goto 4, 3) := by decide +kernel
theorem dX5_kindCode_20 : decode cX5_kindCode 20 = .ok (.iconst (-1), 1) := by decide +kernel
theorem dX5_kindCode_21 : decode cX5_kindCode 21 = .ok (.ireturn, 1) := by decide +kernel
theorem dX5_kindNow_0 : decode cX5_kindNow 0 = .ok (.aload_n 0, 1) := by decide +kernel
theorem dX5_kindNow_1 : decode cX5_kindNow 1 = .ok (.getfield 7, 3) := by decide +kernel
theorem dX5_kindNow_4 : decode cX5_kindNow 4 = .ok (.bipush 19, 2) := by decide +kernel
theorem dX5_kindNow_6 : decode cX5_kindNow 6 = .ok (.iload_n 1, 1) := by decide +kernel
theorem dX5_kindNow_7 : decode cX5_kindNow 7 = .ok (.iadd, 1) := by decide +kernel
theorem dX5_kindNow_8 : decode cX5_kindNow 8 = .ok (.iaload, 1) := by decide +kernel
theorem dX5_kindNow_9 : decode cX5_kindNow 9 = .ok (.istore_n 3, 1) := by decide +kernel
theorem dX5_kindNow_10 : decode cX5_kindNow 10 = .ok (.aload_n 0, 1) := by decide +kernel
theorem dX5_kindNow_11 : decode cX5_kindNow 11 = .ok (.getfield 7, 3) := by decide +kernel
theorem dX5_kindNow_14 : decode cX5_kindNow 14 = .ok (.bipush 19, 2) := by decide +kernel
theorem dX5_kindNow_16 : decode cX5_kindNow 16 = .ok (.iload_n 1, 1) := by decide +kernel
theorem dX5_kindNow_17 : decode cX5_kindNow 17 = .ok (.iadd, 1) := by decide +kernel
theorem dX5_kindNow_18 : decode cX5_kindNow 18 = .ok (.iload_n 2, 1) := by decide +kernel
theorem dX5_kindNow_19 : decode cX5_kindNow 19 = .ok (.iastore, 1) := by decide +kernel
theorem dX5_kindNow_20 : decode cX5_kindNow 20 = .ok (.iload_n 3, 1) := by decide +kernel
theorem dX5_kindNow_21 : decode cX5_kindNow 21 = .ok (.ireturn, 1) := by decide +kernel
set_option maxRecDepth 20000 in
theorem ggX5_setPhosphor_X5_kindCode : GoodIn wsX5_setPhosphor wsX5_kindCode := goodIn_r _ [6, 7, 8, 5, 9, 10, 11, 12] (by decide +kernel) (by decide +kernel)
set_option maxRecDepth 20000 in
theorem gX5_setPhosphor_X5_kindCode : GoodIn wsX5_setPhosphor (wsV RX5 95 RX5 yX5_kindCode wsX5_kindCode) := goodIn_app (goodIn_of _ (by decide +kernel)) ggX5_setPhosphor_X5_kindCode
set_option maxRecDepth 20000 in
theorem ggX5_setPhosphor_X5_act : GoodIn wsX5_setPhosphor wsX5_act := goodIn_r _ [16, 17, 18, 19, 24, 25, 26, 27, 28, 29, 30, 31, 32, 33, 34, 35, 36, 37] (by decide +kernel) (by decide +kernel)
set_option maxRecDepth 20000 in
theorem gX5_setPhosphor_X5_act : GoodIn wsX5_setPhosphor (wsV RX5 89 RX5 yX5_act wsX5_act) := goodIn_app (goodIn_of _ (by decide +kernel)) ggX5_setPhosphor_X5_act
set_option maxRecDepth 20000 in
theorem ggX5_setPhosphor_X5_kindNow : GoodIn wsX5_setPhosphor wsX5_kindNow := goodIn_r _ [23, 19, 24, 25, 26, 27, 28, 29, 30, 31, 32, 33, 34, 35, 36, 37] (by decide +kernel) (by decide +kernel)
set_option maxRecDepth 20000 in
theorem gX5_setPhosphor_X5_kindNow : GoodIn wsX5_setPhosphor (wsV RX5 98 RX5 yX5_kindNow wsX5_kindNow) := goodIn_app (goodIn_of _ (by decide +kernel)) ggX5_setPhosphor_X5_kindNow
theorem dX5_setPhosphor_0 : decode cX5_setPhosphor 0 = .ok (.aload_n 0, 1) := by decide +kernel
theorem dX5_setPhosphor_1 : decode cX5_setPhosphor 1 = .ok (.iconst 0, 1) := by decide +kernel
theorem dX5_setPhosphor_2 : decode cX5_setPhosphor 2 = .ok (.putfield 32, 3) := by decide +kernel
theorem dX5_setPhosphor_5 : decode cX5_setPhosphor 5 = .ok (.aload_n 0, 1) := by decide +kernel
theorem dX5_setPhosphor_6 : decode cX5_setPhosphor 6 = .ok (.iload_n 1, 1) := by decide +kernel
theorem dX5_setPhosphor_7 : decode cX5_setPhosphor 7 = .ok (.iload_n 2, 1) := by decide +kernel
theorem dX5_setPhosphor_8 : decode cX5_setPhosphor 8 = .ok (.invokevirtual 95, 3) := by decide +kernel
theorem dX5_setPhosphor_11 : decode cX5_setPhosphor 11 = .ok (.istore_n 3, 1) := by decide +kernel
theorem dX5_setPhosphor_12 : decode cX5_setPhosphor 12 = .ok (.iload_n 3, 1) := by decide +kernel
theorem dX5_setPhosphor_13 : decode cX5_setPhosphor 13 = .ok (.ifCond .ge 5, 3) := by decide +kernel
theorem dX5_setPhosphor_16 : decode cX5_setPhosphor 16 = .ok (.iload_n 3, 1) := by decide +kernel
theorem dX5_setPhosphor_17 : decode cX5_setPhosphor 17 = .ok (.ireturn, 1) := by decide +kernel
theorem dX5_setPhosphor_18 : decode cX5_setPhosphor 18 = .ok (.aload_n 0, 1) := by decide +kernel
theorem dX5_setPhosphor_19 : decode cX5_setPhosphor 19 = .ok (.invokevirtual 89, 3) := by decide +kernel
theorem dX5_setPhosphor_22 : decode cX5_setPhosphor 22 = .ok (.aload_n 0, 1) := by decide +kernel
theorem dX5_setPhosphor_23 : decode cX5_setPhosphor 23 = .ok (.iload_n 1, 1) := by decide +kernel
theorem dX5_setPhosphor_24 : decode cX5_setPhosphor 24 = .ok (.iload_n 2, 1) := by decide +kernel
theorem dX5_setPhosphor_25 : decode cX5_setPhosphor 25 = .ok (.invokevirtual 98, 3) := by decide +kernel
theorem dX5_setPhosphor_28 : decode cX5_setPhosphor 28 = .ok (.ireturn, 1) := by decide +kernel
set_option maxRecDepth 20000 in
theorem ggX5_positionOf_X5_spotAt : GoodIn wsX5_positionOf wsX5_spotAt := goodIn_r _ [6, 1, 7, 8, 9, 10, 11, 12, 13, 14, 15, 16, 17, 18, 19, 20] (by decide +kernel) (by decide +kernel)
set_option maxRecDepth 20000 in
theorem gX5_positionOf_X5_spotAt : GoodIn wsX5_positionOf (wsV RX5 50 RX5 yX5_spotAt wsX5_spotAt) := goodIn_app (goodIn_of _ (by decide +kernel)) ggX5_positionOf_X5_spotAt
theorem dX5_positionOf_0 : decode cX5_positionOf 0 = .ok (.bipush (-9), 2) := by decide +kernel
theorem dX5_positionOf_2 : decode cX5_positionOf 2 = .ok (.istore_n 2, 1) := by decide +kernel
theorem dX5_positionOf_3 : decode cX5_positionOf 3 = .ok (.iconst 0, 1) := by decide +kernel
theorem dX5_positionOf_4 : decode cX5_positionOf 4 = .ok (.istore_n 3, 1) := by decide +kernel
theorem dX5_positionOf_5 : decode cX5_positionOf 5 = .ok (.iload_n 3, 1) := by decide +kernel
theorem dX5_positionOf_6 : decode cX5_positionOf 6 = .ok (.aload_n 0, 1) := by decide +kernel
theorem dX5_positionOf_7 : decode cX5_positionOf 7 = .ok (.getfield 7, 3) := by decide +kernel
theorem dX5_positionOf_10 : decode cX5_positionOf 10 = .ok (.bipush 6, 2) := by decide +kernel
theorem dX5_positionOf_12 : decode cX5_positionOf 12 = .ok (.iaload, 1) := by decide +kernel
theorem dX5_positionOf_13 : decode cX5_positionOf 13 = .ok (.if_icmp .ge 24, 3) := by decide +kernel
theorem dX5_positionOf_16 : decode cX5_positionOf 16 = .ok (.aload_n 0, 1) := by decide +kernel
theorem dX5_positionOf_17 : decode cX5_positionOf 17 = .ok (.iload_n 3, 1) := by decide +kernel
theorem dX5_positionOf_18 : decode cX5_positionOf 18 = .ok (.invokevirtual 50, 3) := by decide +kernel
theorem dX5_positionOf_21 : decode cX5_positionOf 21 = .ok (.iload_n 1, 1) := by decide +kernel
theorem dX5_positionOf_22 : decode cX5_positionOf 22 = .ok (.if_icmp .ne 7, 3) := by decide +kernel
theorem dX5_positionOf_25 : decode cX5_positionOf 25 = .ok (.iload_n 3, 1) := by decide +kernel
theorem dX5_positionOf_26 : decode cX5_positionOf 26 = .ok (.goto 4, 3) := by decide +kernel
theorem dX5_positionOf_29 : decode cX5_positionOf 29 = .ok (.iload_n 2, 1) := by decide +kernel
theorem dX5_positionOf_30 : decode cX5_positionOf 30 = .ok (.istore_n 2, 1) := by decide +kernel
theorem dX5_positionOf_31 : decode cX5_positionOf 31 = .ok (.iinc 3 1, 3) := by decide +kernel
theorem dX5_positionOf_34 : decode cX5_positionOf 34 = .ok (.goto (-29), 3) := by decide +kernel
theorem dX5_positionOf_37 : decode cX5_positionOf 37 = .ok (.iload_n 2, 1) := by decide +kernel
theorem dX5_positionOf_38 : decode cX5_positionOf 38 = .ok (.ireturn, 1) := by decide +kernel
set_option maxRecDepth 20000 in
theorem ggX5_lightCode_X5_isSpot : GoodIn wsX5_lightCode wsX5_isSpot := goodIn_r _ [5, 6, 7, 4, 8] (by decide +kernel) (by decide +kernel)
set_option maxRecDepth 20000 in
theorem gX5_lightCode_X5_isSpot : GoodIn wsX5_lightCode (va_wsS RX5 92 yX5_isSpot wsX5_isSpot) := goodIn_app (goodIn_of _ (by decide +kernel)) ggX5_lightCode_X5_isSpot
set_option maxRecDepth 20000 in
theorem ggX5_lightCode_X5_positionOf : GoodIn wsX5_lightCode wsX5_positionOf := goodIn_r _ [12, 1, 13, 14, 15, 4, 16, 17, 18, 19, 20, 21, 22, 23, 24, 25, 26, 27, 28, 29, 30] (by decide +kernel) (by decide +kernel)
set_option maxRecDepth 20000 in
theorem gX5_lightCode_X5_positionOf : GoodIn wsX5_lightCode (wsV RX5 101 RX5 yX5_positionOf wsX5_positionOf) := goodIn_app (goodIn_of _ (by decide +kernel)) ggX5_lightCode_X5_positionOf
theorem dX5_lightCode_0 : decode cX5_lightCode 0 = .ok (.iload_n 1, 1) := by decide +kernel
theorem dX5_lightCode_1 : decode cX5_lightCode 1 = .ok (.invokestatic 92, 3) := by decide +kernel
theorem dX5_lightCode_4 : decode cX5_lightCode 4 = .ok (.ifCond .ne 7, 3) := by decide +kernel
theorem dX5_lightCode_7 : decode cX5_lightCode 7 = .ok (.iconst (-1), 1) := by decide +kernel
theorem dX5_lightCode_8 : decode cX5_lightCode 8 = .ok (.goto 36, 3) := by decide +kernel
theorem dX5_lightCode_11 : decode cX5_lightCode 11 = .ok (.aload_n 0, 1) := by decide +kernel
theorem dX5_lightCode_12 : decode cX5_lightCode 12 = .ok (.iload_n 1, 1) := by decide +kernel
theorem dX5_lightCode_13 : decode cX5_lightCode 13 = .ok (.invokevirtual 101, 3) := by decide +kernel
theorem dX5_lightCode_16 : decode cX5_lightCode 16 = .ok (.bipush (-9), 2) := by decide +kernel
theorem dX5_lightCode_18 : decode cX5_lightCode 18 = .ok (.if_icmp .eq 8, 3) := by decide +kernel
theorem dX5_lightCode_21 : decode cX5_lightCode 21 = .ok (.bipush (-2), 2) := by decide +kernel
theorem dX5_lightCode_23 : decode cX5_lightCode 23 = .ok (.goto 21, 3) := by decide +kernel
theorem dX5_lightCode_26 : decode cX5_lightCode 26 = .ok (.aload_n 0, 1) := by decide +kernel
theorem dX5_lightCode_27 : decode cX5_lightCode 27 = .ok (.getfield 7, 3) := by decide +kernel
theorem dX5_lightCode_30 : decode cX5_lightCode 30 = .ok (.bipush 6, 2) := by decide +kernel
theorem dX5_lightCode_32 : decode cX5_lightCode 32 = .ok (.iaload, 1) := by decide +kernel
theorem dX5_lightCode_33 : decode cX5_lightCode 33 = .ok (.bipush 12, 2) := by decide +kernel
theorem dX5_lightCode_35 : decode cX5_lightCode 35 = .ok (.if_icmp .ne 8, 3) := by decide +kernel
theorem dX5_lightCode_38 : decode cX5_lightCode 38 = .ok (.bipush (-3), 2) := by decide +kernel
theorem dX5_lightCode_40 : decode cX5_lightCode 40 = .ok (.goto 4, 3) := by decide +kernel
theorem dX5_lightCode_43 : decode cX5_lightCode 43 = .ok (.iconst 0, 1) := by decide +kernel
theorem dX5_lightCode_44 : decode cX5_lightCode 44 = .ok (.ireturn, 1) := by decide +kernel
theorem dX5_lightNow_0 : decode cX5_lightNow 0 = .ok (.aload_n 0, 1) := by decide +kernel
theorem dX5_lightNow_1 : decode cX5_lightNow 1 = .ok (.getfield 7, 3) := by decide +kernel
theorem dX5_lightNow_4 : decode cX5_lightNow 4 = .ok (.bipush 7, 2) := by decide +kernel
theorem dX5_lightNow_6 : decode cX5_lightNow 6 = .ok (.aload_n 0, 1) := by decide +kernel
theorem dX5_lightNow_7 : decode cX5_lightNow 7 = .ok (.getfield 7, 3) := by decide +kernel
theorem dX5_lightNow_10 : decode cX5_lightNow 10 = .ok (.bipush 6, 2) := by decide +kernel
theorem dX5_lightNow_12 : decode cX5_lightNow 12 = .ok (.iaload, 1) := by decide +kernel
theorem dX5_lightNow_13 : decode cX5_lightNow 13 = .ok (.iadd, 1) := by decide +kernel
