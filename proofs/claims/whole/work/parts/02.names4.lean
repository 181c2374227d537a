theorem dX5_lightNow_14 : decode cX5_lightNow 14 = .ok (.iload_n 1, 1) := by decide +kernel
theorem dX5_lightNow_15 : decode cX5_lightNow 15 = .ok (.iastore, 1) := by decide +kernel
theorem dX5_lightNow_16 : decode cX5_lightNow 16 = .ok (.aload_n 0, 1) := by decide +kernel
theorem dX5_lightNow_17 : decode cX5_lightNow 17 = .ok (.getfield 7, 3) := by decide +kernel
theorem dX5_lightNow_20 : decode cX5_lightNow 20 = .ok (.bipush 6, 2) := by decide +kernel
theorem dX5_lightNow_22 : decode cX5_lightNow 22 = .ok (.dup2, 1) := by decide +kernel
theorem dX5_lightNow_23 : decode cX5_lightNow 23 = .ok (.iaload, 1) := by decide +kernel
theorem dX5_lightNow_24 : decode cX5_lightNow 24 = .ok (.iconst 1, 1) := by decide +kernel
theorem dX5_lightNow_25 : decode cX5_lightNow 25 = .ok (.iadd, 1) := by decide +kernel
theorem dX5_lightNow_26 : decode cX5_lightNow 26 = .ok (.iastore, 1) := by decide +kernel
theorem dX5_lightNow_27 : decode cX5_lightNow 27 = .ok (.aload_n 0, 1) := by decide +kernel
theorem dX5_lightNow_28 : decode cX5_lightNow 28 = .ok (.getfield 7, 3) := by decide +kernel
theorem dX5_lightNow_31 : decode cX5_lightNow 31 = .ok (.bipush 6, 2) := by decide +kernel
theorem dX5_lightNow_33 : decode cX5_lightNow 33 = .ok (.iaload, 1) := by decide +kernel
theorem dX5_lightNow_34 : decode cX5_lightNow 34 = .ok (.iconst 1, 1) := by decide +kernel
theorem dX5_lightNow_35 : decode cX5_lightNow 35 = .ok (.isub, 1) := by decide +kernel
theorem dX5_lightNow_36 : decode cX5_lightNow 36 = .ok (.ireturn, 1) := by decide +kernel
set_option maxRecDepth 20000 in
theorem ggX5_light_X5_lightCode : GoodIn wsX5_light wsX5_lightCode := goodIn_r _ [6, 7, 8, 9, 5, 10, 11, 12, 13, 14, 15, 16, 17, 18, 19, 20, 21, 32, 33, 34, 35, 36, 37, 38, 39, 40, 41, 42, 43, 44, 45] (by decide +kernel) (by decide +kernel)
set_option maxRecDepth 20000 in
theorem gX5_light_X5_lightCode : GoodIn wsX5_light (wsV RX5 104 RX5 yX5_lightCode wsX5_lightCode) := goodIn_app (goodIn_of _ (by decide +kernel)) ggX5_light_X5_lightCode
set_option maxRecDepth 20000 in
theorem ggX5_light_X5_act : GoodIn wsX5_light wsX5_act := goodIn_r _ [25, 26, 27, 7, 32, 33, 34, 35, 36, 37, 38, 39, 40, 41, 42, 43, 44, 45] (by decide +kernel) (by decide +kernel)
set_option maxRecDepth 20000 in
theorem gX5_light_X5_act : GoodIn wsX5_light (wsV RX5 89 RX5 yX5_act wsX5_act) := goodIn_app (goodIn_of _ (by decide +kernel)) ggX5_light_X5_act
set_option maxRecDepth 20000 in
theorem ggX5_light_X5_lightNow : GoodIn wsX5_light wsX5_lightNow := goodIn_r _ [31, 7, 32, 33, 34, 35, 36, 37, 38, 39, 40, 41, 42, 43, 44, 45] (by decide +kernel) (by decide +kernel)
set_option maxRecDepth 20000 in
theorem gX5_light_X5_lightNow : GoodIn wsX5_light (wsV RX5 107 RX5 yX5_lightNow wsX5_lightNow) := goodIn_app (goodIn_of _ (by decide +kernel)) ggX5_light_X5_lightNow
theorem dX5_light_0 : decode cX5_light 0 = .ok (.aload_n 0, 1) := by decide +kernel
theorem dX5_light_1 : decode cX5_light 1 = .ok (.iconst 0, 1) := by decide +kernel
theorem dX5_light_2 : decode cX5_light 2 = .ok (.putfield 32, 3) := by decide +kernel
theorem dX5_light_5 : decode cX5_light 5 = .ok (.aload_n 0, 1) := by decide +kernel
theorem dX5_light_6 : decode cX5_light 6 = .ok (.iload_n 1, 1) := by decide +kernel
theorem dX5_light_7 : decode cX5_light 7 = .ok (.invokevirtual 104, 3) := by decide +kernel
theorem dX5_light_10 : decode cX5_light 10 = .ok (.istore_n 2, 1) := by decide +kernel
theorem dX5_light_11 : decode cX5_light 11 = .ok (.iload_n 2, 1) := by decide +kernel
theorem dX5_light_12 : decode cX5_light 12 = .ok (.ifCond .ge 5, 3) := by decide +kernel
theorem dX5_light_15 : decode cX5_light 15 = .ok (.iload_n 2, 1) := by decide +kernel
theorem dX5_light_16 : decode cX5_light 16 = .ok (.ireturn, 1) := by decide +kernel
theorem dX5_light_17 : decode cX5_light 17 = .ok (.aload_n 0, 1) := by decide +kernel
theorem dX5_light_18 : decode cX5_light 18 = .ok (.invokevirtual 89, 3) := by decide +kernel
theorem dX5_light_21 : decode cX5_light 21 = .ok (.aload_n 0, 1) := by decide +kernel
theorem dX5_light_22 : decode cX5_light 22 = .ok (.iload_n 1, 1) := by decide +kernel
theorem dX5_light_23 : decode cX5_light 23 = .ok (.invokevirtual 107, 3) := by decide +kernel
theorem dX5_light_26 : decode cX5_light 26 = .ok (.ireturn, 1) := by decide +kernel
set_option maxRecDepth 20000 in
theorem ggX5_darkCode_X5_isSpot : GoodIn wsX5_darkCode wsX5_isSpot := goodIn_r _ [4, 5, 6, 3, 7] (by decide +kernel) (by decide +kernel)
set_option maxRecDepth 20000 in
theorem gX5_darkCode_X5_isSpot : GoodIn wsX5_darkCode (va_wsS RX5 92 yX5_isSpot wsX5_isSpot) := goodIn_app (goodIn_of _ (by decide +kernel)) ggX5_darkCode_X5_isSpot
set_option maxRecDepth 20000 in
theorem ggX5_darkCode_X5_positionOf : GoodIn wsX5_darkCode wsX5_positionOf := goodIn_r _ [11, 12, 13, 14, 15, 3, 16, 17, 18, 19, 20, 21, 22, 23, 24, 25, 26, 27, 28, 29, 30] (by decide +kernel) (by decide +kernel)
set_option maxRecDepth 20000 in
theorem gX5_darkCode_X5_positionOf : GoodIn wsX5_darkCode (wsV RX5 101 RX5 yX5_positionOf wsX5_positionOf) := goodIn_app (goodIn_of _ (by decide +kernel)) ggX5_darkCode_X5_positionOf
theorem dX5_darkCode_0 : decode cX5_darkCode 0 = .ok (.iload_n 1, 1) := by decide +kernel
theorem dX5_darkCode_1 : decode cX5_darkCode 1 = .ok (.invokestatic 92, 3) := by decide +kernel
theorem dX5_darkCode_4 : decode cX5_darkCode 4 = .ok (.ifCond .ne 7, 3) := by decide +kernel
theorem dX5_darkCode_7 : decode cX5_darkCode 7 = .ok (.iconst (-1), 1) := by decide +kernel
theorem dX5_darkCode_8 : decode cX5_darkCode 8 = .ok (.goto 19, 3) := by decide +kernel
theorem dX5_darkCode_11 : decode cX5_darkCode 11 = .ok (.aload_n 0, 1) := by decide +kernel
theorem dX5_darkCode_12 : decode cX5_darkCode 12 = .ok (.iload_n 1, 1) := by decide +kernel
theorem dX5_darkCode_13 : decode cX5_darkCode 13 = .ok (.invokevirtual 101, 3) := by decide +kernel
theorem dX5_darkCode_16 : decode cX5_darkCode 16 = .ok (.bipush (-9), 2) := by decide +kernel
theorem dX5_darkCode_18 : decode cX5_darkCode 18 = .ok (.if_icmp .ne 8, 3) := by decide +kernel
theorem dX5_darkCode_21 : decode cX5_darkCode 21 = .ok (.bipush (-2), 2) := by decide +kernel
theorem dX5_darkCode_23 : decode cX5_darkCode 23 = .ok (.goto 4, 3) := by decide +kernel
theorem dX5_darkCode_26 : decode cX5_darkCode 26 = .ok (.iconst 0, 1) := by decide +kernel
theorem dX5_darkCode_27 : decode cX5_darkCode 27 = .ok (.ireturn, 1) := by decide +kernel
set_option maxRecDepth 20000 in
theorem ggX5_darkNow_X5_positionOf : GoodIn wsX5_darkNow wsX5_positionOf := goodIn_r _ [6, 1, 7, 8, 9, 5, 10, 11, 12, 13, 14, 15, 16, 17, 18, 19, 20, 21, 22, 23, 24] (by decide +kernel) (by decide +kernel)
set_option maxRecDepth 20000 in
theorem gX5_darkNow_X5_positionOf : GoodIn wsX5_darkNow (wsV RX5 101 RX5 yX5_positionOf wsX5_positionOf) := goodIn_app (goodIn_of _ (by decide +kernel)) ggX5_darkNow_X5_positionOf
theorem dX5_darkNow_0 : decode cX5_darkNow 0 = .ok (.aload_n 0, 1) := by decide +kernel
theorem dX5_darkNow_1 : decode cX5_darkNow 1 = .ok (.iload_n 1, 1) := by decide +kernel
theorem dX5_darkNow_2 : decode cX5_darkNow 2 = .ok (.invokevirtual 101, 3) := by decide +kernel
theorem dX5_darkNow_5 : decode cX5_darkNow 5 = .ok (.istore_n 2, 1) := by decide +kernel
theorem dX5_darkNow_6 : decode cX5_darkNow 6 = .ok (.aload_n 0, 1) := by decide +kernel
theorem dX5_darkNow_7 : decode cX5_darkNow 7 = .ok (.getfield 7, 3) := by decide +kernel
theorem dX5_darkNow_10 : decode cX5_darkNow 10 = .ok (.bipush 6, 2) := by decide +kernel
theorem dX5_darkNow_12 : decode cX5_darkNow 12 = .ok (.dup2, 1) := by decide +kernel
theorem dX5_darkNow_13 : decode cX5_darkNow 13 = .ok (.iaload, 1) := by decide +kernel
theorem dX5_darkNow_14 : decode cX5_darkNow 14 = .ok (.iconst 1, 1) := by decide +kernel
theorem dX5_darkNow_15 : decode cX5_darkNow 15 = .ok (.isub, 1) := by decide +kernel
theorem dX5_darkNow_16 : decode cX5_darkNow 16 = .ok (.iastore, 1) := by decide +kernel
theorem dX5_darkNow_17 : decode cX5_darkNow 17 = .ok (.iload_n 2, 1) := by decide +kernel
theorem dX5_darkNow_18 : decode cX5_darkNow 18 = .ok (.istore_n 3, 1) := by decide +kernel
theorem dX5_darkNow_19 : decode cX5_darkNow 19 = .ok (.iload_n 3, 1) := by decide +kernel
theorem dX5_darkNow_20 : decode cX5_darkNow 20 = .ok (.aload_n 0, 1) := by decide +kernel
theorem dX5_darkNow_21 : decode cX5_darkNow 21 = .ok (.getfield 7, 3) := by decide +kernel
theorem dX5_darkNow_24 : decode cX5_darkNow 24 = .ok (.bipush 6, 2) := by decide +kernel
theorem dX5_darkNow_26 : decode cX5_darkNow 26 = .ok (.iaload, 1) := by decide +kernel
theorem dX5_darkNow_27 : decode cX5_darkNow 27 = .ok (.if_icmp .ge 29, 3) := by decide +kernel
theorem dX5_darkNow_30 : decode cX5_darkNow 30 = .ok (.aload_n 0, 1) := by decide +kernel
theorem dX5_darkNow_31 : decode cX5_darkNow 31 = .ok (.getfield 7, 3) := by decide +kernel
theorem dX5_darkNow_34 : decode cX5_darkNow 34 = .ok (.bipush 7, 2) := by decide +kernel
theorem dX5_darkNow_36 : decode cX5_darkNow 36 = .ok (.iload_n 3, 1) := by decide +kernel
theorem dX5_darkNow_37 : decode cX5_darkNow 37 = .ok (.iadd, 1) := by decide +kernel
theorem dX5_darkNow_38 : decode cX5_darkNow 38 = .ok (.aload_n 0, 1) := by decide +kernel
theorem dX5_darkNow_39 : decode cX5_darkNow 39 = .ok (.getfield 7, 3) := by decide +kernel
theorem dX5_darkNow_42 : decode cX5_darkNow 42 = .ok (.bipush 7, 2) := by decide +kernel
theorem dX5_darkNow_44 : decode cX5_darkNow 44 = .ok (.iload_n 3, 1) := by decide +kernel
theorem dX5_darkNow_45 : decode cX5_darkNow 45 = .ok (.iadd, 1) := by decide +kernel
theorem dX5_darkNow_46 : decode cX5_darkNow 46 = .ok (.iconst 1, 1) := by decide +kernel
theorem dX5_darkNow_47 : decode cX5_darkNow 47 = .ok (.iadd, 1) := by decide +kernel
theorem dX5_darkNow_48 : decode cX5_darkNow 48 = .ok (.iaload, 1) := by decide +kernel
theorem dX5_darkNow_49 : decode cX5_darkNow 49 = .ok (.iastore, 1) := by decide +kernel
theorem dX5_darkNow_50 : decode cX5_darkNow 50 = .ok (.iinc 3 1, 3) := by decide +kernel
theorem dX5_darkNow_53 : decode cX5_darkNow 53 = .ok (.goto (-34), 3) := by decide +kernel
theorem dX5_darkNow_56 : decode cX5_darkNow 56 = .ok (.iload_n 2, 1) := by decide +kernel
theorem dX5_darkNow_57 : decode cX5_darkNow 57 = .ok (.ireturn, 1) := by decide +kernel
set_option maxRecDepth 20000 in
theorem ggX5_darken_X5_darkCode : GoodIn wsX5_darken wsX5_darkCode := goodIn_r _ [6, 7, 8, 5, 9, 10, 11, 12, 13, 14, 15, 16, 17, 18, 19, 20, 21, 32, 33, 34, 35, 36, 37, 38, 39, 40, 41, 42, 43, 44, 45] (by decide +kernel) (by decide +kernel)
set_option maxRecDepth 20000 in
theorem gX5_darken_X5_darkCode : GoodIn wsX5_darken (wsV RX5 110 RX5 yX5_darkCode wsX5_darkCode) := goodIn_app (goodIn_of _ (by decide +kernel)) ggX5_darken_X5_darkCode
set_option maxRecDepth 20000 in
theorem ggX5_darken_X5_act : GoodIn wsX5_darken wsX5_act := goodIn_r _ [25, 26, 27, 17, 32, 33, 34, 35, 36, 37, 38, 39, 40, 41, 42, 43, 44, 45] (by decide +kernel) (by decide +kernel)
set_option maxRecDepth 20000 in
theorem gX5_darken_X5_act : GoodIn wsX5_darken (wsV RX5 89 RX5 yX5_act wsX5_act) := goodIn_app (goodIn_of _ (by decide +kernel)) ggX5_darken_X5_act
set_option maxRecDepth 20000 in
theorem ggX5_darken_X5_darkNow : GoodIn wsX5_darken wsX5_darkNow := goodIn_r _ [31, 17, 13, 14, 15, 5, 16, 18, 19, 20, 21, 32, 33, 34, 35, 36, 37, 38, 39, 40, 41, 42, 43, 44, 45] (by decide +kernel) (by decide +kernel)
set_option maxRecDepth 20000 in
theorem gX5_darken_X5_darkNow : GoodIn wsX5_darken (wsV RX5 113 RX5 yX5_darkNow wsX5_darkNow) := goodIn_app (goodIn_of _ (by decide +kernel)) ggX5_darken_X5_darkNow
theorem dX5_darken_0 : decode cX5_darken 0 = .ok (.aload_n 0, 1) := by decide +kernel
theorem dX5_darken_1 : decode cX5_darken 1 = .ok (.iconst 0, 1) := by decide +kernel
theorem dX5_darken_2 : decode cX5_darken 2 = .ok (.putfield 32, 3) := by decide +kernel
theorem dX5_darken_5 : decode cX5_darken 5 = .ok (.aload_n 0, 1) := by decide +kernel
theorem dX5_darken_6 : decode cX5_darken 6 = .ok (.iload_n 1, 1) := by decide +kernel
theorem dX5_darken_7 : decode cX5_darken 7 = .ok (.invokevirtual 110, 3) := by decide +kernel
theorem dX5_darken_10 : decode cX5_darken 10 = .ok (.istore_n 2, 1) := by decide +kernel
theorem dX5_darken_11 : decode cX5_darken 11 = .ok (.iload_n 2, 1) := by decide +kernel
theorem dX5_darken_12 : decode cX5_darken 12 = .ok (.ifCond .ge 5, 3) := by decide +kernel
theorem dX5_darken_15 : decode cX5_darken 15 = .ok (.iload_n 2, 1) := by decide +kernel
theorem dX5_darken_16 : decode cX5_darken 16 = .ok (.ireturn, 1) := by decide +kernel
theorem dX5_darken_17 : decode cX5_darken 17 = .ok (.aload_n 0, 1) := by decide +kernel
theorem dX5_darken_18 : decode cX5_darken 18 = .ok (.invokevirtual 89, 3) := by decide +kernel
theorem dX5_darken_21 : decode cX5_darken 21 = .ok (.aload_n 0, 1) := by decide +kernel
theorem dX5_darken_22 : decode cX5_darken 22 = .ok (.iload_n 1, 1) := by decide +kernel
theorem dX5_darken_23 : decode cX5_darken 23 = .ok (.invokevirtual 113, 3) := by decide +kernel
theorem dX5_darken_26 : decode cX5_darken 26 = .ok (.ireturn, 1) := by decide +kernel
set_option maxRecDepth 20000 in
theorem ggX5_swapCode_X5_in : GoodIn wsX5_swapCode wsX5_in := goodIn_r _ [5] (by decide +kernel) (by decide +kernel)
set_option maxRecDepth 20000 in
theorem gX5_swapCode_X5_in : GoodIn wsX5_swapCode (va_wsS RX5 36 yX5_in wsX5_in) := goodIn_app (goodIn_of _ (by decide +kernel)) ggX5_swapCode_X5_in
theorem dX5_swapCode_0 : decode cX5_swapCode 0 = .ok (.iload_n 1, 1) := by decide +kernel
theorem dX5_swapCode_1 : decode cX5_swapCode 1 = .ok (.iconst 0, 1) := by decide +kernel
theorem dX5_swapCode_2 : decode cX5_swapCode 2 = .ok (.aload_n 0, 1) := by decide +kernel
theorem dX5_swapCode_3 : decode cX5_swapCode 3 = .ok (.getfield 7, 3) := by decide +kernel
theorem dX5_swapCode_6 : decode cX5_swapCode 6 = .ok (.bipush 6, 2) := by decide +kernel
theorem dX5_swapCode_8 : decode cX5_swapCode 8 = .ok (.iaload, 1) := by decide +kernel
theorem dX5_swapCode_9 : decode cX5_swapCode 9 = .ok (.iconst 1, 1) := by decide +kernel
theorem dX5_swapCode_10 : decode cX5_swapCode 10 = .ok (.isub, 1) := by decide +kernel
theorem dX5_swapCode_11 : decode cX5_swapCode 11 = .ok (.invokestatic 36, 3) := by decide +kernel
theorem dX5_swapCode_14 : decode cX5_swapCode 14 = .ok (.ifCond .eq 24, 3) := by decide +kernel
theorem dX5_swapCode_17 : decode cX5_swapCode 17 = .ok (.iload_n 2, 1) := by decide +kernel
theorem dX5_swapCode_18 : decode cX5_swapCode 18 = .ok (.iconst 0, 1) := by decide +kernel
theorem dX5_swapCode_19 : decode cX5_swapCode 19 = .ok (.aload_n 0, 1) := by decide +kernel
theorem dX5_swapCode_20 : decode cX5_swapCode 20 = .ok (.getfield 7, 3) := by decide +kernel
theorem dX5_swapCode_23 : decode cX5_swapCode 23 = .ok (.bipush 6, 2) := by decide +kernel
theorem dX5_swapCode_25 : decode cX5_swapCode 25 = .ok (.iaload, 1) := by decide +kernel
theorem dX5_swapCode_26 : decode cX5_swapCode 26 = .ok (.iconst 1, 1) := by decide +kernel
theorem dX5_swapCode_27 : decode cX5_swapCode 27 = .ok (.isub, 1) := by decide +kernel
theorem dX5_swapCode_28 : decode cX5_swapCode 28 = .ok (.invokestatic 36, 3) := by decide +kernel
theorem dX5_swapCode_31 : decode cX5_swapCode 31 = .ok (.ifCond .eq 7, 3) := by decide +kernel
theorem dX5_swapCode_34 : decode cX5_swapCode 34 = .ok (.iconst 0, 1) := by decide +kernel
theorem dX5_swapCode_35 : decode cX5_swapCode 35 = .ok (.goto 4, 3) := by decide +kernel
theorem dX5_swapCode_38 : decode cX5_swapCode 38 = .ok (.iconst (-1), 1) := by decide +kernel
theorem dX5_swapCode_39 : decode cX5_swapCode 39 = .ok (.ireturn, 1) := by decide +kernel
theorem dX5_changePlaces_0 : decode cX5_changePlaces 0 = .ok (.aload_n 0, 1) := by decide +kernel
theorem dX5_changePlaces_1 : decode cX5_changePlaces 1 = .ok (.getfield 7, 3) := by decide +kernel
theorem dX5_changePlaces_4 : decode cX5_changePlaces 4 = .ok (.bipush 7, 2) := by decide +kernel
theorem dX5_changePlaces_6 : decode cX5_changePlaces 6 = .ok (.iload_n 1, 1) := by decide +kernel
theorem dX5_changePlaces_7 : decode cX5_changePlaces 7 = .ok (.iadd, 1) := by decide +kernel
theorem dX5_changePlaces_8 : decode cX5_changePlaces 8 = .ok (.iaload, 1) := by decide +kernel
theorem dX5_changePlaces_9 : decode cX5_changePlaces 9 = .ok (.istore_n 3, 1) := by decide +kernel
theorem dX5_changePlaces_10 : decode cX5_changePlaces 10 = .ok (.aload_n 0, 1) := by decide +kernel
theorem dX5_changePlaces_11 : decode cX5_changePlaces 11 = .ok (.getfield 7, 3) := by decide +kernel
theorem dX5_changePlaces_14 : decode cX5_changePlaces 14 = .ok (.bipush 7, 2) := by decide +kernel
theorem dX5_changePlaces_16 : decode cX5_changePlaces 16 = .ok (.iload_n 1, 1) := by decide +kernel
theorem dX5_changePlaces_17 : decode cX5_changePlaces 17 = .ok (.iadd, 1) := by decide +kernel
theorem dX5_changePlaces_18 : decode cX5_changePlaces 18 = .ok (.aload_n 0, 1) := by decide +kernel
theorem dX5_changePlaces_19 : decode cX5_changePlaces 19 = .ok (.getfield 7, 3) := by decide +kernel
theorem dX5_changePlaces_22 : decode cX5_changePlaces 22 = .ok (.bipush 7, 2) := by decide +kernel
theorem dX5_changePlaces_24 : decode cX5_changePlaces 24 = .ok (.iload_n 2, 1) := by decide +kernel
theorem dX5_changePlaces_25 : decode cX5_changePlaces 25 = .ok (.iadd, 1) := by decide +kernel
theorem dX5_changePlaces_26 : decode cX5_changePlaces 26 = .ok (.iaload, 1) := by decide +kernel
theorem dX5_changePlaces_27 : decode cX5_changePlaces 27 = .ok (.iastore, 1) := by decide +kernel
theorem dX5_changePlaces_28 : decode cX5_changePlaces 28 = .ok (.aload_n 0, 1) := by decide +kernel
theorem dX5_changePlaces_29 : decode cX5_changePlaces 29 = .ok (.getfield 7, 3) := by decide +kernel
theorem dX5_changePlaces_32 : decode cX5_changePlaces 32 = .ok (.bipush 7, 2) := by decide +kernel
theorem dX5_changePlaces_34 : decode cX5_changePlaces 34 = .ok (.iload_n 2, 1) := by decide +kernel
theorem dX5_changePlaces_35 : decode cX5_changePlaces 35 = .ok (.iadd, 1) := by decide +kernel
theorem dX5_changePlaces_36 : decode cX5_changePlaces 36 = .ok (.iload_n 3, 1) := by decide +kernel
theorem dX5_changePlaces_37 : decode cX5_changePlaces 37 = .ok (.iastore, 1) := by decide +kernel
theorem dX5_changePlaces_38 : decode cX5_changePlaces 38 = .ok (.return_, 1) := by decide +kernel
set_option maxRecDepth 20000 in
theorem ggX5_swapNow_X5_changePlaces : GoodIn wsX5_swapNow wsX5_changePlaces := goodIn_r _ [5, 6, 26, 27, 28, 29, 30, 31, 32, 33, 34, 35, 36, 37, 38, 39] (by decide +kernel) (by decide +kernel)
set_option maxRecDepth 20000 in
theorem gX5_swapNow_X5_changePlaces : GoodIn wsX5_swapNow (wsV RX5 116 RX5 yX5_changePlaces wsX5_changePlaces) := goodIn_app (goodIn_of _ (by decide +kernel)) ggX5_swapNow_X5_changePlaces
set_option maxRecDepth 20000 in
theorem ggX5_swapNow_X5_litMany : GoodIn wsX5_swapNow wsX5_litMany := goodIn_r _ [10, 11, 12, 13, 14, 4, 15, 6, 16, 17, 18, 19, 20, 21, 22, 23, 24, 25, 26, 27, 28, 29, 30, 31, 32, 33, 34, 35, 36, 37, 38, 39] (by decide +kernel) (by decide +kernel)
set_option maxRecDepth 20000 in
theorem gX5_swapNow_X5_litMany : GoodIn wsX5_swapNow (wsV RX5 120 RX5 yX5_litMany wsX5_litMany) := goodIn_app (goodIn_of _ (by decide +kernel)) ggX5_swapNow_X5_litMany
theorem dX5_swapNow_0 : decode cX5_swapNow 0 = .ok (.aload_n 0, 1) := by decide +kernel
theorem dX5_swapNow_1 : decode cX5_swapNow 1 = .ok (.iload_n 1, 1) := by decide +kernel
theorem dX5_swapNow_2 : decode cX5_swapNow 2 = .ok (.iload_n 2, 1) := by decide +kernel
theorem dX5_swapNow_3 : decode cX5_swapNow 3 = .ok (.invokevirtual 116, 3) := by decide +kernel
theorem dX5_swapNow_6 : decode cX5_swapNow 6 = .ok (.aload_n 0, 1) := by decide +kernel
theorem dX5_swapNow_7 : decode cX5_swapNow 7 = .ok (.invokevirtual 120, 3) := by decide +kernel
theorem dX5_swapNow_10 : decode cX5_swapNow 10 = .ok (.ireturn, 1) := by decide +kernel
set_option maxRecDepth 20000 in
theorem ggX5_exchange_X5_swapCode : GoodIn wsX5_exchange wsX5_swapCode := goodIn_r _ [6, 7, 8, 9, 5, 10, 44, 45, 46, 47, 48, 49, 50, 51, 52, 53, 54, 55, 56, 57] (by decide +kernel) (by decide +kernel)
set_option maxRecDepth 20000 in
theorem gX5_exchange_X5_swapCode : GoodIn wsX5_exchange (wsV RX5 124 RX5 yX5_swapCode wsX5_swapCode) := goodIn_app (goodIn_of _ (by decide +kernel)) ggX5_exchange_X5_swapCode
set_option maxRecDepth 20000 in
theorem ggX5_exchange_X5_act : GoodIn wsX5_exchange wsX5_act := goodIn_r _ [14, 15, 16, 7, 44, 45, 46, 47, 48, 49, 50, 51, 52, 53, 54, 55, 56, 57] (by decide +kernel) (by decide +kernel)
set_option maxRecDepth 20000 in
theorem gX5_exchange_X5_act : GoodIn wsX5_exchange (wsV RX5 89 RX5 yX5_act wsX5_act) := goodIn_app (goodIn_of _ (by decide +kernel)) ggX5_exchange_X5_act
set_option maxRecDepth 20000 in
theorem ggX5_exchange_X5_swapNow : GoodIn wsX5_exchange wsX5_swapNow := goodIn_r _ [20, 21, 22, 23, 5, 24, 7, 25, 26, 27, 28, 29, 30, 31, 32, 33, 34, 35, 36, 37, 38, 39, 40, 41, 42, 43, 44, 45, 46, 47, 48, 49, 50, 51, 52, 53, 54, 55, 56, 57] (by decide +kernel) (by decide +kernel)
set_option maxRecDepth 20000 in
theorem gX5_exchange_X5_swapNow : GoodIn wsX5_exchange (wsV RX5 127 RX5 yX5_swapNow wsX5_swapNow) := goodIn_app (goodIn_of _ (by decide +kernel)) ggX5_exchange_X5_swapNow
theorem dX5_exchange_0 : decode cX5_exchange 0 = .ok (.aload_n 0, 1) := by decide +kernel
theorem dX5_exchange_1 : decode cX5_exchange 1 = .ok (.iconst 0, 1) := by decide +kernel
theorem dX5_exchange_2 : decode cX5_exchange 2 = .ok (.putfield 32, 3) := by decide +kernel
theorem dX5_exchange_5 : decode cX5_exchange 5 = .ok (.aload_n 0, 1) := by decide +kernel
theorem dX5_exchange_6 : decode cX5_exchange 6 = .ok (.iload_n 1, 1) := by decide +kernel
theorem dX5_exchange_7 : decode cX5_exchange 7 = .ok (.iload_n 2, 1) := by decide +kernel
theorem dX5_exchange_8 : decode cX5_exchange 8 = .ok (.invokevirtual 124, 3) := by decide +kernel
theorem dX5_exchange_11 : decode cX5_exchange 11 = .ok (.istore_n 3, 1) := by decide +kernel
theorem dX5_exchange_12 : decode cX5_exchange 12 = .ok (.iload_n 3, 1) := by decide +kernel
theorem dX5_exchange_13 : decode cX5_exchange 13 = .ok (.ifCond .ge 5, 3) := by decide +kernel
theorem dX5_exchange_16 : decode cX5_exchange 16 = .ok (.iload_n 3, 1) := by decide +kernel
theorem dX5_exchange_17 : decode cX5_exchange 17 = .ok (.ireturn, 1) := by decide +kernel
theorem dX5_exchange_18 : decode cX5_exchange 18 = .ok (.aload_n 0, 1) := by decide +kernel
theorem dX5_exchange_19 : decode cX5_exchange 19 = .ok (.invokevirtual 89, 3) := by decide +kernel
theorem dX5_exchange_22 : decode cX5_exchange 22 = .ok (.aload_n 0, 1) := by decide +kernel
theorem dX5_exchange_23 : decode cX5_exchange 23 = .ok (.iload_n 1, 1) := by decide +kernel
theorem dX5_exchange_24 : decode cX5_exchange 24 = .ok (.iload_n 2, 1) := by decide +kernel
theorem dX5_exchange_25 : decode cX5_exchange 25 = .ok (.invokevirtual 127, 3) := by decide +kernel
theorem dX5_exchange_28 : decode cX5_exchange 28 = .ok (.ireturn, 1) := by decide +kernel
set_option maxRecDepth 20000 in
theorem ggX5_darkTick_X5_fading : GoodIn wsX5_darkTick wsX5_fading := goodIn_r _ [4, 5, 6, 3, 7] (by decide +kernel) (by decide +kernel)
set_option maxRecDepth 20000 in
theorem gX5_darkTick_X5_fading : GoodIn wsX5_darkTick (va_wsS RX5 57 yX5_fading wsX5_fading) := goodIn_app (goodIn_of _ (by decide +kernel)) ggX5_darkTick_X5_fading
theorem dX5_darkTick_0 : decode cX5_darkTick 0 = .ok (.iconst 0, 1) := by decide +kernel
theorem dX5_darkTick_1 : decode cX5_darkTick 1 = .ok (.istore_n 1, 1) := by decide +kernel
theorem dX5_darkTick_2 : decode cX5_darkTick 2 = .ok (.iload_n 0, 1) := by decide +kernel
theorem dX5_darkTick_3 : decode cX5_darkTick 3 = .ok (.iload_n 1, 1) := by decide +kernel
theorem dX5_darkTick_4 : decode cX5_darkTick 4 = .ok (.invokestatic 57, 3) := by decide +kernel
theorem dX5_darkTick_7 : decode cX5_darkTick 7 = .ok (.ifCond .le 9, 3) := by decide +kernel
theorem dX5_darkTick_10 : decode cX5_darkTick 10 = .ok (.iinc 1 1, 3) := by decide +kernel
theorem dX5_darkTick_13 : decode cX5_darkTick 13 = .ok (.goto (-11), 3) := by decide +kernel
theorem dX5_darkTick_16 : decode cX5_darkTick 16 = .ok (.iload_n 1, 1) := by decide +kernel
theorem dX5_darkTick_17 : decode cX5_darkTick 17 = .ok (.ireturn, 1) := by decide +kernel
set_option maxRecDepth 20000 in
theorem ggX5_keyOf_X5_way : GoodIn wsX5_keyOf wsX5_way := goodIn_r _ [5, 6, 7, 4, 8] (by decide +kernel) (by decide +kernel)
set_option maxRecDepth 20000 in
theorem gX5_keyOf_X5_way : GoodIn wsX5_keyOf (va_wsS RX5 53 yX5_way wsX5_way) := goodIn_app (goodIn_of _ (by decide +kernel)) ggX5_keyOf_X5_way
set_option maxRecDepth 20000 in
theorem ggX5_keyOf_X5_darkTick : GoodIn wsX5_keyOf wsX5_darkTick := goodIn_r _ [11, 12, 13, 4, 14, 15, 16, 17] (by decide +kernel) (by decide +kernel)
set_option maxRecDepth 20000 in
theorem gX5_keyOf_X5_darkTick : GoodIn wsX5_keyOf (va_wsS RX5 130 yX5_darkTick wsX5_darkTick) := goodIn_app (goodIn_of _ (by decide +kernel)) ggX5_keyOf_X5_darkTick
theorem dX5_keyOf_0 : decode cX5_keyOf 0 = .ok (.iload_n 1, 1) := by decide +kernel
theorem dX5_keyOf_1 : decode cX5_keyOf 1 = .ok (.tableswitch 73 0 2 #[27, 29, 55], 27) := by decide +kernel
theorem dX5_keyOf_28 : decode cX5_keyOf 28 = .ok (.iload_n 2, 1) := by decide +kernel
theorem dX5_keyOf_29 : decode cX5_keyOf 29 = .ok (.ireturn, 1) := by decide +kernel
theorem dX5_keyOf_30 : decode cX5_keyOf 30 = .ok (.sipush 10000, 3) := by decide +kernel
theorem dX5_keyOf_33 : decode cX5_keyOf 33 = .ok (.aload_n 0, 1) := by decide +kernel
theorem dX5_keyOf_34 : decode cX5_keyOf 34 = .ok (.getfield 7, 3) := by decide +kernel
theorem dX5_keyOf_37 : decode cX5_keyOf 37 = .ok (.sipush 147, 3) := by decide +kernel
theorem dX5_keyOf_40 : decode cX5_keyOf 40 = .ok (.iload_n 2, 1) := by decide +kernel
theorem dX5_keyOf_41 : decode cX5_keyOf 41 = .ok (.iadd, 1) := by decide +kernel
theorem dX5_keyOf_42 : decode cX5_keyOf 42 = .ok (.iaload, 1) := by decide +kernel
theorem dX5_keyOf_43 : decode cX5_keyOf 43 = .ok (.imul, 1) := by decide +kernel
theorem dX5_keyOf_44 : decode cX5_keyOf 44 = .ok (.bipush 100, 2) := by decide +kernel
theorem dX5_keyOf_46 : decode cX5_keyOf 46 = .ok (.iconst 0, 1) := by decide +kernel
theorem dX5_keyOf_47 : decode cX5_keyOf 47 = .ok (.iload_n 2, 1) := by decide +kernel
theorem dX5_keyOf_48 : decode cX5_keyOf 48 = .ok (.invokestatic 53, 3) := by decide +kernel
theorem dX5_keyOf_51 : decode cX5_keyOf 51 = .ok (.imul, 1) := by decide +kernel
theorem dX5_keyOf_52 : decode cX5_keyOf 52 = .ok (.iadd, 1) := by decide +kernel
theorem dX5_keyOf_53 : decode cX5_keyOf 53 = .ok (.iload_n 2, 1) := by decide +kernel
theorem dX5_keyOf_54 : decode cX5_keyOf 54 = .ok (.iadd, 1) := by decide +kernel
theorem dX5_keyOf_55 : decode cX5_keyOf 55 = .ok (.ireturn, 1) := by decide +kernel
theorem dX5_keyOf_56 : decode cX5_keyOf 56 = .ok (.bipush 100, 2) := by decide +kernel
theorem dX5_keyOf_58 : decode cX5_keyOf 58 = .ok (.aload_n 0, 1) := by decide +kernel
theorem dX5_keyOf_59 : decode cX5_keyOf 59 = .ok (.getfield 7, 3) := by decide +kernel
theorem dX5_keyOf_62 : decode cX5_keyOf 62 = .ok (.bipush 19, 2) := by decide +kernel
theorem dX5_keyOf_64 : decode cX5_keyOf 64 = .ok (.iload_n 2, 1) := by decide +kernel
theorem dX5_keyOf_65 : decode cX5_keyOf 65 = .ok (.iadd, 1) := by decide +kernel
theorem dX5_keyOf_66 : decode cX5_keyOf 66 = .ok (.iaload, 1) := by decide +kernel
theorem dX5_keyOf_67 : decode cX5_keyOf 67 = .ok (.invokestatic 130, 3) := by decide +kernel
theorem dX5_keyOf_70 : decode cX5_keyOf 70 = .ok (.imul, 1) := by decide +kernel
theorem dX5_keyOf_71 : decode cX5_keyOf 71 = .ok (.iload_n 2, 1) := by decide +kernel
theorem dX5_keyOf_72 : decode cX5_keyOf 72 = .ok (.iadd, 1) := by decide +kernel
theorem dX5_keyOf_73 : decode cX5_keyOf 73 = .ok (.ireturn, 1) := by decide +kernel
theorem dX5_keyOf_74 : decode cX5_keyOf 74 = .ok (.bipush 100, 2) := by decide +kernel
theorem dX5_keyOf_76 : decode cX5_keyOf 76 = .ok (.iload_n 3, 1) := by decide +kernel
theorem dX5_keyOf_77 : decode cX5_keyOf 77 = .ok (.iload_n 2, 1) := by decide +kernel
theorem dX5_keyOf_78 : decode cX5_keyOf 78 = .ok (.invokestatic 53, 3) := by decide +kernel
theorem dX5_keyOf_81 : decode cX5_keyOf 81 = .ok (.imul, 1) := by decide +kernel
theorem dX5_keyOf_82 : decode cX5_keyOf 82 = .ok (.iload_n 2, 1) := by decide +kernel
theorem dX5_keyOf_83 : decode cX5_keyOf 83 = .ok (.iadd, 1) := by decide +kernel
theorem dX5_keyOf_84 : decode cX5_keyOf 84 = .ok (.ireturn, 1) := by decide +kernel
set_option maxRecDepth 20000 in
theorem ggX5_sortCode_X5_in : GoodIn wsX5_sortCode wsX5_in := goodIn_r _ [4] (by decide +kernel) (by decide +kernel)
set_option maxRecDepth 20000 in
theorem gX5_sortCode_X5_in : GoodIn wsX5_sortCode (va_wsS RX5 36 yX5_in wsX5_in) := goodIn_app (goodIn_of _ (by decide +kernel)) ggX5_sortCode_X5_in
theorem dX5_sortCode_0 : decode cX5_sortCode 0 = .ok (.iload_n 1, 1) := by decide +kernel
theorem dX5_sortCode_1 : decode cX5_sortCode 1 = .ok (.iconst 0, 1) := by decide +kernel
theorem dX5_sortCode_2 : decode cX5_sortCode 2 = .ok (.iconst 3, 1) := by decide +kernel
theorem dX5_sortCode_3 : decode cX5_sortCode 3 = .ok (.invokestatic 36, 3) := by decide +kernel
theorem dX5_sortCode_6 : decode cX5_sortCode 6 = .ok (.ifCond .eq 7, 3) := by decide +kernel
theorem dX5_sortCode_9 : decode cX5_sortCode 9 = .ok (.iconst 0, 1) := by decide +kernel
theorem dX5_sortCode_10 : decode cX5_sortCode 10 = .ok (.goto 4, 3) := by decide +kernel
theorem dX5_sortCode_13 : decode cX5_sortCode 13 = .ok (.iconst (-1), 1) := by decide +kernel
theorem dX5_sortCode_14 : decode cX5_sortCode 14 = .ok (.ireturn, 1) := by decide +kernel
set_option maxRecDepth 20000 in
theorem ggX5_sortNow_X5_spotAt : GoodIn wsX5_sortNow wsX5_spotAt := goodIn_r _ [6, 1, 39, 40, 41, 42, 43, 44, 45, 46, 47, 48, 49, 50, 51, 52] (by decide +kernel) (by decide +kernel)
set_option maxRecDepth 20000 in
theorem gX5_sortNow_X5_spotAt : GoodIn wsX5_sortNow (wsV RX5 50 RX5 yX5_spotAt wsX5_spotAt) := goodIn_app (goodIn_of _ (by decide +kernel)) ggX5_sortNow_X5_spotAt
set_option maxRecDepth 20000 in
theorem ggX5_sortNow_X5_keyOf : GoodIn wsX5_sortNow wsX5_keyOf := goodIn_r _ [10, 1, 11, 12, 5, 13, 14, 15, 16, 17, 18, 19, 20, 21, 22, 23, 24, 25, 39, 40, 41, 42, 43, 44, 45, 46, 47, 48, 49, 50, 51, 52] (by decide +kernel) (by decide +kernel)
set_option maxRecDepth 20000 in
theorem gX5_sortNow_X5_keyOf : GoodIn wsX5_sortNow (wsV RX5 133 RX5 yX5_keyOf wsX5_keyOf) := goodIn_app (goodIn_of _ (by decide +kernel)) ggX5_sortNow_X5_keyOf
set_option maxRecDepth 20000 in
theorem ggX5_sortNow_X5_changePlaces : GoodIn wsX5_sortNow wsX5_changePlaces := goodIn_r _ [29, 1, 39, 40, 41, 42, 43, 44, 45, 46, 47, 48, 49, 50, 51, 52] (by decide +kernel) (by decide +kernel)
set_option maxRecDepth 20000 in
theorem gX5_sortNow_X5_changePlaces : GoodIn wsX5_sortNow (wsV RX5 116 RX5 yX5_changePlaces wsX5_changePlaces) := goodIn_app (goodIn_of _ (by decide +kernel)) ggX5_sortNow_X5_changePlaces
set_option maxRecDepth 20000 in
theorem ggX5_sortNow_X5_litMany : GoodIn wsX5_sortNow wsX5_litMany := goodIn_r _ [33, 34, 35, 36, 37, 5, 38, 1, 2, 3, 4, 6, 11, 12, 13, 14, 15, 16, 39, 40, 41, 42, 43, 44, 45, 46, 47, 48, 49, 50, 51, 52] (by decide +kernel) (by decide +kernel)
set_option maxRecDepth 20000 in
theorem gX5_sortNow_X5_litMany : GoodIn wsX5_sortNow (wsV RX5 120 RX5 yX5_litMany wsX5_litMany) := goodIn_app (goodIn_of _ (by decide +kernel)) ggX5_sortNow_X5_litMany
theorem dX5_sortNow_0 : decode cX5_sortNow 0 = .ok (.iconst 0, 1) := by decide +kernel
theorem dX5_sortNow_1 : decode cX5_sortNow 1 = .ok (.istore_n 2, 1) := by decide +kernel
theorem dX5_sortNow_2 : decode cX5_sortNow 2 = .ok (.iconst 0, 1) := by decide +kernel
theorem dX5_sortNow_3 : decode cX5_sortNow 3 = .ok (.istore_n 3, 1) := by decide +kernel
theorem dX5_sortNow_4 : decode cX5_sortNow 4 = .ok (.iload_n 3, 1) := by decide +kernel
theorem dX5_sortNow_5 : decode cX5_sortNow 5 = .ok (.aload_n 0, 1) := by decide +kernel
theorem dX5_sortNow_6 : decode cX5_sortNow 6 = .ok (.getfield 7, 3) := by decide +kernel
theorem dX5_sortNow_9 : decode cX5_sortNow 9 = .ok (.bipush 6, 2) := by decide +kernel
theorem dX5_sortNow_11 : decode cX5_sortNow 11 = .ok (.iaload, 1) := by decide +kernel
theorem dX5_sortNow_12 : decode cX5_sortNow 12 = .ok (.if_icmp .ge 84, 3) := by decide +kernel
theorem dX5_sortNow_15 : decode cX5_sortNow 15 = .ok (.iload_n 3, 1) := by decide +kernel
theorem dX5_sortNow_16 : decode cX5_sortNow 16 = .ok (.istore 4, 2) := by decide +kernel
theorem dX5_sortNow_18 : decode cX5_sortNow 18 = .ok (.iload_n 3, 1) := by decide +kernel
theorem dX5_sortNow_19 : decode cX5_sortNow 19 = .ok (.iconst 1, 1) := by decide +kernel
theorem dX5_sortNow_20 : decode cX5_sortNow 20 = .ok (.iadd, 1) := by decide +kernel
theorem dX5_sortNow_21 : decode cX5_sortNow 21 = .ok (.istore 5, 2) := by decide +kernel
theorem dX5_sortNow_23 : decode cX5_sortNow 23 = .ok (.iload 5, 2) := by decide +kernel
theorem dX5_sortNow_25 : decode cX5_sortNow 25 = .ok (.aload_n 0, 1) := by decide +kernel
theorem dX5_sortNow_26 : decode cX5_sortNow 26 = .ok (.getfield 7, 3) := by decide +kernel
theorem dX5_sortNow_29 : decode cX5_sortNow 29 = .ok (.bipush 6, 2) := by decide +kernel
theorem dX5_sortNow_31 : decode cX5_sortNow 31 = .ok (.iaload, 1) := by decide +kernel
theorem dX5_sortNow_32 : decode cX5_sortNow 32 = .ok (.if_icmp .ge 45, 3) := by decide +kernel
theorem dX5_sortNow_35 : decode cX5_sortNow 35 = .ok (.aload_n 0, 1) := by decide +kernel
theorem dX5_sortNow_36 : decode cX5_sortNow 36 = .ok (.iload_n 1, 1) := by decide +kernel
theorem dX5_sortNow_37 : decode cX5_sortNow 37 = .ok (.aload_n 0, 1) := by decide +kernel
theorem dX5_sortNow_38 : decode cX5_sortNow 38 = .ok (.iload 5, 2) := by decide +kernel
theorem dX5_sortNow_40 : decode cX5_sortNow 40 = .ok (.invokevirtual 50, 3) := by decide +kernel
theorem dX5_sortNow_43 : decode cX5_sortNow 43 = .ok (.iload_n 2, 1) := by decide +kernel
theorem dX5_sortNow_44 : decode cX5_sortNow 44 = .ok (.invokevirtual 133, 3) := by decide +kernel
theorem dX5_sortNow_47 : decode cX5_sortNow 47 = .ok (.aload_n 0, 1) := by decide +kernel
theorem dX5_sortNow_48 : decode cX5_sortNow 48 = .ok (.iload_n 1, 1) := by decide +kernel
theorem dX5_sortNow_49 : decode cX5_sortNow 49 = .ok (.aload_n 0, 1) := by decide +kernel
theorem dX5_sortNow_50 : decode cX5_sortNow 50 = .ok (.iload 4, 2) := by decide +kernel
theorem dX5_sortNow_52 : decode cX5_sortNow 52 = .ok (.invokevirtual 50, 3) := by decide +kernel
theorem dX5_sortNow_55 : decode cX5_sortNow 55 = .ok (.iload_n 2, 1) := by decide +kernel
theorem dX5_sortNow_56 : decode cX5_sortNow 56 = .ok (.invokevirtual 133, 3) := by decide +kernel
theorem dX5_sortNow_59 : decode cX5_sortNow 59 = .ok (.if_icmp .ge 8, 3) := by decide +kernel
theorem dX5_sortNow_62 : decode cX5_sortNow 62 = .ok (.iload 5, 2) := by decide +kernel
theorem dX5_sortNow_64 : decode cX5_sortNow 64 = .ok (.goto 5, 3) := by decide +kernel
theorem dX5_sortNow_67 : decode cX5_sortNow 67 = .ok (.iload 4, 2) := by decide +kernel
theorem dX5_sortNow_69 : decode cX5_sortNow 69 = .ok (.istore 4, 2) := by decide +kernel
theorem dX5_sortNow_71 : decode cX5_sortNow 71 = .ok (.iinc 5 1, 3) := by decide +kernel
theorem dX5_sortNow_74 : decode cX5_sortNow 74 = .ok (.goto (-51), 3) := by decide +kernel
theorem dX5_sortNow_77 : decode cX5_sortNow 77 = .ok (.aload_n 0, 1) := by decide +kernel
theorem dX5_sortNow_78 : decode cX5_sortNow 78 = .ok (.iload_n 3, 1) := by decide +kernel
theorem dX5_sortNow_79 : decode cX5_sortNow 79 = .ok (.iload 4, 2) := by decide +kernel
theorem dX5_sortNow_81 : decode cX5_sortNow 81 = .ok (.invokevirtual 116, 3) := by decide +kernel
theorem dX5_sortNow_84 : decode cX5_sortNow 84 = .ok (.aload_n 0, 1) := by decide +kernel
theorem dX5_sortNow_85 : decode cX5_sortNow 85 = .ok (.iload_n 3, 1) := by decide +kernel
theorem dX5_sortNow_86 : decode cX5_sortNow 86 = .ok (.invokevirtual 50, 3) := by decide +kernel
theorem dX5_sortNow_89 : decode cX5_sortNow 89 = .ok (.istore_n 2, 1) := by decide +kernel
theorem dX5_sortNow_90 : decode cX5_sortNow 90 = .ok (.iinc 3 1, 3) := by decide +kernel
theorem dX5_sortNow_93 : decode cX5_sortNow 93 = .ok (.goto (-89), 3) := by decide +kernel
theorem dX5_sortNow_96 : decode cX5_sortNow 96 = .ok (.aload_n 0, 1) := by decide +kernel
theorem dX5_sortNow_97 : decode cX5_sortNow 97 = .ok (.invokevirtual 120, 3) := by decide +kernel
theorem dX5_sortNow_100 : decode cX5_sortNow 100 = .ok (.ireturn, 1) := by decide +kernel
set_option maxRecDepth 20000 in
theorem ggX5_sort_X5_sortCode : GoodIn wsX5_sort wsX5_sortCode := goodIn_r _ [6, 7, 8, 5, 9] (by decide +kernel) (by decide +kernel)
set_option maxRecDepth 20000 in
theorem gX5_sort_X5_sortCode : GoodIn wsX5_sort (wsV RX5 136 RX5 yX5_sortCode wsX5_sortCode) := goodIn_app (goodIn_of _ (by decide +kernel)) ggX5_sort_X5_sortCode
set_option maxRecDepth 20000 in
theorem ggX5_sort_X5_act : GoodIn wsX5_sort wsX5_act := goodIn_r _ [13, 14, 15, 16, 57, 58, 59, 60, 61, 62, 63, 64, 65, 66, 67, 68, 69, 70] (by decide +kernel) (by decide +kernel)
set_option maxRecDepth 20000 in
theorem gX5_sort_X5_act : GoodIn wsX5_sort (wsV RX5 89 RX5 yX5_act wsX5_act) := goodIn_app (goodIn_of _ (by decide +kernel)) ggX5_sort_X5_act
set_option maxRecDepth 20000 in
theorem ggX5_sort_X5_sortNow : GoodIn wsX5_sort wsX5_sortNow := goodIn_r _ [20, 16, 21, 22, 23, 5, 24, 25, 26, 27, 28, 29, 30, 31, 32, 33, 34, 35, 36, 37, 38, 39, 40, 41, 42, 43, 44, 45, 46, 47, 48, 49, 50, 51, 52, 53, 54, 55, 56, 57, 58, 59, 60, 61, 62, 63, 64, 65, 66, 67, 68, 69, 70] (by decide +kernel) (by decide +kernel)
set_option maxRecDepth 20000 in
theorem gX5_sort_X5_sortNow : GoodIn wsX5_sort (wsV RX5 139 RX5 yX5_sortNow wsX5_sortNow) := goodIn_app (goodIn_of _ (by decide +kernel)) ggX5_sort_X5_sortNow
theorem dX5_sort_0 : decode cX5_sort 0 = .ok (.aload_n 0, 1) := by decide +kernel
theorem dX5_sort_1 : decode cX5_sort 1 = .ok (.iconst 0, 1) := by decide +kernel
theorem dX5_sort_2 : decode cX5_sort 2 = .ok (.putfield 32, 3) := by decide +kernel
theorem dX5_sort_5 : decode cX5_sort 5 = .ok (.aload_n 0, 1) := by decide +kernel
theorem dX5_sort_6 : decode cX5_sort 6 = .ok (.iload_n 1, 1) := by decide +kernel
theorem dX5_sort_7 : decode cX5_sort 7 = .ok (.invokevirtual 136, 3) := by decide +kernel
theorem dX5_sort_10 : decode cX5_sort 10 = .ok (.istore_n 2, 1) := by decide +kernel
theorem dX5_sort_11 : decode cX5_sort 11 = .ok (.iload_n 2, 1) := by decide +kernel
theorem dX5_sort_12 : decode cX5_sort 12 = .ok (.ifCond .ge 5, 3) := by decide +kernel
theorem dX5_sort_15 : decode cX5_sort 15 = .ok (.iload_n 2, 1) := by decide +kernel
theorem dX5_sort_16 : decode cX5_sort 16 = .ok (.ireturn, 1) := by decide +kernel
theorem dX5_sort_17 : decode cX5_sort 17 = .ok (.aload_n 0, 1) := by decide +kernel
theorem dX5_sort_18 : decode cX5_sort 18 = .ok (.invokevirtual 89, 3) := by decide +kernel
theorem dX5_sort_21 : decode cX5_sort 21 = .ok (.aload_n 0, 1) := by decide +kernel
theorem dX5_sort_22 : decode cX5_sort 22 = .ok (.iload_n 1, 1) := by decide +kernel
theorem dX5_sort_23 : decode cX5_sort 23 = .ok (.invokevirtual 139, 3) := by decide +kernel
theorem dX5_sort_26 : decode cX5_sort 26 = .ok (.ireturn, 1) := by decide +kernel
theorem dX5_inPicture_0 : decode cX5_inPicture 0 = .ok (.iconst 0, 1) := by decide +kernel
theorem dX5_inPicture_1 : decode cX5_inPicture 1 = .ok (.istore_n 2, 1) := by decide +kernel
theorem dX5_inPicture_2 : decode cX5_inPicture 2 = .ok (.iconst 0, 1) := by decide +kernel
theorem dX5_inPicture_3 : decode cX5_inPicture 3 = .ok (.istore_n 3, 1) := by decide +kernel
theorem dX5_inPicture_4 : decode cX5_inPicture 4 = .ok (.iload_n 3, 1) := by decide +kernel
theorem dX5_inPicture_5 : decode cX5_inPicture 5 = .ok (.bipush 64, 2) := by decide +kernel
theorem dX5_inPicture_7 : decode cX5_inPicture 7 = .ok (.if_icmp .ge 31, 3) := by decide +kernel
theorem dX5_inPicture_10 : decode cX5_inPicture 10 = .ok (.iload_n 2, 1) := by decide +kernel
theorem dX5_inPicture_11 : decode cX5_inPicture 11 = .ok (.aload_n 0, 1) := by decide +kernel
theorem dX5_inPicture_12 : decode cX5_inPicture 12 = .ok (.getfield 7, 3) := by decide +kernel
theorem dX5_inPicture_15 : decode cX5_inPicture 15 = .ok (.iload_n 1, 1) := by decide +kernel
theorem dX5_inPicture_16 : decode cX5_inPicture 16 = .ok (.ifCond .ne 8, 3) := by decide +kernel
theorem dX5_inPicture_19 : decode cX5_inPicture 19 = .ok (.bipush 83, 2) := by decide +kernel
theorem dX5_inPicture_21 : decode cX5_inPicture 21 = .ok (.goto 6, 3) := by decide +kernel
theorem dX5_inPicture_24 : decode cX5_inPicture 24 = .ok (.sipush 147, 3) := by decide +kernel
theorem dX5_inPicture_27 : decode cX5_inPicture 27 = .ok (.iload_n 3, 1) := by decide +kernel
theorem dX5_inPicture_28 : decode cX5_inPicture 28 = .ok (.iadd, 1) := by decide +kernel
theorem dX5_inPicture_29 : decode cX5_inPicture 29 = .ok (.iaload, 1) := by decide +kernel
theorem dX5_inPicture_30 : decode cX5_inPicture 30 = .ok (.iadd, 1) := by decide +kernel
theorem dX5_inPicture_31 : decode cX5_inPicture 31 = .ok (.istore_n 2, 1) := by decide +kernel
theorem dX5_inPicture_32 : decode cX5_inPicture 32 = .ok (.iinc 3 1, 3) := by decide +kernel
theorem dX5_inPicture_35 : decode cX5_inPicture 35 = .ok (.goto (-31), 3) := by decide +kernel
theorem dX5_inPicture_38 : decode cX5_inPicture 38 = .ok (.iload_n 2, 1) := by decide +kernel
theorem dX5_inPicture_39 : decode cX5_inPicture 39 = .ok (.ireturn, 1) := by decide +kernel
set_option maxRecDepth 20000 in
theorem ggX5_drawNow_X5_inPicture : GoodIn wsX5_drawNow wsX5_inPicture := goodIn_r _ [6, 1, 7, 8, 9, 10, 11, 12, 13, 14, 15, 16, 17, 18, 19, 20] (by decide +kernel) (by decide +kernel)
set_option maxRecDepth 20000 in
theorem gX5_drawNow_X5_inPicture : GoodIn wsX5_drawNow (wsV RX5 142 RX5 yX5_inPicture wsX5_inPicture) := goodIn_app (goodIn_of _ (by decide +kernel)) ggX5_drawNow_X5_inPicture
theorem dX5_drawNow_0 : decode cX5_drawNow 0 = .ok (.aload_n 0, 1) := by decide +kernel
theorem dX5_drawNow_1 : decode cX5_drawNow 1 = .ok (.getfield 7, 3) := by decide +kernel
theorem dX5_drawNow_4 : decode cX5_drawNow 4 = .ok (.iload_n 1, 1) := by decide +kernel
theorem dX5_drawNow_5 : decode cX5_drawNow 5 = .ok (.ifCond .ne 8, 3) := by decide +kernel
theorem dX5_drawNow_8 : decode cX5_drawNow 8 = .ok (.bipush 83, 2) := by decide +kernel
theorem dX5_drawNow_10 : decode cX5_drawNow 10 = .ok (.goto 6, 3) := by decide +kernel
theorem dX5_drawNow_13 : decode cX5_drawNow 13 = .ok (.sipush 147, 3) := by decide +kernel
theorem dX5_drawNow_16 : decode cX5_drawNow 16 = .ok (.iload_n 2, 1) := by decide +kernel
theorem dX5_drawNow_17 : decode cX5_drawNow 17 = .ok (.iadd, 1) := by decide +kernel
theorem dX5_drawNow_18 : decode cX5_drawNow 18 = .ok (.iload_n 3, 1) := by decide +kernel
theorem dX5_drawNow_19 : decode cX5_drawNow 19 = .ok (.iastore, 1) := by decide +kernel
theorem dX5_drawNow_20 : decode cX5_drawNow 20 = .ok (.aload_n 0, 1) := by decide +kernel
theorem dX5_drawNow_21 : decode cX5_drawNow 21 = .ok (.iload_n 1, 1) := by decide +kernel
theorem dX5_drawNow_22 : decode cX5_drawNow 22 = .ok (.invokevirtual 142, 3) := by decide +kernel
theorem dX5_drawNow_25 : decode cX5_drawNow 25 = .ok (.ireturn, 1) := by decide +kernel
set_option maxRecDepth 20000 in
theorem ggX5_draw_X5_isBit : GoodIn wsX5_draw wsX5_isBit := goodIn_r _ [5, 6, 7, 4, 8] (by decide +kernel) (by decide +kernel)
set_option maxRecDepth 20000 in
theorem gX5_draw_X5_isBit : GoodIn wsX5_draw (va_wsS RX5 145 yX5_isBit wsX5_isBit) := goodIn_app (goodIn_of _ (by decide +kernel)) ggX5_draw_X5_isBit
set_option maxRecDepth 20000 in
theorem ggX5_draw_X5_isSpot : GoodIn wsX5_draw wsX5_isSpot := goodIn_r _ [11, 6, 7, 4, 8] (by decide +kernel) (by decide +kernel)
set_option maxRecDepth 20000 in
theorem gX5_draw_X5_isSpot : GoodIn wsX5_draw (va_wsS RX5 92 yX5_isSpot wsX5_isSpot) := goodIn_app (goodIn_of _ (by decide +kernel)) ggX5_draw_X5_isSpot
set_option maxRecDepth 20000 in
theorem ggX5_draw_X5_act : GoodIn wsX5_draw wsX5_act := goodIn_r _ [15, 16, 17, 18, 27, 28, 29, 30, 31, 32, 33, 34, 35, 36, 37, 38, 39, 40] (by decide +kernel) (by decide +kernel)
set_option maxRecDepth 20000 in
theorem gX5_draw_X5_act : GoodIn wsX5_draw (wsV RX5 89 RX5 yX5_act wsX5_act) := goodIn_app (goodIn_of _ (by decide +kernel)) ggX5_draw_X5_act
set_option maxRecDepth 20000 in
theorem ggX5_draw_X5_drawNow : GoodIn wsX5_draw wsX5_drawNow := goodIn_r _ [22, 18, 23, 24, 25, 4, 26, 27, 28, 29, 30, 31, 32, 33, 34, 35, 36, 37, 38, 39, 40] (by decide +kernel) (by decide +kernel)
set_option maxRecDepth 20000 in
theorem gX5_draw_X5_drawNow : GoodIn wsX5_draw (wsV RX5 148 RX5 yX5_drawNow wsX5_drawNow) := goodIn_app (goodIn_of _ (by decide +kernel)) ggX5_draw_X5_drawNow
theorem dX5_draw_0 : decode cX5_draw 0 = .ok (.aload_n 0, 1) := by decide +kernel
theorem dX5_draw_1 : decode cX5_draw 1 = .ok (.iconst 0, 1) := by decide +kernel
theorem dX5_draw_2 : decode cX5_draw 2 = .ok (.putfield 32, 3) := by decide +kernel
theorem dX5_draw_5 : decode cX5_draw 5 = .ok (.iload_n 1, 1) := by decide +kernel
theorem dX5_draw_6 : decode cX5_draw 6 = .ok (.invokestatic 145, 3) := by decide +kernel
theorem dX5_draw_9 : decode cX5_draw 9 = .ok (.ifCond .eq 17, 3) := by decide +kernel
theorem dX5_draw_12 : decode cX5_draw 12 = .ok (.iload_n 2, 1) := by decide +kernel
theorem dX5_draw_13 : decode cX5_draw 13 = .ok (.invokestatic 92, 3) := by decide +kernel
theorem dX5_draw_16 : decode cX5_draw 16 = .ok (.ifCond .eq 10, 3) := by decide +kernel
theorem dX5_draw_19 : decode cX5_draw 19 = .ok (.iload_n 3, 1) := by decide +kernel
theorem dX5_draw_20 : decode cX5_draw 20 = .ok (.invokestatic 145, 3) := by decide +kernel
theorem dX5_draw_23 : decode cX5_draw 23 = .ok (.ifCond .ne 5, 3) := by decide +kernel
theorem dX5_draw_26 : decode cX5_draw 26 = .ok (.iconst (-1), 1) := by decide +kernel
theorem dX5_draw_27 : decode cX5_draw 27 = .ok (.ireturn, 1) := by decide +kernel
theorem dX5_draw_28 : decode cX5_draw 28 = .ok (.aload_n 0, 1) := by decide +kernel
theorem dX5_draw_29 : decode cX5_draw 29 = .ok (.invokevirtual 89, 3) := by decide +kernel
theorem dX5_draw_32 : decode cX5_draw 32 = .ok (.aload_n 0, 1) := by decide +kernel
theorem dX5_draw_33 : decode cX5_draw 33 = .ok (.iload_n 1, 1) := by decide +kernel
theorem dX5_draw_34 : decode cX5_draw 34 = .ok (.iload_n 2, 1) := by decide +kernel
theorem dX5_draw_35 : decode cX5_draw 35 = .ok (.iload_n 3, 1) := by decide +kernel
theorem dX5_draw_36 : decode cX5_draw 36 = .ok (.invokevirtual 148, 3) := by decide +kernel
theorem dX5_draw_39 : decode cX5_draw 39 = .ok (.ireturn, 1) := by decide +kernel
theorem dX5_slotAt_0 : decode cX5_slotAt 0 = .ok (.sipush 211, 3) := by decide +kernel
theorem dX5_slotAt_3 : decode cX5_slotAt 3 = .ok (.sipush 212, 3) := by decide +kernel
theorem dX5_slotAt_6 : decode cX5_slotAt 6 = .ok (.iload_n 0, 1) := by decide +kernel
theorem dX5_slotAt_7 : decode cX5_slotAt 7 = .ok (.imul, 1) := by decide +kernel
theorem dX5_slotAt_8 : decode cX5_slotAt 8 = .ok (.iadd, 1) := by decide +kernel
theorem dX5_slotAt_9 : decode cX5_slotAt 9 = .ok (.ireturn, 1) := by decide +kernel
set_option maxRecDepth 20000 in
theorem ggX5_take_X5_isBit : GoodIn wsX5_take wsX5_isBit := goodIn_r _ [6, 7, 8, 5, 9] (by decide +kernel) (by decide +kernel)
set_option maxRecDepth 20000 in
theorem gX5_take_X5_isBit : GoodIn wsX5_take (va_wsS RX5 145 yX5_isBit wsX5_isBit) := goodIn_app (goodIn_of _ (by decide +kernel)) ggX5_take_X5_isBit
set_option maxRecDepth 20000 in
theorem ggX5_take_X5_act : GoodIn wsX5_take wsX5_act := goodIn_r _ [13, 14, 15, 2, 19, 20, 21, 22, 23, 24, 25, 26, 27, 28, 29, 30, 31, 32] (by decide +kernel) (by decide +kernel)
set_option maxRecDepth 20000 in
theorem gX5_take_X5_act : GoodIn wsX5_take (wsV RX5 89 RX5 yX5_act wsX5_act) := goodIn_app (goodIn_of _ (by decide +kernel)) ggX5_take_X5_act
set_option maxRecDepth 20000 in
theorem ggX5_take_X5_slotAt : GoodIn wsX5_take wsX5_slotAt := goodIn_r _ [18] (by decide +kernel) (by decide +kernel)
set_option maxRecDepth 20000 in
theorem gX5_take_X5_slotAt : GoodIn wsX5_take (va_wsS RX5 151 yX5_slotAt wsX5_slotAt) := goodIn_app (goodIn_of _ (by decide +kernel)) ggX5_take_X5_slotAt
theorem dX5_take_0 : decode cX5_take 0 = .ok (.aload_n 0, 1) := by decide +kernel
theorem dX5_take_1 : decode cX5_take 1 = .ok (.iconst 0, 1) := by decide +kernel
theorem dX5_take_2 : decode cX5_take 2 = .ok (.putfield 32, 3) := by decide +kernel
theorem dX5_take_5 : decode cX5_take 5 = .ok (.iload_n 1, 1) := by decide +kernel
theorem dX5_take_6 : decode cX5_take 6 = .ok (.invokestatic 145, 3) := by decide +kernel
theorem dX5_take_9 : decode cX5_take 9 = .ok (.ifCond .ne 5, 3) := by decide +kernel
theorem dX5_take_12 : decode cX5_take 12 = .ok (.iconst (-1), 1) := by decide +kernel
theorem dX5_take_13 : decode cX5_take 13 = .ok (.ireturn, 1) := by decide +kernel
theorem dX5_take_14 : decode cX5_take 14 = .ok (.aload_n 0, 1) := by decide +kernel
theorem dX5_take_15 : decode cX5_take 15 = .ok (.invokevirtual 89, 3) := by decide +kernel
theorem dX5_take_18 : decode cX5_take 18 = .ok (.aload_n 0, 1) := by decide +kernel
theorem dX5_take_19 : decode cX5_take 19 = .ok (.getfield 7, 3) := by decide +kernel
theorem dX5_take_22 : decode cX5_take 22 = .ok (.iload_n 1, 1) := by decide +kernel
theorem dX5_take_23 : decode cX5_take 23 = .ok (.invokestatic 151, 3) := by decide +kernel
theorem dX5_take_26 : decode cX5_take 26 = .ok (.iconst 1, 1) := by decide +kernel
theorem dX5_take_27 : decode cX5_take 27 = .ok (.iastore, 1) := by decide +kernel
theorem dX5_take_28 : decode cX5_take 28 = .ok (.iconst 0, 1) := by decide +kernel
theorem dX5_take_29 : decode cX5_take 29 = .ok (.istore_n 2, 1) := by decide +kernel
theorem dX5_take_30 : decode cX5_take 30 = .ok (.iload_n 2, 1) := by decide +kernel
theorem dX5_take_31 : decode cX5_take 31 = .ok (.sipush 211, 3) := by decide +kernel
theorem dX5_take_34 : decode cX5_take 34 = .ok (.if_icmp .ge 28, 3) := by decide +kernel
theorem dX5_take_37 : decode cX5_take 37 = .ok (.aload_n 0, 1) := by decide +kernel
theorem dX5_take_38 : decode cX5_take 38 = .ok (.getfield 7, 3) := by decide +kernel
theorem dX5_take_41 : decode cX5_take 41 = .ok (.iload_n 1, 1) := by decide +kernel
theorem dX5_take_42 : decode cX5_take 42 = .ok (.invokestatic 151, 3) := by decide +kernel
theorem dX5_take_45 : decode cX5_take 45 = .ok (.iconst 1, 1) := by decide +kernel
theorem dX5_take_46 : decode cX5_take 46 = .ok (.iadd, 1) := by decide +kernel
theorem dX5_take_47 : decode cX5_take 47 = .ok (.iload_n 2, 1) := by decide +kernel
theorem dX5_take_48 : decode cX5_take 48 = .ok (.iadd, 1) := by decide +kernel
theorem dX5_take_49 : decode cX5_take 49 = .ok (.aload_n 0, 1) := by decide +kernel
theorem dX5_take_50 : decode cX5_take 50 = .ok (.getfield 7, 3) := by decide +kernel
theorem dX5_take_53 : decode cX5_take 53 = .ok (.iload_n 2, 1) := by decide +kernel
theorem dX5_take_54 : decode cX5_take 54 = .ok (.iaload, 1) := by decide +kernel
theorem dX5_take_55 : decode cX5_take 55 = .ok (.iastore, 1) := by decide +kernel
theorem dX5_take_56 : decode cX5_take 56 = .ok (.iinc 2 1, 3) := by decide +kernel
theorem dX5_take_59 : decode cX5_take 59 = .ok (.goto (-29), 3) := by decide +kernel
theorem dX5_take_62 : decode cX5_take 62 = .ok (.aload_n 0, 1) := by decide +kernel
theorem dX5_take_63 : decode cX5_take 63 = .ok (.getfield 7, 3) := by decide +kernel
theorem dX5_take_66 : decode cX5_take 66 = .ok (.bipush 6, 2) := by decide +kernel
theorem dX5_take_68 : decode cX5_take 68 = .ok (.iaload, 1) := by decide +kernel
theorem dX5_take_69 : decode cX5_take 69 = .ok (.ireturn, 1) := by decide +kernel
set_option maxRecDepth 20000 in
theorem ggX5_restore_X5_isBit : GoodIn wsX5_restore wsX5_isBit := goodIn_r _ [6, 7, 8, 5, 9] (by decide +kernel) (by decide +kernel)
set_option maxRecDepth 20000 in
theorem gX5_restore_X5_isBit : GoodIn wsX5_restore (va_wsS RX5 145 yX5_isBit wsX5_isBit) := goodIn_app (goodIn_of _ (by decide +kernel)) ggX5_restore_X5_isBit
set_option maxRecDepth 20000 in
theorem ggX5_restore_X5_slotAt : GoodIn wsX5_restore wsX5_slotAt := goodIn_r _ [12] (by decide +kernel) (by decide +kernel)
set_option maxRecDepth 20000 in
theorem gX5_restore_X5_slotAt : GoodIn wsX5_restore (va_wsS RX5 151 yX5_slotAt wsX5_slotAt) := goodIn_app (goodIn_of _ (by decide +kernel)) ggX5_restore_X5_slotAt
set_option maxRecDepth 20000 in
theorem ggX5_restore_X5_act : GoodIn wsX5_restore wsX5_act := goodIn_r _ [16, 17, 18, 2, 19, 20, 21, 22, 23, 24, 25, 26, 27, 28, 29, 30, 31, 32] (by decide +kernel) (by decide +kernel)
set_option maxRecDepth 20000 in
theorem gX5_restore_X5_act : GoodIn wsX5_restore (wsV RX5 89 RX5 yX5_act wsX5_act) := goodIn_app (goodIn_of _ (by decide +kernel)) ggX5_restore_X5_act
theorem dX5_restore_0 : decode cX5_restore 0 = .ok (.aload_n 0, 1) := by decide +kernel
theorem dX5_restore_1 : decode cX5_restore 1 = .ok (.iconst 0, 1) := by decide +kernel
theorem dX5_restore_2 : decode cX5_restore 2 = .ok (.putfield 32, 3) := by decide +kernel
theorem dX5_restore_5 : decode cX5_restore 5 = .ok (.iload_n 1, 1) := by decide +kernel
theorem dX5_restore_6 : decode cX5_restore 6 = .ok (.invokestatic 145, 3) := by decide +kernel
theorem dX5_restore_9 : decode cX5_restore 9 = .ok (.ifCond .ne 5, 3) := by decide +kernel
theorem dX5_restore_12 : decode cX5_restore 12 = .ok (.iconst (-1), 1) := by decide +kernel
theorem dX5_restore_13 : decode cX5_restore 13 = .ok (.ireturn, 1) := by decide +kernel
theorem dX5_restore_14 : decode cX5_restore 14 = .ok (.aload_n 0, 1) := by decide +kernel
theorem dX5_restore_15 : decode cX5_restore 15 = .ok (.getfield 7, 3) := by decide +kernel
theorem dX5_restore_18 : decode cX5_restore 18 = .ok (.iload_n 1, 1) := by decide +kernel
theorem dX5_restore_19 : decode cX5_restore 19 = .ok (.invokestatic 151, 3) := by decide +kernel
theorem dX5_restore_22 : decode cX5_restore 22 = .ok (.iaload, 1) := by decide +kernel
theorem dX5_restore_23 : decode cX5_restore 23 = .ok (.ifCond .ne 6, 3) := by decide +kernel
theorem dX5_restore_26 : decode cX5_restore 26 = .ok (.bipush (-2), 2) := by decide +kernel
theorem dX5_restore_28 : decode cX5_restore 28 = .ok (.ireturn, 1) := by decide +kernel
theorem dX5_restore_29 : decode cX5_restore 29 = .ok (.aload_n 0, 1) := by decide +kernel
theorem dX5_restore_30 : decode cX5_restore 30 = .ok (.invokevirtual 89, 3) := by decide +kernel
theorem dX5_restore_33 : decode cX5_restore 33 = .ok (.iconst 0, 1) := by decide +kernel
theorem dX5_restore_34 : decode cX5_restore 34 = .ok (.istore_n 2, 1) := by decide +kernel
theorem dX5_restore_35 : decode cX5_restore 35 = .ok (.iload_n 2, 1) := by decide +kernel
theorem dX5_restore_36 : decode cX5_restore 36 = .ok (.sipush 211, 3) := by decide +kernel
theorem dX5_restore_39 : decode cX5_restore 39 = .ok (.if_icmp .ge 28, 3) := by decide +kernel
theorem dX5_restore_42 : decode cX5_restore 42 = .ok (.aload_n 0, 1) := by decide +kernel
theorem dX5_restore_43 : decode cX5_restore 43 = .ok (.getfield 7, 3) := by decide +kernel
theorem dX5_restore_46 : decode cX5_restore 46 = .ok (.iload_n 2, 1) := by decide +kernel
theorem dX5_restore_47 : decode cX5_restore 47 = .ok (.aload_n 0, 1) := by decide +kernel
theorem dX5_restore_48 : decode cX5_restore 48 = .ok (.getfield 7, 3) := by decide +kernel
theorem dX5_restore_51 : decode cX5_restore 51 = .ok (.iload_n 1, 1) := by decide +kernel
theorem dX5_restore_52 : decode cX5_restore 52 = .ok (.invokestatic 151, 3) := by decide +kernel
theorem dX5_restore_55 : decode cX5_restore 55 = .ok (.iconst 1, 1) := by decide +kernel
theorem dX5_restore_56 : decode cX5_restore 56 = .ok (.iadd, 1) := by decide +kernel
theorem dX5_restore_57 : decode cX5_restore 57 = .ok (.iload_n 2, 1) := by decide +kernel
theorem dX5_restore_58 : decode cX5_restore 58 = .ok (.iadd, 1) := by decide +kernel
theorem dX5_restore_59 : decode cX5_restore 59 = .ok (.iaload, 1) := by decide +kernel
theorem dX5_restore_60 : decode cX5_restore 60 = .ok (.iastore, 1) := by decide +kernel
theorem dX5_restore_61 : decode cX5_restore 61 = .ok (.iinc 2 1, 3) := by decide +kernel
theorem dX5_restore_64 : decode cX5_restore 64 = .ok (.goto (-29), 3) := by decide +kernel
theorem dX5_restore_67 : decode cX5_restore 67 = .ok (.aload_n 0, 1) := by decide +kernel
theorem dX5_restore_68 : decode cX5_restore 68 = .ok (.getfield 7, 3) := by decide +kernel
theorem dX5_restore_71 : decode cX5_restore 71 = .ok (.bipush 6, 2) := by decide +kernel
theorem dX5_restore_73 : decode cX5_restore 73 = .ok (.iaload, 1) := by decide +kernel
theorem dX5_restore_74 : decode cX5_restore 74 = .ok (.ireturn, 1) := by decide +kernel
theorem dX5_undo_0 : decode cX5_undo 0 = .ok (.aload_n 0, 1) := by decide +kernel
theorem dX5_undo_1 : decode cX5_undo 1 = .ok (.iconst 0, 1) := by decide +kernel
theorem dX5_undo_2 : decode cX5_undo 2 = .ok (.putfield 32, 3) := by decide +kernel
theorem dX5_undo_5 : decode cX5_undo 5 = .ok (.aload_n 0, 1) := by decide +kernel
theorem dX5_undo_6 : decode cX5_undo 6 = .ok (.getfield 40, 3) := by decide +kernel
theorem dX5_undo_9 : decode cX5_undo 9 = .ok (.ifCond .ne 6, 3) := by decide +kernel
theorem dX5_undo_12 : decode cX5_undo 12 = .ok (.bipush (-2), 2) := by decide +kernel
theorem dX5_undo_14 : decode cX5_undo 14 = .ok (.ireturn, 1) := by decide +kernel
theorem dX5_undo_15 : decode cX5_undo 15 = .ok (.aload_n 0, 1) := by decide +kernel
theorem dX5_undo_16 : decode cX5_undo 16 = .ok (.dup, 1) := by decide +kernel
theorem dX5_undo_17 : decode cX5_undo 17 = .ok (.getfield 40, 3) := by decide +kernel
theorem dX5_undo_20 : decode cX5_undo 20 = .ok (.iconst 1, 1) := by decide +kernel
theorem dX5_undo_21 : decode cX5_undo 21 = .ok (.isub, 1) := by decide +kernel
theorem dX5_undo_22 : decode cX5_undo 22 = .ok (.putfield 40, 3) := by decide +kernel
theorem dX5_undo_25 : decode cX5_undo 25 = .ok (.iconst 0, 1) := by decide +kernel
theorem dX5_undo_26 : decode cX5_undo 26 = .ok (.istore_n 1, 1) := by decide +kernel
theorem dX5_undo_27 : decode cX5_undo 27 = .ok (.iload_n 1, 1) := by decide +kernel
theorem dX5_undo_28 : decode cX5_undo 28 = .ok (.sipush 635, 3) := by decide +kernel
theorem dX5_undo_31 : decode cX5_undo 31 = .ok (.if_icmp .ge 30, 3) := by decide +kernel
theorem dX5_undo_34 : decode cX5_undo 34 = .ok (.aload_n 0, 1) := by decide +kernel
theorem dX5_undo_35 : decode cX5_undo 35 = .ok (.getfield 7, 3) := by decide +kernel
theorem dX5_undo_38 : decode cX5_undo 38 = .ok (.iload_n 1, 1) := by decide +kernel
theorem dX5_undo_39 : decode cX5_undo 39 = .ok (.aload_n 0, 1) := by decide +kernel
theorem dX5_undo_40 : decode cX5_undo 40 = .ok (.getfield 16, 3) := by decide +kernel
theorem dX5_undo_43 : decode cX5_undo 43 = .ok (.sipush 635, 3) := by decide +kernel
theorem dX5_undo_46 : decode cX5_undo 46 = .ok (.aload_n 0, 1) := by decide +kernel
theorem dX5_undo_47 : decode cX5_undo 47 = .ok (.getfield 40, 3) := by decide +kernel
theorem dX5_undo_50 : decode cX5_undo 50 = .ok (.imul, 1) := by decide +kernel
theorem dX5_undo_51 : decode cX5_undo 51 = .ok (.iload_n 1, 1) := by decide +kernel
theorem dX5_undo_52 : decode cX5_undo 52 = .ok (.iadd, 1) := by decide +kernel
theorem dX5_undo_53 : decode cX5_undo 53 = .ok (.iaload, 1) := by decide +kernel
theorem dX5_undo_54 : decode cX5_undo 54 = .ok (.iastore, 1) := by decide +kernel
theorem dX5_undo_55 : decode cX5_undo 55 = .ok (.iinc 1 1, 3) := by decide +kernel
theorem dX5_undo_58 : decode cX5_undo 58 = .ok (.goto (-31), 3) := by decide +kernel
theorem dX5_undo_61 : decode cX5_undo 61 = .ok (.aload_n 0, 1) := by decide +kernel
theorem dX5_undo_62 : decode cX5_undo 62 = .ok (.getfield 40, 3) := by decide +kernel
theorem dX5_undo_65 : decode cX5_undo 65 = .ok (.ireturn, 1) := by decide +kernel
set_option maxRecDepth 20000 in
theorem ggX5_append_X5_in : GoodIn wsX5_append wsX5_in := goodIn_r _ [7] (by decide +kernel) (by decide +kernel)
set_option maxRecDepth 20000 in
theorem gX5_append_X5_in : GoodIn wsX5_append (va_wsS RX5 36 yX5_in wsX5_in) := goodIn_app (goodIn_of _ (by decide +kernel)) ggX5_append_X5_in
theorem dX5_append_0 : decode cX5_append 0 = .ok (.aload_n 0, 1) := by decide +kernel
theorem dX5_append_1 : decode cX5_append 1 = .ok (.iconst 0, 1) := by decide +kernel
theorem dX5_append_2 : decode cX5_append 2 = .ok (.putfield 32, 3) := by decide +kernel
theorem dX5_append_5 : decode cX5_append 5 = .ok (.iload_n 1, 1) := by decide +kernel
theorem dX5_append_6 : decode cX5_append 6 = .ok (.iconst 1, 1) := by decide +kernel
theorem dX5_append_7 : decode cX5_append 7 = .ok (.sipush 255, 3) := by decide +kernel
theorem dX5_append_10 : decode cX5_append 10 = .ok (.invokestatic 36, 3) := by decide +kernel
theorem dX5_append_13 : decode cX5_append 13 = .ok (.ifCond .ne 5, 3) := by decide +kernel
theorem dX5_append_16 : decode cX5_append 16 = .ok (.iconst (-1), 1) := by decide +kernel
theorem dX5_append_17 : decode cX5_append 17 = .ok (.ireturn, 1) := by decide +kernel
theorem dX5_append_18 : decode cX5_append 18 = .ok (.aload_n 0, 1) := by decide +kernel
theorem dX5_append_19 : decode cX5_append 19 = .ok (.getfield 154, 3) := by decide +kernel
theorem dX5_append_22 : decode cX5_append 22 = .ok (.sipush 140, 3) := by decide +kernel
theorem dX5_append_25 : decode cX5_append 25 = .ok (.if_icmp .ne 6, 3) := by decide +kernel
theorem dX5_append_28 : decode cX5_append 28 = .ok (.bipush (-3), 2) := by decide +kernel
theorem dX5_append_30 : decode cX5_append 30 = .ok (.ireturn, 1) := by decide +kernel
theorem dX5_append_31 : decode cX5_append 31 = .ok (.aload_n 0, 1) := by decide +kernel
theorem dX5_append_32 : decode cX5_append 32 = .ok (.getfield 19, 3) := by decide +kernel
theorem dX5_append_35 : decode cX5_append 35 = .ok (.aload_n 0, 1) := by decide +kernel
theorem dX5_append_36 : decode cX5_append 36 = .ok (.getfield 154, 3) := by decide +kernel
theorem dX5_append_39 : decode cX5_append 39 = .ok (.iload_n 1, 1) := by decide +kernel
theorem dX5_append_40 : decode cX5_append 40 = .ok (.iastore, 1) := by decide +kernel
theorem dX5_append_41 : decode cX5_append 41 = .ok (.aload_n 0, 1) := by decide +kernel
theorem dX5_append_42 : decode cX5_append 42 = .ok (.dup, 1) := by decide +kernel
theorem dX5_append_43 : decode cX5_append 43 = .ok (.getfield 154, 3) := by decide +kernel
theorem dX5_append_46 : decode cX5_append 46 = .ok (.iconst 1, 1) := by decide +kernel
theorem dX5_append_47 : decode cX5_append 47 = .ok (.iadd, 1) := by decide +kernel
theorem dX5_append_48 : decode cX5_append 48 = .ok (.putfield 154, 3) := by decide +kernel
theorem dX5_append_51 : decode cX5_append 51 = .ok (.aload_n 0, 1) := by decide +kernel
theorem dX5_append_52 : decode cX5_append 52 = .ok (.getfield 154, 3) := by decide +kernel
theorem dX5_append_55 : decode cX5_append 55 = .ok (.ireturn, 1) := by decide +kernel
theorem dX5_clearText_0 : decode cX5_clearText 0 = .ok (.aload_n 0, 1) := by decide +kernel
theorem dX5_clearText_1 : decode cX5_clearText 1 = .ok (.iconst 0, 1) := by decide +kernel
theorem dX5_clearText_2 : decode cX5_clearText 2 = .ok (.putfield 32, 3) := by decide +kernel
theorem dX5_clearText_5 : decode cX5_clearText 5 = .ok (.aload_n 0, 1) := by decide +kernel
theorem dX5_clearText_6 : decode cX5_clearText 6 = .ok (.getfield 154, 3) := by decide +kernel
theorem dX5_clearText_9 : decode cX5_clearText 9 = .ok (.istore_n 1, 1) := by decide +kernel
theorem dX5_clearText_10 : decode cX5_clearText 10 = .ok (.aload_n 0, 1) := by decide +kernel
theorem dX5_clearText_11 : decode cX5_clearText 11 = .ok (.iconst 0, 1) := by decide +kernel
theorem dX5_clearText_12 : decode cX5_clearText 12 = .ok (.putfield 154, 3) := by decide +kernel
theorem dX5_clearText_15 : decode cX5_clearText 15 = .ok (.iload_n 1, 1) := by decide +kernel
theorem dX5_clearText_16 : decode cX5_clearText 16 = .ok (.ireturn, 1) := by decide +kernel
theorem dX5_sign_0 : decode cX5_sign 0 = .ok (.iload_n 1, 1) := by decide +kernel
theorem dX5_sign_1 : decode cX5_sign 1 = .ok (.aload_n 0, 1) := by decide +kernel
theorem dX5_sign_2 : decode cX5_sign 2 = .ok (.getfield 154, 3) := by decide +kernel
theorem dX5_sign_5 : decode cX5_sign 5 = .ok (.if_icmp .ge 12, 3) := by decide +kernel
theorem dX5_sign_8 : decode cX5_sign 8 = .ok (.aload_n 0, 1) := by decide +kernel
theorem dX5_sign_9 : decode cX5_sign 9 = .ok (.getfield 19, 3) := by decide +kernel
theorem dX5_sign_12 : decode cX5_sign 12 = .ok (.iload_n 1, 1) := by decide +kernel
theorem dX5_sign_13 : decode cX5_sign 13 = .ok (.iaload, 1) := by decide +kernel
theorem dX5_sign_14 : decode cX5_sign 14 = .ok (.goto 4, 3) := by decide +kernel
theorem dX5_sign_17 : decode cX5_sign 17 = .ok (.iconst (-1), 1) := by decide +kernel
theorem dX5_sign_18 : decode cX5_sign 18 = .ok (.ireturn, 1) := by decide +kernel
set_option maxRecDepth 20000 in
theorem ggX5_next_X5_sign : GoodIn wsX5_next wsX5_sign := goodIn_r _ [9, 4, 10, 14, 15, 16, 17, 18, 19, 20, 21, 22, 23, 24, 25, 26, 27] (by decide +kernel) (by decide +kernel)
set_option maxRecDepth 20000 in
theorem gX5_next_X5_sign : GoodIn wsX5_next (wsV RX5 163 RX5 yX5_sign wsX5_sign) := goodIn_app (goodIn_of _ (by decide +kernel)) ggX5_next_X5_sign
set_option maxRecDepth 20000 in
theorem ggX5_next_X5_in : GoodIn wsX5_next wsX5_in := goodIn_r _ [13] (by decide +kernel) (by decide +kernel)
set_option maxRecDepth 20000 in
theorem gX5_next_X5_in : GoodIn wsX5_next (va_wsS RX5 36 yX5_in wsX5_in) := goodIn_app (goodIn_of _ (by decide +kernel)) ggX5_next_X5_in
theorem dX5_next_0 : decode cX5_next 0 = .ok (.aload_n 0, 1) := by decide +kernel
theorem dX5_next_1 : decode cX5_next 1 = .ok (.aload_n 0, 1) := by decide +kernel
theorem dX5_next_2 : decode cX5_next 2 = .ok (.getfield 157, 3) := by decide +kernel
theorem dX5_next_5 : decode cX5_next 5 = .ok (.putfield 160, 3) := by decide +kernel
theorem dX5_next_8 : decode cX5_next 8 = .ok (.aload_n 0, 1) := by decide +kernel
theorem dX5_next_9 : decode cX5_next 9 = .ok (.aload_n 0, 1) := by decide +kernel
theorem dX5_next_10 : decode cX5_next 10 = .ok (.getfield 160, 3) := by decide +kernel
theorem dX5_next_13 : decode cX5_next 13 = .ok (.invokevirtual 163, 3) := by decide +kernel
theorem dX5_next_16 : decode cX5_next 16 = .ok (.bipush 32, 2) := by decide +kernel
theorem dX5_next_18 : decode cX5_next 18 = .ok (.if_icmp .ne 16, 3) := by decide +kernel
theorem dX5_next_21 : decode cX5_next 21 = .ok (.aload_n 0, 1) := by decide +kernel
theorem dX5_next_22 : decode cX5_next 22 = .ok (.dup, 1) := by decide +kernel
theorem dX5_next_23 : decode cX5_next 23 = .ok (.getfield 160, 3) := by decide +kernel
theorem dX5_next_26 : decode cX5_next 26 = .ok (.iconst 1, 1) := by decide +kernel
theorem dX5_next_27 : decode cX5_next 27 = .ok (.iadd, 1) := by decide +kernel
theorem dX5_next_28 : decode cX5_next 28 = .ok (.putfield 160, 3) := by decide +kernel
theorem dX5_next_31 : decode cX5_next 31 = .ok (.goto (-23), 3) := by decide +kernel
theorem dX5_next_34 : decode cX5_next 34 = .ok (.aload_n 0, 1) := by decide +kernel
theorem dX5_next_35 : decode cX5_next 35 = .ok (.aload_n 0, 1) := by decide +kernel
theorem dX5_next_36 : decode cX5_next 36 = .ok (.getfield 160, 3) := by decide +kernel
theorem dX5_next_39 : decode cX5_next 39 = .ok (.putfield 157, 3) := by decide +kernel
theorem dX5_next_42 : decode cX5_next 42 = .ok (.aload_n 0, 1) := by decide +kernel
theorem dX5_next_43 : decode cX5_next 43 = .ok (.aload_n 0, 1) := by decide +kernel
theorem dX5_next_44 : decode cX5_next 44 = .ok (.getfield 160, 3) := by decide +kernel
theorem dX5_next_47 : decode cX5_next 47 = .ok (.invokevirtual 163, 3) := by decide +kernel
theorem dX5_next_50 : decode cX5_next 50 = .ok (.bipush 97, 2) := by decide +kernel
theorem dX5_next_52 : decode cX5_next 52 = .ok (.bipush 122, 2) := by decide +kernel
theorem dX5_next_54 : decode cX5_next 54 = .ok (.invokestatic 36, 3) := by decide +kernel
theorem dX5_next_57 : decode cX5_next 57 = .ok (.ifCond .eq 39, 3) := by decide +kernel
theorem dX5_next_60 : decode cX5_next 60 = .ok (.aload_n 0, 1) := by decide +kernel
theorem dX5_next_61 : decode cX5_next 61 = .ok (.iconst 1, 1) := by decide +kernel
theorem dX5_next_62 : decode cX5_next 62 = .ok (.putfield 166, 3) := by decide +kernel
theorem dX5_next_65 : decode cX5_next 65 = .ok (.aload_n 0, 1) := by decide +kernel
theorem dX5_next_66 : decode cX5_next 66 = .ok (.aload_n 0, 1) := by decide +kernel
theorem dX5_next_67 : decode cX5_next 67 = .ok (.getfield 157, 3) := by decide +kernel
theorem dX5_next_70 : decode cX5_next 70 = .ok (.invokevirtual 163, 3) := by decide +kernel
theorem dX5_next_73 : decode cX5_next 73 = .ok (.bipush 97, 2) := by decide +kernel
theorem dX5_next_75 : decode cX5_next 75 = .ok (.bipush 122, 2) := by decide +kernel
theorem dX5_next_77 : decode cX5_next 77 = .ok (.invokestatic 36, 3) := by decide +kernel
theorem dX5_next_80 : decode cX5_next 80 = .ok (.ifCond .eq 115, 3) := by decide +kernel
theorem dX5_next_83 : decode cX5_next 83 = .ok (.aload_n 0, 1) := by decide +kernel
theorem dX5_next_84 : decode cX5_next 84 = .ok (.dup, 1) := by decide +kernel
theorem dX5_next_85 : decode cX5_next 85 = .ok (.getfield 157, 3) := by decide +kernel
theorem dX5_next_88 : decode cX5_next 88 = .ok (.iconst 1, 1) := by decide +kernel
theorem dX5_next_89 : decode cX5_next 89 = .ok (.iadd, 1) := by decide +kernel
theorem dX5_next_90 : decode cX5_next 90 = .ok (.putfield 157, 3) := by decide +kernel
theorem dX5_next_93 : decode cX5_next 93 = .ok (.goto (-28), 3) := by decide +kernel
theorem dX5_next_96 : decode cX5_next 96 = .ok (.aload_n 0, 1) := by decide +kernel
theorem dX5_next_97 : decode cX5_next 97 = .ok (.aload_n 0, 1) := by decide +kernel
theorem dX5_next_98 : decode cX5_next 98 = .ok (.getfield 160, 3) := by decide +kernel
theorem dX5_next_101 : decode cX5_next 101 = .ok (.invokevirtual 163, 3) := by decide +kernel
theorem dX5_next_104 : decode cX5_next 104 = .ok (.bipush 48, 2) := by decide +kernel
theorem dX5_next_106 : decode cX5_next 106 = .ok (.bipush 57, 2) := by decide +kernel
theorem dX5_next_108 : decode cX5_next 108 = .ok (.invokestatic 36, 3) := by decide +kernel
theorem dX5_next_111 : decode cX5_next 111 = .ok (.ifCond .eq 39, 3) := by decide +kernel
theorem dX5_next_114 : decode cX5_next 114 = .ok (.aload_n 0, 1) := by decide +kernel
theorem dX5_next_115 : decode cX5_next 115 = .ok (.iconst 2, 1) := by decide +kernel
theorem dX5_next_116 : decode cX5_next 116 = .ok (.putfield 166, 3) := by decide +kernel
theorem dX5_next_119 : decode cX5_next 119 = .ok (.aload_n 0, 1) := by decide +kernel
theorem dX5_next_120 : decode cX5_next 120 = .ok (.aload_n 0, 1) := by decide +kernel
theorem dX5_next_121 : decode cX5_next 121 = .ok (.getfield 157, 3) := by decide +kernel
theorem dX5_next_124 : decode cX5_next 124 = .ok (.invokevirtual 163, 3) := by decide +kernel
theorem dX5_next_127 : decode cX5_next 127 = .ok (.bipush 48, 2) := by decide +kernel
theorem dX5_next_129 : decode cX5_next 129 = .ok (.bipush 57, 2) := by decide +kernel
theorem dX5_next_131 : decode cX5_next 131 = .ok (.invokestatic 36, 3) := by decide +kernel
theorem dX5_next_134 : decode cX5_next 134 = .ok (.ifCond .eq 61, 3) := by decide +kernel
theorem dX5_next_137 : decode cX5_next 137 = .ok (.aload_n 0, 1) := by decide +kernel
theorem dX5_next_138 : decode cX5_next 138 = .ok (.dup, 1) := by decide +kernel
theorem dX5_next_139 : decode cX5_next 139 = .ok (.getfield 157, 3) := by decide +kernel
theorem dX5_next_142 : decode cX5_next 142 = .ok (.iconst 1, 1) := by decide +kernel
theorem dX5_next_143 : decode cX5_next 143 = .ok (.iadd, 1) := by decide +kernel
theorem dX5_next_144 : decode cX5_next 144 = .ok (.putfield 157, 3) := by decide +kernel
theorem dX5_next_147 : decode cX5_next 147 = .ok (.goto (-28), 3) := by decide +kernel
theorem dX5_next_150 : decode cX5_next 150 = .ok (.aload_n 0, 1) := by decide +kernel
theorem dX5_next_151 : decode cX5_next 151 = .ok (.aload_n 0, 1) := by decide +kernel
theorem dX5_next_152 : decode cX5_next 152 = .ok (.getfield 160, 3) := by decide +kernel
theorem dX5_next_155 : decode cX5_next 155 = .ok (.aload_n 0, 1) := by decide +kernel
theorem dX5_next_156 : decode cX5_next 156 = .ok (.getfield 154, 3) := by decide +kernel
theorem dX5_next_159 : decode cX5_next 159 = .ok (.if_icmp .ge 7, 3) := by decide +kernel
theorem dX5_next_162 : decode cX5_next 162 = .ok (.iconst 3, 1) := by decide +kernel
theorem dX5_next_163 : decode cX5_next 163 = .ok (.goto 4, 3) := by decide +kernel
theorem dX5_next_166 : decode cX5_next 166 = .ok (.iconst 0, 1) := by decide +kernel
theorem dX5_next_167 : decode cX5_next 167 = .ok (.putfield 166, 3) := by decide +kernel
theorem dX5_next_170 : decode cX5_next 170 = .ok (.aload_n 0, 1) := by decide +kernel
theorem dX5_next_171 : decode cX5_next 171 = .ok (.dup, 1) := by decide +kernel
theorem dX5_next_172 : decode cX5_next 172 = .ok (.getfield 157, 3) := by decide +kernel
theorem dX5_next_175 : decode cX5_next 175 = .ok (.aload_n 0, 1) := by decide +kernel
theorem dX5_next_176 : decode cX5_next 176 = .ok (.getfield 160, 3) := by decide +kernel
theorem dX5_next_179 : decode cX5_next 179 = .ok (.aload_n 0, 1) := by decide +kernel
theorem dX5_next_180 : decode cX5_next 180 = .ok (.getfield 154, 3) := by decide +kernel
theorem dX5_next_183 : decode cX5_next 183 = .ok (.if_icmp .ge 7, 3) := by decide +kernel
theorem dX5_next_186 : decode cX5_next 186 = .ok (.iconst 1, 1) := by decide +kernel
theorem dX5_next_187 : decode cX5_next 187 = .ok (.goto 4, 3) := by decide +kernel
theorem dX5_next_190 : decode cX5_next 190 = .ok (.iconst 0, 1) := by decide +kernel
theorem dX5_next_191 : decode cX5_next 191 = .ok (.iadd, 1) := by decide +kernel
theorem dX5_next_192 : decode cX5_next 192 = .ok (.putfield 157, 3) := by decide +kernel
theorem dX5_next_195 : decode cX5_next 195 = .ok (.return_, 1) := by decide +kernel
theorem dX5_fail_0 : decode cX5_fail 0 = .ok (.aload_n 0, 1) := by decide +kernel
theorem dX5_fail_1 : decode cX5_fail 1 = .ok (.aload_n 0, 1) := by decide +kernel
theorem dX5_fail_2 : decode cX5_fail 2 = .ok (.getfield 169, 3) := by decide +kernel
theorem dX5_fail_5 : decode cX5_fail 5 = .ok (.ifCond .ge 7, 3) := by decide +kernel
theorem dX5_fail_8 : decode cX5_fail 8 = .ok (.iload_n 1, 1) := by decide +kernel
theorem dX5_fail_9 : decode cX5_fail 9 = .ok (.goto 7, 3) := by decide +kernel
theorem dX5_fail_12 : decode cX5_fail 12 = .ok (.aload_n 0, 1) := by decide +kernel
theorem dX5_fail_13 : decode cX5_fail 13 = .ok (.getfield 169, 3) := by decide +kernel
theorem dX5_fail_16 : decode cX5_fail 16 = .ok (.putfield 169, 3) := by decide +kernel
theorem dX5_fail_19 : decode cX5_fail 19 = .ok (.return_, 1) := by decide +kernel
theorem dX5_spelled_0 : decode cX5_spelled 0 = .ok (.iload_n 0, 1) := by decide +kernel
theorem dX5_spelled_1 : decode cX5_spelled 1 = .ok (.ifCond .ne 7, 3) := by decide +kernel
theorem dX5_spelled_4 : decode cX5_spelled 4 = .ok (.iload_n 1, 1) := by decide +kernel
theorem dX5_spelled_5 : decode cX5_spelled 5 = .ok (.goto 52, 3) := by decide +kernel
theorem dX5_spelled_8 : decode cX5_spelled 8 = .ok (.iload_n 0, 1) := by decide +kernel
theorem dX5_spelled_9 : decode cX5_spelled 9 = .ok (.iconst 1, 1) := by decide +kernel
theorem dX5_spelled_10 : decode cX5_spelled 10 = .ok (.if_icmp .ne 7, 3) := by decide +kernel
theorem dX5_spelled_13 : decode cX5_spelled 13 = .ok (.iload_n 2, 1) := by decide +kernel
theorem dX5_spelled_14 : decode cX5_spelled 14 = .ok (.goto 43, 3) := by decide +kernel
theorem dX5_spelled_17 : decode cX5_spelled 17 = .ok (.iload_n 0, 1) := by decide +kernel
theorem dX5_spelled_18 : decode cX5_spelled 18 = .ok (.iconst 2, 1) := by decide +kernel
theorem dX5_spelled_19 : decode cX5_spelled 19 = .ok (.if_icmp .ne 7, 3) := by decide +kernel
theorem dX5_spelled_22 : decode cX5_spelled 22 = .ok (.iload_n 3, 1) := by decide +kernel
theorem dX5_spelled_23 : decode cX5_spelled 23 = .ok (.goto 34, 3) := by decide +kernel
theorem dX5_spelled_26 : decode cX5_spelled 26 = .ok (.iload_n 0, 1) := by decide +kernel
theorem dX5_spelled_27 : decode cX5_spelled 27 = .ok (.iconst 3, 1) := by decide +kernel
theorem dX5_spelled_28 : decode cX5_spelled 28 = .ok (.if_icmp .ne 8, 3) := by decide +kernel
theorem dX5_spelled_31 : decode cX5_spelled 31 = .ok (.iload 4, 2) := by decide +kernel
theorem dX5_spelled_33 : decode cX5_spelled 33 = .ok (.goto 24, 3) := by decide +kernel
theorem dX5_spelled_36 : decode cX5_spelled 36 = .ok (.iload_n 0, 1) := by decide +kernel
theorem dX5_spelled_37 : decode cX5_spelled 37 = .ok (.iconst 4, 1) := by decide +kernel
theorem dX5_spelled_38 : decode cX5_spelled 38 = .ok (.if_icmp .ne 8, 3) := by decide +kernel
theorem dX5_spelled_41 : decode cX5_spelled 41 = .ok (.iload 5, 2) := by decide +kernel
theorem dX5_spelled_43 : decode cX5_spelled 43 = .ok (.goto 14, 3) := by decide +kernel
theorem dX5_spelled_46 : decode cX5_spelled 46 = .ok (.iload_n 0, 1) := by decide +kernel
theorem dX5_spelled_47 : decode cX5_spelled 47 = .ok (.iconst 5, 1) := by decide +kernel
theorem dX5_spelled_48 : decode cX5_spelled 48 = .ok (.if_icmp .ne 8, 3) := by decide +kernel
theorem dX5_spelled_51 : decode cX5_spelled 51 = .ok (.iload 6, 2) := by decide +kernel
theorem dX5_spelled_53 : decode cX5_spelled 53 = .ok (.goto 4, 3) := by decide +kernel
theorem dX5_spelled_56 : decode cX5_spelled 56 = .ok (.iconst 0, 1) := by decide +kernel
theorem dX5_spelled_57 : decode cX5_spelled 57 = .ok (.ireturn, 1) := by decide +kernel
set_option maxRecDepth 20000 in
theorem ggX5_letterOf_X5_spelled : GoodIn wsX5_letterOf wsX5_spelled := goodIn_r _ [4] (by decide +kernel) (by decide +kernel)
set_option maxRecDepth 20000 in
theorem gX5_letterOf_X5_spelled : GoodIn wsX5_letterOf (va_wsS RX5 172 yX5_spelled wsX5_spelled) := goodIn_app (goodIn_of _ (by decide +kernel)) ggX5_letterOf_X5_spelled
theorem dX5_letterOf_0 : decode cX5_letterOf 0 = .ok (.iload_n 0, 1) := by decide +kernel
theorem dX5_letterOf_1 : decode cX5_letterOf 1 = .ok (.tableswitch 132 0 5 #[39, 55, 70, 85, 100, 117], 39) := by decide +kernel
theorem dX5_letterOf_40 : decode cX5_letterOf 40 = .ok (.iload_n 1, 1) := by decide +kernel
theorem dX5_letterOf_41 : decode cX5_letterOf 41 = .ok (.bipush 108, 2) := by decide +kernel
theorem dX5_letterOf_43 : decode cX5_letterOf 43 = .ok (.bipush 105, 2) := by decide +kernel
theorem dX5_letterOf_45 : decode cX5_letterOf 45 = .ok (.bipush 103, 2) := by decide +kernel
theorem dX5_letterOf_47 : decode cX5_letterOf 47 = .ok (.bipush 104, 2) := by decide +kernel
theorem dX5_letterOf_49 : decode cX5_letterOf 49 = .ok (.bipush 116, 2) := by decide +kernel
theorem dX5_letterOf_51 : decode cX5_letterOf 51 = .ok (.iconst 0, 1) := by decide +kernel
theorem dX5_letterOf_52 : decode cX5_letterOf 52 = .ok (.invokestatic 172, 3) := by decide +kernel
theorem dX5_letterOf_55 : decode cX5_letterOf 55 = .ok (.ireturn, 1) := by decide +kernel
theorem dX5_letterOf_56 : decode cX5_letterOf 56 = .ok (.iload_n 1, 1) := by decide +kernel
theorem dX5_letterOf_57 : decode cX5_letterOf 57 = .ok (.bipush 100, 2) := by decide +kernel
theorem dX5_letterOf_59 : decode cX5_letterOf 59 = .ok (.bipush 97, 2) := by decide +kernel
theorem dX5_letterOf_61 : decode cX5_letterOf 61 = .ok (.bipush 114, 2) := by decide +kernel
theorem dX5_letterOf_63 : decode cX5_letterOf 63 = .ok (.bipush 107, 2) := by decide +kernel
theorem dX5_letterOf_65 : decode cX5_letterOf 65 = .ok (.iconst 0, 1) := by decide +kernel
theorem dX5_letterOf_66 : decode cX5_letterOf 66 = .ok (.iconst 0, 1) := by decide +kernel
theorem dX5_letterOf_67 : decode cX5_letterOf 67 = .ok (.invokestatic 172, 3) := by decide +kernel
theorem dX5_letterOf_70 : decode cX5_letterOf 70 = .ok (.ireturn, 1) := by decide +kernel
theorem dX5_letterOf_71 : decode cX5_letterOf 71 = .ok (.iload_n 1, 1) := by decide +kernel
theorem dX5_letterOf_72 : decode cX5_letterOf 72 = .ok (.bipush 107, 2) := by decide +kernel
theorem dX5_letterOf_74 : decode cX5_letterOf 74 = .ok (.bipush 105, 2) := by decide +kernel
theorem dX5_letterOf_76 : decode cX5_letterOf 76 = .ok (.bipush 110, 2) := by decide +kernel
theorem dX5_letterOf_78 : decode cX5_letterOf 78 = .ok (.bipush 100, 2) := by decide +kernel
theorem dX5_letterOf_80 : decode cX5_letterOf 80 = .ok (.iconst 0, 1) := by decide +kernel
theorem dX5_letterOf_81 : decode cX5_letterOf 81 = .ok (.iconst 0, 1) := by decide +kernel
theorem dX5_letterOf_82 : decode cX5_letterOf 82 = .ok (.invokestatic 172, 3) := by decide +kernel
theorem dX5_letterOf_85 : decode cX5_letterOf 85 = .ok (.ireturn, 1) := by decide +kernel
theorem dX5_letterOf_86 : decode cX5_letterOf 86 = .ok (.iload_n 1, 1) := by decide +kernel
theorem dX5_letterOf_87 : decode cX5_letterOf 87 = .ok (.bipush 100, 2) := by decide +kernel
theorem dX5_letterOf_89 : decode cX5_letterOf 89 = .ok (.bipush 117, 2) := by decide +kernel
theorem dX5_letterOf_91 : decode cX5_letterOf 91 = .ok (.bipush 108, 2) := by decide +kernel
theorem dX5_letterOf_93 : decode cX5_letterOf 93 = .ok (.bipush 108, 2) := by decide +kernel
theorem dX5_letterOf_95 : decode cX5_letterOf 95 = .ok (.iconst 0, 1) := by decide +kernel
theorem dX5_letterOf_96 : decode cX5_letterOf 96 = .ok (.iconst 0, 1) := by decide +kernel
theorem dX5_letterOf_97 : decode cX5_letterOf 97 = .ok (.invokestatic 172, 3) := by decide +kernel
theorem dX5_letterOf_100 : decode cX5_letterOf 100 = .ok (.ireturn, 1) := by decide +kernel
theorem dX5_letterOf_101 : decode cX5_letterOf 101 = .ok (.iload_n 1, 1) := by decide +kernel
theorem dX5_letterOf_102 : decode cX5_letterOf 102 = .ok (.bipush 115, 2) := by decide +kernel
theorem dX5_letterOf_104 : decode cX5_letterOf 104 = .ok (.bipush 101, 2) := by decide +kernel
theorem dX5_letterOf_106 : decode cX5_letterOf 106 = .ok (.bipush 99, 2) := by decide +kernel
theorem dX5_letterOf_108 : decode cX5_letterOf 108 = .ok (.bipush 114, 2) := by decide +kernel
theorem dX5_letterOf_110 : decode cX5_letterOf 110 = .ok (.bipush 101, 2) := by decide +kernel
theorem dX5_letterOf_112 : decode cX5_letterOf 112 = .ok (.bipush 116, 2) := by decide +kernel
theorem dX5_letterOf_114 : decode cX5_letterOf 114 = .ok (.invokestatic 172, 3) := by decide +kernel
theorem dX5_letterOf_117 : decode cX5_letterOf 117 = .ok (.ireturn, 1) := by decide +kernel
theorem dX5_letterOf_118 : decode cX5_letterOf 118 = .ok (.iload_n 1, 1) := by decide +kernel
theorem dX5_letterOf_119 : decode cX5_letterOf 119 = .ok (.bipush 115, 2) := by decide +kernel
theorem dX5_letterOf_121 : decode cX5_letterOf 121 = .ok (.bipush 111, 2) := by decide +kernel
theorem dX5_letterOf_123 : decode cX5_letterOf 123 = .ok (.bipush 114, 2) := by decide +kernel
theorem dX5_letterOf_125 : decode cX5_letterOf 125 = .ok (.bipush 116, 2) := by decide +kernel
theorem dX5_letterOf_127 : decode cX5_letterOf 127 = .ok (.iconst 0, 1) := by decide +kernel
theorem dX5_letterOf_128 : decode cX5_letterOf 128 = .ok (.iconst 0, 1) := by decide +kernel
theorem dX5_letterOf_129 : decode cX5_letterOf 129 = .ok (.invokestatic 172, 3) := by decide +kernel
theorem dX5_letterOf_132 : decode cX5_letterOf 132 = .ok (.ireturn, 1) := by decide +kernel
theorem dX5_letterOf_133 : decode cX5_letterOf 133 = .ok (.iload_n 1, 1) := by decide +kernel
theorem dX5_letterOf_134 : decode cX5_letterOf 134 = .ok (.bipush 115, 2) := by decide +kernel
theorem dX5_letterOf_136 : decode cX5_letterOf 136 = .ok (.bipush 119, 2) := by decide +kernel
theorem dX5_letterOf_138 : decode cX5_letterOf 138 = .ok (.bipush 97, 2) := by decide +kernel
theorem dX5_letterOf_140 : decode cX5_letterOf 140 = .ok (.bipush 112, 2) := by decide +kernel
theorem dX5_letterOf_142 : decode cX5_letterOf 142 = .ok (.iconst 0, 1) := by decide +kernel
theorem dX5_letterOf_143 : decode cX5_letterOf 143 = .ok (.iconst 0, 1) := by decide +kernel
theorem dX5_letterOf_144 : decode cX5_letterOf 144 = .ok (.invokestatic 172, 3) := by decide +kernel
theorem dX5_letterOf_147 : decode cX5_letterOf 147 = .ok (.ireturn, 1) := by decide +kernel
set_option maxRecDepth 20000 in
theorem ggX5_isWord_X5_letterOf : GoodIn wsX5_isWord wsX5_letterOf := goodIn_r _ [6, 7, 8, 5, 9] (by decide +kernel) (by decide +kernel)
set_option maxRecDepth 20000 in
theorem gX5_isWord_X5_letterOf : GoodIn wsX5_isWord (va_wsS RX5 176 yX5_letterOf wsX5_letterOf) := goodIn_app (goodIn_of _ (by decide +kernel)) ggX5_isWord_X5_letterOf
set_option maxRecDepth 20000 in
theorem ggX5_isWord_X5_sign : GoodIn wsX5_isWord wsX5_sign := goodIn_r _ [13, 14, 15, 16, 17, 18, 19, 20, 21, 22, 23, 24, 25, 26, 27, 28, 29] (by decide +kernel) (by decide +kernel)
set_option maxRecDepth 20000 in
theorem gX5_isWord_X5_sign : GoodIn wsX5_isWord (wsV RX5 163 RX5 yX5_sign wsX5_sign) := goodIn_app (goodIn_of _ (by decide +kernel)) ggX5_isWord_X5_sign
theorem dX5_isWord_0 : decode cX5_isWord 0 = .ok (.iconst 1, 1) := by decide +kernel
theorem dX5_isWord_1 : decode cX5_isWord 1 = .ok (.istore_n 2, 1) := by decide +kernel
theorem dX5_isWord_2 : decode cX5_isWord 2 = .ok (.iconst 0, 1) := by decide +kernel
theorem dX5_isWord_3 : decode cX5_isWord 3 = .ok (.istore_n 3, 1) := by decide +kernel
theorem dX5_isWord_4 : decode cX5_isWord 4 = .ok (.iload_n 3, 1) := by decide +kernel
theorem dX5_isWord_5 : decode cX5_isWord 5 = .ok (.aload_n 0, 1) := by decide +kernel
theorem dX5_isWord_6 : decode cX5_isWord 6 = .ok (.getfield 157, 3) := by decide +kernel
theorem dX5_isWord_9 : decode cX5_isWord 9 = .ok (.aload_n 0, 1) := by decide +kernel
theorem dX5_isWord_10 : decode cX5_isWord 10 = .ok (.getfield 160, 3) := by decide +kernel
theorem dX5_isWord_13 : decode cX5_isWord 13 = .ok (.isub, 1) := by decide +kernel
theorem dX5_isWord_14 : decode cX5_isWord 14 = .ok (.if_icmp .gt 54, 3) := by decide +kernel
theorem dX5_isWord_17 : decode cX5_isWord 17 = .ok (.iload_n 2, 1) := by decide +kernel
theorem dX5_isWord_18 : decode cX5_isWord 18 = .ok (.ifCond .eq 50, 3) := by decide +kernel
theorem dX5_isWord_21 : decode cX5_isWord 21 = .ok (.iload_n 1, 1) := by decide +kernel
theorem dX5_isWord_22 : decode cX5_isWord 22 = .ok (.iload_n 3, 1) := by decide +kernel
theorem dX5_isWord_23 : decode cX5_isWord 23 = .ok (.invokestatic 176, 3) := by decide +kernel
theorem dX5_isWord_26 : decode cX5_isWord 26 = .ok (.iload_n 3, 1) := by decide +kernel
theorem dX5_isWord_27 : decode cX5_isWord 27 = .ok (.aload_n 0, 1) := by decide +kernel
theorem dX5_isWord_28 : decode cX5_isWord 28 = .ok (.getfield 157, 3) := by decide +kernel
theorem dX5_isWord_31 : decode cX5_isWord 31 = .ok (.aload_n 0, 1) := by decide +kernel
theorem dX5_isWord_32 : decode cX5_isWord 32 = .ok (.getfield 160, 3) := by decide +kernel
theorem dX5_isWord_35 : decode cX5_isWord 35 = .ok (.isub, 1) := by decide +kernel
theorem dX5_isWord_36 : decode cX5_isWord 36 = .ok (.if_icmp .ge 16, 3) := by decide +kernel
theorem dX5_isWord_39 : decode cX5_isWord 39 = .ok (.aload_n 0, 1) := by decide +kernel
theorem dX5_isWord_40 : decode cX5_isWord 40 = .ok (.aload_n 0, 1) := by decide +kernel
theorem dX5_isWord_41 : decode cX5_isWord 41 = .ok (.getfield 160, 3) := by decide +kernel
theorem dX5_isWord_44 : decode cX5_isWord 44 = .ok (.iload_n 3, 1) := by decide +kernel
theorem dX5_isWord_45 : decode cX5_isWord 45 = .ok (.iadd, 1) := by decide +kernel
theorem dX5_isWord_46 : decode cX5_isWord 46 = .ok (.invokevirtual 163, 3) := by decide +kernel
theorem dX5_isWord_49 : decode cX5_isWord 49 = .ok (.goto 4, 3) := by decide +kernel
theorem dX5_isWord_52 : decode cX5_isWord 52 = .ok (.iconst 0, 1) := by decide +kernel
theorem dX5_isWord_53 : decode cX5_isWord 53 = .ok (.if_icmp .ne 7, 3) := by decide +kernel
theorem dX5_isWord_56 : decode cX5_isWord 56 = .ok (.iconst 1, 1) := by decide +kernel
theorem dX5_isWord_57 : decode cX5_isWord 57 = .ok (.goto 4, 3) := by decide +kernel
theorem dX5_isWord_60 : decode cX5_isWord 60 = .ok (.iconst 0, 1) := by decide +kernel
theorem dX5_isWord_61 : decode cX5_isWord 61 = .ok (.istore_n 2, 1) := by decide +kernel
theorem dX5_isWord_62 : decode cX5_isWord 62 = .ok (.iinc 3 1, 3) := by decide +kernel
theorem dX5_isWord_65 : decode cX5_isWord 65 = .ok (.goto (-61), 3) := by decide +kernel
theorem dX5_isWord_68 : decode cX5_isWord 68 = .ok (.iload_n 2, 1) := by decide +kernel
theorem dX5_isWord_69 : decode cX5_isWord 69 = .ok (.ireturn, 1) := by decide +kernel
set_option maxRecDepth 20000 in
theorem ggX5_wordHere_X5_isWord : GoodIn wsX5_wordHere wsX5_isWord := goodIn_r _ [6, 7, 8, 9, 10, 5, 11, 12, 13, 14, 15, 16, 17, 18, 19, 20, 21, 22, 23, 24, 25, 26, 27, 28, 29, 30, 31, 32, 33, 34] (by decide +kernel) (by decide +kernel)
set_option maxRecDepth 20000 in
theorem gX5_wordHere_X5_isWord : GoodIn wsX5_wordHere (wsV RX5 179 RX5 yX5_isWord wsX5_isWord) := goodIn_app (goodIn_of _ (by decide +kernel)) ggX5_wordHere_X5_isWord
theorem dX5_wordHere_0 : decode cX5_wordHere 0 = .ok (.iconst 0, 1) := by decide +kernel
theorem dX5_wordHere_1 : decode cX5_wordHere 1 = .ok (.istore_n 1, 1) := by decide +kernel
theorem dX5_wordHere_2 : decode cX5_wordHere 2 = .ok (.iload_n 1, 1) := by decide +kernel
theorem dX5_wordHere_3 : decode cX5_wordHere 3 = .ok (.bipush 7, 2) := by decide +kernel
theorem dX5_wordHere_5 : decode cX5_wordHere 5 = .ok (.if_icmp .ge 17, 3) := by decide +kernel
theorem dX5_wordHere_8 : decode cX5_wordHere 8 = .ok (.aload_n 0, 1) := by decide +kernel
theorem dX5_wordHere_9 : decode cX5_wordHere 9 = .ok (.iload_n 1, 1) := by decide +kernel
theorem dX5_wordHere_10 : decode cX5_wordHere 10 = .ok (.invokevirtual 179, 3) := by decide +kernel
theorem dX5_wordHere_13 : decode cX5_wordHere 13 = .ok (.ifCond .ne 9, 3) := by decide +kernel
theorem dX5_wordHere_16 : decode cX5_wordHere 16 = .ok (.iinc 1 1, 3) := by decide +kernel
theorem dX5_wordHere_19 : decode cX5_wordHere 19 = .ok (.goto (-17), 3) := by decide +kernel
theorem dX5_wordHere_22 : decode cX5_wordHere 22 = .ok (.aload_n 0, 1) := by decide +kernel
theorem dX5_wordHere_23 : decode cX5_wordHere 23 = .ok (.getfield 166, 3) := by decide +kernel
theorem dX5_wordHere_26 : decode cX5_wordHere 26 = .ok (.iconst 1, 1) := by decide +kernel
theorem dX5_wordHere_27 : decode cX5_wordHere 27 = .ok (.if_icmp .ne 7, 3) := by decide +kernel
theorem dX5_wordHere_30 : decode cX5_wordHere 30 = .ok (.iload_n 1, 1) := by decide +kernel
theorem dX5_wordHere_31 : decode cX5_wordHere 31 = .ok (.goto 5, 3) := by decide +kernel
theorem dX5_wordHere_34 : decode cX5_wordHere 34 = .ok (.bipush 7, 2) := by decide +kernel
theorem dX5_wordHere_36 : decode cX5_wordHere 36 = .ok (.ireturn, 1) := by decide +kernel
set_option maxRecDepth 20000 in
theorem ggX5_readNumber_X5_sign : GoodIn wsX5_readNumber wsX5_sign := goodIn_r _ [9, 10, 11, 24, 25, 26, 27, 28, 29, 30, 31, 32, 33, 34, 35, 36, 37] (by decide +kernel) (by decide +kernel)
set_option maxRecDepth 20000 in
theorem gX5_readNumber_X5_sign : GoodIn wsX5_readNumber (wsV RX5 163 RX5 yX5_sign wsX5_sign) := goodIn_app (goodIn_of _ (by decide +kernel)) ggX5_readNumber_X5_sign
set_option maxRecDepth 20000 in
theorem ggX5_readNumber_X5_fail : GoodIn wsX5_readNumber wsX5_fail := goodIn_r _ [15, 16, 24, 25, 26, 27, 28, 29, 30, 31, 32, 33, 34, 35, 36, 37] (by decide +kernel) (by decide +kernel)
set_option maxRecDepth 20000 in
theorem gX5_readNumber_X5_fail : GoodIn wsX5_readNumber (wsV RX5 182 RX5 yX5_fail wsX5_fail) := goodIn_app (goodIn_of _ (by decide +kernel)) ggX5_readNumber_X5_fail
set_option maxRecDepth 20000 in
theorem ggX5_readNumber_X5_next : GoodIn wsX5_readNumber wsX5_next := goodIn_r _ [20, 2, 3, 1, 10, 5, 6, 7, 8, 9, 11, 21, 22, 23, 24, 25, 26, 27, 28, 29, 30, 31, 32, 33, 34, 35, 36, 37] (by decide +kernel) (by decide +kernel)
set_option maxRecDepth 20000 in
theorem gX5_readNumber_X5_next : GoodIn wsX5_readNumber (wsV RX5 186 RX5 yX5_next wsX5_next) := goodIn_app (goodIn_of _ (by decide +kernel)) ggX5_readNumber_X5_next
theorem dX5_readNumber_0 : decode cX5_readNumber 0 = .ok (.aload_n 0, 1) := by decide +kernel
theorem dX5_readNumber_1 : decode cX5_readNumber 1 = .ok (.getfield 166, 3) := by decide +kernel
theorem dX5_readNumber_4 : decode cX5_readNumber 4 = .ok (.iconst 2, 1) := by decide +kernel
theorem dX5_readNumber_5 : decode cX5_readNumber 5 = .ok (.if_icmp .ne 42, 3) := by decide +kernel
theorem dX5_readNumber_8 : decode cX5_readNumber 8 = .ok (.aload_n 0, 1) := by decide +kernel
theorem dX5_readNumber_9 : decode cX5_readNumber 9 = .ok (.getfield 157, 3) := by decide +kernel
theorem dX5_readNumber_12 : decode cX5_readNumber 12 = .ok (.aload_n 0, 1) := by decide +kernel
theorem dX5_readNumber_13 : decode cX5_readNumber 13 = .ok (.getfield 160, 3) := by decide +kernel
theorem dX5_readNumber_16 : decode cX5_readNumber 16 = .ok (.isub, 1) := by decide +kernel
theorem dX5_readNumber_17 : decode cX5_readNumber 17 = .ok (.iconst 4, 1) := by decide +kernel
theorem dX5_readNumber_18 : decode cX5_readNumber 18 = .ok (.if_icmp .gt 29, 3) := by decide +kernel
theorem dX5_readNumber_21 : decode cX5_readNumber 21 = .ok (.aload_n 0, 1) := by decide +kernel
theorem dX5_readNumber_22 : decode cX5_readNumber 22 = .ok (.getfield 157, 3) := by decide +kernel
theorem dX5_readNumber_25 : decode cX5_readNumber 25 = .ok (.aload_n 0, 1) := by decide +kernel
theorem dX5_readNumber_26 : decode cX5_readNumber 26 = .ok (.getfield 160, 3) := by decide +kernel
theorem dX5_readNumber_29 : decode cX5_readNumber 29 = .ok (.isub, 1) := by decide +kernel
theorem dX5_readNumber_30 : decode cX5_readNumber 30 = .ok (.iconst 1, 1) := by decide +kernel
theorem dX5_readNumber_31 : decode cX5_readNumber 31 = .ok (.if_icmp .le 25, 3) := by decide +kernel
theorem dX5_readNumber_34 : decode cX5_readNumber 34 = .ok (.aload_n 0, 1) := by decide +kernel
theorem dX5_readNumber_35 : decode cX5_readNumber 35 = .ok (.aload_n 0, 1) := by decide +kernel
theorem dX5_readNumber_36 : decode cX5_readNumber 36 = .ok (.getfield 160, 3) := by decide +kernel
theorem dX5_readNumber_39 : decode cX5_readNumber 39 = .ok (.invokevirtual 163, 3) := by decide +kernel
theorem dX5_readNumber_42 : decode cX5_readNumber 42 = .ok (.bipush 48, 2) := by decide +kernel
theorem dX5_readNumber_44 : decode cX5_readNumber 44 = .ok (.if_icmp .ne 12, 3) := by decide +kernel
theorem dX5_readNumber_47 : decode cX5_readNumber 47 = .ok (.aload_n 0, 1) := by decide +kernel
theorem dX5_readNumber_48 : decode cX5_readNumber 48 = .ok (.aload_n 0, 1) := by decide +kernel
theorem dX5_readNumber_49 : decode cX5_readNumber 49 = .ok (.getfield 160, 3) := by decide +kernel
theorem dX5_readNumber_52 : decode cX5_readNumber 52 = .ok (.invokevirtual 182, 3) := by decide +kernel
theorem dX5_readNumber_55 : decode cX5_readNumber 55 = .ok (.return_, 1) := by decide +kernel
theorem dX5_readNumber_56 : decode cX5_readNumber 56 = .ok (.iconst 0, 1) := by decide +kernel
theorem dX5_readNumber_57 : decode cX5_readNumber 57 = .ok (.istore_n 2, 1) := by decide +kernel
theorem dX5_readNumber_58 : decode cX5_readNumber 58 = .ok (.aload_n 0, 1) := by decide +kernel
theorem dX5_readNumber_59 : decode cX5_readNumber 59 = .ok (.getfield 160, 3) := by decide +kernel
theorem dX5_readNumber_62 : decode cX5_readNumber 62 = .ok (.istore_n 3, 1) := by decide +kernel
theorem dX5_readNumber_63 : decode cX5_readNumber 63 = .ok (.iload_n 3, 1) := by decide +kernel
theorem dX5_readNumber_64 : decode cX5_readNumber 64 = .ok (.aload_n 0, 1) := by decide +kernel
theorem dX5_readNumber_65 : decode cX5_readNumber 65 = .ok (.getfield 157, 3) := by decide +kernel
theorem dX5_readNumber_68 : decode cX5_readNumber 68 = .ok (.if_icmp .ge 23, 3) := by decide +kernel
theorem dX5_readNumber_71 : decode cX5_readNumber 71 = .ok (.bipush 10, 2) := by decide +kernel
theorem dX5_readNumber_73 : decode cX5_readNumber 73 = .ok (.iload_n 2, 1) := by decide +kernel
theorem dX5_readNumber_74 : decode cX5_readNumber 74 = .ok (.imul, 1) := by decide +kernel
theorem dX5_readNumber_75 : decode cX5_readNumber 75 = .ok (.aload_n 0, 1) := by decide +kernel
theorem dX5_readNumber_76 : decode cX5_readNumber 76 = .ok (.iload_n 3, 1) := by decide +kernel
theorem dX5_readNumber_77 : decode cX5_readNumber 77 = .ok (.invokevirtual 163, 3) := by decide +kernel
theorem dX5_readNumber_80 : decode cX5_readNumber 80 = .ok (.iadd, 1) := by decide +kernel
theorem dX5_readNumber_81 : decode cX5_readNumber 81 = .ok (.bipush 48, 2) := by decide +kernel
theorem dX5_readNumber_83 : decode cX5_readNumber 83 = .ok (.isub, 1) := by decide +kernel
theorem dX5_readNumber_84 : decode cX5_readNumber 84 = .ok (.istore_n 2, 1) := by decide +kernel
theorem dX5_readNumber_85 : decode cX5_readNumber 85 = .ok (.iinc 3 1, 3) := by decide +kernel
theorem dX5_readNumber_88 : decode cX5_readNumber 88 = .ok (.goto (-25), 3) := by decide +kernel
theorem dX5_readNumber_91 : decode cX5_readNumber 91 = .ok (.aload_n 0, 1) := by decide +kernel
theorem dX5_readNumber_92 : decode cX5_readNumber 92 = .ok (.getfield 22, 3) := by decide +kernel
theorem dX5_readNumber_95 : decode cX5_readNumber 95 = .ok (.iload_n 1, 1) := by decide +kernel
theorem dX5_readNumber_96 : decode cX5_readNumber 96 = .ok (.iload_n 2, 1) := by decide +kernel
theorem dX5_readNumber_97 : decode cX5_readNumber 97 = .ok (.iastore, 1) := by decide +kernel
theorem dX5_readNumber_98 : decode cX5_readNumber 98 = .ok (.aload_n 0, 1) := by decide +kernel
theorem dX5_readNumber_99 : decode cX5_readNumber 99 = .ok (.invokevirtual 186, 3) := by decide +kernel
theorem dX5_readNumber_102 : decode cX5_readNumber 102 = .ok (.return_, 1) := by decide +kernel
set_option maxRecDepth 20000 in
theorem ggX5_codeOf_X5_lightCode : GoodIn wsX5_codeOf wsX5_lightCode := goodIn_r _ [5, 6, 7, 8, 4, 9, 10, 11, 12, 13, 14, 15, 16, 17, 18, 19, 20, 37, 38, 39, 40, 41, 42, 43, 44, 45, 46, 47, 48, 49, 50] (by decide +kernel) (by decide +kernel)
set_option maxRecDepth 20000 in
theorem gX5_codeOf_X5_lightCode : GoodIn wsX5_codeOf (wsV RX5 104 RX5 yX5_lightCode wsX5_lightCode) := goodIn_app (goodIn_of _ (by decide +kernel)) ggX5_codeOf_X5_lightCode
set_option maxRecDepth 20000 in
theorem ggX5_codeOf_X5_darkCode : GoodIn wsX5_codeOf wsX5_darkCode := goodIn_r _ [24, 7, 8, 4, 9, 10, 11, 12, 13, 14, 15, 16, 6, 17, 18, 19, 20, 37, 38, 39, 40, 41, 42, 43, 44, 45, 46, 47, 48, 49, 50] (by decide +kernel) (by decide +kernel)
set_option maxRecDepth 20000 in
theorem gX5_codeOf_X5_darkCode : GoodIn wsX5_codeOf (wsV RX5 110 RX5 yX5_darkCode wsX5_darkCode) := goodIn_app (goodIn_of _ (by decide +kernel)) ggX5_codeOf_X5_darkCode
set_option maxRecDepth 20000 in
theorem ggX5_codeOf_X5_kindCode : GoodIn wsX5_codeOf wsX5_kindCode := goodIn_r _ [28, 7, 8, 4, 9, 10, 11, 12] (by decide +kernel) (by decide +kernel)
set_option maxRecDepth 20000 in
theorem gX5_codeOf_X5_kindCode : GoodIn wsX5_codeOf (wsV RX5 95 RX5 yX5_kindCode wsX5_kindCode) := goodIn_app (goodIn_of _ (by decide +kernel)) ggX5_codeOf_X5_kindCode
set_option maxRecDepth 20000 in
theorem ggX5_codeOf_X5_sortCode : GoodIn wsX5_codeOf wsX5_sortCode := goodIn_r _ [32, 10, 11, 4, 12] (by decide +kernel) (by decide +kernel)
set_option maxRecDepth 20000 in
theorem gX5_codeOf_X5_sortCode : GoodIn wsX5_codeOf (wsV RX5 136 RX5 yX5_sortCode wsX5_sortCode) := goodIn_app (goodIn_of _ (by decide +kernel)) ggX5_codeOf_X5_sortCode
set_option maxRecDepth 20000 in
theorem ggX5_codeOf_X5_swapCode : GoodIn wsX5_codeOf wsX5_swapCode := goodIn_r _ [36, 6, 10, 11, 4, 12, 37, 38, 39, 40, 41, 42, 43, 44, 45, 46, 47, 48, 49, 50] (by decide +kernel) (by decide +kernel)
set_option maxRecDepth 20000 in
theorem gX5_codeOf_X5_swapCode : GoodIn wsX5_codeOf (wsV RX5 124 RX5 yX5_swapCode wsX5_swapCode) := goodIn_app (goodIn_of _ (by decide +kernel)) ggX5_codeOf_X5_swapCode
set_option maxRecDepth 20000 in
theorem ggX5_codeOf_X5_isSpot : GoodIn wsX5_codeOf wsX5_isSpot := goodIn_r _ [9, 10, 11, 4, 12] (by decide +kernel) (by decide +kernel)
set_option maxRecDepth 20000 in
theorem gX5_codeOf_X5_isSpot : GoodIn wsX5_codeOf (va_wsS RX5 92 yX5_isSpot wsX5_isSpot) := goodIn_app (goodIn_of _ (by decide +kernel)) ggX5_codeOf_X5_isSpot
theorem dX5_codeOf_0 : decode cX5_codeOf 0 = .ok (.iload_n 1, 1) := by decide +kernel
theorem dX5_codeOf_1 : decode cX5_codeOf 1 = .ok (.tableswitch 75 0 6 #[43, 49, 55, 75, 75, 62, 68], 43) := by decide +kernel
theorem dX5_codeOf_44 : decode cX5_codeOf 44 = .ok (.aload_n 0, 1) := by decide +kernel
theorem dX5_codeOf_45 : decode cX5_codeOf 45 = .ok (.iload_n 2, 1) := by decide +kernel
theorem dX5_codeOf_46 : decode cX5_codeOf 46 = .ok (.invokevirtual 104, 3) := by decide +kernel
theorem dX5_codeOf_49 : decode cX5_codeOf 49 = .ok (.ireturn, 1) := by decide +kernel
theorem dX5_codeOf_50 : decode cX5_codeOf 50 = .ok (.aload_n 0, 1) := by decide +kernel
theorem dX5_codeOf_51 : decode cX5_codeOf 51 = .ok (.iload_n 2, 1) := by decide +kernel
theorem dX5_codeOf_52 : decode cX5_codeOf 52 = .ok (.invokevirtual 110, 3) := by decide +kernel
theorem dX5_codeOf_55 : decode cX5_codeOf 55 = .ok (.ireturn, 1) := by decide +kernel
theorem dX5_codeOf_56 : decode cX5_codeOf 56 = .ok (.aload_n 0, 1) := by decide +kernel
theorem dX5_codeOf_57 : decode cX5_codeOf 57 = .ok (.iload_n 2, 1) := by decide +kernel
theorem dX5_codeOf_58 : decode cX5_codeOf 58 = .ok (.iload_n 3, 1) := by decide +kernel
theorem dX5_codeOf_59 : decode cX5_codeOf 59 = .ok (.invokevirtual 95, 3) := by decide +kernel
theorem dX5_codeOf_62 : decode cX5_codeOf 62 = .ok (.ireturn, 1) := by decide +kernel
theorem dX5_codeOf_63 : decode cX5_codeOf 63 = .ok (.aload_n 0, 1) := by decide +kernel
theorem dX5_codeOf_64 : decode cX5_codeOf 64 = .ok (.iload_n 2, 1) := by decide +kernel
theorem dX5_codeOf_65 : decode cX5_codeOf 65 = .ok (.invokevirtual 136, 3) := by decide +kernel
theorem dX5_codeOf_68 : decode cX5_codeOf 68 = .ok (.ireturn, 1) := by decide +kernel
theorem dX5_codeOf_69 : decode cX5_codeOf 69 = .ok (.aload_n 0, 1) := by decide +kernel
theorem dX5_codeOf_70 : decode cX5_codeOf 70 = .ok (.iload_n 2, 1) := by decide +kernel
theorem dX5_codeOf_71 : decode cX5_codeOf 71 = .ok (.iload_n 3, 1) := by decide +kernel
theorem dX5_codeOf_72 : decode cX5_codeOf 72 = .ok (.invokevirtual 124, 3) := by decide +kernel
theorem dX5_codeOf_75 : decode cX5_codeOf 75 = .ok (.ireturn, 1) := by decide +kernel
theorem dX5_codeOf_76 : decode cX5_codeOf 76 = .ok (.iload_n 2, 1) := by decide +kernel
theorem dX5_codeOf_77 : decode cX5_codeOf 77 = .ok (.invokestatic 92, 3) := by decide +kernel
theorem dX5_codeOf_80 : decode cX5_codeOf 80 = .ok (.ifCond .eq 7, 3) := by decide +kernel
theorem dX5_codeOf_83 : decode cX5_codeOf 83 = .ok (.iconst 0, 1) := by decide +kernel
theorem dX5_codeOf_84 : decode cX5_codeOf 84 = .ok (.goto 4, 3) := by decide +kernel
theorem dX5_codeOf_87 : decode cX5_codeOf 87 = .ok (.iconst (-1), 1) := by decide +kernel
theorem dX5_codeOf_88 : decode cX5_codeOf 88 = .ok (.ireturn, 1) := by decide +kernel
set_option maxRecDepth 20000 in
theorem ggX5_carry_X5_lightNow : GoodIn wsX5_carry wsX5_lightNow := goodIn_r _ [5, 6, 71, 72, 73, 74, 75, 76, 77, 78, 79, 80, 81, 82, 83, 84] (by decide +kernel) (by decide +kernel)
set_option maxRecDepth 20000 in
theorem gX5_carry_X5_lightNow : GoodIn wsX5_carry (wsV RX5 107 RX5 yX5_lightNow wsX5_lightNow) := goodIn_app (goodIn_of _ (by decide +kernel)) ggX5_carry_X5_lightNow
set_option maxRecDepth 20000 in
theorem ggX5_carry_X5_darkNow : GoodIn wsX5_carry wsX5_darkNow := goodIn_r _ [10, 6, 11, 12, 13, 4, 14, 15, 16, 17, 18, 71, 72, 73, 74, 75, 76, 77, 78, 79, 80, 81, 82, 83, 84] (by decide +kernel) (by decide +kernel)
set_option maxRecDepth 20000 in
theorem gX5_carry_X5_darkNow : GoodIn wsX5_carry (wsV RX5 113 RX5 yX5_darkNow wsX5_darkNow) := goodIn_app (goodIn_of _ (by decide +kernel)) ggX5_carry_X5_darkNow
set_option maxRecDepth 20000 in
theorem ggX5_carry_X5_kindNow : GoodIn wsX5_carry wsX5_kindNow := goodIn_r _ [22, 6, 71, 72, 73, 74, 75, 76, 77, 78, 79, 80, 81, 82, 83, 84] (by decide +kernel) (by decide +kernel)
set_option maxRecDepth 20000 in
theorem gX5_carry_X5_kindNow : GoodIn wsX5_carry (wsV RX5 98 RX5 yX5_kindNow wsX5_kindNow) := goodIn_app (goodIn_of _ (by decide +kernel)) ggX5_carry_X5_kindNow
set_option maxRecDepth 20000 in
theorem ggX5_carry_X5_sortNow : GoodIn wsX5_carry wsX5_sortNow := goodIn_r _ [26, 6, 15, 16, 17, 4, 18, 27, 28, 29, 30, 31, 32, 33, 34, 35, 36, 37, 38, 39, 40, 41, 42, 43, 44, 45, 46, 47, 48, 49, 50, 51, 52, 53, 54, 55, 56, 57, 58, 71, 72, 73, 74, 75, 76, 77, 78, 79, 80, 81, 82, 83, 84] (by decide +kernel) (by decide +kernel)
set_option maxRecDepth 20000 in
theorem gX5_carry_X5_sortNow : GoodIn wsX5_carry (wsV RX5 139 RX5 yX5_sortNow wsX5_sortNow) := goodIn_app (goodIn_of _ (by decide +kernel)) ggX5_carry_X5_sortNow
set_option maxRecDepth 20000 in
theorem ggX5_carry_X5_swapNow : GoodIn wsX5_carry wsX5_swapNow := goodIn_r _ [62, 46, 47, 48, 4, 49, 6, 50, 51, 52, 53, 54, 55, 56, 57, 58, 15, 16, 17, 18, 31, 32, 33, 34, 35, 36, 71, 72, 73, 74, 75, 76, 77, 78, 79, 80, 81, 82, 83, 84] (by decide +kernel) (by decide +kernel)
set_option maxRecDepth 20000 in
theorem gX5_carry_X5_swapNow : GoodIn wsX5_carry (wsV RX5 127 RX5 yX5_swapNow wsX5_swapNow) := goodIn_app (goodIn_of _ (by decide +kernel)) ggX5_carry_X5_swapNow
set_option maxRecDepth 20000 in
theorem ggX5_carry_X5_drawNow : GoodIn wsX5_carry wsX5_drawNow := goodIn_r _ [66, 6, 67, 68, 69, 4, 70, 71, 72, 73, 74, 75, 76, 77, 78, 79, 80, 81, 82, 83, 84] (by decide +kernel) (by decide +kernel)
set_option maxRecDepth 20000 in
theorem gX5_carry_X5_drawNow : GoodIn wsX5_carry (wsV RX5 148 RX5 yX5_drawNow wsX5_drawNow) := goodIn_app (goodIn_of _ (by decide +kernel)) ggX5_carry_X5_drawNow
theorem dX5_carry_0 : decode cX5_carry 0 = .ok (.iload_n 1, 1) := by decide +kernel
theorem dX5_carry_1 : decode cX5_carry 1 = .ok (.tableswitch 75 0 6 #[43, 49, 55, 75, 75, 62, 68], 43) := by decide +kernel
theorem dX5_carry_44 : decode cX5_carry 44 = .ok (.aload_n 0, 1) := by decide +kernel
theorem dX5_carry_45 : decode cX5_carry 45 = .ok (.iload_n 2, 1) := by decide +kernel
theorem dX5_carry_46 : decode cX5_carry 46 = .ok (.invokevirtual 107, 3) := by decide +kernel
theorem dX5_carry_49 : decode cX5_carry 49 = .ok (.ireturn, 1) := by decide +kernel
theorem dX5_carry_50 : decode cX5_carry 50 = .ok (.aload_n 0, 1) := by decide +kernel
theorem dX5_carry_51 : decode cX5_carry 51 = .ok (.iload_n 2, 1) := by decide +kernel
theorem dX5_carry_52 : decode cX5_carry 52 = .ok (.invokevirtual 113, 3) := by decide +kernel
theorem dX5_carry_55 : decode cX5_carry 55 = .ok (.ireturn, 1) := by decide +kernel
theorem dX5_carry_56 : decode cX5_carry 56 = .ok (.aload_n 0, 1) := by decide +kernel
theorem dX5_carry_57 : decode cX5_carry 57 = .ok (.iload_n 2, 1) := by decide +kernel
theorem dX5_carry_58 : decode cX5_carry 58 = .ok (.iload_n 3, 1) := by decide +kernel
theorem dX5_carry_59 : decode cX5_carry 59 = .ok (.invokevirtual 98, 3) := by decide +kernel
theorem dX5_carry_62 : decode cX5_carry 62 = .ok (.ireturn, 1) := by decide +kernel
theorem dX5_carry_63 : decode cX5_carry 63 = .ok (.aload_n 0, 1) := by decide +kernel
theorem dX5_carry_64 : decode cX5_carry 64 = .ok (.iload_n 2, 1) := by decide +kernel
theorem dX5_carry_65 : decode cX5_carry 65 = .ok (.invokevirtual 139, 3) := by decide +kernel
theorem dX5_carry_68 : decode cX5_carry 68 = .ok (.ireturn, 1) := by decide +kernel
theorem dX5_carry_69 : decode cX5_carry 69 = .ok (.aload_n 0, 1) := by decide +kernel
theorem dX5_carry_70 : decode cX5_carry 70 = .ok (.iload_n 2, 1) := by decide +kernel
theorem dX5_carry_71 : decode cX5_carry 71 = .ok (.iload_n 3, 1) := by decide +kernel
theorem dX5_carry_72 : decode cX5_carry 72 = .ok (.invokevirtual 127, 3) := by decide +kernel
theorem dX5_carry_75 : decode cX5_carry 75 = .ok (.ireturn, 1) := by decide +kernel
theorem dX5_carry_76 : decode cX5_carry 76 = .ok (.aload_n 0, 1) := by decide +kernel
theorem dX5_carry_77 : decode cX5_carry 77 = .ok (.iload_n 1, 1) := by decide +kernel
theorem dX5_carry_78 : decode cX5_carry 78 = .ok (.iconst 3, 1) := by decide +kernel
theorem dX5_carry_79 : decode cX5_carry 79 = .ok (.if_icmp .ne 7, 3) := by decide +kernel
theorem dX5_carry_82 : decode cX5_carry 82 = .ok (.iconst 0, 1) := by decide +kernel
theorem dX5_carry_83 : decode cX5_carry 83 = .ok (.goto 4, 3) := by decide +kernel
theorem dX5_carry_86 : decode cX5_carry 86 = .ok (.iconst 1, 1) := by decide +kernel
theorem dX5_carry_87 : decode cX5_carry 87 = .ok (.iload_n 2, 1) := by decide +kernel
theorem dX5_carry_88 : decode cX5_carry 88 = .ok (.iconst 1, 1) := by decide +kernel
theorem dX5_carry_89 : decode cX5_carry 89 = .ok (.invokevirtual 148, 3) := by decide +kernel
theorem dX5_carry_92 : decode cX5_carry 92 = .ok (.ireturn, 1) := by decide +kernel
set_option maxRecDepth 20000 in
theorem ggX5_command_X5_wordHere : GoodIn wsX5_command wsX5_wordHere := goodIn_r _ [9, 3, 10, 11, 12, 8, 13, 14, 1, 15, 16, 17, 18, 19, 20, 21, 22, 23, 24, 25, 26, 142, 143, 144, 145, 146, 147, 148, 149, 150, 151, 152, 153, 154, 155] (by decide +kernel) (by decide +kernel)
set_option maxRecDepth 20000 in
theorem gX5_command_X5_wordHere : GoodIn wsX5_command (wsV RX5 189 RX5 yX5_wordHere wsX5_wordHere) := goodIn_app (goodIn_of _ (by decide +kernel)) ggX5_command_X5_wordHere
set_option maxRecDepth 20000 in
theorem ggX5_command_X5_fail : GoodIn wsX5_command wsX5_fail := goodIn_r _ [30, 2, 142, 143, 144, 145, 146, 147, 148, 149, 150, 151, 152, 153, 154, 155] (by decide +kernel) (by decide +kernel)
set_option maxRecDepth 20000 in
theorem gX5_command_X5_fail : GoodIn wsX5_command (wsV RX5 182 RX5 yX5_fail wsX5_fail) := goodIn_app (goodIn_of _ (by decide +kernel)) ggX5_command_X5_fail
set_option maxRecDepth 20000 in
theorem ggX5_command_X5_next : GoodIn wsX5_command wsX5_next := goodIn_r _ [34, 14, 1, 3, 25, 21, 22, 23, 8, 24, 26, 35, 36, 37, 142, 143, 144, 145, 146, 147, 148, 149, 150, 151, 152, 153, 154, 155] (by decide +kernel) (by decide +kernel)
set_option maxRecDepth 20000 in
theorem gX5_command_X5_next : GoodIn wsX5_command (wsV RX5 186 RX5 yX5_next wsX5_next) := goodIn_app (goodIn_of _ (by decide +kernel)) ggX5_command_X5_next
set_option maxRecDepth 20000 in
theorem ggX5_command_X5_readNumber : GoodIn wsX5_command wsX5_readNumber := goodIn_r _ [41, 3, 14, 1, 4, 21, 22, 23, 8, 24, 25, 26, 27, 28, 29, 30, 2, 31, 32, 33, 34, 35, 36, 37, 142, 143, 144, 145, 146, 147, 148, 149, 150, 151, 152, 153, 154, 155] (by decide +kernel) (by decide +kernel)
set_option maxRecDepth 20000 in
theorem gX5_command_X5_readNumber : GoodIn wsX5_command (wsV RX5 192 RX5 yX5_readNumber wsX5_readNumber) := goodIn_app (goodIn_of _ (by decide +kernel)) ggX5_command_X5_readNumber
set_option maxRecDepth 20000 in
theorem ggX5_command_X5_sign : GoodIn wsX5_command wsX5_sign := goodIn_r _ [24, 25, 26, 142, 143, 144, 145, 146, 147, 148, 149, 150, 151, 152, 153, 154, 155] (by decide +kernel) (by decide +kernel)
set_option maxRecDepth 20000 in
theorem gX5_command_X5_sign : GoodIn wsX5_command (wsV RX5 163 RX5 yX5_sign wsX5_sign) := goodIn_app (goodIn_of _ (by decide +kernel)) ggX5_command_X5_sign
set_option maxRecDepth 20000 in
theorem ggX5_command_X5_codeOf : GoodIn wsX5_command wsX5_codeOf := goodIn_r _ [45, 46, 47, 48, 8, 49, 50, 51, 52, 53, 35, 36, 37, 54, 55, 56, 57, 58, 59, 60, 61, 62, 63, 64, 65, 66, 67, 68, 69, 70, 71, 72, 73, 74, 75, 76, 77, 142, 143, 144, 145, 146, 147, 148, 149, 150, 151, 152, 153, 154, 155] (by decide +kernel) (by decide +kernel)
set_option maxRecDepth 20000 in
theorem gX5_command_X5_codeOf : GoodIn wsX5_command (wsV RX5 195 RX5 yX5_codeOf wsX5_codeOf) := goodIn_app (goodIn_of _ (by decide +kernel)) ggX5_command_X5_codeOf
set_option maxRecDepth 20000 in
theorem ggX5_command_X5_carry : GoodIn wsX5_command wsX5_carry := goodIn_r _ [81, 82, 83, 84, 8, 85, 50, 86, 87, 88, 89, 54, 55, 56, 57, 58, 59, 60, 61, 90, 91, 92, 93, 94, 95, 96, 97, 98, 99, 100, 101, 102, 103, 104, 105, 106, 107, 108, 109, 110, 111, 112, 113, 114, 115, 116, 117, 118, 119, 120, 121, 122, 123, 124, 125, 126, 127, 128, 129, 130, 131, 132, 133, 134, 135, 136, 137, 138, 139, 140, 141, 142, 143, 144, 145, 146, 147, 148, 149, 150, 151, 152, 153, 154, 155] (by decide +kernel) (by decide +kernel)
set_option maxRecDepth 20000 in
theorem gX5_command_X5_carry : GoodIn wsX5_command (wsV RX5 198 RX5 yX5_carry wsX5_carry) := goodIn_app (goodIn_of _ (by decide +kernel)) ggX5_command_X5_carry
theorem dX5_command_0 : decode cX5_command 0 = .ok (.aload_n 0, 1) := by decide +kernel
theorem dX5_command_1 : decode cX5_command 1 = .ok (.getfield 160, 3) := by decide +kernel
theorem dX5_command_4 : decode cX5_command 4 = .ok (.istore_n 1, 1) := by decide +kernel
theorem dX5_command_5 : decode cX5_command 5 = .ok (.aload_n 0, 1) := by decide +kernel
theorem dX5_command_6 : decode cX5_command 6 = .ok (.invokevirtual 189, 3) := by decide +kernel
theorem dX5_command_9 : decode cX5_command 9 = .ok (.istore_n 2, 1) := by decide +kernel
theorem dX5_command_10 : decode cX5_command 10 = .ok (.iload_n 2, 1) := by decide +kernel
theorem dX5_command_11 : decode cX5_command 11 = .ok (.bipush 7, 2) := by decide +kernel
theorem dX5_command_13 : decode cX5_command 13 = .ok (.if_icmp .ne 13, 3) := by decide +kernel
theorem dX5_command_16 : decode cX5_command 16 = .ok (.aload_n 0, 1) := by decide +kernel
theorem dX5_command_17 : decode cX5_command 17 = .ok (.aload_n 0, 1) := by decide +kernel
theorem dX5_command_18 : decode cX5_command 18 = .ok (.getfield 160, 3) := by decide +kernel
theorem dX5_command_21 : decode cX5_command 21 = .ok (.invokevirtual 182, 3) := by decide +kernel
theorem dX5_command_24 : decode cX5_command 24 = .ok (.iconst 0, 1) := by decide +kernel
theorem dX5_command_25 : decode cX5_command 25 = .ok (.ireturn, 1) := by decide +kernel
theorem dX5_command_26 : decode cX5_command 26 = .ok (.aload_n 0, 1) := by decide +kernel
theorem dX5_command_27 : decode cX5_command 27 = .ok (.invokevirtual 186, 3) := by decide +kernel
theorem dX5_command_30 : decode cX5_command 30 = .ok (.iload_n 2, 1) := by decide +kernel
theorem dX5_command_31 : decode cX5_command 31 = .ok (.iconst 2, 1) := by decide +kernel
theorem dX5_command_32 : decode cX5_command 32 = .ok (.if_icmp .eq 9, 3) := by decide +kernel
theorem dX5_command_35 : decode cX5_command 35 = .ok (.iload_n 2, 1) := by decide +kernel
theorem dX5_command_36 : decode cX5_command 36 = .ok (.bipush 6, 2) := by decide +kernel
theorem dX5_command_38 : decode cX5_command 38 = .ok (.if_icmp .ne 7, 3) := by decide +kernel
theorem dX5_command_41 : decode cX5_command 41 = .ok (.iconst 2, 1) := by decide +kernel
theorem dX5_command_42 : decode cX5_command 42 = .ok (.goto 4, 3) := by decide +kernel
theorem dX5_command_45 : decode cX5_command 45 = .ok (.iconst 1, 1) := by decide +kernel
theorem dX5_command_46 : decode cX5_command 46 = .ok (.istore_n 3, 1) := by decide +kernel
theorem dX5_command_47 : decode cX5_command 47 = .ok (.iconst 0, 1) := by decide +kernel
theorem dX5_command_48 : decode cX5_command 48 = .ok (.istore 4, 2) := by decide +kernel
theorem dX5_command_50 : decode cX5_command 50 = .ok (.iload 4, 2) := by decide +kernel
theorem dX5_command_52 : decode cX5_command 52 = .ok (.iload_n 3, 1) := by decide +kernel
theorem dX5_command_53 : decode cX5_command 53 = .ok (.if_icmp .ge 22, 3) := by decide +kernel
theorem dX5_command_56 : decode cX5_command 56 = .ok (.aload_n 0, 1) := by decide +kernel
theorem dX5_command_57 : decode cX5_command 57 = .ok (.getfield 169, 3) := by decide +kernel
theorem dX5_command_60 : decode cX5_command 60 = .ok (.ifCond .ge 15, 3) := by decide +kernel
theorem dX5_command_63 : decode cX5_command 63 = .ok (.aload_n 0, 1) := by decide +kernel
theorem dX5_command_64 : decode cX5_command 64 = .ok (.iload 4, 2) := by decide +kernel
theorem dX5_command_66 : decode cX5_command 66 = .ok (.invokevirtual 192, 3) := by decide +kernel
theorem dX5_command_69 : decode cX5_command 69 = .ok (.iinc 4 1, 3) := by decide +kernel
theorem dX5_command_72 : decode cX5_command 72 = .ok (.goto (-22), 3) := by decide +kernel
theorem dX5_command_75 : decode cX5_command 75 = .ok (.aload_n 0, 1) := by decide +kernel
theorem dX5_command_76 : decode cX5_command 76 = .ok (.getfield 169, 3) := by decide +kernel
theorem dX5_command_79 : decode cX5_command 79 = .ok (.ifCond .ge 32, 3) := by decide +kernel
theorem dX5_command_82 : decode cX5_command 82 = .ok (.aload_n 0, 1) := by decide +kernel
theorem dX5_command_83 : decode cX5_command 83 = .ok (.getfield 166, 3) := by decide +kernel
theorem dX5_command_86 : decode cX5_command 86 = .ok (.iconst 3, 1) := by decide +kernel
theorem dX5_command_87 : decode cX5_command 87 = .ok (.if_icmp .ne 16, 3) := by decide +kernel
theorem dX5_command_90 : decode cX5_command 90 = .ok (.aload_n 0, 1) := by decide +kernel
theorem dX5_command_91 : decode cX5_command 91 = .ok (.aload_n 0, 1) := by decide +kernel
theorem dX5_command_92 : decode cX5_command 92 = .ok (.getfield 160, 3) := by decide +kernel
theorem dX5_command_95 : decode cX5_command 95 = .ok (.invokevirtual 163, 3) := by decide +kernel
theorem dX5_command_98 : decode cX5_command 98 = .ok (.bipush 59, 2) := by decide +kernel
theorem dX5_command_100 : decode cX5_command 100 = .ok (.if_icmp .eq 11, 3) := by decide +kernel
theorem dX5_command_103 : decode cX5_command 103 = .ok (.aload_n 0, 1) := by decide +kernel
theorem dX5_command_104 : decode cX5_command 104 = .ok (.aload_n 0, 1) := by decide +kernel
theorem dX5_command_105 : decode cX5_command 105 = .ok (.getfield 160, 3) := by decide +kernel
theorem dX5_command_108 : decode cX5_command 108 = .ok (.invokevirtual 182, 3) := by decide +kernel
theorem dX5_command_111 : decode cX5_command 111 = .ok (.aload_n 0, 1) := by decide +kernel
theorem dX5_command_112 : decode cX5_command 112 = .ok (.getfield 169, 3) := by decide +kernel
theorem dX5_command_115 : decode cX5_command 115 = .ok (.ifCond .ge 28, 3) := by decide +kernel
theorem dX5_command_118 : decode cX5_command 118 = .ok (.aload_n 0, 1) := by decide +kernel
theorem dX5_command_119 : decode cX5_command 119 = .ok (.iload_n 2, 1) := by decide +kernel
theorem dX5_command_120 : decode cX5_command 120 = .ok (.aload_n 0, 1) := by decide +kernel
theorem dX5_command_121 : decode cX5_command 121 = .ok (.getfield 22, 3) := by decide +kernel
theorem dX5_command_124 : decode cX5_command 124 = .ok (.iconst 0, 1) := by decide +kernel
theorem dX5_command_125 : decode cX5_command 125 = .ok (.iaload, 1) := by decide +kernel
theorem dX5_command_126 : decode cX5_command 126 = .ok (.aload_n 0, 1) := by decide +kernel
theorem dX5_command_127 : decode cX5_command 127 = .ok (.getfield 22, 3) := by decide +kernel
theorem dX5_command_130 : decode cX5_command 130 = .ok (.iconst 1, 1) := by decide +kernel
theorem dX5_command_131 : decode cX5_command 131 = .ok (.iaload, 1) := by decide +kernel
theorem dX5_command_132 : decode cX5_command 132 = .ok (.invokevirtual 195, 3) := by decide +kernel
theorem dX5_command_135 : decode cX5_command 135 = .ok (.ifCond .ge 8, 3) := by decide +kernel
theorem dX5_command_138 : decode cX5_command 138 = .ok (.aload_n 0, 1) := by decide +kernel
theorem dX5_command_139 : decode cX5_command 139 = .ok (.iload_n 1, 1) := by decide +kernel
theorem dX5_command_140 : decode cX5_command 140 = .ok (.invokevirtual 182, 3) := by decide +kernel
theorem dX5_command_143 : decode cX5_command 143 = .ok (.aload_n 0, 1) := by decide +kernel
theorem dX5_command_144 : decode cX5_command 144 = .ok (.getfield 169, 3) := by decide +kernel
theorem dX5_command_147 : decode cX5_command 147 = .ok (.ifCond .lt 5, 3) := by decide +kernel
theorem dX5_command_150 : decode cX5_command 150 = .ok (.iconst 0, 1) := by decide +kernel
theorem dX5_command_151 : decode cX5_command 151 = .ok (.ireturn, 1) := by decide +kernel
theorem dX5_command_152 : decode cX5_command 152 = .ok (.aload_n 0, 1) := by decide +kernel
theorem dX5_command_153 : decode cX5_command 153 = .ok (.iload_n 2, 1) := by decide +kernel
theorem dX5_command_154 : decode cX5_command 154 = .ok (.aload_n 0, 1) := by decide +kernel
theorem dX5_command_155 : decode cX5_command 155 = .ok (.getfield 22, 3) := by decide +kernel
theorem dX5_command_158 : decode cX5_command 158 = .ok (.iconst 0, 1) := by decide +kernel
theorem dX5_command_159 : decode cX5_command 159 = .ok (.iaload, 1) := by decide +kernel
theorem dX5_command_160 : decode cX5_command 160 = .ok (.aload_n 0, 1) := by decide +kernel
theorem dX5_command_161 : decode cX5_command 161 = .ok (.getfield 22, 3) := by decide +kernel
theorem dX5_command_164 : decode cX5_command 164 = .ok (.iconst 1, 1) := by decide +kernel
theorem dX5_command_165 : decode cX5_command 165 = .ok (.iaload, 1) := by decide +kernel
theorem dX5_command_166 : decode cX5_command 166 = .ok (.invokevirtual 198, 3) := by decide +kernel
theorem dX5_command_169 : decode cX5_command 169 = .ok (.istore 4, 2) := by decide +kernel
theorem dX5_command_171 : decode cX5_command 171 = .ok (.aload_n 0, 1) := by decide +kernel
theorem dX5_command_172 : decode cX5_command 172 = .ok (.invokevirtual 186, 3) := by decide +kernel
theorem dX5_command_175 : decode cX5_command 175 = .ok (.iload 4, 2) := by decide +kernel
theorem dX5_command_177 : decode cX5_command 177 = .ok (.ifCond .ge 7, 3) := by decide +kernel
theorem dX5_command_180 : decode cX5_command 180 = .ok (.iconst 0, 1) := by decide +kernel
theorem dX5_command_181 : decode cX5_command 181 = .ok (.goto 4, 3) := by decide +kernel
theorem dX5_command_184 : decode cX5_command 184 = .ok (.iconst 1, 1) := by decide +kernel
theorem dX5_command_185 : decode cX5_command 185 = .ok (.ireturn, 1) := by decide +kernel
set_option maxRecDepth 20000 in
theorem ggX5_run_X5_next : GoodIn wsX5_run wsX5_next := goodIn_r _ [12, 4, 13, 6, 7, 14, 15, 16, 11, 17, 18, 19, 20, 21, 154, 155, 156, 157, 158, 159, 160, 161, 162, 163, 164, 165, 166, 167] (by decide +kernel) (by decide +kernel)
set_option maxRecDepth 20000 in
theorem gX5_run_X5_next : GoodIn wsX5_run (wsV RX5 186 RX5 yX5_next wsX5_next) := goodIn_app (goodIn_of _ (by decide +kernel)) ggX5_run_X5_next
set_option maxRecDepth 20000 in
theorem ggX5_run_X5_command : GoodIn wsX5_run wsX5_command := goodIn_r _ [25, 13, 5, 6, 26, 27, 28, 29, 11, 30, 31, 32, 33, 34, 4, 35, 36, 37, 38, 39, 40, 14, 15, 16, 17, 7, 18, 41, 42, 43, 44, 8, 9, 10, 12, 19, 20, 21, 45, 46, 47, 48, 49, 50, 51, 52, 53, 54, 55, 56, 3, 57, 58, 59, 60, 61, 62, 63, 64, 65, 66, 67, 68, 69, 70, 71, 72, 73, 74, 75, 76, 77, 78, 79, 80, 81, 82, 83, 84, 85, 86, 87, 88, 89, 90, 91, 92, 93, 94, 95, 96, 97, 98, 99, 100, 101, 102, 103, 104, 105, 106, 107, 108, 109, 110, 111, 112, 113, 114, 115, 116, 117, 118, 119, 120, 121, 122, 123, 124, 125, 126, 127, 128, 129, 130, 131, 132, 133, 134, 135, 136, 137, 138, 139, 140, 141, 142, 143, 144, 145, 146, 147, 154, 155, 156, 157, 158, 159, 160, 161, 162, 163, 164, 165, 166, 167] (by decide +kernel) (by decide +kernel)
set_option maxRecDepth 20000 in
theorem gX5_run_X5_command : GoodIn wsX5_run (wsV RX5 201 RX5 yX5_command wsX5_command) := goodIn_app (goodIn_of _ (by decide +kernel)) ggX5_run_X5_command
set_option maxRecDepth 20000 in
theorem ggX5_run_X5_act : GoodIn wsX5_run wsX5_act := goodIn_r _ [151, 152, 153, 3, 154, 155, 156, 157, 158, 159, 160, 161, 162, 163, 164, 165, 166, 167] (by decide +kernel) (by decide +kernel)
set_option maxRecDepth 20000 in
theorem gX5_run_X5_act : GoodIn wsX5_run (wsV RX5 89 RX5 yX5_act wsX5_act) := goodIn_app (goodIn_of _ (by decide +kernel)) ggX5_run_X5_act
theorem dX5_run_0 : decode cX5_run 0 = .ok (.aload_n 0, 1) := by decide +kernel
theorem dX5_run_1 : decode cX5_run 1 = .ok (.iconst 0, 1) := by decide +kernel
theorem dX5_run_2 : decode cX5_run 2 = .ok (.putfield 32, 3) := by decide +kernel
theorem dX5_run_5 : decode cX5_run 5 = .ok (.iconst 0, 1) := by decide +kernel
theorem dX5_run_6 : decode cX5_run 6 = .ok (.istore_n 1, 1) := by decide +kernel
theorem dX5_run_7 : decode cX5_run 7 = .ok (.iload_n 1, 1) := by decide +kernel
theorem dX5_run_8 : decode cX5_run 8 = .ok (.sipush 635, 3) := by decide +kernel
theorem dX5_run_11 : decode cX5_run 11 = .ok (.if_icmp .ge 21, 3) := by decide +kernel
theorem dX5_run_14 : decode cX5_run 14 = .ok (.aload_n 0, 1) := by decide +kernel
theorem dX5_run_15 : decode cX5_run 15 = .ok (.getfield 13, 3) := by decide +kernel
theorem dX5_run_18 : decode cX5_run 18 = .ok (.iload_n 1, 1) := by decide +kernel
theorem dX5_run_19 : decode cX5_run 19 = .ok (.aload_n 0, 1) := by decide +kernel
theorem dX5_run_20 : decode cX5_run 20 = .ok (.getfield 7, 3) := by decide +kernel
theorem dX5_run_23 : decode cX5_run 23 = .ok (.iload_n 1, 1) := by decide +kernel
theorem dX5_run_24 : decode cX5_run 24 = .ok (.iaload, 1) := by decide +kernel
theorem dX5_run_25 : decode cX5_run 25 = .ok (.iastore, 1) := by decide +kernel
theorem dX5_run_26 : decode cX5_run 26 = .ok (.iinc 1 1, 3) := by decide +kernel
theorem dX5_run_29 : decode cX5_run 29 = .ok (.goto (-22), 3) := by decide +kernel
theorem dX5_run_32 : decode cX5_run 32 = .ok (.aload_n 0, 1) := by decide +kernel
theorem dX5_run_33 : decode cX5_run 33 = .ok (.iconst 0, 1) := by decide +kernel
theorem dX5_run_34 : decode cX5_run 34 = .ok (.putfield 157, 3) := by decide +kernel
theorem dX5_run_37 : decode cX5_run 37 = .ok (.aload_n 0, 1) := by decide +kernel
theorem dX5_run_38 : decode cX5_run 38 = .ok (.iconst (-1), 1) := by decide +kernel
theorem dX5_run_39 : decode cX5_run 39 = .ok (.putfield 169, 3) := by decide +kernel
theorem dX5_run_42 : decode cX5_run 42 = .ok (.iconst 0, 1) := by decide +kernel
theorem dX5_run_43 : decode cX5_run 43 = .ok (.istore_n 1, 1) := by decide +kernel
theorem dX5_run_44 : decode cX5_run 44 = .ok (.aload_n 0, 1) := by decide +kernel
theorem dX5_run_45 : decode cX5_run 45 = .ok (.invokevirtual 186, 3) := by decide +kernel
theorem dX5_run_48 : decode cX5_run 48 = .ok (.aload_n 0, 1) := by decide +kernel
theorem dX5_run_49 : decode cX5_run 49 = .ok (.getfield 169, 3) := by decide +kernel
theorem dX5_run_52 : decode cX5_run 52 = .ok (.ifCond .ge 20, 3) := by decide +kernel
theorem dX5_run_55 : decode cX5_run 55 = .ok (.aload_n 0, 1) := by decide +kernel
theorem dX5_run_56 : decode cX5_run 56 = .ok (.getfield 166, 3) := by decide +kernel
theorem dX5_run_59 : decode cX5_run 59 = .ok (.ifCond .eq 13, 3) := by decide +kernel
theorem dX5_run_62 : decode cX5_run 62 = .ok (.iload_n 1, 1) := by decide +kernel
theorem dX5_run_63 : decode cX5_run 63 = .ok (.aload_n 0, 1) := by decide +kernel
theorem dX5_run_64 : decode cX5_run 64 = .ok (.invokevirtual 201, 3) := by decide +kernel
theorem dX5_run_67 : decode cX5_run 67 = .ok (.iadd, 1) := by decide +kernel
theorem dX5_run_68 : decode cX5_run 68 = .ok (.istore_n 1, 1) := by decide +kernel
theorem dX5_run_69 : decode cX5_run 69 = .ok (.goto (-21), 3) := by decide +kernel
theorem dX5_run_72 : decode cX5_run 72 = .ok (.iconst 0, 1) := by decide +kernel
theorem dX5_run_73 : decode cX5_run 73 = .ok (.istore_n 2, 1) := by decide +kernel
theorem dX5_run_74 : decode cX5_run 74 = .ok (.iload_n 2, 1) := by decide +kernel
theorem dX5_run_75 : decode cX5_run 75 = .ok (.sipush 635, 3) := by decide +kernel
theorem dX5_run_78 : decode cX5_run 78 = .ok (.if_icmp .ge 35, 3) := by decide +kernel
theorem dX5_run_81 : decode cX5_run 81 = .ok (.aload_n 0, 1) := by decide +kernel
theorem dX5_run_82 : decode cX5_run 82 = .ok (.getfield 7, 3) := by decide +kernel
theorem dX5_run_85 : decode cX5_run 85 = .ok (.iload_n 2, 1) := by decide +kernel
theorem dX5_run_86 : decode cX5_run 86 = .ok (.iaload, 1) := by decide +kernel
theorem dX5_run_87 : decode cX5_run 87 = .ok (.istore_n 3, 1) := by decide +kernel
theorem dX5_run_88 : decode cX5_run 88 = .ok (.aload_n 0, 1) := by decide +kernel
theorem dX5_run_89 : decode cX5_run 89 = .ok (.getfield 7, 3) := by decide +kernel
theorem dX5_run_92 : decode cX5_run 92 = .ok (.iload_n 2, 1) := by decide +kernel
theorem dX5_run_93 : decode cX5_run 93 = .ok (.aload_n 0, 1) := by decide +kernel
theorem dX5_run_94 : decode cX5_run 94 = .ok (.getfield 13, 3) := by decide +kernel
theorem dX5_run_97 : decode cX5_run 97 = .ok (.iload_n 2, 1) := by decide +kernel
theorem dX5_run_98 : decode cX5_run 98 = .ok (.iaload, 1) := by decide +kernel
theorem dX5_run_99 : decode cX5_run 99 = .ok (.iastore, 1) := by decide +kernel
theorem dX5_run_100 : decode cX5_run 100 = .ok (.aload_n 0, 1) := by decide +kernel
theorem dX5_run_101 : decode cX5_run 101 = .ok (.getfield 13, 3) := by decide +kernel
theorem dX5_run_104 : decode cX5_run 104 = .ok (.iload_n 2, 1) := by decide +kernel
theorem dX5_run_105 : decode cX5_run 105 = .ok (.iload_n 3, 1) := by decide +kernel
theorem dX5_run_106 : decode cX5_run 106 = .ok (.iastore, 1) := by decide +kernel
theorem dX5_run_107 : decode cX5_run 107 = .ok (.iinc 2 1, 3) := by decide +kernel
theorem dX5_run_110 : decode cX5_run 110 = .ok (.goto (-36), 3) := by decide +kernel
theorem dX5_run_113 : decode cX5_run 113 = .ok (.aload_n 0, 1) := by decide +kernel
theorem dX5_run_114 : decode cX5_run 114 = .ok (.getfield 169, 3) := by decide +kernel
theorem dX5_run_117 : decode cX5_run 117 = .ok (.ifCond .lt 12, 3) := by decide +kernel
theorem dX5_run_120 : decode cX5_run 120 = .ok (.sipush (-1000), 3) := by decide +kernel
theorem dX5_run_123 : decode cX5_run 123 = .ok (.aload_n 0, 1) := by decide +kernel
theorem dX5_run_124 : decode cX5_run 124 = .ok (.getfield 169, 3) := by decide +kernel
theorem dX5_run_127 : decode cX5_run 127 = .ok (.isub, 1) := by decide +kernel
theorem dX5_run_128 : decode cX5_run 128 = .ok (.ireturn, 1) := by decide +kernel
theorem dX5_run_129 : decode cX5_run 129 = .ok (.aload_n 0, 1) := by decide +kernel
theorem dX5_run_130 : decode cX5_run 130 = .ok (.invokevirtual 89, 3) := by decide +kernel
theorem dX5_run_133 : decode cX5_run 133 = .ok (.iconst 0, 1) := by decide +kernel
theorem dX5_run_134 : decode cX5_run 134 = .ok (.istore_n 2, 1) := by decide +kernel
theorem dX5_run_135 : decode cX5_run 135 = .ok (.iload_n 2, 1) := by decide +kernel
theorem dX5_run_136 : decode cX5_run 136 = .ok (.sipush 635, 3) := by decide +kernel
theorem dX5_run_139 : decode cX5_run 139 = .ok (.if_icmp .ge 21, 3) := by decide +kernel
theorem dX5_run_142 : decode cX5_run 142 = .ok (.aload_n 0, 1) := by decide +kernel
theorem dX5_run_143 : decode cX5_run 143 = .ok (.getfield 7, 3) := by decide +kernel
theorem dX5_run_146 : decode cX5_run 146 = .ok (.iload_n 2, 1) := by decide +kernel
theorem dX5_run_147 : decode cX5_run 147 = .ok (.aload_n 0, 1) := by decide +kernel
theorem dX5_run_148 : decode cX5_run 148 = .ok (.getfield 13, 3) := by decide +kernel
theorem dX5_run_151 : decode cX5_run 151 = .ok (.iload_n 2, 1) := by decide +kernel
theorem dX5_run_152 : decode cX5_run 152 = .ok (.iaload, 1) := by decide +kernel
theorem dX5_run_153 : decode cX5_run 153 = .ok (.iastore, 1) := by decide +kernel
theorem dX5_run_154 : decode cX5_run 154 = .ok (.iinc 2 1, 3) := by decide +kernel
theorem dX5_run_157 : decode cX5_run 157 = .ok (.goto (-22), 3) := by decide +kernel
theorem dX5_run_160 : decode cX5_run 160 = .ok (.aload_n 0, 1) := by decide +kernel
theorem dX5_run_161 : decode cX5_run 161 = .ok (.iconst 0, 1) := by decide +kernel
theorem dX5_run_162 : decode cX5_run 162 = .ok (.putfield 154, 3) := by decide +kernel
theorem dX5_run_165 : decode cX5_run 165 = .ok (.iload_n 1, 1) := by decide +kernel
theorem dX5_run_166 : decode cX5_run 166 = .ok (.ireturn, 1) := by decide +kernel
set_option maxRecDepth 20000 in
theorem ggX5_travel_X5_spotAt : GoodIn wsX5_travel wsX5_spotAt := goodIn_r _ [6, 1, 13, 14, 15, 16, 17, 18, 19, 20, 21, 22, 23, 24, 25, 26] (by decide +kernel) (by decide +kernel)
set_option maxRecDepth 20000 in
theorem gX5_travel_X5_spotAt : GoodIn wsX5_travel (wsV RX5 50 RX5 yX5_spotAt wsX5_spotAt) := goodIn_app (goodIn_of _ (by decide +kernel)) ggX5_travel_X5_spotAt
set_option maxRecDepth 20000 in
theorem ggX5_travel_X5_way : GoodIn wsX5_travel wsX5_way := goodIn_r _ [9, 10, 11, 5, 12] (by decide +kernel) (by decide +kernel)
set_option maxRecDepth 20000 in
theorem gX5_travel_X5_way : GoodIn wsX5_travel (va_wsS RX5 53 yX5_way wsX5_way) := goodIn_app (goodIn_of _ (by decide +kernel)) ggX5_travel_X5_way
theorem dX5_travel_0 : decode cX5_travel 0 = .ok (.iconst 0, 1) := by decide +kernel
theorem dX5_travel_1 : decode cX5_travel 1 = .ok (.istore_n 1, 1) := by decide +kernel
theorem dX5_travel_2 : decode cX5_travel 2 = .ok (.iconst 0, 1) := by decide +kernel
theorem dX5_travel_3 : decode cX5_travel 3 = .ok (.istore_n 2, 1) := by decide +kernel
theorem dX5_travel_4 : decode cX5_travel 4 = .ok (.iconst 0, 1) := by decide +kernel
theorem dX5_travel_5 : decode cX5_travel 5 = .ok (.istore_n 3, 1) := by decide +kernel
theorem dX5_travel_6 : decode cX5_travel 6 = .ok (.iload_n 3, 1) := by decide +kernel
theorem dX5_travel_7 : decode cX5_travel 7 = .ok (.aload_n 0, 1) := by decide +kernel
theorem dX5_travel_8 : decode cX5_travel 8 = .ok (.getfield 7, 3) := by decide +kernel
theorem dX5_travel_11 : decode cX5_travel 11 = .ok (.bipush 6, 2) := by decide +kernel
theorem dX5_travel_13 : decode cX5_travel 13 = .ok (.iaload, 1) := by decide +kernel
theorem dX5_travel_14 : decode cX5_travel 14 = .ok (.if_icmp .ge 27, 3) := by decide +kernel
theorem dX5_travel_17 : decode cX5_travel 17 = .ok (.iload_n 1, 1) := by decide +kernel
theorem dX5_travel_18 : decode cX5_travel 18 = .ok (.iload_n 2, 1) := by decide +kernel
theorem dX5_travel_19 : decode cX5_travel 19 = .ok (.aload_n 0, 1) := by decide +kernel
theorem dX5_travel_20 : decode cX5_travel 20 = .ok (.iload_n 3, 1) := by decide +kernel
theorem dX5_travel_21 : decode cX5_travel 21 = .ok (.invokevirtual 50, 3) := by decide +kernel
theorem dX5_travel_24 : decode cX5_travel 24 = .ok (.invokestatic 53, 3) := by decide +kernel
theorem dX5_travel_27 : decode cX5_travel 27 = .ok (.iadd, 1) := by decide +kernel
theorem dX5_travel_28 : decode cX5_travel 28 = .ok (.istore_n 1, 1) := by decide +kernel
theorem dX5_travel_29 : decode cX5_travel 29 = .ok (.aload_n 0, 1) := by decide +kernel
theorem dX5_travel_30 : decode cX5_travel 30 = .ok (.iload_n 3, 1) := by decide +kernel
theorem dX5_travel_31 : decode cX5_travel 31 = .ok (.invokevirtual 50, 3) := by decide +kernel
theorem dX5_travel_34 : decode cX5_travel 34 = .ok (.istore_n 2, 1) := by decide +kernel
theorem dX5_travel_35 : decode cX5_travel 35 = .ok (.iinc 3 1, 3) := by decide +kernel
theorem dX5_travel_38 : decode cX5_travel 38 = .ok (.goto (-32), 3) := by decide +kernel
theorem dX5_travel_41 : decode cX5_travel 41 = .ok (.iload_n 1, 1) := by decide +kernel
theorem dX5_travel_42 : decode cX5_travel 42 = .ok (.ireturn, 1) := by decide +kernel
set_option maxRecDepth 20000 in
theorem ggX5_seenBy_X5_isEyed : GoodIn wsX5_seenBy wsX5_isEyed := goodIn_r _ [5, 6, 7, 8, 9, 10, 4, 11, 12, 13, 14, 15, 16, 17, 18, 19, 20, 21, 34, 35, 36, 37, 38, 39, 40, 41, 42, 43, 44, 45, 46, 47] (by decide +kernel) (by decide +kernel)
set_option maxRecDepth 20000 in
theorem gX5_seenBy_X5_isEyed : GoodIn wsX5_seenBy (wsV RX5 73 RX5 yX5_isEyed wsX5_isEyed) := goodIn_app (goodIn_of _ (by decide +kernel)) ggX5_seenBy_X5_isEyed
set_option maxRecDepth 20000 in
theorem ggX5_seenBy_X5_isShotNow : GoodIn wsX5_seenBy wsX5_isShotNow := goodIn_r _ [25, 7, 26, 27, 28, 4, 29, 6, 30, 31, 32, 33, 12, 13, 14, 15, 16, 17, 18, 19, 20, 21, 34, 35, 36, 37, 38, 39, 40, 41, 42, 43, 44, 45, 46, 47] (by decide +kernel) (by decide +kernel)
set_option maxRecDepth 20000 in
theorem gX5_seenBy_X5_isShotNow : GoodIn wsX5_seenBy (wsV RX5 77 RX5 yX5_isShotNow wsX5_isShotNow) := goodIn_app (goodIn_of _ (by decide +kernel)) ggX5_seenBy_X5_isShotNow
theorem dX5_seenBy_0 : decode cX5_seenBy 0 = .ok (.iconst 0, 1) := by decide +kernel
theorem dX5_seenBy_1 : decode cX5_seenBy 1 = .ok (.istore_n 2, 1) := by decide +kernel
theorem dX5_seenBy_2 : decode cX5_seenBy 2 = .ok (.iconst 0, 1) := by decide +kernel
theorem dX5_seenBy_3 : decode cX5_seenBy 3 = .ok (.istore_n 3, 1) := by decide +kernel
theorem dX5_seenBy_4 : decode cX5_seenBy 4 = .ok (.iload_n 3, 1) := by decide +kernel
theorem dX5_seenBy_5 : decode cX5_seenBy 5 = .ok (.bipush 64, 2) := by decide +kernel
theorem dX5_seenBy_7 : decode cX5_seenBy 7 = .ok (.if_icmp .ge 40, 3) := by decide +kernel
theorem dX5_seenBy_10 : decode cX5_seenBy 10 = .ok (.iload_n 2, 1) := by decide +kernel
theorem dX5_seenBy_11 : decode cX5_seenBy 11 = .ok (.iload_n 1, 1) := by decide +kernel
theorem dX5_seenBy_12 : decode cX5_seenBy 12 = .ok (.ifCond .ne 14, 3) := by decide +kernel
theorem dX5_seenBy_15 : decode cX5_seenBy 15 = .ok (.aload_n 0, 1) := by decide +kernel
theorem dX5_seenBy_16 : decode cX5_seenBy 16 = .ok (.iload_n 3, 1) := by decide +kernel
theorem dX5_seenBy_17 : decode cX5_seenBy 17 = .ok (.invokevirtual 73, 3) := by decide +kernel
theorem dX5_seenBy_20 : decode cX5_seenBy 20 = .ok (.ifCond .eq 18, 3) := by decide +kernel
theorem dX5_seenBy_23 : decode cX5_seenBy 23 = .ok (.goto 11, 3) := by decide +kernel
theorem dX5_seenBy_26 : decode cX5_seenBy 26 = .ok (.aload_n 0, 1) := by decide +kernel
theorem dX5_seenBy_27 : decode cX5_seenBy 27 = .ok (.iload_n 3, 1) := by decide +kernel
theorem dX5_seenBy_28 : decode cX5_seenBy 28 = .ok (.invokevirtual 77, 3) := by decide +kernel
theorem dX5_seenBy_31 : decode cX5_seenBy 31 = .ok (.ifCond .eq 7, 3) := by decide +kernel
theorem dX5_seenBy_34 : decode cX5_seenBy 34 = .ok (.iconst 1, 1) := by decide +kernel
theorem dX5_seenBy_35 : decode cX5_seenBy 35 = .ok (.goto 4, 3) := by decide +kernel
theorem dX5_seenBy_38 : decode cX5_seenBy 38 = .ok (.iconst 0, 1) := by decide +kernel
theorem dX5_seenBy_39 : decode cX5_seenBy 39 = .ok (.iadd, 1) := by decide +kernel
theorem dX5_seenBy_40 : decode cX5_seenBy 40 = .ok (.istore_n 2, 1) := by decide +kernel
theorem dX5_seenBy_41 : decode cX5_seenBy 41 = .ok (.iinc 3 1, 3) := by decide +kernel
theorem dX5_seenBy_44 : decode cX5_seenBy 44 = .ok (.goto (-40), 3) := by decide +kernel
theorem dX5_seenBy_47 : decode cX5_seenBy 47 = .ok (.iload_n 2, 1) := by decide +kernel
theorem dX5_seenBy_48 : decode cX5_seenBy 48 = .ok (.ireturn, 1) := by decide +kernel
set_option maxRecDepth 20000 in
theorem ggX5_wrongBy_X5_isWrong : GoodIn wsX5_wrongBy wsX5_isWrong := goodIn_r _ [5, 6, 7, 8, 9, 4, 10, 11, 12, 13, 14, 15, 16, 17, 18, 19, 20, 21, 22, 23, 24, 25, 26, 27, 28, 29, 30, 31, 32, 33, 34, 35, 36, 37, 38, 39, 40, 41, 42, 43, 44, 45, 46, 47, 48, 49, 50, 51] (by decide +kernel) (by decide +kernel)
set_option maxRecDepth 20000 in
theorem gX5_wrongBy_X5_isWrong : GoodIn wsX5_wrongBy (wsV RX5 204 RX5 yX5_isWrong wsX5_isWrong) := goodIn_app (goodIn_of _ (by decide +kernel)) ggX5_wrongBy_X5_isWrong
theorem dX5_wrongBy_0 : decode cX5_wrongBy 0 = .ok (.iconst 0, 1) := by decide +kernel
theorem dX5_wrongBy_1 : decode cX5_wrongBy 1 = .ok (.istore_n 2, 1) := by decide +kernel
theorem dX5_wrongBy_2 : decode cX5_wrongBy 2 = .ok (.iconst 0, 1) := by decide +kernel
theorem dX5_wrongBy_3 : decode cX5_wrongBy 3 = .ok (.istore_n 3, 1) := by decide +kernel
theorem dX5_wrongBy_4 : decode cX5_wrongBy 4 = .ok (.iload_n 3, 1) := by decide +kernel
theorem dX5_wrongBy_5 : decode cX5_wrongBy 5 = .ok (.bipush 64, 2) := by decide +kernel
theorem dX5_wrongBy_7 : decode cX5_wrongBy 7 = .ok (.if_icmp .ge 26, 3) := by decide +kernel
theorem dX5_wrongBy_10 : decode cX5_wrongBy 10 = .ok (.iload_n 2, 1) := by decide +kernel
theorem dX5_wrongBy_11 : decode cX5_wrongBy 11 = .ok (.aload_n 0, 1) := by decide +kernel
theorem dX5_wrongBy_12 : decode cX5_wrongBy 12 = .ok (.iload_n 3, 1) := by decide +kernel
theorem dX5_wrongBy_13 : decode cX5_wrongBy 13 = .ok (.iload_n 1, 1) := by decide +kernel
theorem dX5_wrongBy_14 : decode cX5_wrongBy 14 = .ok (.invokevirtual 204, 3) := by decide +kernel
theorem dX5_wrongBy_17 : decode cX5_wrongBy 17 = .ok (.ifCond .eq 7, 3) := by decide +kernel
theorem dX5_wrongBy_20 : decode cX5_wrongBy 20 = .ok (.iconst 1, 1) := by decide +kernel
theorem dX5_wrongBy_21 : decode cX5_wrongBy 21 = .ok (.goto 4, 3) := by decide +kernel
theorem dX5_wrongBy_24 : decode cX5_wrongBy 24 = .ok (.iconst 0, 1) := by decide +kernel
theorem dX5_wrongBy_25 : decode cX5_wrongBy 25 = .ok (.iadd, 1) := by decide +kernel
theorem dX5_wrongBy_26 : decode cX5_wrongBy 26 = .ok (.istore_n 2, 1) := by decide +kernel
theorem dX5_wrongBy_27 : decode cX5_wrongBy 27 = .ok (.iinc 3 1, 3) := by decide +kernel
theorem dX5_wrongBy_30 : decode cX5_wrongBy 30 = .ok (.goto (-26), 3) := by decide +kernel
theorem dX5_wrongBy_33 : decode cX5_wrongBy 33 = .ok (.iload_n 2, 1) := by decide +kernel
theorem dX5_wrongBy_34 : decode cX5_wrongBy 34 = .ok (.ireturn, 1) := by decide +kernel
theorem dX5_lastLit_0 : decode cX5_lastLit 0 = .ok (.bipush (-9), 2) := by decide +kernel
theorem dX5_lastLit_2 : decode cX5_lastLit 2 = .ok (.istore_n 1, 1) := by decide +kernel
theorem dX5_lastLit_3 : decode cX5_lastLit 3 = .ok (.iconst 0, 1) := by decide +kernel
theorem dX5_lastLit_4 : decode cX5_lastLit 4 = .ok (.istore_n 2, 1) := by decide +kernel
theorem dX5_lastLit_5 : decode cX5_lastLit 5 = .ok (.iload_n 2, 1) := by decide +kernel
theorem dX5_lastLit_6 : decode cX5_lastLit 6 = .ok (.bipush 64, 2) := by decide +kernel
theorem dX5_lastLit_8 : decode cX5_lastLit 8 = .ok (.if_icmp .ge 30, 3) := by decide +kernel
theorem dX5_lastLit_11 : decode cX5_lastLit 11 = .ok (.aload_n 0, 1) := by decide +kernel
theorem dX5_lastLit_12 : decode cX5_lastLit 12 = .ok (.getfield 25, 3) := by decide +kernel
theorem dX5_lastLit_15 : decode cX5_lastLit 15 = .ok (.iload_n 2, 1) := by decide +kernel
theorem dX5_lastLit_16 : decode cX5_lastLit 16 = .ok (.iaload, 1) := by decide +kernel
theorem dX5_lastLit_17 : decode cX5_lastLit 17 = .ok (.iload_n 1, 1) := by decide +kernel
theorem dX5_lastLit_18 : decode cX5_lastLit 18 = .ok (.if_icmp .le 12, 3) := by decide +kernel
theorem dX5_lastLit_21 : decode cX5_lastLit 21 = .ok (.aload_n 0, 1) := by decide +kernel
theorem dX5_lastLit_22 : decode cX5_lastLit 22 = .ok (.getfield 25, 3) := by decide +kernel
theorem dX5_lastLit_25 : decode cX5_lastLit 25 = .ok (.iload_n 2, 1) := by decide +kernel
theorem dX5_lastLit_26 : decode cX5_lastLit 26 = .ok (.iaload, 1) := by decide +kernel
theorem dX5_lastLit_27 : decode cX5_lastLit 27 = .ok (.goto 4, 3) := by decide +kernel
theorem dX5_lastLit_30 : decode cX5_lastLit 30 = .ok (.iload_n 1, 1) := by decide +kernel
theorem dX5_lastLit_31 : decode cX5_lastLit 31 = .ok (.istore_n 1, 1) := by decide +kernel
theorem dX5_lastLit_32 : decode cX5_lastLit 32 = .ok (.iinc 2 1, 3) := by decide +kernel
theorem dX5_lastLit_35 : decode cX5_lastLit 35 = .ok (.goto (-30), 3) := by decide +kernel
theorem dX5_lastLit_38 : decode cX5_lastLit 38 = .ok (.iload_n 1, 1) := by decide +kernel
theorem dX5_lastLit_39 : decode cX5_lastLit 39 = .ok (.ireturn, 1) := by decide +kernel
set_option maxRecDepth 20000 in
theorem ggX5_count_X5_in : GoodIn wsX5_count wsX5_in := goodIn_r _ [8] (by decide +kernel) (by decide +kernel)
set_option maxRecDepth 20000 in
theorem gX5_count_X5_in : GoodIn wsX5_count (va_wsS RX5 36 yX5_in wsX5_in) := goodIn_app (goodIn_of _ (by decide +kernel)) ggX5_count_X5_in
set_option maxRecDepth 20000 in
theorem ggX5_count_X5_litMany : GoodIn wsX5_count wsX5_litMany := goodIn_r _ [12, 13, 14, 15, 16, 7, 17, 2, 18, 19, 20, 21, 22, 23, 24, 25, 26, 27, 85, 86, 87, 88, 89, 90, 91, 92, 93, 94, 95, 96, 97, 98] (by decide +kernel) (by decide +kernel)
set_option maxRecDepth 20000 in
theorem gX5_count_X5_litMany : GoodIn wsX5_count (wsV RX5 120 RX5 yX5_litMany wsX5_litMany) := goodIn_app (goodIn_of _ (by decide +kernel)) ggX5_count_X5_litMany
set_option maxRecDepth 20000 in
theorem ggX5_count_X5_inPicture : GoodIn wsX5_count wsX5_inPicture := goodIn_r _ [31, 2, 85, 86, 87, 88, 89, 90, 91, 92, 93, 94, 95, 96, 97, 98] (by decide +kernel) (by decide +kernel)
set_option maxRecDepth 20000 in
theorem gX5_count_X5_inPicture : GoodIn wsX5_count (wsV RX5 142 RX5 yX5_inPicture wsX5_inPicture) := goodIn_app (goodIn_of _ (by decide +kernel)) ggX5_count_X5_inPicture
set_option maxRecDepth 20000 in
theorem ggX5_count_X5_seenBy : GoodIn wsX5_count wsX5_seenBy := goodIn_r _ [35, 36, 37, 38, 7, 39, 13, 2, 40, 41, 42, 43, 44, 45, 46, 47, 48, 49, 50, 51, 52, 53, 54, 55, 56, 57, 58, 59, 60, 61, 62, 63, 64, 65, 85, 86, 87, 88, 89, 90, 91, 92, 93, 94, 95, 96, 97, 98] (by decide +kernel) (by decide +kernel)
set_option maxRecDepth 20000 in
theorem gX5_count_X5_seenBy : GoodIn wsX5_count (wsV RX5 208 RX5 yX5_seenBy wsX5_seenBy) := goodIn_app (goodIn_of _ (by decide +kernel)) ggX5_count_X5_seenBy
set_option maxRecDepth 20000 in
theorem ggX5_count_X5_wrongBy : GoodIn wsX5_count wsX5_wrongBy := goodIn_r _ [69, 70, 71, 72, 7, 73, 2, 36, 37, 38, 39, 13, 40, 41, 42, 43, 44, 45, 46, 47, 48, 49, 50, 51, 52, 53, 54, 55, 56, 57, 58, 59, 60, 61, 62, 63, 64, 65, 85, 86, 87, 88, 89, 90, 91, 92, 93, 94, 95, 96, 97, 98] (by decide +kernel) (by decide +kernel)
set_option maxRecDepth 20000 in
theorem gX5_count_X5_wrongBy : GoodIn wsX5_count (wsV RX5 211 RX5 yX5_wrongBy wsX5_wrongBy) := goodIn_app (goodIn_of _ (by decide +kernel)) ggX5_count_X5_wrongBy
set_option maxRecDepth 20000 in
theorem ggX5_count_X5_travel : GoodIn wsX5_count wsX5_travel := goodIn_r _ [77, 2, 18, 19, 20, 7, 21, 22, 23, 24, 25, 26, 27, 85, 86, 87, 88, 89, 90, 91, 92, 93, 94, 95, 96, 97, 98] (by decide +kernel) (by decide +kernel)
set_option maxRecDepth 20000 in
theorem gX5_count_X5_travel : GoodIn wsX5_count (wsV RX5 214 RX5 yX5_travel wsX5_travel) := goodIn_app (goodIn_of _ (by decide +kernel)) ggX5_count_X5_travel
set_option maxRecDepth 20000 in
theorem ggX5_count_X5_lastLit : GoodIn wsX5_count wsX5_lastLit := goodIn_r _ [81, 13, 85, 86, 87, 88, 89, 90, 91, 92, 93, 94, 95, 96, 97, 98] (by decide +kernel) (by decide +kernel)
set_option maxRecDepth 20000 in
theorem gX5_count_X5_lastLit : GoodIn wsX5_count (wsV RX5 217 RX5 yX5_lastLit wsX5_lastLit) := goodIn_app (goodIn_of _ (by decide +kernel)) ggX5_count_X5_lastLit
set_option maxRecDepth 20000 in
theorem ggX5_count_X5_slotAt : GoodIn wsX5_count wsX5_slotAt := goodIn_r _ [84] (by decide +kernel) (by decide +kernel)
set_option maxRecDepth 20000 in
theorem gX5_count_X5_slotAt : GoodIn wsX5_count (va_wsS RX5 151 yX5_slotAt wsX5_slotAt) := goodIn_app (goodIn_of _ (by decide +kernel)) ggX5_count_X5_slotAt
theorem dX5_count_0 : decode cX5_count 0 = .ok (.aload_n 0, 1) := by decide +kernel
theorem dX5_count_1 : decode cX5_count 1 = .ok (.iconst 0, 1) := by decide +kernel
theorem dX5_count_2 : decode cX5_count 2 = .ok (.putfield 32, 3) := by decide +kernel
theorem dX5_count_5 : decode cX5_count 5 = .ok (.iload_n 1, 1) := by decide +kernel
theorem dX5_count_6 : decode cX5_count 6 = .ok (.bipush 13, 2) := by decide +kernel
theorem dX5_count_8 : decode cX5_count 8 = .ok (.bipush 18, 2) := by decide +kernel
theorem dX5_count_10 : decode cX5_count 10 = .ok (.invokestatic 36, 3) := by decide +kernel
theorem dX5_count_13 : decode cX5_count 13 = .ok (.ifCond .eq 15, 3) := by decide +kernel
theorem dX5_count_16 : decode cX5_count 16 = .ok (.aload_n 0, 1) := by decide +kernel
theorem dX5_count_17 : decode cX5_count 17 = .ok (.getfield 7, 3) := by decide +kernel
theorem dX5_count_20 : decode cX5_count 20 = .ok (.iconst 0, 1) := by decide +kernel
theorem dX5_count_21 : decode cX5_count 21 = .ok (.iload_n 1, 1) := by decide +kernel
theorem dX5_count_22 : decode cX5_count 22 = .ok (.iadd, 1) := by decide +kernel
theorem dX5_count_23 : decode cX5_count 23 = .ok (.bipush 13, 2) := by decide +kernel
theorem dX5_count_25 : decode cX5_count 25 = .ok (.isub, 1) := by decide +kernel
theorem dX5_count_26 : decode cX5_count 26 = .ok (.iaload, 1) := by decide +kernel
theorem dX5_count_27 : decode cX5_count 27 = .ok (.ireturn, 1) := by decide +kernel
theorem dX5_count_28 : decode cX5_count 28 = .ok (.aload_n 0, 1) := by decide +kernel
theorem dX5_count_29 : decode cX5_count 29 = .ok (.invokevirtual 120, 3) := by decide +kernel
theorem dX5_count_32 : decode cX5_count 32 = .ok (.istore_n 2, 1) := by decide +kernel
theorem dX5_count_33 : decode cX5_count 33 = .ok (.iload_n 1, 1) := by decide +kernel
theorem dX5_count_34 : decode cX5_count 34 = .ok (.tableswitch 141 0 12 #[66, 74, 76, 76, 84, 84, 92, 92, 101, 106, 111, 131, 136], 66) := by decide +kernel
theorem dX5_count_100 : decode cX5_count 100 = .ok (.aload_n 0, 1) := by decide +kernel
theorem dX5_count_101 : decode cX5_count 101 = .ok (.getfield 7, 3) := by decide +kernel
theorem dX5_count_104 : decode cX5_count 104 = .ok (.bipush 6, 2) := by decide +kernel
theorem dX5_count_106 : decode cX5_count 106 = .ok (.iaload, 1) := by decide +kernel
theorem dX5_count_107 : decode cX5_count 107 = .ok (.ireturn, 1) := by decide +kernel
theorem dX5_count_108 : decode cX5_count 108 = .ok (.iload_n 2, 1) := by decide +kernel
theorem dX5_count_109 : decode cX5_count 109 = .ok (.ireturn, 1) := by decide +kernel
theorem dX5_count_110 : decode cX5_count 110 = .ok (.aload_n 0, 1) := by decide +kernel
theorem dX5_count_111 : decode cX5_count 111 = .ok (.iload_n 1, 1) := by decide +kernel
theorem dX5_count_112 : decode cX5_count 112 = .ok (.iconst 2, 1) := by decide +kernel
theorem dX5_count_113 : decode cX5_count 113 = .ok (.isub, 1) := by decide +kernel
theorem dX5_count_114 : decode cX5_count 114 = .ok (.invokevirtual 142, 3) := by decide +kernel
theorem dX5_count_117 : decode cX5_count 117 = .ok (.ireturn, 1) := by decide +kernel
