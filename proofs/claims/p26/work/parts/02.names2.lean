theorem dX0_init_0 : decode cX0_init 0 = .ok (.aload_n 0, 1) := by decide +kernel
theorem dX0_init_1 : decode cX0_init 1 = .ok (.invokespecial 3, 3) := by decide +kernel
theorem dX0_init_4 : decode cX0_init 4 = .ok (.aload_n 0, 1) := by decide +kernel
theorem dX0_init_5 : decode cX0_init 5 = .ok (.sipush 140, 3) := by decide +kernel
theorem dX0_init_8 : decode cX0_init 8 = .ok (.newarray .char, 2) := by decide +kernel
theorem dX0_init_10 : decode cX0_init 10 = .ok (.putfield 9, 3) := by decide +kernel
theorem dX0_init_13 : decode cX0_init 13 = .ok (.aload_n 0, 1) := by decide +kernel
theorem dX0_init_14 : decode cX0_init 14 = .ok (.iconst 2, 1) := by decide +kernel
theorem dX0_init_15 : decode cX0_init 15 = .ok (.newarray .int, 2) := by decide +kernel
theorem dX0_init_17 : decode cX0_init 17 = .ok (.putfield 15, 3) := by decide +kernel
theorem dX0_init_20 : decode cX0_init 20 = .ok (.return_, 1) := by decide +kernel
theorem dX0_size_0 : decode cX0_size 0 = .ok (.aload_n 0, 1) := by decide +kernel
theorem dX0_size_1 : decode cX0_size 1 = .ok (.getfield 19, 3) := by decide +kernel
theorem dX0_size_4 : decode cX0_size 4 = .ok (.ireturn, 1) := by decide +kernel
theorem dX1_init_0 : decode cX1_init 0 = .ok (.aload_n 0, 1) := by decide +kernel
theorem dX1_init_1 : decode cX1_init 1 = .ok (.invokespecial 3, 3) := by decide +kernel
theorem dX1_init_4 : decode cX1_init 4 = .ok (.aload_n 0, 1) := by decide +kernel
theorem dX1_init_5 : decode cX1_init 5 = .ok (.bipush 64, 2) := by decide +kernel
theorem dX1_init_7 : decode cX1_init 7 = .ok (.newarray .int, 2) := by decide +kernel
theorem dX1_init_9 : decode cX1_init 9 = .ok (.putfield 9, 3) := by decide +kernel
theorem dX1_init_12 : decode cX1_init 12 = .ok (.aload_n 0, 1) := by decide +kernel
theorem dX1_init_13 : decode cX1_init 13 = .ok (.bipush 12, 2) := by decide +kernel
theorem dX1_init_15 : decode cX1_init 15 = .ok (.newarray .int, 2) := by decide +kernel
theorem dX1_init_17 : decode cX1_init 17 = .ok (.putfield 15, 3) := by decide +kernel
theorem dX1_init_20 : decode cX1_init 20 = .ok (.aload_n 0, 1) := by decide +kernel
theorem dX1_init_21 : decode cX1_init 21 = .ok (.iconst 2, 1) := by decide +kernel
theorem dX1_init_22 : decode cX1_init 22 = .ok (.newarray .long, 2) := by decide +kernel
theorem dX1_init_24 : decode cX1_init 24 = .ok (.putfield 18, 3) := by decide +kernel
theorem dX1_init_27 : decode cX1_init 27 = .ok (.aload_n 0, 1) := by decide +kernel
theorem dX1_init_28 : decode cX1_init 28 = .ok (.bipush 6, 2) := by decide +kernel
theorem dX1_init_30 : decode cX1_init 30 = .ok (.newarray .int, 2) := by decide +kernel
theorem dX1_init_32 : decode cX1_init 32 = .ok (.dup, 1) := by decide +kernel
theorem dX1_init_33 : decode cX1_init 33 = .ok (.iconst 0, 1) := by decide +kernel
theorem dX1_init_34 : decode cX1_init 34 = .ok (.bipush 60, 2) := by decide +kernel
theorem dX1_init_36 : decode cX1_init 36 = .ok (.iastore, 1) := by decide +kernel
theorem dX1_init_37 : decode cX1_init 37 = .ok (.dup, 1) := by decide +kernel
theorem dX1_init_38 : decode cX1_init 38 = .ok (.iconst 1, 1) := by decide +kernel
theorem dX1_init_39 : decode cX1_init 39 = .ok (.iconst 1, 1) := by decide +kernel
theorem dX1_init_40 : decode cX1_init 40 = .ok (.iastore, 1) := by decide +kernel
theorem dX1_init_41 : decode cX1_init 41 = .ok (.dup, 1) := by decide +kernel
theorem dX1_init_42 : decode cX1_init 42 = .ok (.iconst 2, 1) := by decide +kernel
theorem dX1_init_43 : decode cX1_init 43 = .ok (.bipush 20, 2) := by decide +kernel
theorem dX1_init_45 : decode cX1_init 45 = .ok (.iastore, 1) := by decide +kernel
theorem dX1_init_46 : decode cX1_init 46 = .ok (.dup, 1) := by decide +kernel
theorem dX1_init_47 : decode cX1_init 47 = .ok (.iconst 3, 1) := by decide +kernel
theorem dX1_init_48 : decode cX1_init 48 = .ok (.iconst 0, 1) := by decide +kernel
theorem dX1_init_49 : decode cX1_init 49 = .ok (.iastore, 1) := by decide +kernel
theorem dX1_init_50 : decode cX1_init 50 = .ok (.dup, 1) := by decide +kernel
theorem dX1_init_51 : decode cX1_init 51 = .ok (.iconst 4, 1) := by decide +kernel
theorem dX1_init_52 : decode cX1_init 52 = .ok (.iconst 4, 1) := by decide +kernel
theorem dX1_init_53 : decode cX1_init 53 = .ok (.iastore, 1) := by decide +kernel
theorem dX1_init_54 : decode cX1_init 54 = .ok (.dup, 1) := by decide +kernel
theorem dX1_init_55 : decode cX1_init 55 = .ok (.iconst 5, 1) := by decide +kernel
theorem dX1_init_56 : decode cX1_init 56 = .ok (.bipush 60, 2) := by decide +kernel
theorem dX1_init_58 : decode cX1_init 58 = .ok (.iastore, 1) := by decide +kernel
theorem dX1_init_59 : decode cX1_init 59 = .ok (.putfield 22, 3) := by decide +kernel
theorem dX1_init_62 : decode cX1_init 62 = .ok (.return_, 1) := by decide +kernel
theorem dX1_copyFrom_0 : decode cX1_copyFrom 0 = .ok (.aload_n 1, 1) := by decide +kernel
theorem dX1_copyFrom_1 : decode cX1_copyFrom 1 = .ok (.getfield 9, 3) := by decide +kernel
theorem dX1_copyFrom_4 : decode cX1_copyFrom 4 = .ok (.iconst 0, 1) := by decide +kernel
theorem dX1_copyFrom_5 : decode cX1_copyFrom 5 = .ok (.aload_n 0, 1) := by decide +kernel
theorem dX1_copyFrom_6 : decode cX1_copyFrom 6 = .ok (.getfield 9, 3) := by decide +kernel
theorem dX1_copyFrom_9 : decode cX1_copyFrom 9 = .ok (.iconst 0, 1) := by decide +kernel
theorem dX1_copyFrom_10 : decode cX1_copyFrom 10 = .ok (.bipush 64, 2) := by decide +kernel
theorem dX1_copyFrom_12 : decode cX1_copyFrom 12 = .ok (.invokestatic 25, 3) := by decide +kernel
theorem dX1_copyFrom_15 : decode cX1_copyFrom 15 = .ok (.aload_n 1, 1) := by decide +kernel
theorem dX1_copyFrom_16 : decode cX1_copyFrom 16 = .ok (.getfield 15, 3) := by decide +kernel
theorem dX1_copyFrom_19 : decode cX1_copyFrom 19 = .ok (.iconst 0, 1) := by decide +kernel
theorem dX1_copyFrom_20 : decode cX1_copyFrom 20 = .ok (.aload_n 0, 1) := by decide +kernel
theorem dX1_copyFrom_21 : decode cX1_copyFrom 21 = .ok (.getfield 15, 3) := by decide +kernel
theorem dX1_copyFrom_24 : decode cX1_copyFrom 24 = .ok (.iconst 0, 1) := by decide +kernel
theorem dX1_copyFrom_25 : decode cX1_copyFrom 25 = .ok (.bipush 12, 2) := by decide +kernel
theorem dX1_copyFrom_27 : decode cX1_copyFrom 27 = .ok (.invokestatic 25, 3) := by decide +kernel
theorem dX1_copyFrom_30 : decode cX1_copyFrom 30 = .ok (.aload_n 0, 1) := by decide +kernel
theorem dX1_copyFrom_31 : decode cX1_copyFrom 31 = .ok (.aload_n 1, 1) := by decide +kernel
theorem dX1_copyFrom_32 : decode cX1_copyFrom 32 = .ok (.getfield 31, 3) := by decide +kernel
theorem dX1_copyFrom_35 : decode cX1_copyFrom 35 = .ok (.putfield 31, 3) := by decide +kernel
theorem dX1_copyFrom_38 : decode cX1_copyFrom 38 = .ok (.aload_n 1, 1) := by decide +kernel
theorem dX1_copyFrom_39 : decode cX1_copyFrom 39 = .ok (.getfield 18, 3) := by decide +kernel
theorem dX1_copyFrom_42 : decode cX1_copyFrom 42 = .ok (.iconst 0, 1) := by decide +kernel
theorem dX1_copyFrom_43 : decode cX1_copyFrom 43 = .ok (.aload_n 0, 1) := by decide +kernel
theorem dX1_copyFrom_44 : decode cX1_copyFrom 44 = .ok (.getfield 18, 3) := by decide +kernel
theorem dX1_copyFrom_47 : decode cX1_copyFrom 47 = .ok (.iconst 0, 1) := by decide +kernel
theorem dX1_copyFrom_48 : decode cX1_copyFrom 48 = .ok (.iconst 2, 1) := by decide +kernel
theorem dX1_copyFrom_49 : decode cX1_copyFrom 49 = .ok (.invokestatic 25, 3) := by decide +kernel
theorem dX1_copyFrom_52 : decode cX1_copyFrom 52 = .ok (.aload_n 1, 1) := by decide +kernel
theorem dX1_copyFrom_53 : decode cX1_copyFrom 53 = .ok (.getfield 22, 3) := by decide +kernel
theorem dX1_copyFrom_56 : decode cX1_copyFrom 56 = .ok (.iconst 0, 1) := by decide +kernel
theorem dX1_copyFrom_57 : decode cX1_copyFrom 57 = .ok (.aload_n 0, 1) := by decide +kernel
theorem dX1_copyFrom_58 : decode cX1_copyFrom 58 = .ok (.getfield 22, 3) := by decide +kernel
theorem dX1_copyFrom_61 : decode cX1_copyFrom 61 = .ok (.iconst 0, 1) := by decide +kernel
theorem dX1_copyFrom_62 : decode cX1_copyFrom 62 = .ok (.bipush 6, 2) := by decide +kernel
theorem dX1_copyFrom_64 : decode cX1_copyFrom 64 = .ok (.invokestatic 25, 3) := by decide +kernel
theorem dX1_copyFrom_67 : decode cX1_copyFrom 67 = .ok (.return_, 1) := by decide +kernel
theorem dX1_putSetting_0 : decode cX1_putSetting 0 = .ok (.iload_n 1, 1) := by decide +kernel
theorem dX1_putSetting_1 : decode cX1_putSetting 1 = .ok (.ifCond .lt 27, 3) := by decide +kernel
theorem dX1_putSetting_4 : decode cX1_putSetting 4 = .ok (.iload_n 1, 1) := by decide +kernel
theorem dX1_putSetting_5 : decode cX1_putSetting 5 = .ok (.bipush 6, 2) := by decide +kernel
theorem dX1_putSetting_7 : decode cX1_putSetting 7 = .ok (.if_icmp .ge 21, 3) := by decide +kernel
theorem dX1_putSetting_10 : decode cX1_putSetting 10 = .ok (.iload_n 2, 1) := by decide +kernel
theorem dX1_putSetting_11 : decode cX1_putSetting 11 = .ok (.getstatic 35, 3) := by decide +kernel
theorem dX1_putSetting_14 : decode cX1_putSetting 14 = .ok (.iload_n 1, 1) := by decide +kernel
theorem dX1_putSetting_15 : decode cX1_putSetting 15 = .ok (.iaload, 1) := by decide +kernel
theorem dX1_putSetting_16 : decode cX1_putSetting 16 = .ok (.if_icmp .lt 12, 3) := by decide +kernel
theorem dX1_putSetting_19 : decode cX1_putSetting 19 = .ok (.iload_n 2, 1) := by decide +kernel
theorem dX1_putSetting_20 : decode cX1_putSetting 20 = .ok (.getstatic 38, 3) := by decide +kernel
theorem dX1_putSetting_23 : decode cX1_putSetting 23 = .ok (.iload_n 1, 1) := by decide +kernel
theorem dX1_putSetting_24 : decode cX1_putSetting 24 = .ok (.iaload, 1) := by decide +kernel
theorem dX1_putSetting_25 : decode cX1_putSetting 25 = .ok (.if_icmp .le 5, 3) := by decide +kernel
theorem dX1_putSetting_28 : decode cX1_putSetting 28 = .ok (.iconst (-1), 1) := by decide +kernel
theorem dX1_putSetting_29 : decode cX1_putSetting 29 = .ok (.ireturn, 1) := by decide +kernel
theorem dX1_putSetting_30 : decode cX1_putSetting 30 = .ok (.aload_n 0, 1) := by decide +kernel
theorem dX1_putSetting_31 : decode cX1_putSetting 31 = .ok (.getfield 22, 3) := by decide +kernel
theorem dX1_putSetting_34 : decode cX1_putSetting 34 = .ok (.iload_n 1, 1) := by decide +kernel
theorem dX1_putSetting_35 : decode cX1_putSetting 35 = .ok (.iaload, 1) := by decide +kernel
theorem dX1_putSetting_36 : decode cX1_putSetting 36 = .ok (.istore_n 3, 1) := by decide +kernel
theorem dX1_putSetting_37 : decode cX1_putSetting 37 = .ok (.aload_n 0, 1) := by decide +kernel
theorem dX1_putSetting_38 : decode cX1_putSetting 38 = .ok (.getfield 22, 3) := by decide +kernel
theorem dX1_putSetting_41 : decode cX1_putSetting 41 = .ok (.iload_n 1, 1) := by decide +kernel
theorem dX1_putSetting_42 : decode cX1_putSetting 42 = .ok (.iload_n 2, 1) := by decide +kernel
theorem dX1_putSetting_43 : decode cX1_putSetting 43 = .ok (.iastore, 1) := by decide +kernel
theorem dX1_putSetting_44 : decode cX1_putSetting 44 = .ok (.iload_n 3, 1) := by decide +kernel
theorem dX1_putSetting_45 : decode cX1_putSetting 45 = .ok (.ireturn, 1) := by decide +kernel
set_option maxRecDepth 20000 in
theorem ggX1_putPhosphor_X4_isSpot : GoodIn wsX1_putPhosphor wsX4_isSpot := goodIn_r _ [4] (by decide +kernel) (by decide +kernel)
set_option maxRecDepth 20000 in
theorem gX1_putPhosphor_X4_isSpot_n41 : GoodIn wsX1_putPhosphor (wsX4_isSpot) := ggX1_putPhosphor_X4_isSpot
set_option maxRecDepth 20000 in
theorem ggX1_putPhosphor_X4_isPhosphor : GoodIn wsX1_putPhosphor wsX4_isPhosphor := goodIn_r _ [6] (by decide +kernel) (by decide +kernel)
set_option maxRecDepth 20000 in
theorem gX1_putPhosphor_X4_isPhosphor_n45 : GoodIn wsX1_putPhosphor (wsX4_isPhosphor) := ggX1_putPhosphor_X4_isPhosphor
theorem dX1_putPhosphor_0 : decode cX1_putPhosphor 0 = .ok (.iload_n 1, 1) := by decide +kernel
theorem dX1_putPhosphor_1 : decode cX1_putPhosphor 1 = .ok (.invokestatic 41, 3) := by decide +kernel
theorem dX1_putPhosphor_4 : decode cX1_putPhosphor 4 = .ok (.ifCond .eq 10, 3) := by decide +kernel
theorem dX1_putPhosphor_7 : decode cX1_putPhosphor 7 = .ok (.iload_n 2, 1) := by decide +kernel
theorem dX1_putPhosphor_8 : decode cX1_putPhosphor 8 = .ok (.invokestatic 45, 3) := by decide +kernel
theorem dX1_putPhosphor_11 : decode cX1_putPhosphor 11 = .ok (.ifCond .ne 5, 3) := by decide +kernel
theorem dX1_putPhosphor_14 : decode cX1_putPhosphor 14 = .ok (.iconst (-1), 1) := by decide +kernel
theorem dX1_putPhosphor_15 : decode cX1_putPhosphor 15 = .ok (.ireturn, 1) := by decide +kernel
theorem dX1_putPhosphor_16 : decode cX1_putPhosphor 16 = .ok (.aload_n 0, 1) := by decide +kernel
theorem dX1_putPhosphor_17 : decode cX1_putPhosphor 17 = .ok (.getfield 9, 3) := by decide +kernel
theorem dX1_putPhosphor_20 : decode cX1_putPhosphor 20 = .ok (.iload_n 1, 1) := by decide +kernel
theorem dX1_putPhosphor_21 : decode cX1_putPhosphor 21 = .ok (.iaload, 1) := by decide +kernel
theorem dX1_putPhosphor_22 : decode cX1_putPhosphor 22 = .ok (.istore_n 3, 1) := by decide +kernel
theorem dX1_putPhosphor_23 : decode cX1_putPhosphor 23 = .ok (.aload_n 0, 1) := by decide +kernel
theorem dX1_putPhosphor_24 : decode cX1_putPhosphor 24 = .ok (.getfield 9, 3) := by decide +kernel
theorem dX1_putPhosphor_27 : decode cX1_putPhosphor 27 = .ok (.iload_n 1, 1) := by decide +kernel
theorem dX1_putPhosphor_28 : decode cX1_putPhosphor 28 = .ok (.iload_n 2, 1) := by decide +kernel
theorem dX1_putPhosphor_29 : decode cX1_putPhosphor 29 = .ok (.iastore, 1) := by decide +kernel
theorem dX1_putPhosphor_30 : decode cX1_putPhosphor 30 = .ok (.iload_n 3, 1) := by decide +kernel
theorem dX1_putPhosphor_31 : decode cX1_putPhosphor 31 = .ok (.ireturn, 1) := by decide +kernel
set_option maxRecDepth 20000 in
theorem ggX1_addSpot_X4_isSpot : GoodIn wsX1_addSpot wsX4_isSpot := goodIn_r _ [5] (by decide +kernel) (by decide +kernel)
set_option maxRecDepth 20000 in
theorem gX1_addSpot_X4_isSpot_n41 : GoodIn wsX1_addSpot (wsX4_isSpot) := ggX1_addSpot_X4_isSpot
set_option maxRecDepth 20000 in
theorem ggX1_addSpot_X1_positionOf : GoodIn wsX1_addSpot wsX1_positionOf := goodIn_r _ [10, 1, 2, 11, 12, 13, 14, 15] (by decide +kernel) (by decide +kernel)
set_option maxRecDepth 20000 in
theorem gX1_addSpot_X1_positionOf : GoodIn wsX1_addSpot (wsV RX1 48 RX1 yX1_positionOf wsX1_positionOf) := goodIn_app (goodIn_of _ (by decide +kernel)) ggX1_addSpot_X1_positionOf
theorem dX1_addSpot_0 : decode cX1_addSpot 0 = .ok (.iload_n 1, 1) := by decide +kernel
theorem dX1_addSpot_1 : decode cX1_addSpot 1 = .ok (.invokestatic 41, 3) := by decide +kernel
theorem dX1_addSpot_4 : decode cX1_addSpot 4 = .ok (.ifCond .ne 5, 3) := by decide +kernel
theorem dX1_addSpot_7 : decode cX1_addSpot 7 = .ok (.iconst (-1), 1) := by decide +kernel
theorem dX1_addSpot_8 : decode cX1_addSpot 8 = .ok (.ireturn, 1) := by decide +kernel
theorem dX1_addSpot_9 : decode cX1_addSpot 9 = .ok (.aload_n 0, 1) := by decide +kernel
theorem dX1_addSpot_10 : decode cX1_addSpot 10 = .ok (.iload_n 1, 1) := by decide +kernel
theorem dX1_addSpot_11 : decode cX1_addSpot 11 = .ok (.invokevirtual 48, 3) := by decide +kernel
theorem dX1_addSpot_14 : decode cX1_addSpot 14 = .ok (.bipush (-9), 2) := by decide +kernel
theorem dX1_addSpot_16 : decode cX1_addSpot 16 = .ok (.if_icmp .eq 6, 3) := by decide +kernel
theorem dX1_addSpot_19 : decode cX1_addSpot 19 = .ok (.bipush (-2), 2) := by decide +kernel
theorem dX1_addSpot_21 : decode cX1_addSpot 21 = .ok (.ireturn, 1) := by decide +kernel
theorem dX1_addSpot_22 : decode cX1_addSpot 22 = .ok (.aload_n 0, 1) := by decide +kernel
theorem dX1_addSpot_23 : decode cX1_addSpot 23 = .ok (.getfield 31, 3) := by decide +kernel
theorem dX1_addSpot_26 : decode cX1_addSpot 26 = .ok (.bipush 12, 2) := by decide +kernel
theorem dX1_addSpot_28 : decode cX1_addSpot 28 = .ok (.if_icmp .lt 6, 3) := by decide +kernel
theorem dX1_addSpot_31 : decode cX1_addSpot 31 = .ok (.bipush (-3), 2) := by decide +kernel
theorem dX1_addSpot_33 : decode cX1_addSpot 33 = .ok (.ireturn, 1) := by decide +kernel
theorem dX1_addSpot_34 : decode cX1_addSpot 34 = .ok (.aload_n 0, 1) := by decide +kernel
theorem dX1_addSpot_35 : decode cX1_addSpot 35 = .ok (.getfield 15, 3) := by decide +kernel
theorem dX1_addSpot_38 : decode cX1_addSpot 38 = .ok (.aload_n 0, 1) := by decide +kernel
theorem dX1_addSpot_39 : decode cX1_addSpot 39 = .ok (.getfield 31, 3) := by decide +kernel
theorem dX1_addSpot_42 : decode cX1_addSpot 42 = .ok (.iload_n 1, 1) := by decide +kernel
theorem dX1_addSpot_43 : decode cX1_addSpot 43 = .ok (.iastore, 1) := by decide +kernel
theorem dX1_addSpot_44 : decode cX1_addSpot 44 = .ok (.aload_n 0, 1) := by decide +kernel
theorem dX1_addSpot_45 : decode cX1_addSpot 45 = .ok (.dup, 1) := by decide +kernel
theorem dX1_addSpot_46 : decode cX1_addSpot 46 = .ok (.getfield 31, 3) := by decide +kernel
theorem dX1_addSpot_49 : decode cX1_addSpot 49 = .ok (.iconst 1, 1) := by decide +kernel
theorem dX1_addSpot_50 : decode cX1_addSpot 50 = .ok (.iadd, 1) := by decide +kernel
theorem dX1_addSpot_51 : decode cX1_addSpot 51 = .ok (.putfield 31, 3) := by decide +kernel
theorem dX1_addSpot_54 : decode cX1_addSpot 54 = .ok (.aload_n 0, 1) := by decide +kernel
theorem dX1_addSpot_55 : decode cX1_addSpot 55 = .ok (.getfield 31, 3) := by decide +kernel
theorem dX1_addSpot_58 : decode cX1_addSpot 58 = .ok (.iconst 1, 1) := by decide +kernel
theorem dX1_addSpot_59 : decode cX1_addSpot 59 = .ok (.isub, 1) := by decide +kernel
theorem dX1_addSpot_60 : decode cX1_addSpot 60 = .ok (.ireturn, 1) := by decide +kernel
set_option maxRecDepth 20000 in
theorem ggX1_removeSpot_X4_isSpot : GoodIn wsX1_removeSpot wsX4_isSpot := goodIn_r _ [5] (by decide +kernel) (by decide +kernel)
set_option maxRecDepth 20000 in
theorem gX1_removeSpot_X4_isSpot_n41 : GoodIn wsX1_removeSpot (wsX4_isSpot) := ggX1_removeSpot_X4_isSpot
set_option maxRecDepth 20000 in
theorem ggX1_removeSpot_X1_positionOf : GoodIn wsX1_removeSpot wsX1_positionOf := goodIn_r _ [10, 1, 2, 11, 12, 13, 14, 15] (by decide +kernel) (by decide +kernel)
set_option maxRecDepth 20000 in
theorem gX1_removeSpot_X1_positionOf : GoodIn wsX1_removeSpot (wsV RX1 48 RX1 yX1_positionOf wsX1_positionOf) := goodIn_app (goodIn_of _ (by decide +kernel)) ggX1_removeSpot_X1_positionOf
theorem dX1_removeSpot_0 : decode cX1_removeSpot 0 = .ok (.iload_n 1, 1) := by decide +kernel
theorem dX1_removeSpot_1 : decode cX1_removeSpot 1 = .ok (.invokestatic 41, 3) := by decide +kernel
theorem dX1_removeSpot_4 : decode cX1_removeSpot 4 = .ok (.ifCond .ne 5, 3) := by decide +kernel
theorem dX1_removeSpot_7 : decode cX1_removeSpot 7 = .ok (.iconst (-1), 1) := by decide +kernel
theorem dX1_removeSpot_8 : decode cX1_removeSpot 8 = .ok (.ireturn, 1) := by decide +kernel
theorem dX1_removeSpot_9 : decode cX1_removeSpot 9 = .ok (.aload_n 0, 1) := by decide +kernel
theorem dX1_removeSpot_10 : decode cX1_removeSpot 10 = .ok (.iload_n 1, 1) := by decide +kernel
theorem dX1_removeSpot_11 : decode cX1_removeSpot 11 = .ok (.invokevirtual 48, 3) := by decide +kernel
theorem dX1_removeSpot_14 : decode cX1_removeSpot 14 = .ok (.istore_n 2, 1) := by decide +kernel
theorem dX1_removeSpot_15 : decode cX1_removeSpot 15 = .ok (.iload_n 2, 1) := by decide +kernel
theorem dX1_removeSpot_16 : decode cX1_removeSpot 16 = .ok (.bipush (-9), 2) := by decide +kernel
theorem dX1_removeSpot_18 : decode cX1_removeSpot 18 = .ok (.if_icmp .ne 6, 3) := by decide +kernel
theorem dX1_removeSpot_21 : decode cX1_removeSpot 21 = .ok (.bipush (-2), 2) := by decide +kernel
theorem dX1_removeSpot_23 : decode cX1_removeSpot 23 = .ok (.ireturn, 1) := by decide +kernel
theorem dX1_removeSpot_24 : decode cX1_removeSpot 24 = .ok (.iload_n 2, 1) := by decide +kernel
theorem dX1_removeSpot_25 : decode cX1_removeSpot 25 = .ok (.iconst 1, 1) := by decide +kernel
theorem dX1_removeSpot_26 : decode cX1_removeSpot 26 = .ok (.iadd, 1) := by decide +kernel
theorem dX1_removeSpot_27 : decode cX1_removeSpot 27 = .ok (.istore_n 3, 1) := by decide +kernel
theorem dX1_removeSpot_28 : decode cX1_removeSpot 28 = .ok (.iload_n 3, 1) := by decide +kernel
theorem dX1_removeSpot_29 : decode cX1_removeSpot 29 = .ok (.aload_n 0, 1) := by decide +kernel
theorem dX1_removeSpot_30 : decode cX1_removeSpot 30 = .ok (.getfield 31, 3) := by decide +kernel
theorem dX1_removeSpot_33 : decode cX1_removeSpot 33 = .ok (.if_icmp .ge 23, 3) := by decide +kernel
theorem dX1_removeSpot_36 : decode cX1_removeSpot 36 = .ok (.aload_n 0, 1) := by decide +kernel
theorem dX1_removeSpot_37 : decode cX1_removeSpot 37 = .ok (.getfield 15, 3) := by decide +kernel
theorem dX1_removeSpot_40 : decode cX1_removeSpot 40 = .ok (.iload_n 3, 1) := by decide +kernel
theorem dX1_removeSpot_41 : decode cX1_removeSpot 41 = .ok (.iconst 1, 1) := by decide +kernel
theorem dX1_removeSpot_42 : decode cX1_removeSpot 42 = .ok (.isub, 1) := by decide +kernel
theorem dX1_removeSpot_43 : decode cX1_removeSpot 43 = .ok (.aload_n 0, 1) := by decide +kernel
theorem dX1_removeSpot_44 : decode cX1_removeSpot 44 = .ok (.getfield 15, 3) := by decide +kernel
theorem dX1_removeSpot_47 : decode cX1_removeSpot 47 = .ok (.iload_n 3, 1) := by decide +kernel
theorem dX1_removeSpot_48 : decode cX1_removeSpot 48 = .ok (.iaload, 1) := by decide +kernel
theorem dX1_removeSpot_49 : decode cX1_removeSpot 49 = .ok (.iastore, 1) := by decide +kernel
theorem dX1_removeSpot_50 : decode cX1_removeSpot 50 = .ok (.iinc 3 1, 3) := by decide +kernel
theorem dX1_removeSpot_53 : decode cX1_removeSpot 53 = .ok (.goto (-25), 3) := by decide +kernel
theorem dX1_removeSpot_56 : decode cX1_removeSpot 56 = .ok (.aload_n 0, 1) := by decide +kernel
theorem dX1_removeSpot_57 : decode cX1_removeSpot 57 = .ok (.dup, 1) := by decide +kernel
theorem dX1_removeSpot_58 : decode cX1_removeSpot 58 = .ok (.getfield 31, 3) := by decide +kernel
theorem dX1_removeSpot_61 : decode cX1_removeSpot 61 = .ok (.iconst 1, 1) := by decide +kernel
theorem dX1_removeSpot_62 : decode cX1_removeSpot 62 = .ok (.isub, 1) := by decide +kernel
theorem dX1_removeSpot_63 : decode cX1_removeSpot 63 = .ok (.putfield 31, 3) := by decide +kernel
theorem dX1_removeSpot_66 : decode cX1_removeSpot 66 = .ok (.iload_n 2, 1) := by decide +kernel
theorem dX1_removeSpot_67 : decode cX1_removeSpot 67 = .ok (.ireturn, 1) := by decide +kernel
set_option maxRecDepth 20000 in
theorem ggX1_swapPositions_X1_swap : GoodIn wsX1_swapPositions wsX1_swap := goodIn_r _ [6, 7, 24, 25, 26, 27, 28] (by decide +kernel) (by decide +kernel)
set_option maxRecDepth 20000 in
theorem gX1_swapPositions_X1_swap : GoodIn wsX1_swapPositions (wsV RX1 52 RX1 yX1_swap wsX1_swap) := goodIn_app (goodIn_of _ (by decide +kernel)) ggX1_swapPositions_X1_swap
set_option maxRecDepth 20000 in
theorem ggX1_swapPositions_X1_litSize : GoodIn wsX1_swapPositions wsX1_litSize := goodIn_r _ [11, 1, 12, 13, 14, 15, 5, 16, 7, 17, 18, 19, 20, 21, 22, 23, 24, 25, 26, 27, 28] (by decide +kernel) (by decide +kernel)
set_option maxRecDepth 20000 in
theorem gX1_swapPositions_X1_litSize : GoodIn wsX1_swapPositions (wsV RX1 56 RX1 yX1_litSize wsX1_litSize) := goodIn_app (goodIn_of _ (by decide +kernel)) ggX1_swapPositions_X1_litSize
theorem dX1_swapPositions_0 : decode cX1_swapPositions 0 = .ok (.iload_n 1, 1) := by decide +kernel
theorem dX1_swapPositions_1 : decode cX1_swapPositions 1 = .ok (.ifCond .lt 23, 3) := by decide +kernel
theorem dX1_swapPositions_4 : decode cX1_swapPositions 4 = .ok (.iload_n 1, 1) := by decide +kernel
theorem dX1_swapPositions_5 : decode cX1_swapPositions 5 = .ok (.aload_n 0, 1) := by decide +kernel
theorem dX1_swapPositions_6 : decode cX1_swapPositions 6 = .ok (.getfield 31, 3) := by decide +kernel
theorem dX1_swapPositions_9 : decode cX1_swapPositions 9 = .ok (.if_icmp .ge 15, 3) := by decide +kernel
theorem dX1_swapPositions_12 : decode cX1_swapPositions 12 = .ok (.iload_n 2, 1) := by decide +kernel
theorem dX1_swapPositions_13 : decode cX1_swapPositions 13 = .ok (.ifCond .lt 11, 3) := by decide +kernel
theorem dX1_swapPositions_16 : decode cX1_swapPositions 16 = .ok (.iload_n 2, 1) := by decide +kernel
theorem dX1_swapPositions_17 : decode cX1_swapPositions 17 = .ok (.aload_n 0, 1) := by decide +kernel
theorem dX1_swapPositions_18 : decode cX1_swapPositions 18 = .ok (.getfield 31, 3) := by decide +kernel
theorem dX1_swapPositions_21 : decode cX1_swapPositions 21 = .ok (.if_icmp .lt 5, 3) := by decide +kernel
theorem dX1_swapPositions_24 : decode cX1_swapPositions 24 = .ok (.iconst (-1), 1) := by decide +kernel
theorem dX1_swapPositions_25 : decode cX1_swapPositions 25 = .ok (.ireturn, 1) := by decide +kernel
theorem dX1_swapPositions_26 : decode cX1_swapPositions 26 = .ok (.aload_n 0, 1) := by decide +kernel
theorem dX1_swapPositions_27 : decode cX1_swapPositions 27 = .ok (.iload_n 1, 1) := by decide +kernel
theorem dX1_swapPositions_28 : decode cX1_swapPositions 28 = .ok (.iload_n 2, 1) := by decide +kernel
theorem dX1_swapPositions_29 : decode cX1_swapPositions 29 = .ok (.invokevirtual 52, 3) := by decide +kernel
theorem dX1_swapPositions_32 : decode cX1_swapPositions 32 = .ok (.aload_n 0, 1) := by decide +kernel
theorem dX1_swapPositions_33 : decode cX1_swapPositions 33 = .ok (.invokevirtual 56, 3) := by decide +kernel
theorem dX1_swapPositions_36 : decode cX1_swapPositions 36 = .ok (.ireturn, 1) := by decide +kernel
theorem dX1_swap_0 : decode cX1_swap 0 = .ok (.aload_n 0, 1) := by decide +kernel
theorem dX1_swap_1 : decode cX1_swap 1 = .ok (.getfield 15, 3) := by decide +kernel
theorem dX1_swap_4 : decode cX1_swap 4 = .ok (.iload_n 1, 1) := by decide +kernel
theorem dX1_swap_5 : decode cX1_swap 5 = .ok (.iaload, 1) := by decide +kernel
theorem dX1_swap_6 : decode cX1_swap 6 = .ok (.istore_n 3, 1) := by decide +kernel
theorem dX1_swap_7 : decode cX1_swap 7 = .ok (.aload_n 0, 1) := by decide +kernel
theorem dX1_swap_8 : decode cX1_swap 8 = .ok (.getfield 15, 3) := by decide +kernel
theorem dX1_swap_11 : decode cX1_swap 11 = .ok (.iload_n 1, 1) := by decide +kernel
theorem dX1_swap_12 : decode cX1_swap 12 = .ok (.aload_n 0, 1) := by decide +kernel
theorem dX1_swap_13 : decode cX1_swap 13 = .ok (.getfield 15, 3) := by decide +kernel
theorem dX1_swap_16 : decode cX1_swap 16 = .ok (.iload_n 2, 1) := by decide +kernel
theorem dX1_swap_17 : decode cX1_swap 17 = .ok (.iaload, 1) := by decide +kernel
theorem dX1_swap_18 : decode cX1_swap 18 = .ok (.iastore, 1) := by decide +kernel
theorem dX1_swap_19 : decode cX1_swap 19 = .ok (.aload_n 0, 1) := by decide +kernel
theorem dX1_swap_20 : decode cX1_swap 20 = .ok (.getfield 15, 3) := by decide +kernel
theorem dX1_swap_23 : decode cX1_swap 23 = .ok (.iload_n 2, 1) := by decide +kernel
theorem dX1_swap_24 : decode cX1_swap 24 = .ok (.iload_n 3, 1) := by decide +kernel
theorem dX1_swap_25 : decode cX1_swap 25 = .ok (.iastore, 1) := by decide +kernel
theorem dX1_swap_26 : decode cX1_swap 26 = .ok (.return_, 1) := by decide +kernel
set_option maxRecDepth 20000 in
theorem ggX1_arrange_X1_rank : GoodIn wsX1_arrange wsX1_rank := goodIn_r _ [7, 8, 9, 10, 11, 12, 13, 14, 15, 16, 17, 18, 19, 20, 21, 22, 23, 24, 25, 26, 40, 41, 42, 43, 44] (by decide +kernel) (by decide +kernel)
set_option maxRecDepth 20000 in
theorem gX1_arrange_X1_rank : GoodIn wsX1_arrange (wsV RX1 60 RX1 yX1_rank wsX1_rank) := goodIn_app (goodIn_of _ (by decide +kernel)) ggX1_arrange_X1_rank
set_option maxRecDepth 20000 in
theorem ggX1_arrange_X1_swap : GoodIn wsX1_arrange wsX1_swap := goodIn_r _ [30, 2, 40, 41, 42, 43, 44] (by decide +kernel) (by decide +kernel)
set_option maxRecDepth 20000 in
theorem gX1_arrange_X1_swap : GoodIn wsX1_arrange (wsV RX1 52 RX1 yX1_swap wsX1_swap) := goodIn_app (goodIn_of _ (by decide +kernel)) ggX1_arrange_X1_swap
set_option maxRecDepth 20000 in
theorem ggX1_arrange_X1_litSize : GoodIn wsX1_arrange wsX1_litSize := goodIn_r _ [34, 1, 35, 36, 37, 38, 6, 39, 2, 13, 11, 14, 15, 16, 17, 18, 40, 41, 42, 43, 44] (by decide +kernel) (by decide +kernel)
set_option maxRecDepth 20000 in
theorem gX1_arrange_X1_litSize : GoodIn wsX1_arrange (wsV RX1 56 RX1 yX1_litSize wsX1_litSize) := goodIn_app (goodIn_of _ (by decide +kernel)) ggX1_arrange_X1_litSize
theorem dX1_arrange_0 : decode cX1_arrange 0 = .ok (.iload_n 1, 1) := by decide +kernel
theorem dX1_arrange_1 : decode cX1_arrange 1 = .ok (.ifCond .lt 8, 3) := by decide +kernel
theorem dX1_arrange_4 : decode cX1_arrange 4 = .ok (.iload_n 1, 1) := by decide +kernel
theorem dX1_arrange_5 : decode cX1_arrange 5 = .ok (.iconst 3, 1) := by decide +kernel
theorem dX1_arrange_6 : decode cX1_arrange 6 = .ok (.if_icmp .le 5, 3) := by decide +kernel
theorem dX1_arrange_9 : decode cX1_arrange 9 = .ok (.iconst (-1), 1) := by decide +kernel
theorem dX1_arrange_10 : decode cX1_arrange 10 = .ok (.ireturn, 1) := by decide +kernel
theorem dX1_arrange_11 : decode cX1_arrange 11 = .ok (.iconst 0, 1) := by decide +kernel
theorem dX1_arrange_12 : decode cX1_arrange 12 = .ok (.istore_n 2, 1) := by decide +kernel
theorem dX1_arrange_13 : decode cX1_arrange 13 = .ok (.iconst 0, 1) := by decide +kernel
theorem dX1_arrange_14 : decode cX1_arrange 14 = .ok (.istore_n 3, 1) := by decide +kernel
theorem dX1_arrange_15 : decode cX1_arrange 15 = .ok (.iload_n 3, 1) := by decide +kernel
theorem dX1_arrange_16 : decode cX1_arrange 16 = .ok (.aload_n 0, 1) := by decide +kernel
theorem dX1_arrange_17 : decode cX1_arrange 17 = .ok (.getfield 31, 3) := by decide +kernel
theorem dX1_arrange_20 : decode cX1_arrange 20 = .ok (.if_icmp .ge 79, 3) := by decide +kernel
theorem dX1_arrange_23 : decode cX1_arrange 23 = .ok (.iload_n 3, 1) := by decide +kernel
theorem dX1_arrange_24 : decode cX1_arrange 24 = .ok (.istore 4, 2) := by decide +kernel
theorem dX1_arrange_26 : decode cX1_arrange 26 = .ok (.iload_n 3, 1) := by decide +kernel
theorem dX1_arrange_27 : decode cX1_arrange 27 = .ok (.iconst 1, 1) := by decide +kernel
theorem dX1_arrange_28 : decode cX1_arrange 28 = .ok (.iadd, 1) := by decide +kernel
theorem dX1_arrange_29 : decode cX1_arrange 29 = .ok (.istore 5, 2) := by decide +kernel
theorem dX1_arrange_31 : decode cX1_arrange 31 = .ok (.iload 5, 2) := by decide +kernel
theorem dX1_arrange_33 : decode cX1_arrange 33 = .ok (.aload_n 0, 1) := by decide +kernel
theorem dX1_arrange_34 : decode cX1_arrange 34 = .ok (.getfield 31, 3) := by decide +kernel
theorem dX1_arrange_37 : decode cX1_arrange 37 = .ok (.if_icmp .ge 42, 3) := by decide +kernel
theorem dX1_arrange_40 : decode cX1_arrange 40 = .ok (.aload_n 0, 1) := by decide +kernel
theorem dX1_arrange_41 : decode cX1_arrange 41 = .ok (.iload_n 1, 1) := by decide +kernel
theorem dX1_arrange_42 : decode cX1_arrange 42 = .ok (.aload_n 0, 1) := by decide +kernel
theorem dX1_arrange_43 : decode cX1_arrange 43 = .ok (.getfield 15, 3) := by decide +kernel
theorem dX1_arrange_46 : decode cX1_arrange 46 = .ok (.iload 5, 2) := by decide +kernel
theorem dX1_arrange_48 : decode cX1_arrange 48 = .ok (.iaload, 1) := by decide +kernel
theorem dX1_arrange_49 : decode cX1_arrange 49 = .ok (.iload_n 2, 1) := by decide +kernel
theorem dX1_arrange_50 : decode cX1_arrange 50 = .ok (.invokevirtual 60, 3) := by decide +kernel
theorem dX1_arrange_53 : decode cX1_arrange 53 = .ok (.aload_n 0, 1) := by decide +kernel
theorem dX1_arrange_54 : decode cX1_arrange 54 = .ok (.iload_n 1, 1) := by decide +kernel
theorem dX1_arrange_55 : decode cX1_arrange 55 = .ok (.aload_n 0, 1) := by decide +kernel
theorem dX1_arrange_56 : decode cX1_arrange 56 = .ok (.getfield 15, 3) := by decide +kernel
theorem dX1_arrange_59 : decode cX1_arrange 59 = .ok (.iload 4, 2) := by decide +kernel
theorem dX1_arrange_61 : decode cX1_arrange 61 = .ok (.iaload, 1) := by decide +kernel
theorem dX1_arrange_62 : decode cX1_arrange 62 = .ok (.iload_n 2, 1) := by decide +kernel
theorem dX1_arrange_63 : decode cX1_arrange 63 = .ok (.invokevirtual 60, 3) := by decide +kernel
theorem dX1_arrange_66 : decode cX1_arrange 66 = .ok (.if_icmp .ge 7, 3) := by decide +kernel
theorem dX1_arrange_69 : decode cX1_arrange 69 = .ok (.iload 5, 2) := by decide +kernel
theorem dX1_arrange_71 : decode cX1_arrange 71 = .ok (.istore 4, 2) := by decide +kernel
theorem dX1_arrange_73 : decode cX1_arrange 73 = .ok (.iinc 5 1, 3) := by decide +kernel
theorem dX1_arrange_76 : decode cX1_arrange 76 = .ok (.goto (-45), 3) := by decide +kernel
theorem dX1_arrange_79 : decode cX1_arrange 79 = .ok (.aload_n 0, 1) := by decide +kernel
theorem dX1_arrange_80 : decode cX1_arrange 80 = .ok (.iload_n 3, 1) := by decide +kernel
theorem dX1_arrange_81 : decode cX1_arrange 81 = .ok (.iload 4, 2) := by decide +kernel
theorem dX1_arrange_83 : decode cX1_arrange 83 = .ok (.invokevirtual 52, 3) := by decide +kernel
theorem dX1_arrange_86 : decode cX1_arrange 86 = .ok (.aload_n 0, 1) := by decide +kernel
theorem dX1_arrange_87 : decode cX1_arrange 87 = .ok (.getfield 15, 3) := by decide +kernel
theorem dX1_arrange_90 : decode cX1_arrange 90 = .ok (.iload_n 3, 1) := by decide +kernel
theorem dX1_arrange_91 : decode cX1_arrange 91 = .ok (.iaload, 1) := by decide +kernel
theorem dX1_arrange_92 : decode cX1_arrange 92 = .ok (.istore_n 2, 1) := by decide +kernel
theorem dX1_arrange_93 : decode cX1_arrange 93 = .ok (.iinc 3 1, 3) := by decide +kernel
theorem dX1_arrange_96 : decode cX1_arrange 96 = .ok (.goto (-81), 3) := by decide +kernel
theorem dX1_arrange_99 : decode cX1_arrange 99 = .ok (.aload_n 0, 1) := by decide +kernel
theorem dX1_arrange_100 : decode cX1_arrange 100 = .ok (.invokevirtual 56, 3) := by decide +kernel
theorem dX1_arrange_103 : decode cX1_arrange 103 = .ok (.ireturn, 1) := by decide +kernel
set_option maxRecDepth 20000 in
theorem ggX1_rank_X4_bit : GoodIn wsX1_rank wsX4_bit := goodIn_r _ [5] (by decide +kernel) (by decide +kernel)
set_option maxRecDepth 20000 in
theorem gX1_rank_X4_bit_n64 : GoodIn wsX1_rank (wsX4_bit) := ggX1_rank_X4_bit
set_option maxRecDepth 20000 in
theorem ggX1_rank_X4_way : GoodIn wsX1_rank wsX4_way := goodIn_r _ [7, 8, 9, 10, 11] (by decide +kernel) (by decide +kernel)
set_option maxRecDepth 20000 in
theorem gX1_rank_X4_way_n68 : GoodIn wsX1_rank (wsX4_way) := ggX1_rank_X4_way
set_option maxRecDepth 20000 in
theorem ggX1_rank_X4_ticksAbove : GoodIn wsX1_rank wsX4_ticksAbove := goodIn_r _ [13, 14, 15, 4, 16, 17, 18, 10, 19] (by decide +kernel) (by decide +kernel)
set_option maxRecDepth 20000 in
theorem gX1_rank_X4_ticksAbove_n72 : GoodIn wsX1_rank (wsX4_ticksAbove) := ggX1_rank_X4_ticksAbove
theorem dX1_rank_0 : decode cX1_rank 0 = .ok (.iload_n 1, 1) := by decide +kernel
theorem dX1_rank_1 : decode cX1_rank 1 = .ok (.tableswitch 70 0 2 #[27, 29, 54], 27) := by decide +kernel
theorem dX1_rank_28 : decode cX1_rank 28 = .ok (.iload_n 2, 1) := by decide +kernel
theorem dX1_rank_29 : decode cX1_rank 29 = .ok (.ireturn, 1) := by decide +kernel
theorem dX1_rank_30 : decode cX1_rank 30 = .ok (.aload_n 0, 1) := by decide +kernel
theorem dX1_rank_31 : decode cX1_rank 31 = .ok (.getfield 18, 3) := by decide +kernel
theorem dX1_rank_34 : decode cX1_rank 34 = .ok (.iconst 1, 1) := by decide +kernel
theorem dX1_rank_35 : decode cX1_rank 35 = .ok (.laload, 1) := by decide +kernel
theorem dX1_rank_36 : decode cX1_rank 36 = .ok (.iload_n 2, 1) := by decide +kernel
theorem dX1_rank_37 : decode cX1_rank 37 = .ok (.invokestatic 64, 3) := by decide +kernel
theorem dX1_rank_40 : decode cX1_rank 40 = .ok (.bipush 15, 2) := by decide +kernel
theorem dX1_rank_42 : decode cX1_rank 42 = .ok (.imul, 1) := by decide +kernel
theorem dX1_rank_43 : decode cX1_rank 43 = .ok (.iconst 0, 1) := by decide +kernel
theorem dX1_rank_44 : decode cX1_rank 44 = .ok (.iload_n 2, 1) := by decide +kernel
theorem dX1_rank_45 : decode cX1_rank 45 = .ok (.invokestatic 68, 3) := by decide +kernel
theorem dX1_rank_48 : decode cX1_rank 48 = .ok (.iadd, 1) := by decide +kernel
theorem dX1_rank_49 : decode cX1_rank 49 = .ok (.bipush 64, 2) := by decide +kernel
theorem dX1_rank_51 : decode cX1_rank 51 = .ok (.imul, 1) := by decide +kernel
theorem dX1_rank_52 : decode cX1_rank 52 = .ok (.iload_n 2, 1) := by decide +kernel
theorem dX1_rank_53 : decode cX1_rank 53 = .ok (.iadd, 1) := by decide +kernel
theorem dX1_rank_54 : decode cX1_rank 54 = .ok (.ireturn, 1) := by decide +kernel
theorem dX1_rank_55 : decode cX1_rank 55 = .ok (.aload_n 0, 1) := by decide +kernel
theorem dX1_rank_56 : decode cX1_rank 56 = .ok (.getfield 9, 3) := by decide +kernel
theorem dX1_rank_59 : decode cX1_rank 59 = .ok (.iload_n 2, 1) := by decide +kernel
theorem dX1_rank_60 : decode cX1_rank 60 = .ok (.iaload, 1) := by decide +kernel
theorem dX1_rank_61 : decode cX1_rank 61 = .ok (.iconst 1, 1) := by decide +kernel
theorem dX1_rank_62 : decode cX1_rank 62 = .ok (.invokestatic 72, 3) := by decide +kernel
theorem dX1_rank_65 : decode cX1_rank 65 = .ok (.bipush 64, 2) := by decide +kernel
theorem dX1_rank_67 : decode cX1_rank 67 = .ok (.imul, 1) := by decide +kernel
theorem dX1_rank_68 : decode cX1_rank 68 = .ok (.iload_n 2, 1) := by decide +kernel
theorem dX1_rank_69 : decode cX1_rank 69 = .ok (.iadd, 1) := by decide +kernel
theorem dX1_rank_70 : decode cX1_rank 70 = .ok (.ireturn, 1) := by decide +kernel
theorem dX1_rank_71 : decode cX1_rank 71 = .ok (.iload_n 3, 1) := by decide +kernel
theorem dX1_rank_72 : decode cX1_rank 72 = .ok (.iload_n 2, 1) := by decide +kernel
theorem dX1_rank_73 : decode cX1_rank 73 = .ok (.invokestatic 68, 3) := by decide +kernel
theorem dX1_rank_76 : decode cX1_rank 76 = .ok (.bipush 64, 2) := by decide +kernel
theorem dX1_rank_78 : decode cX1_rank 78 = .ok (.imul, 1) := by decide +kernel
theorem dX1_rank_79 : decode cX1_rank 79 = .ok (.iload_n 2, 1) := by decide +kernel
theorem dX1_rank_80 : decode cX1_rank 80 = .ok (.iadd, 1) := by decide +kernel
theorem dX1_rank_81 : decode cX1_rank 81 = .ok (.ireturn, 1) := by decide +kernel
set_option maxRecDepth 20000 in
theorem ggX1_paint_X4_isSpot : GoodIn wsX1_paint wsX4_isSpot := goodIn_r _ [5] (by decide +kernel) (by decide +kernel)
set_option maxRecDepth 20000 in
theorem gX1_paint_X4_isSpot_n41 : GoodIn wsX1_paint (wsX4_isSpot) := ggX1_paint_X4_isSpot
set_option maxRecDepth 20000 in
theorem ggX1_paint_J13_bitCount_95d88 : GoodIn wsX1_paint wsJ13_bitCount_95d88 := goodIn_r _ [9, 10, 11, 12] (by decide +kernel) (by decide +kernel)
set_option maxRecDepth 20000 in
theorem gX1_paint_J13_bitCount_95d88 : GoodIn wsX1_paint (va_wsS RX1 77 yJ13_bitCount_95d88 wsJ13_bitCount_95d88) := goodIn_app (goodIn_of _ (by decide +kernel)) ggX1_paint_J13_bitCount_95d88
theorem dX1_paint_0 : decode cX1_paint 0 = .ok (.iload_n 1, 1) := by decide +kernel
theorem dX1_paint_1 : decode cX1_paint 1 = .ok (.ifCond .lt 24, 3) := by decide +kernel
theorem dX1_paint_4 : decode cX1_paint 4 = .ok (.iload_n 1, 1) := by decide +kernel
theorem dX1_paint_5 : decode cX1_paint 5 = .ok (.iconst 2, 1) := by decide +kernel
theorem dX1_paint_6 : decode cX1_paint 6 = .ok (.if_icmp .ge 19, 3) := by decide +kernel
theorem dX1_paint_9 : decode cX1_paint 9 = .ok (.iload_n 2, 1) := by decide +kernel
theorem dX1_paint_10 : decode cX1_paint 10 = .ok (.invokestatic 41, 3) := by decide +kernel
theorem dX1_paint_13 : decode cX1_paint 13 = .ok (.ifCond .eq 12, 3) := by decide +kernel
theorem dX1_paint_16 : decode cX1_paint 16 = .ok (.iload_n 3, 1) := by decide +kernel
theorem dX1_paint_17 : decode cX1_paint 17 = .ok (.ifCond .lt 8, 3) := by decide +kernel
theorem dX1_paint_20 : decode cX1_paint 20 = .ok (.iload_n 3, 1) := by decide +kernel
theorem dX1_paint_21 : decode cX1_paint 21 = .ok (.iconst 1, 1) := by decide +kernel
theorem dX1_paint_22 : decode cX1_paint 22 = .ok (.if_icmp .le 5, 3) := by decide +kernel
theorem dX1_paint_25 : decode cX1_paint 25 = .ok (.iconst (-1), 1) := by decide +kernel
theorem dX1_paint_26 : decode cX1_paint 26 = .ok (.ireturn, 1) := by decide +kernel
theorem dX1_paint_27 : decode cX1_paint 27 = .ok (.iload_n 3, 1) := by decide +kernel
theorem dX1_paint_28 : decode cX1_paint 28 = .ok (.iconst 1, 1) := by decide +kernel
theorem dX1_paint_29 : decode cX1_paint 29 = .ok (.if_icmp .ne 18, 3) := by decide +kernel
theorem dX1_paint_32 : decode cX1_paint 32 = .ok (.aload_n 0, 1) := by decide +kernel
theorem dX1_paint_33 : decode cX1_paint 33 = .ok (.getfield 18, 3) := by decide +kernel
theorem dX1_paint_36 : decode cX1_paint 36 = .ok (.iload_n 1, 1) := by decide +kernel
theorem dX1_paint_37 : decode cX1_paint 37 = .ok (.dup2, 1) := by decide +kernel
theorem dX1_paint_38 : decode cX1_paint 38 = .ok (.laload, 1) := by decide +kernel
theorem dX1_paint_39 : decode cX1_paint 39 = .ok (.lconst 1, 1) := by decide +kernel
theorem dX1_paint_40 : decode cX1_paint 40 = .ok (.iload_n 2, 1) := by decide +kernel
theorem dX1_paint_41 : decode cX1_paint 41 = .ok (.lshl, 1) := by decide +kernel
theorem dX1_paint_42 : decode cX1_paint 42 = .ok (.lor, 1) := by decide +kernel
theorem dX1_paint_43 : decode cX1_paint 43 = .ok (.lastore, 1) := by decide +kernel
theorem dX1_paint_44 : decode cX1_paint 44 = .ok (.goto 19, 3) := by decide +kernel
theorem dX1_paint_47 : decode cX1_paint 47 = .ok (.aload_n 0, 1) := by decide +kernel
theorem dX1_paint_48 : decode cX1_paint 48 = .ok (.getfield 18, 3) := by decide +kernel
theorem dX1_paint_51 : decode cX1_paint 51 = .ok (.iload_n 1, 1) := by decide +kernel
theorem dX1_paint_52 : decode cX1_paint 52 = .ok (.dup2, 1) := by decide +kernel
theorem dX1_paint_53 : decode cX1_paint 53 = .ok (.laload, 1) := by decide +kernel
theorem dX1_paint_54 : decode cX1_paint 54 = .ok (.lconst 1, 1) := by decide +kernel
theorem dX1_paint_55 : decode cX1_paint 55 = .ok (.iload_n 2, 1) := by decide +kernel
theorem dX1_paint_56 : decode cX1_paint 56 = .ok (.lshl, 1) := by decide +kernel
theorem dX1_paint_57 : decode cX1_paint 57 = .ok (.ldc2_w 75, 3) := by decide +kernel
theorem dX1_paint_60 : decode cX1_paint 60 = .ok (.lxor, 1) := by decide +kernel
theorem dX1_paint_61 : decode cX1_paint 61 = .ok (.land, 1) := by decide +kernel
theorem dX1_paint_62 : decode cX1_paint 62 = .ok (.lastore, 1) := by decide +kernel
theorem dX1_paint_63 : decode cX1_paint 63 = .ok (.aload_n 0, 1) := by decide +kernel
theorem dX1_paint_64 : decode cX1_paint 64 = .ok (.getfield 18, 3) := by decide +kernel
theorem dX1_paint_67 : decode cX1_paint 67 = .ok (.iload_n 1, 1) := by decide +kernel
theorem dX1_paint_68 : decode cX1_paint 68 = .ok (.laload, 1) := by decide +kernel
theorem dX1_paint_69 : decode cX1_paint 69 = .ok (.invokestatic 77, 3) := by decide +kernel
theorem dX1_paint_72 : decode cX1_paint 72 = .ok (.ireturn, 1) := by decide +kernel
theorem dX1_positionOf_0 : decode cX1_positionOf 0 = .ok (.iconst 0, 1) := by decide +kernel
theorem dX1_positionOf_1 : decode cX1_positionOf 1 = .ok (.istore_n 2, 1) := by decide +kernel
theorem dX1_positionOf_2 : decode cX1_positionOf 2 = .ok (.iload_n 2, 1) := by decide +kernel
theorem dX1_positionOf_3 : decode cX1_positionOf 3 = .ok (.aload_n 0, 1) := by decide +kernel
theorem dX1_positionOf_4 : decode cX1_positionOf 4 = .ok (.getfield 31, 3) := by decide +kernel
theorem dX1_positionOf_7 : decode cX1_positionOf 7 = .ok (.if_icmp .ge 21, 3) := by decide +kernel
theorem dX1_positionOf_10 : decode cX1_positionOf 10 = .ok (.aload_n 0, 1) := by decide +kernel
theorem dX1_positionOf_11 : decode cX1_positionOf 11 = .ok (.getfield 15, 3) := by decide +kernel
theorem dX1_positionOf_14 : decode cX1_positionOf 14 = .ok (.iload_n 2, 1) := by decide +kernel
theorem dX1_positionOf_15 : decode cX1_positionOf 15 = .ok (.iaload, 1) := by decide +kernel
theorem dX1_positionOf_16 : decode cX1_positionOf 16 = .ok (.iload_n 1, 1) := by decide +kernel
theorem dX1_positionOf_17 : decode cX1_positionOf 17 = .ok (.if_icmp .ne 5, 3) := by decide +kernel
theorem dX1_positionOf_20 : decode cX1_positionOf 20 = .ok (.iload_n 2, 1) := by decide +kernel
theorem dX1_positionOf_21 : decode cX1_positionOf 21 = .ok (.ireturn, 1) := by decide +kernel
theorem dX1_positionOf_22 : decode cX1_positionOf 22 = .ok (.iinc 2 1, 3) := by decide +kernel
theorem dX1_positionOf_25 : decode cX1_positionOf 25 = .ok (.goto (-23), 3) := by decide +kernel
theorem dX1_positionOf_28 : decode cX1_positionOf 28 = .ok (.bipush (-9), 2) := by decide +kernel
theorem dX1_positionOf_30 : decode cX1_positionOf 30 = .ok (.ireturn, 1) := by decide +kernel
theorem dX1_spotsOfOrder_0 : decode cX1_spotsOfOrder 0 = .ok (.lconst 0, 1) := by decide +kernel
theorem dX1_spotsOfOrder_1 : decode cX1_spotsOfOrder 1 = .ok (.lstore_n 1, 1) := by decide +kernel
theorem dX1_spotsOfOrder_2 : decode cX1_spotsOfOrder 2 = .ok (.iconst 0, 1) := by decide +kernel
theorem dX1_spotsOfOrder_3 : decode cX1_spotsOfOrder 3 = .ok (.istore_n 3, 1) := by decide +kernel
theorem dX1_spotsOfOrder_4 : decode cX1_spotsOfOrder 4 = .ok (.iload_n 3, 1) := by decide +kernel
theorem dX1_spotsOfOrder_5 : decode cX1_spotsOfOrder 5 = .ok (.aload_n 0, 1) := by decide +kernel
theorem dX1_spotsOfOrder_6 : decode cX1_spotsOfOrder 6 = .ok (.getfield 31, 3) := by decide +kernel
theorem dX1_spotsOfOrder_9 : decode cX1_spotsOfOrder 9 = .ok (.if_icmp .ge 20, 3) := by decide +kernel
theorem dX1_spotsOfOrder_12 : decode cX1_spotsOfOrder 12 = .ok (.lload_n 1, 1) := by decide +kernel
theorem dX1_spotsOfOrder_13 : decode cX1_spotsOfOrder 13 = .ok (.lconst 1, 1) := by decide +kernel
theorem dX1_spotsOfOrder_14 : decode cX1_spotsOfOrder 14 = .ok (.aload_n 0, 1) := by decide +kernel
theorem dX1_spotsOfOrder_15 : decode cX1_spotsOfOrder 15 = .ok (.getfield 15, 3) := by decide +kernel
theorem dX1_spotsOfOrder_18 : decode cX1_spotsOfOrder 18 = .ok (.iload_n 3, 1) := by decide +kernel
theorem dX1_spotsOfOrder_19 : decode cX1_spotsOfOrder 19 = .ok (.iaload, 1) := by decide +kernel
theorem dX1_spotsOfOrder_20 : decode cX1_spotsOfOrder 20 = .ok (.lshl, 1) := by decide +kernel
theorem dX1_spotsOfOrder_21 : decode cX1_spotsOfOrder 21 = .ok (.lor, 1) := by decide +kernel
theorem dX1_spotsOfOrder_22 : decode cX1_spotsOfOrder 22 = .ok (.lstore_n 1, 1) := by decide +kernel
theorem dX1_spotsOfOrder_23 : decode cX1_spotsOfOrder 23 = .ok (.iinc 3 1, 3) := by decide +kernel
theorem dX1_spotsOfOrder_26 : decode cX1_spotsOfOrder 26 = .ok (.goto (-22), 3) := by decide +kernel
theorem dX1_spotsOfOrder_29 : decode cX1_spotsOfOrder 29 = .ok (.lload_n 1, 1) := by decide +kernel
theorem dX1_spotsOfOrder_30 : decode cX1_spotsOfOrder 30 = .ok (.lreturn, 1) := by decide +kernel
set_option maxRecDepth 20000 in
theorem ggX1_sumOfWays_X4_way : GoodIn wsX1_sumOfWays wsX4_way := goodIn_r _ [5, 6, 7, 8, 9] (by decide +kernel) (by decide +kernel)
set_option maxRecDepth 20000 in
theorem gX1_sumOfWays_X4_way_n68 : GoodIn wsX1_sumOfWays (wsX4_way) := ggX1_sumOfWays_X4_way
theorem dX1_sumOfWays_0 : decode cX1_sumOfWays 0 = .ok (.iconst 0, 1) := by decide +kernel
theorem dX1_sumOfWays_1 : decode cX1_sumOfWays 1 = .ok (.istore_n 1, 1) := by decide +kernel
theorem dX1_sumOfWays_2 : decode cX1_sumOfWays 2 = .ok (.iconst 0, 1) := by decide +kernel
theorem dX1_sumOfWays_3 : decode cX1_sumOfWays 3 = .ok (.istore_n 2, 1) := by decide +kernel
theorem dX1_sumOfWays_4 : decode cX1_sumOfWays 4 = .ok (.iconst 0, 1) := by decide +kernel
theorem dX1_sumOfWays_5 : decode cX1_sumOfWays 5 = .ok (.istore_n 3, 1) := by decide +kernel
theorem dX1_sumOfWays_6 : decode cX1_sumOfWays 6 = .ok (.iload_n 3, 1) := by decide +kernel
theorem dX1_sumOfWays_7 : decode cX1_sumOfWays 7 = .ok (.aload_n 0, 1) := by decide +kernel
theorem dX1_sumOfWays_8 : decode cX1_sumOfWays 8 = .ok (.getfield 31, 3) := by decide +kernel
theorem dX1_sumOfWays_11 : decode cX1_sumOfWays 11 = .ok (.if_icmp .ge 29, 3) := by decide +kernel
theorem dX1_sumOfWays_14 : decode cX1_sumOfWays 14 = .ok (.iload_n 1, 1) := by decide +kernel
theorem dX1_sumOfWays_15 : decode cX1_sumOfWays 15 = .ok (.iload_n 2, 1) := by decide +kernel
theorem dX1_sumOfWays_16 : decode cX1_sumOfWays 16 = .ok (.aload_n 0, 1) := by decide +kernel
theorem dX1_sumOfWays_17 : decode cX1_sumOfWays 17 = .ok (.getfield 15, 3) := by decide +kernel
theorem dX1_sumOfWays_20 : decode cX1_sumOfWays 20 = .ok (.iload_n 3, 1) := by decide +kernel
theorem dX1_sumOfWays_21 : decode cX1_sumOfWays 21 = .ok (.iaload, 1) := by decide +kernel
theorem dX1_sumOfWays_22 : decode cX1_sumOfWays 22 = .ok (.invokestatic 68, 3) := by decide +kernel
theorem dX1_sumOfWays_25 : decode cX1_sumOfWays 25 = .ok (.iadd, 1) := by decide +kernel
theorem dX1_sumOfWays_26 : decode cX1_sumOfWays 26 = .ok (.istore_n 1, 1) := by decide +kernel
theorem dX1_sumOfWays_27 : decode cX1_sumOfWays 27 = .ok (.aload_n 0, 1) := by decide +kernel
theorem dX1_sumOfWays_28 : decode cX1_sumOfWays 28 = .ok (.getfield 15, 3) := by decide +kernel
theorem dX1_sumOfWays_31 : decode cX1_sumOfWays 31 = .ok (.iload_n 3, 1) := by decide +kernel
theorem dX1_sumOfWays_32 : decode cX1_sumOfWays 32 = .ok (.iaload, 1) := by decide +kernel
theorem dX1_sumOfWays_33 : decode cX1_sumOfWays 33 = .ok (.istore_n 2, 1) := by decide +kernel
theorem dX1_sumOfWays_34 : decode cX1_sumOfWays 34 = .ok (.iinc 3 1, 3) := by decide +kernel
theorem dX1_sumOfWays_37 : decode cX1_sumOfWays 37 = .ok (.goto (-31), 3) := by decide +kernel
theorem dX1_sumOfWays_40 : decode cX1_sumOfWays 40 = .ok (.iload_n 1, 1) := by decide +kernel
theorem dX1_sumOfWays_41 : decode cX1_sumOfWays 41 = .ok (.ireturn, 1) := by decide +kernel
set_option maxRecDepth 20000 in
theorem ggX1_arrival_X4_way : GoodIn wsX1_arrival wsX4_way := goodIn_r _ [6, 7, 8, 9, 10] (by decide +kernel) (by decide +kernel)
set_option maxRecDepth 20000 in
theorem gX1_arrival_X4_way_n68 : GoodIn wsX1_arrival (wsX4_way) := ggX1_arrival_X4_way
theorem dX1_arrival_0 : decode cX1_arrival 0 = .ok (.iconst 0, 1) := by decide +kernel
theorem dX1_arrival_1 : decode cX1_arrival 1 = .ok (.istore_n 2, 1) := by decide +kernel
theorem dX1_arrival_2 : decode cX1_arrival 2 = .ok (.iconst 0, 1) := by decide +kernel
theorem dX1_arrival_3 : decode cX1_arrival 3 = .ok (.istore_n 3, 1) := by decide +kernel
theorem dX1_arrival_4 : decode cX1_arrival 4 = .ok (.iconst 0, 1) := by decide +kernel
theorem dX1_arrival_5 : decode cX1_arrival 5 = .ok (.istore 4, 2) := by decide +kernel
theorem dX1_arrival_7 : decode cX1_arrival 7 = .ok (.iload 4, 2) := by decide +kernel
theorem dX1_arrival_9 : decode cX1_arrival 9 = .ok (.iload_n 1, 1) := by decide +kernel
theorem dX1_arrival_10 : decode cX1_arrival 10 = .ok (.if_icmp .gt 49, 3) := by decide +kernel
theorem dX1_arrival_13 : decode cX1_arrival 13 = .ok (.iload 4, 2) := by decide +kernel
theorem dX1_arrival_15 : decode cX1_arrival 15 = .ok (.aload_n 0, 1) := by decide +kernel
theorem dX1_arrival_16 : decode cX1_arrival 16 = .ok (.getfield 31, 3) := by decide +kernel
theorem dX1_arrival_19 : decode cX1_arrival 19 = .ok (.if_icmp .ge 40, 3) := by decide +kernel
theorem dX1_arrival_22 : decode cX1_arrival 22 = .ok (.iload_n 2, 1) := by decide +kernel
theorem dX1_arrival_23 : decode cX1_arrival 23 = .ok (.iload_n 3, 1) := by decide +kernel
theorem dX1_arrival_24 : decode cX1_arrival 24 = .ok (.aload_n 0, 1) := by decide +kernel
theorem dX1_arrival_25 : decode cX1_arrival 25 = .ok (.getfield 15, 3) := by decide +kernel
theorem dX1_arrival_28 : decode cX1_arrival 28 = .ok (.iload 4, 2) := by decide +kernel
theorem dX1_arrival_30 : decode cX1_arrival 30 = .ok (.iaload, 1) := by decide +kernel
theorem dX1_arrival_31 : decode cX1_arrival 31 = .ok (.invokestatic 68, 3) := by decide +kernel
theorem dX1_arrival_34 : decode cX1_arrival 34 = .ok (.aload_n 0, 1) := by decide +kernel
theorem dX1_arrival_35 : decode cX1_arrival 35 = .ok (.getfield 22, 3) := by decide +kernel
theorem dX1_arrival_38 : decode cX1_arrival 38 = .ok (.iconst 1, 1) := by decide +kernel
theorem dX1_arrival_39 : decode cX1_arrival 39 = .ok (.iaload, 1) := by decide +kernel
theorem dX1_arrival_40 : decode cX1_arrival 40 = .ok (.imul, 1) := by decide +kernel
theorem dX1_arrival_41 : decode cX1_arrival 41 = .ok (.iconst 1, 1) := by decide +kernel
theorem dX1_arrival_42 : decode cX1_arrival 42 = .ok (.iadd, 1) := by decide +kernel
theorem dX1_arrival_43 : decode cX1_arrival 43 = .ok (.iadd, 1) := by decide +kernel
theorem dX1_arrival_44 : decode cX1_arrival 44 = .ok (.istore_n 2, 1) := by decide +kernel
theorem dX1_arrival_45 : decode cX1_arrival 45 = .ok (.aload_n 0, 1) := by decide +kernel
theorem dX1_arrival_46 : decode cX1_arrival 46 = .ok (.getfield 15, 3) := by decide +kernel
theorem dX1_arrival_49 : decode cX1_arrival 49 = .ok (.iload 4, 2) := by decide +kernel
theorem dX1_arrival_51 : decode cX1_arrival 51 = .ok (.iaload, 1) := by decide +kernel
theorem dX1_arrival_52 : decode cX1_arrival 52 = .ok (.istore_n 3, 1) := by decide +kernel
theorem dX1_arrival_53 : decode cX1_arrival 53 = .ok (.iinc 4 1, 3) := by decide +kernel
theorem dX1_arrival_56 : decode cX1_arrival 56 = .ok (.goto (-49), 3) := by decide +kernel
theorem dX1_arrival_59 : decode cX1_arrival 59 = .ok (.iload_n 2, 1) := by decide +kernel
theorem dX1_arrival_60 : decode cX1_arrival 60 = .ok (.ireturn, 1) := by decide +kernel
set_option maxRecDepth 20000 in
theorem ggX1_litSize_X1_arrival : GoodIn wsX1_litSize wsX1_arrival := goodIn_r _ [7, 1, 8, 2, 9, 10, 11, 12, 13, 14, 15, 16, 17, 18, 19, 20] (by decide +kernel) (by decide +kernel)
set_option maxRecDepth 20000 in
theorem gX1_litSize_X1_arrival : GoodIn wsX1_litSize (wsV RX1 83 RX1 yX1_arrival wsX1_arrival) := goodIn_app (goodIn_of _ (by decide +kernel)) ggX1_litSize_X1_arrival
theorem dX1_litSize_0 : decode cX1_litSize 0 = .ok (.iconst 0, 1) := by decide +kernel
theorem dX1_litSize_1 : decode cX1_litSize 1 = .ok (.istore_n 1, 1) := by decide +kernel
theorem dX1_litSize_2 : decode cX1_litSize 2 = .ok (.iload_n 1, 1) := by decide +kernel
theorem dX1_litSize_3 : decode cX1_litSize 3 = .ok (.aload_n 0, 1) := by decide +kernel
theorem dX1_litSize_4 : decode cX1_litSize 4 = .ok (.getfield 31, 3) := by decide +kernel
theorem dX1_litSize_7 : decode cX1_litSize 7 = .ok (.if_icmp .ge 23, 3) := by decide +kernel
theorem dX1_litSize_10 : decode cX1_litSize 10 = .ok (.aload_n 0, 1) := by decide +kernel
theorem dX1_litSize_11 : decode cX1_litSize 11 = .ok (.iload_n 1, 1) := by decide +kernel
theorem dX1_litSize_12 : decode cX1_litSize 12 = .ok (.invokevirtual 83, 3) := by decide +kernel
theorem dX1_litSize_15 : decode cX1_litSize 15 = .ok (.aload_n 0, 1) := by decide +kernel
theorem dX1_litSize_16 : decode cX1_litSize 16 = .ok (.getfield 22, 3) := by decide +kernel
theorem dX1_litSize_19 : decode cX1_litSize 19 = .ok (.iconst 0, 1) := by decide +kernel
theorem dX1_litSize_20 : decode cX1_litSize 20 = .ok (.iaload, 1) := by decide +kernel
theorem dX1_litSize_21 : decode cX1_litSize 21 = .ok (.if_icmp .ge 9, 3) := by decide +kernel
theorem dX1_litSize_24 : decode cX1_litSize 24 = .ok (.iinc 1 1, 3) := by decide +kernel
theorem dX1_litSize_27 : decode cX1_litSize 27 = .ok (.goto (-25), 3) := by decide +kernel
theorem dX1_litSize_30 : decode cX1_litSize 30 = .ok (.iload_n 1, 1) := by decide +kernel
theorem dX1_litSize_31 : decode cX1_litSize 31 = .ok (.ireturn, 1) := by decide +kernel
set_option maxRecDepth 20000 in
theorem ggX1_litTick_X1_positionOf : GoodIn wsX1_litTick wsX1_positionOf := goodIn_r _ [6, 7, 8, 20, 21, 22, 23, 24] (by decide +kernel) (by decide +kernel)
set_option maxRecDepth 20000 in
theorem gX1_litTick_X1_positionOf : GoodIn wsX1_litTick (wsV RX1 48 RX1 yX1_positionOf wsX1_positionOf) := goodIn_app (goodIn_of _ (by decide +kernel)) ggX1_litTick_X1_positionOf
set_option maxRecDepth 20000 in
theorem ggX1_litTick_X1_arrival : GoodIn wsX1_litTick wsX1_arrival := goodIn_r _ [12, 7, 8, 1, 13, 14, 15, 16, 17, 18, 19, 20, 21, 22, 23, 24] (by decide +kernel) (by decide +kernel)
set_option maxRecDepth 20000 in
theorem gX1_litTick_X1_arrival : GoodIn wsX1_litTick (wsV RX1 83 RX1 yX1_arrival wsX1_arrival) := goodIn_app (goodIn_of _ (by decide +kernel)) ggX1_litTick_X1_arrival
theorem dX1_litTick_0 : decode cX1_litTick 0 = .ok (.aload_n 0, 1) := by decide +kernel
theorem dX1_litTick_1 : decode cX1_litTick 1 = .ok (.iload_n 1, 1) := by decide +kernel
theorem dX1_litTick_2 : decode cX1_litTick 2 = .ok (.invokevirtual 48, 3) := by decide +kernel
theorem dX1_litTick_5 : decode cX1_litTick 5 = .ok (.istore_n 2, 1) := by decide +kernel
theorem dX1_litTick_6 : decode cX1_litTick 6 = .ok (.iload_n 2, 1) := by decide +kernel
theorem dX1_litTick_7 : decode cX1_litTick 7 = .ok (.bipush (-9), 2) := by decide +kernel
theorem dX1_litTick_9 : decode cX1_litTick 9 = .ok (.if_icmp .eq 17, 3) := by decide +kernel
theorem dX1_litTick_12 : decode cX1_litTick 12 = .ok (.aload_n 0, 1) := by decide +kernel
theorem dX1_litTick_13 : decode cX1_litTick 13 = .ok (.iload_n 2, 1) := by decide +kernel
theorem dX1_litTick_14 : decode cX1_litTick 14 = .ok (.invokevirtual 83, 3) := by decide +kernel
theorem dX1_litTick_17 : decode cX1_litTick 17 = .ok (.aload_n 0, 1) := by decide +kernel
theorem dX1_litTick_18 : decode cX1_litTick 18 = .ok (.getfield 22, 3) := by decide +kernel
theorem dX1_litTick_21 : decode cX1_litTick 21 = .ok (.iconst 0, 1) := by decide +kernel
theorem dX1_litTick_22 : decode cX1_litTick 22 = .ok (.iaload, 1) := by decide +kernel
theorem dX1_litTick_23 : decode cX1_litTick 23 = .ok (.if_icmp .lt 6, 3) := by decide +kernel
theorem dX1_litTick_26 : decode cX1_litTick 26 = .ok (.bipush (-9), 2) := by decide +kernel
theorem dX1_litTick_28 : decode cX1_litTick 28 = .ok (.ireturn, 1) := by decide +kernel
theorem dX1_litTick_29 : decode cX1_litTick 29 = .ok (.aload_n 0, 1) := by decide +kernel
theorem dX1_litTick_30 : decode cX1_litTick 30 = .ok (.iload_n 2, 1) := by decide +kernel
theorem dX1_litTick_31 : decode cX1_litTick 31 = .ok (.invokevirtual 83, 3) := by decide +kernel
theorem dX1_litTick_34 : decode cX1_litTick 34 = .ok (.ireturn, 1) := by decide +kernel
set_option maxRecDepth 20000 in
theorem ggX1_shine_X4_glow : GoodIn wsX1_shine wsX4_glow := goodIn_r _ [5, 6, 7, 8, 9] (by decide +kernel) (by decide +kernel)
set_option maxRecDepth 20000 in
theorem gX1_shine_X4_glow_n86 : GoodIn wsX1_shine (wsX4_glow) := ggX1_shine_X4_glow
theorem dX1_shine_0 : decode cX1_shine 0 = .ok (.iload_n 2, 1) := by decide +kernel
theorem dX1_shine_1 : decode cX1_shine 1 = .ok (.bipush (-9), 2) := by decide +kernel
theorem dX1_shine_3 : decode cX1_shine 3 = .ok (.if_icmp .ne 5, 3) := by decide +kernel
theorem dX1_shine_6 : decode cX1_shine 6 = .ok (.iconst 0, 1) := by decide +kernel
theorem dX1_shine_7 : decode cX1_shine 7 = .ok (.ireturn, 1) := by decide +kernel
theorem dX1_shine_8 : decode cX1_shine 8 = .ok (.iload_n 3, 1) := by decide +kernel
theorem dX1_shine_9 : decode cX1_shine 9 = .ok (.iload_n 2, 1) := by decide +kernel
theorem dX1_shine_10 : decode cX1_shine 10 = .ok (.isub, 1) := by decide +kernel
theorem dX1_shine_11 : decode cX1_shine 11 = .ok (.istore 4, 2) := by decide +kernel
theorem dX1_shine_13 : decode cX1_shine 13 = .ok (.aload_n 0, 1) := by decide +kernel
theorem dX1_shine_14 : decode cX1_shine 14 = .ok (.getfield 9, 3) := by decide +kernel
theorem dX1_shine_17 : decode cX1_shine 17 = .ok (.iload_n 1, 1) := by decide +kernel
theorem dX1_shine_18 : decode cX1_shine 18 = .ok (.iaload, 1) := by decide +kernel
theorem dX1_shine_19 : decode cX1_shine 19 = .ok (.iload 4, 2) := by decide +kernel
theorem dX1_shine_21 : decode cX1_shine 21 = .ok (.ifCond .ge 15, 3) := by decide +kernel
theorem dX1_shine_24 : decode cX1_shine 24 = .ok (.iload 4, 2) := by decide +kernel
theorem dX1_shine_26 : decode cX1_shine 26 = .ok (.aload_n 0, 1) := by decide +kernel
theorem dX1_shine_27 : decode cX1_shine 27 = .ok (.getfield 22, 3) := by decide +kernel
theorem dX1_shine_30 : decode cX1_shine 30 = .ok (.iconst 0, 1) := by decide +kernel
theorem dX1_shine_31 : decode cX1_shine 31 = .ok (.iaload, 1) := by decide +kernel
theorem dX1_shine_32 : decode cX1_shine 32 = .ok (.iadd, 1) := by decide +kernel
theorem dX1_shine_33 : decode cX1_shine 33 = .ok (.goto 5, 3) := by decide +kernel
theorem dX1_shine_36 : decode cX1_shine 36 = .ok (.iload 4, 2) := by decide +kernel
theorem dX1_shine_38 : decode cX1_shine 38 = .ok (.invokestatic 86, 3) := by decide +kernel
theorem dX1_shine_41 : decode cX1_shine 41 = .ok (.ireturn, 1) := by decide +kernel
set_option maxRecDepth 20000 in
theorem ggX1_sumOver_X1_litTick : GoodIn wsX1_sumOver wsX1_litTick := goodIn_r _ [5, 6, 7, 8, 9, 4, 10, 11, 12, 13, 14, 15, 16, 17, 18, 19, 20, 21, 22, 23, 38, 39, 40, 41, 42] (by decide +kernel) (by decide +kernel)
set_option maxRecDepth 20000 in
theorem gX1_sumOver_X1_litTick : GoodIn wsX1_sumOver (wsV RX1 89 RX1 yX1_litTick wsX1_litTick) := goodIn_app (goodIn_of _ (by decide +kernel)) ggX1_sumOver_X1_litTick
set_option maxRecDepth 20000 in
theorem ggX1_sumOver_X1_shine : GoodIn wsX1_sumOver wsX1_shine := goodIn_r _ [27, 28, 6, 29, 18, 30, 31, 32, 22, 33, 38, 39, 40, 41, 42] (by decide +kernel) (by decide +kernel)
set_option maxRecDepth 20000 in
theorem gX1_sumOver_X1_shine : GoodIn wsX1_sumOver (wsV RX1 92 RX1 yX1_shine wsX1_shine) := goodIn_app (goodIn_of _ (by decide +kernel)) ggX1_sumOver_X1_shine
set_option maxRecDepth 20000 in
theorem ggX1_sumOver_X1_next : GoodIn wsX1_sumOver wsX1_next := goodIn_r _ [37, 6, 38, 39, 40, 41, 42] (by decide +kernel) (by decide +kernel)
set_option maxRecDepth 20000 in
theorem gX1_sumOver_X1_next : GoodIn wsX1_sumOver (wsV RX1 95 RX1 yX1_next wsX1_next) := goodIn_app (goodIn_of _ (by decide +kernel)) ggX1_sumOver_X1_next
theorem dX1_sumOver_0 : decode cX1_sumOver 0 = .ok (.aload_n 0, 1) := by decide +kernel
theorem dX1_sumOver_1 : decode cX1_sumOver 1 = .ok (.iload_n 1, 1) := by decide +kernel
theorem dX1_sumOver_2 : decode cX1_sumOver 2 = .ok (.invokevirtual 89, 3) := by decide +kernel
theorem dX1_sumOver_5 : decode cX1_sumOver 5 = .ok (.istore 4, 2) := by decide +kernel
theorem dX1_sumOver_7 : decode cX1_sumOver 7 = .ok (.iconst 0, 1) := by decide +kernel
theorem dX1_sumOver_8 : decode cX1_sumOver 8 = .ok (.istore 5, 2) := by decide +kernel
theorem dX1_sumOver_10 : decode cX1_sumOver 10 = .ok (.iload_n 2, 1) := by decide +kernel
theorem dX1_sumOver_11 : decode cX1_sumOver 11 = .ok (.istore 6, 2) := by decide +kernel
theorem dX1_sumOver_13 : decode cX1_sumOver 13 = .ok (.iconst 0, 1) := by decide +kernel
theorem dX1_sumOver_14 : decode cX1_sumOver 14 = .ok (.istore 7, 2) := by decide +kernel
theorem dX1_sumOver_16 : decode cX1_sumOver 16 = .ok (.iload 7, 2) := by decide +kernel
theorem dX1_sumOver_18 : decode cX1_sumOver 18 = .ok (.iload_n 3, 1) := by decide +kernel
theorem dX1_sumOver_19 : decode cX1_sumOver 19 = .ok (.if_icmp .ge 31, 3) := by decide +kernel
theorem dX1_sumOver_22 : decode cX1_sumOver 22 = .ok (.iload 5, 2) := by decide +kernel
theorem dX1_sumOver_24 : decode cX1_sumOver 24 = .ok (.aload_n 0, 1) := by decide +kernel
theorem dX1_sumOver_25 : decode cX1_sumOver 25 = .ok (.iload_n 1, 1) := by decide +kernel
theorem dX1_sumOver_26 : decode cX1_sumOver 26 = .ok (.iload 4, 2) := by decide +kernel
theorem dX1_sumOver_28 : decode cX1_sumOver 28 = .ok (.iload 6, 2) := by decide +kernel
theorem dX1_sumOver_30 : decode cX1_sumOver 30 = .ok (.invokevirtual 92, 3) := by decide +kernel
theorem dX1_sumOver_33 : decode cX1_sumOver 33 = .ok (.iadd, 1) := by decide +kernel
theorem dX1_sumOver_34 : decode cX1_sumOver 34 = .ok (.istore 5, 2) := by decide +kernel
theorem dX1_sumOver_36 : decode cX1_sumOver 36 = .ok (.aload_n 0, 1) := by decide +kernel
theorem dX1_sumOver_37 : decode cX1_sumOver 37 = .ok (.iload 6, 2) := by decide +kernel
theorem dX1_sumOver_39 : decode cX1_sumOver 39 = .ok (.invokevirtual 95, 3) := by decide +kernel
theorem dX1_sumOver_42 : decode cX1_sumOver 42 = .ok (.istore 6, 2) := by decide +kernel
theorem dX1_sumOver_44 : decode cX1_sumOver 44 = .ok (.iinc 7 1, 3) := by decide +kernel
theorem dX1_sumOver_47 : decode cX1_sumOver 47 = .ok (.goto (-31), 3) := by decide +kernel
theorem dX1_sumOver_50 : decode cX1_sumOver 50 = .ok (.iload 5, 2) := by decide +kernel
theorem dX1_sumOver_52 : decode cX1_sumOver 52 = .ok (.ireturn, 1) := by decide +kernel
theorem dX1_next_0 : decode cX1_next 0 = .ok (.iload_n 1, 1) := by decide +kernel
theorem dX1_next_1 : decode cX1_next 1 = .ok (.iconst 1, 1) := by decide +kernel
theorem dX1_next_2 : decode cX1_next 2 = .ok (.iadd, 1) := by decide +kernel
theorem dX1_next_3 : decode cX1_next 3 = .ok (.aload_n 0, 1) := by decide +kernel
theorem dX1_next_4 : decode cX1_next 4 = .ok (.getfield 22, 3) := by decide +kernel
theorem dX1_next_7 : decode cX1_next 7 = .ok (.iconst 0, 1) := by decide +kernel
theorem dX1_next_8 : decode cX1_next 8 = .ok (.iaload, 1) := by decide +kernel
theorem dX1_next_9 : decode cX1_next 9 = .ok (.if_icmp .ge 9, 3) := by decide +kernel
theorem dX1_next_12 : decode cX1_next 12 = .ok (.iload_n 1, 1) := by decide +kernel
theorem dX1_next_13 : decode cX1_next 13 = .ok (.iconst 1, 1) := by decide +kernel
theorem dX1_next_14 : decode cX1_next 14 = .ok (.iadd, 1) := by decide +kernel
theorem dX1_next_15 : decode cX1_next 15 = .ok (.goto 4, 3) := by decide +kernel
theorem dX1_next_18 : decode cX1_next 18 = .ok (.iconst 0, 1) := by decide +kernel
theorem dX1_next_19 : decode cX1_next 19 = .ok (.ireturn, 1) := by decide +kernel
theorem dX1_startInFrame_0 : decode cX1_startInFrame 0 = .ok (.aload_n 0, 1) := by decide +kernel
theorem dX1_startInFrame_1 : decode cX1_startInFrame 1 = .ok (.getfield 22, 3) := by decide +kernel
theorem dX1_startInFrame_4 : decode cX1_startInFrame 4 = .ok (.iconst 0, 1) := by decide +kernel
theorem dX1_startInFrame_5 : decode cX1_startInFrame 5 = .ok (.iaload, 1) := by decide +kernel
theorem dX1_startInFrame_6 : decode cX1_startInFrame 6 = .ok (.istore_n 1, 1) := by decide +kernel
theorem dX1_startInFrame_7 : decode cX1_startInFrame 7 = .ok (.iload_n 1, 1) := by decide +kernel
theorem dX1_startInFrame_8 : decode cX1_startInFrame 8 = .ok (.ifCond .le 14, 3) := by decide +kernel
theorem dX1_startInFrame_11 : decode cX1_startInFrame 11 = .ok (.aload_n 0, 1) := by decide +kernel
theorem dX1_startInFrame_12 : decode cX1_startInFrame 12 = .ok (.getfield 22, 3) := by decide +kernel
theorem dX1_startInFrame_15 : decode cX1_startInFrame 15 = .ok (.iconst 3, 1) := by decide +kernel
theorem dX1_startInFrame_16 : decode cX1_startInFrame 16 = .ok (.iaload, 1) := by decide +kernel
theorem dX1_startInFrame_17 : decode cX1_startInFrame 17 = .ok (.iload_n 1, 1) := by decide +kernel
theorem dX1_startInFrame_18 : decode cX1_startInFrame 18 = .ok (.irem, 1) := by decide +kernel
theorem dX1_startInFrame_19 : decode cX1_startInFrame 19 = .ok (.goto 4, 3) := by decide +kernel
theorem dX1_startInFrame_22 : decode cX1_startInFrame 22 = .ok (.iconst 0, 1) := by decide +kernel
theorem dX1_startInFrame_23 : decode cX1_startInFrame 23 = .ok (.ireturn, 1) := by decide +kernel
theorem dX1_mean_0 : decode cX1_mean 0 = .ok (.iload_n 1, 1) := by decide +kernel
theorem dX1_mean_1 : decode cX1_mean 1 = .ok (.ifCond .le 9, 3) := by decide +kernel
theorem dX1_mean_4 : decode cX1_mean 4 = .ok (.iload_n 0, 1) := by decide +kernel
theorem dX1_mean_5 : decode cX1_mean 5 = .ok (.iload_n 1, 1) := by decide +kernel
theorem dX1_mean_6 : decode cX1_mean 6 = .ok (.idiv, 1) := by decide +kernel
theorem dX1_mean_7 : decode cX1_mean 7 = .ok (.goto 4, 3) := by decide +kernel
theorem dX1_mean_10 : decode cX1_mean 10 = .ok (.iconst 0, 1) := by decide +kernel
theorem dX1_mean_11 : decode cX1_mean 11 = .ok (.ireturn, 1) := by decide +kernel
set_option maxRecDepth 20000 in
theorem ggX1_eyeMean_X1_sumOver : GoodIn wsX1_eyeMean wsX1_sumOver := goodIn_r _ [6, 7, 8, 9, 5, 10, 1, 11, 12, 13, 14, 15, 16, 17, 18, 19, 20, 21, 22, 23, 24, 25, 26, 27, 28, 29, 30, 31, 32, 33, 34, 35, 36, 37, 38, 39, 40, 41, 45, 46, 47, 48, 49] (by decide +kernel) (by decide +kernel)
set_option maxRecDepth 20000 in
theorem gX1_eyeMean_X1_sumOver : GoodIn wsX1_eyeMean (wsV RX1 98 RX1 yX1_sumOver wsX1_sumOver) := goodIn_app (goodIn_of _ (by decide +kernel)) ggX1_eyeMean_X1_sumOver
set_option maxRecDepth 20000 in
theorem ggX1_eyeMean_X1_mean : GoodIn wsX1_eyeMean wsX1_mean := goodIn_r _ [44] (by decide +kernel) (by decide +kernel)
set_option maxRecDepth 20000 in
theorem gX1_eyeMean_X1_mean : GoodIn wsX1_eyeMean (va_wsS RX1 101 yX1_mean wsX1_mean) := goodIn_app (goodIn_of _ (by decide +kernel)) ggX1_eyeMean_X1_mean
theorem dX1_eyeMean_0 : decode cX1_eyeMean 0 = .ok (.aload_n 0, 1) := by decide +kernel
theorem dX1_eyeMean_1 : decode cX1_eyeMean 1 = .ok (.iload_n 1, 1) := by decide +kernel
theorem dX1_eyeMean_2 : decode cX1_eyeMean 2 = .ok (.iconst 0, 1) := by decide +kernel
theorem dX1_eyeMean_3 : decode cX1_eyeMean 3 = .ok (.aload_n 0, 1) := by decide +kernel
theorem dX1_eyeMean_4 : decode cX1_eyeMean 4 = .ok (.getfield 22, 3) := by decide +kernel
theorem dX1_eyeMean_7 : decode cX1_eyeMean 7 = .ok (.iconst 0, 1) := by decide +kernel
theorem dX1_eyeMean_8 : decode cX1_eyeMean 8 = .ok (.iaload, 1) := by decide +kernel
theorem dX1_eyeMean_9 : decode cX1_eyeMean 9 = .ok (.invokevirtual 98, 3) := by decide +kernel
theorem dX1_eyeMean_12 : decode cX1_eyeMean 12 = .ok (.aload_n 0, 1) := by decide +kernel
theorem dX1_eyeMean_13 : decode cX1_eyeMean 13 = .ok (.getfield 22, 3) := by decide +kernel
theorem dX1_eyeMean_16 : decode cX1_eyeMean 16 = .ok (.iconst 0, 1) := by decide +kernel
theorem dX1_eyeMean_17 : decode cX1_eyeMean 17 = .ok (.iaload, 1) := by decide +kernel
theorem dX1_eyeMean_18 : decode cX1_eyeMean 18 = .ok (.invokestatic 101, 3) := by decide +kernel
theorem dX1_eyeMean_21 : decode cX1_eyeMean 21 = .ok (.ireturn, 1) := by decide +kernel
set_option maxRecDepth 20000 in
theorem ggX1_shutterMean_X1_startInFrame : GoodIn wsX1_shutterMean wsX1_startInFrame := goodIn_r _ [5, 6, 49, 50, 51, 52, 53] (by decide +kernel) (by decide +kernel)
set_option maxRecDepth 20000 in
theorem gX1_shutterMean_X1_startInFrame : GoodIn wsX1_shutterMean (wsV RX1 104 RX1 yX1_startInFrame wsX1_startInFrame) := goodIn_app (goodIn_of _ (by decide +kernel)) ggX1_shutterMean_X1_startInFrame
set_option maxRecDepth 20000 in
theorem ggX1_shutterMean_X1_sumOver : GoodIn wsX1_shutterMean wsX1_sumOver := goodIn_r _ [10, 11, 12, 13, 4, 14, 6, 15, 16, 17, 18, 19, 20, 21, 22, 23, 24, 25, 26, 27, 28, 29, 30, 31, 32, 33, 34, 35, 36, 37, 38, 39, 40, 41, 42, 43, 44, 45, 49, 50, 51, 52, 53] (by decide +kernel) (by decide +kernel)
set_option maxRecDepth 20000 in
theorem gX1_shutterMean_X1_sumOver : GoodIn wsX1_shutterMean (wsV RX1 98 RX1 yX1_sumOver wsX1_sumOver) := goodIn_app (goodIn_of _ (by decide +kernel)) ggX1_shutterMean_X1_sumOver
set_option maxRecDepth 20000 in
theorem ggX1_shutterMean_X1_mean : GoodIn wsX1_shutterMean wsX1_mean := goodIn_r _ [48] (by decide +kernel) (by decide +kernel)
set_option maxRecDepth 20000 in
theorem gX1_shutterMean_X1_mean : GoodIn wsX1_shutterMean (va_wsS RX1 101 yX1_mean wsX1_mean) := goodIn_app (goodIn_of _ (by decide +kernel)) ggX1_shutterMean_X1_mean
theorem dX1_shutterMean_0 : decode cX1_shutterMean 0 = .ok (.aload_n 0, 1) := by decide +kernel
theorem dX1_shutterMean_1 : decode cX1_shutterMean 1 = .ok (.iload_n 1, 1) := by decide +kernel
theorem dX1_shutterMean_2 : decode cX1_shutterMean 2 = .ok (.aload_n 0, 1) := by decide +kernel
theorem dX1_shutterMean_3 : decode cX1_shutterMean 3 = .ok (.invokevirtual 104, 3) := by decide +kernel
theorem dX1_shutterMean_6 : decode cX1_shutterMean 6 = .ok (.iload_n 2, 1) := by decide +kernel
theorem dX1_shutterMean_7 : decode cX1_shutterMean 7 = .ok (.invokevirtual 98, 3) := by decide +kernel
theorem dX1_shutterMean_10 : decode cX1_shutterMean 10 = .ok (.iload_n 2, 1) := by decide +kernel
theorem dX1_shutterMean_11 : decode cX1_shutterMean 11 = .ok (.invokestatic 101, 3) := by decide +kernel
theorem dX1_shutterMean_14 : decode cX1_shutterMean 14 = .ok (.ireturn, 1) := by decide +kernel
set_option maxRecDepth 20000 in
theorem ggX1_flicker_X1_litTick : GoodIn wsX1_flicker wsX1_litTick := goodIn_r _ [13, 1, 14, 15, 16, 12, 17, 18, 19, 20, 21, 22, 23, 24, 25, 26, 27, 28, 4, 29, 38, 39, 40, 41, 42] (by decide +kernel) (by decide +kernel)
set_option maxRecDepth 20000 in
theorem gX1_flicker_X1_litTick : GoodIn wsX1_flicker (wsV RX1 89 RX1 yX1_litTick wsX1_litTick) := goodIn_app (goodIn_of _ (by decide +kernel)) ggX1_flicker_X1_litTick
set_option maxRecDepth 20000 in
theorem ggX1_flicker_X1_shine : GoodIn wsX1_flicker wsX1_shine := goodIn_r _ [33, 34, 1, 35, 25, 36, 37, 3, 4, 5, 38, 39, 40, 41, 42] (by decide +kernel) (by decide +kernel)
set_option maxRecDepth 20000 in
theorem gX1_flicker_X1_shine : GoodIn wsX1_flicker (wsV RX1 92 RX1 yX1_shine wsX1_shine) := goodIn_app (goodIn_of _ (by decide +kernel)) ggX1_flicker_X1_shine
theorem dX1_flicker_0 : decode cX1_flicker 0 = .ok (.aload_n 0, 1) := by decide +kernel
theorem dX1_flicker_1 : decode cX1_flicker 1 = .ok (.iload_n 1, 1) := by decide +kernel
theorem dX1_flicker_2 : decode cX1_flicker 2 = .ok (.invokevirtual 89, 3) := by decide +kernel
theorem dX1_flicker_5 : decode cX1_flicker 5 = .ok (.istore_n 2, 1) := by decide +kernel
theorem dX1_flicker_6 : decode cX1_flicker 6 = .ok (.aload_n 0, 1) := by decide +kernel
theorem dX1_flicker_7 : decode cX1_flicker 7 = .ok (.iload_n 1, 1) := by decide +kernel
theorem dX1_flicker_8 : decode cX1_flicker 8 = .ok (.iload_n 2, 1) := by decide +kernel
theorem dX1_flicker_9 : decode cX1_flicker 9 = .ok (.iconst 0, 1) := by decide +kernel
theorem dX1_flicker_10 : decode cX1_flicker 10 = .ok (.invokevirtual 92, 3) := by decide +kernel
theorem dX1_flicker_13 : decode cX1_flicker 13 = .ok (.istore_n 3, 1) := by decide +kernel
theorem dX1_flicker_14 : decode cX1_flicker 14 = .ok (.iload_n 3, 1) := by decide +kernel
theorem dX1_flicker_15 : decode cX1_flicker 15 = .ok (.istore 4, 2) := by decide +kernel
theorem dX1_flicker_17 : decode cX1_flicker 17 = .ok (.iconst 1, 1) := by decide +kernel
theorem dX1_flicker_18 : decode cX1_flicker 18 = .ok (.istore 5, 2) := by decide +kernel
theorem dX1_flicker_20 : decode cX1_flicker 20 = .ok (.iload 5, 2) := by decide +kernel
theorem dX1_flicker_22 : decode cX1_flicker 22 = .ok (.aload_n 0, 1) := by decide +kernel
theorem dX1_flicker_23 : decode cX1_flicker 23 = .ok (.getfield 22, 3) := by decide +kernel
theorem dX1_flicker_26 : decode cX1_flicker 26 = .ok (.iconst 0, 1) := by decide +kernel
theorem dX1_flicker_27 : decode cX1_flicker 27 = .ok (.iaload, 1) := by decide +kernel
theorem dX1_flicker_28 : decode cX1_flicker 28 = .ok (.if_icmp .ge 35, 3) := by decide +kernel
theorem dX1_flicker_31 : decode cX1_flicker 31 = .ok (.aload_n 0, 1) := by decide +kernel
theorem dX1_flicker_32 : decode cX1_flicker 32 = .ok (.iload_n 1, 1) := by decide +kernel
theorem dX1_flicker_33 : decode cX1_flicker 33 = .ok (.iload_n 2, 1) := by decide +kernel
theorem dX1_flicker_34 : decode cX1_flicker 34 = .ok (.iload 5, 2) := by decide +kernel
theorem dX1_flicker_36 : decode cX1_flicker 36 = .ok (.invokevirtual 92, 3) := by decide +kernel
theorem dX1_flicker_39 : decode cX1_flicker 39 = .ok (.istore 6, 2) := by decide +kernel
theorem dX1_flicker_41 : decode cX1_flicker 41 = .ok (.iload_n 3, 1) := by decide +kernel
theorem dX1_flicker_42 : decode cX1_flicker 42 = .ok (.iload 6, 2) := by decide +kernel
theorem dX1_flicker_44 : decode cX1_flicker 44 = .ok (.invokestatic 107, 3) := by decide +kernel
theorem dX1_flicker_47 : decode cX1_flicker 47 = .ok (.istore_n 3, 1) := by decide +kernel
theorem dX1_flicker_48 : decode cX1_flicker 48 = .ok (.iload 4, 2) := by decide +kernel
theorem dX1_flicker_50 : decode cX1_flicker 50 = .ok (.iload 6, 2) := by decide +kernel
theorem dX1_flicker_52 : decode cX1_flicker 52 = .ok (.invokestatic 112, 3) := by decide +kernel
theorem dX1_flicker_55 : decode cX1_flicker 55 = .ok (.istore 4, 2) := by decide +kernel
theorem dX1_flicker_57 : decode cX1_flicker 57 = .ok (.iinc 5 1, 3) := by decide +kernel
theorem dX1_flicker_60 : decode cX1_flicker 60 = .ok (.goto (-40), 3) := by decide +kernel
theorem dX1_flicker_63 : decode cX1_flicker 63 = .ok (.iload_n 3, 1) := by decide +kernel
theorem dX1_flicker_64 : decode cX1_flicker 64 = .ok (.iload 4, 2) := by decide +kernel
theorem dX1_flicker_66 : decode cX1_flicker 66 = .ok (.isub, 1) := by decide +kernel
theorem dX1_flicker_67 : decode cX1_flicker 67 = .ok (.ireturn, 1) := by decide +kernel
set_option maxRecDepth 20000 in
theorem ggX1_seenByEye_X1_seen : GoodIn wsX1_seenByEye wsX1_seen := goodIn_r _ [6, 7, 8, 9, 10, 11, 5, 12, 13, 14, 15, 16, 1, 17, 18, 19, 20, 21, 22, 23, 24, 25, 26, 27, 28, 29, 30, 31, 32, 33, 34, 35, 36, 37, 38, 39, 40, 41, 42, 43, 44, 45, 46, 47, 48, 49, 50, 51, 52, 53] (by decide +kernel) (by decide +kernel)
set_option maxRecDepth 20000 in
theorem gX1_seenByEye_X1_seen : GoodIn wsX1_seenByEye (wsV RX1 115 RX1 yX1_seen wsX1_seen) := goodIn_app (goodIn_of _ (by decide +kernel)) ggX1_seenByEye_X1_seen
theorem dX1_seenByEye_0 : decode cX1_seenByEye 0 = .ok (.aload_n 0, 1) := by decide +kernel
theorem dX1_seenByEye_1 : decode cX1_seenByEye 1 = .ok (.iconst 0, 1) := by decide +kernel
theorem dX1_seenByEye_2 : decode cX1_seenByEye 2 = .ok (.aload_n 0, 1) := by decide +kernel
theorem dX1_seenByEye_3 : decode cX1_seenByEye 3 = .ok (.getfield 22, 3) := by decide +kernel
theorem dX1_seenByEye_6 : decode cX1_seenByEye 6 = .ok (.iconst 0, 1) := by decide +kernel
theorem dX1_seenByEye_7 : decode cX1_seenByEye 7 = .ok (.iaload, 1) := by decide +kernel
theorem dX1_seenByEye_8 : decode cX1_seenByEye 8 = .ok (.aload_n 0, 1) := by decide +kernel
theorem dX1_seenByEye_9 : decode cX1_seenByEye 9 = .ok (.getfield 22, 3) := by decide +kernel
theorem dX1_seenByEye_12 : decode cX1_seenByEye 12 = .ok (.iconst 2, 1) := by decide +kernel
theorem dX1_seenByEye_13 : decode cX1_seenByEye 13 = .ok (.iaload, 1) := by decide +kernel
theorem dX1_seenByEye_14 : decode cX1_seenByEye 14 = .ok (.invokevirtual 115, 3) := by decide +kernel
theorem dX1_seenByEye_17 : decode cX1_seenByEye 17 = .ok (.lreturn, 1) := by decide +kernel
set_option maxRecDepth 20000 in
theorem ggX1_seenByShutter_X1_startInFrame : GoodIn wsX1_seenByShutter wsX1_startInFrame := goodIn_r _ [6, 1, 53, 54, 55, 56, 57] (by decide +kernel) (by decide +kernel)
set_option maxRecDepth 20000 in
theorem gX1_seenByShutter_X1_startInFrame : GoodIn wsX1_seenByShutter (wsV RX1 104 RX1 yX1_startInFrame wsX1_startInFrame) := goodIn_app (goodIn_of _ (by decide +kernel)) ggX1_seenByShutter_X1_startInFrame
set_option maxRecDepth 20000 in
theorem ggX1_seenByShutter_X1_seen : GoodIn wsX1_seenByShutter wsX1_seen := goodIn_r _ [10, 11, 12, 13, 14, 15, 5, 16, 17, 18, 19, 20, 1, 21, 22, 23, 24, 25, 26, 27, 28, 29, 30, 31, 32, 33, 34, 35, 36, 37, 38, 39, 40, 41, 42, 43, 44, 45, 46, 47, 48, 49, 50, 51, 52, 53, 54, 55, 56, 57] (by decide +kernel) (by decide +kernel)
set_option maxRecDepth 20000 in
theorem gX1_seenByShutter_X1_seen : GoodIn wsX1_seenByShutter (wsV RX1 115 RX1 yX1_seen wsX1_seen) := goodIn_app (goodIn_of _ (by decide +kernel)) ggX1_seenByShutter_X1_seen
theorem dX1_seenByShutter_0 : decode cX1_seenByShutter 0 = .ok (.aload_n 0, 1) := by decide +kernel
theorem dX1_seenByShutter_1 : decode cX1_seenByShutter 1 = .ok (.aload_n 0, 1) := by decide +kernel
theorem dX1_seenByShutter_2 : decode cX1_seenByShutter 2 = .ok (.invokevirtual 104, 3) := by decide +kernel
theorem dX1_seenByShutter_5 : decode cX1_seenByShutter 5 = .ok (.iload_n 1, 1) := by decide +kernel
theorem dX1_seenByShutter_6 : decode cX1_seenByShutter 6 = .ok (.aload_n 0, 1) := by decide +kernel
theorem dX1_seenByShutter_7 : decode cX1_seenByShutter 7 = .ok (.getfield 22, 3) := by decide +kernel
theorem dX1_seenByShutter_10 : decode cX1_seenByShutter 10 = .ok (.iconst 5, 1) := by decide +kernel
theorem dX1_seenByShutter_11 : decode cX1_seenByShutter 11 = .ok (.iaload, 1) := by decide +kernel
theorem dX1_seenByShutter_12 : decode cX1_seenByShutter 12 = .ok (.invokevirtual 115, 3) := by decide +kernel
theorem dX1_seenByShutter_15 : decode cX1_seenByShutter 15 = .ok (.lreturn, 1) := by decide +kernel
set_option maxRecDepth 20000 in
theorem ggX1_seen_X1_sumOver : GoodIn wsX1_seen wsX1_sumOver := goodIn_r _ [7, 8, 9, 10, 6, 11, 12, 13, 14, 15, 16, 1, 2, 17, 18, 19, 20, 21, 22, 23, 24, 25, 26, 27, 28, 29, 30, 31, 32, 33, 34, 35, 36, 37, 38, 39, 40, 41, 45, 46, 47, 48, 49] (by decide +kernel) (by decide +kernel)
set_option maxRecDepth 20000 in
theorem gX1_seen_X1_sumOver : GoodIn wsX1_seen (wsV RX1 98 RX1 yX1_sumOver wsX1_sumOver) := goodIn_app (goodIn_of _ (by decide +kernel)) ggX1_seen_X1_sumOver
set_option maxRecDepth 20000 in
theorem ggX1_seen_X1_mean : GoodIn wsX1_seen wsX1_mean := goodIn_r _ [44] (by decide +kernel) (by decide +kernel)
set_option maxRecDepth 20000 in
theorem gX1_seen_X1_mean : GoodIn wsX1_seen (va_wsS RX1 101 yX1_mean wsX1_mean) := goodIn_app (goodIn_of _ (by decide +kernel)) ggX1_seen_X1_mean
theorem dX1_seen_0 : decode cX1_seen 0 = .ok (.lconst 0, 1) := by decide +kernel
theorem dX1_seen_1 : decode cX1_seen 1 = .ok (.lstore 4, 2) := by decide +kernel
theorem dX1_seen_3 : decode cX1_seen 3 = .ok (.iconst 0, 1) := by decide +kernel
theorem dX1_seen_4 : decode cX1_seen 4 = .ok (.istore 6, 2) := by decide +kernel
theorem dX1_seen_6 : decode cX1_seen 6 = .ok (.iload 6, 2) := by decide +kernel
theorem dX1_seen_8 : decode cX1_seen 8 = .ok (.aload_n 0, 1) := by decide +kernel
theorem dX1_seen_9 : decode cX1_seen 9 = .ok (.getfield 31, 3) := by decide +kernel
theorem dX1_seen_12 : decode cX1_seen 12 = .ok (.if_icmp .ge 44, 3) := by decide +kernel
theorem dX1_seen_15 : decode cX1_seen 15 = .ok (.aload_n 0, 1) := by decide +kernel
theorem dX1_seen_16 : decode cX1_seen 16 = .ok (.aload_n 0, 1) := by decide +kernel
theorem dX1_seen_17 : decode cX1_seen 17 = .ok (.getfield 15, 3) := by decide +kernel
theorem dX1_seen_20 : decode cX1_seen 20 = .ok (.iload 6, 2) := by decide +kernel
theorem dX1_seen_22 : decode cX1_seen 22 = .ok (.iaload, 1) := by decide +kernel
theorem dX1_seen_23 : decode cX1_seen 23 = .ok (.iload_n 1, 1) := by decide +kernel
theorem dX1_seen_24 : decode cX1_seen 24 = .ok (.iload_n 2, 1) := by decide +kernel
theorem dX1_seen_25 : decode cX1_seen 25 = .ok (.invokevirtual 98, 3) := by decide +kernel
theorem dX1_seen_28 : decode cX1_seen 28 = .ok (.iload_n 2, 1) := by decide +kernel
theorem dX1_seen_29 : decode cX1_seen 29 = .ok (.invokestatic 101, 3) := by decide +kernel
theorem dX1_seen_32 : decode cX1_seen 32 = .ok (.iload_n 3, 1) := by decide +kernel
theorem dX1_seen_33 : decode cX1_seen 33 = .ok (.if_icmp .lt 17, 3) := by decide +kernel
theorem dX1_seen_36 : decode cX1_seen 36 = .ok (.lload 4, 2) := by decide +kernel
theorem dX1_seen_38 : decode cX1_seen 38 = .ok (.lconst 1, 1) := by decide +kernel
theorem dX1_seen_39 : decode cX1_seen 39 = .ok (.aload_n 0, 1) := by decide +kernel
theorem dX1_seen_40 : decode cX1_seen 40 = .ok (.getfield 15, 3) := by decide +kernel
theorem dX1_seen_43 : decode cX1_seen 43 = .ok (.iload 6, 2) := by decide +kernel
theorem dX1_seen_45 : decode cX1_seen 45 = .ok (.iaload, 1) := by decide +kernel
theorem dX1_seen_46 : decode cX1_seen 46 = .ok (.lshl, 1) := by decide +kernel
theorem dX1_seen_47 : decode cX1_seen 47 = .ok (.lor, 1) := by decide +kernel
theorem dX1_seen_48 : decode cX1_seen 48 = .ok (.lstore 4, 2) := by decide +kernel
theorem dX1_seen_50 : decode cX1_seen 50 = .ok (.iinc 6 1, 3) := by decide +kernel
theorem dX1_seen_53 : decode cX1_seen 53 = .ok (.goto (-47), 3) := by decide +kernel
theorem dX1_seen_56 : decode cX1_seen 56 = .ok (.lload 4, 2) := by decide +kernel
