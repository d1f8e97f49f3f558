theorem dX0_init_0 : decode cX0_init 0 = .ok (.aload_n 0, 1) := by decide +kernel
theorem dX0_init_1 : decode cX0_init 1 = .ok (.invokespecial 1, 3) := by decide +kernel
theorem dX0_init_4 : decode cX0_init 4 = .ok (.aload_n 0, 1) := by decide +kernel
theorem dX0_init_5 : decode cX0_init 5 = .ok (.sipush 660, 3) := by decide +kernel
theorem dX0_init_8 : decode cX0_init 8 = .ok (.newarray .int, 2) := by decide +kernel
theorem dX0_init_10 : decode cX0_init 10 = .ok (.putfield 11, 3) := by decide +kernel
theorem dX0_init_13 : decode cX0_init 13 = .ok (.aload_n 0, 1) := by decide +kernel
theorem dX0_init_14 : decode cX0_init 14 = .ok (.iconst 0, 1) := by decide +kernel
theorem dX0_init_15 : decode cX0_init 15 = .ok (.putfield 15, 3) := by decide +kernel
theorem dX0_init_18 : decode cX0_init 18 = .ok (.aload_n 0, 1) := by decide +kernel
theorem dX0_init_19 : decode cX0_init 19 = .ok (.iconst 0, 1) := by decide +kernel
theorem dX0_init_20 : decode cX0_init 20 = .ok (.putfield 19, 3) := by decide +kernel
theorem dX0_init_23 : decode cX0_init 23 = .ok (.return_, 1) := by decide +kernel
theorem dX0_isEmpty_0 : decode cX0_isEmpty 0 = .ok (.aload_n 0, 1) := by decide +kernel
theorem dX0_isEmpty_1 : decode cX0_isEmpty 1 = .ok (.getfield 15, 3) := by decide +kernel
theorem dX0_isEmpty_4 : decode cX0_isEmpty 4 = .ok (.ifCond .ne 7, 3) := by decide +kernel
theorem dX0_isEmpty_7 : decode cX0_isEmpty 7 = .ok (.iconst 1, 1) := by decide +kernel
theorem dX0_isEmpty_8 : decode cX0_isEmpty 8 = .ok (.goto 4, 3) := by decide +kernel
theorem dX0_isEmpty_11 : decode cX0_isEmpty 11 = .ok (.iconst 0, 1) := by decide +kernel
theorem dX0_isEmpty_12 : decode cX0_isEmpty 12 = .ok (.ireturn, 1) := by decide +kernel
set_option maxRecDepth 20000 in
theorem ggX0_keep_X1_saveTo : GoodIn wsX0_keep wsX1_saveTo := goodIn_r _ [12, 13, 14, 15, 16, 17, 21] (by decide +kernel) (by decide +kernel)
set_option maxRecDepth 20000 in
theorem gX0_keep_X1_saveTo : GoodIn wsX0_keep (wsV RX0 22 RX1 yX1_saveTo wsX1_saveTo) := goodIn_app (goodIn_of _ (by decide +kernel)) ggX0_keep_X1_saveTo
theorem dX0_keep_0 : decode cX0_keep 0 = .ok (.aload_n 1, 1) := by decide +kernel
theorem dX0_keep_1 : decode cX0_keep 1 = .ok (.aload_n 0, 1) := by decide +kernel
theorem dX0_keep_2 : decode cX0_keep 2 = .ok (.getfield 11, 3) := by decide +kernel
theorem dX0_keep_5 : decode cX0_keep 5 = .ok (.aload_n 0, 1) := by decide +kernel
theorem dX0_keep_6 : decode cX0_keep 6 = .ok (.getfield 19, 3) := by decide +kernel
theorem dX0_keep_9 : decode cX0_keep 9 = .ok (.sipush 132, 3) := by decide +kernel
theorem dX0_keep_12 : decode cX0_keep 12 = .ok (.imul, 1) := by decide +kernel
theorem dX0_keep_13 : decode cX0_keep 13 = .ok (.invokevirtual 22, 3) := by decide +kernel
theorem dX0_keep_16 : decode cX0_keep 16 = .ok (.aload_n 0, 1) := by decide +kernel
theorem dX0_keep_17 : decode cX0_keep 17 = .ok (.aload_n 0, 1) := by decide +kernel
theorem dX0_keep_18 : decode cX0_keep 18 = .ok (.getfield 19, 3) := by decide +kernel
theorem dX0_keep_21 : decode cX0_keep 21 = .ok (.iconst 1, 1) := by decide +kernel
theorem dX0_keep_22 : decode cX0_keep 22 = .ok (.iadd, 1) := by decide +kernel
theorem dX0_keep_23 : decode cX0_keep 23 = .ok (.iconst 5, 1) := by decide +kernel
theorem dX0_keep_24 : decode cX0_keep 24 = .ok (.if_icmp .ge 12, 3) := by decide +kernel
theorem dX0_keep_27 : decode cX0_keep 27 = .ok (.aload_n 0, 1) := by decide +kernel
theorem dX0_keep_28 : decode cX0_keep 28 = .ok (.getfield 19, 3) := by decide +kernel
theorem dX0_keep_31 : decode cX0_keep 31 = .ok (.iconst 1, 1) := by decide +kernel
theorem dX0_keep_32 : decode cX0_keep 32 = .ok (.iadd, 1) := by decide +kernel
theorem dX0_keep_33 : decode cX0_keep 33 = .ok (.goto 4, 3) := by decide +kernel
theorem dX0_keep_36 : decode cX0_keep 36 = .ok (.iconst 0, 1) := by decide +kernel
theorem dX0_keep_37 : decode cX0_keep 37 = .ok (.putfield 19, 3) := by decide +kernel
theorem dX0_keep_40 : decode cX0_keep 40 = .ok (.aload_n 0, 1) := by decide +kernel
theorem dX0_keep_41 : decode cX0_keep 41 = .ok (.aload_n 0, 1) := by decide +kernel
theorem dX0_keep_42 : decode cX0_keep 42 = .ok (.getfield 15, 3) := by decide +kernel
theorem dX0_keep_45 : decode cX0_keep 45 = .ok (.iconst 1, 1) := by decide +kernel
theorem dX0_keep_46 : decode cX0_keep 46 = .ok (.iadd, 1) := by decide +kernel
theorem dX0_keep_47 : decode cX0_keep 47 = .ok (.iconst 5, 1) := by decide +kernel
theorem dX0_keep_48 : decode cX0_keep 48 = .ok (.invokestatic 26, 3) := by decide +kernel
theorem dX0_keep_51 : decode cX0_keep 51 = .ok (.putfield 15, 3) := by decide +kernel
theorem dX0_keep_54 : decode cX0_keep 54 = .ok (.return_, 1) := by decide +kernel
set_option maxRecDepth 20000 in
theorem ggX0_restore_X1_loadFrom : GoodIn wsX0_restore wsX1_loadFrom := goodIn_r _ [8, 9, 10, 11, 12, 13, 17] (by decide +kernel) (by decide +kernel)
set_option maxRecDepth 20000 in
theorem gX0_restore_X1_loadFrom : GoodIn wsX0_restore (wsV RX0 32 RX1 yX1_loadFrom wsX1_loadFrom) := goodIn_app (goodIn_of _ (by decide +kernel)) ggX0_restore_X1_loadFrom
theorem dX0_restore_0 : decode cX0_restore 0 = .ok (.aload_n 0, 1) := by decide +kernel
theorem dX0_restore_1 : decode cX0_restore 1 = .ok (.aload_n 0, 1) := by decide +kernel
theorem dX0_restore_2 : decode cX0_restore 2 = .ok (.getfield 19, 3) := by decide +kernel
theorem dX0_restore_5 : decode cX0_restore 5 = .ok (.ifCond .le 12, 3) := by decide +kernel
theorem dX0_restore_8 : decode cX0_restore 8 = .ok (.aload_n 0, 1) := by decide +kernel
theorem dX0_restore_9 : decode cX0_restore 9 = .ok (.getfield 19, 3) := by decide +kernel
theorem dX0_restore_12 : decode cX0_restore 12 = .ok (.iconst 1, 1) := by decide +kernel
theorem dX0_restore_13 : decode cX0_restore 13 = .ok (.isub, 1) := by decide +kernel
theorem dX0_restore_14 : decode cX0_restore 14 = .ok (.goto 4, 3) := by decide +kernel
theorem dX0_restore_17 : decode cX0_restore 17 = .ok (.iconst 4, 1) := by decide +kernel
theorem dX0_restore_18 : decode cX0_restore 18 = .ok (.putfield 19, 3) := by decide +kernel
theorem dX0_restore_21 : decode cX0_restore 21 = .ok (.aload_n 0, 1) := by decide +kernel
theorem dX0_restore_22 : decode cX0_restore 22 = .ok (.dup, 1) := by decide +kernel
theorem dX0_restore_23 : decode cX0_restore 23 = .ok (.getfield 15, 3) := by decide +kernel
theorem dX0_restore_26 : decode cX0_restore 26 = .ok (.iconst 1, 1) := by decide +kernel
theorem dX0_restore_27 : decode cX0_restore 27 = .ok (.isub, 1) := by decide +kernel
theorem dX0_restore_28 : decode cX0_restore 28 = .ok (.putfield 15, 3) := by decide +kernel
theorem dX0_restore_31 : decode cX0_restore 31 = .ok (.aload_n 1, 1) := by decide +kernel
theorem dX0_restore_32 : decode cX0_restore 32 = .ok (.aload_n 0, 1) := by decide +kernel
theorem dX0_restore_33 : decode cX0_restore 33 = .ok (.getfield 11, 3) := by decide +kernel
theorem dX0_restore_36 : decode cX0_restore 36 = .ok (.aload_n 0, 1) := by decide +kernel
theorem dX0_restore_37 : decode cX0_restore 37 = .ok (.getfield 19, 3) := by decide +kernel
theorem dX0_restore_40 : decode cX0_restore 40 = .ok (.sipush 132, 3) := by decide +kernel
theorem dX0_restore_43 : decode cX0_restore 43 = .ok (.imul, 1) := by decide +kernel
theorem dX0_restore_44 : decode cX0_restore 44 = .ok (.invokevirtual 32, 3) := by decide +kernel
theorem dX0_restore_47 : decode cX0_restore 47 = .ok (.aload_n 0, 1) := by decide +kernel
theorem dX0_restore_48 : decode cX0_restore 48 = .ok (.getfield 15, 3) := by decide +kernel
theorem dX0_restore_51 : decode cX0_restore 51 = .ok (.ireturn, 1) := by decide +kernel
theorem dX1_init_0 : decode cX1_init 0 = .ok (.aload_n 0, 1) := by decide +kernel
theorem dX1_init_1 : decode cX1_init 1 = .ok (.invokespecial 5, 3) := by decide +kernel
theorem dX1_init_4 : decode cX1_init 4 = .ok (.aload_n 0, 1) := by decide +kernel
theorem dX1_init_5 : decode cX1_init 5 = .ok (.sipush 132, 3) := by decide +kernel
theorem dX1_init_8 : decode cX1_init 8 = .ok (.newarray .int, 2) := by decide +kernel
theorem dX1_init_10 : decode cX1_init 10 = .ok (.putfield 11, 3) := by decide +kernel
theorem dX1_init_13 : decode cX1_init 13 = .ok (.bipush 44, 2) := by decide +kernel
theorem dX1_init_15 : decode cX1_init 15 = .ok (.istore_n 1, 1) := by decide +kernel
theorem dX1_init_16 : decode cX1_init 16 = .ok (.iload_n 1, 1) := by decide +kernel
theorem dX1_init_17 : decode cX1_init 17 = .ok (.bipush 92, 2) := by decide +kernel
theorem dX1_init_19 : decode cX1_init 19 = .ok (.if_icmp .ge 17, 3) := by decide +kernel
theorem dX1_init_22 : decode cX1_init 22 = .ok (.aload_n 0, 1) := by decide +kernel
theorem dX1_init_23 : decode cX1_init 23 = .ok (.getfield 11, 3) := by decide +kernel
theorem dX1_init_26 : decode cX1_init 26 = .ok (.iload_n 1, 1) := by decide +kernel
theorem dX1_init_27 : decode cX1_init 27 = .ok (.bipush (-100), 2) := by decide +kernel
theorem dX1_init_29 : decode cX1_init 29 = .ok (.iastore, 1) := by decide +kernel
theorem dX1_init_30 : decode cX1_init 30 = .ok (.iinc 1 1, 3) := by decide +kernel
theorem dX1_init_33 : decode cX1_init 33 = .ok (.goto (-17), 3) := by decide +kernel
theorem dX1_init_36 : decode cX1_init 36 = .ok (.return_, 1) := by decide +kernel
theorem dX1_copyFrom_0 : decode cX1_copyFrom 0 = .ok (.aload_n 1, 1) := by decide +kernel
theorem dX1_copyFrom_1 : decode cX1_copyFrom 1 = .ok (.getfield 11, 3) := by decide +kernel
theorem dX1_copyFrom_4 : decode cX1_copyFrom 4 = .ok (.iconst 0, 1) := by decide +kernel
theorem dX1_copyFrom_5 : decode cX1_copyFrom 5 = .ok (.aload_n 0, 1) := by decide +kernel
theorem dX1_copyFrom_6 : decode cX1_copyFrom 6 = .ok (.getfield 11, 3) := by decide +kernel
theorem dX1_copyFrom_9 : decode cX1_copyFrom 9 = .ok (.iconst 0, 1) := by decide +kernel
theorem dX1_copyFrom_10 : decode cX1_copyFrom 10 = .ok (.sipush 132, 3) := by decide +kernel
theorem dX1_copyFrom_13 : decode cX1_copyFrom 13 = .ok (.invokestatic 15, 3) := by decide +kernel
theorem dX1_copyFrom_16 : decode cX1_copyFrom 16 = .ok (.return_, 1) := by decide +kernel
theorem dX1_saveTo_0 : decode cX1_saveTo 0 = .ok (.aload_n 0, 1) := by decide +kernel
theorem dX1_saveTo_1 : decode cX1_saveTo 1 = .ok (.getfield 11, 3) := by decide +kernel
theorem dX1_saveTo_4 : decode cX1_saveTo 4 = .ok (.iconst 0, 1) := by decide +kernel
theorem dX1_saveTo_5 : decode cX1_saveTo 5 = .ok (.aload_n 1, 1) := by decide +kernel
theorem dX1_saveTo_6 : decode cX1_saveTo 6 = .ok (.iload_n 2, 1) := by decide +kernel
theorem dX1_saveTo_7 : decode cX1_saveTo 7 = .ok (.sipush 132, 3) := by decide +kernel
theorem dX1_saveTo_10 : decode cX1_saveTo 10 = .ok (.invokestatic 15, 3) := by decide +kernel
theorem dX1_saveTo_13 : decode cX1_saveTo 13 = .ok (.return_, 1) := by decide +kernel
theorem dX1_loadFrom_0 : decode cX1_loadFrom 0 = .ok (.aload_n 1, 1) := by decide +kernel
theorem dX1_loadFrom_1 : decode cX1_loadFrom 1 = .ok (.iload_n 2, 1) := by decide +kernel
theorem dX1_loadFrom_2 : decode cX1_loadFrom 2 = .ok (.aload_n 0, 1) := by decide +kernel
theorem dX1_loadFrom_3 : decode cX1_loadFrom 3 = .ok (.getfield 11, 3) := by decide +kernel
theorem dX1_loadFrom_6 : decode cX1_loadFrom 6 = .ok (.iconst 0, 1) := by decide +kernel
theorem dX1_loadFrom_7 : decode cX1_loadFrom 7 = .ok (.sipush 132, 3) := by decide +kernel
theorem dX1_loadFrom_10 : decode cX1_loadFrom 10 = .ok (.invokestatic 15, 3) := by decide +kernel
theorem dX1_loadFrom_13 : decode cX1_loadFrom 13 = .ok (.return_, 1) := by decide +kernel
theorem dX1_now_0 : decode cX1_now 0 = .ok (.aload_n 0, 1) := by decide +kernel
theorem dX1_now_1 : decode cX1_now 1 = .ok (.getfield 11, 3) := by decide +kernel
theorem dX1_now_4 : decode cX1_now 4 = .ok (.iconst 0, 1) := by decide +kernel
theorem dX1_now_5 : decode cX1_now 5 = .ok (.iaload, 1) := by decide +kernel
theorem dX1_now_6 : decode cX1_now 6 = .ok (.ireturn, 1) := by decide +kernel
theorem dX1_changeWind_0 : decode cX1_changeWind 0 = .ok (.aload_n 0, 1) := by decide +kernel
theorem dX1_changeWind_1 : decode cX1_changeWind 1 = .ok (.getfield 11, 3) := by decide +kernel
theorem dX1_changeWind_4 : decode cX1_changeWind 4 = .ok (.iconst 1, 1) := by decide +kernel
theorem dX1_changeWind_5 : decode cX1_changeWind 5 = .ok (.iaload, 1) := by decide +kernel
theorem dX1_changeWind_6 : decode cX1_changeWind 6 = .ok (.istore_n 2, 1) := by decide +kernel
theorem dX1_changeWind_7 : decode cX1_changeWind 7 = .ok (.aload_n 0, 1) := by decide +kernel
theorem dX1_changeWind_8 : decode cX1_changeWind 8 = .ok (.getfield 11, 3) := by decide +kernel
theorem dX1_changeWind_11 : decode cX1_changeWind 11 = .ok (.iconst 1, 1) := by decide +kernel
theorem dX1_changeWind_12 : decode cX1_changeWind 12 = .ok (.iload_n 1, 1) := by decide +kernel
theorem dX1_changeWind_13 : decode cX1_changeWind 13 = .ok (.iastore, 1) := by decide +kernel
theorem dX1_changeWind_14 : decode cX1_changeWind 14 = .ok (.iload_n 2, 1) := by decide +kernel
theorem dX1_changeWind_15 : decode cX1_changeWind 15 = .ok (.ireturn, 1) := by decide +kernel
theorem dX1_craneCount_0 : decode cX1_craneCount 0 = .ok (.aload_n 0, 1) := by decide +kernel
theorem dX1_craneCount_1 : decode cX1_craneCount 1 = .ok (.getfield 11, 3) := by decide +kernel
theorem dX1_craneCount_4 : decode cX1_craneCount 4 = .ok (.iconst 2, 1) := by decide +kernel
theorem dX1_craneCount_5 : decode cX1_craneCount 5 = .ok (.iaload, 1) := by decide +kernel
theorem dX1_craneCount_6 : decode cX1_craneCount 6 = .ok (.ireturn, 1) := by decide +kernel
theorem dX1_hasCrane_0 : decode cX1_hasCrane 0 = .ok (.iload_n 1, 1) := by decide +kernel
theorem dX1_hasCrane_1 : decode cX1_hasCrane 1 = .ok (.ifCond .lt 17, 3) := by decide +kernel
theorem dX1_hasCrane_4 : decode cX1_hasCrane 4 = .ok (.iload_n 1, 1) := by decide +kernel
theorem dX1_hasCrane_5 : decode cX1_hasCrane 5 = .ok (.aload_n 0, 1) := by decide +kernel
theorem dX1_hasCrane_6 : decode cX1_hasCrane 6 = .ok (.getfield 11, 3) := by decide +kernel
theorem dX1_hasCrane_9 : decode cX1_hasCrane 9 = .ok (.iconst 2, 1) := by decide +kernel
theorem dX1_hasCrane_10 : decode cX1_hasCrane 10 = .ok (.iaload, 1) := by decide +kernel
theorem dX1_hasCrane_11 : decode cX1_hasCrane 11 = .ok (.if_icmp .ge 7, 3) := by decide +kernel
theorem dX1_hasCrane_14 : decode cX1_hasCrane 14 = .ok (.iconst 1, 1) := by decide +kernel
theorem dX1_hasCrane_15 : decode cX1_hasCrane 15 = .ok (.goto 4, 3) := by decide +kernel
theorem dX1_hasCrane_18 : decode cX1_hasCrane 18 = .ok (.iconst 0, 1) := by decide +kernel
theorem dX1_hasCrane_19 : decode cX1_hasCrane 19 = .ok (.ireturn, 1) := by decide +kernel
theorem dX1_putCrane_0 : decode cX1_putCrane 0 = .ok (.aload_n 0, 1) := by decide +kernel
theorem dX1_putCrane_1 : decode cX1_putCrane 1 = .ok (.getfield 11, 3) := by decide +kernel
theorem dX1_putCrane_4 : decode cX1_putCrane 4 = .ok (.iconst 2, 1) := by decide +kernel
theorem dX1_putCrane_5 : decode cX1_putCrane 5 = .ok (.iaload, 1) := by decide +kernel
theorem dX1_putCrane_6 : decode cX1_putCrane 6 = .ok (.istore 4, 2) := by decide +kernel
theorem dX1_putCrane_8 : decode cX1_putCrane 8 = .ok (.aload_n 0, 1) := by decide +kernel
theorem dX1_putCrane_9 : decode cX1_putCrane 9 = .ok (.getfield 11, 3) := by decide +kernel
theorem dX1_putCrane_12 : decode cX1_putCrane 12 = .ok (.iconst 2, 1) := by decide +kernel
theorem dX1_putCrane_13 : decode cX1_putCrane 13 = .ok (.iload 4, 2) := by decide +kernel
theorem dX1_putCrane_15 : decode cX1_putCrane 15 = .ok (.iconst 1, 1) := by decide +kernel
theorem dX1_putCrane_16 : decode cX1_putCrane 16 = .ok (.iadd, 1) := by decide +kernel
theorem dX1_putCrane_17 : decode cX1_putCrane 17 = .ok (.iastore, 1) := by decide +kernel
theorem dX1_putCrane_18 : decode cX1_putCrane 18 = .ok (.aload_n 0, 1) := by decide +kernel
theorem dX1_putCrane_19 : decode cX1_putCrane 19 = .ok (.getfield 11, 3) := by decide +kernel
theorem dX1_putCrane_22 : decode cX1_putCrane 22 = .ok (.iconst 4, 1) := by decide +kernel
theorem dX1_putCrane_23 : decode cX1_putCrane 23 = .ok (.iload 4, 2) := by decide +kernel
theorem dX1_putCrane_25 : decode cX1_putCrane 25 = .ok (.iadd, 1) := by decide +kernel
theorem dX1_putCrane_26 : decode cX1_putCrane 26 = .ok (.iload_n 1, 1) := by decide +kernel
theorem dX1_putCrane_27 : decode cX1_putCrane 27 = .ok (.iastore, 1) := by decide +kernel
theorem dX1_putCrane_28 : decode cX1_putCrane 28 = .ok (.aload_n 0, 1) := by decide +kernel
theorem dX1_putCrane_29 : decode cX1_putCrane 29 = .ok (.getfield 11, 3) := by decide +kernel
theorem dX1_putCrane_32 : decode cX1_putCrane 32 = .ok (.bipush 8, 2) := by decide +kernel
theorem dX1_putCrane_34 : decode cX1_putCrane 34 = .ok (.iload 4, 2) := by decide +kernel
theorem dX1_putCrane_36 : decode cX1_putCrane 36 = .ok (.iadd, 1) := by decide +kernel
theorem dX1_putCrane_37 : decode cX1_putCrane 37 = .ok (.iload_n 2, 1) := by decide +kernel
theorem dX1_putCrane_38 : decode cX1_putCrane 38 = .ok (.iastore, 1) := by decide +kernel
theorem dX1_putCrane_39 : decode cX1_putCrane 39 = .ok (.aload_n 0, 1) := by decide +kernel
theorem dX1_putCrane_40 : decode cX1_putCrane 40 = .ok (.getfield 11, 3) := by decide +kernel
theorem dX1_putCrane_43 : decode cX1_putCrane 43 = .ok (.bipush 12, 2) := by decide +kernel
theorem dX1_putCrane_45 : decode cX1_putCrane 45 = .ok (.iload 4, 2) := by decide +kernel
theorem dX1_putCrane_47 : decode cX1_putCrane 47 = .ok (.iadd, 1) := by decide +kernel
theorem dX1_putCrane_48 : decode cX1_putCrane 48 = .ok (.iload_n 3, 1) := by decide +kernel
theorem dX1_putCrane_49 : decode cX1_putCrane 49 = .ok (.iastore, 1) := by decide +kernel
theorem dX1_putCrane_50 : decode cX1_putCrane 50 = .ok (.aload_n 0, 1) := by decide +kernel
theorem dX1_putCrane_51 : decode cX1_putCrane 51 = .ok (.getfield 11, 3) := by decide +kernel
theorem dX1_putCrane_54 : decode cX1_putCrane 54 = .ok (.bipush 16, 2) := by decide +kernel
theorem dX1_putCrane_56 : decode cX1_putCrane 56 = .ok (.iload 4, 2) := by decide +kernel
theorem dX1_putCrane_58 : decode cX1_putCrane 58 = .ok (.iadd, 1) := by decide +kernel
theorem dX1_putCrane_59 : decode cX1_putCrane 59 = .ok (.bipush (-100), 2) := by decide +kernel
theorem dX1_putCrane_61 : decode cX1_putCrane 61 = .ok (.iastore, 1) := by decide +kernel
theorem dX1_putCrane_62 : decode cX1_putCrane 62 = .ok (.iload 4, 2) := by decide +kernel
theorem dX1_putCrane_64 : decode cX1_putCrane 64 = .ok (.ireturn, 1) := by decide +kernel
set_option maxRecDepth 20000 in
theorem ggX1_property_X1_zonesOccupiedBy : GoodIn wsX1_property wsX1_zonesOccupiedBy := goodIn_r _ [6, 1, 7, 8, 9, 5, 10, 11, 12, 13, 14, 15, 16, 17, 18, 19, 20, 21, 22, 23, 24, 25, 26, 27] (by decide +kernel) (by decide +kernel)
set_option maxRecDepth 20000 in
theorem gX1_property_X1_zonesOccupiedBy : GoodIn wsX1_property (wsV RX1 21 RX1 yX1_zonesOccupiedBy wsX1_zonesOccupiedBy) := goodIn_app (goodIn_of _ (by decide +kernel)) ggX1_property_X1_zonesOccupiedBy
theorem dX1_property_0 : decode cX1_property 0 = .ok (.iconst 4, 1) := by decide +kernel
theorem dX1_property_1 : decode cX1_property 1 = .ok (.iload_n 2, 1) := by decide +kernel
theorem dX1_property_2 : decode cX1_property 2 = .ok (.iconst 4, 1) := by decide +kernel
theorem dX1_property_3 : decode cX1_property 3 = .ok (.imul, 1) := by decide +kernel
theorem dX1_property_4 : decode cX1_property 4 = .ok (.iadd, 1) := by decide +kernel
theorem dX1_property_5 : decode cX1_property 5 = .ok (.istore_n 3, 1) := by decide +kernel
theorem dX1_property_6 : decode cX1_property 6 = .ok (.iload_n 3, 1) := by decide +kernel
theorem dX1_property_7 : decode cX1_property 7 = .ok (.bipush 36, 2) := by decide +kernel
theorem dX1_property_9 : decode cX1_property 9 = .ok (.if_icmp .ne 11, 3) := by decide +kernel
theorem dX1_property_12 : decode cX1_property 12 = .ok (.aload_n 0, 1) := by decide +kernel
theorem dX1_property_13 : decode cX1_property 13 = .ok (.iload_n 1, 1) := by decide +kernel
theorem dX1_property_14 : decode cX1_property 14 = .ok (.invokevirtual 21, 3) := by decide +kernel
theorem dX1_property_17 : decode cX1_property 17 = .ok (.goto 11, 3) := by decide +kernel
theorem dX1_property_20 : decode cX1_property 20 = .ok (.aload_n 0, 1) := by decide +kernel
theorem dX1_property_21 : decode cX1_property 21 = .ok (.getfield 11, 3) := by decide +kernel
theorem dX1_property_24 : decode cX1_property 24 = .ok (.iload_n 3, 1) := by decide +kernel
theorem dX1_property_25 : decode cX1_property 25 = .ok (.iload_n 1, 1) := by decide +kernel
theorem dX1_property_26 : decode cX1_property 26 = .ok (.iadd, 1) := by decide +kernel
theorem dX1_property_27 : decode cX1_property 27 = .ok (.iaload, 1) := by decide +kernel
theorem dX1_property_28 : decode cX1_property 28 = .ok (.ireturn, 1) := by decide +kernel
theorem dX1_changePriority_0 : decode cX1_changePriority 0 = .ok (.aload_n 0, 1) := by decide +kernel
theorem dX1_changePriority_1 : decode cX1_changePriority 1 = .ok (.getfield 11, 3) := by decide +kernel
theorem dX1_changePriority_4 : decode cX1_changePriority 4 = .ok (.bipush 12, 2) := by decide +kernel
theorem dX1_changePriority_6 : decode cX1_changePriority 6 = .ok (.iload_n 1, 1) := by decide +kernel
theorem dX1_changePriority_7 : decode cX1_changePriority 7 = .ok (.iadd, 1) := by decide +kernel
theorem dX1_changePriority_8 : decode cX1_changePriority 8 = .ok (.iaload, 1) := by decide +kernel
theorem dX1_changePriority_9 : decode cX1_changePriority 9 = .ok (.istore_n 3, 1) := by decide +kernel
theorem dX1_changePriority_10 : decode cX1_changePriority 10 = .ok (.aload_n 0, 1) := by decide +kernel
theorem dX1_changePriority_11 : decode cX1_changePriority 11 = .ok (.getfield 11, 3) := by decide +kernel
theorem dX1_changePriority_14 : decode cX1_changePriority 14 = .ok (.bipush 12, 2) := by decide +kernel
theorem dX1_changePriority_16 : decode cX1_changePriority 16 = .ok (.iload_n 1, 1) := by decide +kernel
theorem dX1_changePriority_17 : decode cX1_changePriority 17 = .ok (.iadd, 1) := by decide +kernel
theorem dX1_changePriority_18 : decode cX1_changePriority 18 = .ok (.iload_n 2, 1) := by decide +kernel
theorem dX1_changePriority_19 : decode cX1_changePriority 19 = .ok (.iastore, 1) := by decide +kernel
theorem dX1_changePriority_20 : decode cX1_changePriority 20 = .ok (.iload_n 3, 1) := by decide +kernel
theorem dX1_changePriority_21 : decode cX1_changePriority 21 = .ok (.ireturn, 1) := by decide +kernel
theorem dX1_waitOf_0 : decode cX1_waitOf 0 = .ok (.aload_n 0, 1) := by decide +kernel
theorem dX1_waitOf_1 : decode cX1_waitOf 1 = .ok (.getfield 11, 3) := by decide +kernel
theorem dX1_waitOf_4 : decode cX1_waitOf 4 = .ok (.bipush 28, 2) := by decide +kernel
theorem dX1_waitOf_6 : decode cX1_waitOf 6 = .ok (.iload_n 1, 1) := by decide +kernel
theorem dX1_waitOf_7 : decode cX1_waitOf 7 = .ok (.iadd, 1) := by decide +kernel
theorem dX1_waitOf_8 : decode cX1_waitOf 8 = .ok (.iaload, 1) := by decide +kernel
theorem dX1_waitOf_9 : decode cX1_waitOf 9 = .ok (.ireturn, 1) := by decide +kernel
theorem dX1_isOnStep_0 : decode cX1_isOnStep 0 = .ok (.aload_n 0, 1) := by decide +kernel
theorem dX1_isOnStep_1 : decode cX1_isOnStep 1 = .ok (.getfield 11, 3) := by decide +kernel
theorem dX1_isOnStep_4 : decode cX1_isOnStep 4 = .ok (.bipush 24, 2) := by decide +kernel
theorem dX1_isOnStep_6 : decode cX1_isOnStep 6 = .ok (.iload_n 1, 1) := by decide +kernel
theorem dX1_isOnStep_7 : decode cX1_isOnStep 7 = .ok (.iadd, 1) := by decide +kernel
theorem dX1_isOnStep_8 : decode cX1_isOnStep 8 = .ok (.iaload, 1) := by decide +kernel
theorem dX1_isOnStep_9 : decode cX1_isOnStep 9 = .ok (.ifCond .le 7, 3) := by decide +kernel
theorem dX1_isOnStep_12 : decode cX1_isOnStep 12 = .ok (.iconst 1, 1) := by decide +kernel
theorem dX1_isOnStep_13 : decode cX1_isOnStep 13 = .ok (.goto 4, 3) := by decide +kernel
theorem dX1_isOnStep_16 : decode cX1_isOnStep 16 = .ok (.iconst 0, 1) := by decide +kernel
theorem dX1_isOnStep_17 : decode cX1_isOnStep 17 = .ok (.ireturn, 1) := by decide +kernel
theorem dX1_isLeft_0 : decode cX1_isLeft 0 = .ok (.aload_n 0, 1) := by decide +kernel
theorem dX1_isLeft_1 : decode cX1_isLeft 1 = .ok (.getfield 11, 3) := by decide +kernel
theorem dX1_isLeft_4 : decode cX1_isLeft 4 = .ok (.bipush 32, 2) := by decide +kernel
theorem dX1_isLeft_6 : decode cX1_isLeft 6 = .ok (.iload_n 1, 1) := by decide +kernel
theorem dX1_isLeft_7 : decode cX1_isLeft 7 = .ok (.iadd, 1) := by decide +kernel
theorem dX1_isLeft_8 : decode cX1_isLeft 8 = .ok (.iaload, 1) := by decide +kernel
theorem dX1_isLeft_9 : decode cX1_isLeft 9 = .ok (.iconst 1, 1) := by decide +kernel
theorem dX1_isLeft_10 : decode cX1_isLeft 10 = .ok (.if_icmp .ne 7, 3) := by decide +kernel
theorem dX1_isLeft_13 : decode cX1_isLeft 13 = .ok (.iconst 1, 1) := by decide +kernel
theorem dX1_isLeft_14 : decode cX1_isLeft 14 = .ok (.goto 4, 3) := by decide +kernel
theorem dX1_isLeft_17 : decode cX1_isLeft 17 = .ok (.iconst 0, 1) := by decide +kernel
theorem dX1_isLeft_18 : decode cX1_isLeft 18 = .ok (.ireturn, 1) := by decide +kernel
set_option maxRecDepth 20000 in
theorem ggX1_canBeLeft_X1_zonesWithArc : GoodIn wsX1_canBeLeft wsX1_zonesWithArc := goodIn_r _ [6, 1, 27] (by decide +kernel) (by decide +kernel)
set_option maxRecDepth 20000 in
theorem gX1_canBeLeft_X1_zonesWithArc : GoodIn wsX1_canBeLeft (wsV RX1 25 RX1 yX1_zonesWithArc wsX1_zonesWithArc) := goodIn_app (goodIn_of _ (by decide +kernel)) ggX1_canBeLeft_X1_zonesWithArc
set_option maxRecDepth 20000 in
theorem ggX1_canBeLeft_X1_zonesOccupiedBy : GoodIn wsX1_canBeLeft wsX1_zonesOccupiedBy := goodIn_r _ [10, 1, 11, 12, 13, 5, 14, 2, 3, 4, 6, 15, 16, 17, 18, 19, 20, 21, 22, 23, 24, 25, 26, 27] (by decide +kernel) (by decide +kernel)
set_option maxRecDepth 20000 in
theorem gX1_canBeLeft_X1_zonesOccupiedBy : GoodIn wsX1_canBeLeft (wsV RX1 21 RX1 yX1_zonesOccupiedBy wsX1_zonesOccupiedBy) := goodIn_app (goodIn_of _ (by decide +kernel)) ggX1_canBeLeft_X1_zonesOccupiedBy
set_option maxRecDepth 20000 in
theorem ggX1_canBeLeft_X1_isOnStep : GoodIn wsX1_canBeLeft wsX1_isOnStep := goodIn_r _ [22, 1, 27] (by decide +kernel) (by decide +kernel)
set_option maxRecDepth 20000 in
theorem gX1_canBeLeft_X1_isOnStep : GoodIn wsX1_canBeLeft (wsV RX1 28 RX1 yX1_isOnStep wsX1_isOnStep) := goodIn_app (goodIn_of _ (by decide +kernel)) ggX1_canBeLeft_X1_isOnStep
theorem dX1_canBeLeft_0 : decode cX1_canBeLeft 0 = .ok (.aload_n 0, 1) := by decide +kernel
theorem dX1_canBeLeft_1 : decode cX1_canBeLeft 1 = .ok (.iload_n 1, 1) := by decide +kernel
theorem dX1_canBeLeft_2 : decode cX1_canBeLeft 2 = .ok (.invokevirtual 25, 3) := by decide +kernel
theorem dX1_canBeLeft_5 : decode cX1_canBeLeft 5 = .ok (.istore_n 2, 1) := by decide +kernel
theorem dX1_canBeLeft_6 : decode cX1_canBeLeft 6 = .ok (.iconst 0, 1) := by decide +kernel
theorem dX1_canBeLeft_7 : decode cX1_canBeLeft 7 = .ok (.istore_n 3, 1) := by decide +kernel
theorem dX1_canBeLeft_8 : decode cX1_canBeLeft 8 = .ok (.iload_n 3, 1) := by decide +kernel
theorem dX1_canBeLeft_9 : decode cX1_canBeLeft 9 = .ok (.aload_n 0, 1) := by decide +kernel
theorem dX1_canBeLeft_10 : decode cX1_canBeLeft 10 = .ok (.getfield 11, 3) := by decide +kernel
theorem dX1_canBeLeft_13 : decode cX1_canBeLeft 13 = .ok (.iconst 2, 1) := by decide +kernel
theorem dX1_canBeLeft_14 : decode cX1_canBeLeft 14 = .ok (.iaload, 1) := by decide +kernel
theorem dX1_canBeLeft_15 : decode cX1_canBeLeft 15 = .ok (.if_icmp .ge 26, 3) := by decide +kernel
theorem dX1_canBeLeft_18 : decode cX1_canBeLeft 18 = .ok (.iload_n 3, 1) := by decide +kernel
theorem dX1_canBeLeft_19 : decode cX1_canBeLeft 19 = .ok (.iload_n 1, 1) := by decide +kernel
theorem dX1_canBeLeft_20 : decode cX1_canBeLeft 20 = .ok (.if_icmp .eq 15, 3) := by decide +kernel
theorem dX1_canBeLeft_23 : decode cX1_canBeLeft 23 = .ok (.aload_n 0, 1) := by decide +kernel
theorem dX1_canBeLeft_24 : decode cX1_canBeLeft 24 = .ok (.iload_n 3, 1) := by decide +kernel
theorem dX1_canBeLeft_25 : decode cX1_canBeLeft 25 = .ok (.invokevirtual 21, 3) := by decide +kernel
theorem dX1_canBeLeft_28 : decode cX1_canBeLeft 28 = .ok (.iload_n 2, 1) := by decide +kernel
theorem dX1_canBeLeft_29 : decode cX1_canBeLeft 29 = .ok (.iand, 1) := by decide +kernel
theorem dX1_canBeLeft_30 : decode cX1_canBeLeft 30 = .ok (.ifCond .eq 5, 3) := by decide +kernel
theorem dX1_canBeLeft_33 : decode cX1_canBeLeft 33 = .ok (.iconst 0, 1) := by decide +kernel
theorem dX1_canBeLeft_34 : decode cX1_canBeLeft 34 = .ok (.ireturn, 1) := by decide +kernel
theorem dX1_canBeLeft_35 : decode cX1_canBeLeft 35 = .ok (.iinc 3 1, 3) := by decide +kernel
theorem dX1_canBeLeft_38 : decode cX1_canBeLeft 38 = .ok (.goto (-30), 3) := by decide +kernel
theorem dX1_canBeLeft_41 : decode cX1_canBeLeft 41 = .ok (.aload_n 0, 1) := by decide +kernel
theorem dX1_canBeLeft_42 : decode cX1_canBeLeft 42 = .ok (.iload_n 1, 1) := by decide +kernel
theorem dX1_canBeLeft_43 : decode cX1_canBeLeft 43 = .ok (.invokevirtual 28, 3) := by decide +kernel
theorem dX1_canBeLeft_46 : decode cX1_canBeLeft 46 = .ok (.ifCond .ne 7, 3) := by decide +kernel
theorem dX1_canBeLeft_49 : decode cX1_canBeLeft 49 = .ok (.iconst 1, 1) := by decide +kernel
theorem dX1_canBeLeft_50 : decode cX1_canBeLeft 50 = .ok (.goto 4, 3) := by decide +kernel
theorem dX1_canBeLeft_53 : decode cX1_canBeLeft 53 = .ok (.iconst 0, 1) := by decide +kernel
theorem dX1_canBeLeft_54 : decode cX1_canBeLeft 54 = .ok (.ireturn, 1) := by decide +kernel
set_option maxRecDepth 20000 in
theorem ggX1_leaveToWind_X1_dropTarget : GoodIn wsX1_leaveToWind wsX1_dropTarget := goodIn_r _ [6, 1, 7] (by decide +kernel) (by decide +kernel)
set_option maxRecDepth 20000 in
theorem gX1_leaveToWind_X1_dropTarget : GoodIn wsX1_leaveToWind (wsV RX1 32 RX1 yX1_dropTarget wsX1_dropTarget) := goodIn_app (goodIn_of _ (by decide +kernel)) ggX1_leaveToWind_X1_dropTarget
theorem dX1_leaveToWind_0 : decode cX1_leaveToWind 0 = .ok (.aload_n 0, 1) := by decide +kernel
theorem dX1_leaveToWind_1 : decode cX1_leaveToWind 1 = .ok (.iload_n 1, 1) := by decide +kernel
theorem dX1_leaveToWind_2 : decode cX1_leaveToWind 2 = .ok (.invokevirtual 32, 3) := by decide +kernel
theorem dX1_leaveToWind_5 : decode cX1_leaveToWind 5 = .ok (.pop, 1) := by decide +kernel
theorem dX1_leaveToWind_6 : decode cX1_leaveToWind 6 = .ok (.aload_n 0, 1) := by decide +kernel
theorem dX1_leaveToWind_7 : decode cX1_leaveToWind 7 = .ok (.getfield 11, 3) := by decide +kernel
theorem dX1_leaveToWind_10 : decode cX1_leaveToWind 10 = .ok (.bipush 32, 2) := by decide +kernel
theorem dX1_leaveToWind_12 : decode cX1_leaveToWind 12 = .ok (.iload_n 1, 1) := by decide +kernel
theorem dX1_leaveToWind_13 : decode cX1_leaveToWind 13 = .ok (.iadd, 1) := by decide +kernel
theorem dX1_leaveToWind_14 : decode cX1_leaveToWind 14 = .ok (.iconst 1, 1) := by decide +kernel
theorem dX1_leaveToWind_15 : decode cX1_leaveToWind 15 = .ok (.iastore, 1) := by decide +kernel
theorem dX1_leaveToWind_16 : decode cX1_leaveToWind 16 = .ok (.return_, 1) := by decide +kernel
theorem dX1_takeBack_0 : decode cX1_takeBack 0 = .ok (.aload_n 0, 1) := by decide +kernel
theorem dX1_takeBack_1 : decode cX1_takeBack 1 = .ok (.getfield 11, 3) := by decide +kernel
theorem dX1_takeBack_4 : decode cX1_takeBack 4 = .ok (.bipush 32, 2) := by decide +kernel
theorem dX1_takeBack_6 : decode cX1_takeBack 6 = .ok (.iload_n 1, 1) := by decide +kernel
theorem dX1_takeBack_7 : decode cX1_takeBack 7 = .ok (.iadd, 1) := by decide +kernel
theorem dX1_takeBack_8 : decode cX1_takeBack 8 = .ok (.iconst 0, 1) := by decide +kernel
theorem dX1_takeBack_9 : decode cX1_takeBack 9 = .ok (.iastore, 1) := by decide +kernel
theorem dX1_takeBack_10 : decode cX1_takeBack 10 = .ok (.return_, 1) := by decide +kernel
theorem dX1_hasTarget_0 : decode cX1_hasTarget 0 = .ok (.aload_n 0, 1) := by decide +kernel
theorem dX1_hasTarget_1 : decode cX1_hasTarget 1 = .ok (.getfield 11, 3) := by decide +kernel
theorem dX1_hasTarget_4 : decode cX1_hasTarget 4 = .ok (.bipush 16, 2) := by decide +kernel
theorem dX1_hasTarget_6 : decode cX1_hasTarget 6 = .ok (.iload_n 1, 1) := by decide +kernel
theorem dX1_hasTarget_7 : decode cX1_hasTarget 7 = .ok (.iadd, 1) := by decide +kernel
theorem dX1_hasTarget_8 : decode cX1_hasTarget 8 = .ok (.iaload, 1) := by decide +kernel
theorem dX1_hasTarget_9 : decode cX1_hasTarget 9 = .ok (.bipush (-100), 2) := by decide +kernel
theorem dX1_hasTarget_11 : decode cX1_hasTarget 11 = .ok (.if_icmp .eq 7, 3) := by decide +kernel
theorem dX1_hasTarget_14 : decode cX1_hasTarget 14 = .ok (.iconst 1, 1) := by decide +kernel
theorem dX1_hasTarget_15 : decode cX1_hasTarget 15 = .ok (.goto 4, 3) := by decide +kernel
theorem dX1_hasTarget_18 : decode cX1_hasTarget 18 = .ok (.iconst 0, 1) := by decide +kernel
theorem dX1_hasTarget_19 : decode cX1_hasTarget 19 = .ok (.ireturn, 1) := by decide +kernel
set_option maxRecDepth 20000 in
theorem ggX1_canAim_X1_isOnStep : GoodIn wsX1_canAim wsX1_isOnStep := goodIn_r _ [5, 6, 11] (by decide +kernel) (by decide +kernel)
set_option maxRecDepth 20000 in
theorem gX1_canAim_X1_isOnStep : GoodIn wsX1_canAim (wsV RX1 28 RX1 yX1_isOnStep wsX1_isOnStep) := goodIn_app (goodIn_of _ (by decide +kernel)) ggX1_canAim_X1_isOnStep
set_option maxRecDepth 20000 in
theorem ggX1_canAim_X1_isLeft : GoodIn wsX1_canAim wsX1_isLeft := goodIn_r _ [10, 6, 11] (by decide +kernel) (by decide +kernel)
set_option maxRecDepth 20000 in
theorem gX1_canAim_X1_isLeft : GoodIn wsX1_canAim (wsV RX1 35 RX1 yX1_isLeft wsX1_isLeft) := goodIn_app (goodIn_of _ (by decide +kernel)) ggX1_canAim_X1_isLeft
theorem dX1_canAim_0 : decode cX1_canAim 0 = .ok (.aload_n 0, 1) := by decide +kernel
theorem dX1_canAim_1 : decode cX1_canAim 1 = .ok (.iload_n 1, 1) := by decide +kernel
theorem dX1_canAim_2 : decode cX1_canAim 2 = .ok (.invokevirtual 28, 3) := by decide +kernel
theorem dX1_canAim_5 : decode cX1_canAim 5 = .ok (.ifCond .ne 15, 3) := by decide +kernel
theorem dX1_canAim_8 : decode cX1_canAim 8 = .ok (.aload_n 0, 1) := by decide +kernel
theorem dX1_canAim_9 : decode cX1_canAim 9 = .ok (.iload_n 1, 1) := by decide +kernel
theorem dX1_canAim_10 : decode cX1_canAim 10 = .ok (.invokevirtual 35, 3) := by decide +kernel
theorem dX1_canAim_13 : decode cX1_canAim 13 = .ok (.ifCond .ne 7, 3) := by decide +kernel
theorem dX1_canAim_16 : decode cX1_canAim 16 = .ok (.iconst 1, 1) := by decide +kernel
theorem dX1_canAim_17 : decode cX1_canAim 17 = .ok (.goto 4, 3) := by decide +kernel
theorem dX1_canAim_20 : decode cX1_canAim 20 = .ok (.iconst 0, 1) := by decide +kernel
theorem dX1_canAim_21 : decode cX1_canAim 21 = .ok (.ireturn, 1) := by decide +kernel
set_option maxRecDepth 20000 in
theorem ggX1_aim_X1_dropTarget : GoodIn wsX1_aim wsX1_dropTarget := goodIn_r _ [6, 1, 17] (by decide +kernel) (by decide +kernel)
set_option maxRecDepth 20000 in
theorem gX1_aim_X1_dropTarget : GoodIn wsX1_aim (wsV RX1 32 RX1 yX1_dropTarget wsX1_dropTarget) := goodIn_app (goodIn_of _ (by decide +kernel)) ggX1_aim_X1_dropTarget
set_option maxRecDepth 20000 in
theorem ggX1_aim_X3_shorterWay : GoodIn wsX1_aim wsX3_shorterWay := goodIn_r _ [9, 10, 11, 8, 12] (by decide +kernel) (by decide +kernel)
set_option maxRecDepth 20000 in
theorem gX1_aim_X3_shorterWay_n38 : GoodIn wsX1_aim (wsX3_shorterWay) := ggX1_aim_X3_shorterWay
set_option maxRecDepth 20000 in
theorem ggX1_aim_X1_stepsToTarget : GoodIn wsX1_aim wsX1_stepsToTarget := goodIn_r _ [16, 1, 11, 8, 12, 17] (by decide +kernel) (by decide +kernel)
set_option maxRecDepth 20000 in
theorem gX1_aim_X1_stepsToTarget : GoodIn wsX1_aim (wsV RX1 42 RX1 yX1_stepsToTarget wsX1_stepsToTarget) := goodIn_app (goodIn_of _ (by decide +kernel)) ggX1_aim_X1_stepsToTarget
theorem dX1_aim_0 : decode cX1_aim 0 = .ok (.aload_n 0, 1) := by decide +kernel
theorem dX1_aim_1 : decode cX1_aim 1 = .ok (.getfield 11, 3) := by decide +kernel
theorem dX1_aim_4 : decode cX1_aim 4 = .ok (.iconst 4, 1) := by decide +kernel
theorem dX1_aim_5 : decode cX1_aim 5 = .ok (.iload_n 1, 1) := by decide +kernel
theorem dX1_aim_6 : decode cX1_aim 6 = .ok (.iadd, 1) := by decide +kernel
theorem dX1_aim_7 : decode cX1_aim 7 = .ok (.iaload, 1) := by decide +kernel
theorem dX1_aim_8 : decode cX1_aim 8 = .ok (.istore 4, 2) := by decide +kernel
theorem dX1_aim_10 : decode cX1_aim 10 = .ok (.iload 4, 2) := by decide +kernel
theorem dX1_aim_12 : decode cX1_aim 12 = .ok (.iload_n 2, 1) := by decide +kernel
theorem dX1_aim_13 : decode cX1_aim 13 = .ok (.if_icmp .ne 11, 3) := by decide +kernel
theorem dX1_aim_16 : decode cX1_aim 16 = .ok (.aload_n 0, 1) := by decide +kernel
theorem dX1_aim_17 : decode cX1_aim 17 = .ok (.iload_n 1, 1) := by decide +kernel
theorem dX1_aim_18 : decode cX1_aim 18 = .ok (.invokevirtual 32, 3) := by decide +kernel
theorem dX1_aim_21 : decode cX1_aim 21 = .ok (.pop, 1) := by decide +kernel
theorem dX1_aim_22 : decode cX1_aim 22 = .ok (.iconst 0, 1) := by decide +kernel
theorem dX1_aim_23 : decode cX1_aim 23 = .ok (.ireturn, 1) := by decide +kernel
theorem dX1_aim_24 : decode cX1_aim 24 = .ok (.aload_n 0, 1) := by decide +kernel
theorem dX1_aim_25 : decode cX1_aim 25 = .ok (.getfield 11, 3) := by decide +kernel
theorem dX1_aim_28 : decode cX1_aim 28 = .ok (.bipush 16, 2) := by decide +kernel
theorem dX1_aim_30 : decode cX1_aim 30 = .ok (.iload_n 1, 1) := by decide +kernel
theorem dX1_aim_31 : decode cX1_aim 31 = .ok (.iadd, 1) := by decide +kernel
theorem dX1_aim_32 : decode cX1_aim 32 = .ok (.iload_n 2, 1) := by decide +kernel
theorem dX1_aim_33 : decode cX1_aim 33 = .ok (.iastore, 1) := by decide +kernel
theorem dX1_aim_34 : decode cX1_aim 34 = .ok (.aload_n 0, 1) := by decide +kernel
theorem dX1_aim_35 : decode cX1_aim 35 = .ok (.getfield 11, 3) := by decide +kernel
theorem dX1_aim_38 : decode cX1_aim 38 = .ok (.bipush 20, 2) := by decide +kernel
theorem dX1_aim_40 : decode cX1_aim 40 = .ok (.iload_n 1, 1) := by decide +kernel
theorem dX1_aim_41 : decode cX1_aim 41 = .ok (.iadd, 1) := by decide +kernel
theorem dX1_aim_42 : decode cX1_aim 42 = .ok (.iload_n 3, 1) := by decide +kernel
theorem dX1_aim_43 : decode cX1_aim 43 = .ok (.ifCond .ne 12, 3) := by decide +kernel
theorem dX1_aim_46 : decode cX1_aim 46 = .ok (.iload 4, 2) := by decide +kernel
theorem dX1_aim_48 : decode cX1_aim 48 = .ok (.iload_n 2, 1) := by decide +kernel
theorem dX1_aim_49 : decode cX1_aim 49 = .ok (.invokestatic 38, 3) := by decide +kernel
theorem dX1_aim_52 : decode cX1_aim 52 = .ok (.goto 4, 3) := by decide +kernel
theorem dX1_aim_55 : decode cX1_aim 55 = .ok (.iload_n 3, 1) := by decide +kernel
theorem dX1_aim_56 : decode cX1_aim 56 = .ok (.iastore, 1) := by decide +kernel
theorem dX1_aim_57 : decode cX1_aim 57 = .ok (.aload_n 0, 1) := by decide +kernel
theorem dX1_aim_58 : decode cX1_aim 58 = .ok (.iload_n 1, 1) := by decide +kernel
theorem dX1_aim_59 : decode cX1_aim 59 = .ok (.invokevirtual 42, 3) := by decide +kernel
theorem dX1_aim_62 : decode cX1_aim 62 = .ok (.ireturn, 1) := by decide +kernel
set_option maxRecDepth 20000 in
theorem ggX1_changeWay_X1_stepsToTarget : GoodIn wsX1_changeWay wsX1_stepsToTarget := goodIn_r _ [6, 1, 7, 8, 9, 10] (by decide +kernel) (by decide +kernel)
set_option maxRecDepth 20000 in
theorem gX1_changeWay_X1_stepsToTarget : GoodIn wsX1_changeWay (wsV RX1 42 RX1 yX1_stepsToTarget wsX1_stepsToTarget) := goodIn_app (goodIn_of _ (by decide +kernel)) ggX1_changeWay_X1_stepsToTarget
theorem dX1_changeWay_0 : decode cX1_changeWay 0 = .ok (.aload_n 0, 1) := by decide +kernel
theorem dX1_changeWay_1 : decode cX1_changeWay 1 = .ok (.getfield 11, 3) := by decide +kernel
theorem dX1_changeWay_4 : decode cX1_changeWay 4 = .ok (.bipush 20, 2) := by decide +kernel
theorem dX1_changeWay_6 : decode cX1_changeWay 6 = .ok (.iload_n 1, 1) := by decide +kernel
theorem dX1_changeWay_7 : decode cX1_changeWay 7 = .ok (.iadd, 1) := by decide +kernel
theorem dX1_changeWay_8 : decode cX1_changeWay 8 = .ok (.aload_n 0, 1) := by decide +kernel
theorem dX1_changeWay_9 : decode cX1_changeWay 9 = .ok (.getfield 11, 3) := by decide +kernel
theorem dX1_changeWay_12 : decode cX1_changeWay 12 = .ok (.bipush 20, 2) := by decide +kernel
theorem dX1_changeWay_14 : decode cX1_changeWay 14 = .ok (.iload_n 1, 1) := by decide +kernel
theorem dX1_changeWay_15 : decode cX1_changeWay 15 = .ok (.iadd, 1) := by decide +kernel
theorem dX1_changeWay_16 : decode cX1_changeWay 16 = .ok (.iaload, 1) := by decide +kernel
theorem dX1_changeWay_17 : decode cX1_changeWay 17 = .ok (.ineg, 1) := by decide +kernel
theorem dX1_changeWay_18 : decode cX1_changeWay 18 = .ok (.iastore, 1) := by decide +kernel
theorem dX1_changeWay_19 : decode cX1_changeWay 19 = .ok (.aload_n 0, 1) := by decide +kernel
theorem dX1_changeWay_20 : decode cX1_changeWay 20 = .ok (.iload_n 1, 1) := by decide +kernel
theorem dX1_changeWay_21 : decode cX1_changeWay 21 = .ok (.invokevirtual 42, 3) := by decide +kernel
theorem dX1_changeWay_24 : decode cX1_changeWay 24 = .ok (.ireturn, 1) := by decide +kernel
theorem dX1_dropTarget_0 : decode cX1_dropTarget 0 = .ok (.aload_n 0, 1) := by decide +kernel
theorem dX1_dropTarget_1 : decode cX1_dropTarget 1 = .ok (.getfield 11, 3) := by decide +kernel
theorem dX1_dropTarget_4 : decode cX1_dropTarget 4 = .ok (.bipush 16, 2) := by decide +kernel
theorem dX1_dropTarget_6 : decode cX1_dropTarget 6 = .ok (.iload_n 1, 1) := by decide +kernel
theorem dX1_dropTarget_7 : decode cX1_dropTarget 7 = .ok (.iadd, 1) := by decide +kernel
theorem dX1_dropTarget_8 : decode cX1_dropTarget 8 = .ok (.iaload, 1) := by decide +kernel
theorem dX1_dropTarget_9 : decode cX1_dropTarget 9 = .ok (.istore_n 2, 1) := by decide +kernel
theorem dX1_dropTarget_10 : decode cX1_dropTarget 10 = .ok (.aload_n 0, 1) := by decide +kernel
theorem dX1_dropTarget_11 : decode cX1_dropTarget 11 = .ok (.getfield 11, 3) := by decide +kernel
theorem dX1_dropTarget_14 : decode cX1_dropTarget 14 = .ok (.bipush 16, 2) := by decide +kernel
theorem dX1_dropTarget_16 : decode cX1_dropTarget 16 = .ok (.iload_n 1, 1) := by decide +kernel
theorem dX1_dropTarget_17 : decode cX1_dropTarget 17 = .ok (.iadd, 1) := by decide +kernel
theorem dX1_dropTarget_18 : decode cX1_dropTarget 18 = .ok (.bipush (-100), 2) := by decide +kernel
theorem dX1_dropTarget_20 : decode cX1_dropTarget 20 = .ok (.iastore, 1) := by decide +kernel
theorem dX1_dropTarget_21 : decode cX1_dropTarget 21 = .ok (.aload_n 0, 1) := by decide +kernel
theorem dX1_dropTarget_22 : decode cX1_dropTarget 22 = .ok (.getfield 11, 3) := by decide +kernel
theorem dX1_dropTarget_25 : decode cX1_dropTarget 25 = .ok (.bipush 20, 2) := by decide +kernel
theorem dX1_dropTarget_27 : decode cX1_dropTarget 27 = .ok (.iload_n 1, 1) := by decide +kernel
theorem dX1_dropTarget_28 : decode cX1_dropTarget 28 = .ok (.iadd, 1) := by decide +kernel
theorem dX1_dropTarget_29 : decode cX1_dropTarget 29 = .ok (.iconst 0, 1) := by decide +kernel
theorem dX1_dropTarget_30 : decode cX1_dropTarget 30 = .ok (.iastore, 1) := by decide +kernel
theorem dX1_dropTarget_31 : decode cX1_dropTarget 31 = .ok (.iload_n 2, 1) := by decide +kernel
theorem dX1_dropTarget_32 : decode cX1_dropTarget 32 = .ok (.ireturn, 1) := by decide +kernel
set_option maxRecDepth 20000 in
theorem ggX1_stepsToTarget_X3_stepsClockwise : GoodIn wsX1_stepsToTarget wsX3_stepsClockwise := goodIn_r _ [4] (by decide +kernel) (by decide +kernel)
set_option maxRecDepth 20000 in
theorem gX1_stepsToTarget_X3_stepsClockwise_n45 : GoodIn wsX1_stepsToTarget (wsX3_stepsClockwise) := ggX1_stepsToTarget_X3_stepsClockwise
theorem dX1_stepsToTarget_0 : decode cX1_stepsToTarget 0 = .ok (.aload_n 0, 1) := by decide +kernel
theorem dX1_stepsToTarget_1 : decode cX1_stepsToTarget 1 = .ok (.getfield 11, 3) := by decide +kernel
theorem dX1_stepsToTarget_4 : decode cX1_stepsToTarget 4 = .ok (.iconst 4, 1) := by decide +kernel
theorem dX1_stepsToTarget_5 : decode cX1_stepsToTarget 5 = .ok (.iload_n 1, 1) := by decide +kernel
theorem dX1_stepsToTarget_6 : decode cX1_stepsToTarget 6 = .ok (.iadd, 1) := by decide +kernel
theorem dX1_stepsToTarget_7 : decode cX1_stepsToTarget 7 = .ok (.iaload, 1) := by decide +kernel
theorem dX1_stepsToTarget_8 : decode cX1_stepsToTarget 8 = .ok (.istore_n 2, 1) := by decide +kernel
theorem dX1_stepsToTarget_9 : decode cX1_stepsToTarget 9 = .ok (.aload_n 0, 1) := by decide +kernel
theorem dX1_stepsToTarget_10 : decode cX1_stepsToTarget 10 = .ok (.getfield 11, 3) := by decide +kernel
theorem dX1_stepsToTarget_13 : decode cX1_stepsToTarget 13 = .ok (.bipush 16, 2) := by decide +kernel
theorem dX1_stepsToTarget_15 : decode cX1_stepsToTarget 15 = .ok (.iload_n 1, 1) := by decide +kernel
theorem dX1_stepsToTarget_16 : decode cX1_stepsToTarget 16 = .ok (.iadd, 1) := by decide +kernel
theorem dX1_stepsToTarget_17 : decode cX1_stepsToTarget 17 = .ok (.iaload, 1) := by decide +kernel
theorem dX1_stepsToTarget_18 : decode cX1_stepsToTarget 18 = .ok (.istore_n 3, 1) := by decide +kernel
theorem dX1_stepsToTarget_19 : decode cX1_stepsToTarget 19 = .ok (.aload_n 0, 1) := by decide +kernel
theorem dX1_stepsToTarget_20 : decode cX1_stepsToTarget 20 = .ok (.getfield 11, 3) := by decide +kernel
theorem dX1_stepsToTarget_23 : decode cX1_stepsToTarget 23 = .ok (.bipush 20, 2) := by decide +kernel
theorem dX1_stepsToTarget_25 : decode cX1_stepsToTarget 25 = .ok (.iload_n 1, 1) := by decide +kernel
theorem dX1_stepsToTarget_26 : decode cX1_stepsToTarget 26 = .ok (.iadd, 1) := by decide +kernel
theorem dX1_stepsToTarget_27 : decode cX1_stepsToTarget 27 = .ok (.iaload, 1) := by decide +kernel
theorem dX1_stepsToTarget_28 : decode cX1_stepsToTarget 28 = .ok (.iconst 1, 1) := by decide +kernel
theorem dX1_stepsToTarget_29 : decode cX1_stepsToTarget 29 = .ok (.if_icmp .ne 11, 3) := by decide +kernel
theorem dX1_stepsToTarget_32 : decode cX1_stepsToTarget 32 = .ok (.iload_n 2, 1) := by decide +kernel
theorem dX1_stepsToTarget_33 : decode cX1_stepsToTarget 33 = .ok (.iload_n 3, 1) := by decide +kernel
theorem dX1_stepsToTarget_34 : decode cX1_stepsToTarget 34 = .ok (.invokestatic 45, 3) := by decide +kernel
theorem dX1_stepsToTarget_37 : decode cX1_stepsToTarget 37 = .ok (.goto 8, 3) := by decide +kernel
theorem dX1_stepsToTarget_40 : decode cX1_stepsToTarget 40 = .ok (.iload_n 3, 1) := by decide +kernel
theorem dX1_stepsToTarget_41 : decode cX1_stepsToTarget 41 = .ok (.iload_n 2, 1) := by decide +kernel
theorem dX1_stepsToTarget_42 : decode cX1_stepsToTarget 42 = .ok (.invokestatic 45, 3) := by decide +kernel
theorem dX1_stepsToTarget_45 : decode cX1_stepsToTarget 45 = .ok (.ireturn, 1) := by decide +kernel
set_option maxRecDepth 20000 in
theorem ggX1_ticksToTarget_X1_stepsToTarget : GoodIn wsX1_ticksToTarget wsX1_stepsToTarget := goodIn_r _ [6, 1, 7, 8, 9, 10] (by decide +kernel) (by decide +kernel)
set_option maxRecDepth 20000 in
theorem gX1_ticksToTarget_X1_stepsToTarget : GoodIn wsX1_ticksToTarget (wsV RX1 42 RX1 yX1_stepsToTarget wsX1_stepsToTarget) := goodIn_app (goodIn_of _ (by decide +kernel)) ggX1_ticksToTarget_X1_stepsToTarget
theorem dX1_ticksToTarget_0 : decode cX1_ticksToTarget 0 = .ok (.aload_n 0, 1) := by decide +kernel
theorem dX1_ticksToTarget_1 : decode cX1_ticksToTarget 1 = .ok (.iload_n 1, 1) := by decide +kernel
theorem dX1_ticksToTarget_2 : decode cX1_ticksToTarget 2 = .ok (.invokevirtual 42, 3) := by decide +kernel
theorem dX1_ticksToTarget_5 : decode cX1_ticksToTarget 5 = .ok (.aload_n 0, 1) := by decide +kernel
theorem dX1_ticksToTarget_6 : decode cX1_ticksToTarget 6 = .ok (.getfield 11, 3) := by decide +kernel
theorem dX1_ticksToTarget_9 : decode cX1_ticksToTarget 9 = .ok (.bipush 8, 2) := by decide +kernel
theorem dX1_ticksToTarget_11 : decode cX1_ticksToTarget 11 = .ok (.iload_n 1, 1) := by decide +kernel
theorem dX1_ticksToTarget_12 : decode cX1_ticksToTarget 12 = .ok (.iadd, 1) := by decide +kernel
theorem dX1_ticksToTarget_13 : decode cX1_ticksToTarget 13 = .ok (.iaload, 1) := by decide +kernel
theorem dX1_ticksToTarget_14 : decode cX1_ticksToTarget 14 = .ok (.imul, 1) := by decide +kernel
theorem dX1_ticksToTarget_15 : decode cX1_ticksToTarget 15 = .ok (.aload_n 0, 1) := by decide +kernel
theorem dX1_ticksToTarget_16 : decode cX1_ticksToTarget 16 = .ok (.getfield 11, 3) := by decide +kernel
theorem dX1_ticksToTarget_19 : decode cX1_ticksToTarget 19 = .ok (.bipush 24, 2) := by decide +kernel
theorem dX1_ticksToTarget_21 : decode cX1_ticksToTarget 21 = .ok (.iload_n 1, 1) := by decide +kernel
theorem dX1_ticksToTarget_22 : decode cX1_ticksToTarget 22 = .ok (.iadd, 1) := by decide +kernel
theorem dX1_ticksToTarget_23 : decode cX1_ticksToTarget 23 = .ok (.iaload, 1) := by decide +kernel
theorem dX1_ticksToTarget_24 : decode cX1_ticksToTarget 24 = .ok (.isub, 1) := by decide +kernel
theorem dX1_ticksToTarget_25 : decode cX1_ticksToTarget 25 = .ok (.ireturn, 1) := by decide +kernel
set_option maxRecDepth 20000 in
theorem ggX1_cranesWithTarget_X1_hasTarget : GoodIn wsX1_cranesWithTarget wsX1_hasTarget := goodIn_r _ [6, 1, 7] (by decide +kernel) (by decide +kernel)
set_option maxRecDepth 20000 in
theorem gX1_cranesWithTarget_X1_hasTarget : GoodIn wsX1_cranesWithTarget (wsV RX1 48 RX1 yX1_hasTarget wsX1_hasTarget) := goodIn_app (goodIn_of _ (by decide +kernel)) ggX1_cranesWithTarget_X1_hasTarget
theorem dX1_cranesWithTarget_0 : decode cX1_cranesWithTarget 0 = .ok (.iconst 0, 1) := by decide +kernel
theorem dX1_cranesWithTarget_1 : decode cX1_cranesWithTarget 1 = .ok (.istore_n 1, 1) := by decide +kernel
theorem dX1_cranesWithTarget_2 : decode cX1_cranesWithTarget 2 = .ok (.iconst 0, 1) := by decide +kernel
theorem dX1_cranesWithTarget_3 : decode cX1_cranesWithTarget 3 = .ok (.istore_n 2, 1) := by decide +kernel
theorem dX1_cranesWithTarget_4 : decode cX1_cranesWithTarget 4 = .ok (.iload_n 2, 1) := by decide +kernel
theorem dX1_cranesWithTarget_5 : decode cX1_cranesWithTarget 5 = .ok (.aload_n 0, 1) := by decide +kernel
theorem dX1_cranesWithTarget_6 : decode cX1_cranesWithTarget 6 = .ok (.getfield 11, 3) := by decide +kernel
theorem dX1_cranesWithTarget_9 : decode cX1_cranesWithTarget 9 = .ok (.iconst 2, 1) := by decide +kernel
theorem dX1_cranesWithTarget_10 : decode cX1_cranesWithTarget 10 = .ok (.iaload, 1) := by decide +kernel
theorem dX1_cranesWithTarget_11 : decode cX1_cranesWithTarget 11 = .ok (.if_icmp .ge 23, 3) := by decide +kernel
theorem dX1_cranesWithTarget_14 : decode cX1_cranesWithTarget 14 = .ok (.aload_n 0, 1) := by decide +kernel
theorem dX1_cranesWithTarget_15 : decode cX1_cranesWithTarget 15 = .ok (.iload_n 2, 1) := by decide +kernel
theorem dX1_cranesWithTarget_16 : decode cX1_cranesWithTarget 16 = .ok (.invokevirtual 48, 3) := by decide +kernel
theorem dX1_cranesWithTarget_19 : decode cX1_cranesWithTarget 19 = .ok (.ifCond .eq 9, 3) := by decide +kernel
theorem dX1_cranesWithTarget_22 : decode cX1_cranesWithTarget 22 = .ok (.iload_n 1, 1) := by decide +kernel
theorem dX1_cranesWithTarget_23 : decode cX1_cranesWithTarget 23 = .ok (.iconst 1, 1) := by decide +kernel
theorem dX1_cranesWithTarget_24 : decode cX1_cranesWithTarget 24 = .ok (.iload_n 2, 1) := by decide +kernel
theorem dX1_cranesWithTarget_25 : decode cX1_cranesWithTarget 25 = .ok (.ishl, 1) := by decide +kernel
theorem dX1_cranesWithTarget_26 : decode cX1_cranesWithTarget 26 = .ok (.ior, 1) := by decide +kernel
theorem dX1_cranesWithTarget_27 : decode cX1_cranesWithTarget 27 = .ok (.istore_n 1, 1) := by decide +kernel
theorem dX1_cranesWithTarget_28 : decode cX1_cranesWithTarget 28 = .ok (.iinc 2 1, 3) := by decide +kernel
theorem dX1_cranesWithTarget_31 : decode cX1_cranesWithTarget 31 = .ok (.goto (-27), 3) := by decide +kernel
theorem dX1_cranesWithTarget_34 : decode cX1_cranesWithTarget 34 = .ok (.iload_n 1, 1) := by decide +kernel
theorem dX1_cranesWithTarget_35 : decode cX1_cranesWithTarget 35 = .ok (.ireturn, 1) := by decide +kernel
theorem dX1_firstOf_0 : decode cX1_firstOf 0 = .ok (.aload_n 0, 1) := by decide +kernel
theorem dX1_firstOf_1 : decode cX1_firstOf 1 = .ok (.getfield 11, 3) := by decide +kernel
theorem dX1_firstOf_4 : decode cX1_firstOf 4 = .ok (.bipush 44, 2) := by decide +kernel
theorem dX1_firstOf_6 : decode cX1_firstOf 6 = .ok (.iload_n 1, 1) := by decide +kernel
theorem dX1_firstOf_7 : decode cX1_firstOf 7 = .ok (.bipush 6, 2) := by decide +kernel
theorem dX1_firstOf_9 : decode cX1_firstOf 9 = .ok (.imul, 1) := by decide +kernel
theorem dX1_firstOf_10 : decode cX1_firstOf 10 = .ok (.iadd, 1) := by decide +kernel
theorem dX1_firstOf_11 : decode cX1_firstOf 11 = .ok (.iload_n 2, 1) := by decide +kernel
theorem dX1_firstOf_12 : decode cX1_firstOf 12 = .ok (.iadd, 1) := by decide +kernel
theorem dX1_firstOf_13 : decode cX1_firstOf 13 = .ok (.iaload, 1) := by decide +kernel
theorem dX1_firstOf_14 : decode cX1_firstOf 14 = .ok (.ireturn, 1) := by decide +kernel
theorem dX1_lastOf_0 : decode cX1_lastOf 0 = .ok (.aload_n 0, 1) := by decide +kernel
theorem dX1_lastOf_1 : decode cX1_lastOf 1 = .ok (.getfield 11, 3) := by decide +kernel
theorem dX1_lastOf_4 : decode cX1_lastOf 4 = .ok (.bipush 68, 2) := by decide +kernel
theorem dX1_lastOf_6 : decode cX1_lastOf 6 = .ok (.iload_n 1, 1) := by decide +kernel
theorem dX1_lastOf_7 : decode cX1_lastOf 7 = .ok (.bipush 6, 2) := by decide +kernel
theorem dX1_lastOf_9 : decode cX1_lastOf 9 = .ok (.imul, 1) := by decide +kernel
theorem dX1_lastOf_10 : decode cX1_lastOf 10 = .ok (.iadd, 1) := by decide +kernel
theorem dX1_lastOf_11 : decode cX1_lastOf 11 = .ok (.iload_n 2, 1) := by decide +kernel
theorem dX1_lastOf_12 : decode cX1_lastOf 12 = .ok (.iadd, 1) := by decide +kernel
theorem dX1_lastOf_13 : decode cX1_lastOf 13 = .ok (.iaload, 1) := by decide +kernel
theorem dX1_lastOf_14 : decode cX1_lastOf 14 = .ok (.ireturn, 1) := by decide +kernel
set_option maxRecDepth 20000 in
theorem ggX1_hasArc_X1_firstOf : GoodIn wsX1_hasArc wsX1_firstOf := goodIn_r _ [5, 6, 7] (by decide +kernel) (by decide +kernel)
set_option maxRecDepth 20000 in
theorem gX1_hasArc_X1_firstOf : GoodIn wsX1_hasArc (wsV RX1 51 RX1 yX1_firstOf wsX1_firstOf) := goodIn_app (goodIn_of _ (by decide +kernel)) ggX1_hasArc_X1_firstOf
theorem dX1_hasArc_0 : decode cX1_hasArc 0 = .ok (.aload_n 0, 1) := by decide +kernel
theorem dX1_hasArc_1 : decode cX1_hasArc 1 = .ok (.iload_n 1, 1) := by decide +kernel
theorem dX1_hasArc_2 : decode cX1_hasArc 2 = .ok (.iload_n 2, 1) := by decide +kernel
theorem dX1_hasArc_3 : decode cX1_hasArc 3 = .ok (.invokevirtual 51, 3) := by decide +kernel
theorem dX1_hasArc_6 : decode cX1_hasArc 6 = .ok (.bipush (-100), 2) := by decide +kernel
theorem dX1_hasArc_8 : decode cX1_hasArc 8 = .ok (.if_icmp .eq 7, 3) := by decide +kernel
theorem dX1_hasArc_11 : decode cX1_hasArc 11 = .ok (.iconst 1, 1) := by decide +kernel
theorem dX1_hasArc_12 : decode cX1_hasArc 12 = .ok (.goto 4, 3) := by decide +kernel
theorem dX1_hasArc_15 : decode cX1_hasArc 15 = .ok (.iconst 0, 1) := by decide +kernel
theorem dX1_hasArc_16 : decode cX1_hasArc 16 = .ok (.ireturn, 1) := by decide +kernel
theorem dX1_setLimits_0 : decode cX1_setLimits 0 = .ok (.aload_n 0, 1) := by decide +kernel
theorem dX1_setLimits_1 : decode cX1_setLimits 1 = .ok (.getfield 11, 3) := by decide +kernel
theorem dX1_setLimits_4 : decode cX1_setLimits 4 = .ok (.bipush 44, 2) := by decide +kernel
theorem dX1_setLimits_6 : decode cX1_setLimits 6 = .ok (.iload_n 1, 1) := by decide +kernel
theorem dX1_setLimits_7 : decode cX1_setLimits 7 = .ok (.bipush 6, 2) := by decide +kernel
theorem dX1_setLimits_9 : decode cX1_setLimits 9 = .ok (.imul, 1) := by decide +kernel
theorem dX1_setLimits_10 : decode cX1_setLimits 10 = .ok (.iadd, 1) := by decide +kernel
theorem dX1_setLimits_11 : decode cX1_setLimits 11 = .ok (.iload_n 2, 1) := by decide +kernel
theorem dX1_setLimits_12 : decode cX1_setLimits 12 = .ok (.iadd, 1) := by decide +kernel
theorem dX1_setLimits_13 : decode cX1_setLimits 13 = .ok (.iload_n 3, 1) := by decide +kernel
theorem dX1_setLimits_14 : decode cX1_setLimits 14 = .ok (.iastore, 1) := by decide +kernel
theorem dX1_setLimits_15 : decode cX1_setLimits 15 = .ok (.aload_n 0, 1) := by decide +kernel
theorem dX1_setLimits_16 : decode cX1_setLimits 16 = .ok (.getfield 11, 3) := by decide +kernel
theorem dX1_setLimits_19 : decode cX1_setLimits 19 = .ok (.bipush 68, 2) := by decide +kernel
theorem dX1_setLimits_21 : decode cX1_setLimits 21 = .ok (.iload_n 1, 1) := by decide +kernel
theorem dX1_setLimits_22 : decode cX1_setLimits 22 = .ok (.bipush 6, 2) := by decide +kernel
theorem dX1_setLimits_24 : decode cX1_setLimits 24 = .ok (.imul, 1) := by decide +kernel
theorem dX1_setLimits_25 : decode cX1_setLimits 25 = .ok (.iadd, 1) := by decide +kernel
theorem dX1_setLimits_26 : decode cX1_setLimits 26 = .ok (.iload_n 2, 1) := by decide +kernel
theorem dX1_setLimits_27 : decode cX1_setLimits 27 = .ok (.iadd, 1) := by decide +kernel
theorem dX1_setLimits_28 : decode cX1_setLimits 28 = .ok (.iload 4, 2) := by decide +kernel
theorem dX1_setLimits_30 : decode cX1_setLimits 30 = .ok (.iastore, 1) := by decide +kernel
theorem dX1_setLimits_31 : decode cX1_setLimits 31 = .ok (.return_, 1) := by decide +kernel
theorem dX1_zonesWithArc_0 : decode cX1_zonesWithArc 0 = .ok (.iconst 0, 1) := by decide +kernel
theorem dX1_zonesWithArc_1 : decode cX1_zonesWithArc 1 = .ok (.istore_n 2, 1) := by decide +kernel
theorem dX1_zonesWithArc_2 : decode cX1_zonesWithArc 2 = .ok (.iconst 0, 1) := by decide +kernel
theorem dX1_zonesWithArc_3 : decode cX1_zonesWithArc 3 = .ok (.istore_n 3, 1) := by decide +kernel
theorem dX1_zonesWithArc_4 : decode cX1_zonesWithArc 4 = .ok (.iload_n 3, 1) := by decide +kernel
theorem dX1_zonesWithArc_5 : decode cX1_zonesWithArc 5 = .ok (.bipush 6, 2) := by decide +kernel
theorem dX1_zonesWithArc_7 : decode cX1_zonesWithArc 7 = .ok (.if_icmp .ge 34, 3) := by decide +kernel
theorem dX1_zonesWithArc_10 : decode cX1_zonesWithArc 10 = .ok (.aload_n 0, 1) := by decide +kernel
theorem dX1_zonesWithArc_11 : decode cX1_zonesWithArc 11 = .ok (.getfield 11, 3) := by decide +kernel
theorem dX1_zonesWithArc_14 : decode cX1_zonesWithArc 14 = .ok (.bipush 44, 2) := by decide +kernel
theorem dX1_zonesWithArc_16 : decode cX1_zonesWithArc 16 = .ok (.iload_n 1, 1) := by decide +kernel
theorem dX1_zonesWithArc_17 : decode cX1_zonesWithArc 17 = .ok (.bipush 6, 2) := by decide +kernel
theorem dX1_zonesWithArc_19 : decode cX1_zonesWithArc 19 = .ok (.imul, 1) := by decide +kernel
theorem dX1_zonesWithArc_20 : decode cX1_zonesWithArc 20 = .ok (.iadd, 1) := by decide +kernel
theorem dX1_zonesWithArc_21 : decode cX1_zonesWithArc 21 = .ok (.iload_n 3, 1) := by decide +kernel
theorem dX1_zonesWithArc_22 : decode cX1_zonesWithArc 22 = .ok (.iadd, 1) := by decide +kernel
theorem dX1_zonesWithArc_23 : decode cX1_zonesWithArc 23 = .ok (.iaload, 1) := by decide +kernel
theorem dX1_zonesWithArc_24 : decode cX1_zonesWithArc 24 = .ok (.bipush (-100), 2) := by decide +kernel
theorem dX1_zonesWithArc_26 : decode cX1_zonesWithArc 26 = .ok (.if_icmp .eq 9, 3) := by decide +kernel
theorem dX1_zonesWithArc_29 : decode cX1_zonesWithArc 29 = .ok (.iload_n 2, 1) := by decide +kernel
theorem dX1_zonesWithArc_30 : decode cX1_zonesWithArc 30 = .ok (.iconst 1, 1) := by decide +kernel
theorem dX1_zonesWithArc_31 : decode cX1_zonesWithArc 31 = .ok (.iload_n 3, 1) := by decide +kernel
theorem dX1_zonesWithArc_32 : decode cX1_zonesWithArc 32 = .ok (.ishl, 1) := by decide +kernel
theorem dX1_zonesWithArc_33 : decode cX1_zonesWithArc 33 = .ok (.ior, 1) := by decide +kernel
theorem dX1_zonesWithArc_34 : decode cX1_zonesWithArc 34 = .ok (.istore_n 2, 1) := by decide +kernel
theorem dX1_zonesWithArc_35 : decode cX1_zonesWithArc 35 = .ok (.iinc 3 1, 3) := by decide +kernel
theorem dX1_zonesWithArc_38 : decode cX1_zonesWithArc 38 = .ok (.goto (-34), 3) := by decide +kernel
theorem dX1_zonesWithArc_41 : decode cX1_zonesWithArc 41 = .ok (.iload_n 2, 1) := by decide +kernel
theorem dX1_zonesWithArc_42 : decode cX1_zonesWithArc 42 = .ok (.ireturn, 1) := by decide +kernel
theorem dX1_zonesAtAngle_0 : decode cX1_zonesAtAngle 0 = .ok (.iconst 0, 1) := by decide +kernel
theorem dX1_zonesAtAngle_1 : decode cX1_zonesAtAngle 1 = .ok (.istore_n 3, 1) := by decide +kernel
theorem dX1_zonesAtAngle_2 : decode cX1_zonesAtAngle 2 = .ok (.iconst 0, 1) := by decide +kernel
theorem dX1_zonesAtAngle_3 : decode cX1_zonesAtAngle 3 = .ok (.istore 4, 2) := by decide +kernel
theorem dX1_zonesAtAngle_5 : decode cX1_zonesAtAngle 5 = .ok (.iload 4, 2) := by decide +kernel
theorem dX1_zonesAtAngle_7 : decode cX1_zonesAtAngle 7 = .ok (.bipush 6, 2) := by decide +kernel
theorem dX1_zonesAtAngle_9 : decode cX1_zonesAtAngle 9 = .ok (.if_icmp .ge 81, 3) := by decide +kernel
theorem dX1_zonesAtAngle_12 : decode cX1_zonesAtAngle 12 = .ok (.aload_n 0, 1) := by decide +kernel
theorem dX1_zonesAtAngle_13 : decode cX1_zonesAtAngle 13 = .ok (.getfield 11, 3) := by decide +kernel
theorem dX1_zonesAtAngle_16 : decode cX1_zonesAtAngle 16 = .ok (.bipush 44, 2) := by decide +kernel
theorem dX1_zonesAtAngle_18 : decode cX1_zonesAtAngle 18 = .ok (.iload_n 1, 1) := by decide +kernel
theorem dX1_zonesAtAngle_19 : decode cX1_zonesAtAngle 19 = .ok (.bipush 6, 2) := by decide +kernel
theorem dX1_zonesAtAngle_21 : decode cX1_zonesAtAngle 21 = .ok (.imul, 1) := by decide +kernel
theorem dX1_zonesAtAngle_22 : decode cX1_zonesAtAngle 22 = .ok (.iadd, 1) := by decide +kernel
theorem dX1_zonesAtAngle_23 : decode cX1_zonesAtAngle 23 = .ok (.iload 4, 2) := by decide +kernel
theorem dX1_zonesAtAngle_25 : decode cX1_zonesAtAngle 25 = .ok (.iadd, 1) := by decide +kernel
theorem dX1_zonesAtAngle_26 : decode cX1_zonesAtAngle 26 = .ok (.iaload, 1) := by decide +kernel
theorem dX1_zonesAtAngle_27 : decode cX1_zonesAtAngle 27 = .ok (.istore 5, 2) := by decide +kernel
theorem dX1_zonesAtAngle_29 : decode cX1_zonesAtAngle 29 = .ok (.aload_n 0, 1) := by decide +kernel
theorem dX1_zonesAtAngle_30 : decode cX1_zonesAtAngle 30 = .ok (.getfield 11, 3) := by decide +kernel
theorem dX1_zonesAtAngle_33 : decode cX1_zonesAtAngle 33 = .ok (.bipush 68, 2) := by decide +kernel
theorem dX1_zonesAtAngle_35 : decode cX1_zonesAtAngle 35 = .ok (.iload_n 1, 1) := by decide +kernel
theorem dX1_zonesAtAngle_36 : decode cX1_zonesAtAngle 36 = .ok (.bipush 6, 2) := by decide +kernel
theorem dX1_zonesAtAngle_38 : decode cX1_zonesAtAngle 38 = .ok (.imul, 1) := by decide +kernel
theorem dX1_zonesAtAngle_39 : decode cX1_zonesAtAngle 39 = .ok (.iadd, 1) := by decide +kernel
theorem dX1_zonesAtAngle_40 : decode cX1_zonesAtAngle 40 = .ok (.iload 4, 2) := by decide +kernel
theorem dX1_zonesAtAngle_42 : decode cX1_zonesAtAngle 42 = .ok (.iadd, 1) := by decide +kernel
theorem dX1_zonesAtAngle_43 : decode cX1_zonesAtAngle 43 = .ok (.iaload, 1) := by decide +kernel
theorem dX1_zonesAtAngle_44 : decode cX1_zonesAtAngle 44 = .ok (.istore 6, 2) := by decide +kernel
theorem dX1_zonesAtAngle_46 : decode cX1_zonesAtAngle 46 = .ok (.iload 5, 2) := by decide +kernel
theorem dX1_zonesAtAngle_48 : decode cX1_zonesAtAngle 48 = .ok (.bipush (-100), 2) := by decide +kernel
theorem dX1_zonesAtAngle_50 : decode cX1_zonesAtAngle 50 = .ok (.if_icmp .eq 34, 3) := by decide +kernel
theorem dX1_zonesAtAngle_53 : decode cX1_zonesAtAngle 53 = .ok (.iload_n 2, 1) := by decide +kernel
theorem dX1_zonesAtAngle_54 : decode cX1_zonesAtAngle 54 = .ok (.iload 5, 2) := by decide +kernel
theorem dX1_zonesAtAngle_56 : decode cX1_zonesAtAngle 56 = .ok (.isub, 1) := by decide +kernel
theorem dX1_zonesAtAngle_57 : decode cX1_zonesAtAngle 57 = .ok (.bipush 36, 2) := by decide +kernel
theorem dX1_zonesAtAngle_59 : decode cX1_zonesAtAngle 59 = .ok (.iadd, 1) := by decide +kernel
theorem dX1_zonesAtAngle_60 : decode cX1_zonesAtAngle 60 = .ok (.bipush 36, 2) := by decide +kernel
theorem dX1_zonesAtAngle_62 : decode cX1_zonesAtAngle 62 = .ok (.irem, 1) := by decide +kernel
theorem dX1_zonesAtAngle_63 : decode cX1_zonesAtAngle 63 = .ok (.iload 6, 2) := by decide +kernel
theorem dX1_zonesAtAngle_65 : decode cX1_zonesAtAngle 65 = .ok (.iload 5, 2) := by decide +kernel
theorem dX1_zonesAtAngle_67 : decode cX1_zonesAtAngle 67 = .ok (.isub, 1) := by decide +kernel
theorem dX1_zonesAtAngle_68 : decode cX1_zonesAtAngle 68 = .ok (.bipush 36, 2) := by decide +kernel
theorem dX1_zonesAtAngle_70 : decode cX1_zonesAtAngle 70 = .ok (.iadd, 1) := by decide +kernel
theorem dX1_zonesAtAngle_71 : decode cX1_zonesAtAngle 71 = .ok (.bipush 36, 2) := by decide +kernel
theorem dX1_zonesAtAngle_73 : decode cX1_zonesAtAngle 73 = .ok (.irem, 1) := by decide +kernel
theorem dX1_zonesAtAngle_74 : decode cX1_zonesAtAngle 74 = .ok (.if_icmp .gt 10, 3) := by decide +kernel
theorem dX1_zonesAtAngle_77 : decode cX1_zonesAtAngle 77 = .ok (.iload_n 3, 1) := by decide +kernel
theorem dX1_zonesAtAngle_78 : decode cX1_zonesAtAngle 78 = .ok (.iconst 1, 1) := by decide +kernel
theorem dX1_zonesAtAngle_79 : decode cX1_zonesAtAngle 79 = .ok (.iload 4, 2) := by decide +kernel
theorem dX1_zonesAtAngle_81 : decode cX1_zonesAtAngle 81 = .ok (.ishl, 1) := by decide +kernel
theorem dX1_zonesAtAngle_82 : decode cX1_zonesAtAngle 82 = .ok (.ior, 1) := by decide +kernel
theorem dX1_zonesAtAngle_83 : decode cX1_zonesAtAngle 83 = .ok (.istore_n 3, 1) := by decide +kernel
theorem dX1_zonesAtAngle_84 : decode cX1_zonesAtAngle 84 = .ok (.iinc 4 1, 3) := by decide +kernel
theorem dX1_zonesAtAngle_87 : decode cX1_zonesAtAngle 87 = .ok (.goto (-82), 3) := by decide +kernel
theorem dX1_zonesAtAngle_90 : decode cX1_zonesAtAngle 90 = .ok (.iload_n 3, 1) := by decide +kernel
theorem dX1_zonesAtAngle_91 : decode cX1_zonesAtAngle 91 = .ok (.ireturn, 1) := by decide +kernel
set_option maxRecDepth 20000 in
theorem ggX1_zonesOccupiedBy_X1_isLeft : GoodIn wsX1_zonesOccupiedBy wsX1_isLeft := goodIn_r _ [6, 1, 23] (by decide +kernel) (by decide +kernel)
set_option maxRecDepth 20000 in
theorem gX1_zonesOccupiedBy_X1_isLeft : GoodIn wsX1_zonesOccupiedBy (wsV RX1 35 RX1 yX1_isLeft wsX1_isLeft) := goodIn_app (goodIn_of _ (by decide +kernel)) ggX1_zonesOccupiedBy_X1_isLeft
set_option maxRecDepth 20000 in
theorem ggX1_zonesOccupiedBy_X1_zonesWithArc : GoodIn wsX1_zonesOccupiedBy wsX1_zonesWithArc := goodIn_r _ [10, 1, 23] (by decide +kernel) (by decide +kernel)
set_option maxRecDepth 20000 in
theorem gX1_zonesOccupiedBy_X1_zonesWithArc : GoodIn wsX1_zonesOccupiedBy (wsV RX1 25 RX1 yX1_zonesWithArc wsX1_zonesWithArc) := goodIn_app (goodIn_of _ (by decide +kernel)) ggX1_zonesOccupiedBy_X1_zonesWithArc
set_option maxRecDepth 20000 in
theorem ggX1_zonesOccupiedBy_X1_zonesAtAngle : GoodIn wsX1_zonesOccupiedBy wsX1_zonesAtAngle := goodIn_r _ [14, 1, 23] (by decide +kernel) (by decide +kernel)
set_option maxRecDepth 20000 in
theorem gX1_zonesOccupiedBy_X1_zonesAtAngle : GoodIn wsX1_zonesOccupiedBy (wsV RX1 54 RX1 yX1_zonesAtAngle wsX1_zonesAtAngle) := goodIn_app (goodIn_of _ (by decide +kernel)) ggX1_zonesOccupiedBy_X1_zonesAtAngle
set_option maxRecDepth 20000 in
theorem ggX1_zonesOccupiedBy_X1_isOnStep : GoodIn wsX1_zonesOccupiedBy wsX1_isOnStep := goodIn_r _ [18, 1, 23] (by decide +kernel) (by decide +kernel)
set_option maxRecDepth 20000 in
theorem gX1_zonesOccupiedBy_X1_isOnStep : GoodIn wsX1_zonesOccupiedBy (wsV RX1 28 RX1 yX1_isOnStep wsX1_isOnStep) := goodIn_app (goodIn_of _ (by decide +kernel)) ggX1_zonesOccupiedBy_X1_isOnStep
set_option maxRecDepth 20000 in
theorem ggX1_zonesOccupiedBy_X1_nextAngle : GoodIn wsX1_zonesOccupiedBy wsX1_nextAngle := goodIn_r _ [22, 1, 23] (by decide +kernel) (by decide +kernel)
set_option maxRecDepth 20000 in
theorem gX1_zonesOccupiedBy_X1_nextAngle : GoodIn wsX1_zonesOccupiedBy (wsV RX1 57 RX1 yX1_nextAngle wsX1_nextAngle) := goodIn_app (goodIn_of _ (by decide +kernel)) ggX1_zonesOccupiedBy_X1_nextAngle
theorem dX1_zonesOccupiedBy_0 : decode cX1_zonesOccupiedBy 0 = .ok (.aload_n 0, 1) := by decide +kernel
theorem dX1_zonesOccupiedBy_1 : decode cX1_zonesOccupiedBy 1 = .ok (.iload_n 1, 1) := by decide +kernel
theorem dX1_zonesOccupiedBy_2 : decode cX1_zonesOccupiedBy 2 = .ok (.invokevirtual 35, 3) := by decide +kernel
theorem dX1_zonesOccupiedBy_5 : decode cX1_zonesOccupiedBy 5 = .ok (.ifCond .eq 9, 3) := by decide +kernel
theorem dX1_zonesOccupiedBy_8 : decode cX1_zonesOccupiedBy 8 = .ok (.aload_n 0, 1) := by decide +kernel
theorem dX1_zonesOccupiedBy_9 : decode cX1_zonesOccupiedBy 9 = .ok (.iload_n 1, 1) := by decide +kernel
theorem dX1_zonesOccupiedBy_10 : decode cX1_zonesOccupiedBy 10 = .ok (.invokevirtual 25, 3) := by decide +kernel
theorem dX1_zonesOccupiedBy_13 : decode cX1_zonesOccupiedBy 13 = .ok (.ireturn, 1) := by decide +kernel
theorem dX1_zonesOccupiedBy_14 : decode cX1_zonesOccupiedBy 14 = .ok (.aload_n 0, 1) := by decide +kernel
theorem dX1_zonesOccupiedBy_15 : decode cX1_zonesOccupiedBy 15 = .ok (.iload_n 1, 1) := by decide +kernel
theorem dX1_zonesOccupiedBy_16 : decode cX1_zonesOccupiedBy 16 = .ok (.aload_n 0, 1) := by decide +kernel
theorem dX1_zonesOccupiedBy_17 : decode cX1_zonesOccupiedBy 17 = .ok (.getfield 11, 3) := by decide +kernel
theorem dX1_zonesOccupiedBy_20 : decode cX1_zonesOccupiedBy 20 = .ok (.iconst 4, 1) := by decide +kernel
theorem dX1_zonesOccupiedBy_21 : decode cX1_zonesOccupiedBy 21 = .ok (.iload_n 1, 1) := by decide +kernel
theorem dX1_zonesOccupiedBy_22 : decode cX1_zonesOccupiedBy 22 = .ok (.iadd, 1) := by decide +kernel
theorem dX1_zonesOccupiedBy_23 : decode cX1_zonesOccupiedBy 23 = .ok (.iaload, 1) := by decide +kernel
theorem dX1_zonesOccupiedBy_24 : decode cX1_zonesOccupiedBy 24 = .ok (.invokevirtual 54, 3) := by decide +kernel
theorem dX1_zonesOccupiedBy_27 : decode cX1_zonesOccupiedBy 27 = .ok (.istore_n 2, 1) := by decide +kernel
theorem dX1_zonesOccupiedBy_28 : decode cX1_zonesOccupiedBy 28 = .ok (.aload_n 0, 1) := by decide +kernel
theorem dX1_zonesOccupiedBy_29 : decode cX1_zonesOccupiedBy 29 = .ok (.iload_n 1, 1) := by decide +kernel
theorem dX1_zonesOccupiedBy_30 : decode cX1_zonesOccupiedBy 30 = .ok (.invokevirtual 28, 3) := by decide +kernel
theorem dX1_zonesOccupiedBy_33 : decode cX1_zonesOccupiedBy 33 = .ok (.ifCond .eq 18, 3) := by decide +kernel
theorem dX1_zonesOccupiedBy_36 : decode cX1_zonesOccupiedBy 36 = .ok (.iload_n 2, 1) := by decide +kernel
theorem dX1_zonesOccupiedBy_37 : decode cX1_zonesOccupiedBy 37 = .ok (.aload_n 0, 1) := by decide +kernel
theorem dX1_zonesOccupiedBy_38 : decode cX1_zonesOccupiedBy 38 = .ok (.iload_n 1, 1) := by decide +kernel
theorem dX1_zonesOccupiedBy_39 : decode cX1_zonesOccupiedBy 39 = .ok (.aload_n 0, 1) := by decide +kernel
theorem dX1_zonesOccupiedBy_40 : decode cX1_zonesOccupiedBy 40 = .ok (.iload_n 1, 1) := by decide +kernel
theorem dX1_zonesOccupiedBy_41 : decode cX1_zonesOccupiedBy 41 = .ok (.invokevirtual 57, 3) := by decide +kernel
theorem dX1_zonesOccupiedBy_44 : decode cX1_zonesOccupiedBy 44 = .ok (.invokevirtual 54, 3) := by decide +kernel
theorem dX1_zonesOccupiedBy_47 : decode cX1_zonesOccupiedBy 47 = .ok (.ior, 1) := by decide +kernel
theorem dX1_zonesOccupiedBy_48 : decode cX1_zonesOccupiedBy 48 = .ok (.goto 4, 3) := by decide +kernel
theorem dX1_zonesOccupiedBy_51 : decode cX1_zonesOccupiedBy 51 = .ok (.iload_n 2, 1) := by decide +kernel
theorem dX1_zonesOccupiedBy_52 : decode cX1_zonesOccupiedBy 52 = .ok (.ireturn, 1) := by decide +kernel
set_option maxRecDepth 20000 in
theorem ggX1_occupantsOf_X1_zonesOccupiedBy : GoodIn wsX1_occupantsOf wsX1_zonesOccupiedBy := goodIn_r _ [6, 1, 7, 8, 9, 5, 10, 11, 12, 13, 14, 15, 16, 17, 18, 19, 20, 21, 22, 23, 24, 25, 26, 27] (by decide +kernel) (by decide +kernel)
set_option maxRecDepth 20000 in
theorem gX1_occupantsOf_X1_zonesOccupiedBy : GoodIn wsX1_occupantsOf (wsV RX1 21 RX1 yX1_zonesOccupiedBy wsX1_zonesOccupiedBy) := goodIn_app (goodIn_of _ (by decide +kernel)) ggX1_occupantsOf_X1_zonesOccupiedBy
theorem dX1_occupantsOf_0 : decode cX1_occupantsOf 0 = .ok (.iconst 0, 1) := by decide +kernel
theorem dX1_occupantsOf_1 : decode cX1_occupantsOf 1 = .ok (.istore_n 2, 1) := by decide +kernel
theorem dX1_occupantsOf_2 : decode cX1_occupantsOf 2 = .ok (.iconst 0, 1) := by decide +kernel
theorem dX1_occupantsOf_3 : decode cX1_occupantsOf 3 = .ok (.istore_n 3, 1) := by decide +kernel
theorem dX1_occupantsOf_4 : decode cX1_occupantsOf 4 = .ok (.iload_n 3, 1) := by decide +kernel
theorem dX1_occupantsOf_5 : decode cX1_occupantsOf 5 = .ok (.aload_n 0, 1) := by decide +kernel
theorem dX1_occupantsOf_6 : decode cX1_occupantsOf 6 = .ok (.getfield 11, 3) := by decide +kernel
theorem dX1_occupantsOf_9 : decode cX1_occupantsOf 9 = .ok (.iconst 2, 1) := by decide +kernel
theorem dX1_occupantsOf_10 : decode cX1_occupantsOf 10 = .ok (.iaload, 1) := by decide +kernel
theorem dX1_occupantsOf_11 : decode cX1_occupantsOf 11 = .ok (.if_icmp .ge 27, 3) := by decide +kernel
theorem dX1_occupantsOf_14 : decode cX1_occupantsOf 14 = .ok (.aload_n 0, 1) := by decide +kernel
theorem dX1_occupantsOf_15 : decode cX1_occupantsOf 15 = .ok (.iload_n 3, 1) := by decide +kernel
theorem dX1_occupantsOf_16 : decode cX1_occupantsOf 16 = .ok (.invokevirtual 21, 3) := by decide +kernel
theorem dX1_occupantsOf_19 : decode cX1_occupantsOf 19 = .ok (.iconst 1, 1) := by decide +kernel
theorem dX1_occupantsOf_20 : decode cX1_occupantsOf 20 = .ok (.iload_n 1, 1) := by decide +kernel
theorem dX1_occupantsOf_21 : decode cX1_occupantsOf 21 = .ok (.ishl, 1) := by decide +kernel
theorem dX1_occupantsOf_22 : decode cX1_occupantsOf 22 = .ok (.iand, 1) := by decide +kernel
theorem dX1_occupantsOf_23 : decode cX1_occupantsOf 23 = .ok (.ifCond .eq 9, 3) := by decide +kernel
theorem dX1_occupantsOf_26 : decode cX1_occupantsOf 26 = .ok (.iload_n 2, 1) := by decide +kernel
theorem dX1_occupantsOf_27 : decode cX1_occupantsOf 27 = .ok (.iconst 1, 1) := by decide +kernel
theorem dX1_occupantsOf_28 : decode cX1_occupantsOf 28 = .ok (.iload_n 3, 1) := by decide +kernel
theorem dX1_occupantsOf_29 : decode cX1_occupantsOf 29 = .ok (.ishl, 1) := by decide +kernel
theorem dX1_occupantsOf_30 : decode cX1_occupantsOf 30 = .ok (.ior, 1) := by decide +kernel
theorem dX1_occupantsOf_31 : decode cX1_occupantsOf 31 = .ok (.istore_n 2, 1) := by decide +kernel
theorem dX1_occupantsOf_32 : decode cX1_occupantsOf 32 = .ok (.iinc 3 1, 3) := by decide +kernel
theorem dX1_occupantsOf_35 : decode cX1_occupantsOf 35 = .ok (.goto (-31), 3) := by decide +kernel
theorem dX1_occupantsOf_38 : decode cX1_occupantsOf 38 = .ok (.iload_n 2, 1) := by decide +kernel
theorem dX1_occupantsOf_39 : decode cX1_occupantsOf 39 = .ok (.ireturn, 1) := by decide +kernel
set_option maxRecDepth 20000 in
theorem ggX1_isConflict_X1_occupantsOf : GoodIn wsX1_isConflict wsX1_occupantsOf := goodIn_r _ [5, 6, 7, 8, 9, 4, 10, 11, 12, 13, 14, 15, 16, 17, 18, 19, 20, 21, 22, 23, 24, 25, 26, 27, 28, 29, 30, 38] (by decide +kernel) (by decide +kernel)
set_option maxRecDepth 20000 in
theorem gX1_isConflict_X1_occupantsOf : GoodIn wsX1_isConflict (wsV RX1 60 RX1 yX1_occupantsOf wsX1_occupantsOf) := goodIn_app (goodIn_of _ (by decide +kernel)) ggX1_isConflict_X1_occupantsOf
set_option maxRecDepth 20000 in
theorem ggX1_isConflict_J6_bitCount_0f7a4 : GoodIn wsX1_isConflict wsJ6_bitCount_0f7a4 := goodIn_r _ [34, 35, 36, 37] (by decide +kernel) (by decide +kernel)
set_option maxRecDepth 20000 in
theorem gX1_isConflict_J6_bitCount_0f7a4 : GoodIn wsX1_isConflict (va_wsS RX1 63 yJ6_bitCount_0f7a4 wsJ6_bitCount_0f7a4) := goodIn_app (goodIn_of _ (by decide +kernel)) ggX1_isConflict_J6_bitCount_0f7a4
theorem dX1_isConflict_0 : decode cX1_isConflict 0 = .ok (.aload_n 0, 1) := by decide +kernel
theorem dX1_isConflict_1 : decode cX1_isConflict 1 = .ok (.iload_n 1, 1) := by decide +kernel
theorem dX1_isConflict_2 : decode cX1_isConflict 2 = .ok (.invokevirtual 60, 3) := by decide +kernel
theorem dX1_isConflict_5 : decode cX1_isConflict 5 = .ok (.invokestatic 63, 3) := by decide +kernel
theorem dX1_isConflict_8 : decode cX1_isConflict 8 = .ok (.iconst 1, 1) := by decide +kernel
theorem dX1_isConflict_9 : decode cX1_isConflict 9 = .ok (.if_icmp .le 7, 3) := by decide +kernel
theorem dX1_isConflict_12 : decode cX1_isConflict 12 = .ok (.iconst 1, 1) := by decide +kernel
theorem dX1_isConflict_13 : decode cX1_isConflict 13 = .ok (.goto 4, 3) := by decide +kernel
theorem dX1_isConflict_16 : decode cX1_isConflict 16 = .ok (.iconst 0, 1) := by decide +kernel
theorem dX1_isConflict_17 : decode cX1_isConflict 17 = .ok (.ireturn, 1) := by decide +kernel
set_option maxRecDepth 20000 in
theorem ggX1_conflictSet_X1_isConflict : GoodIn wsX1_conflictSet wsX1_isConflict := goodIn_r _ [5, 6, 7, 8, 4, 9, 10, 11, 12, 13, 14, 15, 16, 17, 18, 19, 20, 21, 22, 23, 24, 25, 26, 27, 28, 29, 30, 31, 32, 33, 34, 35, 36, 37, 38, 39, 40, 41, 42] (by decide +kernel) (by decide +kernel)
set_option maxRecDepth 20000 in
theorem gX1_conflictSet_X1_isConflict : GoodIn wsX1_conflictSet (wsV RX1 68 RX1 yX1_isConflict wsX1_isConflict) := goodIn_app (goodIn_of _ (by decide +kernel)) ggX1_conflictSet_X1_isConflict
theorem dX1_conflictSet_0 : decode cX1_conflictSet 0 = .ok (.iconst 0, 1) := by decide +kernel
theorem dX1_conflictSet_1 : decode cX1_conflictSet 1 = .ok (.istore_n 1, 1) := by decide +kernel
theorem dX1_conflictSet_2 : decode cX1_conflictSet 2 = .ok (.iconst 0, 1) := by decide +kernel
theorem dX1_conflictSet_3 : decode cX1_conflictSet 3 = .ok (.istore_n 2, 1) := by decide +kernel
theorem dX1_conflictSet_4 : decode cX1_conflictSet 4 = .ok (.iload_n 2, 1) := by decide +kernel
theorem dX1_conflictSet_5 : decode cX1_conflictSet 5 = .ok (.bipush 6, 2) := by decide +kernel
theorem dX1_conflictSet_7 : decode cX1_conflictSet 7 = .ok (.if_icmp .ge 23, 3) := by decide +kernel
theorem dX1_conflictSet_10 : decode cX1_conflictSet 10 = .ok (.aload_n 0, 1) := by decide +kernel
theorem dX1_conflictSet_11 : decode cX1_conflictSet 11 = .ok (.iload_n 2, 1) := by decide +kernel
theorem dX1_conflictSet_12 : decode cX1_conflictSet 12 = .ok (.invokevirtual 68, 3) := by decide +kernel
theorem dX1_conflictSet_15 : decode cX1_conflictSet 15 = .ok (.ifCond .eq 9, 3) := by decide +kernel
theorem dX1_conflictSet_18 : decode cX1_conflictSet 18 = .ok (.iload_n 1, 1) := by decide +kernel
theorem dX1_conflictSet_19 : decode cX1_conflictSet 19 = .ok (.iconst 1, 1) := by decide +kernel
theorem dX1_conflictSet_20 : decode cX1_conflictSet 20 = .ok (.iload_n 2, 1) := by decide +kernel
theorem dX1_conflictSet_21 : decode cX1_conflictSet 21 = .ok (.ishl, 1) := by decide +kernel
theorem dX1_conflictSet_22 : decode cX1_conflictSet 22 = .ok (.ior, 1) := by decide +kernel
theorem dX1_conflictSet_23 : decode cX1_conflictSet 23 = .ok (.istore_n 1, 1) := by decide +kernel
theorem dX1_conflictSet_24 : decode cX1_conflictSet 24 = .ok (.iinc 2 1, 3) := by decide +kernel
theorem dX1_conflictSet_27 : decode cX1_conflictSet 27 = .ok (.goto (-23), 3) := by decide +kernel
theorem dX1_conflictSet_30 : decode cX1_conflictSet 30 = .ok (.iload_n 1, 1) := by decide +kernel
theorem dX1_conflictSet_31 : decode cX1_conflictSet 31 = .ok (.ireturn, 1) := by decide +kernel
set_option maxRecDepth 20000 in
theorem ggX1_passTick_X1_turnJib : GoodIn wsX1_passTick wsX1_turnJib := goodIn_r _ [6, 1, 7, 8, 9, 5, 10, 11, 12, 13, 14, 15, 16, 17, 18, 19, 20, 21, 22, 23, 24, 25, 26, 27, 28, 29, 30, 31, 32, 33, 34, 35, 36, 37, 38, 39, 40, 41, 42, 43, 44, 45, 46, 47, 48, 49, 50, 51, 52, 53, 54, 55, 56, 57] (by decide +kernel) (by decide +kernel)
set_option maxRecDepth 20000 in
theorem gX1_passTick_X1_turnJib : GoodIn wsX1_passTick (wsV RX1 71 RX1 yX1_turnJib wsX1_turnJib) := goodIn_app (goodIn_of _ (by decide +kernel)) ggX1_passTick_X1_turnJib
theorem dX1_passTick_0 : decode cX1_passTick 0 = .ok (.iconst 0, 1) := by decide +kernel
theorem dX1_passTick_1 : decode cX1_passTick 1 = .ok (.istore_n 1, 1) := by decide +kernel
theorem dX1_passTick_2 : decode cX1_passTick 2 = .ok (.bipush 9, 2) := by decide +kernel
theorem dX1_passTick_4 : decode cX1_passTick 4 = .ok (.istore_n 2, 1) := by decide +kernel
theorem dX1_passTick_5 : decode cX1_passTick 5 = .ok (.iload_n 2, 1) := by decide +kernel
theorem dX1_passTick_6 : decode cX1_passTick 6 = .ok (.ifCond .lt 50, 3) := by decide +kernel
theorem dX1_passTick_9 : decode cX1_passTick 9 = .ok (.iconst 0, 1) := by decide +kernel
theorem dX1_passTick_10 : decode cX1_passTick 10 = .ok (.istore_n 3, 1) := by decide +kernel
theorem dX1_passTick_11 : decode cX1_passTick 11 = .ok (.iload_n 3, 1) := by decide +kernel
theorem dX1_passTick_12 : decode cX1_passTick 12 = .ok (.aload_n 0, 1) := by decide +kernel
theorem dX1_passTick_13 : decode cX1_passTick 13 = .ok (.getfield 11, 3) := by decide +kernel
theorem dX1_passTick_16 : decode cX1_passTick 16 = .ok (.iconst 2, 1) := by decide +kernel
theorem dX1_passTick_17 : decode cX1_passTick 17 = .ok (.iaload, 1) := by decide +kernel
theorem dX1_passTick_18 : decode cX1_passTick 18 = .ok (.if_icmp .ge 32, 3) := by decide +kernel
theorem dX1_passTick_21 : decode cX1_passTick 21 = .ok (.aload_n 0, 1) := by decide +kernel
theorem dX1_passTick_22 : decode cX1_passTick 22 = .ok (.getfield 11, 3) := by decide +kernel
