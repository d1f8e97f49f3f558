theorem dX2_readAngle_70 : decode cX2_readAngle 70 = .ok (.iinc 2 1, 3) := by decide +kernel
theorem dX2_readAngle_73 : decode cX2_readAngle 73 = .ok (.aload_n 0, 1) := by decide +kernel
theorem dX2_readAngle_74 : decode cX2_readAngle 74 = .ok (.dup, 1) := by decide +kernel
theorem dX2_readAngle_75 : decode cX2_readAngle 75 = .ok (.getfield 19, 3) := by decide +kernel
theorem dX2_readAngle_78 : decode cX2_readAngle 78 = .ok (.iconst 1, 1) := by decide +kernel
theorem dX2_readAngle_79 : decode cX2_readAngle 79 = .ok (.iadd, 1) := by decide +kernel
theorem dX2_readAngle_80 : decode cX2_readAngle 80 = .ok (.putfield 19, 3) := by decide +kernel
theorem dX2_readAngle_83 : decode cX2_readAngle 83 = .ok (.goto (-79), 3) := by decide +kernel
theorem dX2_readAngle_86 : decode cX2_readAngle 86 = .ok (.iload_n 2, 1) := by decide +kernel
theorem dX2_readAngle_87 : decode cX2_readAngle 87 = .ok (.iconst 1, 1) := by decide +kernel
theorem dX2_readAngle_88 : decode cX2_readAngle 88 = .ok (.if_icmp .lt 19, 3) := by decide +kernel
theorem dX2_readAngle_91 : decode cX2_readAngle 91 = .ok (.iload_n 2, 1) := by decide +kernel
theorem dX2_readAngle_92 : decode cX2_readAngle 92 = .ok (.iconst 2, 1) := by decide +kernel
theorem dX2_readAngle_93 : decode cX2_readAngle 93 = .ok (.if_icmp .gt 14, 3) := by decide +kernel
theorem dX2_readAngle_96 : decode cX2_readAngle 96 = .ok (.iload_n 1, 1) := by decide +kernel
theorem dX2_readAngle_97 : decode cX2_readAngle 97 = .ok (.invokestatic 64, 3) := by decide +kernel
theorem dX2_readAngle_100 : decode cX2_readAngle 100 = .ok (.ifCond .eq 7, 3) := by decide +kernel
theorem dX2_readAngle_103 : decode cX2_readAngle 103 = .ok (.iload_n 1, 1) := by decide +kernel
theorem dX2_readAngle_104 : decode cX2_readAngle 104 = .ok (.goto 4, 3) := by decide +kernel
theorem dX2_readAngle_107 : decode cX2_readAngle 107 = .ok (.iconst (-1), 1) := by decide +kernel
theorem dX2_readAngle_108 : decode cX2_readAngle 108 = .ok (.ireturn, 1) := by decide +kernel
set_option maxRecDepth 20000 in
theorem ggX3_init_X1_init : GoodIn wsX3_init wsX1_init := goodIn_r _ [19, 20, 2, 3, 21, 22, 39] (by decide +kernel) (by decide +kernel)
set_option maxRecDepth 20000 in
theorem gX3_init_X1_init : GoodIn wsX3_init (wsX1_init) := ggX3_init_X1_init
set_option maxRecDepth 20000 in
theorem ggX3_init_X0_init : GoodIn wsX3_init wsX0_init := goodIn_r _ [24, 25, 2, 3, 21, 26, 27, 28, 44, 45, 46] (by decide +kernel) (by decide +kernel)
set_option maxRecDepth 20000 in
theorem gX3_init_X0_init_n21 : GoodIn wsX3_init (wsX0_init) := ggX3_init_X0_init
set_option maxRecDepth 20000 in
theorem ggX3_init_X2_init : GoodIn wsX3_init wsX2_init := goodIn_r _ [30, 31, 2, 3, 21, 32, 33, 34, 35, 36, 37, 38, 47, 48, 49, 50, 51, 52, 53] (by decide +kernel) (by decide +kernel)
set_option maxRecDepth 20000 in
theorem gX3_init_X2_init_n28 : GoodIn wsX3_init (wsX2_init) := ggX3_init_X2_init
theorem dX3_init_0 : decode cX3_init 0 = .ok (.aload_n 0, 1) := by decide +kernel
theorem dX3_init_1 : decode cX3_init 1 = .ok (.invokespecial 1, 3) := by decide +kernel
theorem dX3_init_4 : decode cX3_init 4 = .ok (.aload_n 0, 1) := by decide +kernel
theorem dX3_init_5 : decode cX3_init 5 = .ok (.new 7, 3) := by decide +kernel
theorem dX3_init_8 : decode cX3_init 8 = .ok (.dup, 1) := by decide +kernel
theorem dX3_init_9 : decode cX3_init 9 = .ok (.invokespecial 9, 3) := by decide +kernel
theorem dX3_init_12 : decode cX3_init 12 = .ok (.putfield 10, 3) := by decide +kernel
theorem dX3_init_15 : decode cX3_init 15 = .ok (.aload_n 0, 1) := by decide +kernel
theorem dX3_init_16 : decode cX3_init 16 = .ok (.new 7, 3) := by decide +kernel
theorem dX3_init_19 : decode cX3_init 19 = .ok (.dup, 1) := by decide +kernel
theorem dX3_init_20 : decode cX3_init 20 = .ok (.invokespecial 9, 3) := by decide +kernel
theorem dX3_init_23 : decode cX3_init 23 = .ok (.putfield 16, 3) := by decide +kernel
theorem dX3_init_26 : decode cX3_init 26 = .ok (.aload_n 0, 1) := by decide +kernel
theorem dX3_init_27 : decode cX3_init 27 = .ok (.new 19, 3) := by decide +kernel
theorem dX3_init_30 : decode cX3_init 30 = .ok (.dup, 1) := by decide +kernel
theorem dX3_init_31 : decode cX3_init 31 = .ok (.invokespecial 21, 3) := by decide +kernel
theorem dX3_init_34 : decode cX3_init 34 = .ok (.putfield 22, 3) := by decide +kernel
theorem dX3_init_37 : decode cX3_init 37 = .ok (.aload_n 0, 1) := by decide +kernel
theorem dX3_init_38 : decode cX3_init 38 = .ok (.new 26, 3) := by decide +kernel
theorem dX3_init_41 : decode cX3_init 41 = .ok (.dup, 1) := by decide +kernel
theorem dX3_init_42 : decode cX3_init 42 = .ok (.invokespecial 28, 3) := by decide +kernel
theorem dX3_init_45 : decode cX3_init 45 = .ok (.putfield 29, 3) := by decide +kernel
theorem dX3_init_48 : decode cX3_init 48 = .ok (.return_, 1) := by decide +kernel
set_option maxRecDepth 20000 in
theorem ggX3_addCrane_X3_isAngle : GoodIn wsX3_addCrane wsX3_isAngle := goodIn_r _ [6] (by decide +kernel) (by decide +kernel)
set_option maxRecDepth 20000 in
theorem gX3_addCrane_X3_isAngle : GoodIn wsX3_addCrane (va_wsS RX3 33 yX3_isAngle wsX3_isAngle) := goodIn_app (goodIn_of _ (by decide +kernel)) ggX3_addCrane_X3_isAngle
set_option maxRecDepth 20000 in
theorem ggX3_addCrane_X3_isPriority : GoodIn wsX3_addCrane wsX3_isPriority := goodIn_r _ [9] (by decide +kernel) (by decide +kernel)
set_option maxRecDepth 20000 in
theorem gX3_addCrane_X3_isPriority : GoodIn wsX3_addCrane (va_wsS RX3 37 yX3_isPriority wsX3_isPriority) := goodIn_app (goodIn_of _ (by decide +kernel)) ggX3_addCrane_X3_isPriority
set_option maxRecDepth 20000 in
theorem ggX3_addCrane_X1_craneCount : GoodIn wsX3_addCrane wsX1_craneCount := goodIn_r _ [14, 15, 44] (by decide +kernel) (by decide +kernel)
set_option maxRecDepth 20000 in
theorem gX3_addCrane_X1_craneCount : GoodIn wsX3_addCrane (wsV RX3 40 RX1 yX1_craneCount wsX1_craneCount) := goodIn_app (goodIn_of _ (by decide +kernel)) ggX3_addCrane_X1_craneCount
set_option maxRecDepth 20000 in
theorem ggX3_addCrane_X0_keep : GoodIn wsX3_addCrane wsX0_keep := goodIn_r _ [20, 21, 22, 23, 24, 25, 26, 27, 28, 29, 30, 13, 31, 15, 32, 33, 34, 35, 45, 46, 47, 44] (by decide +kernel) (by decide +kernel)
set_option maxRecDepth 20000 in
theorem gX3_addCrane_X0_keep : GoodIn wsX3_addCrane (wsV RX3 44 RX0 yX0_keep wsX0_keep) := goodIn_app (goodIn_of _ (by decide +kernel)) ggX3_addCrane_X0_keep
set_option maxRecDepth 20000 in
theorem ggX3_addCrane_X1_putCrane : GoodIn wsX3_addCrane wsX1_putCrane := goodIn_r _ [39, 15, 44] (by decide +kernel) (by decide +kernel)
set_option maxRecDepth 20000 in
theorem gX3_addCrane_X1_putCrane : GoodIn wsX3_addCrane (wsV RX3 48 RX1 yX1_putCrane wsX1_putCrane) := goodIn_app (goodIn_of _ (by decide +kernel)) ggX3_addCrane_X1_putCrane
theorem dX3_addCrane_0 : decode cX3_addCrane 0 = .ok (.iload_n 1, 1) := by decide +kernel
theorem dX3_addCrane_1 : decode cX3_addCrane 1 = .ok (.invokestatic 33, 3) := by decide +kernel
theorem dX3_addCrane_4 : decode cX3_addCrane 4 = .ok (.ifCond .eq 20, 3) := by decide +kernel
theorem dX3_addCrane_7 : decode cX3_addCrane 7 = .ok (.iload_n 2, 1) := by decide +kernel
theorem dX3_addCrane_8 : decode cX3_addCrane 8 = .ok (.iconst 1, 1) := by decide +kernel
theorem dX3_addCrane_9 : decode cX3_addCrane 9 = .ok (.if_icmp .lt 15, 3) := by decide +kernel
theorem dX3_addCrane_12 : decode cX3_addCrane 12 = .ok (.iload_n 2, 1) := by decide +kernel
theorem dX3_addCrane_13 : decode cX3_addCrane 13 = .ok (.iconst 5, 1) := by decide +kernel
theorem dX3_addCrane_14 : decode cX3_addCrane 14 = .ok (.if_icmp .gt 10, 3) := by decide +kernel
theorem dX3_addCrane_17 : decode cX3_addCrane 17 = .ok (.iload_n 3, 1) := by decide +kernel
theorem dX3_addCrane_18 : decode cX3_addCrane 18 = .ok (.invokestatic 37, 3) := by decide +kernel
theorem dX3_addCrane_21 : decode cX3_addCrane 21 = .ok (.ifCond .ne 6, 3) := by decide +kernel
theorem dX3_addCrane_24 : decode cX3_addCrane 24 = .ok (.bipush (-102), 2) := by decide +kernel
theorem dX3_addCrane_26 : decode cX3_addCrane 26 = .ok (.ireturn, 1) := by decide +kernel
theorem dX3_addCrane_27 : decode cX3_addCrane 27 = .ok (.aload_n 0, 1) := by decide +kernel
theorem dX3_addCrane_28 : decode cX3_addCrane 28 = .ok (.getfield 10, 3) := by decide +kernel
theorem dX3_addCrane_31 : decode cX3_addCrane 31 = .ok (.invokevirtual 40, 3) := by decide +kernel
theorem dX3_addCrane_34 : decode cX3_addCrane 34 = .ok (.iconst 4, 1) := by decide +kernel
theorem dX3_addCrane_35 : decode cX3_addCrane 35 = .ok (.if_icmp .lt 6, 3) := by decide +kernel
theorem dX3_addCrane_38 : decode cX3_addCrane 38 = .ok (.bipush (-104), 2) := by decide +kernel
theorem dX3_addCrane_40 : decode cX3_addCrane 40 = .ok (.ireturn, 1) := by decide +kernel
theorem dX3_addCrane_41 : decode cX3_addCrane 41 = .ok (.aload_n 0, 1) := by decide +kernel
theorem dX3_addCrane_42 : decode cX3_addCrane 42 = .ok (.getfield 22, 3) := by decide +kernel
theorem dX3_addCrane_45 : decode cX3_addCrane 45 = .ok (.aload_n 0, 1) := by decide +kernel
theorem dX3_addCrane_46 : decode cX3_addCrane 46 = .ok (.getfield 10, 3) := by decide +kernel
theorem dX3_addCrane_49 : decode cX3_addCrane 49 = .ok (.invokevirtual 44, 3) := by decide +kernel
theorem dX3_addCrane_52 : decode cX3_addCrane 52 = .ok (.aload_n 0, 1) := by decide +kernel
theorem dX3_addCrane_53 : decode cX3_addCrane 53 = .ok (.getfield 10, 3) := by decide +kernel
theorem dX3_addCrane_56 : decode cX3_addCrane 56 = .ok (.iload_n 1, 1) := by decide +kernel
theorem dX3_addCrane_57 : decode cX3_addCrane 57 = .ok (.iload_n 2, 1) := by decide +kernel
theorem dX3_addCrane_58 : decode cX3_addCrane 58 = .ok (.iload_n 3, 1) := by decide +kernel
theorem dX3_addCrane_59 : decode cX3_addCrane 59 = .ok (.invokevirtual 48, 3) := by decide +kernel
theorem dX3_addCrane_62 : decode cX3_addCrane 62 = .ok (.ireturn, 1) := by decide +kernel
set_option maxRecDepth 20000 in
theorem ggX3_setPriority_X1_hasCrane : GoodIn wsX3_setPriority wsX1_hasCrane := goodIn_r _ [7, 8, 41] (by decide +kernel) (by decide +kernel)
set_option maxRecDepth 20000 in
theorem gX3_setPriority_X1_hasCrane : GoodIn wsX3_setPriority (wsV RX3 52 RX1 yX1_hasCrane wsX1_hasCrane) := goodIn_app (goodIn_of _ (by decide +kernel)) ggX3_setPriority_X1_hasCrane
set_option maxRecDepth 20000 in
theorem ggX3_setPriority_X3_isPriority : GoodIn wsX3_setPriority wsX3_isPriority := goodIn_r _ [12] (by decide +kernel) (by decide +kernel)
set_option maxRecDepth 20000 in
theorem gX3_setPriority_X3_isPriority : GoodIn wsX3_setPriority (va_wsS RX3 37 yX3_isPriority wsX3_isPriority) := goodIn_app (goodIn_of _ (by decide +kernel)) ggX3_setPriority_X3_isPriority
set_option maxRecDepth 20000 in
theorem ggX3_setPriority_X0_keep : GoodIn wsX3_setPriority wsX0_keep := goodIn_r _ [17, 18, 19, 20, 21, 22, 23, 24, 25, 26, 27, 6, 28, 8, 29, 30, 31, 32, 42, 43, 44, 41] (by decide +kernel) (by decide +kernel)
set_option maxRecDepth 20000 in
theorem gX3_setPriority_X0_keep : GoodIn wsX3_setPriority (wsV RX3 44 RX0 yX0_keep wsX0_keep) := goodIn_app (goodIn_of _ (by decide +kernel)) ggX3_setPriority_X0_keep
set_option maxRecDepth 20000 in
theorem ggX3_setPriority_X1_changePriority : GoodIn wsX3_setPriority wsX1_changePriority := goodIn_r _ [36, 8, 41] (by decide +kernel) (by decide +kernel)
set_option maxRecDepth 20000 in
theorem gX3_setPriority_X1_changePriority : GoodIn wsX3_setPriority (wsV RX3 55 RX1 yX1_changePriority wsX1_changePriority) := goodIn_app (goodIn_of _ (by decide +kernel)) ggX3_setPriority_X1_changePriority
theorem dX3_setPriority_0 : decode cX3_setPriority 0 = .ok (.aload_n 0, 1) := by decide +kernel
theorem dX3_setPriority_1 : decode cX3_setPriority 1 = .ok (.getfield 10, 3) := by decide +kernel
theorem dX3_setPriority_4 : decode cX3_setPriority 4 = .ok (.iload_n 1, 1) := by decide +kernel
theorem dX3_setPriority_5 : decode cX3_setPriority 5 = .ok (.invokevirtual 52, 3) := by decide +kernel
theorem dX3_setPriority_8 : decode cX3_setPriority 8 = .ok (.ifCond .ne 6, 3) := by decide +kernel
theorem dX3_setPriority_11 : decode cX3_setPriority 11 = .ok (.bipush (-101), 2) := by decide +kernel
theorem dX3_setPriority_13 : decode cX3_setPriority 13 = .ok (.ireturn, 1) := by decide +kernel
theorem dX3_setPriority_14 : decode cX3_setPriority 14 = .ok (.iload_n 2, 1) := by decide +kernel
theorem dX3_setPriority_15 : decode cX3_setPriority 15 = .ok (.invokestatic 37, 3) := by decide +kernel
theorem dX3_setPriority_18 : decode cX3_setPriority 18 = .ok (.ifCond .ne 6, 3) := by decide +kernel
theorem dX3_setPriority_21 : decode cX3_setPriority 21 = .ok (.bipush (-102), 2) := by decide +kernel
theorem dX3_setPriority_23 : decode cX3_setPriority 23 = .ok (.ireturn, 1) := by decide +kernel
theorem dX3_setPriority_24 : decode cX3_setPriority 24 = .ok (.aload_n 0, 1) := by decide +kernel
theorem dX3_setPriority_25 : decode cX3_setPriority 25 = .ok (.getfield 22, 3) := by decide +kernel
theorem dX3_setPriority_28 : decode cX3_setPriority 28 = .ok (.aload_n 0, 1) := by decide +kernel
theorem dX3_setPriority_29 : decode cX3_setPriority 29 = .ok (.getfield 10, 3) := by decide +kernel
theorem dX3_setPriority_32 : decode cX3_setPriority 32 = .ok (.invokevirtual 44, 3) := by decide +kernel
theorem dX3_setPriority_35 : decode cX3_setPriority 35 = .ok (.aload_n 0, 1) := by decide +kernel
theorem dX3_setPriority_36 : decode cX3_setPriority 36 = .ok (.getfield 10, 3) := by decide +kernel
theorem dX3_setPriority_39 : decode cX3_setPriority 39 = .ok (.iload_n 1, 1) := by decide +kernel
theorem dX3_setPriority_40 : decode cX3_setPriority 40 = .ok (.iload_n 2, 1) := by decide +kernel
theorem dX3_setPriority_41 : decode cX3_setPriority 41 = .ok (.invokevirtual 55, 3) := by decide +kernel
theorem dX3_setPriority_44 : decode cX3_setPriority 44 = .ok (.ireturn, 1) := by decide +kernel
set_option maxRecDepth 20000 in
theorem ggX3_setArc_X1_hasCrane : GoodIn wsX3_setArc wsX1_hasCrane := goodIn_r _ [7, 8, 96] (by decide +kernel) (by decide +kernel)
set_option maxRecDepth 20000 in
theorem gX3_setArc_X1_hasCrane : GoodIn wsX3_setArc (wsV RX3 52 RX1 yX1_hasCrane wsX1_hasCrane) := goodIn_app (goodIn_of _ (by decide +kernel)) ggX3_setArc_X1_hasCrane
set_option maxRecDepth 20000 in
theorem ggX3_setArc_X3_isZone : GoodIn wsX3_setArc wsX3_isZone := goodIn_r _ [12] (by decide +kernel) (by decide +kernel)
set_option maxRecDepth 20000 in
theorem gX3_setArc_X3_isZone : GoodIn wsX3_setArc (va_wsS RX3 59 yX3_isZone wsX3_isZone) := goodIn_app (goodIn_of _ (by decide +kernel)) ggX3_setArc_X3_isZone
set_option maxRecDepth 20000 in
theorem ggX3_setArc_X3_isAngle : GoodIn wsX3_setArc wsX3_isAngle := goodIn_r _ [15] (by decide +kernel) (by decide +kernel)
set_option maxRecDepth 20000 in
theorem gX3_setArc_X3_isAngle : GoodIn wsX3_setArc (va_wsS RX3 33 yX3_isAngle wsX3_isAngle) := goodIn_app (goodIn_of _ (by decide +kernel)) ggX3_setArc_X3_isAngle
set_option maxRecDepth 20000 in
theorem ggX3_setArc_X1_isLeft : GoodIn wsX3_setArc wsX1_isLeft := goodIn_r _ [19, 8, 96] (by decide +kernel) (by decide +kernel)
set_option maxRecDepth 20000 in
theorem gX3_setArc_X1_isLeft : GoodIn wsX3_setArc (wsV RX3 62 RX1 yX1_isLeft wsX1_isLeft) := goodIn_app (goodIn_of _ (by decide +kernel)) ggX3_setArc_X1_isLeft
set_option maxRecDepth 20000 in
theorem ggX3_setArc_X3_wouldMakeConflict : GoodIn wsX3_setArc wsX3_wouldMakeConflict := goodIn_r _ [23, 24, 1, 25, 26, 27, 6, 28, 8, 29, 30, 31, 32, 33, 34, 35, 36, 37, 38, 39, 40, 41, 42, 43, 44, 45, 46, 47, 48, 49, 17, 18, 19, 50, 51, 52, 53, 54, 55, 56, 57, 58, 59, 60, 61, 62, 63, 64, 65, 66, 67, 68, 69, 70, 71, 72, 92, 93, 94, 95, 96] (by decide +kernel) (by decide +kernel)
set_option maxRecDepth 20000 in
theorem gX3_setArc_X3_wouldMakeConflict : GoodIn wsX3_setArc (wsV RX3 65 RX3 yX3_wouldMakeConflict wsX3_wouldMakeConflict) := goodIn_app (goodIn_of _ (by decide +kernel)) ggX3_setArc_X3_wouldMakeConflict
set_option maxRecDepth 20000 in
theorem ggX3_setArc_X0_keep : GoodIn wsX3_setArc wsX0_keep := goodIn_r _ [77, 78, 79, 80, 81, 82, 83, 84, 85, 86, 87, 6, 88, 8, 29, 30, 31, 32, 97, 98, 99, 96] (by decide +kernel) (by decide +kernel)
set_option maxRecDepth 20000 in
theorem gX3_setArc_X0_keep : GoodIn wsX3_setArc (wsV RX3 44 RX0 yX0_keep wsX0_keep) := goodIn_app (goodIn_of _ (by decide +kernel)) ggX3_setArc_X0_keep
set_option maxRecDepth 20000 in
theorem ggX3_setArc_X1_setLimits : GoodIn wsX3_setArc wsX1_setLimits := goodIn_r _ [36, 8, 96] (by decide +kernel) (by decide +kernel)
set_option maxRecDepth 20000 in
theorem gX3_setArc_X1_setLimits : GoodIn wsX3_setArc (wsV RX3 69 RX1 yX1_setLimits wsX1_setLimits) := goodIn_app (goodIn_of _ (by decide +kernel)) ggX3_setArc_X1_setLimits
set_option maxRecDepth 20000 in
theorem ggX3_setArc_X3_stepsClockwise : GoodIn wsX3_setArc wsX3_stepsClockwise := goodIn_r _ [91] (by decide +kernel) (by decide +kernel)
set_option maxRecDepth 20000 in
theorem gX3_setArc_X3_stepsClockwise : GoodIn wsX3_setArc (va_wsS RX3 73 yX3_stepsClockwise wsX3_stepsClockwise) := goodIn_app (goodIn_of _ (by decide +kernel)) ggX3_setArc_X3_stepsClockwise
theorem dX3_setArc_0 : decode cX3_setArc 0 = .ok (.aload_n 0, 1) := by decide +kernel
theorem dX3_setArc_1 : decode cX3_setArc 1 = .ok (.getfield 10, 3) := by decide +kernel
theorem dX3_setArc_4 : decode cX3_setArc 4 = .ok (.iload_n 1, 1) := by decide +kernel
theorem dX3_setArc_5 : decode cX3_setArc 5 = .ok (.invokevirtual 52, 3) := by decide +kernel
theorem dX3_setArc_8 : decode cX3_setArc 8 = .ok (.ifCond .eq 10, 3) := by decide +kernel
theorem dX3_setArc_11 : decode cX3_setArc 11 = .ok (.iload_n 2, 1) := by decide +kernel
theorem dX3_setArc_12 : decode cX3_setArc 12 = .ok (.invokestatic 59, 3) := by decide +kernel
theorem dX3_setArc_15 : decode cX3_setArc 15 = .ok (.ifCond .ne 6, 3) := by decide +kernel
theorem dX3_setArc_18 : decode cX3_setArc 18 = .ok (.bipush (-101), 2) := by decide +kernel
theorem dX3_setArc_20 : decode cX3_setArc 20 = .ok (.ireturn, 1) := by decide +kernel
theorem dX3_setArc_21 : decode cX3_setArc 21 = .ok (.iload_n 3, 1) := by decide +kernel
theorem dX3_setArc_22 : decode cX3_setArc 22 = .ok (.invokestatic 33, 3) := by decide +kernel
theorem dX3_setArc_25 : decode cX3_setArc 25 = .ok (.ifCond .eq 11, 3) := by decide +kernel
theorem dX3_setArc_28 : decode cX3_setArc 28 = .ok (.iload 4, 2) := by decide +kernel
theorem dX3_setArc_30 : decode cX3_setArc 30 = .ok (.invokestatic 33, 3) := by decide +kernel
theorem dX3_setArc_33 : decode cX3_setArc 33 = .ok (.ifCond .ne 6, 3) := by decide +kernel
theorem dX3_setArc_36 : decode cX3_setArc 36 = .ok (.bipush (-102), 2) := by decide +kernel
theorem dX3_setArc_38 : decode cX3_setArc 38 = .ok (.ireturn, 1) := by decide +kernel
theorem dX3_setArc_39 : decode cX3_setArc 39 = .ok (.aload_n 0, 1) := by decide +kernel
theorem dX3_setArc_40 : decode cX3_setArc 40 = .ok (.getfield 10, 3) := by decide +kernel
theorem dX3_setArc_43 : decode cX3_setArc 43 = .ok (.iload_n 1, 1) := by decide +kernel
theorem dX3_setArc_44 : decode cX3_setArc 44 = .ok (.invokevirtual 62, 3) := by decide +kernel
theorem dX3_setArc_47 : decode cX3_setArc 47 = .ok (.ifCond .ne 15, 3) := by decide +kernel
theorem dX3_setArc_50 : decode cX3_setArc 50 = .ok (.aload_n 0, 1) := by decide +kernel
theorem dX3_setArc_51 : decode cX3_setArc 51 = .ok (.iload_n 1, 1) := by decide +kernel
theorem dX3_setArc_52 : decode cX3_setArc 52 = .ok (.iload_n 2, 1) := by decide +kernel
theorem dX3_setArc_53 : decode cX3_setArc 53 = .ok (.iload_n 3, 1) := by decide +kernel
theorem dX3_setArc_54 : decode cX3_setArc 54 = .ok (.iload 4, 2) := by decide +kernel
theorem dX3_setArc_56 : decode cX3_setArc 56 = .ok (.invokevirtual 65, 3) := by decide +kernel
theorem dX3_setArc_59 : decode cX3_setArc 59 = .ok (.ifCond .eq 6, 3) := by decide +kernel
theorem dX3_setArc_62 : decode cX3_setArc 62 = .ok (.bipush (-103), 2) := by decide +kernel
theorem dX3_setArc_64 : decode cX3_setArc 64 = .ok (.ireturn, 1) := by decide +kernel
theorem dX3_setArc_65 : decode cX3_setArc 65 = .ok (.aload_n 0, 1) := by decide +kernel
theorem dX3_setArc_66 : decode cX3_setArc 66 = .ok (.getfield 22, 3) := by decide +kernel
theorem dX3_setArc_69 : decode cX3_setArc 69 = .ok (.aload_n 0, 1) := by decide +kernel
theorem dX3_setArc_70 : decode cX3_setArc 70 = .ok (.getfield 10, 3) := by decide +kernel
theorem dX3_setArc_73 : decode cX3_setArc 73 = .ok (.invokevirtual 44, 3) := by decide +kernel
theorem dX3_setArc_76 : decode cX3_setArc 76 = .ok (.aload_n 0, 1) := by decide +kernel
theorem dX3_setArc_77 : decode cX3_setArc 77 = .ok (.getfield 10, 3) := by decide +kernel
theorem dX3_setArc_80 : decode cX3_setArc 80 = .ok (.iload_n 1, 1) := by decide +kernel
theorem dX3_setArc_81 : decode cX3_setArc 81 = .ok (.iload_n 2, 1) := by decide +kernel
theorem dX3_setArc_82 : decode cX3_setArc 82 = .ok (.iload_n 3, 1) := by decide +kernel
theorem dX3_setArc_83 : decode cX3_setArc 83 = .ok (.iload 4, 2) := by decide +kernel
theorem dX3_setArc_85 : decode cX3_setArc 85 = .ok (.invokevirtual 69, 3) := by decide +kernel
theorem dX3_setArc_88 : decode cX3_setArc 88 = .ok (.iload_n 3, 1) := by decide +kernel
theorem dX3_setArc_89 : decode cX3_setArc 89 = .ok (.iload 4, 2) := by decide +kernel
theorem dX3_setArc_91 : decode cX3_setArc 91 = .ok (.invokestatic 73, 3) := by decide +kernel
theorem dX3_setArc_94 : decode cX3_setArc 94 = .ok (.iconst 1, 1) := by decide +kernel
theorem dX3_setArc_95 : decode cX3_setArc 95 = .ok (.iadd, 1) := by decide +kernel
theorem dX3_setArc_96 : decode cX3_setArc 96 = .ok (.ireturn, 1) := by decide +kernel
set_option maxRecDepth 20000 in
theorem ggX3_removeArc_X1_hasCrane : GoodIn wsX3_removeArc wsX1_hasCrane := goodIn_r _ [7, 8, 49] (by decide +kernel) (by decide +kernel)
set_option maxRecDepth 20000 in
theorem gX3_removeArc_X1_hasCrane : GoodIn wsX3_removeArc (wsV RX3 52 RX1 yX1_hasCrane wsX1_hasCrane) := goodIn_app (goodIn_of _ (by decide +kernel)) ggX3_removeArc_X1_hasCrane
set_option maxRecDepth 20000 in
theorem ggX3_removeArc_X3_isZone : GoodIn wsX3_removeArc wsX3_isZone := goodIn_r _ [12] (by decide +kernel) (by decide +kernel)
set_option maxRecDepth 20000 in
theorem gX3_removeArc_X3_isZone : GoodIn wsX3_removeArc (va_wsS RX3 59 yX3_isZone wsX3_isZone) := goodIn_app (goodIn_of _ (by decide +kernel)) ggX3_removeArc_X3_isZone
set_option maxRecDepth 20000 in
theorem ggX3_removeArc_X0_keep : GoodIn wsX3_removeArc wsX0_keep := goodIn_r _ [17, 18, 19, 20, 21, 22, 23, 24, 25, 26, 27, 6, 28, 8, 29, 30, 31, 32, 50, 51, 52, 49] (by decide +kernel) (by decide +kernel)
set_option maxRecDepth 20000 in
theorem gX3_removeArc_X0_keep : GoodIn wsX3_removeArc (wsV RX3 44 RX0 yX0_keep wsX0_keep) := goodIn_app (goodIn_of _ (by decide +kernel)) ggX3_removeArc_X0_keep
set_option maxRecDepth 20000 in
theorem ggX3_removeArc_X1_hasArc : GoodIn wsX3_removeArc wsX1_hasArc := goodIn_r _ [36, 37, 38, 39, 6, 40, 8, 49] (by decide +kernel) (by decide +kernel)
set_option maxRecDepth 20000 in
theorem gX3_removeArc_X1_hasArc : GoodIn wsX3_removeArc (wsV RX3 76 RX1 yX1_hasArc wsX1_hasArc) := goodIn_app (goodIn_of _ (by decide +kernel)) ggX3_removeArc_X1_hasArc
set_option maxRecDepth 20000 in
theorem ggX3_removeArc_X1_setLimits : GoodIn wsX3_removeArc wsX1_setLimits := goodIn_r _ [44, 8, 49] (by decide +kernel) (by decide +kernel)
set_option maxRecDepth 20000 in
theorem gX3_removeArc_X1_setLimits : GoodIn wsX3_removeArc (wsV RX3 69 RX1 yX1_setLimits wsX1_setLimits) := goodIn_app (goodIn_of _ (by decide +kernel)) ggX3_removeArc_X1_setLimits
theorem dX3_removeArc_0 : decode cX3_removeArc 0 = .ok (.aload_n 0, 1) := by decide +kernel
theorem dX3_removeArc_1 : decode cX3_removeArc 1 = .ok (.getfield 10, 3) := by decide +kernel
theorem dX3_removeArc_4 : decode cX3_removeArc 4 = .ok (.iload_n 1, 1) := by decide +kernel
theorem dX3_removeArc_5 : decode cX3_removeArc 5 = .ok (.invokevirtual 52, 3) := by decide +kernel
theorem dX3_removeArc_8 : decode cX3_removeArc 8 = .ok (.ifCond .eq 10, 3) := by decide +kernel
theorem dX3_removeArc_11 : decode cX3_removeArc 11 = .ok (.iload_n 2, 1) := by decide +kernel
theorem dX3_removeArc_12 : decode cX3_removeArc 12 = .ok (.invokestatic 59, 3) := by decide +kernel
theorem dX3_removeArc_15 : decode cX3_removeArc 15 = .ok (.ifCond .ne 6, 3) := by decide +kernel
theorem dX3_removeArc_18 : decode cX3_removeArc 18 = .ok (.bipush (-101), 2) := by decide +kernel
theorem dX3_removeArc_20 : decode cX3_removeArc 20 = .ok (.ireturn, 1) := by decide +kernel
theorem dX3_removeArc_21 : decode cX3_removeArc 21 = .ok (.aload_n 0, 1) := by decide +kernel
theorem dX3_removeArc_22 : decode cX3_removeArc 22 = .ok (.getfield 22, 3) := by decide +kernel
theorem dX3_removeArc_25 : decode cX3_removeArc 25 = .ok (.aload_n 0, 1) := by decide +kernel
theorem dX3_removeArc_26 : decode cX3_removeArc 26 = .ok (.getfield 10, 3) := by decide +kernel
theorem dX3_removeArc_29 : decode cX3_removeArc 29 = .ok (.invokevirtual 44, 3) := by decide +kernel
theorem dX3_removeArc_32 : decode cX3_removeArc 32 = .ok (.aload_n 0, 1) := by decide +kernel
theorem dX3_removeArc_33 : decode cX3_removeArc 33 = .ok (.getfield 10, 3) := by decide +kernel
theorem dX3_removeArc_36 : decode cX3_removeArc 36 = .ok (.iload_n 1, 1) := by decide +kernel
theorem dX3_removeArc_37 : decode cX3_removeArc 37 = .ok (.iload_n 2, 1) := by decide +kernel
theorem dX3_removeArc_38 : decode cX3_removeArc 38 = .ok (.invokevirtual 76, 3) := by decide +kernel
theorem dX3_removeArc_41 : decode cX3_removeArc 41 = .ok (.istore_n 3, 1) := by decide +kernel
theorem dX3_removeArc_42 : decode cX3_removeArc 42 = .ok (.aload_n 0, 1) := by decide +kernel
theorem dX3_removeArc_43 : decode cX3_removeArc 43 = .ok (.getfield 10, 3) := by decide +kernel
theorem dX3_removeArc_46 : decode cX3_removeArc 46 = .ok (.iload_n 1, 1) := by decide +kernel
theorem dX3_removeArc_47 : decode cX3_removeArc 47 = .ok (.iload_n 2, 1) := by decide +kernel
theorem dX3_removeArc_48 : decode cX3_removeArc 48 = .ok (.bipush (-100), 2) := by decide +kernel
theorem dX3_removeArc_50 : decode cX3_removeArc 50 = .ok (.bipush (-100), 2) := by decide +kernel
theorem dX3_removeArc_52 : decode cX3_removeArc 52 = .ok (.invokevirtual 69, 3) := by decide +kernel
theorem dX3_removeArc_55 : decode cX3_removeArc 55 = .ok (.iload_n 3, 1) := by decide +kernel
theorem dX3_removeArc_56 : decode cX3_removeArc 56 = .ok (.ifCond .eq 7, 3) := by decide +kernel
theorem dX3_removeArc_59 : decode cX3_removeArc 59 = .ok (.iconst 1, 1) := by decide +kernel
theorem dX3_removeArc_60 : decode cX3_removeArc 60 = .ok (.goto 4, 3) := by decide +kernel
theorem dX3_removeArc_63 : decode cX3_removeArc 63 = .ok (.iconst 0, 1) := by decide +kernel
theorem dX3_removeArc_64 : decode cX3_removeArc 64 = .ok (.ireturn, 1) := by decide +kernel
set_option maxRecDepth 20000 in
theorem ggX3_cranes_X1_craneCount : GoodIn wsX3_cranes wsX1_craneCount := goodIn_r _ [6, 7, 12] (by decide +kernel) (by decide +kernel)
set_option maxRecDepth 20000 in
theorem gX3_cranes_X1_craneCount : GoodIn wsX3_cranes (wsV RX3 40 RX1 yX1_craneCount wsX1_craneCount) := goodIn_app (goodIn_of _ (by decide +kernel)) ggX3_cranes_X1_craneCount
theorem dX3_cranes_0 : decode cX3_cranes 0 = .ok (.aload_n 0, 1) := by decide +kernel
theorem dX3_cranes_1 : decode cX3_cranes 1 = .ok (.getfield 10, 3) := by decide +kernel
theorem dX3_cranes_4 : decode cX3_cranes 4 = .ok (.invokevirtual 40, 3) := by decide +kernel
theorem dX3_cranes_7 : decode cX3_cranes 7 = .ok (.ireturn, 1) := by decide +kernel
set_option maxRecDepth 20000 in
theorem ggX3_crane_X1_hasCrane : GoodIn wsX3_crane wsX1_hasCrane := goodIn_r _ [6, 7, 40] (by decide +kernel) (by decide +kernel)
set_option maxRecDepth 20000 in
theorem gX3_crane_X1_hasCrane : GoodIn wsX3_crane (wsV RX3 52 RX1 yX1_hasCrane wsX1_hasCrane) := goodIn_app (goodIn_of _ (by decide +kernel)) ggX3_crane_X1_hasCrane
set_option maxRecDepth 20000 in
theorem ggX3_crane_X1_property : GoodIn wsX3_crane wsX1_property := goodIn_r _ [11, 7, 12, 13, 14, 5, 15, 16, 17, 18, 19, 20, 21, 22, 23, 24, 25, 26, 27, 28, 29, 30, 31, 32, 33, 34, 35, 40] (by decide +kernel) (by decide +kernel)
set_option maxRecDepth 20000 in
theorem gX3_crane_X1_property : GoodIn wsX3_crane (wsV RX3 80 RX1 yX1_property wsX1_property) := goodIn_app (goodIn_of _ (by decide +kernel)) ggX3_crane_X1_property
theorem dX3_crane_0 : decode cX3_crane 0 = .ok (.aload_n 0, 1) := by decide +kernel
theorem dX3_crane_1 : decode cX3_crane 1 = .ok (.getfield 10, 3) := by decide +kernel
theorem dX3_crane_4 : decode cX3_crane 4 = .ok (.iload_n 1, 1) := by decide +kernel
theorem dX3_crane_5 : decode cX3_crane 5 = .ok (.invokevirtual 52, 3) := by decide +kernel
theorem dX3_crane_8 : decode cX3_crane 8 = .ok (.ifCond .ne 6, 3) := by decide +kernel
theorem dX3_crane_11 : decode cX3_crane 11 = .ok (.bipush (-101), 2) := by decide +kernel
theorem dX3_crane_13 : decode cX3_crane 13 = .ok (.ireturn, 1) := by decide +kernel
theorem dX3_crane_14 : decode cX3_crane 14 = .ok (.iload_n 2, 1) := by decide +kernel
theorem dX3_crane_15 : decode cX3_crane 15 = .ok (.ifCond .lt 9, 3) := by decide +kernel
theorem dX3_crane_18 : decode cX3_crane 18 = .ok (.iload_n 2, 1) := by decide +kernel
theorem dX3_crane_19 : decode cX3_crane 19 = .ok (.bipush 10, 2) := by decide +kernel
theorem dX3_crane_21 : decode cX3_crane 21 = .ok (.if_icmp .lt 6, 3) := by decide +kernel
theorem dX3_crane_24 : decode cX3_crane 24 = .ok (.bipush (-102), 2) := by decide +kernel
theorem dX3_crane_26 : decode cX3_crane 26 = .ok (.ireturn, 1) := by decide +kernel
theorem dX3_crane_27 : decode cX3_crane 27 = .ok (.aload_n 0, 1) := by decide +kernel
theorem dX3_crane_28 : decode cX3_crane 28 = .ok (.getfield 10, 3) := by decide +kernel
theorem dX3_crane_31 : decode cX3_crane 31 = .ok (.iload_n 1, 1) := by decide +kernel
theorem dX3_crane_32 : decode cX3_crane 32 = .ok (.iload_n 2, 1) := by decide +kernel
theorem dX3_crane_33 : decode cX3_crane 33 = .ok (.invokevirtual 80, 3) := by decide +kernel
theorem dX3_crane_36 : decode cX3_crane 36 = .ok (.ireturn, 1) := by decide +kernel
set_option maxRecDepth 20000 in
theorem ggX3_arc_X1_hasCrane : GoodIn wsX3_arc wsX1_hasCrane := goodIn_r _ [6, 7, 24] (by decide +kernel) (by decide +kernel)
set_option maxRecDepth 20000 in
theorem gX3_arc_X1_hasCrane : GoodIn wsX3_arc (wsV RX3 52 RX1 yX1_hasCrane wsX1_hasCrane) := goodIn_app (goodIn_of _ (by decide +kernel)) ggX3_arc_X1_hasCrane
set_option maxRecDepth 20000 in
theorem ggX3_arc_X3_isZone : GoodIn wsX3_arc wsX3_isZone := goodIn_r _ [11] (by decide +kernel) (by decide +kernel)
set_option maxRecDepth 20000 in
theorem gX3_arc_X3_isZone : GoodIn wsX3_arc (va_wsS RX3 59 yX3_isZone wsX3_isZone) := goodIn_app (goodIn_of _ (by decide +kernel)) ggX3_arc_X3_isZone
set_option maxRecDepth 20000 in
theorem ggX3_arc_X1_lastOf : GoodIn wsX3_arc wsX1_lastOf := goodIn_r _ [15, 7, 24] (by decide +kernel) (by decide +kernel)
set_option maxRecDepth 20000 in
theorem gX3_arc_X1_lastOf : GoodIn wsX3_arc (wsV RX3 83 RX1 yX1_lastOf wsX1_lastOf) := goodIn_app (goodIn_of _ (by decide +kernel)) ggX3_arc_X1_lastOf
set_option maxRecDepth 20000 in
theorem ggX3_arc_X1_firstOf : GoodIn wsX3_arc wsX1_firstOf := goodIn_r _ [19, 7, 24] (by decide +kernel) (by decide +kernel)
set_option maxRecDepth 20000 in
theorem gX3_arc_X1_firstOf : GoodIn wsX3_arc (wsV RX3 86 RX1 yX1_firstOf wsX1_firstOf) := goodIn_app (goodIn_of _ (by decide +kernel)) ggX3_arc_X1_firstOf
theorem dX3_arc_0 : decode cX3_arc 0 = .ok (.aload_n 0, 1) := by decide +kernel
theorem dX3_arc_1 : decode cX3_arc 1 = .ok (.getfield 10, 3) := by decide +kernel
theorem dX3_arc_4 : decode cX3_arc 4 = .ok (.iload_n 1, 1) := by decide +kernel
theorem dX3_arc_5 : decode cX3_arc 5 = .ok (.invokevirtual 52, 3) := by decide +kernel
theorem dX3_arc_8 : decode cX3_arc 8 = .ok (.ifCond .eq 10, 3) := by decide +kernel
theorem dX3_arc_11 : decode cX3_arc 11 = .ok (.iload_n 2, 1) := by decide +kernel
theorem dX3_arc_12 : decode cX3_arc 12 = .ok (.invokestatic 59, 3) := by decide +kernel
theorem dX3_arc_15 : decode cX3_arc 15 = .ok (.ifCond .ne 6, 3) := by decide +kernel
theorem dX3_arc_18 : decode cX3_arc 18 = .ok (.bipush (-101), 2) := by decide +kernel
theorem dX3_arc_20 : decode cX3_arc 20 = .ok (.ireturn, 1) := by decide +kernel
theorem dX3_arc_21 : decode cX3_arc 21 = .ok (.iload_n 3, 1) := by decide +kernel
theorem dX3_arc_22 : decode cX3_arc 22 = .ok (.ifCond .eq 15, 3) := by decide +kernel
theorem dX3_arc_25 : decode cX3_arc 25 = .ok (.aload_n 0, 1) := by decide +kernel
theorem dX3_arc_26 : decode cX3_arc 26 = .ok (.getfield 10, 3) := by decide +kernel
theorem dX3_arc_29 : decode cX3_arc 29 = .ok (.iload_n 1, 1) := by decide +kernel
theorem dX3_arc_30 : decode cX3_arc 30 = .ok (.iload_n 2, 1) := by decide +kernel
theorem dX3_arc_31 : decode cX3_arc 31 = .ok (.invokevirtual 83, 3) := by decide +kernel
theorem dX3_arc_34 : decode cX3_arc 34 = .ok (.goto 12, 3) := by decide +kernel
theorem dX3_arc_37 : decode cX3_arc 37 = .ok (.aload_n 0, 1) := by decide +kernel
theorem dX3_arc_38 : decode cX3_arc 38 = .ok (.getfield 10, 3) := by decide +kernel
theorem dX3_arc_41 : decode cX3_arc 41 = .ok (.iload_n 1, 1) := by decide +kernel
theorem dX3_arc_42 : decode cX3_arc 42 = .ok (.iload_n 2, 1) := by decide +kernel
theorem dX3_arc_43 : decode cX3_arc 43 = .ok (.invokevirtual 86, 3) := by decide +kernel
theorem dX3_arc_46 : decode cX3_arc 46 = .ok (.ireturn, 1) := by decide +kernel
set_option maxRecDepth 20000 in
theorem ggX3_occupants_X3_isZone : GoodIn wsX3_occupants wsX3_isZone := goodIn_r _ [5] (by decide +kernel) (by decide +kernel)
set_option maxRecDepth 20000 in
theorem gX3_occupants_X3_isZone : GoodIn wsX3_occupants (va_wsS RX3 59 yX3_isZone wsX3_isZone) := goodIn_app (goodIn_of _ (by decide +kernel)) ggX3_occupants_X3_isZone
set_option maxRecDepth 20000 in
theorem ggX3_occupants_X1_occupantsOf : GoodIn wsX3_occupants wsX1_occupantsOf := goodIn_r _ [10, 11, 12, 13, 14, 9, 15, 16, 17, 18, 19, 20, 21, 22, 23, 24, 25, 26, 27, 28, 29, 30, 31, 32, 33, 34, 35, 40] (by decide +kernel) (by decide +kernel)
set_option maxRecDepth 20000 in
theorem gX3_occupants_X1_occupantsOf : GoodIn wsX3_occupants (wsV RX3 89 RX1 yX1_occupantsOf wsX1_occupantsOf) := goodIn_app (goodIn_of _ (by decide +kernel)) ggX3_occupants_X1_occupantsOf
theorem dX3_occupants_0 : decode cX3_occupants 0 = .ok (.iload_n 1, 1) := by decide +kernel
theorem dX3_occupants_1 : decode cX3_occupants 1 = .ok (.invokestatic 59, 3) := by decide +kernel
theorem dX3_occupants_4 : decode cX3_occupants 4 = .ok (.ifCond .ne 6, 3) := by decide +kernel
theorem dX3_occupants_7 : decode cX3_occupants 7 = .ok (.bipush (-101), 2) := by decide +kernel
theorem dX3_occupants_9 : decode cX3_occupants 9 = .ok (.ireturn, 1) := by decide +kernel
theorem dX3_occupants_10 : decode cX3_occupants 10 = .ok (.aload_n 0, 1) := by decide +kernel
theorem dX3_occupants_11 : decode cX3_occupants 11 = .ok (.getfield 10, 3) := by decide +kernel
theorem dX3_occupants_14 : decode cX3_occupants 14 = .ok (.iload_n 1, 1) := by decide +kernel
theorem dX3_occupants_15 : decode cX3_occupants 15 = .ok (.invokevirtual 89, 3) := by decide +kernel
theorem dX3_occupants_18 : decode cX3_occupants 18 = .ok (.ireturn, 1) := by decide +kernel
set_option maxRecDepth 20000 in
theorem ggX3_conflicts_X1_conflictSet : GoodIn wsX3_conflicts wsX1_conflictSet := goodIn_r _ [6, 7, 8, 9, 5, 10, 11, 12, 13, 14, 15, 16, 17, 18, 19, 20, 21, 22, 23, 24, 25, 26, 27, 28, 29, 30, 31, 32, 33, 34, 35, 36, 37, 38, 39, 40, 41, 42, 43, 44, 45, 46, 51] (by decide +kernel) (by decide +kernel)
set_option maxRecDepth 20000 in
theorem gX3_conflicts_X1_conflictSet : GoodIn wsX3_conflicts (wsV RX3 93 RX1 yX1_conflictSet wsX1_conflictSet) := goodIn_app (goodIn_of _ (by decide +kernel)) ggX3_conflicts_X1_conflictSet
theorem dX3_conflicts_0 : decode cX3_conflicts 0 = .ok (.aload_n 0, 1) := by decide +kernel
theorem dX3_conflicts_1 : decode cX3_conflicts 1 = .ok (.getfield 10, 3) := by decide +kernel
theorem dX3_conflicts_4 : decode cX3_conflicts 4 = .ok (.invokevirtual 93, 3) := by decide +kernel
theorem dX3_conflicts_7 : decode cX3_conflicts 7 = .ok (.ireturn, 1) := by decide +kernel
set_option maxRecDepth 20000 in
theorem ggX3_slew_X1_hasCrane : GoodIn wsX3_slew wsX1_hasCrane := goodIn_r _ [7, 8, 66] (by decide +kernel) (by decide +kernel)
set_option maxRecDepth 20000 in
theorem gX3_slew_X1_hasCrane : GoodIn wsX3_slew (wsV RX3 52 RX1 yX1_hasCrane wsX1_hasCrane) := goodIn_app (goodIn_of _ (by decide +kernel)) ggX3_slew_X1_hasCrane
set_option maxRecDepth 20000 in
theorem ggX3_slew_X3_isAngle : GoodIn wsX3_slew wsX3_isAngle := goodIn_r _ [12] (by decide +kernel) (by decide +kernel)
set_option maxRecDepth 20000 in
theorem gX3_slew_X3_isAngle : GoodIn wsX3_slew (va_wsS RX3 33 yX3_isAngle wsX3_isAngle) := goodIn_app (goodIn_of _ (by decide +kernel)) ggX3_slew_X3_isAngle
set_option maxRecDepth 20000 in
theorem ggX3_slew_X1_canAim : GoodIn wsX3_slew wsX1_canAim := goodIn_r _ [16, 17, 18, 19, 6, 20, 8, 21, 22, 23, 24, 66] (by decide +kernel) (by decide +kernel)
set_option maxRecDepth 20000 in
theorem gX3_slew_X1_canAim : GoodIn wsX3_slew (wsV RX3 96 RX1 yX1_canAim wsX1_canAim) := goodIn_app (goodIn_of _ (by decide +kernel)) ggX3_slew_X1_canAim
set_option maxRecDepth 20000 in
theorem ggX3_slew_X0_keep : GoodIn wsX3_slew wsX0_keep := goodIn_r _ [29, 30, 31, 32, 33, 34, 35, 36, 37, 38, 39, 6, 40, 8, 41, 42, 43, 44, 67, 68, 69, 66] (by decide +kernel) (by decide +kernel)
set_option maxRecDepth 20000 in
theorem gX3_slew_X0_keep : GoodIn wsX3_slew (wsV RX3 44 RX0 yX0_keep wsX0_keep) := goodIn_app (goodIn_of _ (by decide +kernel)) ggX3_slew_X0_keep
set_option maxRecDepth 20000 in
theorem ggX3_slew_X1_aim : GoodIn wsX3_slew wsX1_aim := goodIn_r _ [48, 8, 49, 50, 51, 6, 52, 53, 11, 54, 55, 56, 57, 58, 59, 60, 61, 66] (by decide +kernel) (by decide +kernel)
set_option maxRecDepth 20000 in
theorem gX3_slew_X1_aim : GoodIn wsX3_slew (wsV RX3 99 RX1 yX1_aim wsX1_aim) := goodIn_app (goodIn_of _ (by decide +kernel)) ggX3_slew_X1_aim
theorem dX3_slew_0 : decode cX3_slew 0 = .ok (.aload_n 0, 1) := by decide +kernel
theorem dX3_slew_1 : decode cX3_slew 1 = .ok (.getfield 10, 3) := by decide +kernel
theorem dX3_slew_4 : decode cX3_slew 4 = .ok (.iload_n 1, 1) := by decide +kernel
theorem dX3_slew_5 : decode cX3_slew 5 = .ok (.invokevirtual 52, 3) := by decide +kernel
theorem dX3_slew_8 : decode cX3_slew 8 = .ok (.ifCond .ne 6, 3) := by decide +kernel
theorem dX3_slew_11 : decode cX3_slew 11 = .ok (.bipush (-101), 2) := by decide +kernel
theorem dX3_slew_13 : decode cX3_slew 13 = .ok (.ireturn, 1) := by decide +kernel
theorem dX3_slew_14 : decode cX3_slew 14 = .ok (.iload_n 2, 1) := by decide +kernel
theorem dX3_slew_15 : decode cX3_slew 15 = .ok (.invokestatic 33, 3) := by decide +kernel
theorem dX3_slew_18 : decode cX3_slew 18 = .ok (.ifCond .eq 13, 3) := by decide +kernel
theorem dX3_slew_21 : decode cX3_slew 21 = .ok (.iload_n 3, 1) := by decide +kernel
theorem dX3_slew_22 : decode cX3_slew 22 = .ok (.iconst (-1), 1) := by decide +kernel
theorem dX3_slew_23 : decode cX3_slew 23 = .ok (.if_icmp .lt 8, 3) := by decide +kernel
theorem dX3_slew_26 : decode cX3_slew 26 = .ok (.iload_n 3, 1) := by decide +kernel
theorem dX3_slew_27 : decode cX3_slew 27 = .ok (.iconst 1, 1) := by decide +kernel
theorem dX3_slew_28 : decode cX3_slew 28 = .ok (.if_icmp .le 6, 3) := by decide +kernel
theorem dX3_slew_31 : decode cX3_slew 31 = .ok (.bipush (-102), 2) := by decide +kernel
theorem dX3_slew_33 : decode cX3_slew 33 = .ok (.ireturn, 1) := by decide +kernel
theorem dX3_slew_34 : decode cX3_slew 34 = .ok (.aload_n 0, 1) := by decide +kernel
theorem dX3_slew_35 : decode cX3_slew 35 = .ok (.getfield 10, 3) := by decide +kernel
theorem dX3_slew_38 : decode cX3_slew 38 = .ok (.iload_n 1, 1) := by decide +kernel
theorem dX3_slew_39 : decode cX3_slew 39 = .ok (.invokevirtual 96, 3) := by decide +kernel
theorem dX3_slew_42 : decode cX3_slew 42 = .ok (.ifCond .ne 6, 3) := by decide +kernel
theorem dX3_slew_45 : decode cX3_slew 45 = .ok (.bipush (-103), 2) := by decide +kernel
theorem dX3_slew_47 : decode cX3_slew 47 = .ok (.ireturn, 1) := by decide +kernel
theorem dX3_slew_48 : decode cX3_slew 48 = .ok (.aload_n 0, 1) := by decide +kernel
theorem dX3_slew_49 : decode cX3_slew 49 = .ok (.getfield 22, 3) := by decide +kernel
theorem dX3_slew_52 : decode cX3_slew 52 = .ok (.aload_n 0, 1) := by decide +kernel
theorem dX3_slew_53 : decode cX3_slew 53 = .ok (.getfield 10, 3) := by decide +kernel
theorem dX3_slew_56 : decode cX3_slew 56 = .ok (.invokevirtual 44, 3) := by decide +kernel
theorem dX3_slew_59 : decode cX3_slew 59 = .ok (.aload_n 0, 1) := by decide +kernel
theorem dX3_slew_60 : decode cX3_slew 60 = .ok (.getfield 10, 3) := by decide +kernel
theorem dX3_slew_63 : decode cX3_slew 63 = .ok (.iload_n 1, 1) := by decide +kernel
theorem dX3_slew_64 : decode cX3_slew 64 = .ok (.iload_n 2, 1) := by decide +kernel
theorem dX3_slew_65 : decode cX3_slew 65 = .ok (.iload_n 3, 1) := by decide +kernel
theorem dX3_slew_66 : decode cX3_slew 66 = .ok (.invokevirtual 99, 3) := by decide +kernel
theorem dX3_slew_69 : decode cX3_slew 69 = .ok (.ireturn, 1) := by decide +kernel
set_option maxRecDepth 20000 in
theorem ggX3_stop_X1_hasCrane : GoodIn wsX3_stop wsX1_hasCrane := goodIn_r _ [7, 8, 41] (by decide +kernel) (by decide +kernel)
set_option maxRecDepth 20000 in
theorem gX3_stop_X1_hasCrane : GoodIn wsX3_stop (wsV RX3 52 RX1 yX1_hasCrane wsX1_hasCrane) := goodIn_app (goodIn_of _ (by decide +kernel)) ggX3_stop_X1_hasCrane
set_option maxRecDepth 20000 in
theorem ggX3_stop_X1_isOnStep : GoodIn wsX3_stop wsX1_isOnStep := goodIn_r _ [12, 8, 41] (by decide +kernel) (by decide +kernel)
set_option maxRecDepth 20000 in
theorem gX3_stop_X1_isOnStep : GoodIn wsX3_stop (wsV RX3 102 RX1 yX1_isOnStep wsX1_isOnStep) := goodIn_app (goodIn_of _ (by decide +kernel)) ggX3_stop_X1_isOnStep
set_option maxRecDepth 20000 in
theorem ggX3_stop_X0_keep : GoodIn wsX3_stop wsX0_keep := goodIn_r _ [17, 18, 19, 20, 21, 22, 23, 24, 25, 26, 27, 6, 28, 8, 29, 30, 31, 32, 42, 43, 44, 41] (by decide +kernel) (by decide +kernel)
set_option maxRecDepth 20000 in
theorem gX3_stop_X0_keep : GoodIn wsX3_stop (wsV RX3 44 RX0 yX0_keep wsX0_keep) := goodIn_app (goodIn_of _ (by decide +kernel)) ggX3_stop_X0_keep
set_option maxRecDepth 20000 in
theorem ggX3_stop_X1_dropTarget : GoodIn wsX3_stop wsX1_dropTarget := goodIn_r _ [36, 8, 41] (by decide +kernel) (by decide +kernel)
set_option maxRecDepth 20000 in
theorem gX3_stop_X1_dropTarget : GoodIn wsX3_stop (wsV RX3 105 RX1 yX1_dropTarget wsX1_dropTarget) := goodIn_app (goodIn_of _ (by decide +kernel)) ggX3_stop_X1_dropTarget
theorem dX3_stop_0 : decode cX3_stop 0 = .ok (.aload_n 0, 1) := by decide +kernel
theorem dX3_stop_1 : decode cX3_stop 1 = .ok (.getfield 10, 3) := by decide +kernel
theorem dX3_stop_4 : decode cX3_stop 4 = .ok (.iload_n 1, 1) := by decide +kernel
theorem dX3_stop_5 : decode cX3_stop 5 = .ok (.invokevirtual 52, 3) := by decide +kernel
theorem dX3_stop_8 : decode cX3_stop 8 = .ok (.ifCond .ne 6, 3) := by decide +kernel
theorem dX3_stop_11 : decode cX3_stop 11 = .ok (.bipush (-101), 2) := by decide +kernel
theorem dX3_stop_13 : decode cX3_stop 13 = .ok (.ireturn, 1) := by decide +kernel
theorem dX3_stop_14 : decode cX3_stop 14 = .ok (.aload_n 0, 1) := by decide +kernel
theorem dX3_stop_15 : decode cX3_stop 15 = .ok (.getfield 10, 3) := by decide +kernel
theorem dX3_stop_18 : decode cX3_stop 18 = .ok (.iload_n 1, 1) := by decide +kernel
theorem dX3_stop_19 : decode cX3_stop 19 = .ok (.invokevirtual 102, 3) := by decide +kernel
theorem dX3_stop_22 : decode cX3_stop 22 = .ok (.ifCond .eq 6, 3) := by decide +kernel
theorem dX3_stop_25 : decode cX3_stop 25 = .ok (.bipush (-103), 2) := by decide +kernel
theorem dX3_stop_27 : decode cX3_stop 27 = .ok (.ireturn, 1) := by decide +kernel
theorem dX3_stop_28 : decode cX3_stop 28 = .ok (.aload_n 0, 1) := by decide +kernel
theorem dX3_stop_29 : decode cX3_stop 29 = .ok (.getfield 22, 3) := by decide +kernel
theorem dX3_stop_32 : decode cX3_stop 32 = .ok (.aload_n 0, 1) := by decide +kernel
theorem dX3_stop_33 : decode cX3_stop 33 = .ok (.getfield 10, 3) := by decide +kernel
theorem dX3_stop_36 : decode cX3_stop 36 = .ok (.invokevirtual 44, 3) := by decide +kernel
theorem dX3_stop_39 : decode cX3_stop 39 = .ok (.aload_n 0, 1) := by decide +kernel
theorem dX3_stop_40 : decode cX3_stop 40 = .ok (.getfield 10, 3) := by decide +kernel
theorem dX3_stop_43 : decode cX3_stop 43 = .ok (.iload_n 1, 1) := by decide +kernel
theorem dX3_stop_44 : decode cX3_stop 44 = .ok (.invokevirtual 105, 3) := by decide +kernel
theorem dX3_stop_47 : decode cX3_stop 47 = .ok (.ireturn, 1) := by decide +kernel
set_option maxRecDepth 20000 in
theorem ggX3_turnRound_X1_hasCrane : GoodIn wsX3_turnRound wsX1_hasCrane := goodIn_r _ [7, 8, 52] (by decide +kernel) (by decide +kernel)
set_option maxRecDepth 20000 in
theorem gX3_turnRound_X1_hasCrane : GoodIn wsX3_turnRound (wsV RX3 52 RX1 yX1_hasCrane wsX1_hasCrane) := goodIn_app (goodIn_of _ (by decide +kernel)) ggX3_turnRound_X1_hasCrane
set_option maxRecDepth 20000 in
theorem ggX3_turnRound_X1_hasTarget : GoodIn wsX3_turnRound wsX1_hasTarget := goodIn_r _ [12, 8, 52] (by decide +kernel) (by decide +kernel)
set_option maxRecDepth 20000 in
theorem gX3_turnRound_X1_hasTarget : GoodIn wsX3_turnRound (wsV RX3 108 RX1 yX1_hasTarget wsX1_hasTarget) := goodIn_app (goodIn_of _ (by decide +kernel)) ggX3_turnRound_X1_hasTarget
set_option maxRecDepth 20000 in
theorem ggX3_turnRound_X1_isOnStep : GoodIn wsX3_turnRound wsX1_isOnStep := goodIn_r _ [16, 8, 52] (by decide +kernel) (by decide +kernel)
set_option maxRecDepth 20000 in
theorem gX3_turnRound_X1_isOnStep : GoodIn wsX3_turnRound (wsV RX3 102 RX1 yX1_isOnStep wsX1_isOnStep) := goodIn_app (goodIn_of _ (by decide +kernel)) ggX3_turnRound_X1_isOnStep
set_option maxRecDepth 20000 in
theorem ggX3_turnRound_X0_keep : GoodIn wsX3_turnRound wsX0_keep := goodIn_r _ [21, 22, 23, 24, 25, 26, 27, 28, 29, 30, 31, 6, 32, 8, 33, 34, 35, 36, 53, 54, 55, 52] (by decide +kernel) (by decide +kernel)
set_option maxRecDepth 20000 in
theorem gX3_turnRound_X0_keep : GoodIn wsX3_turnRound (wsV RX3 44 RX0 yX0_keep wsX0_keep) := goodIn_app (goodIn_of _ (by decide +kernel)) ggX3_turnRound_X0_keep
set_option maxRecDepth 20000 in
theorem ggX3_turnRound_X1_changeWay : GoodIn wsX3_turnRound wsX1_changeWay := goodIn_r _ [40, 8, 41, 42, 43, 6, 44, 45, 46, 47, 52] (by decide +kernel) (by decide +kernel)
set_option maxRecDepth 20000 in
theorem gX3_turnRound_X1_changeWay : GoodIn wsX3_turnRound (wsV RX3 111 RX1 yX1_changeWay wsX1_changeWay) := goodIn_app (goodIn_of _ (by decide +kernel)) ggX3_turnRound_X1_changeWay
theorem dX3_turnRound_0 : decode cX3_turnRound 0 = .ok (.aload_n 0, 1) := by decide +kernel
theorem dX3_turnRound_1 : decode cX3_turnRound 1 = .ok (.getfield 10, 3) := by decide +kernel
theorem dX3_turnRound_4 : decode cX3_turnRound 4 = .ok (.iload_n 1, 1) := by decide +kernel
theorem dX3_turnRound_5 : decode cX3_turnRound 5 = .ok (.invokevirtual 52, 3) := by decide +kernel
theorem dX3_turnRound_8 : decode cX3_turnRound 8 = .ok (.ifCond .ne 6, 3) := by decide +kernel
theorem dX3_turnRound_11 : decode cX3_turnRound 11 = .ok (.bipush (-101), 2) := by decide +kernel
theorem dX3_turnRound_13 : decode cX3_turnRound 13 = .ok (.ireturn, 1) := by decide +kernel
theorem dX3_turnRound_14 : decode cX3_turnRound 14 = .ok (.aload_n 0, 1) := by decide +kernel
theorem dX3_turnRound_15 : decode cX3_turnRound 15 = .ok (.getfield 10, 3) := by decide +kernel
theorem dX3_turnRound_18 : decode cX3_turnRound 18 = .ok (.iload_n 1, 1) := by decide +kernel
theorem dX3_turnRound_19 : decode cX3_turnRound 19 = .ok (.invokevirtual 108, 3) := by decide +kernel
theorem dX3_turnRound_22 : decode cX3_turnRound 22 = .ok (.ifCond .eq 14, 3) := by decide +kernel
theorem dX3_turnRound_25 : decode cX3_turnRound 25 = .ok (.aload_n 0, 1) := by decide +kernel
theorem dX3_turnRound_26 : decode cX3_turnRound 26 = .ok (.getfield 10, 3) := by decide +kernel
theorem dX3_turnRound_29 : decode cX3_turnRound 29 = .ok (.iload_n 1, 1) := by decide +kernel
theorem dX3_turnRound_30 : decode cX3_turnRound 30 = .ok (.invokevirtual 102, 3) := by decide +kernel
theorem dX3_turnRound_33 : decode cX3_turnRound 33 = .ok (.ifCond .eq 6, 3) := by decide +kernel
theorem dX3_turnRound_36 : decode cX3_turnRound 36 = .ok (.bipush (-103), 2) := by decide +kernel
theorem dX3_turnRound_38 : decode cX3_turnRound 38 = .ok (.ireturn, 1) := by decide +kernel
theorem dX3_turnRound_39 : decode cX3_turnRound 39 = .ok (.aload_n 0, 1) := by decide +kernel
theorem dX3_turnRound_40 : decode cX3_turnRound 40 = .ok (.getfield 22, 3) := by decide +kernel
theorem dX3_turnRound_43 : decode cX3_turnRound 43 = .ok (.aload_n 0, 1) := by decide +kernel
theorem dX3_turnRound_44 : decode cX3_turnRound 44 = .ok (.getfield 10, 3) := by decide +kernel
theorem dX3_turnRound_47 : decode cX3_turnRound 47 = .ok (.invokevirtual 44, 3) := by decide +kernel
theorem dX3_turnRound_50 : decode cX3_turnRound 50 = .ok (.aload_n 0, 1) := by decide +kernel
theorem dX3_turnRound_51 : decode cX3_turnRound 51 = .ok (.getfield 10, 3) := by decide +kernel
theorem dX3_turnRound_54 : decode cX3_turnRound 54 = .ok (.iload_n 1, 1) := by decide +kernel
theorem dX3_turnRound_55 : decode cX3_turnRound 55 = .ok (.invokevirtual 111, 3) := by decide +kernel
theorem dX3_turnRound_58 : decode cX3_turnRound 58 = .ok (.ireturn, 1) := by decide +kernel
set_option maxRecDepth 20000 in
theorem ggX3_tick_X1_now : GoodIn wsX3_tick wsX1_now := goodIn_r _ [8, 9, 92] (by decide +kernel) (by decide +kernel)
set_option maxRecDepth 20000 in
theorem gX3_tick_X1_now : GoodIn wsX3_tick (wsV RX3 114 RX1 yX1_now wsX1_now) := goodIn_app (goodIn_of _ (by decide +kernel)) ggX3_tick_X1_now
set_option maxRecDepth 20000 in
theorem ggX3_tick_X0_keep : GoodIn wsX3_tick wsX0_keep := goodIn_r _ [14, 15, 16, 17, 18, 19, 20, 21, 22, 23, 24, 7, 25, 9, 26, 27, 28, 29, 93, 94, 95, 92] (by decide +kernel) (by decide +kernel)
set_option maxRecDepth 20000 in
theorem gX3_tick_X0_keep : GoodIn wsX3_tick (wsV RX3 44 RX0 yX0_keep wsX0_keep) := goodIn_app (goodIn_of _ (by decide +kernel)) ggX3_tick_X0_keep
set_option maxRecDepth 20000 in
theorem ggX3_tick_X1_passTick : GoodIn wsX3_tick wsX1_passTick := goodIn_r _ [33, 9, 34, 35, 36, 7, 37, 38, 39, 40, 41, 42, 43, 44, 45, 46, 47, 48, 49, 50, 51, 52, 53, 54, 55, 56, 57, 58, 59, 60, 61, 62, 63, 64, 65, 66, 67, 68, 69, 70, 71, 72, 73, 74, 75, 76, 77, 78, 79, 80, 81, 82, 83, 84, 85, 86, 87, 92] (by decide +kernel) (by decide +kernel)
set_option maxRecDepth 20000 in
theorem gX3_tick_X1_passTick : GoodIn wsX3_tick (wsV RX3 118 RX1 yX1_passTick wsX1_passTick) := goodIn_app (goodIn_of _ (by decide +kernel)) ggX3_tick_X1_passTick
theorem dX3_tick_0 : decode cX3_tick 0 = .ok (.iload_n 1, 1) := by decide +kernel
theorem dX3_tick_1 : decode cX3_tick 1 = .ok (.iconst 1, 1) := by decide +kernel
theorem dX3_tick_2 : decode cX3_tick 2 = .ok (.if_icmp .lt 10, 3) := by decide +kernel
theorem dX3_tick_5 : decode cX3_tick 5 = .ok (.iload_n 1, 1) := by decide +kernel
theorem dX3_tick_6 : decode cX3_tick 6 = .ok (.sipush 200, 3) := by decide +kernel
theorem dX3_tick_9 : decode cX3_tick 9 = .ok (.if_icmp .le 6, 3) := by decide +kernel
theorem dX3_tick_12 : decode cX3_tick 12 = .ok (.bipush (-102), 2) := by decide +kernel
theorem dX3_tick_14 : decode cX3_tick 14 = .ok (.ireturn, 1) := by decide +kernel
theorem dX3_tick_15 : decode cX3_tick 15 = .ok (.aload_n 0, 1) := by decide +kernel
theorem dX3_tick_16 : decode cX3_tick 16 = .ok (.getfield 10, 3) := by decide +kernel
theorem dX3_tick_19 : decode cX3_tick 19 = .ok (.invokevirtual 114, 3) := by decide +kernel
theorem dX3_tick_22 : decode cX3_tick 22 = .ok (.iload_n 1, 1) := by decide +kernel
theorem dX3_tick_23 : decode cX3_tick 23 = .ok (.iadd, 1) := by decide +kernel
theorem dX3_tick_24 : decode cX3_tick 24 = .ok (.ldc 117, 2) := by decide +kernel
theorem dX3_tick_26 : decode cX3_tick 26 = .ok (.if_icmp .le 6, 3) := by decide +kernel
theorem dX3_tick_29 : decode cX3_tick 29 = .ok (.bipush (-104), 2) := by decide +kernel
theorem dX3_tick_31 : decode cX3_tick 31 = .ok (.ireturn, 1) := by decide +kernel
theorem dX3_tick_32 : decode cX3_tick 32 = .ok (.aload_n 0, 1) := by decide +kernel
theorem dX3_tick_33 : decode cX3_tick 33 = .ok (.getfield 22, 3) := by decide +kernel
theorem dX3_tick_36 : decode cX3_tick 36 = .ok (.aload_n 0, 1) := by decide +kernel
theorem dX3_tick_37 : decode cX3_tick 37 = .ok (.getfield 10, 3) := by decide +kernel
theorem dX3_tick_40 : decode cX3_tick 40 = .ok (.invokevirtual 44, 3) := by decide +kernel
theorem dX3_tick_43 : decode cX3_tick 43 = .ok (.iconst 0, 1) := by decide +kernel
theorem dX3_tick_44 : decode cX3_tick 44 = .ok (.istore_n 2, 1) := by decide +kernel
theorem dX3_tick_45 : decode cX3_tick 45 = .ok (.iload_n 2, 1) := by decide +kernel
theorem dX3_tick_46 : decode cX3_tick 46 = .ok (.iload_n 1, 1) := by decide +kernel
theorem dX3_tick_47 : decode cX3_tick 47 = .ok (.if_icmp .ge 17, 3) := by decide +kernel
theorem dX3_tick_50 : decode cX3_tick 50 = .ok (.aload_n 0, 1) := by decide +kernel
theorem dX3_tick_51 : decode cX3_tick 51 = .ok (.getfield 10, 3) := by decide +kernel
theorem dX3_tick_54 : decode cX3_tick 54 = .ok (.invokevirtual 118, 3) := by decide +kernel
theorem dX3_tick_57 : decode cX3_tick 57 = .ok (.pop, 1) := by decide +kernel
theorem dX3_tick_58 : decode cX3_tick 58 = .ok (.iinc 2 1, 3) := by decide +kernel
theorem dX3_tick_61 : decode cX3_tick 61 = .ok (.goto (-16), 3) := by decide +kernel
theorem dX3_tick_64 : decode cX3_tick 64 = .ok (.aload_n 0, 1) := by decide +kernel
theorem dX3_tick_65 : decode cX3_tick 65 = .ok (.getfield 10, 3) := by decide +kernel
theorem dX3_tick_68 : decode cX3_tick 68 = .ok (.invokevirtual 114, 3) := by decide +kernel
theorem dX3_tick_71 : decode cX3_tick 71 = .ok (.ireturn, 1) := by decide +kernel
set_option maxRecDepth 20000 in
theorem ggX3_time_X1_now : GoodIn wsX3_time wsX1_now := goodIn_r _ [6, 7, 12] (by decide +kernel) (by decide +kernel)
set_option maxRecDepth 20000 in
theorem gX3_time_X1_now : GoodIn wsX3_time (wsV RX3 114 RX1 yX1_now wsX1_now) := goodIn_app (goodIn_of _ (by decide +kernel)) ggX3_time_X1_now
theorem dX3_time_0 : decode cX3_time 0 = .ok (.aload_n 0, 1) := by decide +kernel
theorem dX3_time_1 : decode cX3_time 1 = .ok (.getfield 10, 3) := by decide +kernel
theorem dX3_time_4 : decode cX3_time 4 = .ok (.invokevirtual 114, 3) := by decide +kernel
theorem dX3_time_7 : decode cX3_time 7 = .ok (.ireturn, 1) := by decide +kernel
set_option maxRecDepth 20000 in
theorem ggX3_needs_X1_hasCrane : GoodIn wsX3_needs wsX1_hasCrane := goodIn_r _ [6, 7, 27] (by decide +kernel) (by decide +kernel)
set_option maxRecDepth 20000 in
theorem gX3_needs_X1_hasCrane : GoodIn wsX3_needs (wsV RX3 52 RX1 yX1_hasCrane wsX1_hasCrane) := goodIn_app (goodIn_of _ (by decide +kernel)) ggX3_needs_X1_hasCrane
set_option maxRecDepth 20000 in
theorem ggX3_needs_X1_hasTarget : GoodIn wsX3_needs wsX1_hasTarget := goodIn_r _ [11, 7, 27] (by decide +kernel) (by decide +kernel)
set_option maxRecDepth 20000 in
theorem gX3_needs_X1_hasTarget : GoodIn wsX3_needs (wsV RX3 108 RX1 yX1_hasTarget wsX1_hasTarget) := goodIn_app (goodIn_of _ (by decide +kernel)) ggX3_needs_X1_hasTarget
set_option maxRecDepth 20000 in
theorem ggX3_needs_X1_ticksToTarget : GoodIn wsX3_needs wsX1_ticksToTarget := goodIn_r _ [15, 7, 16, 17, 18, 5, 19, 20, 21, 22, 27] (by decide +kernel) (by decide +kernel)
set_option maxRecDepth 20000 in
theorem gX3_needs_X1_ticksToTarget : GoodIn wsX3_needs (wsV RX3 122 RX1 yX1_ticksToTarget wsX1_ticksToTarget) := goodIn_app (goodIn_of _ (by decide +kernel)) ggX3_needs_X1_ticksToTarget
theorem dX3_needs_0 : decode cX3_needs 0 = .ok (.aload_n 0, 1) := by decide +kernel
theorem dX3_needs_1 : decode cX3_needs 1 = .ok (.getfield 10, 3) := by decide +kernel
theorem dX3_needs_4 : decode cX3_needs 4 = .ok (.iload_n 1, 1) := by decide +kernel
theorem dX3_needs_5 : decode cX3_needs 5 = .ok (.invokevirtual 52, 3) := by decide +kernel
theorem dX3_needs_8 : decode cX3_needs 8 = .ok (.ifCond .ne 6, 3) := by decide +kernel
theorem dX3_needs_11 : decode cX3_needs 11 = .ok (.bipush (-101), 2) := by decide +kernel
theorem dX3_needs_13 : decode cX3_needs 13 = .ok (.ireturn, 1) := by decide +kernel
theorem dX3_needs_14 : decode cX3_needs 14 = .ok (.aload_n 0, 1) := by decide +kernel
theorem dX3_needs_15 : decode cX3_needs 15 = .ok (.getfield 10, 3) := by decide +kernel
theorem dX3_needs_18 : decode cX3_needs 18 = .ok (.iload_n 1, 1) := by decide +kernel
theorem dX3_needs_19 : decode cX3_needs 19 = .ok (.invokevirtual 108, 3) := by decide +kernel
theorem dX3_needs_22 : decode cX3_needs 22 = .ok (.ifCond .eq 14, 3) := by decide +kernel
theorem dX3_needs_25 : decode cX3_needs 25 = .ok (.aload_n 0, 1) := by decide +kernel
theorem dX3_needs_26 : decode cX3_needs 26 = .ok (.getfield 10, 3) := by decide +kernel
theorem dX3_needs_29 : decode cX3_needs 29 = .ok (.iload_n 1, 1) := by decide +kernel
theorem dX3_needs_30 : decode cX3_needs 30 = .ok (.invokevirtual 122, 3) := by decide +kernel
theorem dX3_needs_33 : decode cX3_needs 33 = .ok (.goto 4, 3) := by decide +kernel
theorem dX3_needs_36 : decode cX3_needs 36 = .ok (.iconst 0, 1) := by decide +kernel
theorem dX3_needs_37 : decode cX3_needs 37 = .ok (.ireturn, 1) := by decide +kernel
set_option maxRecDepth 20000 in
theorem ggX3_blocker_X1_hasCrane : GoodIn wsX3_blocker wsX1_hasCrane := goodIn_r _ [6, 7, 44] (by decide +kernel) (by decide +kernel)
set_option maxRecDepth 20000 in
theorem gX3_blocker_X1_hasCrane : GoodIn wsX3_blocker (wsV RX3 52 RX1 yX1_hasCrane wsX1_hasCrane) := goodIn_app (goodIn_of _ (by decide +kernel)) ggX3_blocker_X1_hasCrane
set_option maxRecDepth 20000 in
theorem ggX3_blocker_X1_blockerOf : GoodIn wsX3_blocker wsX1_blockerOf := goodIn_r _ [11, 7, 12, 13, 14, 5, 15, 16, 17, 18, 19, 20, 21, 22, 23, 24, 25, 26, 27, 28, 29, 30, 31, 32, 33, 34, 35, 36, 37, 38, 39, 44] (by decide +kernel) (by decide +kernel)
set_option maxRecDepth 20000 in
theorem gX3_blocker_X1_blockerOf : GoodIn wsX3_blocker (wsV RX3 125 RX1 yX1_blockerOf wsX1_blockerOf) := goodIn_app (goodIn_of _ (by decide +kernel)) ggX3_blocker_X1_blockerOf
theorem dX3_blocker_0 : decode cX3_blocker 0 = .ok (.aload_n 0, 1) := by decide +kernel
theorem dX3_blocker_1 : decode cX3_blocker 1 = .ok (.getfield 10, 3) := by decide +kernel
theorem dX3_blocker_4 : decode cX3_blocker 4 = .ok (.iload_n 1, 1) := by decide +kernel
theorem dX3_blocker_5 : decode cX3_blocker 5 = .ok (.invokevirtual 52, 3) := by decide +kernel
theorem dX3_blocker_8 : decode cX3_blocker 8 = .ok (.ifCond .ne 6, 3) := by decide +kernel
theorem dX3_blocker_11 : decode cX3_blocker 11 = .ok (.bipush (-101), 2) := by decide +kernel
theorem dX3_blocker_13 : decode cX3_blocker 13 = .ok (.ireturn, 1) := by decide +kernel
theorem dX3_blocker_14 : decode cX3_blocker 14 = .ok (.aload_n 0, 1) := by decide +kernel
theorem dX3_blocker_15 : decode cX3_blocker 15 = .ok (.getfield 10, 3) := by decide +kernel
theorem dX3_blocker_18 : decode cX3_blocker 18 = .ok (.iload_n 1, 1) := by decide +kernel
theorem dX3_blocker_19 : decode cX3_blocker 19 = .ok (.invokevirtual 125, 3) := by decide +kernel
theorem dX3_blocker_22 : decode cX3_blocker 22 = .ok (.ireturn, 1) := by decide +kernel
set_option maxRecDepth 20000 in
theorem ggX3_cycle_X1_cycleSet : GoodIn wsX3_cycle wsX1_cycleSet := goodIn_r _ [6, 7, 8, 9, 10, 5, 11, 12, 13, 14, 15, 16, 17, 18, 19, 20, 21, 22, 23, 24, 25, 26, 27, 28, 29, 30, 31, 32, 33, 34, 35, 36, 37, 38, 39, 40, 41, 42, 43, 48] (by decide +kernel) (by decide +kernel)
set_option maxRecDepth 20000 in
theorem gX3_cycle_X1_cycleSet : GoodIn wsX3_cycle (wsV RX3 128 RX1 yX1_cycleSet wsX1_cycleSet) := goodIn_app (goodIn_of _ (by decide +kernel)) ggX3_cycle_X1_cycleSet
theorem dX3_cycle_0 : decode cX3_cycle 0 = .ok (.aload_n 0, 1) := by decide +kernel
theorem dX3_cycle_1 : decode cX3_cycle 1 = .ok (.getfield 10, 3) := by decide +kernel
theorem dX3_cycle_4 : decode cX3_cycle 4 = .ok (.invokevirtual 128, 3) := by decide +kernel
theorem dX3_cycle_7 : decode cX3_cycle 7 = .ok (.ireturn, 1) := by decide +kernel
set_option maxRecDepth 20000 in
theorem ggX3_allDone_X3_ticksUntilDone : GoodIn wsX3_allDone wsX3_ticksUntilDone := goodIn_r _ [5, 6, 7, 8, 9, 10, 11, 12, 13, 14, 15, 16, 17, 18, 19, 20, 21, 22, 23, 24, 25, 26, 27, 28, 29, 30, 31, 32, 33, 34, 35, 36, 37, 38, 39, 40, 41, 42, 4, 43, 44, 45, 46, 47, 48, 49, 50, 51, 52, 53, 54, 55, 56, 57, 58, 59, 60, 61, 62, 63, 64, 65, 66, 67, 68, 69, 70, 71, 72, 73, 74, 75, 76, 77, 78, 79, 80, 81, 82, 83] (by decide +kernel) (by decide +kernel)
set_option maxRecDepth 20000 in
theorem gX3_allDone_X3_ticksUntilDone : GoodIn wsX3_allDone (wsV RX3 131 RX3 yX3_ticksUntilDone wsX3_ticksUntilDone) := goodIn_app (goodIn_of _ (by decide +kernel)) ggX3_allDone_X3_ticksUntilDone
theorem dX3_allDone_0 : decode cX3_allDone 0 = .ok (.aload_n 0, 1) := by decide +kernel
theorem dX3_allDone_1 : decode cX3_allDone 1 = .ok (.bipush 15, 2) := by decide +kernel
theorem dX3_allDone_3 : decode cX3_allDone 3 = .ok (.invokevirtual 131, 3) := by decide +kernel
theorem dX3_allDone_6 : decode cX3_allDone 6 = .ok (.ireturn, 1) := by decide +kernel
set_option maxRecDepth 20000 in
theorem ggX3_done_X1_hasCrane : GoodIn wsX3_done wsX1_hasCrane := goodIn_r _ [6, 7, 87] (by decide +kernel) (by decide +kernel)
set_option maxRecDepth 20000 in
theorem gX3_done_X1_hasCrane : GoodIn wsX3_done (wsV RX3 52 RX1 yX1_hasCrane wsX1_hasCrane) := goodIn_app (goodIn_of _ (by decide +kernel)) ggX3_done_X1_hasCrane
set_option maxRecDepth 20000 in
theorem ggX3_done_X3_ticksUntilDone : GoodIn wsX3_done wsX3_ticksUntilDone := goodIn_r _ [12, 13, 1, 14, 15, 16, 5, 17, 7, 18, 19, 20, 21, 22, 23, 24, 25, 26, 27, 28, 29, 30, 31, 32, 33, 34, 35, 36, 37, 38, 39, 40, 41, 42, 43, 44, 45, 46, 11, 47, 48, 49, 50, 51, 52, 53, 54, 55, 56, 57, 58, 59, 60, 61, 62, 63, 64, 65, 66, 67, 68, 69, 70, 71, 72, 73, 74, 75, 76, 77, 78, 79, 80, 81, 82, 83, 84, 85, 86, 87] (by decide +kernel) (by decide +kernel)
set_option maxRecDepth 20000 in
theorem gX3_done_X3_ticksUntilDone : GoodIn wsX3_done (wsV RX3 131 RX3 yX3_ticksUntilDone wsX3_ticksUntilDone) := goodIn_app (goodIn_of _ (by decide +kernel)) ggX3_done_X3_ticksUntilDone
theorem dX3_done_0 : decode cX3_done 0 = .ok (.aload_n 0, 1) := by decide +kernel
theorem dX3_done_1 : decode cX3_done 1 = .ok (.getfield 10, 3) := by decide +kernel
theorem dX3_done_4 : decode cX3_done 4 = .ok (.iload_n 1, 1) := by decide +kernel
theorem dX3_done_5 : decode cX3_done 5 = .ok (.invokevirtual 52, 3) := by decide +kernel
theorem dX3_done_8 : decode cX3_done 8 = .ok (.ifCond .ne 6, 3) := by decide +kernel
theorem dX3_done_11 : decode cX3_done 11 = .ok (.bipush (-101), 2) := by decide +kernel
theorem dX3_done_13 : decode cX3_done 13 = .ok (.ireturn, 1) := by decide +kernel
theorem dX3_done_14 : decode cX3_done 14 = .ok (.aload_n 0, 1) := by decide +kernel
theorem dX3_done_15 : decode cX3_done 15 = .ok (.iconst 1, 1) := by decide +kernel
theorem dX3_done_16 : decode cX3_done 16 = .ok (.iload_n 1, 1) := by decide +kernel
theorem dX3_done_17 : decode cX3_done 17 = .ok (.ishl, 1) := by decide +kernel
theorem dX3_done_18 : decode cX3_done 18 = .ok (.invokevirtual 131, 3) := by decide +kernel
theorem dX3_done_21 : decode cX3_done 21 = .ok (.ireturn, 1) := by decide +kernel
set_option maxRecDepth 20000 in
theorem ggX3_waits_X1_hasCrane : GoodIn wsX3_waits wsX1_hasCrane := goodIn_r _ [6, 7, 87] (by decide +kernel) (by decide +kernel)
set_option maxRecDepth 20000 in
theorem gX3_waits_X1_hasCrane : GoodIn wsX3_waits (wsV RX3 52 RX1 yX1_hasCrane wsX1_hasCrane) := goodIn_app (goodIn_of _ (by decide +kernel)) ggX3_waits_X1_hasCrane
set_option maxRecDepth 20000 in
theorem ggX3_waits_X3_foretoldWaits : GoodIn wsX3_waits wsX3_foretoldWaits := goodIn_r _ [12, 13, 1, 14, 15, 16, 5, 17, 7, 18, 19, 20, 21, 22, 23, 24, 25, 26, 27, 28, 29, 30, 31, 32, 33, 34, 35, 36, 37, 38, 39, 40, 41, 42, 11, 43, 44, 45, 46, 47, 48, 49, 50, 51, 52, 53, 54, 55, 56, 57, 58, 59, 60, 61, 62, 63, 64, 65, 66, 67, 68, 69, 70, 71, 72, 73, 74, 75, 76, 77, 78, 79, 80, 81, 82, 83, 84, 85, 86, 87] (by decide +kernel) (by decide +kernel)
set_option maxRecDepth 20000 in
theorem gX3_waits_X3_foretoldWaits : GoodIn wsX3_waits (wsV RX3 134 RX3 yX3_foretoldWaits wsX3_foretoldWaits) := goodIn_app (goodIn_of _ (by decide +kernel)) ggX3_waits_X3_foretoldWaits
theorem dX3_waits_0 : decode cX3_waits 0 = .ok (.aload_n 0, 1) := by decide +kernel
theorem dX3_waits_1 : decode cX3_waits 1 = .ok (.getfield 10, 3) := by decide +kernel
theorem dX3_waits_4 : decode cX3_waits 4 = .ok (.iload_n 1, 1) := by decide +kernel
theorem dX3_waits_5 : decode cX3_waits 5 = .ok (.invokevirtual 52, 3) := by decide +kernel
theorem dX3_waits_8 : decode cX3_waits 8 = .ok (.ifCond .ne 6, 3) := by decide +kernel
theorem dX3_waits_11 : decode cX3_waits 11 = .ok (.bipush (-101), 2) := by decide +kernel
theorem dX3_waits_13 : decode cX3_waits 13 = .ok (.ireturn, 1) := by decide +kernel
theorem dX3_waits_14 : decode cX3_waits 14 = .ok (.iload_n 2, 1) := by decide +kernel
theorem dX3_waits_15 : decode cX3_waits 15 = .ok (.iconst 1, 1) := by decide +kernel
theorem dX3_waits_16 : decode cX3_waits 16 = .ok (.if_icmp .lt 10, 3) := by decide +kernel
theorem dX3_waits_19 : decode cX3_waits 19 = .ok (.iload_n 2, 1) := by decide +kernel
theorem dX3_waits_20 : decode cX3_waits 20 = .ok (.sipush 1000, 3) := by decide +kernel
theorem dX3_waits_23 : decode cX3_waits 23 = .ok (.if_icmp .le 6, 3) := by decide +kernel
theorem dX3_waits_26 : decode cX3_waits 26 = .ok (.bipush (-102), 2) := by decide +kernel
theorem dX3_waits_28 : decode cX3_waits 28 = .ok (.ireturn, 1) := by decide +kernel
theorem dX3_waits_29 : decode cX3_waits 29 = .ok (.aload_n 0, 1) := by decide +kernel
theorem dX3_waits_30 : decode cX3_waits 30 = .ok (.iload_n 1, 1) := by decide +kernel
theorem dX3_waits_31 : decode cX3_waits 31 = .ok (.iload_n 2, 1) := by decide +kernel
theorem dX3_waits_32 : decode cX3_waits 32 = .ok (.invokevirtual 134, 3) := by decide +kernel
theorem dX3_waits_35 : decode cX3_waits 35 = .ok (.ireturn, 1) := by decide +kernel
set_option maxRecDepth 20000 in
theorem ggX3_setWind_X3_isAngle : GoodIn wsX3_setWind wsX3_isAngle := goodIn_r _ [6] (by decide +kernel) (by decide +kernel)
set_option maxRecDepth 20000 in
theorem gX3_setWind_X3_isAngle : GoodIn wsX3_setWind (va_wsS RX3 33 yX3_isAngle wsX3_isAngle) := goodIn_app (goodIn_of _ (by decide +kernel)) ggX3_setWind_X3_isAngle
set_option maxRecDepth 20000 in
theorem ggX3_setWind_X0_keep : GoodIn wsX3_setWind wsX0_keep := goodIn_r _ [11, 12, 13, 14, 15, 16, 17, 18, 19, 20, 21, 22, 23, 24, 25, 26, 27, 28, 37, 38, 39, 40] (by decide +kernel) (by decide +kernel)
set_option maxRecDepth 20000 in
theorem gX3_setWind_X0_keep : GoodIn wsX3_setWind (wsV RX3 44 RX0 yX0_keep wsX0_keep) := goodIn_app (goodIn_of _ (by decide +kernel)) ggX3_setWind_X0_keep
set_option maxRecDepth 20000 in
theorem ggX3_setWind_X1_changeWind : GoodIn wsX3_setWind wsX1_changeWind := goodIn_r _ [32, 24, 40] (by decide +kernel) (by decide +kernel)
set_option maxRecDepth 20000 in
theorem gX3_setWind_X1_changeWind : GoodIn wsX3_setWind (wsV RX3 137 RX1 yX1_changeWind wsX1_changeWind) := goodIn_app (goodIn_of _ (by decide +kernel)) ggX3_setWind_X1_changeWind
theorem dX3_setWind_0 : decode cX3_setWind 0 = .ok (.iload_n 1, 1) := by decide +kernel
theorem dX3_setWind_1 : decode cX3_setWind 1 = .ok (.invokestatic 33, 3) := by decide +kernel
theorem dX3_setWind_4 : decode cX3_setWind 4 = .ok (.ifCond .ne 6, 3) := by decide +kernel
theorem dX3_setWind_7 : decode cX3_setWind 7 = .ok (.bipush (-102), 2) := by decide +kernel
theorem dX3_setWind_9 : decode cX3_setWind 9 = .ok (.ireturn, 1) := by decide +kernel
theorem dX3_setWind_10 : decode cX3_setWind 10 = .ok (.aload_n 0, 1) := by decide +kernel
theorem dX3_setWind_11 : decode cX3_setWind 11 = .ok (.getfield 22, 3) := by decide +kernel
theorem dX3_setWind_14 : decode cX3_setWind 14 = .ok (.aload_n 0, 1) := by decide +kernel
theorem dX3_setWind_15 : decode cX3_setWind 15 = .ok (.getfield 10, 3) := by decide +kernel
theorem dX3_setWind_18 : decode cX3_setWind 18 = .ok (.invokevirtual 44, 3) := by decide +kernel
theorem dX3_setWind_21 : decode cX3_setWind 21 = .ok (.aload_n 0, 1) := by decide +kernel
theorem dX3_setWind_22 : decode cX3_setWind 22 = .ok (.getfield 10, 3) := by decide +kernel
theorem dX3_setWind_25 : decode cX3_setWind 25 = .ok (.iload_n 1, 1) := by decide +kernel
theorem dX3_setWind_26 : decode cX3_setWind 26 = .ok (.invokevirtual 137, 3) := by decide +kernel
theorem dX3_setWind_29 : decode cX3_setWind 29 = .ok (.ireturn, 1) := by decide +kernel
set_option maxRecDepth 20000 in
theorem ggX3_leave_X1_hasCrane : GoodIn wsX3_leave wsX1_hasCrane := goodIn_r _ [7, 8, 74] (by decide +kernel) (by decide +kernel)
set_option maxRecDepth 20000 in
theorem gX3_leave_X1_hasCrane : GoodIn wsX3_leave (wsV RX3 52 RX1 yX1_hasCrane wsX1_hasCrane) := goodIn_app (goodIn_of _ (by decide +kernel)) ggX3_leave_X1_hasCrane
set_option maxRecDepth 20000 in
theorem ggX3_leave_X1_isLeft : GoodIn wsX3_leave wsX1_isLeft := goodIn_r _ [12, 8, 74] (by decide +kernel) (by decide +kernel)
set_option maxRecDepth 20000 in
theorem gX3_leave_X1_isLeft : GoodIn wsX3_leave (wsV RX3 62 RX1 yX1_isLeft wsX1_isLeft) := goodIn_app (goodIn_of _ (by decide +kernel)) ggX3_leave_X1_isLeft
set_option maxRecDepth 20000 in
theorem ggX3_leave_X1_canBeLeft : GoodIn wsX3_leave wsX1_canBeLeft := goodIn_r _ [16, 8, 17, 18, 19, 6, 20, 21, 22, 23, 24, 25, 10, 11, 12, 26, 27, 28, 29, 30, 31, 32, 33, 34, 35, 36, 37, 74] (by decide +kernel) (by decide +kernel)
set_option maxRecDepth 20000 in
theorem gX3_leave_X1_canBeLeft : GoodIn wsX3_leave (wsV RX3 140 RX1 yX1_canBeLeft wsX1_canBeLeft) := goodIn_app (goodIn_of _ (by decide +kernel)) ggX3_leave_X1_canBeLeft
set_option maxRecDepth 20000 in
theorem ggX3_leave_X0_keep : GoodIn wsX3_leave wsX0_keep := goodIn_r _ [42, 43, 44, 45, 46, 47, 48, 49, 50, 51, 52, 6, 53, 8, 54, 55, 56, 57, 75, 76, 77, 74] (by decide +kernel) (by decide +kernel)
set_option maxRecDepth 20000 in
theorem gX3_leave_X0_keep : GoodIn wsX3_leave (wsV RX3 44 RX0 yX0_keep wsX0_keep) := goodIn_app (goodIn_of _ (by decide +kernel)) ggX3_leave_X0_keep
set_option maxRecDepth 20000 in
theorem ggX3_leave_X1_leaveToWind : GoodIn wsX3_leave wsX1_leaveToWind := goodIn_r _ [61, 8, 62, 63, 64, 6, 65, 74] (by decide +kernel) (by decide +kernel)
set_option maxRecDepth 20000 in
theorem gX3_leave_X1_leaveToWind : GoodIn wsX3_leave (wsV RX3 143 RX1 yX1_leaveToWind wsX1_leaveToWind) := goodIn_app (goodIn_of _ (by decide +kernel)) ggX3_leave_X1_leaveToWind
set_option maxRecDepth 20000 in
theorem ggX3_leave_X1_takeBack : GoodIn wsX3_leave wsX1_takeBack := goodIn_r _ [69, 8, 74] (by decide +kernel) (by decide +kernel)
set_option maxRecDepth 20000 in
theorem gX3_leave_X1_takeBack : GoodIn wsX3_leave (wsV RX3 147 RX1 yX1_takeBack wsX1_takeBack) := goodIn_app (goodIn_of _ (by decide +kernel)) ggX3_leave_X1_takeBack
theorem dX3_leave_0 : decode cX3_leave 0 = .ok (.aload_n 0, 1) := by decide +kernel
theorem dX3_leave_1 : decode cX3_leave 1 = .ok (.getfield 10, 3) := by decide +kernel
theorem dX3_leave_4 : decode cX3_leave 4 = .ok (.iload_n 1, 1) := by decide +kernel
theorem dX3_leave_5 : decode cX3_leave 5 = .ok (.invokevirtual 52, 3) := by decide +kernel
theorem dX3_leave_8 : decode cX3_leave 8 = .ok (.ifCond .ne 6, 3) := by decide +kernel
theorem dX3_leave_11 : decode cX3_leave 11 = .ok (.bipush (-101), 2) := by decide +kernel
theorem dX3_leave_13 : decode cX3_leave 13 = .ok (.ireturn, 1) := by decide +kernel
theorem dX3_leave_14 : decode cX3_leave 14 = .ok (.aload_n 0, 1) := by decide +kernel
theorem dX3_leave_15 : decode cX3_leave 15 = .ok (.getfield 10, 3) := by decide +kernel
theorem dX3_leave_18 : decode cX3_leave 18 = .ok (.iload_n 1, 1) := by decide +kernel
theorem dX3_leave_19 : decode cX3_leave 19 = .ok (.invokevirtual 62, 3) := by decide +kernel
theorem dX3_leave_22 : decode cX3_leave 22 = .ok (.istore_n 3, 1) := by decide +kernel
theorem dX3_leave_23 : decode cX3_leave 23 = .ok (.iload_n 2, 1) := by decide +kernel
theorem dX3_leave_24 : decode cX3_leave 24 = .ok (.ifCond .eq 21, 3) := by decide +kernel
theorem dX3_leave_27 : decode cX3_leave 27 = .ok (.iload_n 3, 1) := by decide +kernel
theorem dX3_leave_28 : decode cX3_leave 28 = .ok (.ifCond .ne 17, 3) := by decide +kernel
theorem dX3_leave_31 : decode cX3_leave 31 = .ok (.aload_n 0, 1) := by decide +kernel
theorem dX3_leave_32 : decode cX3_leave 32 = .ok (.getfield 10, 3) := by decide +kernel
theorem dX3_leave_35 : decode cX3_leave 35 = .ok (.iload_n 1, 1) := by decide +kernel
theorem dX3_leave_36 : decode cX3_leave 36 = .ok (.invokevirtual 140, 3) := by decide +kernel
theorem dX3_leave_39 : decode cX3_leave 39 = .ok (.ifCond .ne 6, 3) := by decide +kernel
theorem dX3_leave_42 : decode cX3_leave 42 = .ok (.bipush (-103), 2) := by decide +kernel
theorem dX3_leave_44 : decode cX3_leave 44 = .ok (.ireturn, 1) := by decide +kernel
theorem dX3_leave_45 : decode cX3_leave 45 = .ok (.aload_n 0, 1) := by decide +kernel
theorem dX3_leave_46 : decode cX3_leave 46 = .ok (.getfield 22, 3) := by decide +kernel
theorem dX3_leave_49 : decode cX3_leave 49 = .ok (.aload_n 0, 1) := by decide +kernel
theorem dX3_leave_50 : decode cX3_leave 50 = .ok (.getfield 10, 3) := by decide +kernel
theorem dX3_leave_53 : decode cX3_leave 53 = .ok (.invokevirtual 44, 3) := by decide +kernel
theorem dX3_leave_56 : decode cX3_leave 56 = .ok (.iload_n 2, 1) := by decide +kernel
theorem dX3_leave_57 : decode cX3_leave 57 = .ok (.ifCond .eq 14, 3) := by decide +kernel
theorem dX3_leave_60 : decode cX3_leave 60 = .ok (.aload_n 0, 1) := by decide +kernel
theorem dX3_leave_61 : decode cX3_leave 61 = .ok (.getfield 10, 3) := by decide +kernel
theorem dX3_leave_64 : decode cX3_leave 64 = .ok (.iload_n 1, 1) := by decide +kernel
theorem dX3_leave_65 : decode cX3_leave 65 = .ok (.invokevirtual 143, 3) := by decide +kernel
theorem dX3_leave_68 : decode cX3_leave 68 = .ok (.goto 11, 3) := by decide +kernel
theorem dX3_leave_71 : decode cX3_leave 71 = .ok (.aload_n 0, 1) := by decide +kernel
theorem dX3_leave_72 : decode cX3_leave 72 = .ok (.getfield 10, 3) := by decide +kernel
theorem dX3_leave_75 : decode cX3_leave 75 = .ok (.iload_n 1, 1) := by decide +kernel
theorem dX3_leave_76 : decode cX3_leave 76 = .ok (.invokevirtual 147, 3) := by decide +kernel
theorem dX3_leave_79 : decode cX3_leave 79 = .ok (.iload_n 3, 1) := by decide +kernel
theorem dX3_leave_80 : decode cX3_leave 80 = .ok (.ifCond .eq 7, 3) := by decide +kernel
theorem dX3_leave_83 : decode cX3_leave 83 = .ok (.iconst 1, 1) := by decide +kernel
theorem dX3_leave_84 : decode cX3_leave 84 = .ok (.goto 4, 3) := by decide +kernel
theorem dX3_leave_87 : decode cX3_leave 87 = .ok (.iconst 0, 1) := by decide +kernel
theorem dX3_leave_88 : decode cX3_leave 88 = .ok (.ireturn, 1) := by decide +kernel
set_option maxRecDepth 20000 in
theorem ggX3_override_X1_hasCrane : GoodIn wsX3_override wsX1_hasCrane := goodIn_r _ [7, 8, 97] (by decide +kernel) (by decide +kernel)
set_option maxRecDepth 20000 in
theorem gX3_override_X1_hasCrane : GoodIn wsX3_override (wsV RX3 52 RX1 yX1_hasCrane wsX1_hasCrane) := goodIn_app (goodIn_of _ (by decide +kernel)) ggX3_override_X1_hasCrane
set_option maxRecDepth 20000 in
theorem ggX3_override_X1_hasTarget : GoodIn wsX3_override wsX1_hasTarget := goodIn_r _ [12, 8, 97] (by decide +kernel) (by decide +kernel)
set_option maxRecDepth 20000 in
theorem gX3_override_X1_hasTarget : GoodIn wsX3_override (wsV RX3 108 RX1 yX1_hasTarget wsX1_hasTarget) := goodIn_app (goodIn_of _ (by decide +kernel)) ggX3_override_X1_hasTarget
set_option maxRecDepth 20000 in
theorem ggX3_override_X1_isOnStep : GoodIn wsX3_override wsX1_isOnStep := goodIn_r _ [16, 8, 97] (by decide +kernel) (by decide +kernel)
set_option maxRecDepth 20000 in
theorem gX3_override_X1_isOnStep : GoodIn wsX3_override (wsV RX3 102 RX1 yX1_isOnStep wsX1_isOnStep) := goodIn_app (goodIn_of _ (by decide +kernel)) ggX3_override_X1_isOnStep
set_option maxRecDepth 20000 in
theorem ggX3_override_X1_noteCount : GoodIn wsX3_override wsX1_noteCount := goodIn_r _ [20, 8, 97] (by decide +kernel) (by decide +kernel)
set_option maxRecDepth 20000 in
theorem gX3_override_X1_noteCount : GoodIn wsX3_override (wsV RX3 150 RX1 yX1_noteCount wsX1_noteCount) := goodIn_app (goodIn_of _ (by decide +kernel)) ggX3_override_X1_noteCount
set_option maxRecDepth 20000 in
theorem ggX3_override_X0_keep : GoodIn wsX3_override wsX0_keep := goodIn_r _ [25, 26, 27, 28, 29, 30, 31, 32, 33, 34, 35, 6, 36, 8, 37, 38, 39, 40, 98, 99, 100, 97] (by decide +kernel) (by decide +kernel)
set_option maxRecDepth 20000 in
theorem gX3_override_X0_keep : GoodIn wsX3_override (wsV RX3 44 RX0 yX0_keep wsX0_keep) := goodIn_app (goodIn_of _ (by decide +kernel)) ggX3_override_X0_keep
set_option maxRecDepth 20000 in
theorem ggX3_override_X1_endStep : GoodIn wsX3_override wsX1_endStep := goodIn_r _ [44, 8, 45, 46, 47, 6, 48, 49, 50, 51, 52, 97] (by decide +kernel) (by decide +kernel)
set_option maxRecDepth 20000 in
theorem gX3_override_X1_endStep : GoodIn wsX3_override (wsV RX3 153 RX1 yX1_endStep wsX1_endStep) := goodIn_app (goodIn_of _ (by decide +kernel)) ggX3_override_X1_endStep
set_option maxRecDepth 20000 in
theorem ggX3_override_X1_conflictSet : GoodIn wsX3_override wsX1_conflictSet := goodIn_r _ [56, 57, 58, 59, 6, 60, 61, 62, 63, 64, 8, 65, 66, 67, 68, 69, 70, 71, 72, 73, 74, 75, 76, 77, 78, 79, 80, 81, 14, 15, 16, 45, 46, 47, 48, 82, 83, 84, 85, 86, 87, 88, 97] (by decide +kernel) (by decide +kernel)
set_option maxRecDepth 20000 in
theorem gX3_override_X1_conflictSet : GoodIn wsX3_override (wsV RX3 93 RX1 yX1_conflictSet wsX1_conflictSet) := goodIn_app (goodIn_of _ (by decide +kernel)) ggX3_override_X1_conflictSet
set_option maxRecDepth 20000 in
theorem ggX3_override_X1_putNote : GoodIn wsX3_override wsX1_putNote := goodIn_r _ [92, 8, 97] (by decide +kernel) (by decide +kernel)
set_option maxRecDepth 20000 in
theorem gX3_override_X1_putNote : GoodIn wsX3_override (wsV RX3 156 RX1 yX1_putNote wsX1_putNote) := goodIn_app (goodIn_of _ (by decide +kernel)) ggX3_override_X1_putNote
theorem dX3_override_0 : decode cX3_override 0 = .ok (.aload_n 0, 1) := by decide +kernel
theorem dX3_override_1 : decode cX3_override 1 = .ok (.getfield 10, 3) := by decide +kernel
theorem dX3_override_4 : decode cX3_override 4 = .ok (.iload_n 1, 1) := by decide +kernel
theorem dX3_override_5 : decode cX3_override 5 = .ok (.invokevirtual 52, 3) := by decide +kernel
theorem dX3_override_8 : decode cX3_override 8 = .ok (.ifCond .ne 6, 3) := by decide +kernel
theorem dX3_override_11 : decode cX3_override 11 = .ok (.bipush (-101), 2) := by decide +kernel
theorem dX3_override_13 : decode cX3_override 13 = .ok (.ireturn, 1) := by decide +kernel
theorem dX3_override_14 : decode cX3_override 14 = .ok (.iload_n 2, 1) := by decide +kernel
theorem dX3_override_15 : decode cX3_override 15 = .ok (.iconst 1, 1) := by decide +kernel
theorem dX3_override_16 : decode cX3_override 16 = .ok (.if_icmp .lt 9, 3) := by decide +kernel
theorem dX3_override_19 : decode cX3_override 19 = .ok (.iload_n 2, 1) := by decide +kernel
theorem dX3_override_20 : decode cX3_override 20 = .ok (.bipush 9, 2) := by decide +kernel
theorem dX3_override_22 : decode cX3_override 22 = .ok (.if_icmp .le 6, 3) := by decide +kernel
theorem dX3_override_25 : decode cX3_override 25 = .ok (.bipush (-102), 2) := by decide +kernel
theorem dX3_override_27 : decode cX3_override 27 = .ok (.ireturn, 1) := by decide +kernel
theorem dX3_override_28 : decode cX3_override 28 = .ok (.aload_n 0, 1) := by decide +kernel
theorem dX3_override_29 : decode cX3_override 29 = .ok (.getfield 10, 3) := by decide +kernel
theorem dX3_override_32 : decode cX3_override 32 = .ok (.iload_n 1, 1) := by decide +kernel
