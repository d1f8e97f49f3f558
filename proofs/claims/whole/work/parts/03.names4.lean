theorem dX4_inWay_2 : decode cX4_inWay 2 = .ok (.istore_n 2, 1) := by decide +kernel
theorem dX4_inWay_3 : decode cX4_inWay 3 = .ok (.aload_n 0, 1) := by decide +kernel
theorem dX4_inWay_4 : decode cX4_inWay 4 = .ok (.getfield 7, 3) := by decide +kernel
theorem dX4_inWay_7 : decode cX4_inWay 7 = .ok (.iconst 2, 1) := by decide +kernel
theorem dX4_inWay_8 : decode cX4_inWay 8 = .ok (.iaload, 1) := by decide +kernel
theorem dX4_inWay_9 : decode cX4_inWay 9 = .ok (.iconst 1, 1) := by decide +kernel
theorem dX4_inWay_10 : decode cX4_inWay 10 = .ok (.isub, 1) := by decide +kernel
theorem dX4_inWay_11 : decode cX4_inWay 11 = .ok (.istore_n 3, 1) := by decide +kernel
theorem dX4_inWay_12 : decode cX4_inWay 12 = .ok (.iload_n 3, 1) := by decide +kernel
theorem dX4_inWay_13 : decode cX4_inWay 13 = .ok (.ifCond .lt 61, 3) := by decide +kernel
theorem dX4_inWay_16 : decode cX4_inWay 16 = .ok (.iconst 0, 1) := by decide +kernel
theorem dX4_inWay_17 : decode cX4_inWay 17 = .ok (.istore 4, 2) := by decide +kernel
theorem dX4_inWay_19 : decode cX4_inWay 19 = .ok (.iload 4, 2) := by decide +kernel
theorem dX4_inWay_21 : decode cX4_inWay 21 = .ok (.bipush 6, 2) := by decide +kernel
theorem dX4_inWay_23 : decode cX4_inWay 23 = .ok (.if_icmp .ge 45, 3) := by decide +kernel
theorem dX4_inWay_26 : decode cX4_inWay 26 = .ok (.iload_n 3, 1) := by decide +kernel
theorem dX4_inWay_27 : decode cX4_inWay 27 = .ok (.iload_n 1, 1) := by decide +kernel
theorem dX4_inWay_28 : decode cX4_inWay 28 = .ok (.if_icmp .eq 32, 3) := by decide +kernel
theorem dX4_inWay_31 : decode cX4_inWay 31 = .ok (.aload_n 0, 1) := by decide +kernel
theorem dX4_inWay_32 : decode cX4_inWay 32 = .ok (.iload_n 1, 1) := by decide +kernel
theorem dX4_inWay_33 : decode cX4_inWay 33 = .ok (.iload 4, 2) := by decide +kernel
theorem dX4_inWay_35 : decode cX4_inWay 35 = .ok (.aload_n 0, 1) := by decide +kernel
theorem dX4_inWay_36 : decode cX4_inWay 36 = .ok (.iload_n 1, 1) := by decide +kernel
theorem dX4_inWay_37 : decode cX4_inWay 37 = .ok (.invokevirtual 39, 3) := by decide +kernel
theorem dX4_inWay_40 : decode cX4_inWay 40 = .ok (.invokevirtual 32, 3) := by decide +kernel
theorem dX4_inWay_43 : decode cX4_inWay 43 = .ok (.ifCond .eq 17, 3) := by decide +kernel
theorem dX4_inWay_46 : decode cX4_inWay 46 = .ok (.aload_n 0, 1) := by decide +kernel
theorem dX4_inWay_47 : decode cX4_inWay 47 = .ok (.iload_n 3, 1) := by decide +kernel
theorem dX4_inWay_48 : decode cX4_inWay 48 = .ok (.iload 4, 2) := by decide +kernel
theorem dX4_inWay_50 : decode cX4_inWay 50 = .ok (.invokevirtual 47, 3) := by decide +kernel
theorem dX4_inWay_53 : decode cX4_inWay 53 = .ok (.ifCond .eq 7, 3) := by decide +kernel
theorem dX4_inWay_56 : decode cX4_inWay 56 = .ok (.iload_n 3, 1) := by decide +kernel
theorem dX4_inWay_57 : decode cX4_inWay 57 = .ok (.goto 4, 3) := by decide +kernel
theorem dX4_inWay_60 : decode cX4_inWay 60 = .ok (.iload_n 2, 1) := by decide +kernel
theorem dX4_inWay_61 : decode cX4_inWay 61 = .ok (.istore_n 2, 1) := by decide +kernel
theorem dX4_inWay_62 : decode cX4_inWay 62 = .ok (.iinc 4 1, 3) := by decide +kernel
theorem dX4_inWay_65 : decode cX4_inWay 65 = .ok (.goto (-46), 3) := by decide +kernel
theorem dX4_inWay_68 : decode cX4_inWay 68 = .ok (.iinc 3 (-1), 3) := by decide +kernel
theorem dX4_inWay_71 : decode cX4_inWay 71 = .ok (.goto (-59), 3) := by decide +kernel
theorem dX4_inWay_74 : decode cX4_inWay 74 = .ok (.iload_n 2, 1) := by decide +kernel
theorem dX4_inWay_75 : decode cX4_inWay 75 = .ok (.ireturn, 1) := by decide +kernel
set_option maxRecDepth 20000 in
theorem ggX4_hasTarget_X4_of : GoodIn wsX4_hasTarget wsX4_of := goodIn_r _ [5, 6, 7, 8, 9, 10, 11, 12] (by decide +kernel) (by decide +kernel)
set_option maxRecDepth 20000 in
theorem gX4_hasTarget_X4_of : GoodIn wsX4_hasTarget (wsV RX4 28 RX4 yX4_of wsX4_of) := goodIn_app (goodIn_of _ (by decide +kernel)) ggX4_hasTarget_X4_of
theorem dX4_hasTarget_0 : decode cX4_hasTarget 0 = .ok (.aload_n 0, 1) := by decide +kernel
theorem dX4_hasTarget_1 : decode cX4_hasTarget 1 = .ok (.iload_n 1, 1) := by decide +kernel
theorem dX4_hasTarget_2 : decode cX4_hasTarget 2 = .ok (.iconst 3, 1) := by decide +kernel
theorem dX4_hasTarget_3 : decode cX4_hasTarget 3 = .ok (.invokevirtual 28, 3) := by decide +kernel
theorem dX4_hasTarget_6 : decode cX4_hasTarget 6 = .ok (.bipush (-100), 2) := by decide +kernel
theorem dX4_hasTarget_8 : decode cX4_hasTarget 8 = .ok (.if_icmp .eq 7, 3) := by decide +kernel
theorem dX4_hasTarget_11 : decode cX4_hasTarget 11 = .ok (.iconst 1, 1) := by decide +kernel
theorem dX4_hasTarget_12 : decode cX4_hasTarget 12 = .ok (.goto 4, 3) := by decide +kernel
theorem dX4_hasTarget_15 : decode cX4_hasTarget 15 = .ok (.iconst 0, 1) := by decide +kernel
theorem dX4_hasTarget_16 : decode cX4_hasTarget 16 = .ok (.ireturn, 1) := by decide +kernel
set_option maxRecDepth 20000 in
theorem ggX4_isBlocked_X4_hasTarget : GoodIn wsX4_isBlocked wsX4_hasTarget := goodIn_r _ [5, 6, 7, 8, 4, 9, 10, 35, 36, 37, 38, 39, 40] (by decide +kernel) (by decide +kernel)
set_option maxRecDepth 20000 in
theorem gX4_isBlocked_X4_hasTarget : GoodIn wsX4_isBlocked (wsV RX4 50 RX4 yX4_hasTarget wsX4_hasTarget) := goodIn_app (goodIn_of _ (by decide +kernel)) ggX4_isBlocked_X4_hasTarget
set_option maxRecDepth 20000 in
theorem ggX4_isBlocked_X4_isOnStep : GoodIn wsX4_isBlocked wsX4_isOnStep := goodIn_r _ [14, 6, 7, 8, 4, 9, 10, 35, 36, 37, 38, 39, 40] (by decide +kernel) (by decide +kernel)
set_option maxRecDepth 20000 in
theorem gX4_isBlocked_X4_isOnStep : GoodIn wsX4_isBlocked (wsV RX4 35 RX4 yX4_isOnStep wsX4_isOnStep) := goodIn_app (goodIn_of _ (by decide +kernel)) ggX4_isBlocked_X4_isOnStep
set_option maxRecDepth 20000 in
theorem ggX4_isBlocked_X4_inWay : GoodIn wsX4_isBlocked wsX4_inWay := goodIn_r _ [18, 10, 19, 20, 21, 4, 22, 6, 7, 8, 9, 23, 24, 25, 26, 27, 28, 29, 30, 11, 12, 13, 14, 31, 32, 33, 34, 35, 36, 37, 38, 39, 40] (by decide +kernel) (by decide +kernel)
set_option maxRecDepth 20000 in
theorem gX4_isBlocked_X4_inWay : GoodIn wsX4_isBlocked (wsV RX4 53 RX4 yX4_inWay wsX4_inWay) := goodIn_app (goodIn_of _ (by decide +kernel)) ggX4_isBlocked_X4_inWay
theorem dX4_isBlocked_0 : decode cX4_isBlocked 0 = .ok (.aload_n 0, 1) := by decide +kernel
theorem dX4_isBlocked_1 : decode cX4_isBlocked 1 = .ok (.iload_n 1, 1) := by decide +kernel
theorem dX4_isBlocked_2 : decode cX4_isBlocked 2 = .ok (.invokevirtual 50, 3) := by decide +kernel
theorem dX4_isBlocked_5 : decode cX4_isBlocked 5 = .ok (.ifCond .eq 25, 3) := by decide +kernel
theorem dX4_isBlocked_8 : decode cX4_isBlocked 8 = .ok (.aload_n 0, 1) := by decide +kernel
theorem dX4_isBlocked_9 : decode cX4_isBlocked 9 = .ok (.iload_n 1, 1) := by decide +kernel
theorem dX4_isBlocked_10 : decode cX4_isBlocked 10 = .ok (.invokevirtual 35, 3) := by decide +kernel
theorem dX4_isBlocked_13 : decode cX4_isBlocked 13 = .ok (.ifCond .ne 17, 3) := by decide +kernel
theorem dX4_isBlocked_16 : decode cX4_isBlocked 16 = .ok (.aload_n 0, 1) := by decide +kernel
theorem dX4_isBlocked_17 : decode cX4_isBlocked 17 = .ok (.iload_n 1, 1) := by decide +kernel
theorem dX4_isBlocked_18 : decode cX4_isBlocked 18 = .ok (.invokevirtual 53, 3) := by decide +kernel
theorem dX4_isBlocked_21 : decode cX4_isBlocked 21 = .ok (.bipush (-100), 2) := by decide +kernel
theorem dX4_isBlocked_23 : decode cX4_isBlocked 23 = .ok (.if_icmp .eq 7, 3) := by decide +kernel
theorem dX4_isBlocked_26 : decode cX4_isBlocked 26 = .ok (.iconst 1, 1) := by decide +kernel
theorem dX4_isBlocked_27 : decode cX4_isBlocked 27 = .ok (.goto 4, 3) := by decide +kernel
theorem dX4_isBlocked_30 : decode cX4_isBlocked 30 = .ok (.iconst 0, 1) := by decide +kernel
theorem dX4_isBlocked_31 : decode cX4_isBlocked 31 = .ok (.ireturn, 1) := by decide +kernel
set_option maxRecDepth 20000 in
theorem ggX4_addCrane_X4_isAngle : GoodIn wsX4_addCrane wsX4_isAngle := goodIn_r _ [5, 6, 7, 4, 8] (by decide +kernel) (by decide +kernel)
set_option maxRecDepth 20000 in
theorem gX4_addCrane_X4_isAngle : GoodIn wsX4_addCrane (va_wsS RX4 56 yX4_isAngle wsX4_isAngle) := goodIn_app (goodIn_of _ (by decide +kernel)) ggX4_addCrane_X4_isAngle
set_option maxRecDepth 20000 in
theorem ggX4_addCrane_X4_in : GoodIn wsX4_addCrane wsX4_in := goodIn_r _ [8] (by decide +kernel) (by decide +kernel)
set_option maxRecDepth 20000 in
theorem gX4_addCrane_X4_in : GoodIn wsX4_addCrane (va_wsS RX4 24 yX4_in wsX4_in) := goodIn_app (goodIn_of _ (by decide +kernel)) ggX4_addCrane_X4_in
set_option maxRecDepth 20000 in
theorem ggX4_addCrane_X4_saves : GoodIn wsX4_addCrane wsX4_saves := goodIn_r _ [12, 13, 14, 15, 16, 4, 17, 1, 22, 23, 24, 25, 26, 27] (by decide +kernel) (by decide +kernel)
set_option maxRecDepth 20000 in
theorem gX4_addCrane_X4_saves : GoodIn wsX4_addCrane (wsV RX4 59 RX4 yX4_saves wsX4_saves) := goodIn_app (goodIn_of _ (by decide +kernel)) ggX4_addCrane_X4_saves
set_option maxRecDepth 20000 in
theorem ggX4_addCrane_X4_sets : GoodIn wsX4_addCrane wsX4_sets := goodIn_r _ [21, 1, 22, 23, 24, 25, 26, 27] (by decide +kernel) (by decide +kernel)
set_option maxRecDepth 20000 in
theorem gX4_addCrane_X4_sets : GoodIn wsX4_addCrane (wsV RX4 62 RX4 yX4_sets wsX4_sets) := goodIn_app (goodIn_of _ (by decide +kernel)) ggX4_addCrane_X4_sets
theorem dX4_addCrane_0 : decode cX4_addCrane 0 = .ok (.iload_n 1, 1) := by decide +kernel
theorem dX4_addCrane_1 : decode cX4_addCrane 1 = .ok (.invokestatic 56, 3) := by decide +kernel
theorem dX4_addCrane_4 : decode cX4_addCrane 4 = .ok (.ifCond .eq 22, 3) := by decide +kernel
theorem dX4_addCrane_7 : decode cX4_addCrane 7 = .ok (.iload_n 2, 1) := by decide +kernel
theorem dX4_addCrane_8 : decode cX4_addCrane 8 = .ok (.iconst 1, 1) := by decide +kernel
theorem dX4_addCrane_9 : decode cX4_addCrane 9 = .ok (.iconst 5, 1) := by decide +kernel
theorem dX4_addCrane_10 : decode cX4_addCrane 10 = .ok (.invokestatic 24, 3) := by decide +kernel
theorem dX4_addCrane_13 : decode cX4_addCrane 13 = .ok (.ifCond .eq 13, 3) := by decide +kernel
theorem dX4_addCrane_16 : decode cX4_addCrane 16 = .ok (.iload_n 3, 1) := by decide +kernel
theorem dX4_addCrane_17 : decode cX4_addCrane 17 = .ok (.iconst 0, 1) := by decide +kernel
theorem dX4_addCrane_18 : decode cX4_addCrane 18 = .ok (.bipush 9, 2) := by decide +kernel
theorem dX4_addCrane_20 : decode cX4_addCrane 20 = .ok (.invokestatic 24, 3) := by decide +kernel
theorem dX4_addCrane_23 : decode cX4_addCrane 23 = .ok (.ifCond .ne 6, 3) := by decide +kernel
theorem dX4_addCrane_26 : decode cX4_addCrane 26 = .ok (.bipush (-102), 2) := by decide +kernel
theorem dX4_addCrane_28 : decode cX4_addCrane 28 = .ok (.ireturn, 1) := by decide +kernel
theorem dX4_addCrane_29 : decode cX4_addCrane 29 = .ok (.aload_n 0, 1) := by decide +kernel
theorem dX4_addCrane_30 : decode cX4_addCrane 30 = .ok (.getfield 7, 3) := by decide +kernel
theorem dX4_addCrane_33 : decode cX4_addCrane 33 = .ok (.iconst 2, 1) := by decide +kernel
theorem dX4_addCrane_34 : decode cX4_addCrane 34 = .ok (.iaload, 1) := by decide +kernel
theorem dX4_addCrane_35 : decode cX4_addCrane 35 = .ok (.iconst 4, 1) := by decide +kernel
theorem dX4_addCrane_36 : decode cX4_addCrane 36 = .ok (.if_icmp .ne 6, 3) := by decide +kernel
theorem dX4_addCrane_39 : decode cX4_addCrane 39 = .ok (.bipush (-104), 2) := by decide +kernel
theorem dX4_addCrane_41 : decode cX4_addCrane 41 = .ok (.ireturn, 1) := by decide +kernel
theorem dX4_addCrane_42 : decode cX4_addCrane 42 = .ok (.aload_n 0, 1) := by decide +kernel
theorem dX4_addCrane_43 : decode cX4_addCrane 43 = .ok (.invokevirtual 59, 3) := by decide +kernel
theorem dX4_addCrane_46 : decode cX4_addCrane 46 = .ok (.aload_n 0, 1) := by decide +kernel
theorem dX4_addCrane_47 : decode cX4_addCrane 47 = .ok (.getfield 7, 3) := by decide +kernel
theorem dX4_addCrane_50 : decode cX4_addCrane 50 = .ok (.iconst 2, 1) := by decide +kernel
theorem dX4_addCrane_51 : decode cX4_addCrane 51 = .ok (.iaload, 1) := by decide +kernel
theorem dX4_addCrane_52 : decode cX4_addCrane 52 = .ok (.istore 4, 2) := by decide +kernel
theorem dX4_addCrane_54 : decode cX4_addCrane 54 = .ok (.iconst 0, 1) := by decide +kernel
theorem dX4_addCrane_55 : decode cX4_addCrane 55 = .ok (.istore 5, 2) := by decide +kernel
theorem dX4_addCrane_57 : decode cX4_addCrane 57 = .ok (.iload 5, 2) := by decide +kernel
theorem dX4_addCrane_59 : decode cX4_addCrane 59 = .ok (.bipush 21, 2) := by decide +kernel
theorem dX4_addCrane_61 : decode cX4_addCrane 61 = .ok (.if_icmp .ge 36, 3) := by decide +kernel
theorem dX4_addCrane_64 : decode cX4_addCrane 64 = .ok (.aload_n 0, 1) := by decide +kernel
theorem dX4_addCrane_65 : decode cX4_addCrane 65 = .ok (.iload 4, 2) := by decide +kernel
theorem dX4_addCrane_67 : decode cX4_addCrane 67 = .ok (.iload 5, 2) := by decide +kernel
theorem dX4_addCrane_69 : decode cX4_addCrane 69 = .ok (.iload 5, 2) := by decide +kernel
theorem dX4_addCrane_71 : decode cX4_addCrane 71 = .ok (.bipush 9, 2) := by decide +kernel
theorem dX4_addCrane_73 : decode cX4_addCrane 73 = .ok (.if_icmp .ge 9, 3) := by decide +kernel
theorem dX4_addCrane_76 : decode cX4_addCrane 76 = .ok (.iload 5, 2) := by decide +kernel
theorem dX4_addCrane_78 : decode cX4_addCrane 78 = .ok (.iconst 3, 1) := by decide +kernel
theorem dX4_addCrane_79 : decode cX4_addCrane 79 = .ok (.if_icmp .ne 8, 3) := by decide +kernel
theorem dX4_addCrane_82 : decode cX4_addCrane 82 = .ok (.bipush (-100), 2) := by decide +kernel
theorem dX4_addCrane_84 : decode cX4_addCrane 84 = .ok (.goto 4, 3) := by decide +kernel
theorem dX4_addCrane_87 : decode cX4_addCrane 87 = .ok (.iconst 0, 1) := by decide +kernel
theorem dX4_addCrane_88 : decode cX4_addCrane 88 = .ok (.invokevirtual 62, 3) := by decide +kernel
theorem dX4_addCrane_91 : decode cX4_addCrane 91 = .ok (.iinc 5 1, 3) := by decide +kernel
theorem dX4_addCrane_94 : decode cX4_addCrane 94 = .ok (.goto (-37), 3) := by decide +kernel
theorem dX4_addCrane_97 : decode cX4_addCrane 97 = .ok (.aload_n 0, 1) := by decide +kernel
theorem dX4_addCrane_98 : decode cX4_addCrane 98 = .ok (.iload 4, 2) := by decide +kernel
theorem dX4_addCrane_100 : decode cX4_addCrane 100 = .ok (.iconst 0, 1) := by decide +kernel
theorem dX4_addCrane_101 : decode cX4_addCrane 101 = .ok (.iload_n 1, 1) := by decide +kernel
theorem dX4_addCrane_102 : decode cX4_addCrane 102 = .ok (.invokevirtual 62, 3) := by decide +kernel
theorem dX4_addCrane_105 : decode cX4_addCrane 105 = .ok (.aload_n 0, 1) := by decide +kernel
theorem dX4_addCrane_106 : decode cX4_addCrane 106 = .ok (.iload 4, 2) := by decide +kernel
theorem dX4_addCrane_108 : decode cX4_addCrane 108 = .ok (.iconst 1, 1) := by decide +kernel
theorem dX4_addCrane_109 : decode cX4_addCrane 109 = .ok (.iload_n 2, 1) := by decide +kernel
theorem dX4_addCrane_110 : decode cX4_addCrane 110 = .ok (.invokevirtual 62, 3) := by decide +kernel
theorem dX4_addCrane_113 : decode cX4_addCrane 113 = .ok (.aload_n 0, 1) := by decide +kernel
theorem dX4_addCrane_114 : decode cX4_addCrane 114 = .ok (.iload 4, 2) := by decide +kernel
theorem dX4_addCrane_116 : decode cX4_addCrane 116 = .ok (.iconst 2, 1) := by decide +kernel
theorem dX4_addCrane_117 : decode cX4_addCrane 117 = .ok (.iload_n 3, 1) := by decide +kernel
theorem dX4_addCrane_118 : decode cX4_addCrane 118 = .ok (.invokevirtual 62, 3) := by decide +kernel
theorem dX4_addCrane_121 : decode cX4_addCrane 121 = .ok (.aload_n 0, 1) := by decide +kernel
theorem dX4_addCrane_122 : decode cX4_addCrane 122 = .ok (.getfield 7, 3) := by decide +kernel
theorem dX4_addCrane_125 : decode cX4_addCrane 125 = .ok (.iconst 2, 1) := by decide +kernel
theorem dX4_addCrane_126 : decode cX4_addCrane 126 = .ok (.dup2, 1) := by decide +kernel
theorem dX4_addCrane_127 : decode cX4_addCrane 127 = .ok (.iaload, 1) := by decide +kernel
theorem dX4_addCrane_128 : decode cX4_addCrane 128 = .ok (.iconst 1, 1) := by decide +kernel
theorem dX4_addCrane_129 : decode cX4_addCrane 129 = .ok (.iadd, 1) := by decide +kernel
theorem dX4_addCrane_130 : decode cX4_addCrane 130 = .ok (.iastore, 1) := by decide +kernel
theorem dX4_addCrane_131 : decode cX4_addCrane 131 = .ok (.iload 4, 2) := by decide +kernel
theorem dX4_addCrane_133 : decode cX4_addCrane 133 = .ok (.ireturn, 1) := by decide +kernel
set_option maxRecDepth 20000 in
theorem ggX4_setPriority_X4_isCrane : GoodIn wsX4_setPriority wsX4_isCrane := goodIn_r _ [5, 6, 7, 8, 4, 9, 27, 28, 29, 30, 31, 32] (by decide +kernel) (by decide +kernel)
set_option maxRecDepth 20000 in
theorem gX4_setPriority_X4_isCrane : GoodIn wsX4_setPriority (wsV RX4 66 RX4 yX4_isCrane wsX4_isCrane) := goodIn_app (goodIn_of _ (by decide +kernel)) ggX4_setPriority_X4_isCrane
set_option maxRecDepth 20000 in
theorem ggX4_setPriority_X4_in : GoodIn wsX4_setPriority wsX4_in := goodIn_r _ [9] (by decide +kernel) (by decide +kernel)
set_option maxRecDepth 20000 in
theorem gX4_setPriority_X4_in : GoodIn wsX4_setPriority (va_wsS RX4 24 yX4_in wsX4_in) := goodIn_app (goodIn_of _ (by decide +kernel)) ggX4_setPriority_X4_in
set_option maxRecDepth 20000 in
theorem ggX4_setPriority_X4_saves : GoodIn wsX4_setPriority wsX4_saves := goodIn_r _ [13, 14, 15, 16, 17, 4, 18, 6, 27, 28, 29, 30, 31, 32] (by decide +kernel) (by decide +kernel)
set_option maxRecDepth 20000 in
theorem gX4_setPriority_X4_saves : GoodIn wsX4_setPriority (wsV RX4 59 RX4 yX4_saves wsX4_saves) := goodIn_app (goodIn_of _ (by decide +kernel)) ggX4_setPriority_X4_saves
set_option maxRecDepth 20000 in
theorem ggX4_setPriority_X4_of : GoodIn wsX4_setPriority wsX4_of := goodIn_r _ [22, 6, 27, 28, 29, 30, 31, 32] (by decide +kernel) (by decide +kernel)
set_option maxRecDepth 20000 in
theorem gX4_setPriority_X4_of : GoodIn wsX4_setPriority (wsV RX4 28 RX4 yX4_of wsX4_of) := goodIn_app (goodIn_of _ (by decide +kernel)) ggX4_setPriority_X4_of
set_option maxRecDepth 20000 in
theorem ggX4_setPriority_X4_sets : GoodIn wsX4_setPriority wsX4_sets := goodIn_r _ [26, 6, 27, 28, 29, 30, 31, 32] (by decide +kernel) (by decide +kernel)
set_option maxRecDepth 20000 in
theorem gX4_setPriority_X4_sets : GoodIn wsX4_setPriority (wsV RX4 62 RX4 yX4_sets wsX4_sets) := goodIn_app (goodIn_of _ (by decide +kernel)) ggX4_setPriority_X4_sets
theorem dX4_setPriority_0 : decode cX4_setPriority 0 = .ok (.aload_n 0, 1) := by decide +kernel
theorem dX4_setPriority_1 : decode cX4_setPriority 1 = .ok (.iload_n 1, 1) := by decide +kernel
theorem dX4_setPriority_2 : decode cX4_setPriority 2 = .ok (.invokevirtual 66, 3) := by decide +kernel
theorem dX4_setPriority_5 : decode cX4_setPriority 5 = .ok (.ifCond .ne 6, 3) := by decide +kernel
theorem dX4_setPriority_8 : decode cX4_setPriority 8 = .ok (.bipush (-101), 2) := by decide +kernel
theorem dX4_setPriority_10 : decode cX4_setPriority 10 = .ok (.ireturn, 1) := by decide +kernel
theorem dX4_setPriority_11 : decode cX4_setPriority 11 = .ok (.iload_n 2, 1) := by decide +kernel
theorem dX4_setPriority_12 : decode cX4_setPriority 12 = .ok (.iconst 0, 1) := by decide +kernel
theorem dX4_setPriority_13 : decode cX4_setPriority 13 = .ok (.bipush 9, 2) := by decide +kernel
theorem dX4_setPriority_15 : decode cX4_setPriority 15 = .ok (.invokestatic 24, 3) := by decide +kernel
theorem dX4_setPriority_18 : decode cX4_setPriority 18 = .ok (.ifCond .ne 6, 3) := by decide +kernel
theorem dX4_setPriority_21 : decode cX4_setPriority 21 = .ok (.bipush (-102), 2) := by decide +kernel
theorem dX4_setPriority_23 : decode cX4_setPriority 23 = .ok (.ireturn, 1) := by decide +kernel
theorem dX4_setPriority_24 : decode cX4_setPriority 24 = .ok (.aload_n 0, 1) := by decide +kernel
theorem dX4_setPriority_25 : decode cX4_setPriority 25 = .ok (.invokevirtual 59, 3) := by decide +kernel
theorem dX4_setPriority_28 : decode cX4_setPriority 28 = .ok (.aload_n 0, 1) := by decide +kernel
theorem dX4_setPriority_29 : decode cX4_setPriority 29 = .ok (.iload_n 1, 1) := by decide +kernel
theorem dX4_setPriority_30 : decode cX4_setPriority 30 = .ok (.iconst 2, 1) := by decide +kernel
theorem dX4_setPriority_31 : decode cX4_setPriority 31 = .ok (.invokevirtual 28, 3) := by decide +kernel
theorem dX4_setPriority_34 : decode cX4_setPriority 34 = .ok (.istore_n 3, 1) := by decide +kernel
theorem dX4_setPriority_35 : decode cX4_setPriority 35 = .ok (.aload_n 0, 1) := by decide +kernel
theorem dX4_setPriority_36 : decode cX4_setPriority 36 = .ok (.iload_n 1, 1) := by decide +kernel
theorem dX4_setPriority_37 : decode cX4_setPriority 37 = .ok (.iconst 2, 1) := by decide +kernel
theorem dX4_setPriority_38 : decode cX4_setPriority 38 = .ok (.iload_n 2, 1) := by decide +kernel
theorem dX4_setPriority_39 : decode cX4_setPriority 39 = .ok (.invokevirtual 62, 3) := by decide +kernel
theorem dX4_setPriority_42 : decode cX4_setPriority 42 = .ok (.iload_n 3, 1) := by decide +kernel
theorem dX4_setPriority_43 : decode cX4_setPriority 43 = .ok (.ireturn, 1) := by decide +kernel
set_option maxRecDepth 20000 in
theorem ggX4_occupiers_X4_occupies : GoodIn wsX4_occupiers wsX4_occupies := goodIn_r _ [6, 7, 8, 9, 5, 10, 1, 11, 12, 13, 14, 15, 16, 17, 18, 19, 20, 21, 22, 23, 24, 25, 26, 27, 28, 29, 30, 31, 32] (by decide +kernel) (by decide +kernel)
set_option maxRecDepth 20000 in
theorem gX4_occupiers_X4_occupies : GoodIn wsX4_occupiers (wsV RX4 47 RX4 yX4_occupies wsX4_occupies) := goodIn_app (goodIn_of _ (by decide +kernel)) ggX4_occupiers_X4_occupies
theorem dX4_occupiers_0 : decode cX4_occupiers 0 = .ok (.iconst 0, 1) := by decide +kernel
theorem dX4_occupiers_1 : decode cX4_occupiers 1 = .ok (.istore_n 2, 1) := by decide +kernel
theorem dX4_occupiers_2 : decode cX4_occupiers 2 = .ok (.iconst 0, 1) := by decide +kernel
theorem dX4_occupiers_3 : decode cX4_occupiers 3 = .ok (.istore_n 3, 1) := by decide +kernel
theorem dX4_occupiers_4 : decode cX4_occupiers 4 = .ok (.iload_n 3, 1) := by decide +kernel
theorem dX4_occupiers_5 : decode cX4_occupiers 5 = .ok (.aload_n 0, 1) := by decide +kernel
theorem dX4_occupiers_6 : decode cX4_occupiers 6 = .ok (.getfield 7, 3) := by decide +kernel
theorem dX4_occupiers_9 : decode cX4_occupiers 9 = .ok (.iconst 2, 1) := by decide +kernel
theorem dX4_occupiers_10 : decode cX4_occupiers 10 = .ok (.iaload, 1) := by decide +kernel
theorem dX4_occupiers_11 : decode cX4_occupiers 11 = .ok (.if_icmp .ge 28, 3) := by decide +kernel
theorem dX4_occupiers_14 : decode cX4_occupiers 14 = .ok (.iload_n 2, 1) := by decide +kernel
theorem dX4_occupiers_15 : decode cX4_occupiers 15 = .ok (.aload_n 0, 1) := by decide +kernel
theorem dX4_occupiers_16 : decode cX4_occupiers 16 = .ok (.iload_n 3, 1) := by decide +kernel
theorem dX4_occupiers_17 : decode cX4_occupiers 17 = .ok (.iload_n 1, 1) := by decide +kernel
theorem dX4_occupiers_18 : decode cX4_occupiers 18 = .ok (.invokevirtual 47, 3) := by decide +kernel
theorem dX4_occupiers_21 : decode cX4_occupiers 21 = .ok (.ifCond .eq 9, 3) := by decide +kernel
theorem dX4_occupiers_24 : decode cX4_occupiers 24 = .ok (.iconst 1, 1) := by decide +kernel
theorem dX4_occupiers_25 : decode cX4_occupiers 25 = .ok (.iload_n 3, 1) := by decide +kernel
theorem dX4_occupiers_26 : decode cX4_occupiers 26 = .ok (.ishl, 1) := by decide +kernel
theorem dX4_occupiers_27 : decode cX4_occupiers 27 = .ok (.goto 4, 3) := by decide +kernel
theorem dX4_occupiers_30 : decode cX4_occupiers 30 = .ok (.iconst 0, 1) := by decide +kernel
theorem dX4_occupiers_31 : decode cX4_occupiers 31 = .ok (.ior, 1) := by decide +kernel
theorem dX4_occupiers_32 : decode cX4_occupiers 32 = .ok (.istore_n 2, 1) := by decide +kernel
theorem dX4_occupiers_33 : decode cX4_occupiers 33 = .ok (.iinc 3 1, 3) := by decide +kernel
theorem dX4_occupiers_36 : decode cX4_occupiers 36 = .ok (.goto (-32), 3) := by decide +kernel
theorem dX4_occupiers_39 : decode cX4_occupiers 39 = .ok (.iload_n 2, 1) := by decide +kernel
theorem dX4_occupiers_40 : decode cX4_occupiers 40 = .ok (.ireturn, 1) := by decide +kernel
set_option maxRecDepth 20000 in
theorem ggX4_isConflict_X4_occupiers : GoodIn wsX4_isConflict wsX4_occupiers := goodIn_r _ [5, 6, 7, 8, 9, 4, 10, 11, 12, 13, 14, 15, 16, 17, 18, 19, 20, 21, 22, 23, 24, 25, 26, 27, 28, 29, 30, 31, 32, 33, 34, 35, 36] (by decide +kernel) (by decide +kernel)
set_option maxRecDepth 20000 in
theorem gX4_isConflict_X4_occupiers : GoodIn wsX4_isConflict (wsV RX4 69 RX4 yX4_occupiers wsX4_occupiers) := goodIn_app (goodIn_of _ (by decide +kernel)) ggX4_isConflict_X4_occupiers
theorem dX4_isConflict_0 : decode cX4_isConflict 0 = .ok (.aload_n 0, 1) := by decide +kernel
theorem dX4_isConflict_1 : decode cX4_isConflict 1 = .ok (.iload_n 1, 1) := by decide +kernel
theorem dX4_isConflict_2 : decode cX4_isConflict 2 = .ok (.invokevirtual 69, 3) := by decide +kernel
theorem dX4_isConflict_5 : decode cX4_isConflict 5 = .ok (.istore_n 2, 1) := by decide +kernel
theorem dX4_isConflict_6 : decode cX4_isConflict 6 = .ok (.iload_n 2, 1) := by decide +kernel
theorem dX4_isConflict_7 : decode cX4_isConflict 7 = .ok (.iload_n 2, 1) := by decide +kernel
theorem dX4_isConflict_8 : decode cX4_isConflict 8 = .ok (.iconst 1, 1) := by decide +kernel
theorem dX4_isConflict_9 : decode cX4_isConflict 9 = .ok (.isub, 1) := by decide +kernel
theorem dX4_isConflict_10 : decode cX4_isConflict 10 = .ok (.iand, 1) := by decide +kernel
theorem dX4_isConflict_11 : decode cX4_isConflict 11 = .ok (.ifCond .eq 7, 3) := by decide +kernel
theorem dX4_isConflict_14 : decode cX4_isConflict 14 = .ok (.iconst 1, 1) := by decide +kernel
theorem dX4_isConflict_15 : decode cX4_isConflict 15 = .ok (.goto 4, 3) := by decide +kernel
theorem dX4_isConflict_18 : decode cX4_isConflict 18 = .ok (.iconst 0, 1) := by decide +kernel
theorem dX4_isConflict_19 : decode cX4_isConflict 19 = .ok (.ireturn, 1) := by decide +kernel
set_option maxRecDepth 20000 in
theorem ggX4_setArc_X4_isCrane : GoodIn wsX4_setArc wsX4_isCrane := goodIn_r _ [5, 6, 7, 8, 4, 9, 61, 62, 63, 64, 65, 66] (by decide +kernel) (by decide +kernel)
set_option maxRecDepth 20000 in
theorem gX4_setArc_X4_isCrane : GoodIn wsX4_setArc (wsV RX4 66 RX4 yX4_isCrane wsX4_isCrane) := goodIn_app (goodIn_of _ (by decide +kernel)) ggX4_setArc_X4_isCrane
set_option maxRecDepth 20000 in
theorem ggX4_setArc_X4_isZone : GoodIn wsX4_setArc wsX4_isZone := goodIn_r _ [12, 7, 8, 4, 9] (by decide +kernel) (by decide +kernel)
set_option maxRecDepth 20000 in
theorem gX4_setArc_X4_isZone : GoodIn wsX4_setArc (va_wsS RX4 72 yX4_isZone wsX4_isZone) := goodIn_app (goodIn_of _ (by decide +kernel)) ggX4_setArc_X4_isZone
set_option maxRecDepth 20000 in
theorem ggX4_setArc_X4_isAngle : GoodIn wsX4_setArc wsX4_isAngle := goodIn_r _ [15, 7, 8, 4, 9] (by decide +kernel) (by decide +kernel)
set_option maxRecDepth 20000 in
theorem gX4_setArc_X4_isAngle : GoodIn wsX4_setArc (va_wsS RX4 56 yX4_isAngle wsX4_isAngle) := goodIn_app (goodIn_of _ (by decide +kernel)) ggX4_setArc_X4_isAngle
set_option maxRecDepth 20000 in
theorem ggX4_setArc_X4_of : GoodIn wsX4_setArc wsX4_of := goodIn_r _ [19, 6, 61, 62, 63, 64, 65, 66] (by decide +kernel) (by decide +kernel)
set_option maxRecDepth 20000 in
theorem gX4_setArc_X4_of : GoodIn wsX4_setArc (wsV RX4 28 RX4 yX4_of wsX4_of) := goodIn_app (goodIn_of _ (by decide +kernel)) ggX4_setArc_X4_of
set_option maxRecDepth 20000 in
theorem ggX4_setArc_X4_isConflict : GoodIn wsX4_setArc wsX4_isConflict := goodIn_r _ [23, 24, 25, 26, 4, 27, 6, 28, 29, 30, 31, 16, 17, 18, 19, 32, 33, 34, 35, 36, 37, 38, 39, 40, 41, 42, 43, 44, 45, 46, 47, 61, 62, 63, 64, 65, 66] (by decide +kernel) (by decide +kernel)
set_option maxRecDepth 20000 in
theorem gX4_setArc_X4_isConflict : GoodIn wsX4_setArc (wsV RX4 75 RX4 yX4_isConflict wsX4_isConflict) := goodIn_app (goodIn_of _ (by decide +kernel)) ggX4_setArc_X4_isConflict
set_option maxRecDepth 20000 in
theorem ggX4_setArc_X4_sets : GoodIn wsX4_setArc wsX4_sets := goodIn_r _ [51, 6, 61, 62, 63, 64, 65, 66] (by decide +kernel) (by decide +kernel)
set_option maxRecDepth 20000 in
theorem gX4_setArc_X4_sets : GoodIn wsX4_setArc (wsV RX4 62 RX4 yX4_sets wsX4_sets) := goodIn_app (goodIn_of _ (by decide +kernel)) ggX4_setArc_X4_sets
set_option maxRecDepth 20000 in
theorem ggX4_setArc_X4_saves : GoodIn wsX4_setArc wsX4_saves := goodIn_r _ [55, 56, 57, 58, 59, 4, 60, 6, 61, 62, 63, 64, 65, 66] (by decide +kernel) (by decide +kernel)
set_option maxRecDepth 20000 in
theorem gX4_setArc_X4_saves : GoodIn wsX4_setArc (wsV RX4 59 RX4 yX4_saves wsX4_saves) := goodIn_app (goodIn_of _ (by decide +kernel)) ggX4_setArc_X4_saves
theorem dX4_setArc_0 : decode cX4_setArc 0 = .ok (.aload_n 0, 1) := by decide +kernel
theorem dX4_setArc_1 : decode cX4_setArc 1 = .ok (.iload_n 1, 1) := by decide +kernel
theorem dX4_setArc_2 : decode cX4_setArc 2 = .ok (.invokevirtual 66, 3) := by decide +kernel
theorem dX4_setArc_5 : decode cX4_setArc 5 = .ok (.ifCond .eq 10, 3) := by decide +kernel
theorem dX4_setArc_8 : decode cX4_setArc 8 = .ok (.iload_n 2, 1) := by decide +kernel
theorem dX4_setArc_9 : decode cX4_setArc 9 = .ok (.invokestatic 72, 3) := by decide +kernel
theorem dX4_setArc_12 : decode cX4_setArc 12 = .ok (.ifCond .ne 6, 3) := by decide +kernel
theorem dX4_setArc_15 : decode cX4_setArc 15 = .ok (.bipush (-101), 2) := by decide +kernel
theorem dX4_setArc_17 : decode cX4_setArc 17 = .ok (.ireturn, 1) := by decide +kernel
theorem dX4_setArc_18 : decode cX4_setArc 18 = .ok (.iload_n 3, 1) := by decide +kernel
theorem dX4_setArc_19 : decode cX4_setArc 19 = .ok (.invokestatic 56, 3) := by decide +kernel
theorem dX4_setArc_22 : decode cX4_setArc 22 = .ok (.ifCond .eq 11, 3) := by decide +kernel
theorem dX4_setArc_25 : decode cX4_setArc 25 = .ok (.iload 4, 2) := by decide +kernel
theorem dX4_setArc_27 : decode cX4_setArc 27 = .ok (.invokestatic 56, 3) := by decide +kernel
theorem dX4_setArc_30 : decode cX4_setArc 30 = .ok (.ifCond .ne 6, 3) := by decide +kernel
theorem dX4_setArc_33 : decode cX4_setArc 33 = .ok (.bipush (-102), 2) := by decide +kernel
theorem dX4_setArc_35 : decode cX4_setArc 35 = .ok (.ireturn, 1) := by decide +kernel
theorem dX4_setArc_36 : decode cX4_setArc 36 = .ok (.aload_n 0, 1) := by decide +kernel
theorem dX4_setArc_37 : decode cX4_setArc 37 = .ok (.iload_n 1, 1) := by decide +kernel
theorem dX4_setArc_38 : decode cX4_setArc 38 = .ok (.bipush 7, 2) := by decide +kernel
theorem dX4_setArc_40 : decode cX4_setArc 40 = .ok (.invokevirtual 28, 3) := by decide +kernel
theorem dX4_setArc_43 : decode cX4_setArc 43 = .ok (.iconst 1, 1) := by decide +kernel
theorem dX4_setArc_44 : decode cX4_setArc 44 = .ok (.if_icmp .ne 6, 3) := by decide +kernel
theorem dX4_setArc_47 : decode cX4_setArc 47 = .ok (.bipush (-103), 2) := by decide +kernel
theorem dX4_setArc_49 : decode cX4_setArc 49 = .ok (.ireturn, 1) := by decide +kernel
theorem dX4_setArc_50 : decode cX4_setArc 50 = .ok (.aload_n 0, 1) := by decide +kernel
theorem dX4_setArc_51 : decode cX4_setArc 51 = .ok (.iload_n 1, 1) := by decide +kernel
theorem dX4_setArc_52 : decode cX4_setArc 52 = .ok (.bipush 9, 2) := by decide +kernel
theorem dX4_setArc_54 : decode cX4_setArc 54 = .ok (.iconst 2, 1) := by decide +kernel
theorem dX4_setArc_55 : decode cX4_setArc 55 = .ok (.iload_n 2, 1) := by decide +kernel
theorem dX4_setArc_56 : decode cX4_setArc 56 = .ok (.imul, 1) := by decide +kernel
theorem dX4_setArc_57 : decode cX4_setArc 57 = .ok (.iadd, 1) := by decide +kernel
theorem dX4_setArc_58 : decode cX4_setArc 58 = .ok (.invokevirtual 28, 3) := by decide +kernel
theorem dX4_setArc_61 : decode cX4_setArc 61 = .ok (.istore 5, 2) := by decide +kernel
theorem dX4_setArc_63 : decode cX4_setArc 63 = .ok (.aload_n 0, 1) := by decide +kernel
theorem dX4_setArc_64 : decode cX4_setArc 64 = .ok (.iload_n 1, 1) := by decide +kernel
theorem dX4_setArc_65 : decode cX4_setArc 65 = .ok (.bipush 9, 2) := by decide +kernel
theorem dX4_setArc_67 : decode cX4_setArc 67 = .ok (.iconst 2, 1) := by decide +kernel
theorem dX4_setArc_68 : decode cX4_setArc 68 = .ok (.iload_n 2, 1) := by decide +kernel
theorem dX4_setArc_69 : decode cX4_setArc 69 = .ok (.imul, 1) := by decide +kernel
theorem dX4_setArc_70 : decode cX4_setArc 70 = .ok (.iadd, 1) := by decide +kernel
theorem dX4_setArc_71 : decode cX4_setArc 71 = .ok (.iconst 1, 1) := by decide +kernel
theorem dX4_setArc_72 : decode cX4_setArc 72 = .ok (.iadd, 1) := by decide +kernel
theorem dX4_setArc_73 : decode cX4_setArc 73 = .ok (.invokevirtual 28, 3) := by decide +kernel
theorem dX4_setArc_76 : decode cX4_setArc 76 = .ok (.istore 6, 2) := by decide +kernel
theorem dX4_setArc_78 : decode cX4_setArc 78 = .ok (.aload_n 0, 1) := by decide +kernel
theorem dX4_setArc_79 : decode cX4_setArc 79 = .ok (.iload_n 2, 1) := by decide +kernel
theorem dX4_setArc_80 : decode cX4_setArc 80 = .ok (.invokevirtual 75, 3) := by decide +kernel
theorem dX4_setArc_83 : decode cX4_setArc 83 = .ok (.istore 7, 2) := by decide +kernel
theorem dX4_setArc_85 : decode cX4_setArc 85 = .ok (.aload_n 0, 1) := by decide +kernel
theorem dX4_setArc_86 : decode cX4_setArc 86 = .ok (.iload_n 1, 1) := by decide +kernel
theorem dX4_setArc_87 : decode cX4_setArc 87 = .ok (.bipush 9, 2) := by decide +kernel
theorem dX4_setArc_89 : decode cX4_setArc 89 = .ok (.iconst 2, 1) := by decide +kernel
theorem dX4_setArc_90 : decode cX4_setArc 90 = .ok (.iload_n 2, 1) := by decide +kernel
theorem dX4_setArc_91 : decode cX4_setArc 91 = .ok (.imul, 1) := by decide +kernel
theorem dX4_setArc_92 : decode cX4_setArc 92 = .ok (.iadd, 1) := by decide +kernel
theorem dX4_setArc_93 : decode cX4_setArc 93 = .ok (.iload_n 3, 1) := by decide +kernel
theorem dX4_setArc_94 : decode cX4_setArc 94 = .ok (.invokevirtual 62, 3) := by decide +kernel
theorem dX4_setArc_97 : decode cX4_setArc 97 = .ok (.aload_n 0, 1) := by decide +kernel
theorem dX4_setArc_98 : decode cX4_setArc 98 = .ok (.iload_n 1, 1) := by decide +kernel
theorem dX4_setArc_99 : decode cX4_setArc 99 = .ok (.bipush 9, 2) := by decide +kernel
theorem dX4_setArc_101 : decode cX4_setArc 101 = .ok (.iconst 2, 1) := by decide +kernel
theorem dX4_setArc_102 : decode cX4_setArc 102 = .ok (.iload_n 2, 1) := by decide +kernel
theorem dX4_setArc_103 : decode cX4_setArc 103 = .ok (.imul, 1) := by decide +kernel
theorem dX4_setArc_104 : decode cX4_setArc 104 = .ok (.iadd, 1) := by decide +kernel
theorem dX4_setArc_105 : decode cX4_setArc 105 = .ok (.iconst 1, 1) := by decide +kernel
theorem dX4_setArc_106 : decode cX4_setArc 106 = .ok (.iadd, 1) := by decide +kernel
theorem dX4_setArc_107 : decode cX4_setArc 107 = .ok (.iload 4, 2) := by decide +kernel
theorem dX4_setArc_109 : decode cX4_setArc 109 = .ok (.invokevirtual 62, 3) := by decide +kernel
theorem dX4_setArc_112 : decode cX4_setArc 112 = .ok (.aload_n 0, 1) := by decide +kernel
theorem dX4_setArc_113 : decode cX4_setArc 113 = .ok (.iload_n 2, 1) := by decide +kernel
theorem dX4_setArc_114 : decode cX4_setArc 114 = .ok (.invokevirtual 75, 3) := by decide +kernel
theorem dX4_setArc_117 : decode cX4_setArc 117 = .ok (.istore 8, 2) := by decide +kernel
theorem dX4_setArc_119 : decode cX4_setArc 119 = .ok (.aload_n 0, 1) := by decide +kernel
theorem dX4_setArc_120 : decode cX4_setArc 120 = .ok (.iload_n 1, 1) := by decide +kernel
theorem dX4_setArc_121 : decode cX4_setArc 121 = .ok (.bipush 9, 2) := by decide +kernel
theorem dX4_setArc_123 : decode cX4_setArc 123 = .ok (.iconst 2, 1) := by decide +kernel
theorem dX4_setArc_124 : decode cX4_setArc 124 = .ok (.iload_n 2, 1) := by decide +kernel
theorem dX4_setArc_125 : decode cX4_setArc 125 = .ok (.imul, 1) := by decide +kernel
theorem dX4_setArc_126 : decode cX4_setArc 126 = .ok (.iadd, 1) := by decide +kernel
theorem dX4_setArc_127 : decode cX4_setArc 127 = .ok (.iload 5, 2) := by decide +kernel
theorem dX4_setArc_129 : decode cX4_setArc 129 = .ok (.invokevirtual 62, 3) := by decide +kernel
theorem dX4_setArc_132 : decode cX4_setArc 132 = .ok (.aload_n 0, 1) := by decide +kernel
theorem dX4_setArc_133 : decode cX4_setArc 133 = .ok (.iload_n 1, 1) := by decide +kernel
theorem dX4_setArc_134 : decode cX4_setArc 134 = .ok (.bipush 9, 2) := by decide +kernel
theorem dX4_setArc_136 : decode cX4_setArc 136 = .ok (.iconst 2, 1) := by decide +kernel
theorem dX4_setArc_137 : decode cX4_setArc 137 = .ok (.iload_n 2, 1) := by decide +kernel
theorem dX4_setArc_138 : decode cX4_setArc 138 = .ok (.imul, 1) := by decide +kernel
theorem dX4_setArc_139 : decode cX4_setArc 139 = .ok (.iadd, 1) := by decide +kernel
theorem dX4_setArc_140 : decode cX4_setArc 140 = .ok (.iconst 1, 1) := by decide +kernel
theorem dX4_setArc_141 : decode cX4_setArc 141 = .ok (.iadd, 1) := by decide +kernel
theorem dX4_setArc_142 : decode cX4_setArc 142 = .ok (.iload 6, 2) := by decide +kernel
theorem dX4_setArc_144 : decode cX4_setArc 144 = .ok (.invokevirtual 62, 3) := by decide +kernel
theorem dX4_setArc_147 : decode cX4_setArc 147 = .ok (.iload 8, 2) := by decide +kernel
theorem dX4_setArc_149 : decode cX4_setArc 149 = .ok (.ifCond .eq 11, 3) := by decide +kernel
theorem dX4_setArc_152 : decode cX4_setArc 152 = .ok (.iload 7, 2) := by decide +kernel
theorem dX4_setArc_154 : decode cX4_setArc 154 = .ok (.ifCond .ne 6, 3) := by decide +kernel
theorem dX4_setArc_157 : decode cX4_setArc 157 = .ok (.bipush (-103), 2) := by decide +kernel
theorem dX4_setArc_159 : decode cX4_setArc 159 = .ok (.ireturn, 1) := by decide +kernel
theorem dX4_setArc_160 : decode cX4_setArc 160 = .ok (.aload_n 0, 1) := by decide +kernel
theorem dX4_setArc_161 : decode cX4_setArc 161 = .ok (.invokevirtual 59, 3) := by decide +kernel
theorem dX4_setArc_164 : decode cX4_setArc 164 = .ok (.aload_n 0, 1) := by decide +kernel
theorem dX4_setArc_165 : decode cX4_setArc 165 = .ok (.iload_n 1, 1) := by decide +kernel
theorem dX4_setArc_166 : decode cX4_setArc 166 = .ok (.bipush 9, 2) := by decide +kernel
theorem dX4_setArc_168 : decode cX4_setArc 168 = .ok (.iconst 2, 1) := by decide +kernel
theorem dX4_setArc_169 : decode cX4_setArc 169 = .ok (.iload_n 2, 1) := by decide +kernel
theorem dX4_setArc_170 : decode cX4_setArc 170 = .ok (.imul, 1) := by decide +kernel
theorem dX4_setArc_171 : decode cX4_setArc 171 = .ok (.iadd, 1) := by decide +kernel
theorem dX4_setArc_172 : decode cX4_setArc 172 = .ok (.iload_n 3, 1) := by decide +kernel
theorem dX4_setArc_173 : decode cX4_setArc 173 = .ok (.invokevirtual 62, 3) := by decide +kernel
theorem dX4_setArc_176 : decode cX4_setArc 176 = .ok (.aload_n 0, 1) := by decide +kernel
theorem dX4_setArc_177 : decode cX4_setArc 177 = .ok (.iload_n 1, 1) := by decide +kernel
theorem dX4_setArc_178 : decode cX4_setArc 178 = .ok (.bipush 9, 2) := by decide +kernel
theorem dX4_setArc_180 : decode cX4_setArc 180 = .ok (.iconst 2, 1) := by decide +kernel
theorem dX4_setArc_181 : decode cX4_setArc 181 = .ok (.iload_n 2, 1) := by decide +kernel
theorem dX4_setArc_182 : decode cX4_setArc 182 = .ok (.imul, 1) := by decide +kernel
theorem dX4_setArc_183 : decode cX4_setArc 183 = .ok (.iadd, 1) := by decide +kernel
theorem dX4_setArc_184 : decode cX4_setArc 184 = .ok (.iconst 1, 1) := by decide +kernel
theorem dX4_setArc_185 : decode cX4_setArc 185 = .ok (.iadd, 1) := by decide +kernel
theorem dX4_setArc_186 : decode cX4_setArc 186 = .ok (.iload 4, 2) := by decide +kernel
theorem dX4_setArc_188 : decode cX4_setArc 188 = .ok (.invokevirtual 62, 3) := by decide +kernel
theorem dX4_setArc_191 : decode cX4_setArc 191 = .ok (.iload 4, 2) := by decide +kernel
theorem dX4_setArc_193 : decode cX4_setArc 193 = .ok (.iload_n 3, 1) := by decide +kernel
theorem dX4_setArc_194 : decode cX4_setArc 194 = .ok (.isub, 1) := by decide +kernel
theorem dX4_setArc_195 : decode cX4_setArc 195 = .ok (.bipush 36, 2) := by decide +kernel
theorem dX4_setArc_197 : decode cX4_setArc 197 = .ok (.iadd, 1) := by decide +kernel
theorem dX4_setArc_198 : decode cX4_setArc 198 = .ok (.bipush 36, 2) := by decide +kernel
theorem dX4_setArc_200 : decode cX4_setArc 200 = .ok (.irem, 1) := by decide +kernel
theorem dX4_setArc_201 : decode cX4_setArc 201 = .ok (.iconst 1, 1) := by decide +kernel
theorem dX4_setArc_202 : decode cX4_setArc 202 = .ok (.iadd, 1) := by decide +kernel
theorem dX4_setArc_203 : decode cX4_setArc 203 = .ok (.ireturn, 1) := by decide +kernel
set_option maxRecDepth 20000 in
theorem ggX4_removeArc_X4_isCrane : GoodIn wsX4_removeArc wsX4_isCrane := goodIn_r _ [5, 6, 7, 8, 4, 9, 34, 35, 36, 37, 38, 39] (by decide +kernel) (by decide +kernel)
set_option maxRecDepth 20000 in
theorem gX4_removeArc_X4_isCrane : GoodIn wsX4_removeArc (wsV RX4 66 RX4 yX4_isCrane wsX4_isCrane) := goodIn_app (goodIn_of _ (by decide +kernel)) ggX4_removeArc_X4_isCrane
set_option maxRecDepth 20000 in
theorem ggX4_removeArc_X4_isZone : GoodIn wsX4_removeArc wsX4_isZone := goodIn_r _ [12, 7, 8, 4, 9] (by decide +kernel) (by decide +kernel)
set_option maxRecDepth 20000 in
theorem gX4_removeArc_X4_isZone : GoodIn wsX4_removeArc (va_wsS RX4 72 yX4_isZone wsX4_isZone) := goodIn_app (goodIn_of _ (by decide +kernel)) ggX4_removeArc_X4_isZone
set_option maxRecDepth 20000 in
theorem ggX4_removeArc_X4_saves : GoodIn wsX4_removeArc wsX4_saves := goodIn_r _ [16, 17, 18, 19, 20, 4, 21, 6, 34, 35, 36, 37, 38, 39] (by decide +kernel) (by decide +kernel)
set_option maxRecDepth 20000 in
theorem gX4_removeArc_X4_saves : GoodIn wsX4_removeArc (wsV RX4 59 RX4 yX4_saves wsX4_saves) := goodIn_app (goodIn_of _ (by decide +kernel)) ggX4_removeArc_X4_saves
set_option maxRecDepth 20000 in
theorem ggX4_removeArc_X4_hasArc : GoodIn wsX4_removeArc wsX4_hasArc := goodIn_r _ [25, 26, 27, 28, 4, 29, 6, 34, 35, 36, 37, 38, 39] (by decide +kernel) (by decide +kernel)
set_option maxRecDepth 20000 in
theorem gX4_removeArc_X4_hasArc : GoodIn wsX4_removeArc (wsV RX4 43 RX4 yX4_hasArc wsX4_hasArc) := goodIn_app (goodIn_of _ (by decide +kernel)) ggX4_removeArc_X4_hasArc
set_option maxRecDepth 20000 in
theorem ggX4_removeArc_X4_sets : GoodIn wsX4_removeArc wsX4_sets := goodIn_r _ [33, 6, 34, 35, 36, 37, 38, 39] (by decide +kernel) (by decide +kernel)
set_option maxRecDepth 20000 in
theorem gX4_removeArc_X4_sets : GoodIn wsX4_removeArc (wsV RX4 62 RX4 yX4_sets wsX4_sets) := goodIn_app (goodIn_of _ (by decide +kernel)) ggX4_removeArc_X4_sets
theorem dX4_removeArc_0 : decode cX4_removeArc 0 = .ok (.aload_n 0, 1) := by decide +kernel
theorem dX4_removeArc_1 : decode cX4_removeArc 1 = .ok (.iload_n 1, 1) := by decide +kernel
theorem dX4_removeArc_2 : decode cX4_removeArc 2 = .ok (.invokevirtual 66, 3) := by decide +kernel
theorem dX4_removeArc_5 : decode cX4_removeArc 5 = .ok (.ifCond .eq 10, 3) := by decide +kernel
theorem dX4_removeArc_8 : decode cX4_removeArc 8 = .ok (.iload_n 2, 1) := by decide +kernel
theorem dX4_removeArc_9 : decode cX4_removeArc 9 = .ok (.invokestatic 72, 3) := by decide +kernel
theorem dX4_removeArc_12 : decode cX4_removeArc 12 = .ok (.ifCond .ne 6, 3) := by decide +kernel
theorem dX4_removeArc_15 : decode cX4_removeArc 15 = .ok (.bipush (-101), 2) := by decide +kernel
theorem dX4_removeArc_17 : decode cX4_removeArc 17 = .ok (.ireturn, 1) := by decide +kernel
theorem dX4_removeArc_18 : decode cX4_removeArc 18 = .ok (.aload_n 0, 1) := by decide +kernel
theorem dX4_removeArc_19 : decode cX4_removeArc 19 = .ok (.invokevirtual 59, 3) := by decide +kernel
theorem dX4_removeArc_22 : decode cX4_removeArc 22 = .ok (.aload_n 0, 1) := by decide +kernel
theorem dX4_removeArc_23 : decode cX4_removeArc 23 = .ok (.iload_n 1, 1) := by decide +kernel
theorem dX4_removeArc_24 : decode cX4_removeArc 24 = .ok (.iload_n 2, 1) := by decide +kernel
theorem dX4_removeArc_25 : decode cX4_removeArc 25 = .ok (.invokevirtual 43, 3) := by decide +kernel
theorem dX4_removeArc_28 : decode cX4_removeArc 28 = .ok (.ifCond .eq 7, 3) := by decide +kernel
theorem dX4_removeArc_31 : decode cX4_removeArc 31 = .ok (.iconst 1, 1) := by decide +kernel
theorem dX4_removeArc_32 : decode cX4_removeArc 32 = .ok (.goto 4, 3) := by decide +kernel
theorem dX4_removeArc_35 : decode cX4_removeArc 35 = .ok (.iconst 0, 1) := by decide +kernel
theorem dX4_removeArc_36 : decode cX4_removeArc 36 = .ok (.istore_n 3, 1) := by decide +kernel
theorem dX4_removeArc_37 : decode cX4_removeArc 37 = .ok (.aload_n 0, 1) := by decide +kernel
theorem dX4_removeArc_38 : decode cX4_removeArc 38 = .ok (.iload_n 1, 1) := by decide +kernel
theorem dX4_removeArc_39 : decode cX4_removeArc 39 = .ok (.bipush 9, 2) := by decide +kernel
theorem dX4_removeArc_41 : decode cX4_removeArc 41 = .ok (.iconst 2, 1) := by decide +kernel
theorem dX4_removeArc_42 : decode cX4_removeArc 42 = .ok (.iload_n 2, 1) := by decide +kernel
theorem dX4_removeArc_43 : decode cX4_removeArc 43 = .ok (.imul, 1) := by decide +kernel
theorem dX4_removeArc_44 : decode cX4_removeArc 44 = .ok (.iadd, 1) := by decide +kernel
theorem dX4_removeArc_45 : decode cX4_removeArc 45 = .ok (.bipush (-100), 2) := by decide +kernel
theorem dX4_removeArc_47 : decode cX4_removeArc 47 = .ok (.invokevirtual 62, 3) := by decide +kernel
theorem dX4_removeArc_50 : decode cX4_removeArc 50 = .ok (.aload_n 0, 1) := by decide +kernel
theorem dX4_removeArc_51 : decode cX4_removeArc 51 = .ok (.iload_n 1, 1) := by decide +kernel
theorem dX4_removeArc_52 : decode cX4_removeArc 52 = .ok (.bipush 9, 2) := by decide +kernel
theorem dX4_removeArc_54 : decode cX4_removeArc 54 = .ok (.iconst 2, 1) := by decide +kernel
theorem dX4_removeArc_55 : decode cX4_removeArc 55 = .ok (.iload_n 2, 1) := by decide +kernel
theorem dX4_removeArc_56 : decode cX4_removeArc 56 = .ok (.imul, 1) := by decide +kernel
theorem dX4_removeArc_57 : decode cX4_removeArc 57 = .ok (.iadd, 1) := by decide +kernel
theorem dX4_removeArc_58 : decode cX4_removeArc 58 = .ok (.iconst 1, 1) := by decide +kernel
theorem dX4_removeArc_59 : decode cX4_removeArc 59 = .ok (.iadd, 1) := by decide +kernel
theorem dX4_removeArc_60 : decode cX4_removeArc 60 = .ok (.bipush (-100), 2) := by decide +kernel
theorem dX4_removeArc_62 : decode cX4_removeArc 62 = .ok (.invokevirtual 62, 3) := by decide +kernel
theorem dX4_removeArc_65 : decode cX4_removeArc 65 = .ok (.iload_n 3, 1) := by decide +kernel
theorem dX4_removeArc_66 : decode cX4_removeArc 66 = .ok (.ireturn, 1) := by decide +kernel
theorem dX4_cranes_0 : decode cX4_cranes 0 = .ok (.aload_n 0, 1) := by decide +kernel
theorem dX4_cranes_1 : decode cX4_cranes 1 = .ok (.getfield 7, 3) := by decide +kernel
theorem dX4_cranes_4 : decode cX4_cranes 4 = .ok (.iconst 2, 1) := by decide +kernel
theorem dX4_cranes_5 : decode cX4_cranes 5 = .ok (.iaload, 1) := by decide +kernel
theorem dX4_cranes_6 : decode cX4_cranes 6 = .ok (.ireturn, 1) := by decide +kernel
set_option maxRecDepth 20000 in
theorem ggX4_zonesOf_X4_occupies : GoodIn wsX4_zonesOf wsX4_occupies := goodIn_r _ [5, 6, 7, 8, 4, 9, 10, 11, 12, 13, 14, 15, 16, 17, 18, 19, 20, 21, 22, 23, 24, 25, 26, 27, 28, 29, 30, 31, 32] (by decide +kernel) (by decide +kernel)
set_option maxRecDepth 20000 in
theorem gX4_zonesOf_X4_occupies : GoodIn wsX4_zonesOf (wsV RX4 47 RX4 yX4_occupies wsX4_occupies) := goodIn_app (goodIn_of _ (by decide +kernel)) ggX4_zonesOf_X4_occupies
theorem dX4_zonesOf_0 : decode cX4_zonesOf 0 = .ok (.iconst 0, 1) := by decide +kernel
theorem dX4_zonesOf_1 : decode cX4_zonesOf 1 = .ok (.istore_n 2, 1) := by decide +kernel
theorem dX4_zonesOf_2 : decode cX4_zonesOf 2 = .ok (.iconst 0, 1) := by decide +kernel
theorem dX4_zonesOf_3 : decode cX4_zonesOf 3 = .ok (.istore_n 3, 1) := by decide +kernel
theorem dX4_zonesOf_4 : decode cX4_zonesOf 4 = .ok (.iload_n 3, 1) := by decide +kernel
theorem dX4_zonesOf_5 : decode cX4_zonesOf 5 = .ok (.bipush 6, 2) := by decide +kernel
theorem dX4_zonesOf_7 : decode cX4_zonesOf 7 = .ok (.if_icmp .ge 28, 3) := by decide +kernel
theorem dX4_zonesOf_10 : decode cX4_zonesOf 10 = .ok (.iload_n 2, 1) := by decide +kernel
theorem dX4_zonesOf_11 : decode cX4_zonesOf 11 = .ok (.aload_n 0, 1) := by decide +kernel
theorem dX4_zonesOf_12 : decode cX4_zonesOf 12 = .ok (.iload_n 1, 1) := by decide +kernel
theorem dX4_zonesOf_13 : decode cX4_zonesOf 13 = .ok (.iload_n 3, 1) := by decide +kernel
theorem dX4_zonesOf_14 : decode cX4_zonesOf 14 = .ok (.invokevirtual 47, 3) := by decide +kernel
theorem dX4_zonesOf_17 : decode cX4_zonesOf 17 = .ok (.ifCond .eq 9, 3) := by decide +kernel
theorem dX4_zonesOf_20 : decode cX4_zonesOf 20 = .ok (.iconst 1, 1) := by decide +kernel
theorem dX4_zonesOf_21 : decode cX4_zonesOf 21 = .ok (.iload_n 3, 1) := by decide +kernel
theorem dX4_zonesOf_22 : decode cX4_zonesOf 22 = .ok (.ishl, 1) := by decide +kernel
theorem dX4_zonesOf_23 : decode cX4_zonesOf 23 = .ok (.goto 4, 3) := by decide +kernel
theorem dX4_zonesOf_26 : decode cX4_zonesOf 26 = .ok (.iconst 0, 1) := by decide +kernel
theorem dX4_zonesOf_27 : decode cX4_zonesOf 27 = .ok (.ior, 1) := by decide +kernel
theorem dX4_zonesOf_28 : decode cX4_zonesOf 28 = .ok (.istore_n 2, 1) := by decide +kernel
theorem dX4_zonesOf_29 : decode cX4_zonesOf 29 = .ok (.iinc 3 1, 3) := by decide +kernel
theorem dX4_zonesOf_32 : decode cX4_zonesOf 32 = .ok (.goto (-28), 3) := by decide +kernel
theorem dX4_zonesOf_35 : decode cX4_zonesOf 35 = .ok (.iload_n 2, 1) := by decide +kernel
theorem dX4_zonesOf_36 : decode cX4_zonesOf 36 = .ok (.ireturn, 1) := by decide +kernel
set_option maxRecDepth 20000 in
theorem ggX4_property_X4_zonesOf : GoodIn wsX4_property wsX4_zonesOf := goodIn_r _ [5, 6, 7, 8, 4, 9, 10, 11, 12, 13, 14, 15, 16, 17, 18, 19, 20, 21, 22, 23, 24, 25, 26, 27, 28, 29, 30, 31, 32, 33, 34, 35, 36] (by decide +kernel) (by decide +kernel)
set_option maxRecDepth 20000 in
theorem gX4_property_X4_zonesOf : GoodIn wsX4_property (wsV RX4 78 RX4 yX4_zonesOf wsX4_zonesOf) := goodIn_app (goodIn_of _ (by decide +kernel)) ggX4_property_X4_zonesOf
set_option maxRecDepth 20000 in
theorem ggX4_property_X4_of : GoodIn wsX4_property wsX4_of := goodIn_r _ [13, 14, 31, 32, 33, 34, 35, 36] (by decide +kernel) (by decide +kernel)
set_option maxRecDepth 20000 in
theorem gX4_property_X4_of : GoodIn wsX4_property (wsV RX4 28 RX4 yX4_of wsX4_of) := goodIn_app (goodIn_of _ (by decide +kernel)) ggX4_property_X4_of
theorem dX4_property_0 : decode cX4_property 0 = .ok (.iload_n 2, 1) := by decide +kernel
theorem dX4_property_1 : decode cX4_property 1 = .ok (.bipush 8, 2) := by decide +kernel
theorem dX4_property_3 : decode cX4_property 3 = .ok (.if_icmp .ne 11, 3) := by decide +kernel
theorem dX4_property_6 : decode cX4_property 6 = .ok (.aload_n 0, 1) := by decide +kernel
theorem dX4_property_7 : decode cX4_property 7 = .ok (.iload_n 1, 1) := by decide +kernel
theorem dX4_property_8 : decode cX4_property 8 = .ok (.invokevirtual 78, 3) := by decide +kernel
theorem dX4_property_11 : decode cX4_property 11 = .ok (.goto 25, 3) := by decide +kernel
theorem dX4_property_14 : decode cX4_property 14 = .ok (.iload_n 2, 1) := by decide +kernel
theorem dX4_property_15 : decode cX4_property 15 = .ok (.bipush 9, 2) := by decide +kernel
theorem dX4_property_17 : decode cX4_property 17 = .ok (.if_icmp .ne 13, 3) := by decide +kernel
theorem dX4_property_20 : decode cX4_property 20 = .ok (.aload_n 0, 1) := by decide +kernel
theorem dX4_property_21 : decode cX4_property 21 = .ok (.iload_n 1, 1) := by decide +kernel
theorem dX4_property_22 : decode cX4_property 22 = .ok (.bipush 8, 2) := by decide +kernel
theorem dX4_property_24 : decode cX4_property 24 = .ok (.invokevirtual 28, 3) := by decide +kernel
theorem dX4_property_27 : decode cX4_property 27 = .ok (.goto 9, 3) := by decide +kernel
theorem dX4_property_30 : decode cX4_property 30 = .ok (.aload_n 0, 1) := by decide +kernel
theorem dX4_property_31 : decode cX4_property 31 = .ok (.iload_n 1, 1) := by decide +kernel
theorem dX4_property_32 : decode cX4_property 32 = .ok (.iload_n 2, 1) := by decide +kernel
theorem dX4_property_33 : decode cX4_property 33 = .ok (.invokevirtual 28, 3) := by decide +kernel
theorem dX4_property_36 : decode cX4_property 36 = .ok (.ireturn, 1) := by decide +kernel
set_option maxRecDepth 20000 in
theorem ggX4_crane_X4_isCrane : GoodIn wsX4_crane wsX4_isCrane := goodIn_r _ [5, 6, 7, 8, 4, 9, 42, 43, 44, 45, 46, 47] (by decide +kernel) (by decide +kernel)
set_option maxRecDepth 20000 in
theorem gX4_crane_X4_isCrane : GoodIn wsX4_crane (wsV RX4 66 RX4 yX4_isCrane wsX4_isCrane) := goodIn_app (goodIn_of _ (by decide +kernel)) ggX4_crane_X4_isCrane
set_option maxRecDepth 20000 in
theorem ggX4_crane_X4_in : GoodIn wsX4_crane wsX4_in := goodIn_r _ [9] (by decide +kernel) (by decide +kernel)
set_option maxRecDepth 20000 in
theorem gX4_crane_X4_in : GoodIn wsX4_crane (va_wsS RX4 24 yX4_in wsX4_in) := goodIn_app (goodIn_of _ (by decide +kernel)) ggX4_crane_X4_in
set_option maxRecDepth 20000 in
theorem ggX4_crane_X4_property : GoodIn wsX4_crane wsX4_property := goodIn_r _ [13, 14, 15, 16, 4, 17, 18, 19, 20, 21, 22, 23, 24, 25, 6, 26, 27, 28, 29, 30, 31, 32, 33, 34, 35, 36, 37, 38, 39, 40, 41, 42, 43, 44, 45, 46, 47] (by decide +kernel) (by decide +kernel)
set_option maxRecDepth 20000 in
theorem gX4_crane_X4_property : GoodIn wsX4_crane (wsV RX4 81 RX4 yX4_property wsX4_property) := goodIn_app (goodIn_of _ (by decide +kernel)) ggX4_crane_X4_property
theorem dX4_crane_0 : decode cX4_crane 0 = .ok (.aload_n 0, 1) := by decide +kernel
theorem dX4_crane_1 : decode cX4_crane 1 = .ok (.iload_n 1, 1) := by decide +kernel
theorem dX4_crane_2 : decode cX4_crane 2 = .ok (.invokevirtual 66, 3) := by decide +kernel
theorem dX4_crane_5 : decode cX4_crane 5 = .ok (.ifCond .ne 6, 3) := by decide +kernel
theorem dX4_crane_8 : decode cX4_crane 8 = .ok (.bipush (-101), 2) := by decide +kernel
theorem dX4_crane_10 : decode cX4_crane 10 = .ok (.ireturn, 1) := by decide +kernel
theorem dX4_crane_11 : decode cX4_crane 11 = .ok (.iload_n 2, 1) := by decide +kernel
theorem dX4_crane_12 : decode cX4_crane 12 = .ok (.iconst 0, 1) := by decide +kernel
theorem dX4_crane_13 : decode cX4_crane 13 = .ok (.bipush 9, 2) := by decide +kernel
theorem dX4_crane_15 : decode cX4_crane 15 = .ok (.invokestatic 24, 3) := by decide +kernel
theorem dX4_crane_18 : decode cX4_crane 18 = .ok (.ifCond .eq 12, 3) := by decide +kernel
theorem dX4_crane_21 : decode cX4_crane 21 = .ok (.aload_n 0, 1) := by decide +kernel
theorem dX4_crane_22 : decode cX4_crane 22 = .ok (.iload_n 1, 1) := by decide +kernel
theorem dX4_crane_23 : decode cX4_crane 23 = .ok (.iload_n 2, 1) := by decide +kernel
theorem dX4_crane_24 : decode cX4_crane 24 = .ok (.invokevirtual 81, 3) := by decide +kernel
theorem dX4_crane_27 : decode cX4_crane 27 = .ok (.goto 5, 3) := by decide +kernel
theorem dX4_crane_30 : decode cX4_crane 30 = .ok (.bipush (-102), 2) := by decide +kernel
theorem dX4_crane_32 : decode cX4_crane 32 = .ok (.ireturn, 1) := by decide +kernel
set_option maxRecDepth 20000 in
theorem ggX4_arc_X4_isCrane : GoodIn wsX4_arc wsX4_isCrane := goodIn_r _ [5, 6, 7, 8, 4, 9, 17, 18, 19, 20, 21, 22] (by decide +kernel) (by decide +kernel)
set_option maxRecDepth 20000 in
theorem gX4_arc_X4_isCrane : GoodIn wsX4_arc (wsV RX4 66 RX4 yX4_isCrane wsX4_isCrane) := goodIn_app (goodIn_of _ (by decide +kernel)) ggX4_arc_X4_isCrane
set_option maxRecDepth 20000 in
theorem ggX4_arc_X4_isZone : GoodIn wsX4_arc wsX4_isZone := goodIn_r _ [12, 7, 8, 4, 9] (by decide +kernel) (by decide +kernel)
set_option maxRecDepth 20000 in
theorem gX4_arc_X4_isZone : GoodIn wsX4_arc (va_wsS RX4 72 yX4_isZone wsX4_isZone) := goodIn_app (goodIn_of _ (by decide +kernel)) ggX4_arc_X4_isZone
set_option maxRecDepth 20000 in
theorem ggX4_arc_X4_of : GoodIn wsX4_arc wsX4_of := goodIn_r _ [16, 6, 17, 18, 19, 20, 21, 22] (by decide +kernel) (by decide +kernel)
set_option maxRecDepth 20000 in
theorem gX4_arc_X4_of : GoodIn wsX4_arc (wsV RX4 28 RX4 yX4_of wsX4_of) := goodIn_app (goodIn_of _ (by decide +kernel)) ggX4_arc_X4_of
theorem dX4_arc_0 : decode cX4_arc 0 = .ok (.aload_n 0, 1) := by decide +kernel
theorem dX4_arc_1 : decode cX4_arc 1 = .ok (.iload_n 1, 1) := by decide +kernel
theorem dX4_arc_2 : decode cX4_arc 2 = .ok (.invokevirtual 66, 3) := by decide +kernel
theorem dX4_arc_5 : decode cX4_arc 5 = .ok (.ifCond .eq 34, 3) := by decide +kernel
theorem dX4_arc_8 : decode cX4_arc 8 = .ok (.iload_n 2, 1) := by decide +kernel
theorem dX4_arc_9 : decode cX4_arc 9 = .ok (.invokestatic 72, 3) := by decide +kernel
theorem dX4_arc_12 : decode cX4_arc 12 = .ok (.ifCond .eq 27, 3) := by decide +kernel
theorem dX4_arc_15 : decode cX4_arc 15 = .ok (.aload_n 0, 1) := by decide +kernel
theorem dX4_arc_16 : decode cX4_arc 16 = .ok (.iload_n 1, 1) := by decide +kernel
theorem dX4_arc_17 : decode cX4_arc 17 = .ok (.bipush 9, 2) := by decide +kernel
theorem dX4_arc_19 : decode cX4_arc 19 = .ok (.iconst 2, 1) := by decide +kernel
theorem dX4_arc_20 : decode cX4_arc 20 = .ok (.iload_n 2, 1) := by decide +kernel
theorem dX4_arc_21 : decode cX4_arc 21 = .ok (.imul, 1) := by decide +kernel
theorem dX4_arc_22 : decode cX4_arc 22 = .ok (.iadd, 1) := by decide +kernel
theorem dX4_arc_23 : decode cX4_arc 23 = .ok (.iload_n 3, 1) := by decide +kernel
theorem dX4_arc_24 : decode cX4_arc 24 = .ok (.ifCond .eq 7, 3) := by decide +kernel
theorem dX4_arc_27 : decode cX4_arc 27 = .ok (.iconst 1, 1) := by decide +kernel
theorem dX4_arc_28 : decode cX4_arc 28 = .ok (.goto 4, 3) := by decide +kernel
theorem dX4_arc_31 : decode cX4_arc 31 = .ok (.iconst 0, 1) := by decide +kernel
theorem dX4_arc_32 : decode cX4_arc 32 = .ok (.iadd, 1) := by decide +kernel
theorem dX4_arc_33 : decode cX4_arc 33 = .ok (.invokevirtual 28, 3) := by decide +kernel
theorem dX4_arc_36 : decode cX4_arc 36 = .ok (.goto 5, 3) := by decide +kernel
theorem dX4_arc_39 : decode cX4_arc 39 = .ok (.bipush (-101), 2) := by decide +kernel
theorem dX4_arc_41 : decode cX4_arc 41 = .ok (.ireturn, 1) := by decide +kernel
set_option maxRecDepth 20000 in
theorem ggX4_occupants_X4_isZone : GoodIn wsX4_occupants wsX4_isZone := goodIn_r _ [4, 5, 6, 3, 7] (by decide +kernel) (by decide +kernel)
set_option maxRecDepth 20000 in
theorem gX4_occupants_X4_isZone : GoodIn wsX4_occupants (va_wsS RX4 72 yX4_isZone wsX4_isZone) := goodIn_app (goodIn_of _ (by decide +kernel)) ggX4_occupants_X4_isZone
set_option maxRecDepth 20000 in
theorem ggX4_occupants_X4_occupiers : GoodIn wsX4_occupants wsX4_occupiers := goodIn_r _ [11, 12, 13, 14, 15, 3, 16, 17, 18, 19, 20, 21, 22, 23, 24, 25, 26, 27, 28, 29, 30, 31, 32, 33, 34, 35, 36, 37, 38, 39, 40, 41, 42] (by decide +kernel) (by decide +kernel)
set_option maxRecDepth 20000 in
theorem gX4_occupants_X4_occupiers : GoodIn wsX4_occupants (wsV RX4 69 RX4 yX4_occupiers wsX4_occupiers) := goodIn_app (goodIn_of _ (by decide +kernel)) ggX4_occupants_X4_occupiers
theorem dX4_occupants_0 : decode cX4_occupants 0 = .ok (.iload_n 1, 1) := by decide +kernel
theorem dX4_occupants_1 : decode cX4_occupants 1 = .ok (.invokestatic 72, 3) := by decide +kernel
theorem dX4_occupants_4 : decode cX4_occupants 4 = .ok (.ifCond .eq 11, 3) := by decide +kernel
theorem dX4_occupants_7 : decode cX4_occupants 7 = .ok (.aload_n 0, 1) := by decide +kernel
theorem dX4_occupants_8 : decode cX4_occupants 8 = .ok (.iload_n 1, 1) := by decide +kernel
theorem dX4_occupants_9 : decode cX4_occupants 9 = .ok (.invokevirtual 69, 3) := by decide +kernel
theorem dX4_occupants_12 : decode cX4_occupants 12 = .ok (.goto 5, 3) := by decide +kernel
theorem dX4_occupants_15 : decode cX4_occupants 15 = .ok (.bipush (-101), 2) := by decide +kernel
theorem dX4_occupants_17 : decode cX4_occupants 17 = .ok (.ireturn, 1) := by decide +kernel
set_option maxRecDepth 20000 in
theorem ggX4_clashes_X4_isConflict : GoodIn wsX4_clashes wsX4_isConflict := goodIn_r _ [5, 6, 7, 8, 4, 9, 10, 11, 12, 13, 14, 15, 16, 17, 18, 19, 20, 21, 22, 23, 24, 25, 26, 27, 28, 29, 30, 31, 32, 33, 34, 35, 36, 37, 38, 39, 40] (by decide +kernel) (by decide +kernel)
set_option maxRecDepth 20000 in
theorem gX4_clashes_X4_isConflict : GoodIn wsX4_clashes (wsV RX4 75 RX4 yX4_isConflict wsX4_isConflict) := goodIn_app (goodIn_of _ (by decide +kernel)) ggX4_clashes_X4_isConflict
theorem dX4_clashes_0 : decode cX4_clashes 0 = .ok (.iconst 0, 1) := by decide +kernel
theorem dX4_clashes_1 : decode cX4_clashes 1 = .ok (.istore_n 1, 1) := by decide +kernel
theorem dX4_clashes_2 : decode cX4_clashes 2 = .ok (.iconst 0, 1) := by decide +kernel
theorem dX4_clashes_3 : decode cX4_clashes 3 = .ok (.istore_n 2, 1) := by decide +kernel
theorem dX4_clashes_4 : decode cX4_clashes 4 = .ok (.iload_n 2, 1) := by decide +kernel
theorem dX4_clashes_5 : decode cX4_clashes 5 = .ok (.bipush 6, 2) := by decide +kernel
theorem dX4_clashes_7 : decode cX4_clashes 7 = .ok (.if_icmp .ge 27, 3) := by decide +kernel
theorem dX4_clashes_10 : decode cX4_clashes 10 = .ok (.iload_n 1, 1) := by decide +kernel
theorem dX4_clashes_11 : decode cX4_clashes 11 = .ok (.aload_n 0, 1) := by decide +kernel
theorem dX4_clashes_12 : decode cX4_clashes 12 = .ok (.iload_n 2, 1) := by decide +kernel
theorem dX4_clashes_13 : decode cX4_clashes 13 = .ok (.invokevirtual 75, 3) := by decide +kernel
theorem dX4_clashes_16 : decode cX4_clashes 16 = .ok (.ifCond .eq 9, 3) := by decide +kernel
theorem dX4_clashes_19 : decode cX4_clashes 19 = .ok (.iconst 1, 1) := by decide +kernel
theorem dX4_clashes_20 : decode cX4_clashes 20 = .ok (.iload_n 2, 1) := by decide +kernel
theorem dX4_clashes_21 : decode cX4_clashes 21 = .ok (.ishl, 1) := by decide +kernel
theorem dX4_clashes_22 : decode cX4_clashes 22 = .ok (.goto 4, 3) := by decide +kernel
theorem dX4_clashes_25 : decode cX4_clashes 25 = .ok (.iconst 0, 1) := by decide +kernel
theorem dX4_clashes_26 : decode cX4_clashes 26 = .ok (.ior, 1) := by decide +kernel
theorem dX4_clashes_27 : decode cX4_clashes 27 = .ok (.istore_n 1, 1) := by decide +kernel
theorem dX4_clashes_28 : decode cX4_clashes 28 = .ok (.iinc 2 1, 3) := by decide +kernel
theorem dX4_clashes_31 : decode cX4_clashes 31 = .ok (.goto (-27), 3) := by decide +kernel
theorem dX4_clashes_34 : decode cX4_clashes 34 = .ok (.iload_n 1, 1) := by decide +kernel
theorem dX4_clashes_35 : decode cX4_clashes 35 = .ok (.ireturn, 1) := by decide +kernel
set_option maxRecDepth 20000 in
theorem ggX4_conflicts_X4_clashes : GoodIn wsX4_conflicts wsX4_clashes := goodIn_r _ [5, 6, 7, 8, 4, 9, 10, 11, 12, 13, 14, 15, 16, 17, 18, 19, 20, 21, 22, 23, 24, 25, 26, 27, 28, 29, 30, 31, 32, 33, 34, 35, 36, 37, 38, 39, 40, 41, 42, 43, 44] (by decide +kernel) (by decide +kernel)
set_option maxRecDepth 20000 in
theorem gX4_conflicts_X4_clashes : GoodIn wsX4_conflicts (wsV RX4 84 RX4 yX4_clashes wsX4_clashes) := goodIn_app (goodIn_of _ (by decide +kernel)) ggX4_conflicts_X4_clashes
theorem dX4_conflicts_0 : decode cX4_conflicts 0 = .ok (.aload_n 0, 1) := by decide +kernel
theorem dX4_conflicts_1 : decode cX4_conflicts 1 = .ok (.invokevirtual 84, 3) := by decide +kernel
theorem dX4_conflicts_4 : decode cX4_conflicts 4 = .ok (.ireturn, 1) := by decide +kernel
set_option maxRecDepth 20000 in
theorem ggX4_stepsTo_X4_of : GoodIn wsX4_stepsTo wsX4_of := goodIn_r _ [5, 6, 7, 8, 9, 10, 11, 12] (by decide +kernel) (by decide +kernel)
set_option maxRecDepth 20000 in
theorem gX4_stepsTo_X4_of : GoodIn wsX4_stepsTo (wsV RX4 28 RX4 yX4_of wsX4_of) := goodIn_app (goodIn_of _ (by decide +kernel)) ggX4_stepsTo_X4_of
theorem dX4_stepsTo_0 : decode cX4_stepsTo 0 = .ok (.iload_n 3, 1) := by decide +kernel
theorem dX4_stepsTo_1 : decode cX4_stepsTo 1 = .ok (.iload_n 2, 1) := by decide +kernel
theorem dX4_stepsTo_2 : decode cX4_stepsTo 2 = .ok (.aload_n 0, 1) := by decide +kernel
theorem dX4_stepsTo_3 : decode cX4_stepsTo 3 = .ok (.iload_n 1, 1) := by decide +kernel
theorem dX4_stepsTo_4 : decode cX4_stepsTo 4 = .ok (.iconst 0, 1) := by decide +kernel
theorem dX4_stepsTo_5 : decode cX4_stepsTo 5 = .ok (.invokevirtual 28, 3) := by decide +kernel
theorem dX4_stepsTo_8 : decode cX4_stepsTo 8 = .ok (.isub, 1) := by decide +kernel
theorem dX4_stepsTo_9 : decode cX4_stepsTo 9 = .ok (.imul, 1) := by decide +kernel
theorem dX4_stepsTo_10 : decode cX4_stepsTo 10 = .ok (.bipush 36, 2) := by decide +kernel
theorem dX4_stepsTo_12 : decode cX4_stepsTo 12 = .ok (.iadd, 1) := by decide +kernel
theorem dX4_stepsTo_13 : decode cX4_stepsTo 13 = .ok (.bipush 36, 2) := by decide +kernel
theorem dX4_stepsTo_15 : decode cX4_stepsTo 15 = .ok (.irem, 1) := by decide +kernel
theorem dX4_stepsTo_16 : decode cX4_stepsTo 16 = .ok (.ireturn, 1) := by decide +kernel
set_option maxRecDepth 20000 in
theorem ggX4_noTarget_X4_sets : GoodIn wsX4_noTarget wsX4_sets := goodIn_r _ [5, 6, 7, 8, 9, 10, 11, 12] (by decide +kernel) (by decide +kernel)
set_option maxRecDepth 20000 in
theorem gX4_noTarget_X4_sets : GoodIn wsX4_noTarget (wsV RX4 62 RX4 yX4_sets wsX4_sets) := goodIn_app (goodIn_of _ (by decide +kernel)) ggX4_noTarget_X4_sets
theorem dX4_noTarget_0 : decode cX4_noTarget 0 = .ok (.aload_n 0, 1) := by decide +kernel
theorem dX4_noTarget_1 : decode cX4_noTarget 1 = .ok (.iload_n 1, 1) := by decide +kernel
theorem dX4_noTarget_2 : decode cX4_noTarget 2 = .ok (.iconst 3, 1) := by decide +kernel
theorem dX4_noTarget_3 : decode cX4_noTarget 3 = .ok (.bipush (-100), 2) := by decide +kernel
theorem dX4_noTarget_5 : decode cX4_noTarget 5 = .ok (.invokevirtual 62, 3) := by decide +kernel
theorem dX4_noTarget_8 : decode cX4_noTarget 8 = .ok (.aload_n 0, 1) := by decide +kernel
theorem dX4_noTarget_9 : decode cX4_noTarget 9 = .ok (.iload_n 1, 1) := by decide +kernel
theorem dX4_noTarget_10 : decode cX4_noTarget 10 = .ok (.iconst 4, 1) := by decide +kernel
theorem dX4_noTarget_11 : decode cX4_noTarget 11 = .ok (.iconst 0, 1) := by decide +kernel
theorem dX4_noTarget_12 : decode cX4_noTarget 12 = .ok (.invokevirtual 62, 3) := by decide +kernel
theorem dX4_noTarget_15 : decode cX4_noTarget 15 = .ok (.return_, 1) := by decide +kernel
set_option maxRecDepth 20000 in
theorem ggX4_aims_X4_stepsTo : GoodIn wsX4_aims wsX4_stepsTo := goodIn_r _ [5, 6, 7, 8, 4, 9, 10, 19, 20, 21, 22, 23, 24] (by decide +kernel) (by decide +kernel)
set_option maxRecDepth 20000 in
theorem gX4_aims_X4_stepsTo : GoodIn wsX4_aims (wsV RX4 88 RX4 yX4_stepsTo wsX4_stepsTo) := goodIn_app (goodIn_of _ (by decide +kernel)) ggX4_aims_X4_stepsTo
set_option maxRecDepth 20000 in
theorem ggX4_aims_X4_sets : GoodIn wsX4_aims wsX4_sets := goodIn_r _ [14, 10, 19, 20, 21, 22, 23, 24] (by decide +kernel) (by decide +kernel)
set_option maxRecDepth 20000 in
theorem gX4_aims_X4_sets : GoodIn wsX4_aims (wsV RX4 62 RX4 yX4_sets wsX4_sets) := goodIn_app (goodIn_of _ (by decide +kernel)) ggX4_aims_X4_sets
set_option maxRecDepth 20000 in
theorem ggX4_aims_X4_noTarget : GoodIn wsX4_aims wsX4_noTarget := goodIn_r _ [18, 11, 12, 13, 4, 14, 10, 19, 20, 21, 22, 23, 24] (by decide +kernel) (by decide +kernel)
set_option maxRecDepth 20000 in
theorem gX4_aims_X4_noTarget : GoodIn wsX4_aims (wsV RX4 92 RX4 yX4_noTarget wsX4_noTarget) := goodIn_app (goodIn_of _ (by decide +kernel)) ggX4_aims_X4_noTarget
theorem dX4_aims_0 : decode cX4_aims 0 = .ok (.iload_n 3, 1) := by decide +kernel
theorem dX4_aims_1 : decode cX4_aims 1 = .ok (.ifCond .eq 7, 3) := by decide +kernel
theorem dX4_aims_4 : decode cX4_aims 4 = .ok (.iload_n 3, 1) := by decide +kernel
theorem dX4_aims_5 : decode cX4_aims 5 = .ok (.goto 20, 3) := by decide +kernel
theorem dX4_aims_8 : decode cX4_aims 8 = .ok (.aload_n 0, 1) := by decide +kernel
theorem dX4_aims_9 : decode cX4_aims 9 = .ok (.iload_n 1, 1) := by decide +kernel
theorem dX4_aims_10 : decode cX4_aims 10 = .ok (.iload_n 2, 1) := by decide +kernel
theorem dX4_aims_11 : decode cX4_aims 11 = .ok (.iconst 1, 1) := by decide +kernel
theorem dX4_aims_12 : decode cX4_aims 12 = .ok (.invokevirtual 88, 3) := by decide +kernel
theorem dX4_aims_15 : decode cX4_aims 15 = .ok (.bipush 18, 2) := by decide +kernel
theorem dX4_aims_17 : decode cX4_aims 17 = .ok (.if_icmp .gt 7, 3) := by decide +kernel
theorem dX4_aims_20 : decode cX4_aims 20 = .ok (.iconst 1, 1) := by decide +kernel
theorem dX4_aims_21 : decode cX4_aims 21 = .ok (.goto 4, 3) := by decide +kernel
theorem dX4_aims_24 : decode cX4_aims 24 = .ok (.iconst (-1), 1) := by decide +kernel
theorem dX4_aims_25 : decode cX4_aims 25 = .ok (.istore 4, 2) := by decide +kernel
theorem dX4_aims_27 : decode cX4_aims 27 = .ok (.aload_n 0, 1) := by decide +kernel
theorem dX4_aims_28 : decode cX4_aims 28 = .ok (.iload_n 1, 1) := by decide +kernel
theorem dX4_aims_29 : decode cX4_aims 29 = .ok (.iload_n 2, 1) := by decide +kernel
theorem dX4_aims_30 : decode cX4_aims 30 = .ok (.iload 4, 2) := by decide +kernel
theorem dX4_aims_32 : decode cX4_aims 32 = .ok (.invokevirtual 88, 3) := by decide +kernel
theorem dX4_aims_35 : decode cX4_aims 35 = .ok (.istore 5, 2) := by decide +kernel
theorem dX4_aims_37 : decode cX4_aims 37 = .ok (.aload_n 0, 1) := by decide +kernel
theorem dX4_aims_38 : decode cX4_aims 38 = .ok (.iload_n 1, 1) := by decide +kernel
theorem dX4_aims_39 : decode cX4_aims 39 = .ok (.iconst 3, 1) := by decide +kernel
theorem dX4_aims_40 : decode cX4_aims 40 = .ok (.iload_n 2, 1) := by decide +kernel
theorem dX4_aims_41 : decode cX4_aims 41 = .ok (.invokevirtual 62, 3) := by decide +kernel
theorem dX4_aims_44 : decode cX4_aims 44 = .ok (.aload_n 0, 1) := by decide +kernel
theorem dX4_aims_45 : decode cX4_aims 45 = .ok (.iload_n 1, 1) := by decide +kernel
theorem dX4_aims_46 : decode cX4_aims 46 = .ok (.iconst 4, 1) := by decide +kernel
theorem dX4_aims_47 : decode cX4_aims 47 = .ok (.iload 4, 2) := by decide +kernel
theorem dX4_aims_49 : decode cX4_aims 49 = .ok (.invokevirtual 62, 3) := by decide +kernel
theorem dX4_aims_52 : decode cX4_aims 52 = .ok (.iload 5, 2) := by decide +kernel
theorem dX4_aims_54 : decode cX4_aims 54 = .ok (.ifCond .ne 8, 3) := by decide +kernel
theorem dX4_aims_57 : decode cX4_aims 57 = .ok (.aload_n 0, 1) := by decide +kernel
theorem dX4_aims_58 : decode cX4_aims 58 = .ok (.iload_n 1, 1) := by decide +kernel
theorem dX4_aims_59 : decode cX4_aims 59 = .ok (.invokevirtual 92, 3) := by decide +kernel
theorem dX4_aims_62 : decode cX4_aims 62 = .ok (.iload 5, 2) := by decide +kernel
theorem dX4_aims_64 : decode cX4_aims 64 = .ok (.ireturn, 1) := by decide +kernel
set_option maxRecDepth 20000 in
theorem ggX4_mayNotAim_X4_isOnStep : GoodIn wsX4_mayNotAim wsX4_isOnStep := goodIn_r _ [5, 6, 7, 8, 4, 9, 10, 11, 12, 13, 14, 15, 16] (by decide +kernel) (by decide +kernel)
set_option maxRecDepth 20000 in
theorem gX4_mayNotAim_X4_isOnStep : GoodIn wsX4_mayNotAim (wsV RX4 35 RX4 yX4_isOnStep wsX4_isOnStep) := goodIn_app (goodIn_of _ (by decide +kernel)) ggX4_mayNotAim_X4_isOnStep
set_option maxRecDepth 20000 in
theorem ggX4_mayNotAim_X4_of : GoodIn wsX4_mayNotAim wsX4_of := goodIn_r _ [9, 10, 11, 12, 13, 14, 15, 16] (by decide +kernel) (by decide +kernel)
set_option maxRecDepth 20000 in
theorem gX4_mayNotAim_X4_of : GoodIn wsX4_mayNotAim (wsV RX4 28 RX4 yX4_of wsX4_of) := goodIn_app (goodIn_of _ (by decide +kernel)) ggX4_mayNotAim_X4_of
theorem dX4_mayNotAim_0 : decode cX4_mayNotAim 0 = .ok (.aload_n 0, 1) := by decide +kernel
theorem dX4_mayNotAim_1 : decode cX4_mayNotAim 1 = .ok (.iload_n 1, 1) := by decide +kernel
theorem dX4_mayNotAim_2 : decode cX4_mayNotAim 2 = .ok (.invokevirtual 35, 3) := by decide +kernel
theorem dX4_mayNotAim_5 : decode cX4_mayNotAim 5 = .ok (.ifCond .ne 14, 3) := by decide +kernel
theorem dX4_mayNotAim_8 : decode cX4_mayNotAim 8 = .ok (.aload_n 0, 1) := by decide +kernel
theorem dX4_mayNotAim_9 : decode cX4_mayNotAim 9 = .ok (.iload_n 1, 1) := by decide +kernel
theorem dX4_mayNotAim_10 : decode cX4_mayNotAim 10 = .ok (.bipush 7, 2) := by decide +kernel
theorem dX4_mayNotAim_12 : decode cX4_mayNotAim 12 = .ok (.invokevirtual 28, 3) := by decide +kernel
theorem dX4_mayNotAim_15 : decode cX4_mayNotAim 15 = .ok (.iconst 1, 1) := by decide +kernel
theorem dX4_mayNotAim_16 : decode cX4_mayNotAim 16 = .ok (.if_icmp .ne 7, 3) := by decide +kernel
theorem dX4_mayNotAim_19 : decode cX4_mayNotAim 19 = .ok (.iconst 1, 1) := by decide +kernel
theorem dX4_mayNotAim_20 : decode cX4_mayNotAim 20 = .ok (.goto 4, 3) := by decide +kernel
theorem dX4_mayNotAim_23 : decode cX4_mayNotAim 23 = .ok (.iconst 0, 1) := by decide +kernel
theorem dX4_mayNotAim_24 : decode cX4_mayNotAim 24 = .ok (.ireturn, 1) := by decide +kernel
set_option maxRecDepth 20000 in
theorem ggX4_slew_X4_isCrane : GoodIn wsX4_slew wsX4_isCrane := goodIn_r _ [5, 6, 7, 8, 4, 9, 50, 51, 52, 53, 54, 55] (by decide +kernel) (by decide +kernel)
set_option maxRecDepth 20000 in
theorem gX4_slew_X4_isCrane : GoodIn wsX4_slew (wsV RX4 66 RX4 yX4_isCrane wsX4_isCrane) := goodIn_app (goodIn_of _ (by decide +kernel)) ggX4_slew_X4_isCrane
set_option maxRecDepth 20000 in
theorem ggX4_slew_X4_isAngle : GoodIn wsX4_slew wsX4_isAngle := goodIn_r _ [12, 7, 8, 4, 9] (by decide +kernel) (by decide +kernel)
set_option maxRecDepth 20000 in
theorem gX4_slew_X4_isAngle : GoodIn wsX4_slew (va_wsS RX4 56 yX4_isAngle wsX4_isAngle) := goodIn_app (goodIn_of _ (by decide +kernel)) ggX4_slew_X4_isAngle
set_option maxRecDepth 20000 in
theorem ggX4_slew_X4_in : GoodIn wsX4_slew wsX4_in := goodIn_r _ [9] (by decide +kernel) (by decide +kernel)
set_option maxRecDepth 20000 in
theorem gX4_slew_X4_in : GoodIn wsX4_slew (va_wsS RX4 24 yX4_in wsX4_in) := goodIn_app (goodIn_of _ (by decide +kernel)) ggX4_slew_X4_in
set_option maxRecDepth 20000 in
theorem ggX4_slew_X4_mayNotAim : GoodIn wsX4_slew wsX4_mayNotAim := goodIn_r _ [16, 17, 18, 19, 4, 20, 21, 22, 23, 24, 6, 50, 51, 52, 53, 54, 55] (by decide +kernel) (by decide +kernel)
set_option maxRecDepth 20000 in
theorem gX4_slew_X4_mayNotAim : GoodIn wsX4_slew (wsV RX4 96 RX4 yX4_mayNotAim wsX4_mayNotAim) := goodIn_app (goodIn_of _ (by decide +kernel)) ggX4_slew_X4_mayNotAim
set_option maxRecDepth 20000 in
theorem ggX4_slew_X4_saves : GoodIn wsX4_slew wsX4_saves := goodIn_r _ [28, 29, 30, 31, 32, 4, 33, 6, 50, 51, 52, 53, 54, 55] (by decide +kernel) (by decide +kernel)
set_option maxRecDepth 20000 in
theorem gX4_slew_X4_saves : GoodIn wsX4_slew (wsV RX4 59 RX4 yX4_saves wsX4_saves) := goodIn_app (goodIn_of _ (by decide +kernel)) ggX4_slew_X4_saves
set_option maxRecDepth 20000 in
theorem ggX4_slew_X4_aims : GoodIn wsX4_slew wsX4_aims := goodIn_r _ [37, 38, 39, 40, 4, 41, 21, 22, 23, 24, 6, 42, 43, 44, 45, 46, 47, 48, 49, 50, 51, 52, 53, 54, 55] (by decide +kernel) (by decide +kernel)
set_option maxRecDepth 20000 in
theorem gX4_slew_X4_aims : GoodIn wsX4_slew (wsV RX4 99 RX4 yX4_aims wsX4_aims) := goodIn_app (goodIn_of _ (by decide +kernel)) ggX4_slew_X4_aims
theorem dX4_slew_0 : decode cX4_slew 0 = .ok (.aload_n 0, 1) := by decide +kernel
theorem dX4_slew_1 : decode cX4_slew 1 = .ok (.iload_n 1, 1) := by decide +kernel
theorem dX4_slew_2 : decode cX4_slew 2 = .ok (.invokevirtual 66, 3) := by decide +kernel
theorem dX4_slew_5 : decode cX4_slew 5 = .ok (.ifCond .ne 6, 3) := by decide +kernel
theorem dX4_slew_8 : decode cX4_slew 8 = .ok (.bipush (-101), 2) := by decide +kernel
theorem dX4_slew_10 : decode cX4_slew 10 = .ok (.ireturn, 1) := by decide +kernel
theorem dX4_slew_11 : decode cX4_slew 11 = .ok (.iload_n 2, 1) := by decide +kernel
theorem dX4_slew_12 : decode cX4_slew 12 = .ok (.invokestatic 56, 3) := by decide +kernel
theorem dX4_slew_15 : decode cX4_slew 15 = .ok (.ifCond .eq 12, 3) := by decide +kernel
theorem dX4_slew_18 : decode cX4_slew 18 = .ok (.iload_n 3, 1) := by decide +kernel
theorem dX4_slew_19 : decode cX4_slew 19 = .ok (.iconst (-1), 1) := by decide +kernel
theorem dX4_slew_20 : decode cX4_slew 20 = .ok (.iconst 1, 1) := by decide +kernel
theorem dX4_slew_21 : decode cX4_slew 21 = .ok (.invokestatic 24, 3) := by decide +kernel
theorem dX4_slew_24 : decode cX4_slew 24 = .ok (.ifCond .ne 6, 3) := by decide +kernel
theorem dX4_slew_27 : decode cX4_slew 27 = .ok (.bipush (-102), 2) := by decide +kernel
theorem dX4_slew_29 : decode cX4_slew 29 = .ok (.ireturn, 1) := by decide +kernel
theorem dX4_slew_30 : decode cX4_slew 30 = .ok (.aload_n 0, 1) := by decide +kernel
theorem dX4_slew_31 : decode cX4_slew 31 = .ok (.iload_n 1, 1) := by decide +kernel
theorem dX4_slew_32 : decode cX4_slew 32 = .ok (.invokevirtual 96, 3) := by decide +kernel
theorem dX4_slew_35 : decode cX4_slew 35 = .ok (.ifCond .eq 6, 3) := by decide +kernel
theorem dX4_slew_38 : decode cX4_slew 38 = .ok (.bipush (-103), 2) := by decide +kernel
theorem dX4_slew_40 : decode cX4_slew 40 = .ok (.ireturn, 1) := by decide +kernel
theorem dX4_slew_41 : decode cX4_slew 41 = .ok (.aload_n 0, 1) := by decide +kernel
theorem dX4_slew_42 : decode cX4_slew 42 = .ok (.invokevirtual 59, 3) := by decide +kernel
theorem dX4_slew_45 : decode cX4_slew 45 = .ok (.aload_n 0, 1) := by decide +kernel
theorem dX4_slew_46 : decode cX4_slew 46 = .ok (.iload_n 1, 1) := by decide +kernel
theorem dX4_slew_47 : decode cX4_slew 47 = .ok (.iload_n 2, 1) := by decide +kernel
theorem dX4_slew_48 : decode cX4_slew 48 = .ok (.iload_n 3, 1) := by decide +kernel
theorem dX4_slew_49 : decode cX4_slew 49 = .ok (.invokevirtual 99, 3) := by decide +kernel
theorem dX4_slew_52 : decode cX4_slew 52 = .ok (.ireturn, 1) := by decide +kernel
set_option maxRecDepth 20000 in
theorem ggX4_stop_X4_isCrane : GoodIn wsX4_stop wsX4_isCrane := goodIn_r _ [5, 6, 7, 8, 4, 9, 35, 36, 37, 38, 39, 40] (by decide +kernel) (by decide +kernel)
set_option maxRecDepth 20000 in
theorem gX4_stop_X4_isCrane : GoodIn wsX4_stop (wsV RX4 66 RX4 yX4_isCrane wsX4_isCrane) := goodIn_app (goodIn_of _ (by decide +kernel)) ggX4_stop_X4_isCrane
set_option maxRecDepth 20000 in
theorem ggX4_stop_X4_isOnStep : GoodIn wsX4_stop wsX4_isOnStep := goodIn_r _ [13, 14, 15, 16, 4, 17, 6, 35, 36, 37, 38, 39, 40] (by decide +kernel) (by decide +kernel)
set_option maxRecDepth 20000 in
theorem gX4_stop_X4_isOnStep : GoodIn wsX4_stop (wsV RX4 35 RX4 yX4_isOnStep wsX4_isOnStep) := goodIn_app (goodIn_of _ (by decide +kernel)) ggX4_stop_X4_isOnStep
set_option maxRecDepth 20000 in
theorem ggX4_stop_X4_saves : GoodIn wsX4_stop wsX4_saves := goodIn_r _ [21, 22, 23, 24, 25, 4, 26, 6, 35, 36, 37, 38, 39, 40] (by decide +kernel) (by decide +kernel)
set_option maxRecDepth 20000 in
theorem gX4_stop_X4_saves : GoodIn wsX4_stop (wsV RX4 59 RX4 yX4_saves wsX4_saves) := goodIn_app (goodIn_of _ (by decide +kernel)) ggX4_stop_X4_saves
set_option maxRecDepth 20000 in
theorem ggX4_stop_X4_of : GoodIn wsX4_stop wsX4_of := goodIn_r _ [17, 6, 35, 36, 37, 38, 39, 40] (by decide +kernel) (by decide +kernel)
set_option maxRecDepth 20000 in
theorem gX4_stop_X4_of : GoodIn wsX4_stop (wsV RX4 28 RX4 yX4_of wsX4_of) := goodIn_app (goodIn_of _ (by decide +kernel)) ggX4_stop_X4_of
set_option maxRecDepth 20000 in
theorem ggX4_stop_X4_noTarget : GoodIn wsX4_stop wsX4_noTarget := goodIn_r _ [30, 31, 32, 33, 4, 34, 6, 35, 36, 37, 38, 39, 40] (by decide +kernel) (by decide +kernel)
set_option maxRecDepth 20000 in
theorem gX4_stop_X4_noTarget : GoodIn wsX4_stop (wsV RX4 92 RX4 yX4_noTarget wsX4_noTarget) := goodIn_app (goodIn_of _ (by decide +kernel)) ggX4_stop_X4_noTarget
theorem dX4_stop_0 : decode cX4_stop 0 = .ok (.aload_n 0, 1) := by decide +kernel
theorem dX4_stop_1 : decode cX4_stop 1 = .ok (.iload_n 1, 1) := by decide +kernel
theorem dX4_stop_2 : decode cX4_stop 2 = .ok (.invokevirtual 66, 3) := by decide +kernel
theorem dX4_stop_5 : decode cX4_stop 5 = .ok (.ifCond .ne 6, 3) := by decide +kernel
theorem dX4_stop_8 : decode cX4_stop 8 = .ok (.bipush (-101), 2) := by decide +kernel
theorem dX4_stop_10 : decode cX4_stop 10 = .ok (.ireturn, 1) := by decide +kernel
theorem dX4_stop_11 : decode cX4_stop 11 = .ok (.aload_n 0, 1) := by decide +kernel
theorem dX4_stop_12 : decode cX4_stop 12 = .ok (.iload_n 1, 1) := by decide +kernel
theorem dX4_stop_13 : decode cX4_stop 13 = .ok (.invokevirtual 35, 3) := by decide +kernel
theorem dX4_stop_16 : decode cX4_stop 16 = .ok (.ifCond .eq 6, 3) := by decide +kernel
theorem dX4_stop_19 : decode cX4_stop 19 = .ok (.bipush (-103), 2) := by decide +kernel
theorem dX4_stop_21 : decode cX4_stop 21 = .ok (.ireturn, 1) := by decide +kernel
theorem dX4_stop_22 : decode cX4_stop 22 = .ok (.aload_n 0, 1) := by decide +kernel
theorem dX4_stop_23 : decode cX4_stop 23 = .ok (.invokevirtual 59, 3) := by decide +kernel
theorem dX4_stop_26 : decode cX4_stop 26 = .ok (.aload_n 0, 1) := by decide +kernel
theorem dX4_stop_27 : decode cX4_stop 27 = .ok (.iload_n 1, 1) := by decide +kernel
theorem dX4_stop_28 : decode cX4_stop 28 = .ok (.iconst 3, 1) := by decide +kernel
theorem dX4_stop_29 : decode cX4_stop 29 = .ok (.invokevirtual 28, 3) := by decide +kernel
theorem dX4_stop_32 : decode cX4_stop 32 = .ok (.istore_n 2, 1) := by decide +kernel
theorem dX4_stop_33 : decode cX4_stop 33 = .ok (.aload_n 0, 1) := by decide +kernel
theorem dX4_stop_34 : decode cX4_stop 34 = .ok (.iload_n 1, 1) := by decide +kernel
theorem dX4_stop_35 : decode cX4_stop 35 = .ok (.invokevirtual 92, 3) := by decide +kernel
theorem dX4_stop_38 : decode cX4_stop 38 = .ok (.iload_n 2, 1) := by decide +kernel
theorem dX4_stop_39 : decode cX4_stop 39 = .ok (.ireturn, 1) := by decide +kernel
set_option maxRecDepth 20000 in
theorem ggX4_turnRound_X4_isCrane : GoodIn wsX4_turnRound wsX4_isCrane := goodIn_r _ [5, 6, 7, 8, 4, 9, 39, 40, 41, 42, 43, 44] (by decide +kernel) (by decide +kernel)
set_option maxRecDepth 20000 in
theorem gX4_turnRound_X4_isCrane : GoodIn wsX4_turnRound (wsV RX4 66 RX4 yX4_isCrane wsX4_isCrane) := goodIn_app (goodIn_of _ (by decide +kernel)) ggX4_turnRound_X4_isCrane
set_option maxRecDepth 20000 in
theorem ggX4_turnRound_X4_hasTarget : GoodIn wsX4_turnRound wsX4_hasTarget := goodIn_r _ [13, 14, 15, 16, 4, 17, 6, 39, 40, 41, 42, 43, 44] (by decide +kernel) (by decide +kernel)
set_option maxRecDepth 20000 in
theorem gX4_turnRound_X4_hasTarget : GoodIn wsX4_turnRound (wsV RX4 50 RX4 yX4_hasTarget wsX4_hasTarget) := goodIn_app (goodIn_of _ (by decide +kernel)) ggX4_turnRound_X4_hasTarget
set_option maxRecDepth 20000 in
theorem ggX4_turnRound_X4_isOnStep : GoodIn wsX4_turnRound wsX4_isOnStep := goodIn_r _ [21, 14, 15, 16, 4, 17, 6, 39, 40, 41, 42, 43, 44] (by decide +kernel) (by decide +kernel)
set_option maxRecDepth 20000 in
theorem gX4_turnRound_X4_isOnStep : GoodIn wsX4_turnRound (wsV RX4 35 RX4 yX4_isOnStep wsX4_isOnStep) := goodIn_app (goodIn_of _ (by decide +kernel)) ggX4_turnRound_X4_isOnStep
set_option maxRecDepth 20000 in
theorem ggX4_turnRound_X4_saves : GoodIn wsX4_turnRound wsX4_saves := goodIn_r _ [25, 26, 27, 28, 29, 4, 30, 6, 39, 40, 41, 42, 43, 44] (by decide +kernel) (by decide +kernel)
set_option maxRecDepth 20000 in
theorem gX4_turnRound_X4_saves : GoodIn wsX4_turnRound (wsV RX4 59 RX4 yX4_saves wsX4_saves) := goodIn_app (goodIn_of _ (by decide +kernel)) ggX4_turnRound_X4_saves
set_option maxRecDepth 20000 in
theorem ggX4_turnRound_X4_of : GoodIn wsX4_turnRound wsX4_of := goodIn_r _ [17, 6, 39, 40, 41, 42, 43, 44] (by decide +kernel) (by decide +kernel)
set_option maxRecDepth 20000 in
theorem gX4_turnRound_X4_of : GoodIn wsX4_turnRound (wsV RX4 28 RX4 yX4_of wsX4_of) := goodIn_app (goodIn_of _ (by decide +kernel)) ggX4_turnRound_X4_of
set_option maxRecDepth 20000 in
theorem ggX4_turnRound_X4_sets : GoodIn wsX4_turnRound wsX4_sets := goodIn_r _ [34, 6, 39, 40, 41, 42, 43, 44] (by decide +kernel) (by decide +kernel)
set_option maxRecDepth 20000 in
theorem gX4_turnRound_X4_sets : GoodIn wsX4_turnRound (wsV RX4 62 RX4 yX4_sets wsX4_sets) := goodIn_app (goodIn_of _ (by decide +kernel)) ggX4_turnRound_X4_sets
set_option maxRecDepth 20000 in
theorem ggX4_turnRound_X4_stepsTo : GoodIn wsX4_turnRound wsX4_stepsTo := goodIn_r _ [38, 14, 15, 16, 4, 17, 6, 39, 40, 41, 42, 43, 44] (by decide +kernel) (by decide +kernel)
set_option maxRecDepth 20000 in
theorem gX4_turnRound_X4_stepsTo : GoodIn wsX4_turnRound (wsV RX4 88 RX4 yX4_stepsTo wsX4_stepsTo) := goodIn_app (goodIn_of _ (by decide +kernel)) ggX4_turnRound_X4_stepsTo
theorem dX4_turnRound_0 : decode cX4_turnRound 0 = .ok (.aload_n 0, 1) := by decide +kernel
theorem dX4_turnRound_1 : decode cX4_turnRound 1 = .ok (.iload_n 1, 1) := by decide +kernel
theorem dX4_turnRound_2 : decode cX4_turnRound 2 = .ok (.invokevirtual 66, 3) := by decide +kernel
theorem dX4_turnRound_5 : decode cX4_turnRound 5 = .ok (.ifCond .ne 6, 3) := by decide +kernel
theorem dX4_turnRound_8 : decode cX4_turnRound 8 = .ok (.bipush (-101), 2) := by decide +kernel
theorem dX4_turnRound_10 : decode cX4_turnRound 10 = .ok (.ireturn, 1) := by decide +kernel
theorem dX4_turnRound_11 : decode cX4_turnRound 11 = .ok (.aload_n 0, 1) := by decide +kernel
theorem dX4_turnRound_12 : decode cX4_turnRound 12 = .ok (.iload_n 1, 1) := by decide +kernel
theorem dX4_turnRound_13 : decode cX4_turnRound 13 = .ok (.invokevirtual 50, 3) := by decide +kernel
theorem dX4_turnRound_16 : decode cX4_turnRound 16 = .ok (.ifCond .eq 11, 3) := by decide +kernel
theorem dX4_turnRound_19 : decode cX4_turnRound 19 = .ok (.aload_n 0, 1) := by decide +kernel
theorem dX4_turnRound_20 : decode cX4_turnRound 20 = .ok (.iload_n 1, 1) := by decide +kernel
theorem dX4_turnRound_21 : decode cX4_turnRound 21 = .ok (.invokevirtual 35, 3) := by decide +kernel
theorem dX4_turnRound_24 : decode cX4_turnRound 24 = .ok (.ifCond .eq 6, 3) := by decide +kernel
theorem dX4_turnRound_27 : decode cX4_turnRound 27 = .ok (.bipush (-103), 2) := by decide +kernel
theorem dX4_turnRound_29 : decode cX4_turnRound 29 = .ok (.ireturn, 1) := by decide +kernel
theorem dX4_turnRound_30 : decode cX4_turnRound 30 = .ok (.aload_n 0, 1) := by decide +kernel
theorem dX4_turnRound_31 : decode cX4_turnRound 31 = .ok (.invokevirtual 59, 3) := by decide +kernel
theorem dX4_turnRound_34 : decode cX4_turnRound 34 = .ok (.aload_n 0, 1) := by decide +kernel
theorem dX4_turnRound_35 : decode cX4_turnRound 35 = .ok (.iload_n 1, 1) := by decide +kernel
theorem dX4_turnRound_36 : decode cX4_turnRound 36 = .ok (.iconst 4, 1) := by decide +kernel
theorem dX4_turnRound_37 : decode cX4_turnRound 37 = .ok (.aload_n 0, 1) := by decide +kernel
theorem dX4_turnRound_38 : decode cX4_turnRound 38 = .ok (.iload_n 1, 1) := by decide +kernel
theorem dX4_turnRound_39 : decode cX4_turnRound 39 = .ok (.iconst 4, 1) := by decide +kernel
theorem dX4_turnRound_40 : decode cX4_turnRound 40 = .ok (.invokevirtual 28, 3) := by decide +kernel
theorem dX4_turnRound_43 : decode cX4_turnRound 43 = .ok (.ineg, 1) := by decide +kernel
theorem dX4_turnRound_44 : decode cX4_turnRound 44 = .ok (.invokevirtual 62, 3) := by decide +kernel
theorem dX4_turnRound_47 : decode cX4_turnRound 47 = .ok (.aload_n 0, 1) := by decide +kernel
theorem dX4_turnRound_48 : decode cX4_turnRound 48 = .ok (.iload_n 1, 1) := by decide +kernel
theorem dX4_turnRound_49 : decode cX4_turnRound 49 = .ok (.aload_n 0, 1) := by decide +kernel
theorem dX4_turnRound_50 : decode cX4_turnRound 50 = .ok (.iload_n 1, 1) := by decide +kernel
theorem dX4_turnRound_51 : decode cX4_turnRound 51 = .ok (.iconst 3, 1) := by decide +kernel
theorem dX4_turnRound_52 : decode cX4_turnRound 52 = .ok (.invokevirtual 28, 3) := by decide +kernel
theorem dX4_turnRound_55 : decode cX4_turnRound 55 = .ok (.aload_n 0, 1) := by decide +kernel
theorem dX4_turnRound_56 : decode cX4_turnRound 56 = .ok (.iload_n 1, 1) := by decide +kernel
theorem dX4_turnRound_57 : decode cX4_turnRound 57 = .ok (.iconst 4, 1) := by decide +kernel
theorem dX4_turnRound_58 : decode cX4_turnRound 58 = .ok (.invokevirtual 28, 3) := by decide +kernel
theorem dX4_turnRound_61 : decode cX4_turnRound 61 = .ok (.invokevirtual 88, 3) := by decide +kernel
theorem dX4_turnRound_64 : decode cX4_turnRound 64 = .ok (.ireturn, 1) := by decide +kernel
set_option maxRecDepth 20000 in
theorem ggX4_steps_X4_nextOf : GoodIn wsX4_steps wsX4_nextOf := goodIn_r _ [5, 6, 7, 8, 4, 9, 10, 19, 20, 21, 22, 23, 24] (by decide +kernel) (by decide +kernel)
set_option maxRecDepth 20000 in
theorem gX4_steps_X4_nextOf : GoodIn wsX4_steps (wsV RX4 39 RX4 yX4_nextOf wsX4_nextOf) := goodIn_app (goodIn_of _ (by decide +kernel)) ggX4_steps_X4_nextOf
set_option maxRecDepth 20000 in
theorem ggX4_steps_X4_sets : GoodIn wsX4_steps wsX4_sets := goodIn_r _ [14, 10, 19, 20, 21, 22, 23, 24] (by decide +kernel) (by decide +kernel)
set_option maxRecDepth 20000 in
theorem gX4_steps_X4_sets : GoodIn wsX4_steps (wsV RX4 62 RX4 yX4_sets wsX4_sets) := goodIn_app (goodIn_of _ (by decide +kernel)) ggX4_steps_X4_sets
set_option maxRecDepth 20000 in
theorem ggX4_steps_X4_of : GoodIn wsX4_steps wsX4_of := goodIn_r _ [9, 10, 19, 20, 21, 22, 23, 24] (by decide +kernel) (by decide +kernel)
set_option maxRecDepth 20000 in
theorem gX4_steps_X4_of : GoodIn wsX4_steps (wsV RX4 28 RX4 yX4_of wsX4_of) := goodIn_app (goodIn_of _ (by decide +kernel)) ggX4_steps_X4_of
set_option maxRecDepth 20000 in
theorem ggX4_steps_X4_noTarget : GoodIn wsX4_steps wsX4_noTarget := goodIn_r _ [18, 11, 12, 13, 4, 14, 10, 19, 20, 21, 22, 23, 24] (by decide +kernel) (by decide +kernel)
set_option maxRecDepth 20000 in
theorem gX4_steps_X4_noTarget : GoodIn wsX4_steps (wsV RX4 92 RX4 yX4_noTarget wsX4_noTarget) := goodIn_app (goodIn_of _ (by decide +kernel)) ggX4_steps_X4_noTarget
theorem dX4_steps_0 : decode cX4_steps 0 = .ok (.aload_n 0, 1) := by decide +kernel
theorem dX4_steps_1 : decode cX4_steps 1 = .ok (.iload_n 1, 1) := by decide +kernel
theorem dX4_steps_2 : decode cX4_steps 2 = .ok (.iconst 0, 1) := by decide +kernel
theorem dX4_steps_3 : decode cX4_steps 3 = .ok (.aload_n 0, 1) := by decide +kernel
theorem dX4_steps_4 : decode cX4_steps 4 = .ok (.iload_n 1, 1) := by decide +kernel
theorem dX4_steps_5 : decode cX4_steps 5 = .ok (.invokevirtual 39, 3) := by decide +kernel
theorem dX4_steps_8 : decode cX4_steps 8 = .ok (.invokevirtual 62, 3) := by decide +kernel
theorem dX4_steps_11 : decode cX4_steps 11 = .ok (.aload_n 0, 1) := by decide +kernel
theorem dX4_steps_12 : decode cX4_steps 12 = .ok (.iload_n 1, 1) := by decide +kernel
theorem dX4_steps_13 : decode cX4_steps 13 = .ok (.iconst 5, 1) := by decide +kernel
theorem dX4_steps_14 : decode cX4_steps 14 = .ok (.iconst 0, 1) := by decide +kernel
theorem dX4_steps_15 : decode cX4_steps 15 = .ok (.invokevirtual 62, 3) := by decide +kernel
theorem dX4_steps_18 : decode cX4_steps 18 = .ok (.aload_n 0, 1) := by decide +kernel
theorem dX4_steps_19 : decode cX4_steps 19 = .ok (.iload_n 1, 1) := by decide +kernel
theorem dX4_steps_20 : decode cX4_steps 20 = .ok (.bipush 8, 2) := by decide +kernel
theorem dX4_steps_22 : decode cX4_steps 22 = .ok (.aload_n 0, 1) := by decide +kernel
theorem dX4_steps_23 : decode cX4_steps 23 = .ok (.iload_n 1, 1) := by decide +kernel
theorem dX4_steps_24 : decode cX4_steps 24 = .ok (.bipush 8, 2) := by decide +kernel
theorem dX4_steps_26 : decode cX4_steps 26 = .ok (.invokevirtual 28, 3) := by decide +kernel
theorem dX4_steps_29 : decode cX4_steps 29 = .ok (.iconst 1, 1) := by decide +kernel
theorem dX4_steps_30 : decode cX4_steps 30 = .ok (.iadd, 1) := by decide +kernel
theorem dX4_steps_31 : decode cX4_steps 31 = .ok (.invokevirtual 62, 3) := by decide +kernel
theorem dX4_steps_34 : decode cX4_steps 34 = .ok (.aload_n 0, 1) := by decide +kernel
theorem dX4_steps_35 : decode cX4_steps 35 = .ok (.iload_n 1, 1) := by decide +kernel
theorem dX4_steps_36 : decode cX4_steps 36 = .ok (.iconst 0, 1) := by decide +kernel
theorem dX4_steps_37 : decode cX4_steps 37 = .ok (.invokevirtual 28, 3) := by decide +kernel
theorem dX4_steps_40 : decode cX4_steps 40 = .ok (.aload_n 0, 1) := by decide +kernel
theorem dX4_steps_41 : decode cX4_steps 41 = .ok (.iload_n 1, 1) := by decide +kernel
theorem dX4_steps_42 : decode cX4_steps 42 = .ok (.iconst 3, 1) := by decide +kernel
theorem dX4_steps_43 : decode cX4_steps 43 = .ok (.invokevirtual 28, 3) := by decide +kernel
theorem dX4_steps_46 : decode cX4_steps 46 = .ok (.if_icmp .ne 8, 3) := by decide +kernel
theorem dX4_steps_49 : decode cX4_steps 49 = .ok (.aload_n 0, 1) := by decide +kernel
theorem dX4_steps_50 : decode cX4_steps 50 = .ok (.iload_n 1, 1) := by decide +kernel
theorem dX4_steps_51 : decode cX4_steps 51 = .ok (.invokevirtual 92, 3) := by decide +kernel
theorem dX4_steps_54 : decode cX4_steps 54 = .ok (.return_, 1) := by decide +kernel
set_option maxRecDepth 20000 in
theorem ggX4_turn_X4_of : GoodIn wsX4_turn wsX4_of := goodIn_r _ [6, 1, 55, 56, 57, 58, 59, 60] (by decide +kernel) (by decide +kernel)
set_option maxRecDepth 20000 in
theorem gX4_turn_X4_of : GoodIn wsX4_turn (wsV RX4 28 RX4 yX4_of wsX4_of) := goodIn_app (goodIn_of _ (by decide +kernel)) ggX4_turn_X4_of
set_option maxRecDepth 20000 in
theorem ggX4_turn_X4_stepsTo : GoodIn wsX4_turn wsX4_stepsTo := goodIn_r _ [10, 2, 3, 4, 5, 6, 1, 55, 56, 57, 58, 59, 60] (by decide +kernel) (by decide +kernel)
set_option maxRecDepth 20000 in
theorem gX4_turn_X4_stepsTo : GoodIn wsX4_turn (wsV RX4 88 RX4 yX4_stepsTo wsX4_stepsTo) := goodIn_app (goodIn_of _ (by decide +kernel)) ggX4_turn_X4_stepsTo
set_option maxRecDepth 20000 in
theorem ggX4_turn_X4_sets : GoodIn wsX4_turn wsX4_sets := goodIn_r _ [14, 1, 55, 56, 57, 58, 59, 60] (by decide +kernel) (by decide +kernel)
set_option maxRecDepth 20000 in
theorem gX4_turn_X4_sets : GoodIn wsX4_turn (wsV RX4 62 RX4 yX4_sets wsX4_sets) := goodIn_app (goodIn_of _ (by decide +kernel)) ggX4_turn_X4_sets
set_option maxRecDepth 20000 in
theorem ggX4_turn_X4_isBlocked : GoodIn wsX4_turn wsX4_isBlocked := goodIn_r _ [18, 19, 20, 21, 5, 22, 2, 3, 4, 6, 1, 23, 24, 25, 26, 27, 28, 29, 30, 31, 32, 33, 34, 35, 36, 37, 38, 39, 40, 41, 42, 43, 44, 45, 46, 55, 56, 57, 58, 59, 60] (by decide +kernel) (by decide +kernel)
set_option maxRecDepth 20000 in
theorem gX4_turn_X4_isBlocked : GoodIn wsX4_turn (wsV RX4 102 RX4 yX4_isBlocked wsX4_isBlocked) := goodIn_app (goodIn_of _ (by decide +kernel)) ggX4_turn_X4_isBlocked
set_option maxRecDepth 20000 in
theorem ggX4_turn_X4_hasTarget : GoodIn wsX4_turn wsX4_hasTarget := goodIn_r _ [22, 2, 3, 4, 5, 6, 1, 55, 56, 57, 58, 59, 60] (by decide +kernel) (by decide +kernel)
set_option maxRecDepth 20000 in
theorem gX4_turn_X4_hasTarget : GoodIn wsX4_turn (wsV RX4 50 RX4 yX4_hasTarget wsX4_hasTarget) := goodIn_app (goodIn_of _ (by decide +kernel)) ggX4_turn_X4_hasTarget
set_option maxRecDepth 20000 in
theorem ggX4_turn_X4_steps : GoodIn wsX4_turn wsX4_steps := goodIn_r _ [50, 31, 32, 33, 5, 34, 2, 3, 4, 6, 1, 11, 12, 13, 14, 51, 52, 53, 54, 55, 56, 57, 58, 59, 60] (by decide +kernel) (by decide +kernel)
set_option maxRecDepth 20000 in
theorem gX4_turn_X4_steps : GoodIn wsX4_turn (wsV RX4 105 RX4 yX4_steps wsX4_steps) := goodIn_app (goodIn_of _ (by decide +kernel)) ggX4_turn_X4_steps
theorem dX4_turn_0 : decode cX4_turn 0 = .ok (.aload_n 0, 1) := by decide +kernel
theorem dX4_turn_1 : decode cX4_turn 1 = .ok (.iload_n 1, 1) := by decide +kernel
theorem dX4_turn_2 : decode cX4_turn 2 = .ok (.bipush 7, 2) := by decide +kernel
theorem dX4_turn_4 : decode cX4_turn 4 = .ok (.invokevirtual 28, 3) := by decide +kernel
theorem dX4_turn_7 : decode cX4_turn 7 = .ok (.iconst 1, 1) := by decide +kernel
theorem dX4_turn_8 : decode cX4_turn 8 = .ok (.if_icmp .ne 57, 3) := by decide +kernel
theorem dX4_turn_11 : decode cX4_turn 11 = .ok (.aload_n 0, 1) := by decide +kernel
theorem dX4_turn_12 : decode cX4_turn 12 = .ok (.iload_n 1, 1) := by decide +kernel
theorem dX4_turn_13 : decode cX4_turn 13 = .ok (.aload_n 0, 1) := by decide +kernel
theorem dX4_turn_14 : decode cX4_turn 14 = .ok (.getfield 7, 3) := by decide +kernel
theorem dX4_turn_17 : decode cX4_turn 17 = .ok (.iconst 1, 1) := by decide +kernel
theorem dX4_turn_18 : decode cX4_turn 18 = .ok (.iaload, 1) := by decide +kernel
theorem dX4_turn_19 : decode cX4_turn 19 = .ok (.iconst 1, 1) := by decide +kernel
theorem dX4_turn_20 : decode cX4_turn 20 = .ok (.invokevirtual 88, 3) := by decide +kernel
theorem dX4_turn_23 : decode cX4_turn 23 = .ok (.istore_n 2, 1) := by decide +kernel
theorem dX4_turn_24 : decode cX4_turn 24 = .ok (.aload_n 0, 1) := by decide +kernel
theorem dX4_turn_25 : decode cX4_turn 25 = .ok (.iload_n 1, 1) := by decide +kernel
theorem dX4_turn_26 : decode cX4_turn 26 = .ok (.iconst 0, 1) := by decide +kernel
theorem dX4_turn_27 : decode cX4_turn 27 = .ok (.aload_n 0, 1) := by decide +kernel
theorem dX4_turn_28 : decode cX4_turn 28 = .ok (.iload_n 1, 1) := by decide +kernel
theorem dX4_turn_29 : decode cX4_turn 29 = .ok (.iconst 0, 1) := by decide +kernel
theorem dX4_turn_30 : decode cX4_turn 30 = .ok (.invokevirtual 28, 3) := by decide +kernel
theorem dX4_turn_33 : decode cX4_turn 33 = .ok (.iload_n 2, 1) := by decide +kernel
theorem dX4_turn_34 : decode cX4_turn 34 = .ok (.ifCond .ne 8, 3) := by decide +kernel
theorem dX4_turn_37 : decode cX4_turn 37 = .ok (.bipush 36, 2) := by decide +kernel
theorem dX4_turn_39 : decode cX4_turn 39 = .ok (.goto 16, 3) := by decide +kernel
theorem dX4_turn_42 : decode cX4_turn 42 = .ok (.iload_n 2, 1) := by decide +kernel
theorem dX4_turn_43 : decode cX4_turn 43 = .ok (.bipush 18, 2) := by decide +kernel
theorem dX4_turn_45 : decode cX4_turn 45 = .ok (.if_icmp .gt 8, 3) := by decide +kernel
theorem dX4_turn_48 : decode cX4_turn 48 = .ok (.bipush 37, 2) := by decide +kernel
theorem dX4_turn_50 : decode cX4_turn 50 = .ok (.goto 5, 3) := by decide +kernel
theorem dX4_turn_53 : decode cX4_turn 53 = .ok (.bipush 35, 2) := by decide +kernel
theorem dX4_turn_55 : decode cX4_turn 55 = .ok (.iadd, 1) := by decide +kernel
theorem dX4_turn_56 : decode cX4_turn 56 = .ok (.bipush 36, 2) := by decide +kernel
theorem dX4_turn_58 : decode cX4_turn 58 = .ok (.irem, 1) := by decide +kernel
theorem dX4_turn_59 : decode cX4_turn 59 = .ok (.invokevirtual 62, 3) := by decide +kernel
theorem dX4_turn_62 : decode cX4_turn 62 = .ok (.goto 72, 3) := by decide +kernel
theorem dX4_turn_65 : decode cX4_turn 65 = .ok (.aload_n 0, 1) := by decide +kernel
theorem dX4_turn_66 : decode cX4_turn 66 = .ok (.iload_n 1, 1) := by decide +kernel
theorem dX4_turn_67 : decode cX4_turn 67 = .ok (.invokevirtual 102, 3) := by decide +kernel
theorem dX4_turn_70 : decode cX4_turn 70 = .ok (.ifCond .eq 22, 3) := by decide +kernel
theorem dX4_turn_73 : decode cX4_turn 73 = .ok (.aload_n 0, 1) := by decide +kernel
theorem dX4_turn_74 : decode cX4_turn 74 = .ok (.iload_n 1, 1) := by decide +kernel
theorem dX4_turn_75 : decode cX4_turn 75 = .ok (.bipush 6, 2) := by decide +kernel
theorem dX4_turn_77 : decode cX4_turn 77 = .ok (.aload_n 0, 1) := by decide +kernel
theorem dX4_turn_78 : decode cX4_turn 78 = .ok (.iload_n 1, 1) := by decide +kernel
theorem dX4_turn_79 : decode cX4_turn 79 = .ok (.bipush 6, 2) := by decide +kernel
theorem dX4_turn_81 : decode cX4_turn 81 = .ok (.invokevirtual 28, 3) := by decide +kernel
theorem dX4_turn_84 : decode cX4_turn 84 = .ok (.iconst 1, 1) := by decide +kernel
theorem dX4_turn_85 : decode cX4_turn 85 = .ok (.iadd, 1) := by decide +kernel
theorem dX4_turn_86 : decode cX4_turn 86 = .ok (.invokevirtual 62, 3) := by decide +kernel
theorem dX4_turn_89 : decode cX4_turn 89 = .ok (.goto 45, 3) := by decide +kernel
theorem dX4_turn_92 : decode cX4_turn 92 = .ok (.aload_n 0, 1) := by decide +kernel
theorem dX4_turn_93 : decode cX4_turn 93 = .ok (.iload_n 1, 1) := by decide +kernel
theorem dX4_turn_94 : decode cX4_turn 94 = .ok (.invokevirtual 50, 3) := by decide +kernel
theorem dX4_turn_97 : decode cX4_turn 97 = .ok (.ifCond .eq 37, 3) := by decide +kernel
theorem dX4_turn_100 : decode cX4_turn 100 = .ok (.aload_n 0, 1) := by decide +kernel
theorem dX4_turn_101 : decode cX4_turn 101 = .ok (.iload_n 1, 1) := by decide +kernel
theorem dX4_turn_102 : decode cX4_turn 102 = .ok (.iconst 5, 1) := by decide +kernel
theorem dX4_turn_103 : decode cX4_turn 103 = .ok (.aload_n 0, 1) := by decide +kernel
theorem dX4_turn_104 : decode cX4_turn 104 = .ok (.iload_n 1, 1) := by decide +kernel
theorem dX4_turn_105 : decode cX4_turn 105 = .ok (.iconst 5, 1) := by decide +kernel
theorem dX4_turn_106 : decode cX4_turn 106 = .ok (.invokevirtual 28, 3) := by decide +kernel
theorem dX4_turn_109 : decode cX4_turn 109 = .ok (.iconst 1, 1) := by decide +kernel
theorem dX4_turn_110 : decode cX4_turn 110 = .ok (.iadd, 1) := by decide +kernel
theorem dX4_turn_111 : decode cX4_turn 111 = .ok (.invokevirtual 62, 3) := by decide +kernel
theorem dX4_turn_114 : decode cX4_turn 114 = .ok (.aload_n 0, 1) := by decide +kernel
theorem dX4_turn_115 : decode cX4_turn 115 = .ok (.iload_n 1, 1) := by decide +kernel
theorem dX4_turn_116 : decode cX4_turn 116 = .ok (.iconst 5, 1) := by decide +kernel
theorem dX4_turn_117 : decode cX4_turn 117 = .ok (.invokevirtual 28, 3) := by decide +kernel
theorem dX4_turn_120 : decode cX4_turn 120 = .ok (.aload_n 0, 1) := by decide +kernel
theorem dX4_turn_121 : decode cX4_turn 121 = .ok (.iload_n 1, 1) := by decide +kernel
theorem dX4_turn_122 : decode cX4_turn 122 = .ok (.iconst 1, 1) := by decide +kernel
theorem dX4_turn_123 : decode cX4_turn 123 = .ok (.invokevirtual 28, 3) := by decide +kernel
theorem dX4_turn_126 : decode cX4_turn 126 = .ok (.if_icmp .ne 8, 3) := by decide +kernel
theorem dX4_turn_129 : decode cX4_turn 129 = .ok (.aload_n 0, 1) := by decide +kernel
theorem dX4_turn_130 : decode cX4_turn 130 = .ok (.iload_n 1, 1) := by decide +kernel
theorem dX4_turn_131 : decode cX4_turn 131 = .ok (.invokevirtual 105, 3) := by decide +kernel
theorem dX4_turn_134 : decode cX4_turn 134 = .ok (.return_, 1) := by decide +kernel
set_option maxRecDepth 20000 in
theorem ggX4_ticks_X4_of : GoodIn wsX4_ticks wsX4_of := goodIn_r _ [6, 1, 59, 60, 61, 62, 63, 64] (by decide +kernel) (by decide +kernel)
set_option maxRecDepth 20000 in
theorem gX4_ticks_X4_of : GoodIn wsX4_ticks (wsV RX4 28 RX4 yX4_of wsX4_of) := goodIn_app (goodIn_of _ (by decide +kernel)) ggX4_ticks_X4_of
set_option maxRecDepth 20000 in
theorem ggX4_ticks_X4_turn : GoodIn wsX4_ticks wsX4_turn := goodIn_r _ [10, 1, 2, 3, 4, 5, 6, 11, 12, 13, 14, 15, 16, 17, 18, 19, 20, 21, 22, 23, 24, 25, 26, 27, 28, 29, 30, 31, 32, 33, 34, 35, 36, 37, 38, 39, 40, 41, 42, 43, 44, 45, 46, 47, 48, 49, 50, 51, 52, 53, 54, 55, 56, 57, 58, 59, 60, 61, 62, 63, 64] (by decide +kernel) (by decide +kernel)
set_option maxRecDepth 20000 in
theorem gX4_ticks_X4_turn : GoodIn wsX4_ticks (wsV RX4 108 RX4 yX4_turn wsX4_turn) := goodIn_app (goodIn_of _ (by decide +kernel)) ggX4_ticks_X4_turn
theorem dX4_ticks_0 : decode cX4_ticks 0 = .ok (.bipush 9, 2) := by decide +kernel
