theorem dX4_ticks_2 : decode cX4_ticks 2 = .ok (.istore_n 1, 1) := by decide +kernel
theorem dX4_ticks_3 : decode cX4_ticks 3 = .ok (.iload_n 1, 1) := by decide +kernel
theorem dX4_ticks_4 : decode cX4_ticks 4 = .ok (.ifCond .lt 42, 3) := by decide +kernel
theorem dX4_ticks_7 : decode cX4_ticks 7 = .ok (.iconst 0, 1) := by decide +kernel
theorem dX4_ticks_8 : decode cX4_ticks 8 = .ok (.istore_n 2, 1) := by decide +kernel
theorem dX4_ticks_9 : decode cX4_ticks 9 = .ok (.iload_n 2, 1) := by decide +kernel
theorem dX4_ticks_10 : decode cX4_ticks 10 = .ok (.aload_n 0, 1) := by decide +kernel
theorem dX4_ticks_11 : decode cX4_ticks 11 = .ok (.getfield 7, 3) := by decide +kernel
theorem dX4_ticks_14 : decode cX4_ticks 14 = .ok (.iconst 2, 1) := by decide +kernel
theorem dX4_ticks_15 : decode cX4_ticks 15 = .ok (.iaload, 1) := by decide +kernel
theorem dX4_ticks_16 : decode cX4_ticks 16 = .ok (.if_icmp .ge 24, 3) := by decide +kernel
theorem dX4_ticks_19 : decode cX4_ticks 19 = .ok (.aload_n 0, 1) := by decide +kernel
theorem dX4_ticks_20 : decode cX4_ticks 20 = .ok (.iload_n 2, 1) := by decide +kernel
theorem dX4_ticks_21 : decode cX4_ticks 21 = .ok (.iconst 2, 1) := by decide +kernel
theorem dX4_ticks_22 : decode cX4_ticks 22 = .ok (.invokevirtual 28, 3) := by decide +kernel
theorem dX4_ticks_25 : decode cX4_ticks 25 = .ok (.iload_n 1, 1) := by decide +kernel
theorem dX4_ticks_26 : decode cX4_ticks 26 = .ok (.if_icmp .ne 8, 3) := by decide +kernel
theorem dX4_ticks_29 : decode cX4_ticks 29 = .ok (.aload_n 0, 1) := by decide +kernel
theorem dX4_ticks_30 : decode cX4_ticks 30 = .ok (.iload_n 2, 1) := by decide +kernel
theorem dX4_ticks_31 : decode cX4_ticks 31 = .ok (.invokevirtual 108, 3) := by decide +kernel
theorem dX4_ticks_34 : decode cX4_ticks 34 = .ok (.iinc 2 1, 3) := by decide +kernel
theorem dX4_ticks_37 : decode cX4_ticks 37 = .ok (.goto (-28), 3) := by decide +kernel
theorem dX4_ticks_40 : decode cX4_ticks 40 = .ok (.iinc 1 (-1), 3) := by decide +kernel
theorem dX4_ticks_43 : decode cX4_ticks 43 = .ok (.goto (-40), 3) := by decide +kernel
theorem dX4_ticks_46 : decode cX4_ticks 46 = .ok (.aload_n 0, 1) := by decide +kernel
theorem dX4_ticks_47 : decode cX4_ticks 47 = .ok (.getfield 7, 3) := by decide +kernel
theorem dX4_ticks_50 : decode cX4_ticks 50 = .ok (.iconst 0, 1) := by decide +kernel
theorem dX4_ticks_51 : decode cX4_ticks 51 = .ok (.dup2, 1) := by decide +kernel
theorem dX4_ticks_52 : decode cX4_ticks 52 = .ok (.iaload, 1) := by decide +kernel
theorem dX4_ticks_53 : decode cX4_ticks 53 = .ok (.iconst 1, 1) := by decide +kernel
theorem dX4_ticks_54 : decode cX4_ticks 54 = .ok (.iadd, 1) := by decide +kernel
theorem dX4_ticks_55 : decode cX4_ticks 55 = .ok (.iastore, 1) := by decide +kernel
theorem dX4_ticks_56 : decode cX4_ticks 56 = .ok (.return_, 1) := by decide +kernel
set_option maxRecDepth 20000 in
theorem ggX4_tick_X4_in : GoodIn wsX4_tick wsX4_in := goodIn_r _ [6] (by decide +kernel) (by decide +kernel)
set_option maxRecDepth 20000 in
theorem gX4_tick_X4_in : GoodIn wsX4_tick (va_wsS RX4 24 yX4_in wsX4_in) := goodIn_app (goodIn_of _ (by decide +kernel)) ggX4_tick_X4_in
set_option maxRecDepth 20000 in
theorem ggX4_tick_X4_saves : GoodIn wsX4_tick wsX4_saves := goodIn_r _ [10, 11, 12, 13, 14, 5, 15, 1, 76, 77, 78, 79, 80, 81] (by decide +kernel) (by decide +kernel)
set_option maxRecDepth 20000 in
theorem gX4_tick_X4_saves : GoodIn wsX4_tick (wsV RX4 59 RX4 yX4_saves wsX4_saves) := goodIn_app (goodIn_of _ (by decide +kernel)) ggX4_tick_X4_saves
set_option maxRecDepth 20000 in
theorem ggX4_tick_X4_ticks : GoodIn wsX4_tick wsX4_ticks := goodIn_r _ [19, 1, 20, 21, 22, 5, 23, 24, 25, 26, 27, 28, 29, 30, 31, 32, 33, 34, 35, 36, 37, 38, 39, 40, 41, 42, 43, 44, 45, 46, 47, 48, 49, 50, 51, 52, 53, 54, 55, 56, 57, 58, 59, 60, 61, 62, 63, 64, 65, 66, 67, 68, 69, 70, 71, 72, 73, 74, 75, 76, 77, 78, 79, 80, 81] (by decide +kernel) (by decide +kernel)
set_option maxRecDepth 20000 in
theorem gX4_tick_X4_ticks : GoodIn wsX4_tick (wsV RX4 112 RX4 yX4_ticks wsX4_ticks) := goodIn_app (goodIn_of _ (by decide +kernel)) ggX4_tick_X4_ticks
theorem dX4_tick_0 : decode cX4_tick 0 = .ok (.iload_n 1, 1) := by decide +kernel
theorem dX4_tick_1 : decode cX4_tick 1 = .ok (.iconst 1, 1) := by decide +kernel
theorem dX4_tick_2 : decode cX4_tick 2 = .ok (.sipush 200, 3) := by decide +kernel
theorem dX4_tick_5 : decode cX4_tick 5 = .ok (.invokestatic 24, 3) := by decide +kernel
theorem dX4_tick_8 : decode cX4_tick 8 = .ok (.ifCond .ne 6, 3) := by decide +kernel
theorem dX4_tick_11 : decode cX4_tick 11 = .ok (.bipush (-102), 2) := by decide +kernel
theorem dX4_tick_13 : decode cX4_tick 13 = .ok (.ireturn, 1) := by decide +kernel
theorem dX4_tick_14 : decode cX4_tick 14 = .ok (.aload_n 0, 1) := by decide +kernel
theorem dX4_tick_15 : decode cX4_tick 15 = .ok (.getfield 7, 3) := by decide +kernel
theorem dX4_tick_18 : decode cX4_tick 18 = .ok (.iconst 0, 1) := by decide +kernel
theorem dX4_tick_19 : decode cX4_tick 19 = .ok (.iaload, 1) := by decide +kernel
theorem dX4_tick_20 : decode cX4_tick 20 = .ok (.iload_n 1, 1) := by decide +kernel
theorem dX4_tick_21 : decode cX4_tick 21 = .ok (.iadd, 1) := by decide +kernel
theorem dX4_tick_22 : decode cX4_tick 22 = .ok (.ldc 111, 2) := by decide +kernel
theorem dX4_tick_24 : decode cX4_tick 24 = .ok (.if_icmp .le 6, 3) := by decide +kernel
theorem dX4_tick_27 : decode cX4_tick 27 = .ok (.bipush (-104), 2) := by decide +kernel
theorem dX4_tick_29 : decode cX4_tick 29 = .ok (.ireturn, 1) := by decide +kernel
theorem dX4_tick_30 : decode cX4_tick 30 = .ok (.aload_n 0, 1) := by decide +kernel
theorem dX4_tick_31 : decode cX4_tick 31 = .ok (.invokevirtual 59, 3) := by decide +kernel
theorem dX4_tick_34 : decode cX4_tick 34 = .ok (.iconst 0, 1) := by decide +kernel
theorem dX4_tick_35 : decode cX4_tick 35 = .ok (.istore_n 2, 1) := by decide +kernel
theorem dX4_tick_36 : decode cX4_tick 36 = .ok (.iload_n 2, 1) := by decide +kernel
theorem dX4_tick_37 : decode cX4_tick 37 = .ok (.iload_n 1, 1) := by decide +kernel
theorem dX4_tick_38 : decode cX4_tick 38 = .ok (.if_icmp .ge 13, 3) := by decide +kernel
theorem dX4_tick_41 : decode cX4_tick 41 = .ok (.aload_n 0, 1) := by decide +kernel
theorem dX4_tick_42 : decode cX4_tick 42 = .ok (.invokevirtual 112, 3) := by decide +kernel
theorem dX4_tick_45 : decode cX4_tick 45 = .ok (.iinc 2 1, 3) := by decide +kernel
theorem dX4_tick_48 : decode cX4_tick 48 = .ok (.goto (-12), 3) := by decide +kernel
theorem dX4_tick_51 : decode cX4_tick 51 = .ok (.aload_n 0, 1) := by decide +kernel
theorem dX4_tick_52 : decode cX4_tick 52 = .ok (.getfield 7, 3) := by decide +kernel
theorem dX4_tick_55 : decode cX4_tick 55 = .ok (.iconst 0, 1) := by decide +kernel
theorem dX4_tick_56 : decode cX4_tick 56 = .ok (.iaload, 1) := by decide +kernel
theorem dX4_tick_57 : decode cX4_tick 57 = .ok (.ireturn, 1) := by decide +kernel
theorem dX4_time_0 : decode cX4_time 0 = .ok (.aload_n 0, 1) := by decide +kernel
theorem dX4_time_1 : decode cX4_time 1 = .ok (.getfield 7, 3) := by decide +kernel
theorem dX4_time_4 : decode cX4_time 4 = .ok (.iconst 0, 1) := by decide +kernel
theorem dX4_time_5 : decode cX4_time 5 = .ok (.iaload, 1) := by decide +kernel
theorem dX4_time_6 : decode cX4_time 6 = .ok (.ireturn, 1) := by decide +kernel
set_option maxRecDepth 20000 in
theorem ggX4_needs_X4_isCrane : GoodIn wsX4_needs wsX4_isCrane := goodIn_r _ [5, 6, 7, 8, 4, 9, 22, 23, 24, 25, 26, 27] (by decide +kernel) (by decide +kernel)
set_option maxRecDepth 20000 in
theorem gX4_needs_X4_isCrane : GoodIn wsX4_needs (wsV RX4 66 RX4 yX4_isCrane wsX4_isCrane) := goodIn_app (goodIn_of _ (by decide +kernel)) ggX4_needs_X4_isCrane
set_option maxRecDepth 20000 in
theorem ggX4_needs_X4_hasTarget : GoodIn wsX4_needs wsX4_hasTarget := goodIn_r _ [13, 14, 15, 16, 4, 17, 6, 22, 23, 24, 25, 26, 27] (by decide +kernel) (by decide +kernel)
set_option maxRecDepth 20000 in
theorem gX4_needs_X4_hasTarget : GoodIn wsX4_needs (wsV RX4 50 RX4 yX4_hasTarget wsX4_hasTarget) := goodIn_app (goodIn_of _ (by decide +kernel)) ggX4_needs_X4_hasTarget
set_option maxRecDepth 20000 in
theorem ggX4_needs_X4_of : GoodIn wsX4_needs wsX4_of := goodIn_r _ [17, 6, 22, 23, 24, 25, 26, 27] (by decide +kernel) (by decide +kernel)
set_option maxRecDepth 20000 in
theorem gX4_needs_X4_of : GoodIn wsX4_needs (wsV RX4 28 RX4 yX4_of wsX4_of) := goodIn_app (goodIn_of _ (by decide +kernel)) ggX4_needs_X4_of
set_option maxRecDepth 20000 in
theorem ggX4_needs_X4_stepsTo : GoodIn wsX4_needs wsX4_stepsTo := goodIn_r _ [21, 14, 15, 16, 4, 17, 6, 22, 23, 24, 25, 26, 27] (by decide +kernel) (by decide +kernel)
set_option maxRecDepth 20000 in
theorem gX4_needs_X4_stepsTo : GoodIn wsX4_needs (wsV RX4 88 RX4 yX4_stepsTo wsX4_stepsTo) := goodIn_app (goodIn_of _ (by decide +kernel)) ggX4_needs_X4_stepsTo
theorem dX4_needs_0 : decode cX4_needs 0 = .ok (.aload_n 0, 1) := by decide +kernel
theorem dX4_needs_1 : decode cX4_needs 1 = .ok (.iload_n 1, 1) := by decide +kernel
theorem dX4_needs_2 : decode cX4_needs 2 = .ok (.invokevirtual 66, 3) := by decide +kernel
theorem dX4_needs_5 : decode cX4_needs 5 = .ok (.ifCond .ne 6, 3) := by decide +kernel
theorem dX4_needs_8 : decode cX4_needs 8 = .ok (.bipush (-101), 2) := by decide +kernel
theorem dX4_needs_10 : decode cX4_needs 10 = .ok (.ireturn, 1) := by decide +kernel
theorem dX4_needs_11 : decode cX4_needs 11 = .ok (.aload_n 0, 1) := by decide +kernel
theorem dX4_needs_12 : decode cX4_needs 12 = .ok (.iload_n 1, 1) := by decide +kernel
theorem dX4_needs_13 : decode cX4_needs 13 = .ok (.invokevirtual 50, 3) := by decide +kernel
theorem dX4_needs_16 : decode cX4_needs 16 = .ok (.ifCond .eq 37, 3) := by decide +kernel
theorem dX4_needs_19 : decode cX4_needs 19 = .ok (.aload_n 0, 1) := by decide +kernel
theorem dX4_needs_20 : decode cX4_needs 20 = .ok (.iload_n 1, 1) := by decide +kernel
theorem dX4_needs_21 : decode cX4_needs 21 = .ok (.aload_n 0, 1) := by decide +kernel
theorem dX4_needs_22 : decode cX4_needs 22 = .ok (.iload_n 1, 1) := by decide +kernel
theorem dX4_needs_23 : decode cX4_needs 23 = .ok (.iconst 3, 1) := by decide +kernel
theorem dX4_needs_24 : decode cX4_needs 24 = .ok (.invokevirtual 28, 3) := by decide +kernel
theorem dX4_needs_27 : decode cX4_needs 27 = .ok (.aload_n 0, 1) := by decide +kernel
theorem dX4_needs_28 : decode cX4_needs 28 = .ok (.iload_n 1, 1) := by decide +kernel
theorem dX4_needs_29 : decode cX4_needs 29 = .ok (.iconst 4, 1) := by decide +kernel
theorem dX4_needs_30 : decode cX4_needs 30 = .ok (.invokevirtual 28, 3) := by decide +kernel
theorem dX4_needs_33 : decode cX4_needs 33 = .ok (.invokevirtual 88, 3) := by decide +kernel
theorem dX4_needs_36 : decode cX4_needs 36 = .ok (.aload_n 0, 1) := by decide +kernel
theorem dX4_needs_37 : decode cX4_needs 37 = .ok (.iload_n 1, 1) := by decide +kernel
theorem dX4_needs_38 : decode cX4_needs 38 = .ok (.iconst 1, 1) := by decide +kernel
theorem dX4_needs_39 : decode cX4_needs 39 = .ok (.invokevirtual 28, 3) := by decide +kernel
theorem dX4_needs_42 : decode cX4_needs 42 = .ok (.imul, 1) := by decide +kernel
theorem dX4_needs_43 : decode cX4_needs 43 = .ok (.aload_n 0, 1) := by decide +kernel
theorem dX4_needs_44 : decode cX4_needs 44 = .ok (.iload_n 1, 1) := by decide +kernel
theorem dX4_needs_45 : decode cX4_needs 45 = .ok (.iconst 5, 1) := by decide +kernel
theorem dX4_needs_46 : decode cX4_needs 46 = .ok (.invokevirtual 28, 3) := by decide +kernel
theorem dX4_needs_49 : decode cX4_needs 49 = .ok (.isub, 1) := by decide +kernel
theorem dX4_needs_50 : decode cX4_needs 50 = .ok (.goto 4, 3) := by decide +kernel
theorem dX4_needs_53 : decode cX4_needs 53 = .ok (.iconst 0, 1) := by decide +kernel
theorem dX4_needs_54 : decode cX4_needs 54 = .ok (.ireturn, 1) := by decide +kernel
set_option maxRecDepth 20000 in
theorem ggX4_blocker_X4_isCrane : GoodIn wsX4_blocker wsX4_isCrane := goodIn_r _ [5, 6, 7, 8, 4, 9, 46, 47, 48, 49, 50, 51] (by decide +kernel) (by decide +kernel)
set_option maxRecDepth 20000 in
theorem gX4_blocker_X4_isCrane : GoodIn wsX4_blocker (wsV RX4 66 RX4 yX4_isCrane wsX4_isCrane) := goodIn_app (goodIn_of _ (by decide +kernel)) ggX4_blocker_X4_isCrane
set_option maxRecDepth 20000 in
theorem ggX4_blocker_X4_isBlocked : GoodIn wsX4_blocker wsX4_isBlocked := goodIn_r _ [13, 14, 15, 16, 4, 17, 18, 19, 20, 21, 6, 22, 23, 24, 25, 26, 27, 28, 29, 30, 31, 32, 33, 34, 35, 36, 37, 38, 39, 40, 41, 42, 43, 44, 45, 46, 47, 48, 49, 50, 51] (by decide +kernel) (by decide +kernel)
set_option maxRecDepth 20000 in
theorem gX4_blocker_X4_isBlocked : GoodIn wsX4_blocker (wsV RX4 102 RX4 yX4_isBlocked wsX4_isBlocked) := goodIn_app (goodIn_of _ (by decide +kernel)) ggX4_blocker_X4_isBlocked
set_option maxRecDepth 20000 in
theorem ggX4_blocker_X4_inWay : GoodIn wsX4_blocker wsX4_inWay := goodIn_r _ [29, 6, 30, 31, 32, 4, 33, 18, 19, 20, 21, 34, 35, 36, 37, 38, 39, 40, 41, 22, 23, 24, 25, 42, 43, 44, 45, 46, 47, 48, 49, 50, 51] (by decide +kernel) (by decide +kernel)
set_option maxRecDepth 20000 in
theorem gX4_blocker_X4_inWay : GoodIn wsX4_blocker (wsV RX4 53 RX4 yX4_inWay wsX4_inWay) := goodIn_app (goodIn_of _ (by decide +kernel)) ggX4_blocker_X4_inWay
theorem dX4_blocker_0 : decode cX4_blocker 0 = .ok (.aload_n 0, 1) := by decide +kernel
theorem dX4_blocker_1 : decode cX4_blocker 1 = .ok (.iload_n 1, 1) := by decide +kernel
theorem dX4_blocker_2 : decode cX4_blocker 2 = .ok (.invokevirtual 66, 3) := by decide +kernel
theorem dX4_blocker_5 : decode cX4_blocker 5 = .ok (.ifCond .ne 6, 3) := by decide +kernel
theorem dX4_blocker_8 : decode cX4_blocker 8 = .ok (.bipush (-101), 2) := by decide +kernel
theorem dX4_blocker_10 : decode cX4_blocker 10 = .ok (.ireturn, 1) := by decide +kernel
theorem dX4_blocker_11 : decode cX4_blocker 11 = .ok (.aload_n 0, 1) := by decide +kernel
theorem dX4_blocker_12 : decode cX4_blocker 12 = .ok (.iload_n 1, 1) := by decide +kernel
theorem dX4_blocker_13 : decode cX4_blocker 13 = .ok (.invokevirtual 102, 3) := by decide +kernel
theorem dX4_blocker_16 : decode cX4_blocker 16 = .ok (.ifCond .eq 11, 3) := by decide +kernel
theorem dX4_blocker_19 : decode cX4_blocker 19 = .ok (.aload_n 0, 1) := by decide +kernel
theorem dX4_blocker_20 : decode cX4_blocker 20 = .ok (.iload_n 1, 1) := by decide +kernel
theorem dX4_blocker_21 : decode cX4_blocker 21 = .ok (.invokevirtual 53, 3) := by decide +kernel
theorem dX4_blocker_24 : decode cX4_blocker 24 = .ok (.goto 5, 3) := by decide +kernel
theorem dX4_blocker_27 : decode cX4_blocker 27 = .ok (.bipush (-100), 2) := by decide +kernel
theorem dX4_blocker_29 : decode cX4_blocker 29 = .ok (.ireturn, 1) := by decide +kernel
set_option maxRecDepth 20000 in
theorem ggX4_cycle_X4_isBlocked : GoodIn wsX4_cycle wsX4_isBlocked := goodIn_r _ [6, 7, 8, 9, 5, 10, 11, 12, 13, 14, 1, 15, 16, 17, 18, 19, 20, 21, 22, 23, 24, 25, 26, 27, 28, 29, 30, 31, 32, 33, 34, 35, 36, 37, 38, 39, 40, 41, 42, 43, 44] (by decide +kernel) (by decide +kernel)
set_option maxRecDepth 20000 in
theorem gX4_cycle_X4_isBlocked : GoodIn wsX4_cycle (wsV RX4 102 RX4 yX4_isBlocked wsX4_isBlocked) := goodIn_app (goodIn_of _ (by decide +kernel)) ggX4_cycle_X4_isBlocked
set_option maxRecDepth 20000 in
theorem ggX4_cycle_X4_inWay : GoodIn wsX4_cycle wsX4_inWay := goodIn_r _ [22, 1, 23, 24, 25, 5, 26, 11, 12, 13, 14, 27, 28, 29, 30, 31, 32, 33, 34, 15, 16, 17, 18, 35, 36, 37, 38, 39, 40, 41, 42, 43, 44] (by decide +kernel) (by decide +kernel)
set_option maxRecDepth 20000 in
theorem gX4_cycle_X4_inWay : GoodIn wsX4_cycle (wsV RX4 53 RX4 yX4_inWay wsX4_inWay) := goodIn_app (goodIn_of _ (by decide +kernel)) ggX4_cycle_X4_inWay
theorem dX4_cycle_0 : decode cX4_cycle 0 = .ok (.iconst 0, 1) := by decide +kernel
theorem dX4_cycle_1 : decode cX4_cycle 1 = .ok (.istore_n 1, 1) := by decide +kernel
theorem dX4_cycle_2 : decode cX4_cycle 2 = .ok (.iconst 0, 1) := by decide +kernel
theorem dX4_cycle_3 : decode cX4_cycle 3 = .ok (.istore_n 2, 1) := by decide +kernel
theorem dX4_cycle_4 : decode cX4_cycle 4 = .ok (.iload_n 2, 1) := by decide +kernel
theorem dX4_cycle_5 : decode cX4_cycle 5 = .ok (.aload_n 0, 1) := by decide +kernel
theorem dX4_cycle_6 : decode cX4_cycle 6 = .ok (.getfield 7, 3) := by decide +kernel
theorem dX4_cycle_9 : decode cX4_cycle 9 = .ok (.iconst 2, 1) := by decide +kernel
theorem dX4_cycle_10 : decode cX4_cycle 10 = .ok (.iaload, 1) := by decide +kernel
theorem dX4_cycle_11 : decode cX4_cycle 11 = .ok (.if_icmp .ge 86, 3) := by decide +kernel
theorem dX4_cycle_14 : decode cX4_cycle 14 = .ok (.iload_n 2, 1) := by decide +kernel
theorem dX4_cycle_15 : decode cX4_cycle 15 = .ok (.istore_n 3, 1) := by decide +kernel
theorem dX4_cycle_16 : decode cX4_cycle 16 = .ok (.iconst 0, 1) := by decide +kernel
theorem dX4_cycle_17 : decode cX4_cycle 17 = .ok (.istore 4, 2) := by decide +kernel
theorem dX4_cycle_19 : decode cX4_cycle 19 = .ok (.iconst 0, 1) := by decide +kernel
theorem dX4_cycle_20 : decode cX4_cycle 20 = .ok (.istore 5, 2) := by decide +kernel
theorem dX4_cycle_22 : decode cX4_cycle 22 = .ok (.iload 5, 2) := by decide +kernel
theorem dX4_cycle_24 : decode cX4_cycle 24 = .ok (.iconst 4, 1) := by decide +kernel
theorem dX4_cycle_25 : decode cX4_cycle 25 = .ok (.if_icmp .ge 51, 3) := by decide +kernel
theorem dX4_cycle_28 : decode cX4_cycle 28 = .ok (.iload_n 3, 1) := by decide +kernel
theorem dX4_cycle_29 : decode cX4_cycle 29 = .ok (.bipush (-100), 2) := by decide +kernel
theorem dX4_cycle_31 : decode cX4_cycle 31 = .ok (.if_icmp .eq 45, 3) := by decide +kernel
theorem dX4_cycle_34 : decode cX4_cycle 34 = .ok (.iload 4, 2) := by decide +kernel
theorem dX4_cycle_36 : decode cX4_cycle 36 = .ok (.ifCond .ne 40, 3) := by decide +kernel
theorem dX4_cycle_39 : decode cX4_cycle 39 = .ok (.aload_n 0, 1) := by decide +kernel
theorem dX4_cycle_40 : decode cX4_cycle 40 = .ok (.iload_n 3, 1) := by decide +kernel
theorem dX4_cycle_41 : decode cX4_cycle 41 = .ok (.invokevirtual 102, 3) := by decide +kernel
theorem dX4_cycle_44 : decode cX4_cycle 44 = .ok (.ifCond .eq 11, 3) := by decide +kernel
theorem dX4_cycle_47 : decode cX4_cycle 47 = .ok (.aload_n 0, 1) := by decide +kernel
theorem dX4_cycle_48 : decode cX4_cycle 48 = .ok (.iload_n 3, 1) := by decide +kernel
theorem dX4_cycle_49 : decode cX4_cycle 49 = .ok (.invokevirtual 53, 3) := by decide +kernel
theorem dX4_cycle_52 : decode cX4_cycle 52 = .ok (.goto 5, 3) := by decide +kernel
theorem dX4_cycle_55 : decode cX4_cycle 55 = .ok (.bipush (-100), 2) := by decide +kernel
theorem dX4_cycle_57 : decode cX4_cycle 57 = .ok (.istore_n 3, 1) := by decide +kernel
theorem dX4_cycle_58 : decode cX4_cycle 58 = .ok (.iload_n 3, 1) := by decide +kernel
theorem dX4_cycle_59 : decode cX4_cycle 59 = .ok (.iload_n 2, 1) := by decide +kernel
theorem dX4_cycle_60 : decode cX4_cycle 60 = .ok (.if_icmp .ne 7, 3) := by decide +kernel
theorem dX4_cycle_63 : decode cX4_cycle 63 = .ok (.iconst 1, 1) := by decide +kernel
theorem dX4_cycle_64 : decode cX4_cycle 64 = .ok (.goto 4, 3) := by decide +kernel
theorem dX4_cycle_67 : decode cX4_cycle 67 = .ok (.iconst 0, 1) := by decide +kernel
theorem dX4_cycle_68 : decode cX4_cycle 68 = .ok (.istore 4, 2) := by decide +kernel
theorem dX4_cycle_70 : decode cX4_cycle 70 = .ok (.iinc 5 1, 3) := by decide +kernel
theorem dX4_cycle_73 : decode cX4_cycle 73 = .ok (.goto (-51), 3) := by decide +kernel
theorem dX4_cycle_76 : decode cX4_cycle 76 = .ok (.iload_n 1, 1) := by decide +kernel
theorem dX4_cycle_77 : decode cX4_cycle 77 = .ok (.iload 4, 2) := by decide +kernel
theorem dX4_cycle_79 : decode cX4_cycle 79 = .ok (.ifCond .eq 9, 3) := by decide +kernel
theorem dX4_cycle_82 : decode cX4_cycle 82 = .ok (.iconst 1, 1) := by decide +kernel
theorem dX4_cycle_83 : decode cX4_cycle 83 = .ok (.iload_n 2, 1) := by decide +kernel
theorem dX4_cycle_84 : decode cX4_cycle 84 = .ok (.ishl, 1) := by decide +kernel
theorem dX4_cycle_85 : decode cX4_cycle 85 = .ok (.goto 4, 3) := by decide +kernel
theorem dX4_cycle_88 : decode cX4_cycle 88 = .ok (.iconst 0, 1) := by decide +kernel
theorem dX4_cycle_89 : decode cX4_cycle 89 = .ok (.ior, 1) := by decide +kernel
theorem dX4_cycle_90 : decode cX4_cycle 90 = .ok (.istore_n 1, 1) := by decide +kernel
theorem dX4_cycle_91 : decode cX4_cycle 91 = .ok (.iinc 2 1, 3) := by decide +kernel
theorem dX4_cycle_94 : decode cX4_cycle 94 = .ok (.goto (-90), 3) := by decide +kernel
theorem dX4_cycle_97 : decode cX4_cycle 97 = .ok (.iload_n 1, 1) := by decide +kernel
theorem dX4_cycle_98 : decode cX4_cycle 98 = .ok (.ireturn, 1) := by decide +kernel
set_option maxRecDepth 20000 in
theorem ggX4_targets_X4_hasTarget : GoodIn wsX4_targets wsX4_hasTarget := goodIn_r _ [6, 7, 8, 9, 5, 10, 1, 11, 12, 13, 14, 15, 16] (by decide +kernel) (by decide +kernel)
set_option maxRecDepth 20000 in
theorem gX4_targets_X4_hasTarget : GoodIn wsX4_targets (wsV RX4 50 RX4 yX4_hasTarget wsX4_hasTarget) := goodIn_app (goodIn_of _ (by decide +kernel)) ggX4_targets_X4_hasTarget
theorem dX4_targets_0 : decode cX4_targets 0 = .ok (.iconst 0, 1) := by decide +kernel
theorem dX4_targets_1 : decode cX4_targets 1 = .ok (.istore_n 1, 1) := by decide +kernel
theorem dX4_targets_2 : decode cX4_targets 2 = .ok (.iconst 0, 1) := by decide +kernel
theorem dX4_targets_3 : decode cX4_targets 3 = .ok (.istore_n 2, 1) := by decide +kernel
theorem dX4_targets_4 : decode cX4_targets 4 = .ok (.iload_n 2, 1) := by decide +kernel
theorem dX4_targets_5 : decode cX4_targets 5 = .ok (.aload_n 0, 1) := by decide +kernel
theorem dX4_targets_6 : decode cX4_targets 6 = .ok (.getfield 7, 3) := by decide +kernel
theorem dX4_targets_9 : decode cX4_targets 9 = .ok (.iconst 2, 1) := by decide +kernel
theorem dX4_targets_10 : decode cX4_targets 10 = .ok (.iaload, 1) := by decide +kernel
theorem dX4_targets_11 : decode cX4_targets 11 = .ok (.if_icmp .ge 25, 3) := by decide +kernel
theorem dX4_targets_14 : decode cX4_targets 14 = .ok (.iload_n 1, 1) := by decide +kernel
theorem dX4_targets_15 : decode cX4_targets 15 = .ok (.aload_n 0, 1) := by decide +kernel
theorem dX4_targets_16 : decode cX4_targets 16 = .ok (.iload_n 2, 1) := by decide +kernel
theorem dX4_targets_17 : decode cX4_targets 17 = .ok (.invokevirtual 50, 3) := by decide +kernel
theorem dX4_targets_20 : decode cX4_targets 20 = .ok (.ifCond .eq 7, 3) := by decide +kernel
theorem dX4_targets_23 : decode cX4_targets 23 = .ok (.iconst 1, 1) := by decide +kernel
theorem dX4_targets_24 : decode cX4_targets 24 = .ok (.goto 4, 3) := by decide +kernel
theorem dX4_targets_27 : decode cX4_targets 27 = .ok (.iconst 0, 1) := by decide +kernel
theorem dX4_targets_28 : decode cX4_targets 28 = .ok (.iadd, 1) := by decide +kernel
theorem dX4_targets_29 : decode cX4_targets 29 = .ok (.istore_n 1, 1) := by decide +kernel
theorem dX4_targets_30 : decode cX4_targets 30 = .ok (.iinc 2 1, 3) := by decide +kernel
theorem dX4_targets_33 : decode cX4_targets 33 = .ok (.goto (-29), 3) := by decide +kernel
theorem dX4_targets_36 : decode cX4_targets 36 = .ok (.iload_n 1, 1) := by decide +kernel
theorem dX4_targets_37 : decode cX4_targets 37 = .ok (.ireturn, 1) := by decide +kernel
set_option maxRecDepth 20000 in
theorem ggX4_foretells_X4_copies : GoodIn wsX4_foretells wsX4_copies := goodIn_r _ [5, 6, 71, 72, 73, 74, 75, 76] (by decide +kernel) (by decide +kernel)
set_option maxRecDepth 20000 in
theorem gX4_foretells_X4_copies : GoodIn wsX4_foretells (wsV RX4 20 RX4 yX4_copies wsX4_copies) := goodIn_app (goodIn_of _ (by decide +kernel)) ggX4_foretells_X4_copies
set_option maxRecDepth 20000 in
theorem ggX4_foretells_X4_targets : GoodIn wsX4_foretells wsX4_targets := goodIn_r _ [10, 6, 11, 12, 13, 4, 14, 15, 16, 17, 18, 71, 72, 73, 74, 75, 76] (by decide +kernel) (by decide +kernel)
set_option maxRecDepth 20000 in
theorem gX4_foretells_X4_targets : GoodIn wsX4_foretells (wsV RX4 115 RX4 yX4_targets wsX4_targets) := goodIn_app (goodIn_of _ (by decide +kernel)) ggX4_foretells_X4_targets
set_option maxRecDepth 20000 in
theorem ggX4_foretells_X4_hasTarget : GoodIn wsX4_foretells wsX4_hasTarget := goodIn_r _ [14, 15, 16, 17, 4, 18, 6, 71, 72, 73, 74, 75, 76] (by decide +kernel) (by decide +kernel)
set_option maxRecDepth 20000 in
theorem gX4_foretells_X4_hasTarget : GoodIn wsX4_foretells (wsV RX4 50 RX4 yX4_hasTarget wsX4_hasTarget) := goodIn_app (goodIn_of _ (by decide +kernel)) ggX4_foretells_X4_hasTarget
set_option maxRecDepth 20000 in
theorem ggX4_foretells_X4_ticks : GoodIn wsX4_foretells wsX4_ticks := goodIn_r _ [22, 6, 15, 16, 17, 4, 18, 23, 24, 25, 26, 27, 28, 29, 30, 31, 32, 33, 34, 35, 36, 37, 38, 11, 12, 13, 14, 39, 40, 41, 42, 43, 44, 45, 46, 47, 48, 49, 50, 51, 52, 53, 54, 55, 56, 57, 58, 59, 60, 61, 62, 63, 64, 65, 66, 67, 68, 69, 70, 71, 72, 73, 74, 75, 76] (by decide +kernel) (by decide +kernel)
set_option maxRecDepth 20000 in
theorem gX4_foretells_X4_ticks : GoodIn wsX4_foretells (wsV RX4 112 RX4 yX4_ticks wsX4_ticks) := goodIn_app (goodIn_of _ (by decide +kernel)) ggX4_foretells_X4_ticks
theorem dX4_foretells_0 : decode cX4_foretells 0 = .ok (.aload_n 0, 1) := by decide +kernel
theorem dX4_foretells_1 : decode cX4_foretells 1 = .ok (.iconst 0, 1) := by decide +kernel
theorem dX4_foretells_2 : decode cX4_foretells 2 = .ok (.bipush 6, 2) := by decide +kernel
theorem dX4_foretells_4 : decode cX4_foretells 4 = .ok (.invokevirtual 20, 3) := by decide +kernel
theorem dX4_foretells_7 : decode cX4_foretells 7 = .ok (.iconst 0, 1) := by decide +kernel
theorem dX4_foretells_8 : decode cX4_foretells 8 = .ok (.istore_n 2, 1) := by decide +kernel
theorem dX4_foretells_9 : decode cX4_foretells 9 = .ok (.iload_n 1, 1) := by decide +kernel
theorem dX4_foretells_10 : decode cX4_foretells 10 = .ok (.bipush (-100), 2) := by decide +kernel
theorem dX4_foretells_12 : decode cX4_foretells 12 = .ok (.if_icmp .ne 18, 3) := by decide +kernel
theorem dX4_foretells_15 : decode cX4_foretells 15 = .ok (.aload_n 0, 1) := by decide +kernel
theorem dX4_foretells_16 : decode cX4_foretells 16 = .ok (.invokevirtual 115, 3) := by decide +kernel
theorem dX4_foretells_19 : decode cX4_foretells 19 = .ok (.ifCond .le 7, 3) := by decide +kernel
theorem dX4_foretells_22 : decode cX4_foretells 22 = .ok (.iconst 1, 1) := by decide +kernel
theorem dX4_foretells_23 : decode cX4_foretells 23 = .ok (.goto 12, 3) := by decide +kernel
theorem dX4_foretells_26 : decode cX4_foretells 26 = .ok (.iconst 0, 1) := by decide +kernel
theorem dX4_foretells_27 : decode cX4_foretells 27 = .ok (.goto 8, 3) := by decide +kernel
theorem dX4_foretells_30 : decode cX4_foretells 30 = .ok (.aload_n 0, 1) := by decide +kernel
theorem dX4_foretells_31 : decode cX4_foretells 31 = .ok (.iload_n 1, 1) := by decide +kernel
theorem dX4_foretells_32 : decode cX4_foretells 32 = .ok (.invokevirtual 50, 3) := by decide +kernel
theorem dX4_foretells_35 : decode cX4_foretells 35 = .ok (.istore_n 3, 1) := by decide +kernel
theorem dX4_foretells_36 : decode cX4_foretells 36 = .ok (.iload_n 3, 1) := by decide +kernel
theorem dX4_foretells_37 : decode cX4_foretells 37 = .ok (.ifCond .eq 47, 3) := by decide +kernel
theorem dX4_foretells_40 : decode cX4_foretells 40 = .ok (.iload_n 2, 1) := by decide +kernel
theorem dX4_foretells_41 : decode cX4_foretells 41 = .ok (.sipush 1000, 3) := by decide +kernel
theorem dX4_foretells_44 : decode cX4_foretells 44 = .ok (.if_icmp .ge 40, 3) := by decide +kernel
theorem dX4_foretells_47 : decode cX4_foretells 47 = .ok (.aload_n 0, 1) := by decide +kernel
theorem dX4_foretells_48 : decode cX4_foretells 48 = .ok (.invokevirtual 112, 3) := by decide +kernel
theorem dX4_foretells_51 : decode cX4_foretells 51 = .ok (.iinc 2 1, 3) := by decide +kernel
theorem dX4_foretells_54 : decode cX4_foretells 54 = .ok (.iload_n 1, 1) := by decide +kernel
theorem dX4_foretells_55 : decode cX4_foretells 55 = .ok (.bipush (-100), 2) := by decide +kernel
theorem dX4_foretells_57 : decode cX4_foretells 57 = .ok (.if_icmp .ne 18, 3) := by decide +kernel
theorem dX4_foretells_60 : decode cX4_foretells 60 = .ok (.aload_n 0, 1) := by decide +kernel
theorem dX4_foretells_61 : decode cX4_foretells 61 = .ok (.invokevirtual 115, 3) := by decide +kernel
theorem dX4_foretells_64 : decode cX4_foretells 64 = .ok (.ifCond .le 7, 3) := by decide +kernel
theorem dX4_foretells_67 : decode cX4_foretells 67 = .ok (.iconst 1, 1) := by decide +kernel
theorem dX4_foretells_68 : decode cX4_foretells 68 = .ok (.goto 12, 3) := by decide +kernel
theorem dX4_foretells_71 : decode cX4_foretells 71 = .ok (.iconst 0, 1) := by decide +kernel
theorem dX4_foretells_72 : decode cX4_foretells 72 = .ok (.goto 8, 3) := by decide +kernel
theorem dX4_foretells_75 : decode cX4_foretells 75 = .ok (.aload_n 0, 1) := by decide +kernel
theorem dX4_foretells_76 : decode cX4_foretells 76 = .ok (.iload_n 1, 1) := by decide +kernel
theorem dX4_foretells_77 : decode cX4_foretells 77 = .ok (.invokevirtual 50, 3) := by decide +kernel
theorem dX4_foretells_80 : decode cX4_foretells 80 = .ok (.istore_n 3, 1) := by decide +kernel
theorem dX4_foretells_81 : decode cX4_foretells 81 = .ok (.goto (-45), 3) := by decide +kernel
theorem dX4_foretells_84 : decode cX4_foretells 84 = .ok (.aload_n 0, 1) := by decide +kernel
theorem dX4_foretells_85 : decode cX4_foretells 85 = .ok (.bipush 6, 2) := by decide +kernel
theorem dX4_foretells_87 : decode cX4_foretells 87 = .ok (.iconst 0, 1) := by decide +kernel
theorem dX4_foretells_88 : decode cX4_foretells 88 = .ok (.invokevirtual 20, 3) := by decide +kernel
theorem dX4_foretells_91 : decode cX4_foretells 91 = .ok (.iload_n 3, 1) := by decide +kernel
theorem dX4_foretells_92 : decode cX4_foretells 92 = .ok (.ifCond .eq 8, 3) := by decide +kernel
theorem dX4_foretells_95 : decode cX4_foretells 95 = .ok (.bipush (-100), 2) := by decide +kernel
theorem dX4_foretells_97 : decode cX4_foretells 97 = .ok (.goto 4, 3) := by decide +kernel
theorem dX4_foretells_100 : decode cX4_foretells 100 = .ok (.iload_n 2, 1) := by decide +kernel
theorem dX4_foretells_101 : decode cX4_foretells 101 = .ok (.ireturn, 1) := by decide +kernel
set_option maxRecDepth 20000 in
theorem ggX4_allDone_X4_foretells : GoodIn wsX4_allDone wsX4_foretells := goodIn_r _ [5, 6, 7, 8, 4, 9, 10, 11, 12, 13, 14, 15, 16, 17, 18, 19, 20, 21, 22, 23, 24, 25, 26, 27, 28, 29, 30, 31, 32, 33, 34, 35, 36, 37, 38, 39, 40, 41, 42, 43, 44, 45, 46, 47, 48, 49, 50, 51, 52, 53, 54, 55, 56, 57, 58, 59, 60, 61, 62, 63, 64, 65, 66, 67, 68, 69, 70, 71, 72, 73, 74, 75, 76, 77, 78, 79, 80] (by decide +kernel) (by decide +kernel)
set_option maxRecDepth 20000 in
theorem gX4_allDone_X4_foretells : GoodIn wsX4_allDone (wsV RX4 118 RX4 yX4_foretells wsX4_foretells) := goodIn_app (goodIn_of _ (by decide +kernel)) ggX4_allDone_X4_foretells
theorem dX4_allDone_0 : decode cX4_allDone 0 = .ok (.aload_n 0, 1) := by decide +kernel
theorem dX4_allDone_1 : decode cX4_allDone 1 = .ok (.bipush (-100), 2) := by decide +kernel
theorem dX4_allDone_3 : decode cX4_allDone 3 = .ok (.invokevirtual 118, 3) := by decide +kernel
theorem dX4_allDone_6 : decode cX4_allDone 6 = .ok (.ireturn, 1) := by decide +kernel
set_option maxRecDepth 20000 in
theorem ggX4_done_X4_isCrane : GoodIn wsX4_done wsX4_isCrane := goodIn_r _ [5, 6, 7, 8, 4, 9, 82, 83, 84, 85, 86, 87] (by decide +kernel) (by decide +kernel)
set_option maxRecDepth 20000 in
theorem gX4_done_X4_isCrane : GoodIn wsX4_done (wsV RX4 66 RX4 yX4_isCrane wsX4_isCrane) := goodIn_app (goodIn_of _ (by decide +kernel)) ggX4_done_X4_isCrane
set_option maxRecDepth 20000 in
theorem ggX4_done_X4_foretells : GoodIn wsX4_done wsX4_foretells := goodIn_r _ [13, 14, 15, 16, 4, 17, 6, 18, 19, 20, 21, 22, 23, 24, 25, 26, 27, 28, 29, 30, 31, 32, 33, 34, 35, 36, 37, 38, 39, 40, 41, 42, 43, 44, 45, 46, 47, 48, 49, 50, 51, 52, 53, 54, 55, 56, 57, 58, 59, 60, 61, 62, 63, 64, 65, 66, 67, 68, 69, 70, 71, 72, 73, 74, 75, 76, 77, 78, 79, 80, 81, 82, 83, 84, 85, 86, 87] (by decide +kernel) (by decide +kernel)
set_option maxRecDepth 20000 in
theorem gX4_done_X4_foretells : GoodIn wsX4_done (wsV RX4 118 RX4 yX4_foretells wsX4_foretells) := goodIn_app (goodIn_of _ (by decide +kernel)) ggX4_done_X4_foretells
theorem dX4_done_0 : decode cX4_done 0 = .ok (.aload_n 0, 1) := by decide +kernel
theorem dX4_done_1 : decode cX4_done 1 = .ok (.iload_n 1, 1) := by decide +kernel
theorem dX4_done_2 : decode cX4_done 2 = .ok (.invokevirtual 66, 3) := by decide +kernel
theorem dX4_done_5 : decode cX4_done 5 = .ok (.ifCond .eq 11, 3) := by decide +kernel
theorem dX4_done_8 : decode cX4_done 8 = .ok (.aload_n 0, 1) := by decide +kernel
theorem dX4_done_9 : decode cX4_done 9 = .ok (.iload_n 1, 1) := by decide +kernel
theorem dX4_done_10 : decode cX4_done 10 = .ok (.invokevirtual 118, 3) := by decide +kernel
theorem dX4_done_13 : decode cX4_done 13 = .ok (.goto 5, 3) := by decide +kernel
theorem dX4_done_16 : decode cX4_done 16 = .ok (.bipush (-101), 2) := by decide +kernel
theorem dX4_done_18 : decode cX4_done 18 = .ok (.ireturn, 1) := by decide +kernel
set_option maxRecDepth 20000 in
theorem ggX4_waits_X4_isCrane : GoodIn wsX4_waits wsX4_isCrane := goodIn_r _ [5, 6, 7, 8, 4, 9, 74, 75, 76, 77, 78, 79] (by decide +kernel) (by decide +kernel)
set_option maxRecDepth 20000 in
theorem gX4_waits_X4_isCrane : GoodIn wsX4_waits (wsV RX4 66 RX4 yX4_isCrane wsX4_isCrane) := goodIn_app (goodIn_of _ (by decide +kernel)) ggX4_waits_X4_isCrane
set_option maxRecDepth 20000 in
theorem ggX4_waits_X4_in : GoodIn wsX4_waits wsX4_in := goodIn_r _ [9] (by decide +kernel) (by decide +kernel)
set_option maxRecDepth 20000 in
theorem gX4_waits_X4_in : GoodIn wsX4_waits (va_wsS RX4 24 yX4_in wsX4_in) := goodIn_app (goodIn_of _ (by decide +kernel)) ggX4_waits_X4_in
set_option maxRecDepth 20000 in
theorem ggX4_waits_X4_copies : GoodIn wsX4_waits wsX4_copies := goodIn_r _ [13, 6, 74, 75, 76, 77, 78, 79] (by decide +kernel) (by decide +kernel)
set_option maxRecDepth 20000 in
theorem gX4_waits_X4_copies : GoodIn wsX4_waits (wsV RX4 20 RX4 yX4_copies wsX4_copies) := goodIn_app (goodIn_of _ (by decide +kernel)) ggX4_waits_X4_copies
set_option maxRecDepth 20000 in
theorem ggX4_waits_X4_of : GoodIn wsX4_waits wsX4_of := goodIn_r _ [17, 6, 74, 75, 76, 77, 78, 79] (by decide +kernel) (by decide +kernel)
set_option maxRecDepth 20000 in
theorem gX4_waits_X4_of : GoodIn wsX4_waits (wsV RX4 28 RX4 yX4_of wsX4_of) := goodIn_app (goodIn_of _ (by decide +kernel)) ggX4_waits_X4_of
set_option maxRecDepth 20000 in
theorem ggX4_waits_X4_ticks : GoodIn wsX4_waits wsX4_ticks := goodIn_r _ [21, 6, 14, 15, 16, 4, 17, 22, 23, 24, 25, 26, 27, 28, 29, 30, 31, 32, 33, 34, 35, 36, 37, 38, 39, 40, 41, 42, 43, 44, 45, 46, 47, 48, 49, 50, 51, 52, 53, 54, 55, 56, 57, 58, 59, 60, 61, 62, 63, 64, 65, 66, 67, 68, 69, 70, 71, 72, 73, 74, 75, 76, 77, 78, 79] (by decide +kernel) (by decide +kernel)
set_option maxRecDepth 20000 in
theorem gX4_waits_X4_ticks : GoodIn wsX4_waits (wsV RX4 112 RX4 yX4_ticks wsX4_ticks) := goodIn_app (goodIn_of _ (by decide +kernel)) ggX4_waits_X4_ticks
theorem dX4_waits_0 : decode cX4_waits 0 = .ok (.aload_n 0, 1) := by decide +kernel
theorem dX4_waits_1 : decode cX4_waits 1 = .ok (.iload_n 1, 1) := by decide +kernel
theorem dX4_waits_2 : decode cX4_waits 2 = .ok (.invokevirtual 66, 3) := by decide +kernel
theorem dX4_waits_5 : decode cX4_waits 5 = .ok (.ifCond .ne 6, 3) := by decide +kernel
theorem dX4_waits_8 : decode cX4_waits 8 = .ok (.bipush (-101), 2) := by decide +kernel
theorem dX4_waits_10 : decode cX4_waits 10 = .ok (.ireturn, 1) := by decide +kernel
theorem dX4_waits_11 : decode cX4_waits 11 = .ok (.iload_n 2, 1) := by decide +kernel
theorem dX4_waits_12 : decode cX4_waits 12 = .ok (.iconst 1, 1) := by decide +kernel
theorem dX4_waits_13 : decode cX4_waits 13 = .ok (.sipush 1000, 3) := by decide +kernel
theorem dX4_waits_16 : decode cX4_waits 16 = .ok (.invokestatic 24, 3) := by decide +kernel
theorem dX4_waits_19 : decode cX4_waits 19 = .ok (.ifCond .ne 6, 3) := by decide +kernel
theorem dX4_waits_22 : decode cX4_waits 22 = .ok (.bipush (-102), 2) := by decide +kernel
theorem dX4_waits_24 : decode cX4_waits 24 = .ok (.ireturn, 1) := by decide +kernel
theorem dX4_waits_25 : decode cX4_waits 25 = .ok (.aload_n 0, 1) := by decide +kernel
theorem dX4_waits_26 : decode cX4_waits 26 = .ok (.iconst 0, 1) := by decide +kernel
theorem dX4_waits_27 : decode cX4_waits 27 = .ok (.bipush 6, 2) := by decide +kernel
theorem dX4_waits_29 : decode cX4_waits 29 = .ok (.invokevirtual 20, 3) := by decide +kernel
theorem dX4_waits_32 : decode cX4_waits 32 = .ok (.aload_n 0, 1) := by decide +kernel
theorem dX4_waits_33 : decode cX4_waits 33 = .ok (.iload_n 1, 1) := by decide +kernel
theorem dX4_waits_34 : decode cX4_waits 34 = .ok (.bipush 6, 2) := by decide +kernel
theorem dX4_waits_36 : decode cX4_waits 36 = .ok (.invokevirtual 28, 3) := by decide +kernel
theorem dX4_waits_39 : decode cX4_waits 39 = .ok (.istore_n 3, 1) := by decide +kernel
theorem dX4_waits_40 : decode cX4_waits 40 = .ok (.iconst 0, 1) := by decide +kernel
theorem dX4_waits_41 : decode cX4_waits 41 = .ok (.istore 4, 2) := by decide +kernel
theorem dX4_waits_43 : decode cX4_waits 43 = .ok (.iload 4, 2) := by decide +kernel
theorem dX4_waits_45 : decode cX4_waits 45 = .ok (.iload_n 2, 1) := by decide +kernel
theorem dX4_waits_46 : decode cX4_waits 46 = .ok (.if_icmp .ge 13, 3) := by decide +kernel
theorem dX4_waits_49 : decode cX4_waits 49 = .ok (.aload_n 0, 1) := by decide +kernel
theorem dX4_waits_50 : decode cX4_waits 50 = .ok (.invokevirtual 112, 3) := by decide +kernel
theorem dX4_waits_53 : decode cX4_waits 53 = .ok (.iinc 4 1, 3) := by decide +kernel
theorem dX4_waits_56 : decode cX4_waits 56 = .ok (.goto (-13), 3) := by decide +kernel
theorem dX4_waits_59 : decode cX4_waits 59 = .ok (.aload_n 0, 1) := by decide +kernel
theorem dX4_waits_60 : decode cX4_waits 60 = .ok (.iload_n 1, 1) := by decide +kernel
theorem dX4_waits_61 : decode cX4_waits 61 = .ok (.bipush 6, 2) := by decide +kernel
theorem dX4_waits_63 : decode cX4_waits 63 = .ok (.invokevirtual 28, 3) := by decide +kernel
theorem dX4_waits_66 : decode cX4_waits 66 = .ok (.iload_n 3, 1) := by decide +kernel
theorem dX4_waits_67 : decode cX4_waits 67 = .ok (.isub, 1) := by decide +kernel
theorem dX4_waits_68 : decode cX4_waits 68 = .ok (.istore 4, 2) := by decide +kernel
theorem dX4_waits_70 : decode cX4_waits 70 = .ok (.aload_n 0, 1) := by decide +kernel
theorem dX4_waits_71 : decode cX4_waits 71 = .ok (.bipush 6, 2) := by decide +kernel
theorem dX4_waits_73 : decode cX4_waits 73 = .ok (.iconst 0, 1) := by decide +kernel
theorem dX4_waits_74 : decode cX4_waits 74 = .ok (.invokevirtual 20, 3) := by decide +kernel
theorem dX4_waits_77 : decode cX4_waits 77 = .ok (.iload 4, 2) := by decide +kernel
theorem dX4_waits_79 : decode cX4_waits 79 = .ok (.ireturn, 1) := by decide +kernel
set_option maxRecDepth 20000 in
theorem ggX4_setWind_X4_isAngle : GoodIn wsX4_setWind wsX4_isAngle := goodIn_r _ [5, 6, 7, 4, 8] (by decide +kernel) (by decide +kernel)
set_option maxRecDepth 20000 in
theorem gX4_setWind_X4_isAngle : GoodIn wsX4_setWind (va_wsS RX4 56 yX4_isAngle wsX4_isAngle) := goodIn_app (goodIn_of _ (by decide +kernel)) ggX4_setWind_X4_isAngle
set_option maxRecDepth 20000 in
theorem ggX4_setWind_X4_saves : GoodIn wsX4_setWind wsX4_saves := goodIn_r _ [12, 13, 14, 15, 16, 4, 17, 1, 18, 19, 20, 21, 22, 23] (by decide +kernel) (by decide +kernel)
set_option maxRecDepth 20000 in
theorem gX4_setWind_X4_saves : GoodIn wsX4_setWind (wsV RX4 59 RX4 yX4_saves wsX4_saves) := goodIn_app (goodIn_of _ (by decide +kernel)) ggX4_setWind_X4_saves
theorem dX4_setWind_0 : decode cX4_setWind 0 = .ok (.iload_n 1, 1) := by decide +kernel
theorem dX4_setWind_1 : decode cX4_setWind 1 = .ok (.invokestatic 56, 3) := by decide +kernel
theorem dX4_setWind_4 : decode cX4_setWind 4 = .ok (.ifCond .ne 6, 3) := by decide +kernel
theorem dX4_setWind_7 : decode cX4_setWind 7 = .ok (.bipush (-102), 2) := by decide +kernel
theorem dX4_setWind_9 : decode cX4_setWind 9 = .ok (.ireturn, 1) := by decide +kernel
theorem dX4_setWind_10 : decode cX4_setWind 10 = .ok (.aload_n 0, 1) := by decide +kernel
theorem dX4_setWind_11 : decode cX4_setWind 11 = .ok (.invokevirtual 59, 3) := by decide +kernel
theorem dX4_setWind_14 : decode cX4_setWind 14 = .ok (.aload_n 0, 1) := by decide +kernel
theorem dX4_setWind_15 : decode cX4_setWind 15 = .ok (.getfield 7, 3) := by decide +kernel
theorem dX4_setWind_18 : decode cX4_setWind 18 = .ok (.iconst 1, 1) := by decide +kernel
theorem dX4_setWind_19 : decode cX4_setWind 19 = .ok (.iaload, 1) := by decide +kernel
theorem dX4_setWind_20 : decode cX4_setWind 20 = .ok (.istore_n 2, 1) := by decide +kernel
theorem dX4_setWind_21 : decode cX4_setWind 21 = .ok (.aload_n 0, 1) := by decide +kernel
theorem dX4_setWind_22 : decode cX4_setWind 22 = .ok (.getfield 7, 3) := by decide +kernel
theorem dX4_setWind_25 : decode cX4_setWind 25 = .ok (.iconst 1, 1) := by decide +kernel
theorem dX4_setWind_26 : decode cX4_setWind 26 = .ok (.iload_n 1, 1) := by decide +kernel
theorem dX4_setWind_27 : decode cX4_setWind 27 = .ok (.iastore, 1) := by decide +kernel
theorem dX4_setWind_28 : decode cX4_setWind 28 = .ok (.iload_n 2, 1) := by decide +kernel
theorem dX4_setWind_29 : decode cX4_setWind 29 = .ok (.ireturn, 1) := by decide +kernel
set_option maxRecDepth 20000 in
theorem ggX4_leave_X4_isCrane : GoodIn wsX4_leave wsX4_isCrane := goodIn_r _ [5, 6, 7, 8, 4, 9, 55, 56, 57, 58, 59, 60] (by decide +kernel) (by decide +kernel)
set_option maxRecDepth 20000 in
theorem gX4_leave_X4_isCrane : GoodIn wsX4_leave (wsV RX4 66 RX4 yX4_isCrane wsX4_isCrane) := goodIn_app (goodIn_of _ (by decide +kernel)) ggX4_leave_X4_isCrane
set_option maxRecDepth 20000 in
theorem ggX4_leave_X4_of : GoodIn wsX4_leave wsX4_of := goodIn_r _ [13, 6, 55, 56, 57, 58, 59, 60] (by decide +kernel) (by decide +kernel)
set_option maxRecDepth 20000 in
theorem gX4_leave_X4_of : GoodIn wsX4_leave (wsV RX4 28 RX4 yX4_of wsX4_of) := goodIn_app (goodIn_of _ (by decide +kernel)) ggX4_leave_X4_of
set_option maxRecDepth 20000 in
theorem ggX4_leave_X4_isOnStep : GoodIn wsX4_leave wsX4_isOnStep := goodIn_r _ [17, 10, 11, 12, 4, 13, 6, 55, 56, 57, 58, 59, 60] (by decide +kernel) (by decide +kernel)
set_option maxRecDepth 20000 in
theorem gX4_leave_X4_isOnStep : GoodIn wsX4_leave (wsV RX4 35 RX4 yX4_isOnStep wsX4_isOnStep) := goodIn_app (goodIn_of _ (by decide +kernel)) ggX4_leave_X4_isOnStep
set_option maxRecDepth 20000 in
theorem ggX4_leave_X4_hasArc : GoodIn wsX4_leave wsX4_hasArc := goodIn_r _ [21, 10, 11, 12, 4, 13, 6, 55, 56, 57, 58, 59, 60] (by decide +kernel) (by decide +kernel)
set_option maxRecDepth 20000 in
theorem gX4_leave_X4_hasArc : GoodIn wsX4_leave (wsV RX4 43 RX4 yX4_hasArc wsX4_hasArc) := goodIn_app (goodIn_of _ (by decide +kernel)) ggX4_leave_X4_hasArc
set_option maxRecDepth 20000 in
theorem ggX4_leave_X4_occupiers : GoodIn wsX4_leave wsX4_occupiers := goodIn_r _ [25, 6, 26, 27, 28, 4, 29, 10, 11, 12, 13, 30, 31, 32, 33, 14, 15, 16, 17, 34, 35, 36, 37, 18, 19, 20, 21, 55, 56, 57, 58, 59, 60] (by decide +kernel) (by decide +kernel)
set_option maxRecDepth 20000 in
theorem gX4_leave_X4_occupiers : GoodIn wsX4_leave (wsV RX4 69 RX4 yX4_occupiers wsX4_occupiers) := goodIn_app (goodIn_of _ (by decide +kernel)) ggX4_leave_X4_occupiers
set_option maxRecDepth 20000 in
theorem ggX4_leave_X4_saves : GoodIn wsX4_leave wsX4_saves := goodIn_r _ [41, 42, 43, 44, 45, 4, 46, 6, 55, 56, 57, 58, 59, 60] (by decide +kernel) (by decide +kernel)
set_option maxRecDepth 20000 in
theorem gX4_leave_X4_saves : GoodIn wsX4_leave (wsV RX4 59 RX4 yX4_saves wsX4_saves) := goodIn_app (goodIn_of _ (by decide +kernel)) ggX4_leave_X4_saves
set_option maxRecDepth 20000 in
theorem ggX4_leave_X4_noTarget : GoodIn wsX4_leave wsX4_noTarget := goodIn_r _ [50, 51, 52, 53, 4, 54, 6, 55, 56, 57, 58, 59, 60] (by decide +kernel) (by decide +kernel)
set_option maxRecDepth 20000 in
theorem gX4_leave_X4_noTarget : GoodIn wsX4_leave (wsV RX4 92 RX4 yX4_noTarget wsX4_noTarget) := goodIn_app (goodIn_of _ (by decide +kernel)) ggX4_leave_X4_noTarget
set_option maxRecDepth 20000 in
theorem ggX4_leave_X4_sets : GoodIn wsX4_leave wsX4_sets := goodIn_r _ [54, 6, 55, 56, 57, 58, 59, 60] (by decide +kernel) (by decide +kernel)
set_option maxRecDepth 20000 in
theorem gX4_leave_X4_sets : GoodIn wsX4_leave (wsV RX4 62 RX4 yX4_sets wsX4_sets) := goodIn_app (goodIn_of _ (by decide +kernel)) ggX4_leave_X4_sets
theorem dX4_leave_0 : decode cX4_leave 0 = .ok (.aload_n 0, 1) := by decide +kernel
theorem dX4_leave_1 : decode cX4_leave 1 = .ok (.iload_n 1, 1) := by decide +kernel
theorem dX4_leave_2 : decode cX4_leave 2 = .ok (.invokevirtual 66, 3) := by decide +kernel
theorem dX4_leave_5 : decode cX4_leave 5 = .ok (.ifCond .ne 6, 3) := by decide +kernel
theorem dX4_leave_8 : decode cX4_leave 8 = .ok (.bipush (-101), 2) := by decide +kernel
theorem dX4_leave_10 : decode cX4_leave 10 = .ok (.ireturn, 1) := by decide +kernel
theorem dX4_leave_11 : decode cX4_leave 11 = .ok (.aload_n 0, 1) := by decide +kernel
theorem dX4_leave_12 : decode cX4_leave 12 = .ok (.iload_n 1, 1) := by decide +kernel
theorem dX4_leave_13 : decode cX4_leave 13 = .ok (.bipush 7, 2) := by decide +kernel
theorem dX4_leave_15 : decode cX4_leave 15 = .ok (.invokevirtual 28, 3) := by decide +kernel
theorem dX4_leave_18 : decode cX4_leave 18 = .ok (.istore_n 3, 1) := by decide +kernel
theorem dX4_leave_19 : decode cX4_leave 19 = .ok (.aload_n 0, 1) := by decide +kernel
theorem dX4_leave_20 : decode cX4_leave 20 = .ok (.iload_n 1, 1) := by decide +kernel
theorem dX4_leave_21 : decode cX4_leave 21 = .ok (.invokevirtual 35, 3) := by decide +kernel
theorem dX4_leave_24 : decode cX4_leave 24 = .ok (.istore 4, 2) := by decide +kernel
theorem dX4_leave_26 : decode cX4_leave 26 = .ok (.iconst 0, 1) := by decide +kernel
theorem dX4_leave_27 : decode cX4_leave 27 = .ok (.istore 5, 2) := by decide +kernel
theorem dX4_leave_29 : decode cX4_leave 29 = .ok (.iload 5, 2) := by decide +kernel
theorem dX4_leave_31 : decode cX4_leave 31 = .ok (.bipush 6, 2) := by decide +kernel
theorem dX4_leave_33 : decode cX4_leave 33 = .ok (.if_icmp .ge 46, 3) := by decide +kernel
theorem dX4_leave_36 : decode cX4_leave 36 = .ok (.iload 4, 2) := by decide +kernel
theorem dX4_leave_38 : decode cX4_leave 38 = .ok (.ifCond .ne 28, 3) := by decide +kernel
theorem dX4_leave_41 : decode cX4_leave 41 = .ok (.aload_n 0, 1) := by decide +kernel
theorem dX4_leave_42 : decode cX4_leave 42 = .ok (.iload_n 1, 1) := by decide +kernel
theorem dX4_leave_43 : decode cX4_leave 43 = .ok (.iload 5, 2) := by decide +kernel
theorem dX4_leave_45 : decode cX4_leave 45 = .ok (.invokevirtual 43, 3) := by decide +kernel
theorem dX4_leave_48 : decode cX4_leave 48 = .ok (.ifCond .eq 22, 3) := by decide +kernel
theorem dX4_leave_51 : decode cX4_leave 51 = .ok (.aload_n 0, 1) := by decide +kernel
theorem dX4_leave_52 : decode cX4_leave 52 = .ok (.iload 5, 2) := by decide +kernel
theorem dX4_leave_54 : decode cX4_leave 54 = .ok (.invokevirtual 69, 3) := by decide +kernel
theorem dX4_leave_57 : decode cX4_leave 57 = .ok (.iconst 1, 1) := by decide +kernel
theorem dX4_leave_58 : decode cX4_leave 58 = .ok (.iload_n 1, 1) := by decide +kernel
theorem dX4_leave_59 : decode cX4_leave 59 = .ok (.ishl, 1) := by decide +kernel
theorem dX4_leave_60 : decode cX4_leave 60 = .ok (.iconst (-1), 1) := by decide +kernel
theorem dX4_leave_61 : decode cX4_leave 61 = .ok (.ixor, 1) := by decide +kernel
theorem dX4_leave_62 : decode cX4_leave 62 = .ok (.iand, 1) := by decide +kernel
theorem dX4_leave_63 : decode cX4_leave 63 = .ok (.ifCond .eq 7, 3) := by decide +kernel
theorem dX4_leave_66 : decode cX4_leave 66 = .ok (.iconst 1, 1) := by decide +kernel
theorem dX4_leave_67 : decode cX4_leave 67 = .ok (.goto 4, 3) := by decide +kernel
theorem dX4_leave_70 : decode cX4_leave 70 = .ok (.iconst 0, 1) := by decide +kernel
theorem dX4_leave_71 : decode cX4_leave 71 = .ok (.istore 4, 2) := by decide +kernel
theorem dX4_leave_73 : decode cX4_leave 73 = .ok (.iinc 5 1, 3) := by decide +kernel
theorem dX4_leave_76 : decode cX4_leave 76 = .ok (.goto (-47), 3) := by decide +kernel
theorem dX4_leave_79 : decode cX4_leave 79 = .ok (.iload_n 2, 1) := by decide +kernel
theorem dX4_leave_80 : decode cX4_leave 80 = .ok (.ifCond .eq 15, 3) := by decide +kernel
theorem dX4_leave_83 : decode cX4_leave 83 = .ok (.iload_n 3, 1) := by decide +kernel
theorem dX4_leave_84 : decode cX4_leave 84 = .ok (.ifCond .ne 11, 3) := by decide +kernel
theorem dX4_leave_87 : decode cX4_leave 87 = .ok (.iload 4, 2) := by decide +kernel
theorem dX4_leave_89 : decode cX4_leave 89 = .ok (.ifCond .eq 6, 3) := by decide +kernel
theorem dX4_leave_92 : decode cX4_leave 92 = .ok (.bipush (-103), 2) := by decide +kernel
theorem dX4_leave_94 : decode cX4_leave 94 = .ok (.ireturn, 1) := by decide +kernel
theorem dX4_leave_95 : decode cX4_leave 95 = .ok (.aload_n 0, 1) := by decide +kernel
theorem dX4_leave_96 : decode cX4_leave 96 = .ok (.invokevirtual 59, 3) := by decide +kernel
theorem dX4_leave_99 : decode cX4_leave 99 = .ok (.iload_n 2, 1) := by decide +kernel
theorem dX4_leave_100 : decode cX4_leave 100 = .ok (.ifCond .eq 8, 3) := by decide +kernel
theorem dX4_leave_103 : decode cX4_leave 103 = .ok (.aload_n 0, 1) := by decide +kernel
theorem dX4_leave_104 : decode cX4_leave 104 = .ok (.iload_n 1, 1) := by decide +kernel
theorem dX4_leave_105 : decode cX4_leave 105 = .ok (.invokevirtual 92, 3) := by decide +kernel
theorem dX4_leave_108 : decode cX4_leave 108 = .ok (.aload_n 0, 1) := by decide +kernel
theorem dX4_leave_109 : decode cX4_leave 109 = .ok (.iload_n 1, 1) := by decide +kernel
theorem dX4_leave_110 : decode cX4_leave 110 = .ok (.bipush 7, 2) := by decide +kernel
theorem dX4_leave_112 : decode cX4_leave 112 = .ok (.iload_n 2, 1) := by decide +kernel
theorem dX4_leave_113 : decode cX4_leave 113 = .ok (.ifCond .eq 7, 3) := by decide +kernel
theorem dX4_leave_116 : decode cX4_leave 116 = .ok (.iconst 1, 1) := by decide +kernel
theorem dX4_leave_117 : decode cX4_leave 117 = .ok (.goto 4, 3) := by decide +kernel
theorem dX4_leave_120 : decode cX4_leave 120 = .ok (.iconst 0, 1) := by decide +kernel
theorem dX4_leave_121 : decode cX4_leave 121 = .ok (.invokevirtual 62, 3) := by decide +kernel
theorem dX4_leave_124 : decode cX4_leave 124 = .ok (.iload_n 3, 1) := by decide +kernel
theorem dX4_leave_125 : decode cX4_leave 125 = .ok (.ireturn, 1) := by decide +kernel
set_option maxRecDepth 20000 in
theorem ggX4_override_X4_isCrane : GoodIn wsX4_override wsX4_isCrane := goodIn_r _ [6, 1, 7, 8, 5, 9, 71, 72, 73, 74, 75, 76] (by decide +kernel) (by decide +kernel)
set_option maxRecDepth 20000 in
theorem gX4_override_X4_isCrane : GoodIn wsX4_override (wsV RX4 66 RX4 yX4_isCrane wsX4_isCrane) := goodIn_app (goodIn_of _ (by decide +kernel)) ggX4_override_X4_isCrane
set_option maxRecDepth 20000 in
theorem ggX4_override_X4_in : GoodIn wsX4_override wsX4_in := goodIn_r _ [9] (by decide +kernel) (by decide +kernel)
set_option maxRecDepth 20000 in
theorem gX4_override_X4_in : GoodIn wsX4_override (va_wsS RX4 24 yX4_in wsX4_in) := goodIn_app (goodIn_of _ (by decide +kernel)) ggX4_override_X4_in
set_option maxRecDepth 20000 in
theorem ggX4_override_X4_hasTarget : GoodIn wsX4_override wsX4_hasTarget := goodIn_r _ [13, 14, 15, 16, 5, 17, 1, 71, 72, 73, 74, 75, 76] (by decide +kernel) (by decide +kernel)
set_option maxRecDepth 20000 in
theorem gX4_override_X4_hasTarget : GoodIn wsX4_override (wsV RX4 50 RX4 yX4_hasTarget wsX4_hasTarget) := goodIn_app (goodIn_of _ (by decide +kernel)) ggX4_override_X4_hasTarget
set_option maxRecDepth 20000 in
theorem ggX4_override_X4_isOnStep : GoodIn wsX4_override wsX4_isOnStep := goodIn_r _ [21, 14, 15, 16, 5, 17, 1, 71, 72, 73, 74, 75, 76] (by decide +kernel) (by decide +kernel)
set_option maxRecDepth 20000 in
theorem gX4_override_X4_isOnStep : GoodIn wsX4_override (wsV RX4 35 RX4 yX4_isOnStep wsX4_isOnStep) := goodIn_app (goodIn_of _ (by decide +kernel)) ggX4_override_X4_isOnStep
set_option maxRecDepth 20000 in
theorem ggX4_override_X4_saves : GoodIn wsX4_override wsX4_saves := goodIn_r _ [25, 26, 27, 28, 29, 5, 30, 1, 71, 72, 73, 74, 75, 76] (by decide +kernel) (by decide +kernel)
set_option maxRecDepth 20000 in
theorem gX4_override_X4_saves : GoodIn wsX4_override (wsV RX4 59 RX4 yX4_saves wsX4_saves) := goodIn_app (goodIn_of _ (by decide +kernel)) ggX4_override_X4_saves
set_option maxRecDepth 20000 in
theorem ggX4_override_X4_steps : GoodIn wsX4_override wsX4_steps := goodIn_r _ [34, 35, 36, 37, 5, 38, 14, 15, 16, 17, 1, 39, 40, 41, 42, 43, 44, 45, 46, 71, 72, 73, 74, 75, 76] (by decide +kernel) (by decide +kernel)
set_option maxRecDepth 20000 in
theorem gX4_override_X4_steps : GoodIn wsX4_override (wsV RX4 105 RX4 yX4_steps wsX4_steps) := goodIn_app (goodIn_of _ (by decide +kernel)) ggX4_override_X4_steps
set_option maxRecDepth 20000 in
theorem ggX4_override_X4_clashes : GoodIn wsX4_override wsX4_clashes := goodIn_r _ [50, 51, 52, 53, 5, 54, 55, 56, 57, 58, 1, 59, 60, 61, 62, 14, 15, 16, 17, 63, 64, 65, 66, 18, 19, 20, 21, 35, 36, 37, 38, 67, 68, 69, 70, 71, 72, 73, 74, 75, 76] (by decide +kernel) (by decide +kernel)
set_option maxRecDepth 20000 in
theorem gX4_override_X4_clashes : GoodIn wsX4_override (wsV RX4 84 RX4 yX4_clashes wsX4_clashes) := goodIn_app (goodIn_of _ (by decide +kernel)) ggX4_override_X4_clashes
theorem dX4_override_0 : decode cX4_override 0 = .ok (.aload_n 0, 1) := by decide +kernel
theorem dX4_override_1 : decode cX4_override 1 = .ok (.iload_n 1, 1) := by decide +kernel
theorem dX4_override_2 : decode cX4_override 2 = .ok (.invokevirtual 66, 3) := by decide +kernel
theorem dX4_override_5 : decode cX4_override 5 = .ok (.ifCond .ne 6, 3) := by decide +kernel
theorem dX4_override_8 : decode cX4_override 8 = .ok (.bipush (-101), 2) := by decide +kernel
theorem dX4_override_10 : decode cX4_override 10 = .ok (.ireturn, 1) := by decide +kernel
theorem dX4_override_11 : decode cX4_override 11 = .ok (.iload_n 2, 1) := by decide +kernel
theorem dX4_override_12 : decode cX4_override 12 = .ok (.iconst 1, 1) := by decide +kernel
theorem dX4_override_13 : decode cX4_override 13 = .ok (.bipush 9, 2) := by decide +kernel
theorem dX4_override_15 : decode cX4_override 15 = .ok (.invokestatic 24, 3) := by decide +kernel
theorem dX4_override_18 : decode cX4_override 18 = .ok (.ifCond .ne 6, 3) := by decide +kernel
theorem dX4_override_21 : decode cX4_override 21 = .ok (.bipush (-102), 2) := by decide +kernel
theorem dX4_override_23 : decode cX4_override 23 = .ok (.ireturn, 1) := by decide +kernel
theorem dX4_override_24 : decode cX4_override 24 = .ok (.aload_n 0, 1) := by decide +kernel
theorem dX4_override_25 : decode cX4_override 25 = .ok (.iload_n 1, 1) := by decide +kernel
theorem dX4_override_26 : decode cX4_override 26 = .ok (.invokevirtual 50, 3) := by decide +kernel
theorem dX4_override_29 : decode cX4_override 29 = .ok (.ifCond .eq 11, 3) := by decide +kernel
theorem dX4_override_32 : decode cX4_override 32 = .ok (.aload_n 0, 1) := by decide +kernel
theorem dX4_override_33 : decode cX4_override 33 = .ok (.iload_n 1, 1) := by decide +kernel
theorem dX4_override_34 : decode cX4_override 34 = .ok (.invokevirtual 35, 3) := by decide +kernel
theorem dX4_override_37 : decode cX4_override 37 = .ok (.ifCond .eq 6, 3) := by decide +kernel
theorem dX4_override_40 : decode cX4_override 40 = .ok (.bipush (-103), 2) := by decide +kernel
theorem dX4_override_42 : decode cX4_override 42 = .ok (.ireturn, 1) := by decide +kernel
theorem dX4_override_43 : decode cX4_override 43 = .ok (.aload_n 0, 1) := by decide +kernel
theorem dX4_override_44 : decode cX4_override 44 = .ok (.getfield 7, 3) := by decide +kernel
theorem dX4_override_47 : decode cX4_override 47 = .ok (.iconst 3, 1) := by decide +kernel
theorem dX4_override_48 : decode cX4_override 48 = .ok (.iaload, 1) := by decide +kernel
theorem dX4_override_49 : decode cX4_override 49 = .ok (.bipush 10, 2) := by decide +kernel
theorem dX4_override_51 : decode cX4_override 51 = .ok (.if_icmp .ne 6, 3) := by decide +kernel
theorem dX4_override_54 : decode cX4_override 54 = .ok (.bipush (-104), 2) := by decide +kernel
theorem dX4_override_56 : decode cX4_override 56 = .ok (.ireturn, 1) := by decide +kernel
theorem dX4_override_57 : decode cX4_override 57 = .ok (.aload_n 0, 1) := by decide +kernel
theorem dX4_override_58 : decode cX4_override 58 = .ok (.invokevirtual 59, 3) := by decide +kernel
theorem dX4_override_61 : decode cX4_override 61 = .ok (.aload_n 0, 1) := by decide +kernel
theorem dX4_override_62 : decode cX4_override 62 = .ok (.iload_n 1, 1) := by decide +kernel
theorem dX4_override_63 : decode cX4_override 63 = .ok (.invokevirtual 105, 3) := by decide +kernel
theorem dX4_override_66 : decode cX4_override 66 = .ok (.bipush 88, 2) := by decide +kernel
theorem dX4_override_68 : decode cX4_override 68 = .ok (.iconst 4, 1) := by decide +kernel
theorem dX4_override_69 : decode cX4_override 69 = .ok (.aload_n 0, 1) := by decide +kernel
theorem dX4_override_70 : decode cX4_override 70 = .ok (.getfield 7, 3) := by decide +kernel
theorem dX4_override_73 : decode cX4_override 73 = .ok (.iconst 3, 1) := by decide +kernel
theorem dX4_override_74 : decode cX4_override 74 = .ok (.iaload, 1) := by decide +kernel
theorem dX4_override_75 : decode cX4_override 75 = .ok (.imul, 1) := by decide +kernel
theorem dX4_override_76 : decode cX4_override 76 = .ok (.iadd, 1) := by decide +kernel
theorem dX4_override_77 : decode cX4_override 77 = .ok (.istore_n 3, 1) := by decide +kernel
theorem dX4_override_78 : decode cX4_override 78 = .ok (.aload_n 0, 1) := by decide +kernel
theorem dX4_override_79 : decode cX4_override 79 = .ok (.getfield 7, 3) := by decide +kernel
theorem dX4_override_82 : decode cX4_override 82 = .ok (.iload_n 3, 1) := by decide +kernel
theorem dX4_override_83 : decode cX4_override 83 = .ok (.aload_n 0, 1) := by decide +kernel
theorem dX4_override_84 : decode cX4_override 84 = .ok (.getfield 7, 3) := by decide +kernel
theorem dX4_override_87 : decode cX4_override 87 = .ok (.iconst 0, 1) := by decide +kernel
theorem dX4_override_88 : decode cX4_override 88 = .ok (.iaload, 1) := by decide +kernel
theorem dX4_override_89 : decode cX4_override 89 = .ok (.iastore, 1) := by decide +kernel
theorem dX4_override_90 : decode cX4_override 90 = .ok (.aload_n 0, 1) := by decide +kernel
theorem dX4_override_91 : decode cX4_override 91 = .ok (.getfield 7, 3) := by decide +kernel
theorem dX4_override_94 : decode cX4_override 94 = .ok (.iload_n 3, 1) := by decide +kernel
theorem dX4_override_95 : decode cX4_override 95 = .ok (.iconst 1, 1) := by decide +kernel
theorem dX4_override_96 : decode cX4_override 96 = .ok (.iadd, 1) := by decide +kernel
theorem dX4_override_97 : decode cX4_override 97 = .ok (.iload_n 1, 1) := by decide +kernel
theorem dX4_override_98 : decode cX4_override 98 = .ok (.iastore, 1) := by decide +kernel
theorem dX4_override_99 : decode cX4_override 99 = .ok (.aload_n 0, 1) := by decide +kernel
theorem dX4_override_100 : decode cX4_override 100 = .ok (.getfield 7, 3) := by decide +kernel
theorem dX4_override_103 : decode cX4_override 103 = .ok (.iload_n 3, 1) := by decide +kernel
theorem dX4_override_104 : decode cX4_override 104 = .ok (.iconst 2, 1) := by decide +kernel
theorem dX4_override_105 : decode cX4_override 105 = .ok (.iadd, 1) := by decide +kernel
theorem dX4_override_106 : decode cX4_override 106 = .ok (.iload_n 2, 1) := by decide +kernel
theorem dX4_override_107 : decode cX4_override 107 = .ok (.iastore, 1) := by decide +kernel
theorem dX4_override_108 : decode cX4_override 108 = .ok (.aload_n 0, 1) := by decide +kernel
theorem dX4_override_109 : decode cX4_override 109 = .ok (.getfield 7, 3) := by decide +kernel
theorem dX4_override_112 : decode cX4_override 112 = .ok (.iload_n 3, 1) := by decide +kernel
theorem dX4_override_113 : decode cX4_override 113 = .ok (.iconst 3, 1) := by decide +kernel
theorem dX4_override_114 : decode cX4_override 114 = .ok (.iadd, 1) := by decide +kernel
theorem dX4_override_115 : decode cX4_override 115 = .ok (.aload_n 0, 1) := by decide +kernel
theorem dX4_override_116 : decode cX4_override 116 = .ok (.invokevirtual 84, 3) := by decide +kernel
theorem dX4_override_119 : decode cX4_override 119 = .ok (.iastore, 1) := by decide +kernel
theorem dX4_override_120 : decode cX4_override 120 = .ok (.aload_n 0, 1) := by decide +kernel
theorem dX4_override_121 : decode cX4_override 121 = .ok (.getfield 7, 3) := by decide +kernel
theorem dX4_override_124 : decode cX4_override 124 = .ok (.iconst 3, 1) := by decide +kernel
theorem dX4_override_125 : decode cX4_override 125 = .ok (.dup2, 1) := by decide +kernel
theorem dX4_override_126 : decode cX4_override 126 = .ok (.iaload, 1) := by decide +kernel
theorem dX4_override_127 : decode cX4_override 127 = .ok (.iconst 1, 1) := by decide +kernel
theorem dX4_override_128 : decode cX4_override 128 = .ok (.iadd, 1) := by decide +kernel
theorem dX4_override_129 : decode cX4_override 129 = .ok (.iastore, 1) := by decide +kernel
theorem dX4_override_130 : decode cX4_override 130 = .ok (.aload_n 0, 1) := by decide +kernel
theorem dX4_override_131 : decode cX4_override 131 = .ok (.getfield 7, 3) := by decide +kernel
theorem dX4_override_134 : decode cX4_override 134 = .ok (.iload_n 3, 1) := by decide +kernel
theorem dX4_override_135 : decode cX4_override 135 = .ok (.iconst 3, 1) := by decide +kernel
theorem dX4_override_136 : decode cX4_override 136 = .ok (.iadd, 1) := by decide +kernel
theorem dX4_override_137 : decode cX4_override 137 = .ok (.iaload, 1) := by decide +kernel
theorem dX4_override_138 : decode cX4_override 138 = .ok (.ireturn, 1) := by decide +kernel
theorem dX4_notes_0 : decode cX4_notes 0 = .ok (.aload_n 0, 1) := by decide +kernel
theorem dX4_notes_1 : decode cX4_notes 1 = .ok (.getfield 7, 3) := by decide +kernel
theorem dX4_notes_4 : decode cX4_notes 4 = .ok (.iconst 3, 1) := by decide +kernel
theorem dX4_notes_5 : decode cX4_notes 5 = .ok (.iaload, 1) := by decide +kernel
theorem dX4_notes_6 : decode cX4_notes 6 = .ok (.ireturn, 1) := by decide +kernel
set_option maxRecDepth 20000 in
theorem ggX4_note_X4_in : GoodIn wsX4_note wsX4_in := goodIn_r _ [5] (by decide +kernel) (by decide +kernel)
set_option maxRecDepth 20000 in
theorem gX4_note_X4_in : GoodIn wsX4_note (va_wsS RX4 24 yX4_in wsX4_in) := goodIn_app (goodIn_of _ (by decide +kernel)) ggX4_note_X4_in
theorem dX4_note_0 : decode cX4_note 0 = .ok (.iload_n 1, 1) := by decide +kernel
theorem dX4_note_1 : decode cX4_note 1 = .ok (.iconst 0, 1) := by decide +kernel
theorem dX4_note_2 : decode cX4_note 2 = .ok (.aload_n 0, 1) := by decide +kernel
theorem dX4_note_3 : decode cX4_note 3 = .ok (.getfield 7, 3) := by decide +kernel
theorem dX4_note_6 : decode cX4_note 6 = .ok (.iconst 3, 1) := by decide +kernel
theorem dX4_note_7 : decode cX4_note 7 = .ok (.iaload, 1) := by decide +kernel
theorem dX4_note_8 : decode cX4_note 8 = .ok (.iconst 1, 1) := by decide +kernel
theorem dX4_note_9 : decode cX4_note 9 = .ok (.isub, 1) := by decide +kernel
theorem dX4_note_10 : decode cX4_note 10 = .ok (.invokestatic 24, 3) := by decide +kernel
theorem dX4_note_13 : decode cX4_note 13 = .ok (.ifCond .ne 6, 3) := by decide +kernel
theorem dX4_note_16 : decode cX4_note 16 = .ok (.bipush (-101), 2) := by decide +kernel
theorem dX4_note_18 : decode cX4_note 18 = .ok (.ireturn, 1) := by decide +kernel
theorem dX4_note_19 : decode cX4_note 19 = .ok (.iload_n 2, 1) := by decide +kernel
theorem dX4_note_20 : decode cX4_note 20 = .ok (.iconst 0, 1) := by decide +kernel
theorem dX4_note_21 : decode cX4_note 21 = .ok (.iconst 3, 1) := by decide +kernel
theorem dX4_note_22 : decode cX4_note 22 = .ok (.invokestatic 24, 3) := by decide +kernel
theorem dX4_note_25 : decode cX4_note 25 = .ok (.ifCond .eq 19, 3) := by decide +kernel
theorem dX4_note_28 : decode cX4_note 28 = .ok (.aload_n 0, 1) := by decide +kernel
theorem dX4_note_29 : decode cX4_note 29 = .ok (.getfield 7, 3) := by decide +kernel
theorem dX4_note_32 : decode cX4_note 32 = .ok (.bipush 88, 2) := by decide +kernel
theorem dX4_note_34 : decode cX4_note 34 = .ok (.iconst 4, 1) := by decide +kernel
theorem dX4_note_35 : decode cX4_note 35 = .ok (.iload_n 1, 1) := by decide +kernel
theorem dX4_note_36 : decode cX4_note 36 = .ok (.imul, 1) := by decide +kernel
theorem dX4_note_37 : decode cX4_note 37 = .ok (.iadd, 1) := by decide +kernel
theorem dX4_note_38 : decode cX4_note 38 = .ok (.iload_n 2, 1) := by decide +kernel
theorem dX4_note_39 : decode cX4_note 39 = .ok (.iadd, 1) := by decide +kernel
theorem dX4_note_40 : decode cX4_note 40 = .ok (.iaload, 1) := by decide +kernel
theorem dX4_note_41 : decode cX4_note 41 = .ok (.goto 5, 3) := by decide +kernel
theorem dX4_note_44 : decode cX4_note 44 = .ok (.bipush (-102), 2) := by decide +kernel
theorem dX4_note_46 : decode cX4_note 46 = .ok (.ireturn, 1) := by decide +kernel
set_option maxRecDepth 20000 in
theorem ggX4_clearNotes_X4_saves : GoodIn wsX4_clearNotes wsX4_saves := goodIn_r _ [6, 7, 8, 9, 10, 5, 11, 1, 12, 13, 14, 15, 16, 17] (by decide +kernel) (by decide +kernel)
set_option maxRecDepth 20000 in
theorem gX4_clearNotes_X4_saves : GoodIn wsX4_clearNotes (wsV RX4 59 RX4 yX4_saves wsX4_saves) := goodIn_app (goodIn_of _ (by decide +kernel)) ggX4_clearNotes_X4_saves
theorem dX4_clearNotes_0 : decode cX4_clearNotes 0 = .ok (.aload_n 0, 1) := by decide +kernel
theorem dX4_clearNotes_1 : decode cX4_clearNotes 1 = .ok (.invokevirtual 59, 3) := by decide +kernel
theorem dX4_clearNotes_4 : decode cX4_clearNotes 4 = .ok (.aload_n 0, 1) := by decide +kernel
theorem dX4_clearNotes_5 : decode cX4_clearNotes 5 = .ok (.getfield 7, 3) := by decide +kernel
theorem dX4_clearNotes_8 : decode cX4_clearNotes 8 = .ok (.iconst 3, 1) := by decide +kernel
theorem dX4_clearNotes_9 : decode cX4_clearNotes 9 = .ok (.iaload, 1) := by decide +kernel
theorem dX4_clearNotes_10 : decode cX4_clearNotes 10 = .ok (.istore_n 1, 1) := by decide +kernel
theorem dX4_clearNotes_11 : decode cX4_clearNotes 11 = .ok (.aload_n 0, 1) := by decide +kernel
theorem dX4_clearNotes_12 : decode cX4_clearNotes 12 = .ok (.getfield 7, 3) := by decide +kernel
theorem dX4_clearNotes_15 : decode cX4_clearNotes 15 = .ok (.iconst 3, 1) := by decide +kernel
theorem dX4_clearNotes_16 : decode cX4_clearNotes 16 = .ok (.iconst 0, 1) := by decide +kernel
theorem dX4_clearNotes_17 : decode cX4_clearNotes 17 = .ok (.iastore, 1) := by decide +kernel
theorem dX4_clearNotes_18 : decode cX4_clearNotes 18 = .ok (.iload_n 1, 1) := by decide +kernel
theorem dX4_clearNotes_19 : decode cX4_clearNotes 19 = .ok (.ireturn, 1) := by decide +kernel
set_option maxRecDepth 20000 in
theorem ggX4_undo_X4_copies : GoodIn wsX4_undo wsX4_copies := goodIn_r _ [6, 7, 8, 9, 10, 11, 12, 13] (by decide +kernel) (by decide +kernel)
set_option maxRecDepth 20000 in
theorem gX4_undo_X4_copies : GoodIn wsX4_undo (wsV RX4 20 RX4 yX4_copies wsX4_copies) := goodIn_app (goodIn_of _ (by decide +kernel)) ggX4_undo_X4_copies
theorem dX4_undo_0 : decode cX4_undo 0 = .ok (.aload_n 0, 1) := by decide +kernel
theorem dX4_undo_1 : decode cX4_undo 1 = .ok (.getfield 16, 3) := by decide +kernel
theorem dX4_undo_4 : decode cX4_undo 4 = .ok (.ifCond .ne 6, 3) := by decide +kernel
theorem dX4_undo_7 : decode cX4_undo 7 = .ok (.bipush (-103), 2) := by decide +kernel
theorem dX4_undo_9 : decode cX4_undo 9 = .ok (.ireturn, 1) := by decide +kernel
theorem dX4_undo_10 : decode cX4_undo 10 = .ok (.aload_n 0, 1) := by decide +kernel
theorem dX4_undo_11 : decode cX4_undo 11 = .ok (.aload_n 0, 1) := by decide +kernel
theorem dX4_undo_12 : decode cX4_undo 12 = .ok (.getfield 16, 3) := by decide +kernel
theorem dX4_undo_15 : decode cX4_undo 15 = .ok (.iconst 0, 1) := by decide +kernel
theorem dX4_undo_16 : decode cX4_undo 16 = .ok (.invokevirtual 20, 3) := by decide +kernel
theorem dX4_undo_19 : decode cX4_undo 19 = .ok (.aload_n 0, 1) := by decide +kernel
theorem dX4_undo_20 : decode cX4_undo 20 = .ok (.dup, 1) := by decide +kernel
theorem dX4_undo_21 : decode cX4_undo 21 = .ok (.getfield 16, 3) := by decide +kernel
theorem dX4_undo_24 : decode cX4_undo 24 = .ok (.iconst 1, 1) := by decide +kernel
theorem dX4_undo_25 : decode cX4_undo 25 = .ok (.isub, 1) := by decide +kernel
theorem dX4_undo_26 : decode cX4_undo 26 = .ok (.putfield 16, 3) := by decide +kernel
theorem dX4_undo_29 : decode cX4_undo 29 = .ok (.aload_n 0, 1) := by decide +kernel
theorem dX4_undo_30 : decode cX4_undo 30 = .ok (.getfield 16, 3) := by decide +kernel
theorem dX4_undo_33 : decode cX4_undo 33 = .ok (.ireturn, 1) := by decide +kernel
set_option maxRecDepth 20000 in
theorem ggX4_type_X4_in : GoodIn wsX4_type wsX4_in := goodIn_r _ [6] (by decide +kernel) (by decide +kernel)
set_option maxRecDepth 20000 in
theorem gX4_type_X4_in : GoodIn wsX4_type (va_wsS RX4 24 yX4_in wsX4_in) := goodIn_app (goodIn_of _ (by decide +kernel)) ggX4_type_X4_in
theorem dX4_type_0 : decode cX4_type 0 = .ok (.iload_n 1, 1) := by decide +kernel
theorem dX4_type_1 : decode cX4_type 1 = .ok (.iconst 0, 1) := by decide +kernel
theorem dX4_type_2 : decode cX4_type 2 = .ok (.sipush 255, 3) := by decide +kernel
theorem dX4_type_5 : decode cX4_type 5 = .ok (.invokestatic 24, 3) := by decide +kernel
theorem dX4_type_8 : decode cX4_type 8 = .ok (.ifCond .ne 6, 3) := by decide +kernel
theorem dX4_type_11 : decode cX4_type 11 = .ok (.bipush (-102), 2) := by decide +kernel
theorem dX4_type_13 : decode cX4_type 13 = .ok (.ireturn, 1) := by decide +kernel
theorem dX4_type_14 : decode cX4_type 14 = .ok (.aload_n 0, 1) := by decide +kernel
theorem dX4_type_15 : decode cX4_type 15 = .ok (.getfield 121, 3) := by decide +kernel
theorem dX4_type_18 : decode cX4_type 18 = .ok (.bipush 80, 2) := by decide +kernel
theorem dX4_type_20 : decode cX4_type 20 = .ok (.if_icmp .ne 6, 3) := by decide +kernel
theorem dX4_type_23 : decode cX4_type 23 = .ok (.bipush (-104), 2) := by decide +kernel
theorem dX4_type_25 : decode cX4_type 25 = .ok (.ireturn, 1) := by decide +kernel
theorem dX4_type_26 : decode cX4_type 26 = .ok (.aload_n 0, 1) := by decide +kernel
theorem dX4_type_27 : decode cX4_type 27 = .ok (.getfield 13, 3) := by decide +kernel
theorem dX4_type_30 : decode cX4_type 30 = .ok (.aload_n 0, 1) := by decide +kernel
theorem dX4_type_31 : decode cX4_type 31 = .ok (.getfield 121, 3) := by decide +kernel
theorem dX4_type_34 : decode cX4_type 34 = .ok (.iload_n 1, 1) := by decide +kernel
theorem dX4_type_35 : decode cX4_type 35 = .ok (.iastore, 1) := by decide +kernel
theorem dX4_type_36 : decode cX4_type 36 = .ok (.aload_n 0, 1) := by decide +kernel
theorem dX4_type_37 : decode cX4_type 37 = .ok (.dup, 1) := by decide +kernel
theorem dX4_type_38 : decode cX4_type 38 = .ok (.getfield 121, 3) := by decide +kernel
theorem dX4_type_41 : decode cX4_type 41 = .ok (.iconst 1, 1) := by decide +kernel
theorem dX4_type_42 : decode cX4_type 42 = .ok (.iadd, 1) := by decide +kernel
theorem dX4_type_43 : decode cX4_type 43 = .ok (.putfield 121, 3) := by decide +kernel
theorem dX4_type_46 : decode cX4_type 46 = .ok (.aload_n 0, 1) := by decide +kernel
theorem dX4_type_47 : decode cX4_type 47 = .ok (.getfield 121, 3) := by decide +kernel
theorem dX4_type_50 : decode cX4_type 50 = .ok (.ireturn, 1) := by decide +kernel
theorem dX4_clearText_0 : decode cX4_clearText 0 = .ok (.aload_n 0, 1) := by decide +kernel
theorem dX4_clearText_1 : decode cX4_clearText 1 = .ok (.getfield 121, 3) := by decide +kernel
theorem dX4_clearText_4 : decode cX4_clearText 4 = .ok (.istore_n 1, 1) := by decide +kernel
theorem dX4_clearText_5 : decode cX4_clearText 5 = .ok (.aload_n 0, 1) := by decide +kernel
theorem dX4_clearText_6 : decode cX4_clearText 6 = .ok (.iconst 0, 1) := by decide +kernel
theorem dX4_clearText_7 : decode cX4_clearText 7 = .ok (.putfield 121, 3) := by decide +kernel
theorem dX4_clearText_10 : decode cX4_clearText 10 = .ok (.iload_n 1, 1) := by decide +kernel
theorem dX4_clearText_11 : decode cX4_clearText 11 = .ok (.ireturn, 1) := by decide +kernel
theorem dX4_here_0 : decode cX4_here 0 = .ok (.aload_n 0, 1) := by decide +kernel
theorem dX4_here_1 : decode cX4_here 1 = .ok (.getfield 124, 3) := by decide +kernel
theorem dX4_here_4 : decode cX4_here 4 = .ok (.aload_n 0, 1) := by decide +kernel
theorem dX4_here_5 : decode cX4_here 5 = .ok (.getfield 121, 3) := by decide +kernel
theorem dX4_here_8 : decode cX4_here 8 = .ok (.if_icmp .ge 30, 3) := by decide +kernel
theorem dX4_here_11 : decode cX4_here 11 = .ok (.aload_n 0, 1) := by decide +kernel
theorem dX4_here_12 : decode cX4_here 12 = .ok (.getfield 13, 3) := by decide +kernel
theorem dX4_here_15 : decode cX4_here 15 = .ok (.aload_n 0, 1) := by decide +kernel
theorem dX4_here_16 : decode cX4_here 16 = .ok (.getfield 124, 3) := by decide +kernel
theorem dX4_here_19 : decode cX4_here 19 = .ok (.iaload, 1) := by decide +kernel
theorem dX4_here_20 : decode cX4_here 20 = .ok (.bipush 32, 2) := by decide +kernel
theorem dX4_here_22 : decode cX4_here 22 = .ok (.if_icmp .ne 16, 3) := by decide +kernel
theorem dX4_here_25 : decode cX4_here 25 = .ok (.aload_n 0, 1) := by decide +kernel
theorem dX4_here_26 : decode cX4_here 26 = .ok (.dup, 1) := by decide +kernel
theorem dX4_here_27 : decode cX4_here 27 = .ok (.getfield 124, 3) := by decide +kernel
theorem dX4_here_30 : decode cX4_here 30 = .ok (.iconst 1, 1) := by decide +kernel
theorem dX4_here_31 : decode cX4_here 31 = .ok (.iadd, 1) := by decide +kernel
theorem dX4_here_32 : decode cX4_here 32 = .ok (.putfield 124, 3) := by decide +kernel
theorem dX4_here_35 : decode cX4_here 35 = .ok (.goto (-35), 3) := by decide +kernel
theorem dX4_here_38 : decode cX4_here 38 = .ok (.aload_n 0, 1) := by decide +kernel
theorem dX4_here_39 : decode cX4_here 39 = .ok (.getfield 124, 3) := by decide +kernel
theorem dX4_here_42 : decode cX4_here 42 = .ok (.aload_n 0, 1) := by decide +kernel
theorem dX4_here_43 : decode cX4_here 43 = .ok (.getfield 121, 3) := by decide +kernel
theorem dX4_here_46 : decode cX4_here 46 = .ok (.if_icmp .ge 15, 3) := by decide +kernel
theorem dX4_here_49 : decode cX4_here 49 = .ok (.aload_n 0, 1) := by decide +kernel
theorem dX4_here_50 : decode cX4_here 50 = .ok (.getfield 13, 3) := by decide +kernel
theorem dX4_here_53 : decode cX4_here 53 = .ok (.aload_n 0, 1) := by decide +kernel
theorem dX4_here_54 : decode cX4_here 54 = .ok (.getfield 124, 3) := by decide +kernel
theorem dX4_here_57 : decode cX4_here 57 = .ok (.iaload, 1) := by decide +kernel
theorem dX4_here_58 : decode cX4_here 58 = .ok (.goto 4, 3) := by decide +kernel
theorem dX4_here_61 : decode cX4_here 61 = .ok (.iconst (-1), 1) := by decide +kernel
theorem dX4_here_62 : decode cX4_here 62 = .ok (.ireturn, 1) := by decide +kernel
set_option maxRecDepth 20000 in
theorem ggX4_readsCommand_X4_here : GoodIn wsX4_readsCommand wsX4_here := goodIn_r _ [8, 1, 2, 3, 45, 46, 47, 48, 49, 50] (by decide +kernel) (by decide +kernel)
set_option maxRecDepth 20000 in
theorem gX4_readsCommand_X4_here : GoodIn wsX4_readsCommand (wsV RX4 127 RX4 yX4_here wsX4_here) := goodIn_app (goodIn_of _ (by decide +kernel)) ggX4_readsCommand_X4_here
set_option maxRecDepth 20000 in
theorem ggX4_readsCommand_X4_isCrane : GoodIn wsX4_readsCommand wsX4_isCrane := goodIn_r _ [12, 13, 14, 15, 7, 16, 45, 46, 47, 48, 49, 50] (by decide +kernel) (by decide +kernel)
set_option maxRecDepth 20000 in
theorem gX4_readsCommand_X4_isCrane : GoodIn wsX4_readsCommand (wsV RX4 66 RX4 yX4_isCrane wsX4_isCrane) := goodIn_app (goodIn_of _ (by decide +kernel)) ggX4_readsCommand_X4_isCrane
set_option maxRecDepth 20000 in
theorem ggX4_readsCommand_X4_mayNotAim : GoodIn wsX4_readsCommand wsX4_mayNotAim := goodIn_r _ [20, 21, 22, 23, 7, 24, 25, 26, 27, 28, 13, 45, 46, 47, 48, 49, 50] (by decide +kernel) (by decide +kernel)
set_option maxRecDepth 20000 in
theorem gX4_readsCommand_X4_mayNotAim : GoodIn wsX4_readsCommand (wsV RX4 96 RX4 yX4_mayNotAim wsX4_mayNotAim) := goodIn_app (goodIn_of _ (by decide +kernel)) ggX4_readsCommand_X4_mayNotAim
set_option maxRecDepth 20000 in
theorem ggX4_readsCommand_X4_in : GoodIn wsX4_readsCommand wsX4_in := goodIn_r _ [16] (by decide +kernel) (by decide +kernel)
set_option maxRecDepth 20000 in
theorem gX4_readsCommand_X4_in : GoodIn wsX4_readsCommand (va_wsS RX4 24 yX4_in wsX4_in) := goodIn_app (goodIn_of _ (by decide +kernel)) ggX4_readsCommand_X4_in
set_option maxRecDepth 20000 in
theorem ggX4_readsCommand_X4_aims : GoodIn wsX4_readsCommand wsX4_aims := goodIn_r _ [32, 33, 34, 35, 7, 36, 25, 26, 27, 28, 13, 37, 38, 39, 40, 41, 42, 43, 44, 45, 46, 47, 48, 49, 50] (by decide +kernel) (by decide +kernel)
set_option maxRecDepth 20000 in
theorem gX4_readsCommand_X4_aims : GoodIn wsX4_readsCommand (wsV RX4 99 RX4 yX4_aims wsX4_aims) := goodIn_app (goodIn_of _ (by decide +kernel)) ggX4_readsCommand_X4_aims
theorem dX4_readsCommand_0 : decode cX4_readsCommand 0 = .ok (.aload_n 0, 1) := by decide +kernel
theorem dX4_readsCommand_1 : decode cX4_readsCommand 1 = .ok (.invokevirtual 127, 3) := by decide +kernel
theorem dX4_readsCommand_4 : decode cX4_readsCommand 4 = .ok (.bipush 48, 2) := by decide +kernel
theorem dX4_readsCommand_6 : decode cX4_readsCommand 6 = .ok (.isub, 1) := by decide +kernel
theorem dX4_readsCommand_7 : decode cX4_readsCommand 7 = .ok (.istore_n 2, 1) := by decide +kernel
theorem dX4_readsCommand_8 : decode cX4_readsCommand 8 = .ok (.aload_n 0, 1) := by decide +kernel
theorem dX4_readsCommand_9 : decode cX4_readsCommand 9 = .ok (.iload_n 2, 1) := by decide +kernel
theorem dX4_readsCommand_10 : decode cX4_readsCommand 10 = .ok (.invokevirtual 66, 3) := by decide +kernel
theorem dX4_readsCommand_13 : decode cX4_readsCommand 13 = .ok (.ifCond .eq 11, 3) := by decide +kernel
theorem dX4_readsCommand_16 : decode cX4_readsCommand 16 = .ok (.aload_n 0, 1) := by decide +kernel
theorem dX4_readsCommand_17 : decode cX4_readsCommand 17 = .ok (.iload_n 2, 1) := by decide +kernel
theorem dX4_readsCommand_18 : decode cX4_readsCommand 18 = .ok (.invokevirtual 96, 3) := by decide +kernel
theorem dX4_readsCommand_21 : decode cX4_readsCommand 21 = .ok (.ifCond .eq 5, 3) := by decide +kernel
theorem dX4_readsCommand_24 : decode cX4_readsCommand 24 = .ok (.iconst 0, 1) := by decide +kernel
theorem dX4_readsCommand_25 : decode cX4_readsCommand 25 = .ok (.ireturn, 1) := by decide +kernel
theorem dX4_readsCommand_26 : decode cX4_readsCommand 26 = .ok (.aload_n 0, 1) := by decide +kernel
theorem dX4_readsCommand_27 : decode cX4_readsCommand 27 = .ok (.dup, 1) := by decide +kernel
theorem dX4_readsCommand_28 : decode cX4_readsCommand 28 = .ok (.getfield 124, 3) := by decide +kernel
theorem dX4_readsCommand_31 : decode cX4_readsCommand 31 = .ok (.iconst 1, 1) := by decide +kernel
theorem dX4_readsCommand_32 : decode cX4_readsCommand 32 = .ok (.iadd, 1) := by decide +kernel
theorem dX4_readsCommand_33 : decode cX4_readsCommand 33 = .ok (.putfield 124, 3) := by decide +kernel
theorem dX4_readsCommand_36 : decode cX4_readsCommand 36 = .ok (.aload_n 0, 1) := by decide +kernel
theorem dX4_readsCommand_37 : decode cX4_readsCommand 37 = .ok (.invokevirtual 127, 3) := by decide +kernel
theorem dX4_readsCommand_40 : decode cX4_readsCommand 40 = .ok (.istore_n 3, 1) := by decide +kernel
theorem dX4_readsCommand_41 : decode cX4_readsCommand 41 = .ok (.iload_n 3, 1) := by decide +kernel
theorem dX4_readsCommand_42 : decode cX4_readsCommand 42 = .ok (.bipush 62, 2) := by decide +kernel
theorem dX4_readsCommand_44 : decode cX4_readsCommand 44 = .ok (.if_icmp .eq 17, 3) := by decide +kernel
theorem dX4_readsCommand_47 : decode cX4_readsCommand 47 = .ok (.iload_n 3, 1) := by decide +kernel
theorem dX4_readsCommand_48 : decode cX4_readsCommand 48 = .ok (.bipush 60, 2) := by decide +kernel
theorem dX4_readsCommand_50 : decode cX4_readsCommand 50 = .ok (.if_icmp .eq 11, 3) := by decide +kernel
theorem dX4_readsCommand_53 : decode cX4_readsCommand 53 = .ok (.iload_n 3, 1) := by decide +kernel
theorem dX4_readsCommand_54 : decode cX4_readsCommand 54 = .ok (.bipush 126, 2) := by decide +kernel
theorem dX4_readsCommand_56 : decode cX4_readsCommand 56 = .ok (.if_icmp .eq 5, 3) := by decide +kernel
theorem dX4_readsCommand_59 : decode cX4_readsCommand 59 = .ok (.iconst 0, 1) := by decide +kernel
theorem dX4_readsCommand_60 : decode cX4_readsCommand 60 = .ok (.ireturn, 1) := by decide +kernel
theorem dX4_readsCommand_61 : decode cX4_readsCommand 61 = .ok (.aload_n 0, 1) := by decide +kernel
theorem dX4_readsCommand_62 : decode cX4_readsCommand 62 = .ok (.dup, 1) := by decide +kernel
theorem dX4_readsCommand_63 : decode cX4_readsCommand 63 = .ok (.getfield 124, 3) := by decide +kernel
theorem dX4_readsCommand_66 : decode cX4_readsCommand 66 = .ok (.iconst 1, 1) := by decide +kernel
theorem dX4_readsCommand_67 : decode cX4_readsCommand 67 = .ok (.iadd, 1) := by decide +kernel
theorem dX4_readsCommand_68 : decode cX4_readsCommand 68 = .ok (.putfield 124, 3) := by decide +kernel
theorem dX4_readsCommand_71 : decode cX4_readsCommand 71 = .ok (.aload_n 0, 1) := by decide +kernel
theorem dX4_readsCommand_72 : decode cX4_readsCommand 72 = .ok (.invokevirtual 127, 3) := by decide +kernel
theorem dX4_readsCommand_75 : decode cX4_readsCommand 75 = .ok (.istore 4, 2) := by decide +kernel
theorem dX4_readsCommand_77 : decode cX4_readsCommand 77 = .ok (.aload_n 0, 1) := by decide +kernel
theorem dX4_readsCommand_78 : decode cX4_readsCommand 78 = .ok (.getfield 124, 3) := by decide +kernel
theorem dX4_readsCommand_81 : decode cX4_readsCommand 81 = .ok (.istore 5, 2) := by decide +kernel
theorem dX4_readsCommand_83 : decode cX4_readsCommand 83 = .ok (.iconst 0, 1) := by decide +kernel
theorem dX4_readsCommand_84 : decode cX4_readsCommand 84 = .ok (.istore 6, 2) := by decide +kernel
theorem dX4_readsCommand_86 : decode cX4_readsCommand 86 = .ok (.iload 4, 2) := by decide +kernel
theorem dX4_readsCommand_88 : decode cX4_readsCommand 88 = .ok (.ifCond .lt 69, 3) := by decide +kernel
theorem dX4_readsCommand_91 : decode cX4_readsCommand 91 = .ok (.iload 5, 2) := by decide +kernel
theorem dX4_readsCommand_93 : decode cX4_readsCommand 93 = .ok (.aload_n 0, 1) := by decide +kernel
theorem dX4_readsCommand_94 : decode cX4_readsCommand 94 = .ok (.getfield 121, 3) := by decide +kernel
theorem dX4_readsCommand_97 : decode cX4_readsCommand 97 = .ok (.if_icmp .ge 60, 3) := by decide +kernel
theorem dX4_readsCommand_100 : decode cX4_readsCommand 100 = .ok (.aload_n 0, 1) := by decide +kernel
theorem dX4_readsCommand_101 : decode cX4_readsCommand 101 = .ok (.getfield 13, 3) := by decide +kernel
theorem dX4_readsCommand_104 : decode cX4_readsCommand 104 = .ok (.iload 5, 2) := by decide +kernel
theorem dX4_readsCommand_106 : decode cX4_readsCommand 106 = .ok (.iaload, 1) := by decide +kernel
theorem dX4_readsCommand_107 : decode cX4_readsCommand 107 = .ok (.bipush 48, 2) := by decide +kernel
theorem dX4_readsCommand_109 : decode cX4_readsCommand 109 = .ok (.bipush 57, 2) := by decide +kernel
theorem dX4_readsCommand_111 : decode cX4_readsCommand 111 = .ok (.invokestatic 24, 3) := by decide +kernel
theorem dX4_readsCommand_114 : decode cX4_readsCommand 114 = .ok (.ifCond .eq 43, 3) := by decide +kernel
theorem dX4_readsCommand_117 : decode cX4_readsCommand 117 = .ok (.iload 5, 2) := by decide +kernel
theorem dX4_readsCommand_119 : decode cX4_readsCommand 119 = .ok (.aload_n 0, 1) := by decide +kernel
theorem dX4_readsCommand_120 : decode cX4_readsCommand 120 = .ok (.getfield 124, 3) := by decide +kernel
theorem dX4_readsCommand_123 : decode cX4_readsCommand 123 = .ok (.isub, 1) := by decide +kernel
theorem dX4_readsCommand_124 : decode cX4_readsCommand 124 = .ok (.iconst 3, 1) := by decide +kernel
theorem dX4_readsCommand_125 : decode cX4_readsCommand 125 = .ok (.if_icmp .ge 22, 3) := by decide +kernel
theorem dX4_readsCommand_128 : decode cX4_readsCommand 128 = .ok (.bipush 10, 2) := by decide +kernel
theorem dX4_readsCommand_130 : decode cX4_readsCommand 130 = .ok (.iload 6, 2) := by decide +kernel
theorem dX4_readsCommand_132 : decode cX4_readsCommand 132 = .ok (.imul, 1) := by decide +kernel
theorem dX4_readsCommand_133 : decode cX4_readsCommand 133 = .ok (.aload_n 0, 1) := by decide +kernel
theorem dX4_readsCommand_134 : decode cX4_readsCommand 134 = .ok (.getfield 13, 3) := by decide +kernel
theorem dX4_readsCommand_137 : decode cX4_readsCommand 137 = .ok (.iload 5, 2) := by decide +kernel
theorem dX4_readsCommand_139 : decode cX4_readsCommand 139 = .ok (.iaload, 1) := by decide +kernel
theorem dX4_readsCommand_140 : decode cX4_readsCommand 140 = .ok (.iadd, 1) := by decide +kernel
theorem dX4_readsCommand_141 : decode cX4_readsCommand 141 = .ok (.bipush 48, 2) := by decide +kernel
theorem dX4_readsCommand_143 : decode cX4_readsCommand 143 = .ok (.isub, 1) := by decide +kernel
theorem dX4_readsCommand_144 : decode cX4_readsCommand 144 = .ok (.goto 5, 3) := by decide +kernel
theorem dX4_readsCommand_147 : decode cX4_readsCommand 147 = .ok (.iload 6, 2) := by decide +kernel
theorem dX4_readsCommand_149 : decode cX4_readsCommand 149 = .ok (.istore 6, 2) := by decide +kernel
theorem dX4_readsCommand_151 : decode cX4_readsCommand 151 = .ok (.iinc 5 1, 3) := by decide +kernel
theorem dX4_readsCommand_154 : decode cX4_readsCommand 154 = .ok (.goto (-68), 3) := by decide +kernel
theorem dX4_readsCommand_157 : decode cX4_readsCommand 157 = .ok (.iload 5, 2) := by decide +kernel
theorem dX4_readsCommand_159 : decode cX4_readsCommand 159 = .ok (.aload_n 0, 1) := by decide +kernel
theorem dX4_readsCommand_160 : decode cX4_readsCommand 160 = .ok (.getfield 124, 3) := by decide +kernel
theorem dX4_readsCommand_163 : decode cX4_readsCommand 163 = .ok (.if_icmp .eq 21, 3) := by decide +kernel
theorem dX4_readsCommand_166 : decode cX4_readsCommand 166 = .ok (.iload 5, 2) := by decide +kernel
theorem dX4_readsCommand_168 : decode cX4_readsCommand 168 = .ok (.aload_n 0, 1) := by decide +kernel
theorem dX4_readsCommand_169 : decode cX4_readsCommand 169 = .ok (.getfield 124, 3) := by decide +kernel
theorem dX4_readsCommand_172 : decode cX4_readsCommand 172 = .ok (.isub, 1) := by decide +kernel
theorem dX4_readsCommand_173 : decode cX4_readsCommand 173 = .ok (.iconst 2, 1) := by decide +kernel
theorem dX4_readsCommand_174 : decode cX4_readsCommand 174 = .ok (.if_icmp .gt 10, 3) := by decide +kernel
theorem dX4_readsCommand_177 : decode cX4_readsCommand 177 = .ok (.iload 6, 2) := by decide +kernel
theorem dX4_readsCommand_179 : decode cX4_readsCommand 179 = .ok (.bipush 35, 2) := by decide +kernel
theorem dX4_readsCommand_181 : decode cX4_readsCommand 181 = .ok (.if_icmp .le 5, 3) := by decide +kernel
theorem dX4_readsCommand_184 : decode cX4_readsCommand 184 = .ok (.iconst 0, 1) := by decide +kernel
theorem dX4_readsCommand_185 : decode cX4_readsCommand 185 = .ok (.ireturn, 1) := by decide +kernel
theorem dX4_readsCommand_186 : decode cX4_readsCommand 186 = .ok (.aload_n 0, 1) := by decide +kernel
theorem dX4_readsCommand_187 : decode cX4_readsCommand 187 = .ok (.iload 5, 2) := by decide +kernel
theorem dX4_readsCommand_189 : decode cX4_readsCommand 189 = .ok (.putfield 124, 3) := by decide +kernel
theorem dX4_readsCommand_192 : decode cX4_readsCommand 192 = .ok (.iload_n 1, 1) := by decide +kernel
theorem dX4_readsCommand_193 : decode cX4_readsCommand 193 = .ok (.ifCond .eq 33, 3) := by decide +kernel
theorem dX4_readsCommand_196 : decode cX4_readsCommand 196 = .ok (.aload_n 0, 1) := by decide +kernel
theorem dX4_readsCommand_197 : decode cX4_readsCommand 197 = .ok (.iload_n 2, 1) := by decide +kernel
theorem dX4_readsCommand_198 : decode cX4_readsCommand 198 = .ok (.iload 6, 2) := by decide +kernel
theorem dX4_readsCommand_200 : decode cX4_readsCommand 200 = .ok (.iload_n 3, 1) := by decide +kernel
theorem dX4_readsCommand_201 : decode cX4_readsCommand 201 = .ok (.bipush 62, 2) := by decide +kernel
theorem dX4_readsCommand_203 : decode cX4_readsCommand 203 = .ok (.if_icmp .ne 7, 3) := by decide +kernel
theorem dX4_readsCommand_206 : decode cX4_readsCommand 206 = .ok (.iconst 1, 1) := by decide +kernel
theorem dX4_readsCommand_207 : decode cX4_readsCommand 207 = .ok (.goto 14, 3) := by decide +kernel
theorem dX4_readsCommand_210 : decode cX4_readsCommand 210 = .ok (.iload_n 3, 1) := by decide +kernel
theorem dX4_readsCommand_211 : decode cX4_readsCommand 211 = .ok (.bipush 60, 2) := by decide +kernel
theorem dX4_readsCommand_213 : decode cX4_readsCommand 213 = .ok (.if_icmp .ne 7, 3) := by decide +kernel
theorem dX4_readsCommand_216 : decode cX4_readsCommand 216 = .ok (.iconst (-1), 1) := by decide +kernel
theorem dX4_readsCommand_217 : decode cX4_readsCommand 217 = .ok (.goto 4, 3) := by decide +kernel
theorem dX4_readsCommand_220 : decode cX4_readsCommand 220 = .ok (.iconst 0, 1) := by decide +kernel
theorem dX4_readsCommand_221 : decode cX4_readsCommand 221 = .ok (.invokevirtual 99, 3) := by decide +kernel
theorem dX4_readsCommand_224 : decode cX4_readsCommand 224 = .ok (.istore 7, 2) := by decide +kernel
theorem dX4_readsCommand_226 : decode cX4_readsCommand 226 = .ok (.iconst 1, 1) := by decide +kernel
theorem dX4_readsCommand_227 : decode cX4_readsCommand 227 = .ok (.ireturn, 1) := by decide +kernel
set_option maxRecDepth 20000 in
theorem ggX4_readsAll_X4_readsCommand : GoodIn wsX4_readsAll wsX4_readsCommand := goodIn_r _ [6, 1, 7, 8, 9, 10, 11, 5, 12, 13, 14, 15, 16, 17, 18, 19, 20, 21, 22, 23, 24, 25, 26, 27, 28, 29, 30, 31, 32, 33, 34, 35, 36, 37, 38, 39, 40, 41, 42, 43, 44, 45, 46, 47, 48, 49, 50, 51, 52, 53, 54] (by decide +kernel) (by decide +kernel)
set_option maxRecDepth 20000 in
theorem gX4_readsAll_X4_readsCommand : GoodIn wsX4_readsAll (wsV RX4 130 RX4 yX4_readsCommand wsX4_readsCommand) := goodIn_app (goodIn_of _ (by decide +kernel)) ggX4_readsAll_X4_readsCommand
set_option maxRecDepth 20000 in
theorem ggX4_readsAll_X4_here : GoodIn wsX4_readsAll wsX4_here := goodIn_r _ [12, 1, 7, 8, 49, 50, 51, 52, 53, 54] (by decide +kernel) (by decide +kernel)
set_option maxRecDepth 20000 in
theorem gX4_readsAll_X4_here : GoodIn wsX4_readsAll (wsV RX4 127 RX4 yX4_here wsX4_here) := goodIn_app (goodIn_of _ (by decide +kernel)) ggX4_readsAll_X4_here
theorem dX4_readsAll_0 : decode cX4_readsAll 0 = .ok (.aload_n 0, 1) := by decide +kernel
theorem dX4_readsAll_1 : decode cX4_readsAll 1 = .ok (.iconst 0, 1) := by decide +kernel
theorem dX4_readsAll_2 : decode cX4_readsAll 2 = .ok (.putfield 124, 3) := by decide +kernel
theorem dX4_readsAll_5 : decode cX4_readsAll 5 = .ok (.aload_n 0, 1) := by decide +kernel
theorem dX4_readsAll_6 : decode cX4_readsAll 6 = .ok (.iload_n 1, 1) := by decide +kernel
theorem dX4_readsAll_7 : decode cX4_readsAll 7 = .ok (.invokevirtual 130, 3) := by decide +kernel
theorem dX4_readsAll_10 : decode cX4_readsAll 10 = .ok (.istore_n 2, 1) := by decide +kernel
theorem dX4_readsAll_11 : decode cX4_readsAll 11 = .ok (.aload_n 0, 1) := by decide +kernel
theorem dX4_readsAll_12 : decode cX4_readsAll 12 = .ok (.invokevirtual 127, 3) := by decide +kernel
theorem dX4_readsAll_15 : decode cX4_readsAll 15 = .ok (.istore_n 3, 1) := by decide +kernel
theorem dX4_readsAll_16 : decode cX4_readsAll 16 = .ok (.iload_n 2, 1) := by decide +kernel
theorem dX4_readsAll_17 : decode cX4_readsAll 17 = .ok (.ifCond .eq 48, 3) := by decide +kernel
theorem dX4_readsAll_20 : decode cX4_readsAll 20 = .ok (.iload_n 3, 1) := by decide +kernel
theorem dX4_readsAll_21 : decode cX4_readsAll 21 = .ok (.iconst (-1), 1) := by decide +kernel
theorem dX4_readsAll_22 : decode cX4_readsAll 22 = .ok (.if_icmp .eq 43, 3) := by decide +kernel
theorem dX4_readsAll_25 : decode cX4_readsAll 25 = .ok (.iload_n 3, 1) := by decide +kernel
theorem dX4_readsAll_26 : decode cX4_readsAll 26 = .ok (.bipush 59, 2) := by decide +kernel
theorem dX4_readsAll_28 : decode cX4_readsAll 28 = .ok (.if_icmp .ne 7, 3) := by decide +kernel
theorem dX4_readsAll_31 : decode cX4_readsAll 31 = .ok (.iconst 1, 1) := by decide +kernel
theorem dX4_readsAll_32 : decode cX4_readsAll 32 = .ok (.goto 4, 3) := by decide +kernel
theorem dX4_readsAll_35 : decode cX4_readsAll 35 = .ok (.iconst 0, 1) := by decide +kernel
theorem dX4_readsAll_36 : decode cX4_readsAll 36 = .ok (.istore_n 2, 1) := by decide +kernel
theorem dX4_readsAll_37 : decode cX4_readsAll 37 = .ok (.iload_n 2, 1) := by decide +kernel
theorem dX4_readsAll_38 : decode cX4_readsAll 38 = .ok (.ifCond .eq (-22), 3) := by decide +kernel
theorem dX4_readsAll_41 : decode cX4_readsAll 41 = .ok (.aload_n 0, 1) := by decide +kernel
theorem dX4_readsAll_42 : decode cX4_readsAll 42 = .ok (.dup, 1) := by decide +kernel
theorem dX4_readsAll_43 : decode cX4_readsAll 43 = .ok (.getfield 124, 3) := by decide +kernel
theorem dX4_readsAll_46 : decode cX4_readsAll 46 = .ok (.iconst 1, 1) := by decide +kernel
theorem dX4_readsAll_47 : decode cX4_readsAll 47 = .ok (.iadd, 1) := by decide +kernel
theorem dX4_readsAll_48 : decode cX4_readsAll 48 = .ok (.putfield 124, 3) := by decide +kernel
theorem dX4_readsAll_51 : decode cX4_readsAll 51 = .ok (.aload_n 0, 1) := by decide +kernel
theorem dX4_readsAll_52 : decode cX4_readsAll 52 = .ok (.iload_n 1, 1) := by decide +kernel
theorem dX4_readsAll_53 : decode cX4_readsAll 53 = .ok (.invokevirtual 130, 3) := by decide +kernel
theorem dX4_readsAll_56 : decode cX4_readsAll 56 = .ok (.istore_n 2, 1) := by decide +kernel
theorem dX4_readsAll_57 : decode cX4_readsAll 57 = .ok (.aload_n 0, 1) := by decide +kernel
theorem dX4_readsAll_58 : decode cX4_readsAll 58 = .ok (.invokevirtual 127, 3) := by decide +kernel
theorem dX4_readsAll_61 : decode cX4_readsAll 61 = .ok (.istore_n 3, 1) := by decide +kernel
theorem dX4_readsAll_62 : decode cX4_readsAll 62 = .ok (.goto (-46), 3) := by decide +kernel
theorem dX4_readsAll_65 : decode cX4_readsAll 65 = .ok (.iload_n 2, 1) := by decide +kernel
theorem dX4_readsAll_66 : decode cX4_readsAll 66 = .ok (.ireturn, 1) := by decide +kernel
set_option maxRecDepth 20000 in
theorem ggX4_textFault_X4_readsAll : GoodIn wsX4_textFault wsX4_readsAll := goodIn_r _ [6, 1, 7, 8, 9, 5, 10, 11, 12, 13, 14, 15, 16, 17, 18, 19, 20, 21, 22, 23, 24, 25, 26, 27, 28, 29, 30, 31, 32, 33, 34, 35, 36, 37, 38, 39, 40, 41, 42, 43, 44, 45, 46, 47, 48, 49, 50, 51, 52, 53, 54, 55, 56, 57, 58] (by decide +kernel) (by decide +kernel)
set_option maxRecDepth 20000 in
theorem gX4_textFault_X4_readsAll : GoodIn wsX4_textFault (wsV RX4 134 RX4 yX4_readsAll wsX4_readsAll) := goodIn_app (goodIn_of _ (by decide +kernel)) ggX4_textFault_X4_readsAll
theorem dX4_textFault_0 : decode cX4_textFault 0 = .ok (.aload_n 0, 1) := by decide +kernel
theorem dX4_textFault_1 : decode cX4_textFault 1 = .ok (.iconst 0, 1) := by decide +kernel
theorem dX4_textFault_2 : decode cX4_textFault 2 = .ok (.invokevirtual 134, 3) := by decide +kernel
theorem dX4_textFault_5 : decode cX4_textFault 5 = .ok (.ifCond .eq 8, 3) := by decide +kernel
theorem dX4_textFault_8 : decode cX4_textFault 8 = .ok (.bipush (-100), 2) := by decide +kernel
theorem dX4_textFault_10 : decode cX4_textFault 10 = .ok (.goto 7, 3) := by decide +kernel
theorem dX4_textFault_13 : decode cX4_textFault 13 = .ok (.aload_n 0, 1) := by decide +kernel
theorem dX4_textFault_14 : decode cX4_textFault 14 = .ok (.getfield 124, 3) := by decide +kernel
theorem dX4_textFault_17 : decode cX4_textFault 17 = .ok (.ireturn, 1) := by decide +kernel
set_option maxRecDepth 20000 in
theorem ggX4_command_X4_readsAll : GoodIn wsX4_command wsX4_readsAll := goodIn_r _ [5, 6, 7, 8, 9, 4, 10, 11, 12, 13, 14, 15, 16, 17, 18, 19, 20, 21, 22, 23, 24, 25, 26, 27, 28, 29, 30, 31, 32, 33, 34, 35, 36, 37, 38, 39, 40, 41, 42, 43, 44, 45, 46, 47, 48, 49, 50, 51, 52, 70, 71, 72, 73, 74, 75] (by decide +kernel) (by decide +kernel)
set_option maxRecDepth 20000 in
theorem gX4_command_X4_readsAll : GoodIn wsX4_command (wsV RX4 134 RX4 yX4_readsAll wsX4_readsAll) := goodIn_app (goodIn_of _ (by decide +kernel)) ggX4_command_X4_readsAll
set_option maxRecDepth 20000 in
theorem ggX4_command_X4_saves : GoodIn wsX4_command wsX4_saves := goodIn_r _ [56, 57, 58, 59, 60, 4, 61, 21, 70, 71, 72, 73, 74, 75] (by decide +kernel) (by decide +kernel)
set_option maxRecDepth 20000 in
theorem gX4_command_X4_saves : GoodIn wsX4_command (wsV RX4 59 RX4 yX4_saves wsX4_saves) := goodIn_app (goodIn_of _ (by decide +kernel)) ggX4_command_X4_saves
set_option maxRecDepth 20000 in
theorem ggX4_command_X4_targets : GoodIn wsX4_command wsX4_targets := goodIn_r _ [65, 21, 66, 67, 68, 4, 69, 33, 34, 35, 36, 70, 71, 72, 73, 74, 75] (by decide +kernel) (by decide +kernel)
set_option maxRecDepth 20000 in
theorem gX4_command_X4_targets : GoodIn wsX4_command (wsV RX4 115 RX4 yX4_targets wsX4_targets) := goodIn_app (goodIn_of _ (by decide +kernel)) ggX4_command_X4_targets
theorem dX4_command_0 : decode cX4_command 0 = .ok (.aload_n 0, 1) := by decide +kernel
theorem dX4_command_1 : decode cX4_command 1 = .ok (.iconst 0, 1) := by decide +kernel
theorem dX4_command_2 : decode cX4_command 2 = .ok (.invokevirtual 134, 3) := by decide +kernel
theorem dX4_command_5 : decode cX4_command 5 = .ok (.ifCond .ne 6, 3) := by decide +kernel
theorem dX4_command_8 : decode cX4_command 8 = .ok (.bipush (-103), 2) := by decide +kernel
theorem dX4_command_10 : decode cX4_command 10 = .ok (.ireturn, 1) := by decide +kernel
theorem dX4_command_11 : decode cX4_command 11 = .ok (.aload_n 0, 1) := by decide +kernel
theorem dX4_command_12 : decode cX4_command 12 = .ok (.invokevirtual 59, 3) := by decide +kernel
theorem dX4_command_15 : decode cX4_command 15 = .ok (.aload_n 0, 1) := by decide +kernel
theorem dX4_command_16 : decode cX4_command 16 = .ok (.iconst 1, 1) := by decide +kernel
theorem dX4_command_17 : decode cX4_command 17 = .ok (.invokevirtual 134, 3) := by decide +kernel
theorem dX4_command_20 : decode cX4_command 20 = .ok (.istore_n 1, 1) := by decide +kernel
theorem dX4_command_21 : decode cX4_command 21 = .ok (.aload_n 0, 1) := by decide +kernel
theorem dX4_command_22 : decode cX4_command 22 = .ok (.invokevirtual 115, 3) := by decide +kernel
theorem dX4_command_25 : decode cX4_command 25 = .ok (.ireturn, 1) := by decide +kernel
theorem dX4_mixes_0 : decode cX4_mixes 0 = .ok (.aload_n 0, 1) := by decide +kernel
theorem dX4_mixes_1 : decode cX4_mixes 1 = .ok (.ldc2_w 137, 3) := by decide +kernel
theorem dX4_mixes_4 : decode cX4_mixes 4 = .ok (.aload_n 0, 1) := by decide +kernel
theorem dX4_mixes_5 : decode cX4_mixes 5 = .ok (.getfield 139, 3) := by decide +kernel
theorem dX4_mixes_8 : decode cX4_mixes 8 = .ok (.lmul, 1) := by decide +kernel
theorem dX4_mixes_9 : decode cX4_mixes 9 = .ok (.iload_n 1, 1) := by decide +kernel
theorem dX4_mixes_10 : decode cX4_mixes 10 = .ok (.i2l, 1) := by decide +kernel
theorem dX4_mixes_11 : decode cX4_mixes 11 = .ok (.ladd, 1) := by decide +kernel
theorem dX4_mixes_12 : decode cX4_mixes 12 = .ok (.putfield 139, 3) := by decide +kernel
theorem dX4_mixes_15 : decode cX4_mixes 15 = .ok (.return_, 1) := by decide +kernel
set_option maxRecDepth 20000 in
theorem ggX4_digest_X4_mixes : GoodIn wsX4_digest wsX4_mixes := goodIn_r _ [8, 9, 2, 42, 43, 44, 45, 46, 47] (by decide +kernel) (by decide +kernel)
set_option maxRecDepth 20000 in
theorem gX4_digest_X4_mixes : GoodIn wsX4_digest (wsV RX4 145 RX4 yX4_mixes wsX4_mixes) := goodIn_app (goodIn_of _ (by decide +kernel)) ggX4_digest_X4_mixes
set_option maxRecDepth 20000 in
theorem ggX4_digest_X4_property : GoodIn wsX4_digest wsX4_property := goodIn_r _ [13, 14, 15, 16, 7, 17, 18, 19, 20, 21, 22, 23, 24, 25, 3, 26, 27, 28, 29, 30, 31, 32, 33, 34, 35, 36, 37, 38, 39, 40, 41, 42, 43, 44, 45, 46, 47] (by decide +kernel) (by decide +kernel)
set_option maxRecDepth 20000 in
theorem gX4_digest_X4_property : GoodIn wsX4_digest (wsV RX4 81 RX4 yX4_property wsX4_property) := goodIn_app (goodIn_of _ (by decide +kernel)) ggX4_digest_X4_property
set_option maxRecDepth 20000 in
theorem ggX4_digest_X4_of : GoodIn wsX4_digest wsX4_of := goodIn_r _ [25, 3, 42, 43, 44, 45, 46, 47] (by decide +kernel) (by decide +kernel)
set_option maxRecDepth 20000 in
theorem gX4_digest_X4_of : GoodIn wsX4_digest (wsV RX4 28 RX4 yX4_of wsX4_of) := goodIn_app (goodIn_of _ (by decide +kernel)) ggX4_digest_X4_of
theorem dX4_digest_0 : decode cX4_digest 0 = .ok (.aload_n 0, 1) := by decide +kernel
theorem dX4_digest_1 : decode cX4_digest 1 = .ok (.ldc2_w 143, 3) := by decide +kernel
theorem dX4_digest_4 : decode cX4_digest 4 = .ok (.putfield 139, 3) := by decide +kernel
theorem dX4_digest_7 : decode cX4_digest 7 = .ok (.aload_n 0, 1) := by decide +kernel
theorem dX4_digest_8 : decode cX4_digest 8 = .ok (.aload_n 0, 1) := by decide +kernel
theorem dX4_digest_9 : decode cX4_digest 9 = .ok (.getfield 7, 3) := by decide +kernel
theorem dX4_digest_12 : decode cX4_digest 12 = .ok (.iconst 0, 1) := by decide +kernel
theorem dX4_digest_13 : decode cX4_digest 13 = .ok (.iaload, 1) := by decide +kernel
theorem dX4_digest_14 : decode cX4_digest 14 = .ok (.invokevirtual 145, 3) := by decide +kernel
theorem dX4_digest_17 : decode cX4_digest 17 = .ok (.aload_n 0, 1) := by decide +kernel
theorem dX4_digest_18 : decode cX4_digest 18 = .ok (.aload_n 0, 1) := by decide +kernel
theorem dX4_digest_19 : decode cX4_digest 19 = .ok (.getfield 7, 3) := by decide +kernel
theorem dX4_digest_22 : decode cX4_digest 22 = .ok (.iconst 1, 1) := by decide +kernel
theorem dX4_digest_23 : decode cX4_digest 23 = .ok (.iaload, 1) := by decide +kernel
theorem dX4_digest_24 : decode cX4_digest 24 = .ok (.invokevirtual 145, 3) := by decide +kernel
theorem dX4_digest_27 : decode cX4_digest 27 = .ok (.aload_n 0, 1) := by decide +kernel
theorem dX4_digest_28 : decode cX4_digest 28 = .ok (.aload_n 0, 1) := by decide +kernel
theorem dX4_digest_29 : decode cX4_digest 29 = .ok (.getfield 7, 3) := by decide +kernel
theorem dX4_digest_32 : decode cX4_digest 32 = .ok (.iconst 2, 1) := by decide +kernel
theorem dX4_digest_33 : decode cX4_digest 33 = .ok (.iaload, 1) := by decide +kernel
theorem dX4_digest_34 : decode cX4_digest 34 = .ok (.invokevirtual 145, 3) := by decide +kernel
theorem dX4_digest_37 : decode cX4_digest 37 = .ok (.iconst 0, 1) := by decide +kernel
theorem dX4_digest_38 : decode cX4_digest 38 = .ok (.istore_n 1, 1) := by decide +kernel
theorem dX4_digest_39 : decode cX4_digest 39 = .ok (.iload_n 1, 1) := by decide +kernel
theorem dX4_digest_40 : decode cX4_digest 40 = .ok (.aload_n 0, 1) := by decide +kernel
theorem dX4_digest_41 : decode cX4_digest 41 = .ok (.getfield 7, 3) := by decide +kernel
theorem dX4_digest_44 : decode cX4_digest 44 = .ok (.iconst 2, 1) := by decide +kernel
theorem dX4_digest_45 : decode cX4_digest 45 = .ok (.iaload, 1) := by decide +kernel
theorem dX4_digest_46 : decode cX4_digest 46 = .ok (.if_icmp .ge 60, 3) := by decide +kernel
theorem dX4_digest_49 : decode cX4_digest 49 = .ok (.iconst 0, 1) := by decide +kernel
theorem dX4_digest_50 : decode cX4_digest 50 = .ok (.istore_n 2, 1) := by decide +kernel
theorem dX4_digest_51 : decode cX4_digest 51 = .ok (.iload_n 2, 1) := by decide +kernel
theorem dX4_digest_52 : decode cX4_digest 52 = .ok (.bipush 10, 2) := by decide +kernel
theorem dX4_digest_54 : decode cX4_digest 54 = .ok (.if_icmp .ge 19, 3) := by decide +kernel
theorem dX4_digest_57 : decode cX4_digest 57 = .ok (.aload_n 0, 1) := by decide +kernel
theorem dX4_digest_58 : decode cX4_digest 58 = .ok (.aload_n 0, 1) := by decide +kernel
theorem dX4_digest_59 : decode cX4_digest 59 = .ok (.iload_n 1, 1) := by decide +kernel
