theorem dX3_slew_66 : decode cX3_slew 66 = .ok (.invokevirtual 99, 3) := by decide +kernel
theorem dX3_slew_69 : decode cX3_slew 69 = .ok (.ireturn, 1) := by decide +kernel
set_option maxRecDepth 20000 in
theorem ggX3_stop_X1_hasCrane : GoodIn wsX3_stop wsX1_hasCrane := goodIn_r _ [7, 8, 41] (by decide +kernel) (by decide +kernel)
set_option maxRecDepth 20000 in
theorem gX3_stop_X1_hasCrane : GoodIn wsX3_stop (wsV RX3 52 RX1 yX1_hasCrane wsX1_hasCrane) := goodIn_app (goodIn_of _ (by decide +kernel)) ggX3_stop_X1_hasCrane
set_option maxRecDepth 20000 in
theorem ggX3_stop_X1_isOnStep : GoodIn wsX3_stop wsX1_isOnStep := goodIn_r _ [12, 8, 41] (by decide +kernel) (by decide +kernel)
set_option maxRecDepth 20000 in
theorem gX3_stop_X1_isOnStep : GoodIn wsX3_stop (wsV RX3 102 RX1 yX1_isOnStep wsX1_isOnStep) := goodIn_app (goodIn_of _ (by decide +kernel)) ggX3_stop_X1_isOnStep
set_option maxRecDepth 20000 in
theorem ggX3_stop_X0_keep : GoodIn wsX3_stop wsX0_keep := goodIn_r _ [17, 18, 19, 20, 21, 22, 23, 24, 25, 26, 27, 6, 28, 8, 29, 30, 31, 32, 42, 43, 44, 41] (by decide +kernel) (by decide +kernel)
set_option maxRecDepth 20000 in
theorem gX3_stop_X0_keep : GoodIn wsX3_stop (wsV RX3 44 RX0 yX0_keep wsX0_keep) := goodIn_app (goodIn_of _ (by decide +kernel)) ggX3_stop_X0_keep
set_option maxRecDepth 20000 in
theorem ggX3_stop_X1_dropTarget : GoodIn wsX3_stop wsX1_dropTarget := goodIn_r _ [36, 8, 41] (by decide +kernel) (by decide +kernel)
set_option maxRecDepth 20000 in
theorem gX3_stop_X1_dropTarget : GoodIn wsX3_stop (wsV RX3 105 RX1 yX1_dropTarget wsX1_dropTarget) := goodIn_app (goodIn_of _ (by decide +kernel)) ggX3_stop_X1_dropTarget
theorem dX3_stop_0 : decode cX3_stop 0 = .ok (.aload_n 0, 1) := by decide +kernel
theorem dX3_stop_1 : decode cX3_stop 1 = .ok (.getfield 10, 3) := by decide +kernel
theorem dX3_stop_4 : decode cX3_stop 4 = .ok (.iload_n 1, 1) := by decide +kernel
theorem dX3_stop_5 : decode cX3_stop 5 = .ok (.invokevirtual 52, 3) := by decide +kernel
theorem dX3_stop_8 : decode cX3_stop 8 = .ok (.ifCond .ne 6, 3) := by decide +kernel
theorem dX3_stop_11 : decode cX3_stop 11 = .ok (.bipush (-101), 2) := by decide +kernel
theorem dX3_stop_13 : decode cX3_stop 13 = .ok (.ireturn, 1) := by decide +kernel
theorem dX3_stop_14 : decode cX3_stop 14 = .ok (.aload_n 0, 1) := by decide +kernel
theorem dX3_stop_15 : decode cX3_stop 15 = .ok (.getfield 10, 3) := by decide +kernel
theorem dX3_stop_18 : decode cX3_stop 18 = .ok (.iload_n 1, 1) := by decide +kernel
theorem dX3_stop_19 : decode cX3_stop 19 = .ok (.invokevirtual 102, 3) := by decide +kernel
theorem dX3_stop_22 : decode cX3_stop 22 = .ok (.ifCond .eq 6, 3) := by decide +kernel
theorem dX3_stop_25 : decode cX3_stop 25 = .ok (.bipush (-103), 2) := by decide +kernel
theorem dX3_stop_27 : decode cX3_stop 27 = .ok (.ireturn, 1) := by decide +kernel
theorem dX3_stop_28 : decode cX3_stop 28 = .ok (.aload_n 0, 1) := by decide +kernel
theorem dX3_stop_29 : decode cX3_stop 29 = .ok (.getfield 22, 3) := by decide +kernel
theorem dX3_stop_32 : decode cX3_stop 32 = .ok (.aload_n 0, 1) := by decide +kernel
theorem dX3_stop_33 : decode cX3_stop 33 = .ok (.getfield 10, 3) := by decide +kernel
theorem dX3_stop_36 : decode cX3_stop 36 = .ok (.invokevirtual 44, 3) := by decide +kernel
theorem dX3_stop_39 : decode cX3_stop 39 = .ok (.aload_n 0, 1) := by decide +kernel
theorem dX3_stop_40 : decode cX3_stop 40 = .ok (.getfield 10, 3) := by decide +kernel
theorem dX3_stop_43 : decode cX3_stop 43 = .ok (.iload_n 1, 1) := by decide +kernel
theorem dX3_stop_44 : decode cX3_stop 44 = .ok (.invokevirtual 105, 3) := by decide +kernel
theorem dX3_stop_47 : decode cX3_stop 47 = .ok (.ireturn, 1) := by decide +kernel
set_option maxRecDepth 20000 in
theorem ggX3_turnRound_X1_hasCrane : GoodIn wsX3_turnRound wsX1_hasCrane := goodIn_r _ [7, 8, 52] (by decide +kernel) (by decide +kernel)
set_option maxRecDepth 20000 in
theorem gX3_turnRound_X1_hasCrane : GoodIn wsX3_turnRound (wsV RX3 52 RX1 yX1_hasCrane wsX1_hasCrane) := goodIn_app (goodIn_of _ (by decide +kernel)) ggX3_turnRound_X1_hasCrane
set_option maxRecDepth 20000 in
theorem ggX3_turnRound_X1_hasTarget : GoodIn wsX3_turnRound wsX1_hasTarget := goodIn_r _ [12, 8, 52] (by decide +kernel) (by decide +kernel)
set_option maxRecDepth 20000 in
theorem gX3_turnRound_X1_hasTarget : GoodIn wsX3_turnRound (wsV RX3 108 RX1 yX1_hasTarget wsX1_hasTarget) := goodIn_app (goodIn_of _ (by decide +kernel)) ggX3_turnRound_X1_hasTarget
set_option maxRecDepth 20000 in
theorem ggX3_turnRound_X1_isOnStep : GoodIn wsX3_turnRound wsX1_isOnStep := goodIn_r _ [16, 8, 52] (by decide +kernel) (by decide +kernel)
set_option maxRecDepth 20000 in
theorem gX3_turnRound_X1_isOnStep : GoodIn wsX3_turnRound (wsV RX3 102 RX1 yX1_isOnStep wsX1_isOnStep) := goodIn_app (goodIn_of _ (by decide +kernel)) ggX3_turnRound_X1_isOnStep
set_option maxRecDepth 20000 in
theorem ggX3_turnRound_X0_keep : GoodIn wsX3_turnRound wsX0_keep := goodIn_r _ [21, 22, 23, 24, 25, 26, 27, 28, 29, 30, 31, 6, 32, 8, 33, 34, 35, 36, 53, 54, 55, 52] (by decide +kernel) (by decide +kernel)
set_option maxRecDepth 20000 in
theorem gX3_turnRound_X0_keep : GoodIn wsX3_turnRound (wsV RX3 44 RX0 yX0_keep wsX0_keep) := goodIn_app (goodIn_of _ (by decide +kernel)) ggX3_turnRound_X0_keep
set_option maxRecDepth 20000 in
theorem ggX3_turnRound_X1_changeWay : GoodIn wsX3_turnRound wsX1_changeWay := goodIn_r _ [40, 8, 41, 42, 43, 6, 44, 45, 46, 47, 52] (by decide +kernel) (by decide +kernel)
set_option maxRecDepth 20000 in
theorem gX3_turnRound_X1_changeWay : GoodIn wsX3_turnRound (wsV RX3 111 RX1 yX1_changeWay wsX1_changeWay) := goodIn_app (goodIn_of _ (by decide +kernel)) ggX3_turnRound_X1_changeWay
theorem dX3_turnRound_0 : decode cX3_turnRound 0 = .ok (.aload_n 0, 1) := by decide +kernel
theorem dX3_turnRound_1 : decode cX3_turnRound 1 = .ok (.getfield 10, 3) := by decide +kernel
theorem dX3_turnRound_4 : decode cX3_turnRound 4 = .ok (.iload_n 1, 1) := by decide +kernel
theorem dX3_turnRound_5 : decode cX3_turnRound 5 = .ok (.invokevirtual 52, 3) := by decide +kernel
theorem dX3_turnRound_8 : decode cX3_turnRound 8 = .ok (.ifCond .ne 6, 3) := by decide +kernel
theorem dX3_turnRound_11 : decode cX3_turnRound 11 = .ok (.bipush (-101), 2) := by decide +kernel
theorem dX3_turnRound_13 : decode cX3_turnRound 13 = .ok (.ireturn, 1) := by decide +kernel
theorem dX3_turnRound_14 : decode cX3_turnRound 14 = .ok (.aload_n 0, 1) := by decide +kernel
theorem dX3_turnRound_15 : decode cX3_turnRound 15 = .ok (.getfield 10, 3) := by decide +kernel
theorem dX3_turnRound_18 : decode cX3_turnRound 18 = .ok (.iload_n 1, 1) := by decide +kernel
theorem dX3_turnRound_19 : decode cX3_turnRound 19 = .ok (.invokevirtual 108, 3) := by decide +kernel
theorem dX3_turnRound_22 : decode cX3_turnRound 22 = .ok (.ifCond .eq 14, 3) := by decide +kernel
theorem dX3_turnRound_25 : decode cX3_turnRound 25 = .ok (.aload_n 0, 1) := by decide +kernel
theorem dX3_turnRound_26 : decode cX3_turnRound 26 = .ok (.getfield 10, 3) := by decide +kernel
theorem dX3_turnRound_29 : decode cX3_turnRound 29 = .ok (.iload_n 1, 1) := by decide +kernel
theorem dX3_turnRound_30 : decode cX3_turnRound 30 = .ok (.invokevirtual 102, 3) := by decide +kernel
theorem dX3_turnRound_33 : decode cX3_turnRound 33 = .ok (.ifCond .eq 6, 3) := by decide +kernel
theorem dX3_turnRound_36 : decode cX3_turnRound 36 = .ok (.bipush (-103), 2) := by decide +kernel
theorem dX3_turnRound_38 : decode cX3_turnRound 38 = .ok (.ireturn, 1) := by decide +kernel
theorem dX3_turnRound_39 : decode cX3_turnRound 39 = .ok (.aload_n 0, 1) := by decide +kernel
theorem dX3_turnRound_40 : decode cX3_turnRound 40 = .ok (.getfield 22, 3) := by decide +kernel
theorem dX3_turnRound_43 : decode cX3_turnRound 43 = .ok (.aload_n 0, 1) := by decide +kernel
theorem dX3_turnRound_44 : decode cX3_turnRound 44 = .ok (.getfield 10, 3) := by decide +kernel
theorem dX3_turnRound_47 : decode cX3_turnRound 47 = .ok (.invokevirtual 44, 3) := by decide +kernel
theorem dX3_turnRound_50 : decode cX3_turnRound 50 = .ok (.aload_n 0, 1) := by decide +kernel
theorem dX3_turnRound_51 : decode cX3_turnRound 51 = .ok (.getfield 10, 3) := by decide +kernel
theorem dX3_turnRound_54 : decode cX3_turnRound 54 = .ok (.iload_n 1, 1) := by decide +kernel
theorem dX3_turnRound_55 : decode cX3_turnRound 55 = .ok (.invokevirtual 111, 3) := by decide +kernel
theorem dX3_turnRound_58 : decode cX3_turnRound 58 = .ok (.ireturn, 1) := by decide +kernel
set_option maxRecDepth 20000 in
theorem ggX3_tick_X1_now : GoodIn wsX3_tick wsX1_now := goodIn_r _ [8, 9, 92] (by decide +kernel) (by decide +kernel)
set_option maxRecDepth 20000 in
theorem gX3_tick_X1_now : GoodIn wsX3_tick (wsV RX3 114 RX1 yX1_now wsX1_now) := goodIn_app (goodIn_of _ (by decide +kernel)) ggX3_tick_X1_now
set_option maxRecDepth 20000 in
theorem ggX3_tick_X0_keep : GoodIn wsX3_tick wsX0_keep := goodIn_r _ [14, 15, 16, 17, 18, 19, 20, 21, 22, 23, 24, 7, 25, 9, 26, 27, 28, 29, 93, 94, 95, 92] (by decide +kernel) (by decide +kernel)
set_option maxRecDepth 20000 in
theorem gX3_tick_X0_keep : GoodIn wsX3_tick (wsV RX3 44 RX0 yX0_keep wsX0_keep) := goodIn_app (goodIn_of _ (by decide +kernel)) ggX3_tick_X0_keep
set_option maxRecDepth 20000 in
theorem ggX3_tick_X1_passTick : GoodIn wsX3_tick wsX1_passTick := goodIn_r _ [33, 9, 34, 35, 36, 7, 37, 38, 39, 40, 41, 42, 43, 44, 45, 46, 47, 48, 49, 50, 51, 52, 53, 54, 55, 56, 57, 58, 59, 60, 61, 62, 63, 64, 65, 66, 67, 68, 69, 70, 71, 72, 73, 74, 75, 76, 77, 78, 79, 80, 81, 82, 83, 84, 85, 86, 87, 92] (by decide +kernel) (by decide +kernel)
set_option maxRecDepth 20000 in
theorem gX3_tick_X1_passTick : GoodIn wsX3_tick (wsV RX3 118 RX1 yX1_passTick wsX1_passTick) := goodIn_app (goodIn_of _ (by decide +kernel)) ggX3_tick_X1_passTick
theorem dX3_tick_0 : decode cX3_tick 0 = .ok (.iload_n 1, 1) := by decide +kernel
theorem dX3_tick_1 : decode cX3_tick 1 = .ok (.iconst 1, 1) := by decide +kernel
theorem dX3_tick_2 : decode cX3_tick 2 = .ok (.if_icmp .lt 10, 3) := by decide +kernel
theorem dX3_tick_5 : decode cX3_tick 5 = .ok (.iload_n 1, 1) := by decide +kernel
theorem dX3_tick_6 : decode cX3_tick 6 = .ok (.sipush 200, 3) := by decide +kernel
theorem dX3_tick_9 : decode cX3_tick 9 = .ok (.if_icmp .le 6, 3) := by decide +kernel
theorem dX3_tick_12 : decode cX3_tick 12 = .ok (.bipush (-102), 2) := by decide +kernel
theorem dX3_tick_14 : decode cX3_tick 14 = .ok (.ireturn, 1) := by decide +kernel
theorem dX3_tick_15 : decode cX3_tick 15 = .ok (.aload_n 0, 1) := by decide +kernel
theorem dX3_tick_16 : decode cX3_tick 16 = .ok (.getfield 10, 3) := by decide +kernel
theorem dX3_tick_19 : decode cX3_tick 19 = .ok (.invokevirtual 114, 3) := by decide +kernel
theorem dX3_tick_22 : decode cX3_tick 22 = .ok (.iload_n 1, 1) := by decide +kernel
theorem dX3_tick_23 : decode cX3_tick 23 = .ok (.iadd, 1) := by decide +kernel
theorem dX3_tick_24 : decode cX3_tick 24 = .ok (.ldc 117, 2) := by decide +kernel
theorem dX3_tick_26 : decode cX3_tick 26 = .ok (.if_icmp .le 6, 3) := by decide +kernel
theorem dX3_tick_29 : decode cX3_tick 29 = .ok (.bipush (-104), 2) := by decide +kernel
theorem dX3_tick_31 : decode cX3_tick 31 = .ok (.ireturn, 1) := by decide +kernel
theorem dX3_tick_32 : decode cX3_tick 32 = .ok (.aload_n 0, 1) := by decide +kernel
theorem dX3_tick_33 : decode cX3_tick 33 = .ok (.getfield 22, 3) := by decide +kernel
theorem dX3_tick_36 : decode cX3_tick 36 = .ok (.aload_n 0, 1) := by decide +kernel
theorem dX3_tick_37 : decode cX3_tick 37 = .ok (.getfield 10, 3) := by decide +kernel
theorem dX3_tick_40 : decode cX3_tick 40 = .ok (.invokevirtual 44, 3) := by decide +kernel
theorem dX3_tick_43 : decode cX3_tick 43 = .ok (.iconst 0, 1) := by decide +kernel
theorem dX3_tick_44 : decode cX3_tick 44 = .ok (.istore_n 2, 1) := by decide +kernel
theorem dX3_tick_45 : decode cX3_tick 45 = .ok (.iload_n 2, 1) := by decide +kernel
theorem dX3_tick_46 : decode cX3_tick 46 = .ok (.iload_n 1, 1) := by decide +kernel
theorem dX3_tick_47 : decode cX3_tick 47 = .ok (.if_icmp .ge 17, 3) := by decide +kernel
theorem dX3_tick_50 : decode cX3_tick 50 = .ok (.aload_n 0, 1) := by decide +kernel
theorem dX3_tick_51 : decode cX3_tick 51 = .ok (.getfield 10, 3) := by decide +kernel
theorem dX3_tick_54 : decode cX3_tick 54 = .ok (.invokevirtual 118, 3) := by decide +kernel
theorem dX3_tick_57 : decode cX3_tick 57 = .ok (.pop, 1) := by decide +kernel
theorem dX3_tick_58 : decode cX3_tick 58 = .ok (.iinc 2 1, 3) := by decide +kernel
theorem dX3_tick_61 : decode cX3_tick 61 = .ok (.goto (-16), 3) := by decide +kernel
theorem dX3_tick_64 : decode cX3_tick 64 = .ok (.aload_n 0, 1) := by decide +kernel
theorem dX3_tick_65 : decode cX3_tick 65 = .ok (.getfield 10, 3) := by decide +kernel
theorem dX3_tick_68 : decode cX3_tick 68 = .ok (.invokevirtual 114, 3) := by decide +kernel
theorem dX3_tick_71 : decode cX3_tick 71 = .ok (.ireturn, 1) := by decide +kernel
set_option maxRecDepth 20000 in
theorem ggX3_time_X1_now : GoodIn wsX3_time wsX1_now := goodIn_r _ [6, 7, 12] (by decide +kernel) (by decide +kernel)
set_option maxRecDepth 20000 in
theorem gX3_time_X1_now : GoodIn wsX3_time (wsV RX3 114 RX1 yX1_now wsX1_now) := goodIn_app (goodIn_of _ (by decide +kernel)) ggX3_time_X1_now
theorem dX3_time_0 : decode cX3_time 0 = .ok (.aload_n 0, 1) := by decide +kernel
theorem dX3_time_1 : decode cX3_time 1 = .ok (.getfield 10, 3) := by decide +kernel
theorem dX3_time_4 : decode cX3_time 4 = .ok (.invokevirtual 114, 3) := by decide +kernel
theorem dX3_time_7 : decode cX3_time 7 = .ok (.ireturn, 1) := by decide +kernel
set_option maxRecDepth 20000 in
theorem ggX3_needs_X1_hasCrane : GoodIn wsX3_needs wsX1_hasCrane := goodIn_r _ [6, 7, 27] (by decide +kernel) (by decide +kernel)
set_option maxRecDepth 20000 in
theorem gX3_needs_X1_hasCrane : GoodIn wsX3_needs (wsV RX3 52 RX1 yX1_hasCrane wsX1_hasCrane) := goodIn_app (goodIn_of _ (by decide +kernel)) ggX3_needs_X1_hasCrane
set_option maxRecDepth 20000 in
theorem ggX3_needs_X1_hasTarget : GoodIn wsX3_needs wsX1_hasTarget := goodIn_r _ [11, 7, 27] (by decide +kernel) (by decide +kernel)
set_option maxRecDepth 20000 in
theorem gX3_needs_X1_hasTarget : GoodIn wsX3_needs (wsV RX3 108 RX1 yX1_hasTarget wsX1_hasTarget) := goodIn_app (goodIn_of _ (by decide +kernel)) ggX3_needs_X1_hasTarget
set_option maxRecDepth 20000 in
theorem ggX3_needs_X1_ticksToTarget : GoodIn wsX3_needs wsX1_ticksToTarget := goodIn_r _ [15, 7, 16, 17, 18, 5, 19, 20, 21, 22, 27] (by decide +kernel) (by decide +kernel)
set_option maxRecDepth 20000 in
theorem gX3_needs_X1_ticksToTarget : GoodIn wsX3_needs (wsV RX3 122 RX1 yX1_ticksToTarget wsX1_ticksToTarget) := goodIn_app (goodIn_of _ (by decide +kernel)) ggX3_needs_X1_ticksToTarget
theorem dX3_needs_0 : decode cX3_needs 0 = .ok (.aload_n 0, 1) := by decide +kernel
theorem dX3_needs_1 : decode cX3_needs 1 = .ok (.getfield 10, 3) := by decide +kernel
theorem dX3_needs_4 : decode cX3_needs 4 = .ok (.iload_n 1, 1) := by decide +kernel
theorem dX3_needs_5 : decode cX3_needs 5 = .ok (.invokevirtual 52, 3) := by decide +kernel
theorem dX3_needs_8 : decode cX3_needs 8 = .ok (.ifCond .ne 6, 3) := by decide +kernel
theorem dX3_needs_11 : decode cX3_needs 11 = .ok (.bipush (-101), 2) := by decide +kernel
theorem dX3_needs_13 : decode cX3_needs 13 = .ok (.ireturn, 1) := by decide +kernel
theorem dX3_needs_14 : decode cX3_needs 14 = .ok (.aload_n 0, 1) := by decide +kernel
theorem dX3_needs_15 : decode cX3_needs 15 = .ok (.getfield 10, 3) := by decide +kernel
theorem dX3_needs_18 : decode cX3_needs 18 = .ok (.iload_n 1, 1) := by decide +kernel
theorem dX3_needs_19 : decode cX3_needs 19 = .ok (.invokevirtual 108, 3) := by decide +kernel
theorem dX3_needs_22 : decode cX3_needs 22 = .ok (.ifCond .eq 14, 3) := by decide +kernel
theorem dX3_needs_25 : decode cX3_needs 25 = .ok (.aload_n 0, 1) := by decide +kernel
theorem dX3_needs_26 : decode cX3_needs 26 = .ok (.getfield 10, 3) := by decide +kernel
theorem dX3_needs_29 : decode cX3_needs 29 = .ok (.iload_n 1, 1) := by decide +kernel
theorem dX3_needs_30 : decode cX3_needs 30 = .ok (.invokevirtual 122, 3) := by decide +kernel
theorem dX3_needs_33 : decode cX3_needs 33 = .ok (.goto 4, 3) := by decide +kernel
theorem dX3_needs_36 : decode cX3_needs 36 = .ok (.iconst 0, 1) := by decide +kernel
theorem dX3_needs_37 : decode cX3_needs 37 = .ok (.ireturn, 1) := by decide +kernel
set_option maxRecDepth 20000 in
theorem ggX3_blocker_X1_hasCrane : GoodIn wsX3_blocker wsX1_hasCrane := goodIn_r _ [6, 7, 44] (by decide +kernel) (by decide +kernel)
set_option maxRecDepth 20000 in
theorem gX3_blocker_X1_hasCrane : GoodIn wsX3_blocker (wsV RX3 52 RX1 yX1_hasCrane wsX1_hasCrane) := goodIn_app (goodIn_of _ (by decide +kernel)) ggX3_blocker_X1_hasCrane
set_option maxRecDepth 20000 in
theorem ggX3_blocker_X1_blockerOf : GoodIn wsX3_blocker wsX1_blockerOf := goodIn_r _ [11, 7, 12, 13, 14, 5, 15, 16, 17, 18, 19, 20, 21, 22, 23, 24, 25, 26, 27, 28, 29, 30, 31, 32, 33, 34, 35, 36, 37, 38, 39, 44] (by decide +kernel) (by decide +kernel)
set_option maxRecDepth 20000 in
theorem gX3_blocker_X1_blockerOf : GoodIn wsX3_blocker (wsV RX3 125 RX1 yX1_blockerOf wsX1_blockerOf) := goodIn_app (goodIn_of _ (by decide +kernel)) ggX3_blocker_X1_blockerOf
theorem dX3_blocker_0 : decode cX3_blocker 0 = .ok (.aload_n 0, 1) := by decide +kernel
theorem dX3_blocker_1 : decode cX3_blocker 1 = .ok (.getfield 10, 3) := by decide +kernel
theorem dX3_blocker_4 : decode cX3_blocker 4 = .ok (.iload_n 1, 1) := by decide +kernel
theorem dX3_blocker_5 : decode cX3_blocker 5 = .ok (.invokevirtual 52, 3) := by decide +kernel
theorem dX3_blocker_8 : decode cX3_blocker 8 = .ok (.ifCond .ne 6, 3) := by decide +kernel
theorem dX3_blocker_11 : decode cX3_blocker 11 = .ok (.bipush (-101), 2) := by decide +kernel
theorem dX3_blocker_13 : decode cX3_blocker 13 = .ok (.ireturn, 1) := by decide +kernel
theorem dX3_blocker_14 : decode cX3_blocker 14 = .ok (.aload_n 0, 1) := by decide +kernel
theorem dX3_blocker_15 : decode cX3_blocker 15 = .ok (.getfield 10, 3) := by decide +kernel
theorem dX3_blocker_18 : decode cX3_blocker 18 = .ok (.iload_n 1, 1) := by decide +kernel
theorem dX3_blocker_19 : decode cX3_blocker 19 = .ok (.invokevirtual 125, 3) := by decide +kernel
theorem dX3_blocker_22 : decode cX3_blocker 22 = .ok (.ireturn, 1) := by decide +kernel
set_option maxRecDepth 20000 in
theorem ggX3_cycle_X1_cycleSet : GoodIn wsX3_cycle wsX1_cycleSet := goodIn_r _ [6, 7, 8, 9, 10, 5, 11, 12, 13, 14, 15, 16, 17, 18, 19, 20, 21, 22, 23, 24, 25, 26, 27, 28, 29, 30, 31, 32, 33, 34, 35, 36, 37, 38, 39, 40, 41, 42, 43, 48] (by decide +kernel) (by decide +kernel)
set_option maxRecDepth 20000 in
theorem gX3_cycle_X1_cycleSet : GoodIn wsX3_cycle (wsV RX3 128 RX1 yX1_cycleSet wsX1_cycleSet) := goodIn_app (goodIn_of _ (by decide +kernel)) ggX3_cycle_X1_cycleSet
theorem dX3_cycle_0 : decode cX3_cycle 0 = .ok (.aload_n 0, 1) := by decide +kernel
theorem dX3_cycle_1 : decode cX3_cycle 1 = .ok (.getfield 10, 3) := by decide +kernel
theorem dX3_cycle_4 : decode cX3_cycle 4 = .ok (.invokevirtual 128, 3) := by decide +kernel
theorem dX3_cycle_7 : decode cX3_cycle 7 = .ok (.ireturn, 1) := by decide +kernel
set_option maxRecDepth 20000 in
theorem ggX3_allDone_X3_ticksUntilDone : GoodIn wsX3_allDone wsX3_ticksUntilDone := goodIn_r _ [5, 6, 7, 8, 9, 10, 11, 12, 13, 14, 15, 16, 17, 18, 19, 20, 21, 22, 23, 24, 25, 26, 27, 28, 29, 30, 31, 32, 33, 34, 35, 36, 37, 38, 39, 40, 41, 42, 4, 43, 44, 45, 46, 47, 48, 49, 50, 51, 52, 53, 54, 55, 56, 57, 58, 59, 60, 61, 62, 63, 64, 65, 66, 67, 68, 69, 70, 71, 72, 73, 74, 75, 76, 77, 78, 79, 80, 81, 82, 83] (by decide +kernel) (by decide +kernel)
set_option maxRecDepth 20000 in
theorem gX3_allDone_X3_ticksUntilDone : GoodIn wsX3_allDone (wsV RX3 131 RX3 yX3_ticksUntilDone wsX3_ticksUntilDone) := goodIn_app (goodIn_of _ (by decide +kernel)) ggX3_allDone_X3_ticksUntilDone
theorem dX3_allDone_0 : decode cX3_allDone 0 = .ok (.aload_n 0, 1) := by decide +kernel
theorem dX3_allDone_1 : decode cX3_allDone 1 = .ok (.bipush 15, 2) := by decide +kernel
theorem dX3_allDone_3 : decode cX3_allDone 3 = .ok (.invokevirtual 131, 3) := by decide +kernel
theorem dX3_allDone_6 : decode cX3_allDone 6 = .ok (.ireturn, 1) := by decide +kernel
set_option maxRecDepth 20000 in
theorem ggX3_done_X1_hasCrane : GoodIn wsX3_done wsX1_hasCrane := goodIn_r _ [6, 7, 87] (by decide +kernel) (by decide +kernel)
set_option maxRecDepth 20000 in
theorem gX3_done_X1_hasCrane : GoodIn wsX3_done (wsV RX3 52 RX1 yX1_hasCrane wsX1_hasCrane) := goodIn_app (goodIn_of _ (by decide +kernel)) ggX3_done_X1_hasCrane
set_option maxRecDepth 20000 in
theorem ggX3_done_X3_ticksUntilDone : GoodIn wsX3_done wsX3_ticksUntilDone := goodIn_r _ [12, 13, 1, 14, 15, 16, 5, 17, 7, 18, 19, 20, 21, 22, 23, 24, 25, 26, 27, 28, 29, 30, 31, 32, 33, 34, 35, 36, 37, 38, 39, 40, 41, 42, 43, 44, 45, 46, 11, 47, 48, 49, 50, 51, 52, 53, 54, 55, 56, 57, 58, 59, 60, 61, 62, 63, 64, 65, 66, 67, 68, 69, 70, 71, 72, 73, 74, 75, 76, 77, 78, 79, 80, 81, 82, 83, 84, 85, 86, 87] (by decide +kernel) (by decide +kernel)
set_option maxRecDepth 20000 in
theorem gX3_done_X3_ticksUntilDone : GoodIn wsX3_done (wsV RX3 131 RX3 yX3_ticksUntilDone wsX3_ticksUntilDone) := goodIn_app (goodIn_of _ (by decide +kernel)) ggX3_done_X3_ticksUntilDone
theorem dX3_done_0 : decode cX3_done 0 = .ok (.aload_n 0, 1) := by decide +kernel
theorem dX3_done_1 : decode cX3_done 1 = .ok (.getfield 10, 3) := by decide +kernel
theorem dX3_done_4 : decode cX3_done 4 = .ok (.iload_n 1, 1) := by decide +kernel
theorem dX3_done_5 : decode cX3_done 5 = .ok (.invokevirtual 52, 3) := by decide +kernel
theorem dX3_done_8 : decode cX3_done 8 = .ok (.ifCond .ne 6, 3) := by decide +kernel
theorem dX3_done_11 : decode cX3_done 11 = .ok (.bipush (-101), 2) := by decide +kernel
theorem dX3_done_13 : decode cX3_done 13 = .ok (.ireturn, 1) := by decide +kernel
theorem dX3_done_14 : decode cX3_done 14 = .ok (.aload_n 0, 1) := by decide +kernel
theorem dX3_done_15 : decode cX3_done 15 = .ok (.iconst 1, 1) := by decide +kernel
theorem dX3_done_16 : decode cX3_done 16 = .ok (.iload_n 1, 1) := by decide +kernel
theorem dX3_done_17 : decode cX3_done 17 = .ok (.ishl, 1) := by decide +kernel
theorem dX3_done_18 : decode cX3_done 18 = .ok (.invokevirtual 131, 3) := by decide +kernel
theorem dX3_done_21 : decode cX3_done 21 = .ok (.ireturn, 1) := by decide +kernel
set_option maxRecDepth 20000 in
theorem ggX3_waits_X1_hasCrane : GoodIn wsX3_waits wsX1_hasCrane := goodIn_r _ [6, 7, 87] (by decide +kernel) (by decide +kernel)
set_option maxRecDepth 20000 in
theorem gX3_waits_X1_hasCrane : GoodIn wsX3_waits (wsV RX3 52 RX1 yX1_hasCrane wsX1_hasCrane) := goodIn_app (goodIn_of _ (by decide +kernel)) ggX3_waits_X1_hasCrane
set_option maxRecDepth 20000 in
theorem ggX3_waits_X3_foretoldWaits : GoodIn wsX3_waits wsX3_foretoldWaits := goodIn_r _ [12, 13, 1, 14, 15, 16, 5, 17, 7, 18, 19, 20, 21, 22, 23, 24, 25, 26, 27, 28, 29, 30, 31, 32, 33, 34, 35, 36, 37, 38, 39, 40, 41, 42, 11, 43, 44, 45, 46, 47, 48, 49, 50, 51, 52, 53, 54, 55, 56, 57, 58, 59, 60, 61, 62, 63, 64, 65, 66, 67, 68, 69, 70, 71, 72, 73, 74, 75, 76, 77, 78, 79, 80, 81, 82, 83, 84, 85, 86, 87] (by decide +kernel) (by decide +kernel)
set_option maxRecDepth 20000 in
theorem gX3_waits_X3_foretoldWaits : GoodIn wsX3_waits (wsV RX3 134 RX3 yX3_foretoldWaits wsX3_foretoldWaits) := goodIn_app (goodIn_of _ (by decide +kernel)) ggX3_waits_X3_foretoldWaits
theorem dX3_waits_0 : decode cX3_waits 0 = .ok (.aload_n 0, 1) := by decide +kernel
theorem dX3_waits_1 : decode cX3_waits 1 = .ok (.getfield 10, 3) := by decide +kernel
theorem dX3_waits_4 : decode cX3_waits 4 = .ok (.iload_n 1, 1) := by decide +kernel
theorem dX3_waits_5 : decode cX3_waits 5 = .ok (.invokevirtual 52, 3) := by decide +kernel
theorem dX3_waits_8 : decode cX3_waits 8 = .ok (.ifCond .ne 6, 3) := by decide +kernel
theorem dX3_waits_11 : decode cX3_waits 11 = .ok (.bipush (-101), 2) := by decide +kernel
theorem dX3_waits_13 : decode cX3_waits 13 = .ok (.ireturn, 1) := by decide +kernel
theorem dX3_waits_14 : decode cX3_waits 14 = .ok (.iload_n 2, 1) := by decide +kernel
theorem dX3_waits_15 : decode cX3_waits 15 = .ok (.iconst 1, 1) := by decide +kernel
theorem dX3_waits_16 : decode cX3_waits 16 = .ok (.if_icmp .lt 10, 3) := by decide +kernel
theorem dX3_waits_19 : decode cX3_waits 19 = .ok (.iload_n 2, 1) := by decide +kernel
theorem dX3_waits_20 : decode cX3_waits 20 = .ok (.sipush 1000, 3) := by decide +kernel
theorem dX3_waits_23 : decode cX3_waits 23 = .ok (.if_icmp .le 6, 3) := by decide +kernel
theorem dX3_waits_26 : decode cX3_waits 26 = .ok (.bipush (-102), 2) := by decide +kernel
theorem dX3_waits_28 : decode cX3_waits 28 = .ok (.ireturn, 1) := by decide +kernel
theorem dX3_waits_29 : decode cX3_waits 29 = .ok (.aload_n 0, 1) := by decide +kernel
theorem dX3_waits_30 : decode cX3_waits 30 = .ok (.iload_n 1, 1) := by decide +kernel
theorem dX3_waits_31 : decode cX3_waits 31 = .ok (.iload_n 2, 1) := by decide +kernel
theorem dX3_waits_32 : decode cX3_waits 32 = .ok (.invokevirtual 134, 3) := by decide +kernel
theorem dX3_waits_35 : decode cX3_waits 35 = .ok (.ireturn, 1) := by decide +kernel
set_option maxRecDepth 20000 in
theorem ggX3_setWind_X3_isAngle : GoodIn wsX3_setWind wsX3_isAngle := goodIn_r _ [6] (by decide +kernel) (by decide +kernel)
set_option maxRecDepth 20000 in
theorem gX3_setWind_X3_isAngle : GoodIn wsX3_setWind (va_wsS RX3 33 yX3_isAngle wsX3_isAngle) := goodIn_app (goodIn_of _ (by decide +kernel)) ggX3_setWind_X3_isAngle
set_option maxRecDepth 20000 in
theorem ggX3_setWind_X0_keep : GoodIn wsX3_setWind wsX0_keep := goodIn_r _ [11, 12, 13, 14, 15, 16, 17, 18, 19, 20, 21, 22, 23, 24, 25, 26, 27, 28, 37, 38, 39, 40] (by decide +kernel) (by decide +kernel)
set_option maxRecDepth 20000 in
theorem gX3_setWind_X0_keep : GoodIn wsX3_setWind (wsV RX3 44 RX0 yX0_keep wsX0_keep) := goodIn_app (goodIn_of _ (by decide +kernel)) ggX3_setWind_X0_keep
set_option maxRecDepth 20000 in
theorem ggX3_setWind_X1_changeWind : GoodIn wsX3_setWind wsX1_changeWind := goodIn_r _ [32, 24, 40] (by decide +kernel) (by decide +kernel)
set_option maxRecDepth 20000 in
theorem gX3_setWind_X1_changeWind : GoodIn wsX3_setWind (wsV RX3 137 RX1 yX1_changeWind wsX1_changeWind) := goodIn_app (goodIn_of _ (by decide +kernel)) ggX3_setWind_X1_changeWind
theorem dX3_setWind_0 : decode cX3_setWind 0 = .ok (.iload_n 1, 1) := by decide +kernel
theorem dX3_setWind_1 : decode cX3_setWind 1 = .ok (.invokestatic 33, 3) := by decide +kernel
theorem dX3_setWind_4 : decode cX3_setWind 4 = .ok (.ifCond .ne 6, 3) := by decide +kernel
theorem dX3_setWind_7 : decode cX3_setWind 7 = .ok (.bipush (-102), 2) := by decide +kernel
theorem dX3_setWind_9 : decode cX3_setWind 9 = .ok (.ireturn, 1) := by decide +kernel
theorem dX3_setWind_10 : decode cX3_setWind 10 = .ok (.aload_n 0, 1) := by decide +kernel
theorem dX3_setWind_11 : decode cX3_setWind 11 = .ok (.getfield 22, 3) := by decide +kernel
theorem dX3_setWind_14 : decode cX3_setWind 14 = .ok (.aload_n 0, 1) := by decide +kernel
theorem dX3_setWind_15 : decode cX3_setWind 15 = .ok (.getfield 10, 3) := by decide +kernel
theorem dX3_setWind_18 : decode cX3_setWind 18 = .ok (.invokevirtual 44, 3) := by decide +kernel
theorem dX3_setWind_21 : decode cX3_setWind 21 = .ok (.aload_n 0, 1) := by decide +kernel
theorem dX3_setWind_22 : decode cX3_setWind 22 = .ok (.getfield 10, 3) := by decide +kernel
theorem dX3_setWind_25 : decode cX3_setWind 25 = .ok (.iload_n 1, 1) := by decide +kernel
theorem dX3_setWind_26 : decode cX3_setWind 26 = .ok (.invokevirtual 137, 3) := by decide +kernel
theorem dX3_setWind_29 : decode cX3_setWind 29 = .ok (.ireturn, 1) := by decide +kernel
set_option maxRecDepth 20000 in
theorem ggX3_leave_X1_hasCrane : GoodIn wsX3_leave wsX1_hasCrane := goodIn_r _ [7, 8, 74] (by decide +kernel) (by decide +kernel)
set_option maxRecDepth 20000 in
theorem gX3_leave_X1_hasCrane : GoodIn wsX3_leave (wsV RX3 52 RX1 yX1_hasCrane wsX1_hasCrane) := goodIn_app (goodIn_of _ (by decide +kernel)) ggX3_leave_X1_hasCrane
set_option maxRecDepth 20000 in
theorem ggX3_leave_X1_isLeft : GoodIn wsX3_leave wsX1_isLeft := goodIn_r _ [12, 8, 74] (by decide +kernel) (by decide +kernel)
set_option maxRecDepth 20000 in
theorem gX3_leave_X1_isLeft : GoodIn wsX3_leave (wsV RX3 62 RX1 yX1_isLeft wsX1_isLeft) := goodIn_app (goodIn_of _ (by decide +kernel)) ggX3_leave_X1_isLeft
set_option maxRecDepth 20000 in
theorem ggX3_leave_X1_canBeLeft : GoodIn wsX3_leave wsX1_canBeLeft := goodIn_r _ [16, 8, 17, 18, 19, 6, 20, 21, 22, 23, 24, 25, 10, 11, 12, 26, 27, 28, 29, 30, 31, 32, 33, 34, 35, 36, 37, 74] (by decide +kernel) (by decide +kernel)
set_option maxRecDepth 20000 in
theorem gX3_leave_X1_canBeLeft : GoodIn wsX3_leave (wsV RX3 140 RX1 yX1_canBeLeft wsX1_canBeLeft) := goodIn_app (goodIn_of _ (by decide +kernel)) ggX3_leave_X1_canBeLeft
set_option maxRecDepth 20000 in
theorem ggX3_leave_X0_keep : GoodIn wsX3_leave wsX0_keep := goodIn_r _ [42, 43, 44, 45, 46, 47, 48, 49, 50, 51, 52, 6, 53, 8, 54, 55, 56, 57, 75, 76, 77, 74] (by decide +kernel) (by decide +kernel)
set_option maxRecDepth 20000 in
theorem gX3_leave_X0_keep : GoodIn wsX3_leave (wsV RX3 44 RX0 yX0_keep wsX0_keep) := goodIn_app (goodIn_of _ (by decide +kernel)) ggX3_leave_X0_keep
set_option maxRecDepth 20000 in
theorem ggX3_leave_X1_leaveToWind : GoodIn wsX3_leave wsX1_leaveToWind := goodIn_r _ [61, 8, 62, 63, 64, 6, 65, 74] (by decide +kernel) (by decide +kernel)
set_option maxRecDepth 20000 in
theorem gX3_leave_X1_leaveToWind : GoodIn wsX3_leave (wsV RX3 143 RX1 yX1_leaveToWind wsX1_leaveToWind) := goodIn_app (goodIn_of _ (by decide +kernel)) ggX3_leave_X1_leaveToWind
set_option maxRecDepth 20000 in
theorem ggX3_leave_X1_takeBack : GoodIn wsX3_leave wsX1_takeBack := goodIn_r _ [69, 8, 74] (by decide +kernel) (by decide +kernel)
set_option maxRecDepth 20000 in
theorem gX3_leave_X1_takeBack : GoodIn wsX3_leave (wsV RX3 147 RX1 yX1_takeBack wsX1_takeBack) := goodIn_app (goodIn_of _ (by decide +kernel)) ggX3_leave_X1_takeBack
theorem dX3_leave_0 : decode cX3_leave 0 = .ok (.aload_n 0, 1) := by decide +kernel
theorem dX3_leave_1 : decode cX3_leave 1 = .ok (.getfield 10, 3) := by decide +kernel
theorem dX3_leave_4 : decode cX3_leave 4 = .ok (.iload_n 1, 1) := by decide +kernel
theorem dX3_leave_5 : decode cX3_leave 5 = .ok (.invokevirtual 52, 3) := by decide +kernel
theorem dX3_leave_8 : decode cX3_leave 8 = .ok (.ifCond .ne 6, 3) := by decide +kernel
theorem dX3_leave_11 : decode cX3_leave 11 = .ok (.bipush (-101), 2) := by decide +kernel
theorem dX3_leave_13 : decode cX3_leave 13 = .ok (.ireturn, 1) := by decide +kernel
theorem dX3_leave_14 : decode cX3_leave 14 = .ok (.aload_n 0, 1) := by decide +kernel
theorem dX3_leave_15 : decode cX3_leave 15 = .ok (.getfield 10, 3) := by decide +kernel
theorem dX3_leave_18 : decode cX3_leave 18 = .ok (.iload_n 1, 1) := by decide +kernel
theorem dX3_leave_19 : decode cX3_leave 19 = .ok (.invokevirtual 62, 3) := by decide +kernel
theorem dX3_leave_22 : decode cX3_leave 22 = .ok (.istore_n 3, 1) := by decide +kernel
theorem dX3_leave_23 : decode cX3_leave 23 = .ok (.iload_n 2, 1) := by decide +kernel
theorem dX3_leave_24 : decode cX3_leave 24 = .ok (.ifCond .eq 21, 3) := by decide +kernel
theorem dX3_leave_27 : decode cX3_leave 27 = .ok (.iload_n 3, 1) := by decide +kernel
theorem dX3_leave_28 : decode cX3_leave 28 = .ok (.ifCond .ne 17, 3) := by decide +kernel
theorem dX3_leave_31 : decode cX3_leave 31 = .ok (.aload_n 0, 1) := by decide +kernel
theorem dX3_leave_32 : decode cX3_leave 32 = .ok (.getfield 10, 3) := by decide +kernel
theorem dX3_leave_35 : decode cX3_leave 35 = .ok (.iload_n 1, 1) := by decide +kernel
theorem dX3_leave_36 : decode cX3_leave 36 = .ok (.invokevirtual 140, 3) := by decide +kernel
theorem dX3_leave_39 : decode cX3_leave 39 = .ok (.ifCond .ne 6, 3) := by decide +kernel
theorem dX3_leave_42 : decode cX3_leave 42 = .ok (.bipush (-103), 2) := by decide +kernel
theorem dX3_leave_44 : decode cX3_leave 44 = .ok (.ireturn, 1) := by decide +kernel
theorem dX3_leave_45 : decode cX3_leave 45 = .ok (.aload_n 0, 1) := by decide +kernel
theorem dX3_leave_46 : decode cX3_leave 46 = .ok (.getfield 22, 3) := by decide +kernel
theorem dX3_leave_49 : decode cX3_leave 49 = .ok (.aload_n 0, 1) := by decide +kernel
theorem dX3_leave_50 : decode cX3_leave 50 = .ok (.getfield 10, 3) := by decide +kernel
theorem dX3_leave_53 : decode cX3_leave 53 = .ok (.invokevirtual 44, 3) := by decide +kernel
theorem dX3_leave_56 : decode cX3_leave 56 = .ok (.iload_n 2, 1) := by decide +kernel
theorem dX3_leave_57 : decode cX3_leave 57 = .ok (.ifCond .eq 14, 3) := by decide +kernel
theorem dX3_leave_60 : decode cX3_leave 60 = .ok (.aload_n 0, 1) := by decide +kernel
theorem dX3_leave_61 : decode cX3_leave 61 = .ok (.getfield 10, 3) := by decide +kernel
theorem dX3_leave_64 : decode cX3_leave 64 = .ok (.iload_n 1, 1) := by decide +kernel
theorem dX3_leave_65 : decode cX3_leave 65 = .ok (.invokevirtual 143, 3) := by decide +kernel
theorem dX3_leave_68 : decode cX3_leave 68 = .ok (.goto 11, 3) := by decide +kernel
theorem dX3_leave_71 : decode cX3_leave 71 = .ok (.aload_n 0, 1) := by decide +kernel
theorem dX3_leave_72 : decode cX3_leave 72 = .ok (.getfield 10, 3) := by decide +kernel
theorem dX3_leave_75 : decode cX3_leave 75 = .ok (.iload_n 1, 1) := by decide +kernel
theorem dX3_leave_76 : decode cX3_leave 76 = .ok (.invokevirtual 147, 3) := by decide +kernel
theorem dX3_leave_79 : decode cX3_leave 79 = .ok (.iload_n 3, 1) := by decide +kernel
theorem dX3_leave_80 : decode cX3_leave 80 = .ok (.ifCond .eq 7, 3) := by decide +kernel
theorem dX3_leave_83 : decode cX3_leave 83 = .ok (.iconst 1, 1) := by decide +kernel
theorem dX3_leave_84 : decode cX3_leave 84 = .ok (.goto 4, 3) := by decide +kernel
theorem dX3_leave_87 : decode cX3_leave 87 = .ok (.iconst 0, 1) := by decide +kernel
theorem dX3_leave_88 : decode cX3_leave 88 = .ok (.ireturn, 1) := by decide +kernel
set_option maxRecDepth 20000 in
theorem ggX3_override_X1_hasCrane : GoodIn wsX3_override wsX1_hasCrane := goodIn_r _ [7, 8, 97] (by decide +kernel) (by decide +kernel)
set_option maxRecDepth 20000 in
theorem gX3_override_X1_hasCrane : GoodIn wsX3_override (wsV RX3 52 RX1 yX1_hasCrane wsX1_hasCrane) := goodIn_app (goodIn_of _ (by decide +kernel)) ggX3_override_X1_hasCrane
set_option maxRecDepth 20000 in
theorem ggX3_override_X1_hasTarget : GoodIn wsX3_override wsX1_hasTarget := goodIn_r _ [12, 8, 97] (by decide +kernel) (by decide +kernel)
set_option maxRecDepth 20000 in
theorem gX3_override_X1_hasTarget : GoodIn wsX3_override (wsV RX3 108 RX1 yX1_hasTarget wsX1_hasTarget) := goodIn_app (goodIn_of _ (by decide +kernel)) ggX3_override_X1_hasTarget
set_option maxRecDepth 20000 in
theorem ggX3_override_X1_isOnStep : GoodIn wsX3_override wsX1_isOnStep := goodIn_r _ [16, 8, 97] (by decide +kernel) (by decide +kernel)
set_option maxRecDepth 20000 in
theorem gX3_override_X1_isOnStep : GoodIn wsX3_override (wsV RX3 102 RX1 yX1_isOnStep wsX1_isOnStep) := goodIn_app (goodIn_of _ (by decide +kernel)) ggX3_override_X1_isOnStep
set_option maxRecDepth 20000 in
theorem ggX3_override_X1_noteCount : GoodIn wsX3_override wsX1_noteCount := goodIn_r _ [20, 8, 97] (by decide +kernel) (by decide +kernel)
set_option maxRecDepth 20000 in
theorem gX3_override_X1_noteCount : GoodIn wsX3_override (wsV RX3 150 RX1 yX1_noteCount wsX1_noteCount) := goodIn_app (goodIn_of _ (by decide +kernel)) ggX3_override_X1_noteCount
set_option maxRecDepth 20000 in
theorem ggX3_override_X0_keep : GoodIn wsX3_override wsX0_keep := goodIn_r _ [25, 26, 27, 28, 29, 30, 31, 32, 33, 34, 35, 6, 36, 8, 37, 38, 39, 40, 98, 99, 100, 97] (by decide +kernel) (by decide +kernel)
set_option maxRecDepth 20000 in
theorem gX3_override_X0_keep : GoodIn wsX3_override (wsV RX3 44 RX0 yX0_keep wsX0_keep) := goodIn_app (goodIn_of _ (by decide +kernel)) ggX3_override_X0_keep
set_option maxRecDepth 20000 in
theorem ggX3_override_X1_endStep : GoodIn wsX3_override wsX1_endStep := goodIn_r _ [44, 8, 45, 46, 47, 6, 48, 49, 50, 51, 52, 97] (by decide +kernel) (by decide +kernel)
set_option maxRecDepth 20000 in
theorem gX3_override_X1_endStep : GoodIn wsX3_override (wsV RX3 153 RX1 yX1_endStep wsX1_endStep) := goodIn_app (goodIn_of _ (by decide +kernel)) ggX3_override_X1_endStep
set_option maxRecDepth 20000 in
theorem ggX3_override_X1_conflictSet : GoodIn wsX3_override wsX1_conflictSet := goodIn_r _ [56, 57, 58, 59, 6, 60, 61, 62, 63, 64, 8, 65, 66, 67, 68, 69, 70, 71, 72, 73, 74, 75, 76, 77, 78, 79, 80, 81, 14, 15, 16, 45, 46, 47, 48, 82, 83, 84, 85, 86, 87, 88, 97] (by decide +kernel) (by decide +kernel)
set_option maxRecDepth 20000 in
theorem gX3_override_X1_conflictSet : GoodIn wsX3_override (wsV RX3 93 RX1 yX1_conflictSet wsX1_conflictSet) := goodIn_app (goodIn_of _ (by decide +kernel)) ggX3_override_X1_conflictSet
set_option maxRecDepth 20000 in
theorem ggX3_override_X1_putNote : GoodIn wsX3_override wsX1_putNote := goodIn_r _ [92, 8, 97] (by decide +kernel) (by decide +kernel)
set_option maxRecDepth 20000 in
theorem gX3_override_X1_putNote : GoodIn wsX3_override (wsV RX3 156 RX1 yX1_putNote wsX1_putNote) := goodIn_app (goodIn_of _ (by decide +kernel)) ggX3_override_X1_putNote
theorem dX3_override_0 : decode cX3_override 0 = .ok (.aload_n 0, 1) := by decide +kernel
theorem dX3_override_1 : decode cX3_override 1 = .ok (.getfield 10, 3) := by decide +kernel
theorem dX3_override_4 : decode cX3_override 4 = .ok (.iload_n 1, 1) := by decide +kernel
theorem dX3_override_5 : decode cX3_override 5 = .ok (.invokevirtual 52, 3) := by decide +kernel
theorem dX3_override_8 : decode cX3_override 8 = .ok (.ifCond .ne 6, 3) := by decide +kernel
theorem dX3_override_11 : decode cX3_override 11 = .ok (.bipush (-101), 2) := by decide +kernel
theorem dX3_override_13 : decode cX3_override 13 = .ok (.ireturn, 1) := by decide +kernel
theorem dX3_override_14 : decode cX3_override 14 = .ok (.iload_n 2, 1) := by decide +kernel
theorem dX3_override_15 : decode cX3_override 15 = .ok (.iconst 1, 1) := by decide +kernel
theorem dX3_override_16 : decode cX3_override 16 = .ok (.if_icmp .lt 9, 3) := by decide +kernel
theorem dX3_override_19 : decode cX3_override 19 = .ok (.iload_n 2, 1) := by decide +kernel
theorem dX3_override_20 : decode cX3_override 20 = .ok (.bipush 9, 2) := by decide +kernel
theorem dX3_override_22 : decode cX3_override 22 = .ok (.if_icmp .le 6, 3) := by decide +kernel
theorem dX3_override_25 : decode cX3_override 25 = .ok (.bipush (-102), 2) := by decide +kernel
theorem dX3_override_27 : decode cX3_override 27 = .ok (.ireturn, 1) := by decide +kernel
theorem dX3_override_28 : decode cX3_override 28 = .ok (.aload_n 0, 1) := by decide +kernel
theorem dX3_override_29 : decode cX3_override 29 = .ok (.getfield 10, 3) := by decide +kernel
theorem dX3_override_32 : decode cX3_override 32 = .ok (.iload_n 1, 1) := by decide +kernel
theorem dX3_override_33 : decode cX3_override 33 = .ok (.invokevirtual 108, 3) := by decide +kernel
theorem dX3_override_36 : decode cX3_override 36 = .ok (.ifCond .eq 14, 3) := by decide +kernel
theorem dX3_override_39 : decode cX3_override 39 = .ok (.aload_n 0, 1) := by decide +kernel
theorem dX3_override_40 : decode cX3_override 40 = .ok (.getfield 10, 3) := by decide +kernel
theorem dX3_override_43 : decode cX3_override 43 = .ok (.iload_n 1, 1) := by decide +kernel
theorem dX3_override_44 : decode cX3_override 44 = .ok (.invokevirtual 102, 3) := by decide +kernel
theorem dX3_override_47 : decode cX3_override 47 = .ok (.ifCond .eq 6, 3) := by decide +kernel
theorem dX3_override_50 : decode cX3_override 50 = .ok (.bipush (-103), 2) := by decide +kernel
theorem dX3_override_52 : decode cX3_override 52 = .ok (.ireturn, 1) := by decide +kernel
theorem dX3_override_53 : decode cX3_override 53 = .ok (.aload_n 0, 1) := by decide +kernel
theorem dX3_override_54 : decode cX3_override 54 = .ok (.getfield 10, 3) := by decide +kernel
theorem dX3_override_57 : decode cX3_override 57 = .ok (.invokevirtual 150, 3) := by decide +kernel
theorem dX3_override_60 : decode cX3_override 60 = .ok (.bipush 10, 2) := by decide +kernel
theorem dX3_override_62 : decode cX3_override 62 = .ok (.if_icmp .lt 6, 3) := by decide +kernel
theorem dX3_override_65 : decode cX3_override 65 = .ok (.bipush (-104), 2) := by decide +kernel
theorem dX3_override_67 : decode cX3_override 67 = .ok (.ireturn, 1) := by decide +kernel
theorem dX3_override_68 : decode cX3_override 68 = .ok (.aload_n 0, 1) := by decide +kernel
theorem dX3_override_69 : decode cX3_override 69 = .ok (.getfield 22, 3) := by decide +kernel
theorem dX3_override_72 : decode cX3_override 72 = .ok (.aload_n 0, 1) := by decide +kernel
theorem dX3_override_73 : decode cX3_override 73 = .ok (.getfield 10, 3) := by decide +kernel
theorem dX3_override_76 : decode cX3_override 76 = .ok (.invokevirtual 44, 3) := by decide +kernel
theorem dX3_override_79 : decode cX3_override 79 = .ok (.aload_n 0, 1) := by decide +kernel
theorem dX3_override_80 : decode cX3_override 80 = .ok (.getfield 10, 3) := by decide +kernel
theorem dX3_override_83 : decode cX3_override 83 = .ok (.iload_n 1, 1) := by decide +kernel
theorem dX3_override_84 : decode cX3_override 84 = .ok (.invokevirtual 153, 3) := by decide +kernel
theorem dX3_override_87 : decode cX3_override 87 = .ok (.aload_n 0, 1) := by decide +kernel
theorem dX3_override_88 : decode cX3_override 88 = .ok (.getfield 10, 3) := by decide +kernel
theorem dX3_override_91 : decode cX3_override 91 = .ok (.invokevirtual 93, 3) := by decide +kernel
theorem dX3_override_94 : decode cX3_override 94 = .ok (.istore_n 3, 1) := by decide +kernel
theorem dX3_override_95 : decode cX3_override 95 = .ok (.aload_n 0, 1) := by decide +kernel
theorem dX3_override_96 : decode cX3_override 96 = .ok (.getfield 10, 3) := by decide +kernel
theorem dX3_override_99 : decode cX3_override 99 = .ok (.iload_n 1, 1) := by decide +kernel
theorem dX3_override_100 : decode cX3_override 100 = .ok (.iload_n 2, 1) := by decide +kernel
theorem dX3_override_101 : decode cX3_override 101 = .ok (.iload_n 3, 1) := by decide +kernel
theorem dX3_override_102 : decode cX3_override 102 = .ok (.invokevirtual 156, 3) := by decide +kernel
theorem dX3_override_105 : decode cX3_override 105 = .ok (.iload_n 3, 1) := by decide +kernel
theorem dX3_override_106 : decode cX3_override 106 = .ok (.ireturn, 1) := by decide +kernel
set_option maxRecDepth 20000 in
theorem ggX3_notes_X1_noteCount : GoodIn wsX3_notes wsX1_noteCount := goodIn_r _ [6, 7, 12] (by decide +kernel) (by decide +kernel)
set_option maxRecDepth 20000 in
theorem gX3_notes_X1_noteCount : GoodIn wsX3_notes (wsV RX3 150 RX1 yX1_noteCount wsX1_noteCount) := goodIn_app (goodIn_of _ (by decide +kernel)) ggX3_notes_X1_noteCount
theorem dX3_notes_0 : decode cX3_notes 0 = .ok (.aload_n 0, 1) := by decide +kernel
theorem dX3_notes_1 : decode cX3_notes 1 = .ok (.getfield 10, 3) := by decide +kernel
theorem dX3_notes_4 : decode cX3_notes 4 = .ok (.invokevirtual 150, 3) := by decide +kernel
theorem dX3_notes_7 : decode cX3_notes 7 = .ok (.ireturn, 1) := by decide +kernel
set_option maxRecDepth 20000 in
theorem ggX3_note_X1_noteCount : GoodIn wsX3_note wsX1_noteCount := goodIn_r _ [6, 7, 16] (by decide +kernel) (by decide +kernel)
set_option maxRecDepth 20000 in
theorem gX3_note_X1_noteCount : GoodIn wsX3_note (wsV RX3 150 RX1 yX1_noteCount wsX1_noteCount) := goodIn_app (goodIn_of _ (by decide +kernel)) ggX3_note_X1_noteCount
set_option maxRecDepth 20000 in
theorem ggX3_note_X1_partOfNote : GoodIn wsX3_note wsX1_partOfNote := goodIn_r _ [11, 7, 16] (by decide +kernel) (by decide +kernel)
set_option maxRecDepth 20000 in
theorem gX3_note_X1_partOfNote : GoodIn wsX3_note (wsV RX3 160 RX1 yX1_partOfNote wsX1_partOfNote) := goodIn_app (goodIn_of _ (by decide +kernel)) ggX3_note_X1_partOfNote
theorem dX3_note_0 : decode cX3_note 0 = .ok (.iload_n 1, 1) := by decide +kernel
theorem dX3_note_1 : decode cX3_note 1 = .ok (.ifCond .lt 14, 3) := by decide +kernel
theorem dX3_note_4 : decode cX3_note 4 = .ok (.iload_n 1, 1) := by decide +kernel
theorem dX3_note_5 : decode cX3_note 5 = .ok (.aload_n 0, 1) := by decide +kernel
theorem dX3_note_6 : decode cX3_note 6 = .ok (.getfield 10, 3) := by decide +kernel
theorem dX3_note_9 : decode cX3_note 9 = .ok (.invokevirtual 150, 3) := by decide +kernel
theorem dX3_note_12 : decode cX3_note 12 = .ok (.if_icmp .lt 6, 3) := by decide +kernel
theorem dX3_note_15 : decode cX3_note 15 = .ok (.bipush (-101), 2) := by decide +kernel
theorem dX3_note_17 : decode cX3_note 17 = .ok (.ireturn, 1) := by decide +kernel
theorem dX3_note_18 : decode cX3_note 18 = .ok (.iload_n 2, 1) := by decide +kernel
theorem dX3_note_19 : decode cX3_note 19 = .ok (.ifCond .lt 8, 3) := by decide +kernel
theorem dX3_note_22 : decode cX3_note 22 = .ok (.iload_n 2, 1) := by decide +kernel
theorem dX3_note_23 : decode cX3_note 23 = .ok (.iconst 4, 1) := by decide +kernel
theorem dX3_note_24 : decode cX3_note 24 = .ok (.if_icmp .lt 6, 3) := by decide +kernel
theorem dX3_note_27 : decode cX3_note 27 = .ok (.bipush (-102), 2) := by decide +kernel
theorem dX3_note_29 : decode cX3_note 29 = .ok (.ireturn, 1) := by decide +kernel
theorem dX3_note_30 : decode cX3_note 30 = .ok (.aload_n 0, 1) := by decide +kernel
theorem dX3_note_31 : decode cX3_note 31 = .ok (.getfield 10, 3) := by decide +kernel
theorem dX3_note_34 : decode cX3_note 34 = .ok (.iload_n 1, 1) := by decide +kernel
theorem dX3_note_35 : decode cX3_note 35 = .ok (.iload_n 2, 1) := by decide +kernel
theorem dX3_note_36 : decode cX3_note 36 = .ok (.invokevirtual 160, 3) := by decide +kernel
theorem dX3_note_39 : decode cX3_note 39 = .ok (.ireturn, 1) := by decide +kernel
set_option maxRecDepth 20000 in
theorem ggX3_clearNotes_X0_keep : GoodIn wsX3_clearNotes wsX0_keep := goodIn_r _ [7, 8, 9, 10, 11, 12, 13, 14, 15, 16, 17, 18, 19, 20, 21, 22, 23, 24, 33, 34, 35, 36] (by decide +kernel) (by decide +kernel)
set_option maxRecDepth 20000 in
theorem gX3_clearNotes_X0_keep : GoodIn wsX3_clearNotes (wsV RX3 44 RX0 yX0_keep wsX0_keep) := goodIn_app (goodIn_of _ (by decide +kernel)) ggX3_clearNotes_X0_keep
set_option maxRecDepth 20000 in
theorem ggX3_clearNotes_X1_dropNotes : GoodIn wsX3_clearNotes wsX1_dropNotes := goodIn_r _ [28, 20, 36] (by decide +kernel) (by decide +kernel)
set_option maxRecDepth 20000 in
theorem gX3_clearNotes_X1_dropNotes : GoodIn wsX3_clearNotes (wsV RX3 163 RX1 yX1_dropNotes wsX1_dropNotes) := goodIn_app (goodIn_of _ (by decide +kernel)) ggX3_clearNotes_X1_dropNotes
theorem dX3_clearNotes_0 : decode cX3_clearNotes 0 = .ok (.aload_n 0, 1) := by decide +kernel
theorem dX3_clearNotes_1 : decode cX3_clearNotes 1 = .ok (.getfield 22, 3) := by decide +kernel
theorem dX3_clearNotes_4 : decode cX3_clearNotes 4 = .ok (.aload_n 0, 1) := by decide +kernel
theorem dX3_clearNotes_5 : decode cX3_clearNotes 5 = .ok (.getfield 10, 3) := by decide +kernel
theorem dX3_clearNotes_8 : decode cX3_clearNotes 8 = .ok (.invokevirtual 44, 3) := by decide +kernel
theorem dX3_clearNotes_11 : decode cX3_clearNotes 11 = .ok (.aload_n 0, 1) := by decide +kernel
theorem dX3_clearNotes_12 : decode cX3_clearNotes 12 = .ok (.getfield 10, 3) := by decide +kernel
theorem dX3_clearNotes_15 : decode cX3_clearNotes 15 = .ok (.invokevirtual 163, 3) := by decide +kernel
theorem dX3_clearNotes_18 : decode cX3_clearNotes 18 = .ok (.ireturn, 1) := by decide +kernel
set_option maxRecDepth 20000 in
theorem ggX3_undo_X0_isEmpty : GoodIn wsX3_undo wsX0_isEmpty := goodIn_r _ [7, 8, 29, 30, 31] (by decide +kernel) (by decide +kernel)
set_option maxRecDepth 20000 in
theorem gX3_undo_X0_isEmpty : GoodIn wsX3_undo (wsV RX3 166 RX0 yX0_isEmpty wsX0_isEmpty) := goodIn_app (goodIn_of _ (by decide +kernel)) ggX3_undo_X0_isEmpty
set_option maxRecDepth 20000 in
theorem ggX3_undo_X0_restore : GoodIn wsX3_undo wsX0_restore := goodIn_r _ [12, 13, 8, 14, 15, 16, 17, 18, 19, 20, 21, 22, 23, 24, 29, 30, 31, 32] (by decide +kernel) (by decide +kernel)
set_option maxRecDepth 20000 in
theorem gX3_undo_X0_restore : GoodIn wsX3_undo (wsV RX3 169 RX0 yX0_restore wsX0_restore) := goodIn_app (goodIn_of _ (by decide +kernel)) ggX3_undo_X0_restore
theorem dX3_undo_0 : decode cX3_undo 0 = .ok (.aload_n 0, 1) := by decide +kernel
theorem dX3_undo_1 : decode cX3_undo 1 = .ok (.getfield 22, 3) := by decide +kernel
theorem dX3_undo_4 : decode cX3_undo 4 = .ok (.invokevirtual 166, 3) := by decide +kernel
theorem dX3_undo_7 : decode cX3_undo 7 = .ok (.ifCond .eq 6, 3) := by decide +kernel
theorem dX3_undo_10 : decode cX3_undo 10 = .ok (.bipush (-103), 2) := by decide +kernel
theorem dX3_undo_12 : decode cX3_undo 12 = .ok (.ireturn, 1) := by decide +kernel
theorem dX3_undo_13 : decode cX3_undo 13 = .ok (.aload_n 0, 1) := by decide +kernel
theorem dX3_undo_14 : decode cX3_undo 14 = .ok (.getfield 22, 3) := by decide +kernel
theorem dX3_undo_17 : decode cX3_undo 17 = .ok (.aload_n 0, 1) := by decide +kernel
theorem dX3_undo_18 : decode cX3_undo 18 = .ok (.getfield 10, 3) := by decide +kernel
theorem dX3_undo_21 : decode cX3_undo 21 = .ok (.invokevirtual 169, 3) := by decide +kernel
theorem dX3_undo_24 : decode cX3_undo 24 = .ok (.ireturn, 1) := by decide +kernel
set_option maxRecDepth 20000 in
theorem ggX3_type_X2_isFull : GoodIn wsX3_type wsX2_isFull := goodIn_r _ [6, 7, 17, 18, 19, 20, 21, 22, 23] (by decide +kernel) (by decide +kernel)
set_option maxRecDepth 20000 in
theorem gX3_type_X2_isFull : GoodIn wsX3_type (wsV RX3 173 RX2 yX2_isFull wsX2_isFull) := goodIn_app (goodIn_of _ (by decide +kernel)) ggX3_type_X2_isFull
set_option maxRecDepth 20000 in
theorem ggX3_type_X2_append : GoodIn wsX3_type wsX2_append := goodIn_r _ [11, 12, 7, 17, 18, 19, 20, 21, 22, 23] (by decide +kernel) (by decide +kernel)
set_option maxRecDepth 20000 in
theorem gX3_type_X2_append : GoodIn wsX3_type (wsV RX3 176 RX2 yX2_append wsX2_append) := goodIn_app (goodIn_of _ (by decide +kernel)) ggX3_type_X2_append
theorem dX3_type_0 : decode cX3_type 0 = .ok (.iload_n 1, 1) := by decide +kernel
theorem dX3_type_1 : decode cX3_type 1 = .ok (.ifCond .lt 10, 3) := by decide +kernel
theorem dX3_type_4 : decode cX3_type 4 = .ok (.iload_n 1, 1) := by decide +kernel
theorem dX3_type_5 : decode cX3_type 5 = .ok (.sipush 255, 3) := by decide +kernel
theorem dX3_type_8 : decode cX3_type 8 = .ok (.if_icmp .le 6, 3) := by decide +kernel
theorem dX3_type_11 : decode cX3_type 11 = .ok (.bipush (-102), 2) := by decide +kernel
theorem dX3_type_13 : decode cX3_type 13 = .ok (.ireturn, 1) := by decide +kernel
theorem dX3_type_14 : decode cX3_type 14 = .ok (.aload_n 0, 1) := by decide +kernel
theorem dX3_type_15 : decode cX3_type 15 = .ok (.getfield 29, 3) := by decide +kernel
theorem dX3_type_18 : decode cX3_type 18 = .ok (.invokevirtual 173, 3) := by decide +kernel
theorem dX3_type_21 : decode cX3_type 21 = .ok (.ifCond .eq 6, 3) := by decide +kernel
theorem dX3_type_24 : decode cX3_type 24 = .ok (.bipush (-104), 2) := by decide +kernel
theorem dX3_type_26 : decode cX3_type 26 = .ok (.ireturn, 1) := by decide +kernel
theorem dX3_type_27 : decode cX3_type 27 = .ok (.aload_n 0, 1) := by decide +kernel
theorem dX3_type_28 : decode cX3_type 28 = .ok (.getfield 29, 3) := by decide +kernel
theorem dX3_type_31 : decode cX3_type 31 = .ok (.iload_n 1, 1) := by decide +kernel
theorem dX3_type_32 : decode cX3_type 32 = .ok (.invokevirtual 176, 3) := by decide +kernel
theorem dX3_type_35 : decode cX3_type 35 = .ok (.ireturn, 1) := by decide +kernel
set_option maxRecDepth 20000 in
theorem ggX3_clearText_X2_empty : GoodIn wsX3_clearText wsX2_empty := goodIn_r _ [6, 7, 12, 13, 14, 15, 16, 17, 18] (by decide +kernel) (by decide +kernel)
set_option maxRecDepth 20000 in
theorem gX3_clearText_X2_empty : GoodIn wsX3_clearText (wsV RX3 179 RX2 yX2_empty wsX2_empty) := goodIn_app (goodIn_of _ (by decide +kernel)) ggX3_clearText_X2_empty
theorem dX3_clearText_0 : decode cX3_clearText 0 = .ok (.aload_n 0, 1) := by decide +kernel
theorem dX3_clearText_1 : decode cX3_clearText 1 = .ok (.getfield 29, 3) := by decide +kernel
theorem dX3_clearText_4 : decode cX3_clearText 4 = .ok (.invokevirtual 179, 3) := by decide +kernel
theorem dX3_clearText_7 : decode cX3_clearText 7 = .ok (.ireturn, 1) := by decide +kernel
set_option maxRecDepth 20000 in
theorem ggX3_textFault_X2_read : GoodIn wsX3_textFault wsX2_read := goodIn_r _ [7, 8, 9, 10, 11, 12, 6, 13, 14, 15, 16, 17, 18, 19, 20, 21, 22, 23, 24, 25, 26, 27, 28, 29, 30, 31, 32, 33, 34, 35, 36, 37, 38, 39, 40, 41, 42, 43, 44, 45, 46, 47, 48, 49, 50, 51, 52, 53, 54, 55, 60, 61, 62, 63, 64, 65, 66, 67] (by decide +kernel) (by decide +kernel)
set_option maxRecDepth 20000 in
theorem gX3_textFault_X2_read : GoodIn wsX3_textFault (wsV RX3 182 RX2 yX2_read wsX2_read) := goodIn_app (goodIn_of _ (by decide +kernel)) ggX3_textFault_X2_read
theorem dX3_textFault_0 : decode cX3_textFault 0 = .ok (.aload_n 0, 1) := by decide +kernel
theorem dX3_textFault_1 : decode cX3_textFault 1 = .ok (.getfield 29, 3) := by decide +kernel
theorem dX3_textFault_4 : decode cX3_textFault 4 = .ok (.aload_n 0, 1) := by decide +kernel
theorem dX3_textFault_5 : decode cX3_textFault 5 = .ok (.getfield 10, 3) := by decide +kernel
theorem dX3_textFault_8 : decode cX3_textFault 8 = .ok (.invokevirtual 182, 3) := by decide +kernel
theorem dX3_textFault_11 : decode cX3_textFault 11 = .ok (.ireturn, 1) := by decide +kernel
set_option maxRecDepth 20000 in
theorem ggX3_command_X2_read : GoodIn wsX3_command wsX2_read := goodIn_r _ [8, 9, 10, 11, 12, 13, 7, 14, 15, 16, 17, 18, 19, 20, 21, 22, 23, 24, 25, 26, 27, 28, 29, 30, 31, 32, 33, 34, 35, 36, 37, 38, 39, 40, 41, 42, 43, 44, 45, 46, 47, 48, 49, 50, 51, 52, 53, 54, 55, 56, 117, 118, 119, 120, 121, 122, 123, 124] (by decide +kernel) (by decide +kernel)
set_option maxRecDepth 20000 in
theorem gX3_command_X2_read : GoodIn wsX3_command (wsV RX3 182 RX2 yX2_read wsX2_read) := goodIn_app (goodIn_of _ (by decide +kernel)) ggX3_command_X2_read
set_option maxRecDepth 20000 in
theorem ggX3_command_X0_keep : GoodIn wsX3_command wsX0_keep := goodIn_r _ [61, 62, 63, 64, 65, 66, 67, 68, 69, 70, 71, 31, 72, 33, 73, 74, 75, 76, 125, 126, 127, 124] (by decide +kernel) (by decide +kernel)
set_option maxRecDepth 20000 in
theorem gX3_command_X0_keep : GoodIn wsX3_command (wsV RX3 44 RX0 yX0_keep wsX0_keep) := goodIn_app (goodIn_of _ (by decide +kernel)) ggX3_command_X0_keep
set_option maxRecDepth 20000 in
theorem ggX3_command_X2_carryOut : GoodIn wsX3_command wsX2_carryOut := goodIn_r _ [80, 10, 15, 17, 16, 81, 82, 83, 31, 84, 33, 85, 86, 87, 88, 89, 55, 90, 91, 92, 93, 94, 95, 96, 97, 117, 118, 119, 120, 121, 122, 123, 124] (by decide +kernel) (by decide +kernel)
set_option maxRecDepth 20000 in
theorem gX3_command_X2_carryOut : GoodIn wsX3_command (wsV RX3 185 RX2 yX2_carryOut wsX2_carryOut) := goodIn_app (goodIn_of _ (by decide +kernel)) ggX3_command_X2_carryOut
set_option maxRecDepth 20000 in
theorem ggX3_command_X1_cranesWithTarget : GoodIn wsX3_command wsX1_cranesWithTarget := goodIn_r _ [101, 33, 102, 103, 104, 31, 105, 124] (by decide +kernel) (by decide +kernel)
set_option maxRecDepth 20000 in
theorem gX3_command_X1_cranesWithTarget : GoodIn wsX3_command (wsV RX3 188 RX1 yX1_cranesWithTarget wsX1_cranesWithTarget) := goodIn_app (goodIn_of _ (by decide +kernel)) ggX3_command_X1_cranesWithTarget
set_option maxRecDepth 20000 in
theorem ggX3_command_J6_bitCount_0f7a4 : GoodIn wsX3_command wsJ6_bitCount_0f7a4 := goodIn_r _ [109, 110, 111, 112] (by decide +kernel) (by decide +kernel)
set_option maxRecDepth 20000 in
theorem gX3_command_J6_bitCount_0f7a4 : GoodIn wsX3_command (va_wsS RX3 191 yJ6_bitCount_0f7a4 wsJ6_bitCount_0f7a4) := goodIn_app (goodIn_of _ (by decide +kernel)) ggX3_command_J6_bitCount_0f7a4
theorem dX3_command_0 : decode cX3_command 0 = .ok (.aload_n 0, 1) := by decide +kernel
theorem dX3_command_1 : decode cX3_command 1 = .ok (.getfield 29, 3) := by decide +kernel
theorem dX3_command_4 : decode cX3_command 4 = .ok (.aload_n 0, 1) := by decide +kernel
theorem dX3_command_5 : decode cX3_command 5 = .ok (.getfield 10, 3) := by decide +kernel
theorem dX3_command_8 : decode cX3_command 8 = .ok (.invokevirtual 182, 3) := by decide +kernel
theorem dX3_command_11 : decode cX3_command 11 = .ok (.bipush (-100), 2) := by decide +kernel
theorem dX3_command_13 : decode cX3_command 13 = .ok (.if_icmp .eq 6, 3) := by decide +kernel
theorem dX3_command_16 : decode cX3_command 16 = .ok (.bipush (-103), 2) := by decide +kernel
theorem dX3_command_18 : decode cX3_command 18 = .ok (.ireturn, 1) := by decide +kernel
theorem dX3_command_19 : decode cX3_command 19 = .ok (.aload_n 0, 1) := by decide +kernel
theorem dX3_command_20 : decode cX3_command 20 = .ok (.getfield 22, 3) := by decide +kernel
theorem dX3_command_23 : decode cX3_command 23 = .ok (.aload_n 0, 1) := by decide +kernel
theorem dX3_command_24 : decode cX3_command 24 = .ok (.getfield 10, 3) := by decide +kernel
theorem dX3_command_27 : decode cX3_command 27 = .ok (.invokevirtual 44, 3) := by decide +kernel
theorem dX3_command_30 : decode cX3_command 30 = .ok (.aload_n 0, 1) := by decide +kernel
theorem dX3_command_31 : decode cX3_command 31 = .ok (.getfield 29, 3) := by decide +kernel
theorem dX3_command_34 : decode cX3_command 34 = .ok (.aload_n 0, 1) := by decide +kernel
theorem dX3_command_35 : decode cX3_command 35 = .ok (.getfield 10, 3) := by decide +kernel
theorem dX3_command_38 : decode cX3_command 38 = .ok (.invokevirtual 185, 3) := by decide +kernel
theorem dX3_command_41 : decode cX3_command 41 = .ok (.aload_n 0, 1) := by decide +kernel
theorem dX3_command_42 : decode cX3_command 42 = .ok (.getfield 10, 3) := by decide +kernel
theorem dX3_command_45 : decode cX3_command 45 = .ok (.invokevirtual 188, 3) := by decide +kernel
theorem dX3_command_48 : decode cX3_command 48 = .ok (.invokestatic 191, 3) := by decide +kernel
theorem dX3_command_51 : decode cX3_command 51 = .ok (.ireturn, 1) := by decide +kernel
set_option maxRecDepth 20000 in
theorem ggX3_digest_X1_hash : GoodIn wsX3_digest wsX1_hash := goodIn_r _ [6, 7, 8, 9, 10, 11, 12, 5, 13, 14, 15, 16, 17, 18, 19, 20, 21, 22, 23, 24, 25, 26, 27, 28, 29, 30, 31, 32, 33, 34, 35, 36, 37, 38, 39, 40, 41, 42, 43, 44, 45, 46, 47, 48, 49, 54] (by decide +kernel) (by decide +kernel)
set_option maxRecDepth 20000 in
theorem gX3_digest_X1_hash : GoodIn wsX3_digest (wsV RX3 196 RX1 yX1_hash wsX1_hash) := goodIn_app (goodIn_of _ (by decide +kernel)) ggX3_digest_X1_hash
theorem dX3_digest_0 : decode cX3_digest 0 = .ok (.aload_n 0, 1) := by decide +kernel
theorem dX3_digest_1 : decode cX3_digest 1 = .ok (.getfield 10, 3) := by decide +kernel
theorem dX3_digest_4 : decode cX3_digest 4 = .ok (.invokevirtual 196, 3) := by decide +kernel
theorem dX3_digest_7 : decode cX3_digest 7 = .ok (.lreturn, 1) := by decide +kernel
theorem dX3_isAngle_0 : decode cX3_isAngle 0 = .ok (.iload_n 0, 1) := by decide +kernel
theorem dX3_isAngle_1 : decode cX3_isAngle 1 = .ok (.ifCond .lt 13, 3) := by decide +kernel
theorem dX3_isAngle_4 : decode cX3_isAngle 4 = .ok (.iload_n 0, 1) := by decide +kernel
theorem dX3_isAngle_5 : decode cX3_isAngle 5 = .ok (.bipush 36, 2) := by decide +kernel
theorem dX3_isAngle_7 : decode cX3_isAngle 7 = .ok (.if_icmp .ge 7, 3) := by decide +kernel
theorem dX3_isAngle_10 : decode cX3_isAngle 10 = .ok (.iconst 1, 1) := by decide +kernel
theorem dX3_isAngle_11 : decode cX3_isAngle 11 = .ok (.goto 4, 3) := by decide +kernel
theorem dX3_isAngle_14 : decode cX3_isAngle 14 = .ok (.iconst 0, 1) := by decide +kernel
theorem dX3_isAngle_15 : decode cX3_isAngle 15 = .ok (.ireturn, 1) := by decide +kernel
theorem dX3_isPriority_0 : decode cX3_isPriority 0 = .ok (.iload_n 0, 1) := by decide +kernel
theorem dX3_isPriority_1 : decode cX3_isPriority 1 = .ok (.ifCond .lt 13, 3) := by decide +kernel
theorem dX3_isPriority_4 : decode cX3_isPriority 4 = .ok (.iload_n 0, 1) := by decide +kernel
theorem dX3_isPriority_5 : decode cX3_isPriority 5 = .ok (.bipush 9, 2) := by decide +kernel
theorem dX3_isPriority_7 : decode cX3_isPriority 7 = .ok (.if_icmp .gt 7, 3) := by decide +kernel
theorem dX3_isPriority_10 : decode cX3_isPriority 10 = .ok (.iconst 1, 1) := by decide +kernel
theorem dX3_isPriority_11 : decode cX3_isPriority 11 = .ok (.goto 4, 3) := by decide +kernel
theorem dX3_isPriority_14 : decode cX3_isPriority 14 = .ok (.iconst 0, 1) := by decide +kernel
theorem dX3_isPriority_15 : decode cX3_isPriority 15 = .ok (.ireturn, 1) := by decide +kernel
theorem dX3_isZone_0 : decode cX3_isZone 0 = .ok (.iload_n 0, 1) := by decide +kernel
theorem dX3_isZone_1 : decode cX3_isZone 1 = .ok (.ifCond .lt 13, 3) := by decide +kernel
theorem dX3_isZone_4 : decode cX3_isZone 4 = .ok (.iload_n 0, 1) := by decide +kernel
theorem dX3_isZone_5 : decode cX3_isZone 5 = .ok (.bipush 6, 2) := by decide +kernel
theorem dX3_isZone_7 : decode cX3_isZone 7 = .ok (.if_icmp .ge 7, 3) := by decide +kernel
theorem dX3_isZone_10 : decode cX3_isZone 10 = .ok (.iconst 1, 1) := by decide +kernel
theorem dX3_isZone_11 : decode cX3_isZone 11 = .ok (.goto 4, 3) := by decide +kernel
theorem dX3_isZone_14 : decode cX3_isZone 14 = .ok (.iconst 0, 1) := by decide +kernel
theorem dX3_isZone_15 : decode cX3_isZone 15 = .ok (.ireturn, 1) := by decide +kernel
theorem dX3_stepsClockwise_0 : decode cX3_stepsClockwise 0 = .ok (.iload_n 1, 1) := by decide +kernel
theorem dX3_stepsClockwise_1 : decode cX3_stepsClockwise 1 = .ok (.iload_n 0, 1) := by decide +kernel
theorem dX3_stepsClockwise_2 : decode cX3_stepsClockwise 2 = .ok (.isub, 1) := by decide +kernel
theorem dX3_stepsClockwise_3 : decode cX3_stepsClockwise 3 = .ok (.bipush 36, 2) := by decide +kernel
theorem dX3_stepsClockwise_5 : decode cX3_stepsClockwise 5 = .ok (.iadd, 1) := by decide +kernel
theorem dX3_stepsClockwise_6 : decode cX3_stepsClockwise 6 = .ok (.bipush 36, 2) := by decide +kernel
theorem dX3_stepsClockwise_8 : decode cX3_stepsClockwise 8 = .ok (.irem, 1) := by decide +kernel
theorem dX3_stepsClockwise_9 : decode cX3_stepsClockwise 9 = .ok (.ireturn, 1) := by decide +kernel
set_option maxRecDepth 20000 in
theorem ggX3_shorterWay_X3_stepsClockwise : GoodIn wsX3_shorterWay wsX3_stepsClockwise := goodIn_r _ [4] (by decide +kernel) (by decide +kernel)
set_option maxRecDepth 20000 in
theorem gX3_shorterWay_X3_stepsClockwise : GoodIn wsX3_shorterWay (va_wsS RX3 73 yX3_stepsClockwise wsX3_stepsClockwise) := goodIn_app (goodIn_of _ (by decide +kernel)) ggX3_shorterWay_X3_stepsClockwise
theorem dX3_shorterWay_0 : decode cX3_shorterWay 0 = .ok (.iload_n 0, 1) := by decide +kernel
theorem dX3_shorterWay_1 : decode cX3_shorterWay 1 = .ok (.iload_n 1, 1) := by decide +kernel
theorem dX3_shorterWay_2 : decode cX3_shorterWay 2 = .ok (.invokestatic 73, 3) := by decide +kernel
theorem dX3_shorterWay_5 : decode cX3_shorterWay 5 = .ok (.bipush 18, 2) := by decide +kernel
theorem dX3_shorterWay_7 : decode cX3_shorterWay 7 = .ok (.if_icmp .gt 7, 3) := by decide +kernel
theorem dX3_shorterWay_10 : decode cX3_shorterWay 10 = .ok (.iconst 1, 1) := by decide +kernel
theorem dX3_shorterWay_11 : decode cX3_shorterWay 11 = .ok (.goto 4, 3) := by decide +kernel
theorem dX3_shorterWay_14 : decode cX3_shorterWay 14 = .ok (.iconst (-1), 1) := by decide +kernel
theorem dX3_shorterWay_15 : decode cX3_shorterWay 15 = .ok (.ireturn, 1) := by decide +kernel
set_option maxRecDepth 20000 in
theorem ggX3_wouldMakeConflict_X1_copyFrom : GoodIn wsX3_wouldMakeConflict wsX1_copyFrom := goodIn_r _ [7, 8, 9, 10, 11, 12, 60] (by decide +kernel) (by decide +kernel)
set_option maxRecDepth 20000 in
theorem gX3_wouldMakeConflict_X1_copyFrom : GoodIn wsX3_wouldMakeConflict (wsV RX3 200 RX1 yX1_copyFrom wsX1_copyFrom) := goodIn_app (goodIn_of _ (by decide +kernel)) ggX3_wouldMakeConflict_X1_copyFrom
set_option maxRecDepth 20000 in
theorem ggX3_wouldMakeConflict_X1_setLimits : GoodIn wsX3_wouldMakeConflict wsX1_setLimits := goodIn_r _ [16, 8, 60] (by decide +kernel) (by decide +kernel)
set_option maxRecDepth 20000 in
theorem gX3_wouldMakeConflict_X1_setLimits : GoodIn wsX3_wouldMakeConflict (wsV RX3 69 RX1 yX1_setLimits wsX1_setLimits) := goodIn_app (goodIn_of _ (by decide +kernel)) ggX3_wouldMakeConflict_X1_setLimits
set_option maxRecDepth 20000 in
theorem ggX3_wouldMakeConflict_X1_isConflict : GoodIn wsX3_wouldMakeConflict wsX1_isConflict := goodIn_r _ [20, 21, 22, 23, 6, 24, 8, 25, 26, 27, 28, 29, 30, 31, 32, 33, 34, 35, 36, 37, 38, 39, 40, 41, 42, 43, 44, 45, 46, 47, 48, 49, 50, 51, 52, 53, 54, 55, 60] (by decide +kernel) (by decide +kernel)
set_option maxRecDepth 20000 in
theorem gX3_wouldMakeConflict_X1_isConflict : GoodIn wsX3_wouldMakeConflict (wsV RX3 203 RX1 yX1_isConflict wsX1_isConflict) := goodIn_app (goodIn_of _ (by decide +kernel)) ggX3_wouldMakeConflict_X1_isConflict
theorem dX3_wouldMakeConflict_0 : decode cX3_wouldMakeConflict 0 = .ok (.aload_n 0, 1) := by decide +kernel
theorem dX3_wouldMakeConflict_1 : decode cX3_wouldMakeConflict 1 = .ok (.getfield 16, 3) := by decide +kernel
theorem dX3_wouldMakeConflict_4 : decode cX3_wouldMakeConflict 4 = .ok (.aload_n 0, 1) := by decide +kernel
theorem dX3_wouldMakeConflict_5 : decode cX3_wouldMakeConflict 5 = .ok (.getfield 10, 3) := by decide +kernel
theorem dX3_wouldMakeConflict_8 : decode cX3_wouldMakeConflict 8 = .ok (.invokevirtual 200, 3) := by decide +kernel
theorem dX3_wouldMakeConflict_11 : decode cX3_wouldMakeConflict 11 = .ok (.aload_n 0, 1) := by decide +kernel
theorem dX3_wouldMakeConflict_12 : decode cX3_wouldMakeConflict 12 = .ok (.getfield 16, 3) := by decide +kernel
theorem dX3_wouldMakeConflict_15 : decode cX3_wouldMakeConflict 15 = .ok (.iload_n 1, 1) := by decide +kernel
theorem dX3_wouldMakeConflict_16 : decode cX3_wouldMakeConflict 16 = .ok (.iload_n 2, 1) := by decide +kernel
theorem dX3_wouldMakeConflict_17 : decode cX3_wouldMakeConflict 17 = .ok (.iload_n 3, 1) := by decide +kernel
theorem dX3_wouldMakeConflict_18 : decode cX3_wouldMakeConflict 18 = .ok (.iload 4, 2) := by decide +kernel
theorem dX3_wouldMakeConflict_20 : decode cX3_wouldMakeConflict 20 = .ok (.invokevirtual 69, 3) := by decide +kernel
theorem dX3_wouldMakeConflict_23 : decode cX3_wouldMakeConflict 23 = .ok (.aload_n 0, 1) := by decide +kernel
theorem dX3_wouldMakeConflict_24 : decode cX3_wouldMakeConflict 24 = .ok (.getfield 16, 3) := by decide +kernel
theorem dX3_wouldMakeConflict_27 : decode cX3_wouldMakeConflict 27 = .ok (.iload_n 2, 1) := by decide +kernel
theorem dX3_wouldMakeConflict_28 : decode cX3_wouldMakeConflict 28 = .ok (.invokevirtual 203, 3) := by decide +kernel
theorem dX3_wouldMakeConflict_31 : decode cX3_wouldMakeConflict 31 = .ok (.ifCond .eq 18, 3) := by decide +kernel
theorem dX3_wouldMakeConflict_34 : decode cX3_wouldMakeConflict 34 = .ok (.aload_n 0, 1) := by decide +kernel
theorem dX3_wouldMakeConflict_35 : decode cX3_wouldMakeConflict 35 = .ok (.getfield 10, 3) := by decide +kernel
theorem dX3_wouldMakeConflict_38 : decode cX3_wouldMakeConflict 38 = .ok (.iload_n 2, 1) := by decide +kernel
theorem dX3_wouldMakeConflict_39 : decode cX3_wouldMakeConflict 39 = .ok (.invokevirtual 203, 3) := by decide +kernel
theorem dX3_wouldMakeConflict_42 : decode cX3_wouldMakeConflict 42 = .ok (.ifCond .ne 7, 3) := by decide +kernel
theorem dX3_wouldMakeConflict_45 : decode cX3_wouldMakeConflict 45 = .ok (.iconst 1, 1) := by decide +kernel
theorem dX3_wouldMakeConflict_46 : decode cX3_wouldMakeConflict 46 = .ok (.goto 4, 3) := by decide +kernel
theorem dX3_wouldMakeConflict_49 : decode cX3_wouldMakeConflict 49 = .ok (.iconst 0, 1) := by decide +kernel
theorem dX3_wouldMakeConflict_50 : decode cX3_wouldMakeConflict 50 = .ok (.ireturn, 1) := by decide +kernel
set_option maxRecDepth 20000 in
theorem ggX3_ticksUntilDone_X1_copyFrom : GoodIn wsX3_ticksUntilDone wsX1_copyFrom := goodIn_r _ [7, 8, 9, 10, 11, 12, 79] (by decide +kernel) (by decide +kernel)
set_option maxRecDepth 20000 in
theorem gX3_ticksUntilDone_X1_copyFrom : GoodIn wsX3_ticksUntilDone (wsV RX3 200 RX1 yX1_copyFrom wsX1_copyFrom) := goodIn_app (goodIn_of _ (by decide +kernel)) ggX3_ticksUntilDone_X1_copyFrom
set_option maxRecDepth 20000 in
theorem ggX3_ticksUntilDone_X1_cranesWithTarget : GoodIn wsX3_ticksUntilDone wsX1_cranesWithTarget := goodIn_r _ [16, 8, 17, 18, 19, 6, 20, 79] (by decide +kernel) (by decide +kernel)
set_option maxRecDepth 20000 in
theorem gX3_ticksUntilDone_X1_cranesWithTarget : GoodIn wsX3_ticksUntilDone (wsV RX3 188 RX1 yX1_cranesWithTarget wsX1_cranesWithTarget) := goodIn_app (goodIn_of _ (by decide +kernel)) ggX3_ticksUntilDone_X1_cranesWithTarget
set_option maxRecDepth 20000 in
theorem ggX3_ticksUntilDone_X1_passTick : GoodIn wsX3_ticksUntilDone wsX1_passTick := goodIn_r _ [24, 8, 25, 26, 27, 6, 28, 29, 30, 31, 32, 33, 34, 35, 36, 37, 38, 39, 40, 41, 42, 17, 18, 19, 20, 43, 44, 45, 46, 47, 48, 49, 50, 51, 52, 53, 54, 55, 56, 57, 58, 59, 60, 61, 62, 63, 64, 65, 66, 67, 68, 69, 70, 71, 72, 73, 74, 79] (by decide +kernel) (by decide +kernel)
set_option maxRecDepth 20000 in
theorem gX3_ticksUntilDone_X1_passTick : GoodIn wsX3_ticksUntilDone (wsV RX3 118 RX1 yX1_passTick wsX1_passTick) := goodIn_app (goodIn_of _ (by decide +kernel)) ggX3_ticksUntilDone_X1_passTick
theorem dX3_ticksUntilDone_0 : decode cX3_ticksUntilDone 0 = .ok (.aload_n 0, 1) := by decide +kernel
theorem dX3_ticksUntilDone_1 : decode cX3_ticksUntilDone 1 = .ok (.getfield 16, 3) := by decide +kernel
theorem dX3_ticksUntilDone_4 : decode cX3_ticksUntilDone 4 = .ok (.aload_n 0, 1) := by decide +kernel
theorem dX3_ticksUntilDone_5 : decode cX3_ticksUntilDone 5 = .ok (.getfield 10, 3) := by decide +kernel
theorem dX3_ticksUntilDone_8 : decode cX3_ticksUntilDone 8 = .ok (.invokevirtual 200, 3) := by decide +kernel
theorem dX3_ticksUntilDone_11 : decode cX3_ticksUntilDone 11 = .ok (.iconst 0, 1) := by decide +kernel
theorem dX3_ticksUntilDone_12 : decode cX3_ticksUntilDone 12 = .ok (.istore_n 2, 1) := by decide +kernel
theorem dX3_ticksUntilDone_13 : decode cX3_ticksUntilDone 13 = .ok (.iload_n 2, 1) := by decide +kernel
theorem dX3_ticksUntilDone_14 : decode cX3_ticksUntilDone 14 = .ok (.sipush 1000, 3) := by decide +kernel
theorem dX3_ticksUntilDone_17 : decode cX3_ticksUntilDone 17 = .ok (.if_icmp .gt 36, 3) := by decide +kernel
theorem dX3_ticksUntilDone_20 : decode cX3_ticksUntilDone 20 = .ok (.aload_n 0, 1) := by decide +kernel
theorem dX3_ticksUntilDone_21 : decode cX3_ticksUntilDone 21 = .ok (.getfield 16, 3) := by decide +kernel
theorem dX3_ticksUntilDone_24 : decode cX3_ticksUntilDone 24 = .ok (.invokevirtual 188, 3) := by decide +kernel
theorem dX3_ticksUntilDone_27 : decode cX3_ticksUntilDone 27 = .ok (.iload_n 1, 1) := by decide +kernel
theorem dX3_ticksUntilDone_28 : decode cX3_ticksUntilDone 28 = .ok (.iand, 1) := by decide +kernel
theorem dX3_ticksUntilDone_29 : decode cX3_ticksUntilDone 29 = .ok (.ifCond .ne 5, 3) := by decide +kernel
theorem dX3_ticksUntilDone_32 : decode cX3_ticksUntilDone 32 = .ok (.iload_n 2, 1) := by decide +kernel
theorem dX3_ticksUntilDone_33 : decode cX3_ticksUntilDone 33 = .ok (.ireturn, 1) := by decide +kernel
theorem dX3_ticksUntilDone_34 : decode cX3_ticksUntilDone 34 = .ok (.aload_n 0, 1) := by decide +kernel
theorem dX3_ticksUntilDone_35 : decode cX3_ticksUntilDone 35 = .ok (.getfield 16, 3) := by decide +kernel
theorem dX3_ticksUntilDone_38 : decode cX3_ticksUntilDone 38 = .ok (.invokevirtual 118, 3) := by decide +kernel
theorem dX3_ticksUntilDone_41 : decode cX3_ticksUntilDone 41 = .ok (.ifCond .ne 6, 3) := by decide +kernel
theorem dX3_ticksUntilDone_44 : decode cX3_ticksUntilDone 44 = .ok (.bipush (-100), 2) := by decide +kernel
theorem dX3_ticksUntilDone_46 : decode cX3_ticksUntilDone 46 = .ok (.ireturn, 1) := by decide +kernel
theorem dX3_ticksUntilDone_47 : decode cX3_ticksUntilDone 47 = .ok (.iinc 2 1, 3) := by decide +kernel
theorem dX3_ticksUntilDone_50 : decode cX3_ticksUntilDone 50 = .ok (.goto (-37), 3) := by decide +kernel
theorem dX3_ticksUntilDone_53 : decode cX3_ticksUntilDone 53 = .ok (.bipush (-100), 2) := by decide +kernel
theorem dX3_ticksUntilDone_55 : decode cX3_ticksUntilDone 55 = .ok (.ireturn, 1) := by decide +kernel
set_option maxRecDepth 20000 in
theorem ggX3_foretoldWaits_X1_copyFrom : GoodIn wsX3_foretoldWaits wsX1_copyFrom := goodIn_r _ [7, 8, 9, 10, 11, 12, 79] (by decide +kernel) (by decide +kernel)
set_option maxRecDepth 20000 in
theorem gX3_foretoldWaits_X1_copyFrom : GoodIn wsX3_foretoldWaits (wsV RX3 200 RX1 yX1_copyFrom wsX1_copyFrom) := goodIn_app (goodIn_of _ (by decide +kernel)) ggX3_foretoldWaits_X1_copyFrom
set_option maxRecDepth 20000 in
theorem ggX3_foretoldWaits_X1_waitOf : GoodIn wsX3_foretoldWaits wsX1_waitOf := goodIn_r _ [16, 8, 79] (by decide +kernel) (by decide +kernel)
set_option maxRecDepth 20000 in
theorem gX3_foretoldWaits_X1_waitOf : GoodIn wsX3_foretoldWaits (wsV RX3 206 RX1 yX1_waitOf wsX1_waitOf) := goodIn_app (goodIn_of _ (by decide +kernel)) ggX3_foretoldWaits_X1_waitOf
set_option maxRecDepth 20000 in
theorem ggX3_foretoldWaits_X1_passTick : GoodIn wsX3_foretoldWaits wsX1_passTick := goodIn_r _ [20, 8, 21, 22, 23, 6, 24, 25, 26, 27, 28, 29, 30, 31, 32, 33, 34, 35, 36, 37, 38, 39, 40, 41, 42, 43, 44, 45, 46, 47, 48, 49, 50, 51, 52, 53, 54, 55, 56, 57, 58, 59, 60, 61, 62, 63, 64, 65, 66, 67, 68, 69, 70, 71, 72, 73, 74, 79] (by decide +kernel) (by decide +kernel)
set_option maxRecDepth 20000 in
theorem gX3_foretoldWaits_X1_passTick : GoodIn wsX3_foretoldWaits (wsV RX3 118 RX1 yX1_passTick wsX1_passTick) := goodIn_app (goodIn_of _ (by decide +kernel)) ggX3_foretoldWaits_X1_passTick
theorem dX3_foretoldWaits_0 : decode cX3_foretoldWaits 0 = .ok (.aload_n 0, 1) := by decide +kernel
theorem dX3_foretoldWaits_1 : decode cX3_foretoldWaits 1 = .ok (.getfield 16, 3) := by decide +kernel
theorem dX3_foretoldWaits_4 : decode cX3_foretoldWaits 4 = .ok (.aload_n 0, 1) := by decide +kernel
theorem dX3_foretoldWaits_5 : decode cX3_foretoldWaits 5 = .ok (.getfield 10, 3) := by decide +kernel
theorem dX3_foretoldWaits_8 : decode cX3_foretoldWaits 8 = .ok (.invokevirtual 200, 3) := by decide +kernel
theorem dX3_foretoldWaits_11 : decode cX3_foretoldWaits 11 = .ok (.aload_n 0, 1) := by decide +kernel
theorem dX3_foretoldWaits_12 : decode cX3_foretoldWaits 12 = .ok (.getfield 16, 3) := by decide +kernel
theorem dX3_foretoldWaits_15 : decode cX3_foretoldWaits 15 = .ok (.iload_n 1, 1) := by decide +kernel
theorem dX3_foretoldWaits_16 : decode cX3_foretoldWaits 16 = .ok (.invokevirtual 206, 3) := by decide +kernel
theorem dX3_foretoldWaits_19 : decode cX3_foretoldWaits 19 = .ok (.istore_n 3, 1) := by decide +kernel
theorem dX3_foretoldWaits_20 : decode cX3_foretoldWaits 20 = .ok (.iconst 0, 1) := by decide +kernel
theorem dX3_foretoldWaits_21 : decode cX3_foretoldWaits 21 = .ok (.istore 4, 2) := by decide +kernel
theorem dX3_foretoldWaits_23 : decode cX3_foretoldWaits 23 = .ok (.iload 4, 2) := by decide +kernel
theorem dX3_foretoldWaits_25 : decode cX3_foretoldWaits 25 = .ok (.iload_n 2, 1) := by decide +kernel
theorem dX3_foretoldWaits_26 : decode cX3_foretoldWaits 26 = .ok (.if_icmp .ge 51, 3) := by decide +kernel
theorem dX3_foretoldWaits_29 : decode cX3_foretoldWaits 29 = .ok (.aload_n 0, 1) := by decide +kernel
theorem dX3_foretoldWaits_30 : decode cX3_foretoldWaits 30 = .ok (.getfield 16, 3) := by decide +kernel
theorem dX3_foretoldWaits_33 : decode cX3_foretoldWaits 33 = .ok (.iload_n 1, 1) := by decide +kernel
theorem dX3_foretoldWaits_34 : decode cX3_foretoldWaits 34 = .ok (.invokevirtual 206, 3) := by decide +kernel
theorem dX3_foretoldWaits_37 : decode cX3_foretoldWaits 37 = .ok (.istore 5, 2) := by decide +kernel
theorem dX3_foretoldWaits_39 : decode cX3_foretoldWaits 39 = .ok (.aload_n 0, 1) := by decide +kernel
theorem dX3_foretoldWaits_40 : decode cX3_foretoldWaits 40 = .ok (.getfield 16, 3) := by decide +kernel
theorem dX3_foretoldWaits_43 : decode cX3_foretoldWaits 43 = .ok (.invokevirtual 118, 3) := by decide +kernel
theorem dX3_foretoldWaits_46 : decode cX3_foretoldWaits 46 = .ok (.ifCond .ne 25, 3) := by decide +kernel
theorem dX3_foretoldWaits_49 : decode cX3_foretoldWaits 49 = .ok (.iload 5, 2) := by decide +kernel
theorem dX3_foretoldWaits_51 : decode cX3_foretoldWaits 51 = .ok (.iload_n 3, 1) := by decide +kernel
theorem dX3_foretoldWaits_52 : decode cX3_foretoldWaits 52 = .ok (.isub, 1) := by decide +kernel
theorem dX3_foretoldWaits_53 : decode cX3_foretoldWaits 53 = .ok (.iload_n 2, 1) := by decide +kernel
theorem dX3_foretoldWaits_54 : decode cX3_foretoldWaits 54 = .ok (.iload 4, 2) := by decide +kernel
theorem dX3_foretoldWaits_56 : decode cX3_foretoldWaits 56 = .ok (.isub, 1) := by decide +kernel
theorem dX3_foretoldWaits_57 : decode cX3_foretoldWaits 57 = .ok (.aload_n 0, 1) := by decide +kernel
theorem dX3_foretoldWaits_58 : decode cX3_foretoldWaits 58 = .ok (.getfield 16, 3) := by decide +kernel
theorem dX3_foretoldWaits_61 : decode cX3_foretoldWaits 61 = .ok (.iload_n 1, 1) := by decide +kernel
theorem dX3_foretoldWaits_62 : decode cX3_foretoldWaits 62 = .ok (.invokevirtual 206, 3) := by decide +kernel
theorem dX3_foretoldWaits_65 : decode cX3_foretoldWaits 65 = .ok (.iload 5, 2) := by decide +kernel
theorem dX3_foretoldWaits_67 : decode cX3_foretoldWaits 67 = .ok (.isub, 1) := by decide +kernel
theorem dX3_foretoldWaits_68 : decode cX3_foretoldWaits 68 = .ok (.imul, 1) := by decide +kernel
theorem dX3_foretoldWaits_69 : decode cX3_foretoldWaits 69 = .ok (.iadd, 1) := by decide +kernel
theorem dX3_foretoldWaits_70 : decode cX3_foretoldWaits 70 = .ok (.ireturn, 1) := by decide +kernel
theorem dX3_foretoldWaits_71 : decode cX3_foretoldWaits 71 = .ok (.iinc 4 1, 3) := by decide +kernel
theorem dX3_foretoldWaits_74 : decode cX3_foretoldWaits 74 = .ok (.goto (-51), 3) := by decide +kernel
theorem dX3_foretoldWaits_77 : decode cX3_foretoldWaits 77 = .ok (.aload_n 0, 1) := by decide +kernel
theorem dX3_foretoldWaits_78 : decode cX3_foretoldWaits 78 = .ok (.getfield 16, 3) := by decide +kernel
theorem dX3_foretoldWaits_81 : decode cX3_foretoldWaits 81 = .ok (.iload_n 1, 1) := by decide +kernel
theorem dX3_foretoldWaits_82 : decode cX3_foretoldWaits 82 = .ok (.invokevirtual 206, 3) := by decide +kernel
theorem dX3_foretoldWaits_85 : decode cX3_foretoldWaits 85 = .ok (.iload_n 3, 1) := by decide +kernel
theorem dX3_foretoldWaits_86 : decode cX3_foretoldWaits 86 = .ok (.isub, 1) := by decide +kernel
theorem dX3_foretoldWaits_87 : decode cX3_foretoldWaits 87 = .ok (.ireturn, 1) := by decide +kernel
theorem dX4_init_0 : decode cX4_init 0 = .ok (.aload_n 0, 1) := by decide +kernel
theorem dX4_init_1 : decode cX4_init 1 = .ok (.invokespecial 1, 3) := by decide +kernel
theorem dX4_init_4 : decode cX4_init 4 = .ok (.aload_n 0, 1) := by decide +kernel
theorem dX4_init_5 : decode cX4_init 5 = .ok (.sipush 896, 3) := by decide +kernel
theorem dX4_init_8 : decode cX4_init 8 = .ok (.newarray .int, 2) := by decide +kernel
theorem dX4_init_10 : decode cX4_init 10 = .ok (.putfield 7, 3) := by decide +kernel
theorem dX4_init_13 : decode cX4_init 13 = .ok (.aload_n 0, 1) := by decide +kernel
theorem dX4_init_14 : decode cX4_init 14 = .ok (.bipush 80, 2) := by decide +kernel
theorem dX4_init_16 : decode cX4_init 16 = .ok (.newarray .int, 2) := by decide +kernel
theorem dX4_init_18 : decode cX4_init 18 = .ok (.putfield 13, 3) := by decide +kernel
theorem dX4_init_21 : decode cX4_init 21 = .ok (.return_, 1) := by decide +kernel
theorem dX4_in_0 : decode cX4_in 0 = .ok (.iload_n 0, 1) := by decide +kernel
theorem dX4_in_1 : decode cX4_in 1 = .ok (.iload_n 1, 1) := by decide +kernel
theorem dX4_in_2 : decode cX4_in 2 = .ok (.if_icmp .lt 12, 3) := by decide +kernel
theorem dX4_in_5 : decode cX4_in 5 = .ok (.iload_n 0, 1) := by decide +kernel
theorem dX4_in_6 : decode cX4_in 6 = .ok (.iload_n 2, 1) := by decide +kernel
theorem dX4_in_7 : decode cX4_in 7 = .ok (.if_icmp .gt 7, 3) := by decide +kernel
theorem dX4_in_10 : decode cX4_in 10 = .ok (.iconst 1, 1) := by decide +kernel
theorem dX4_in_11 : decode cX4_in 11 = .ok (.goto 4, 3) := by decide +kernel
theorem dX4_in_14 : decode cX4_in 14 = .ok (.iconst 0, 1) := by decide +kernel
theorem dX4_in_15 : decode cX4_in 15 = .ok (.ireturn, 1) := by decide +kernel
theorem dX4_copies_0 : decode cX4_copies 0 = .ok (.iconst 0, 1) := by decide +kernel
theorem dX4_copies_1 : decode cX4_copies 1 = .ok (.istore_n 3, 1) := by decide +kernel
theorem dX4_copies_2 : decode cX4_copies 2 = .ok (.iload_n 3, 1) := by decide +kernel
theorem dX4_copies_3 : decode cX4_copies 3 = .ok (.sipush 128, 3) := by decide +kernel
theorem dX4_copies_6 : decode cX4_copies 6 = .ok (.if_icmp .ge 33, 3) := by decide +kernel
theorem dX4_copies_9 : decode cX4_copies 9 = .ok (.aload_n 0, 1) := by decide +kernel
theorem dX4_copies_10 : decode cX4_copies 10 = .ok (.getfield 7, 3) := by decide +kernel
theorem dX4_copies_13 : decode cX4_copies 13 = .ok (.sipush 128, 3) := by decide +kernel
theorem dX4_copies_16 : decode cX4_copies 16 = .ok (.iload_n 2, 1) := by decide +kernel
theorem dX4_copies_17 : decode cX4_copies 17 = .ok (.imul, 1) := by decide +kernel
theorem dX4_copies_18 : decode cX4_copies 18 = .ok (.iload_n 3, 1) := by decide +kernel
theorem dX4_copies_19 : decode cX4_copies 19 = .ok (.iadd, 1) := by decide +kernel
theorem dX4_copies_20 : decode cX4_copies 20 = .ok (.aload_n 0, 1) := by decide +kernel
theorem dX4_copies_21 : decode cX4_copies 21 = .ok (.getfield 7, 3) := by decide +kernel
theorem dX4_copies_24 : decode cX4_copies 24 = .ok (.sipush 128, 3) := by decide +kernel
theorem dX4_copies_27 : decode cX4_copies 27 = .ok (.iload_n 1, 1) := by decide +kernel
theorem dX4_copies_28 : decode cX4_copies 28 = .ok (.imul, 1) := by decide +kernel
theorem dX4_copies_29 : decode cX4_copies 29 = .ok (.iload_n 3, 1) := by decide +kernel
theorem dX4_copies_30 : decode cX4_copies 30 = .ok (.iadd, 1) := by decide +kernel
theorem dX4_copies_31 : decode cX4_copies 31 = .ok (.iaload, 1) := by decide +kernel
theorem dX4_copies_32 : decode cX4_copies 32 = .ok (.iastore, 1) := by decide +kernel
theorem dX4_copies_33 : decode cX4_copies 33 = .ok (.iinc 3 1, 3) := by decide +kernel
theorem dX4_copies_36 : decode cX4_copies 36 = .ok (.goto (-34), 3) := by decide +kernel
theorem dX4_copies_39 : decode cX4_copies 39 = .ok (.return_, 1) := by decide +kernel
set_option maxRecDepth 20000 in
theorem ggX4_saves_X4_copies : GoodIn wsX4_saves wsX4_copies := goodIn_r _ [6, 7, 8, 9, 10, 11, 12, 13] (by decide +kernel) (by decide +kernel)
set_option maxRecDepth 20000 in
theorem gX4_saves_X4_copies : GoodIn wsX4_saves (wsV RX4 20 RX4 yX4_copies wsX4_copies) := goodIn_app (goodIn_of _ (by decide +kernel)) ggX4_saves_X4_copies
theorem dX4_saves_0 : decode cX4_saves 0 = .ok (.iconst 1, 1) := by decide +kernel
theorem dX4_saves_1 : decode cX4_saves 1 = .ok (.istore_n 1, 1) := by decide +kernel
theorem dX4_saves_2 : decode cX4_saves 2 = .ok (.iload_n 1, 1) := by decide +kernel
theorem dX4_saves_3 : decode cX4_saves 3 = .ok (.iconst 5, 1) := by decide +kernel
theorem dX4_saves_4 : decode cX4_saves 4 = .ok (.if_icmp .ge 25, 3) := by decide +kernel
theorem dX4_saves_7 : decode cX4_saves 7 = .ok (.aload_n 0, 1) := by decide +kernel
theorem dX4_saves_8 : decode cX4_saves 8 = .ok (.getfield 16, 3) := by decide +kernel
theorem dX4_saves_11 : decode cX4_saves 11 = .ok (.iconst 5, 1) := by decide +kernel
theorem dX4_saves_12 : decode cX4_saves 12 = .ok (.if_icmp .ne 17, 3) := by decide +kernel
theorem dX4_saves_15 : decode cX4_saves 15 = .ok (.aload_n 0, 1) := by decide +kernel
theorem dX4_saves_16 : decode cX4_saves 16 = .ok (.iload_n 1, 1) := by decide +kernel
theorem dX4_saves_17 : decode cX4_saves 17 = .ok (.iconst 1, 1) := by decide +kernel
theorem dX4_saves_18 : decode cX4_saves 18 = .ok (.iadd, 1) := by decide +kernel
theorem dX4_saves_19 : decode cX4_saves 19 = .ok (.iload_n 1, 1) := by decide +kernel
theorem dX4_saves_20 : decode cX4_saves 20 = .ok (.invokevirtual 20, 3) := by decide +kernel
theorem dX4_saves_23 : decode cX4_saves 23 = .ok (.iinc 1 1, 3) := by decide +kernel
theorem dX4_saves_26 : decode cX4_saves 26 = .ok (.goto (-24), 3) := by decide +kernel
theorem dX4_saves_29 : decode cX4_saves 29 = .ok (.aload_n 0, 1) := by decide +kernel
theorem dX4_saves_30 : decode cX4_saves 30 = .ok (.dup, 1) := by decide +kernel
theorem dX4_saves_31 : decode cX4_saves 31 = .ok (.getfield 16, 3) := by decide +kernel
theorem dX4_saves_34 : decode cX4_saves 34 = .ok (.aload_n 0, 1) := by decide +kernel
theorem dX4_saves_35 : decode cX4_saves 35 = .ok (.getfield 16, 3) := by decide +kernel
theorem dX4_saves_38 : decode cX4_saves 38 = .ok (.iconst 5, 1) := by decide +kernel
theorem dX4_saves_39 : decode cX4_saves 39 = .ok (.if_icmp .ne 7, 3) := by decide +kernel
theorem dX4_saves_42 : decode cX4_saves 42 = .ok (.iconst 1, 1) := by decide +kernel
theorem dX4_saves_43 : decode cX4_saves 43 = .ok (.goto 4, 3) := by decide +kernel
theorem dX4_saves_46 : decode cX4_saves 46 = .ok (.iconst 0, 1) := by decide +kernel
theorem dX4_saves_47 : decode cX4_saves 47 = .ok (.isub, 1) := by decide +kernel
theorem dX4_saves_48 : decode cX4_saves 48 = .ok (.putfield 16, 3) := by decide +kernel
theorem dX4_saves_51 : decode cX4_saves 51 = .ok (.aload_n 0, 1) := by decide +kernel
theorem dX4_saves_52 : decode cX4_saves 52 = .ok (.dup, 1) := by decide +kernel
theorem dX4_saves_53 : decode cX4_saves 53 = .ok (.getfield 16, 3) := by decide +kernel
theorem dX4_saves_56 : decode cX4_saves 56 = .ok (.iconst 1, 1) := by decide +kernel
theorem dX4_saves_57 : decode cX4_saves 57 = .ok (.iadd, 1) := by decide +kernel
theorem dX4_saves_58 : decode cX4_saves 58 = .ok (.putfield 16, 3) := by decide +kernel
theorem dX4_saves_61 : decode cX4_saves 61 = .ok (.aload_n 0, 1) := by decide +kernel
theorem dX4_saves_62 : decode cX4_saves 62 = .ok (.iconst 0, 1) := by decide +kernel
theorem dX4_saves_63 : decode cX4_saves 63 = .ok (.aload_n 0, 1) := by decide +kernel
theorem dX4_saves_64 : decode cX4_saves 64 = .ok (.getfield 16, 3) := by decide +kernel
theorem dX4_saves_67 : decode cX4_saves 67 = .ok (.invokevirtual 20, 3) := by decide +kernel
theorem dX4_saves_70 : decode cX4_saves 70 = .ok (.return_, 1) := by decide +kernel
theorem dX4_of_0 : decode cX4_of 0 = .ok (.aload_n 0, 1) := by decide +kernel
theorem dX4_of_1 : decode cX4_of 1 = .ok (.getfield 7, 3) := by decide +kernel
theorem dX4_of_4 : decode cX4_of 4 = .ok (.iconst 4, 1) := by decide +kernel
theorem dX4_of_5 : decode cX4_of 5 = .ok (.bipush 21, 2) := by decide +kernel
theorem dX4_of_7 : decode cX4_of 7 = .ok (.iload_n 1, 1) := by decide +kernel
theorem dX4_of_8 : decode cX4_of 8 = .ok (.imul, 1) := by decide +kernel
theorem dX4_of_9 : decode cX4_of 9 = .ok (.iadd, 1) := by decide +kernel
theorem dX4_of_10 : decode cX4_of 10 = .ok (.iload_n 2, 1) := by decide +kernel
theorem dX4_of_11 : decode cX4_of 11 = .ok (.iadd, 1) := by decide +kernel
theorem dX4_of_12 : decode cX4_of 12 = .ok (.iaload, 1) := by decide +kernel
theorem dX4_of_13 : decode cX4_of 13 = .ok (.ireturn, 1) := by decide +kernel
theorem dX4_sets_0 : decode cX4_sets 0 = .ok (.aload_n 0, 1) := by decide +kernel
theorem dX4_sets_1 : decode cX4_sets 1 = .ok (.getfield 7, 3) := by decide +kernel
theorem dX4_sets_4 : decode cX4_sets 4 = .ok (.iconst 4, 1) := by decide +kernel
theorem dX4_sets_5 : decode cX4_sets 5 = .ok (.bipush 21, 2) := by decide +kernel
theorem dX4_sets_7 : decode cX4_sets 7 = .ok (.iload_n 1, 1) := by decide +kernel
theorem dX4_sets_8 : decode cX4_sets 8 = .ok (.imul, 1) := by decide +kernel
theorem dX4_sets_9 : decode cX4_sets 9 = .ok (.iadd, 1) := by decide +kernel
theorem dX4_sets_10 : decode cX4_sets 10 = .ok (.iload_n 2, 1) := by decide +kernel
theorem dX4_sets_11 : decode cX4_sets 11 = .ok (.iadd, 1) := by decide +kernel
theorem dX4_sets_12 : decode cX4_sets 12 = .ok (.iload_n 3, 1) := by decide +kernel
theorem dX4_sets_13 : decode cX4_sets 13 = .ok (.iastore, 1) := by decide +kernel
theorem dX4_sets_14 : decode cX4_sets 14 = .ok (.return_, 1) := by decide +kernel
set_option maxRecDepth 20000 in
theorem ggX4_isCrane_X4_in : GoodIn wsX4_isCrane wsX4_in := goodIn_r _ [5] (by decide +kernel) (by decide +kernel)
set_option maxRecDepth 20000 in
theorem gX4_isCrane_X4_in : GoodIn wsX4_isCrane (va_wsS RX4 24 yX4_in wsX4_in) := goodIn_app (goodIn_of _ (by decide +kernel)) ggX4_isCrane_X4_in
theorem dX4_isCrane_0 : decode cX4_isCrane 0 = .ok (.iload_n 1, 1) := by decide +kernel
theorem dX4_isCrane_1 : decode cX4_isCrane 1 = .ok (.iconst 0, 1) := by decide +kernel
theorem dX4_isCrane_2 : decode cX4_isCrane 2 = .ok (.aload_n 0, 1) := by decide +kernel
theorem dX4_isCrane_3 : decode cX4_isCrane 3 = .ok (.getfield 7, 3) := by decide +kernel
theorem dX4_isCrane_6 : decode cX4_isCrane 6 = .ok (.iconst 2, 1) := by decide +kernel
theorem dX4_isCrane_7 : decode cX4_isCrane 7 = .ok (.iaload, 1) := by decide +kernel
theorem dX4_isCrane_8 : decode cX4_isCrane 8 = .ok (.iconst 1, 1) := by decide +kernel
theorem dX4_isCrane_9 : decode cX4_isCrane 9 = .ok (.isub, 1) := by decide +kernel
theorem dX4_isCrane_10 : decode cX4_isCrane 10 = .ok (.invokestatic 24, 3) := by decide +kernel
theorem dX4_isCrane_13 : decode cX4_isCrane 13 = .ok (.ireturn, 1) := by decide +kernel
set_option maxRecDepth 20000 in
theorem ggX4_isZone_X4_in : GoodIn wsX4_isZone wsX4_in := goodIn_r _ [4] (by decide +kernel) (by decide +kernel)
set_option maxRecDepth 20000 in
theorem gX4_isZone_X4_in : GoodIn wsX4_isZone (va_wsS RX4 24 yX4_in wsX4_in) := goodIn_app (goodIn_of _ (by decide +kernel)) ggX4_isZone_X4_in
theorem dX4_isZone_0 : decode cX4_isZone 0 = .ok (.iload_n 0, 1) := by decide +kernel
theorem dX4_isZone_1 : decode cX4_isZone 1 = .ok (.iconst 0, 1) := by decide +kernel
theorem dX4_isZone_2 : decode cX4_isZone 2 = .ok (.iconst 5, 1) := by decide +kernel
theorem dX4_isZone_3 : decode cX4_isZone 3 = .ok (.invokestatic 24, 3) := by decide +kernel
theorem dX4_isZone_6 : decode cX4_isZone 6 = .ok (.ireturn, 1) := by decide +kernel
set_option maxRecDepth 20000 in
theorem ggX4_isAngle_X4_in : GoodIn wsX4_isAngle wsX4_in := goodIn_r _ [4] (by decide +kernel) (by decide +kernel)
set_option maxRecDepth 20000 in
theorem gX4_isAngle_X4_in : GoodIn wsX4_isAngle (va_wsS RX4 24 yX4_in wsX4_in) := goodIn_app (goodIn_of _ (by decide +kernel)) ggX4_isAngle_X4_in
theorem dX4_isAngle_0 : decode cX4_isAngle 0 = .ok (.iload_n 0, 1) := by decide +kernel
theorem dX4_isAngle_1 : decode cX4_isAngle 1 = .ok (.iconst 0, 1) := by decide +kernel
theorem dX4_isAngle_2 : decode cX4_isAngle 2 = .ok (.bipush 35, 2) := by decide +kernel
theorem dX4_isAngle_4 : decode cX4_isAngle 4 = .ok (.invokestatic 24, 3) := by decide +kernel
theorem dX4_isAngle_7 : decode cX4_isAngle 7 = .ok (.ireturn, 1) := by decide +kernel
set_option maxRecDepth 20000 in
theorem ggX4_hasArc_X4_of : GoodIn wsX4_hasArc wsX4_of := goodIn_r _ [5, 6, 7, 8, 9, 10, 11, 12] (by decide +kernel) (by decide +kernel)
set_option maxRecDepth 20000 in
theorem gX4_hasArc_X4_of : GoodIn wsX4_hasArc (wsV RX4 28 RX4 yX4_of wsX4_of) := goodIn_app (goodIn_of _ (by decide +kernel)) ggX4_hasArc_X4_of
theorem dX4_hasArc_0 : decode cX4_hasArc 0 = .ok (.aload_n 0, 1) := by decide +kernel
theorem dX4_hasArc_1 : decode cX4_hasArc 1 = .ok (.iload_n 1, 1) := by decide +kernel
theorem dX4_hasArc_2 : decode cX4_hasArc 2 = .ok (.bipush 9, 2) := by decide +kernel
theorem dX4_hasArc_4 : decode cX4_hasArc 4 = .ok (.iconst 2, 1) := by decide +kernel
theorem dX4_hasArc_5 : decode cX4_hasArc 5 = .ok (.iload_n 2, 1) := by decide +kernel
theorem dX4_hasArc_6 : decode cX4_hasArc 6 = .ok (.imul, 1) := by decide +kernel
theorem dX4_hasArc_7 : decode cX4_hasArc 7 = .ok (.iadd, 1) := by decide +kernel
theorem dX4_hasArc_8 : decode cX4_hasArc 8 = .ok (.invokevirtual 28, 3) := by decide +kernel
theorem dX4_hasArc_11 : decode cX4_hasArc 11 = .ok (.bipush (-100), 2) := by decide +kernel
theorem dX4_hasArc_13 : decode cX4_hasArc 13 = .ok (.if_icmp .eq 7, 3) := by decide +kernel
theorem dX4_hasArc_16 : decode cX4_hasArc 16 = .ok (.iconst 1, 1) := by decide +kernel
theorem dX4_hasArc_17 : decode cX4_hasArc 17 = .ok (.goto 4, 3) := by decide +kernel
theorem dX4_hasArc_20 : decode cX4_hasArc 20 = .ok (.iconst 0, 1) := by decide +kernel
theorem dX4_hasArc_21 : decode cX4_hasArc 21 = .ok (.ireturn, 1) := by decide +kernel
set_option maxRecDepth 20000 in
theorem ggX4_contains_X4_of : GoodIn wsX4_contains wsX4_of := goodIn_r _ [5, 6, 7, 8, 9, 10, 11, 12] (by decide +kernel) (by decide +kernel)
set_option maxRecDepth 20000 in
theorem gX4_contains_X4_of : GoodIn wsX4_contains (wsV RX4 28 RX4 yX4_of wsX4_of) := goodIn_app (goodIn_of _ (by decide +kernel)) ggX4_contains_X4_of
theorem dX4_contains_0 : decode cX4_contains 0 = .ok (.aload_n 0, 1) := by decide +kernel
theorem dX4_contains_1 : decode cX4_contains 1 = .ok (.iload_n 1, 1) := by decide +kernel
theorem dX4_contains_2 : decode cX4_contains 2 = .ok (.bipush 9, 2) := by decide +kernel
theorem dX4_contains_4 : decode cX4_contains 4 = .ok (.iconst 2, 1) := by decide +kernel
theorem dX4_contains_5 : decode cX4_contains 5 = .ok (.iload_n 2, 1) := by decide +kernel
theorem dX4_contains_6 : decode cX4_contains 6 = .ok (.imul, 1) := by decide +kernel
theorem dX4_contains_7 : decode cX4_contains 7 = .ok (.iadd, 1) := by decide +kernel
theorem dX4_contains_8 : decode cX4_contains 8 = .ok (.invokevirtual 28, 3) := by decide +kernel
theorem dX4_contains_11 : decode cX4_contains 11 = .ok (.istore 4, 2) := by decide +kernel
theorem dX4_contains_13 : decode cX4_contains 13 = .ok (.aload_n 0, 1) := by decide +kernel
theorem dX4_contains_14 : decode cX4_contains 14 = .ok (.iload_n 1, 1) := by decide +kernel
theorem dX4_contains_15 : decode cX4_contains 15 = .ok (.bipush 9, 2) := by decide +kernel
theorem dX4_contains_17 : decode cX4_contains 17 = .ok (.iconst 2, 1) := by decide +kernel
theorem dX4_contains_18 : decode cX4_contains 18 = .ok (.iload_n 2, 1) := by decide +kernel
theorem dX4_contains_19 : decode cX4_contains 19 = .ok (.imul, 1) := by decide +kernel
theorem dX4_contains_20 : decode cX4_contains 20 = .ok (.iadd, 1) := by decide +kernel
theorem dX4_contains_21 : decode cX4_contains 21 = .ok (.iconst 1, 1) := by decide +kernel
theorem dX4_contains_22 : decode cX4_contains 22 = .ok (.iadd, 1) := by decide +kernel
theorem dX4_contains_23 : decode cX4_contains 23 = .ok (.invokevirtual 28, 3) := by decide +kernel
theorem dX4_contains_26 : decode cX4_contains 26 = .ok (.istore 5, 2) := by decide +kernel
theorem dX4_contains_28 : decode cX4_contains 28 = .ok (.iload 4, 2) := by decide +kernel
theorem dX4_contains_30 : decode cX4_contains 30 = .ok (.bipush (-100), 2) := by decide +kernel
theorem dX4_contains_32 : decode cX4_contains 32 = .ok (.if_icmp .eq 31, 3) := by decide +kernel
theorem dX4_contains_35 : decode cX4_contains 35 = .ok (.iload_n 3, 1) := by decide +kernel
theorem dX4_contains_36 : decode cX4_contains 36 = .ok (.iload 4, 2) := by decide +kernel
theorem dX4_contains_38 : decode cX4_contains 38 = .ok (.isub, 1) := by decide +kernel
theorem dX4_contains_39 : decode cX4_contains 39 = .ok (.bipush 36, 2) := by decide +kernel
theorem dX4_contains_41 : decode cX4_contains 41 = .ok (.iadd, 1) := by decide +kernel
theorem dX4_contains_42 : decode cX4_contains 42 = .ok (.bipush 36, 2) := by decide +kernel
theorem dX4_contains_44 : decode cX4_contains 44 = .ok (.irem, 1) := by decide +kernel
theorem dX4_contains_45 : decode cX4_contains 45 = .ok (.iload 5, 2) := by decide +kernel
theorem dX4_contains_47 : decode cX4_contains 47 = .ok (.iload 4, 2) := by decide +kernel
theorem dX4_contains_49 : decode cX4_contains 49 = .ok (.isub, 1) := by decide +kernel
theorem dX4_contains_50 : decode cX4_contains 50 = .ok (.bipush 36, 2) := by decide +kernel
theorem dX4_contains_52 : decode cX4_contains 52 = .ok (.iadd, 1) := by decide +kernel
theorem dX4_contains_53 : decode cX4_contains 53 = .ok (.bipush 36, 2) := by decide +kernel
theorem dX4_contains_55 : decode cX4_contains 55 = .ok (.irem, 1) := by decide +kernel
theorem dX4_contains_56 : decode cX4_contains 56 = .ok (.if_icmp .gt 7, 3) := by decide +kernel
theorem dX4_contains_59 : decode cX4_contains 59 = .ok (.iconst 1, 1) := by decide +kernel
theorem dX4_contains_60 : decode cX4_contains 60 = .ok (.goto 4, 3) := by decide +kernel
theorem dX4_contains_63 : decode cX4_contains 63 = .ok (.iconst 0, 1) := by decide +kernel
theorem dX4_contains_64 : decode cX4_contains 64 = .ok (.ireturn, 1) := by decide +kernel
set_option maxRecDepth 20000 in
theorem ggX4_nextOf_X4_of : GoodIn wsX4_nextOf wsX4_of := goodIn_r _ [5, 6, 7, 8, 9, 10, 11, 12] (by decide +kernel) (by decide +kernel)
set_option maxRecDepth 20000 in
theorem gX4_nextOf_X4_of : GoodIn wsX4_nextOf (wsV RX4 28 RX4 yX4_of wsX4_of) := goodIn_app (goodIn_of _ (by decide +kernel)) ggX4_nextOf_X4_of
theorem dX4_nextOf_0 : decode cX4_nextOf 0 = .ok (.aload_n 0, 1) := by decide +kernel
theorem dX4_nextOf_1 : decode cX4_nextOf 1 = .ok (.iload_n 1, 1) := by decide +kernel
theorem dX4_nextOf_2 : decode cX4_nextOf 2 = .ok (.iconst 0, 1) := by decide +kernel
theorem dX4_nextOf_3 : decode cX4_nextOf 3 = .ok (.invokevirtual 28, 3) := by decide +kernel
theorem dX4_nextOf_6 : decode cX4_nextOf 6 = .ok (.aload_n 0, 1) := by decide +kernel
theorem dX4_nextOf_7 : decode cX4_nextOf 7 = .ok (.iload_n 1, 1) := by decide +kernel
theorem dX4_nextOf_8 : decode cX4_nextOf 8 = .ok (.iconst 4, 1) := by decide +kernel
theorem dX4_nextOf_9 : decode cX4_nextOf 9 = .ok (.invokevirtual 28, 3) := by decide +kernel
theorem dX4_nextOf_12 : decode cX4_nextOf 12 = .ok (.iadd, 1) := by decide +kernel
theorem dX4_nextOf_13 : decode cX4_nextOf 13 = .ok (.bipush 36, 2) := by decide +kernel
theorem dX4_nextOf_15 : decode cX4_nextOf 15 = .ok (.iadd, 1) := by decide +kernel
theorem dX4_nextOf_16 : decode cX4_nextOf 16 = .ok (.bipush 36, 2) := by decide +kernel
theorem dX4_nextOf_18 : decode cX4_nextOf 18 = .ok (.irem, 1) := by decide +kernel
theorem dX4_nextOf_19 : decode cX4_nextOf 19 = .ok (.ireturn, 1) := by decide +kernel
set_option maxRecDepth 20000 in
theorem ggX4_isOnStep_X4_of : GoodIn wsX4_isOnStep wsX4_of := goodIn_r _ [5, 6, 7, 8, 9, 10, 11, 12] (by decide +kernel) (by decide +kernel)
set_option maxRecDepth 20000 in
theorem gX4_isOnStep_X4_of : GoodIn wsX4_isOnStep (wsV RX4 28 RX4 yX4_of wsX4_of) := goodIn_app (goodIn_of _ (by decide +kernel)) ggX4_isOnStep_X4_of
theorem dX4_isOnStep_0 : decode cX4_isOnStep 0 = .ok (.aload_n 0, 1) := by decide +kernel
theorem dX4_isOnStep_1 : decode cX4_isOnStep 1 = .ok (.iload_n 1, 1) := by decide +kernel
theorem dX4_isOnStep_2 : decode cX4_isOnStep 2 = .ok (.iconst 5, 1) := by decide +kernel
theorem dX4_isOnStep_3 : decode cX4_isOnStep 3 = .ok (.invokevirtual 28, 3) := by decide +kernel
theorem dX4_isOnStep_6 : decode cX4_isOnStep 6 = .ok (.ifCond .le 7, 3) := by decide +kernel
theorem dX4_isOnStep_9 : decode cX4_isOnStep 9 = .ok (.iconst 1, 1) := by decide +kernel
theorem dX4_isOnStep_10 : decode cX4_isOnStep 10 = .ok (.goto 4, 3) := by decide +kernel
theorem dX4_isOnStep_13 : decode cX4_isOnStep 13 = .ok (.iconst 0, 1) := by decide +kernel
theorem dX4_isOnStep_14 : decode cX4_isOnStep 14 = .ok (.ireturn, 1) := by decide +kernel
set_option maxRecDepth 20000 in
theorem ggX4_occupies_X4_of : GoodIn wsX4_occupies wsX4_of := goodIn_r _ [5, 6, 23, 24, 25, 26, 27, 28] (by decide +kernel) (by decide +kernel)
set_option maxRecDepth 20000 in
theorem gX4_occupies_X4_of : GoodIn wsX4_occupies (wsV RX4 28 RX4 yX4_of wsX4_of) := goodIn_app (goodIn_of _ (by decide +kernel)) ggX4_occupies_X4_of
set_option maxRecDepth 20000 in
theorem ggX4_occupies_X4_contains : GoodIn wsX4_occupies wsX4_contains := goodIn_r _ [10, 1, 2, 3, 4, 5, 6, 23, 24, 25, 26, 27, 28] (by decide +kernel) (by decide +kernel)
set_option maxRecDepth 20000 in
theorem gX4_occupies_X4_contains : GoodIn wsX4_occupies (wsV RX4 32 RX4 yX4_contains wsX4_contains) := goodIn_app (goodIn_of _ (by decide +kernel)) ggX4_occupies_X4_contains
set_option maxRecDepth 20000 in
theorem ggX4_occupies_X4_isOnStep : GoodIn wsX4_occupies wsX4_isOnStep := goodIn_r _ [14, 1, 2, 3, 4, 5, 6, 23, 24, 25, 26, 27, 28] (by decide +kernel) (by decide +kernel)
set_option maxRecDepth 20000 in
theorem gX4_occupies_X4_isOnStep : GoodIn wsX4_occupies (wsV RX4 35 RX4 yX4_isOnStep wsX4_isOnStep) := goodIn_app (goodIn_of _ (by decide +kernel)) ggX4_occupies_X4_isOnStep
set_option maxRecDepth 20000 in
theorem ggX4_occupies_X4_nextOf : GoodIn wsX4_occupies wsX4_nextOf := goodIn_r _ [18, 1, 2, 3, 4, 5, 6, 23, 24, 25, 26, 27, 28] (by decide +kernel) (by decide +kernel)
set_option maxRecDepth 20000 in
theorem gX4_occupies_X4_nextOf : GoodIn wsX4_occupies (wsV RX4 39 RX4 yX4_nextOf wsX4_nextOf) := goodIn_app (goodIn_of _ (by decide +kernel)) ggX4_occupies_X4_nextOf
set_option maxRecDepth 20000 in
theorem ggX4_occupies_X4_hasArc : GoodIn wsX4_occupies wsX4_hasArc := goodIn_r _ [22, 1, 2, 3, 4, 5, 6, 23, 24, 25, 26, 27, 28] (by decide +kernel) (by decide +kernel)
set_option maxRecDepth 20000 in
theorem gX4_occupies_X4_hasArc : GoodIn wsX4_occupies (wsV RX4 43 RX4 yX4_hasArc wsX4_hasArc) := goodIn_app (goodIn_of _ (by decide +kernel)) ggX4_occupies_X4_hasArc
theorem dX4_occupies_0 : decode cX4_occupies 0 = .ok (.aload_n 0, 1) := by decide +kernel
theorem dX4_occupies_1 : decode cX4_occupies 1 = .ok (.iload_n 1, 1) := by decide +kernel
theorem dX4_occupies_2 : decode cX4_occupies 2 = .ok (.iload_n 2, 1) := by decide +kernel
theorem dX4_occupies_3 : decode cX4_occupies 3 = .ok (.aload_n 0, 1) := by decide +kernel
theorem dX4_occupies_4 : decode cX4_occupies 4 = .ok (.iload_n 1, 1) := by decide +kernel
theorem dX4_occupies_5 : decode cX4_occupies 5 = .ok (.iconst 0, 1) := by decide +kernel
theorem dX4_occupies_6 : decode cX4_occupies 6 = .ok (.invokevirtual 28, 3) := by decide +kernel
theorem dX4_occupies_9 : decode cX4_occupies 9 = .ok (.invokevirtual 32, 3) := by decide +kernel
theorem dX4_occupies_12 : decode cX4_occupies 12 = .ok (.ifCond .ne 45, 3) := by decide +kernel
theorem dX4_occupies_15 : decode cX4_occupies 15 = .ok (.aload_n 0, 1) := by decide +kernel
theorem dX4_occupies_16 : decode cX4_occupies 16 = .ok (.iload_n 1, 1) := by decide +kernel
theorem dX4_occupies_17 : decode cX4_occupies 17 = .ok (.invokevirtual 35, 3) := by decide +kernel
theorem dX4_occupies_20 : decode cX4_occupies 20 = .ok (.ifCond .eq 17, 3) := by decide +kernel
theorem dX4_occupies_23 : decode cX4_occupies 23 = .ok (.aload_n 0, 1) := by decide +kernel
theorem dX4_occupies_24 : decode cX4_occupies 24 = .ok (.iload_n 1, 1) := by decide +kernel
theorem dX4_occupies_25 : decode cX4_occupies 25 = .ok (.iload_n 2, 1) := by decide +kernel
theorem dX4_occupies_26 : decode cX4_occupies 26 = .ok (.aload_n 0, 1) := by decide +kernel
theorem dX4_occupies_27 : decode cX4_occupies 27 = .ok (.iload_n 1, 1) := by decide +kernel
theorem dX4_occupies_28 : decode cX4_occupies 28 = .ok (.invokevirtual 39, 3) := by decide +kernel
theorem dX4_occupies_31 : decode cX4_occupies 31 = .ok (.invokevirtual 32, 3) := by decide +kernel
theorem dX4_occupies_34 : decode cX4_occupies 34 = .ok (.ifCond .ne 23, 3) := by decide +kernel
theorem dX4_occupies_37 : decode cX4_occupies 37 = .ok (.aload_n 0, 1) := by decide +kernel
theorem dX4_occupies_38 : decode cX4_occupies 38 = .ok (.iload_n 1, 1) := by decide +kernel
theorem dX4_occupies_39 : decode cX4_occupies 39 = .ok (.bipush 7, 2) := by decide +kernel
theorem dX4_occupies_41 : decode cX4_occupies 41 = .ok (.invokevirtual 28, 3) := by decide +kernel
theorem dX4_occupies_44 : decode cX4_occupies 44 = .ok (.iconst 1, 1) := by decide +kernel
theorem dX4_occupies_45 : decode cX4_occupies 45 = .ok (.if_icmp .ne 16, 3) := by decide +kernel
theorem dX4_occupies_48 : decode cX4_occupies 48 = .ok (.aload_n 0, 1) := by decide +kernel
theorem dX4_occupies_49 : decode cX4_occupies 49 = .ok (.iload_n 1, 1) := by decide +kernel
theorem dX4_occupies_50 : decode cX4_occupies 50 = .ok (.iload_n 2, 1) := by decide +kernel
theorem dX4_occupies_51 : decode cX4_occupies 51 = .ok (.invokevirtual 43, 3) := by decide +kernel
theorem dX4_occupies_54 : decode cX4_occupies 54 = .ok (.ifCond .eq 7, 3) := by decide +kernel
theorem dX4_occupies_57 : decode cX4_occupies 57 = .ok (.iconst 1, 1) := by decide +kernel
theorem dX4_occupies_58 : decode cX4_occupies 58 = .ok (.goto 4, 3) := by decide +kernel
theorem dX4_occupies_61 : decode cX4_occupies 61 = .ok (.iconst 0, 1) := by decide +kernel
theorem dX4_occupies_62 : decode cX4_occupies 62 = .ok (.ireturn, 1) := by decide +kernel
set_option maxRecDepth 20000 in
theorem ggX4_inWay_X4_nextOf : GoodIn wsX4_inWay wsX4_nextOf := goodIn_r _ [6, 7, 8, 9, 5, 10, 1, 27, 28, 29, 30, 31, 32] (by decide +kernel) (by decide +kernel)
set_option maxRecDepth 20000 in
theorem gX4_inWay_X4_nextOf : GoodIn wsX4_inWay (wsV RX4 39 RX4 yX4_nextOf wsX4_nextOf) := goodIn_app (goodIn_of _ (by decide +kernel)) ggX4_inWay_X4_nextOf
set_option maxRecDepth 20000 in
theorem ggX4_inWay_X4_contains : GoodIn wsX4_inWay wsX4_contains := goodIn_r _ [14, 7, 8, 9, 5, 10, 1, 27, 28, 29, 30, 31, 32] (by decide +kernel) (by decide +kernel)
set_option maxRecDepth 20000 in
theorem gX4_inWay_X4_contains : GoodIn wsX4_inWay (wsV RX4 32 RX4 yX4_contains wsX4_contains) := goodIn_app (goodIn_of _ (by decide +kernel)) ggX4_inWay_X4_contains
set_option maxRecDepth 20000 in
theorem ggX4_inWay_X4_occupies : GoodIn wsX4_inWay wsX4_occupies := goodIn_r _ [18, 7, 8, 9, 5, 10, 1, 11, 12, 13, 14, 19, 20, 21, 22, 2, 3, 4, 6, 23, 24, 25, 26, 27, 28, 29, 30, 31, 32] (by decide +kernel) (by decide +kernel)
set_option maxRecDepth 20000 in
theorem gX4_inWay_X4_occupies : GoodIn wsX4_inWay (wsV RX4 47 RX4 yX4_occupies wsX4_occupies) := goodIn_app (goodIn_of _ (by decide +kernel)) ggX4_inWay_X4_occupies
theorem dX4_inWay_0 : decode cX4_inWay 0 = .ok (.bipush (-100), 2) := by decide +kernel
