theorem dX1_passTick_25 : decode cX1_passTick 25 = .ok (.bipush 12, 2) := by decide +kernel
theorem dX1_passTick_27 : decode cX1_passTick 27 = .ok (.iload_n 3, 1) := by decide +kernel
theorem dX1_passTick_28 : decode cX1_passTick 28 = .ok (.iadd, 1) := by decide +kernel
theorem dX1_passTick_29 : decode cX1_passTick 29 = .ok (.iaload, 1) := by decide +kernel
theorem dX1_passTick_30 : decode cX1_passTick 30 = .ok (.iload_n 2, 1) := by decide +kernel
theorem dX1_passTick_31 : decode cX1_passTick 31 = .ok (.if_icmp .ne 13, 3) := by decide +kernel
theorem dX1_passTick_34 : decode cX1_passTick 34 = .ok (.aload_n 0, 1) := by decide +kernel
theorem dX1_passTick_35 : decode cX1_passTick 35 = .ok (.iload_n 3, 1) := by decide +kernel
theorem dX1_passTick_36 : decode cX1_passTick 36 = .ok (.invokevirtual 71, 3) := by decide +kernel
theorem dX1_passTick_39 : decode cX1_passTick 39 = .ok (.ifCond .eq 5, 3) := by decide +kernel
theorem dX1_passTick_42 : decode cX1_passTick 42 = .ok (.iconst 1, 1) := by decide +kernel
theorem dX1_passTick_43 : decode cX1_passTick 43 = .ok (.istore_n 1, 1) := by decide +kernel
theorem dX1_passTick_44 : decode cX1_passTick 44 = .ok (.iinc 3 1, 3) := by decide +kernel
theorem dX1_passTick_47 : decode cX1_passTick 47 = .ok (.goto (-36), 3) := by decide +kernel
theorem dX1_passTick_50 : decode cX1_passTick 50 = .ok (.iinc 2 (-1), 3) := by decide +kernel
theorem dX1_passTick_53 : decode cX1_passTick 53 = .ok (.goto (-48), 3) := by decide +kernel
theorem dX1_passTick_56 : decode cX1_passTick 56 = .ok (.aload_n 0, 1) := by decide +kernel
theorem dX1_passTick_57 : decode cX1_passTick 57 = .ok (.getfield 11, 3) := by decide +kernel
theorem dX1_passTick_60 : decode cX1_passTick 60 = .ok (.iconst 0, 1) := by decide +kernel
theorem dX1_passTick_61 : decode cX1_passTick 61 = .ok (.dup2, 1) := by decide +kernel
theorem dX1_passTick_62 : decode cX1_passTick 62 = .ok (.iaload, 1) := by decide +kernel
theorem dX1_passTick_63 : decode cX1_passTick 63 = .ok (.iconst 1, 1) := by decide +kernel
theorem dX1_passTick_64 : decode cX1_passTick 64 = .ok (.iadd, 1) := by decide +kernel
theorem dX1_passTick_65 : decode cX1_passTick 65 = .ok (.iastore, 1) := by decide +kernel
theorem dX1_passTick_66 : decode cX1_passTick 66 = .ok (.iload_n 1, 1) := by decide +kernel
theorem dX1_passTick_67 : decode cX1_passTick 67 = .ok (.ireturn, 1) := by decide +kernel
set_option maxRecDepth 20000 in
theorem ggX1_turnJib_X1_isLeft : GoodIn wsX1_turnJib wsX1_isLeft := goodIn_r _ [6, 1, 53] (by decide +kernel) (by decide +kernel)
set_option maxRecDepth 20000 in
theorem gX1_turnJib_X1_isLeft : GoodIn wsX1_turnJib (wsV RX1 35 RX1 yX1_isLeft wsX1_isLeft) := goodIn_app (goodIn_of _ (by decide +kernel)) ggX1_turnJib_X1_isLeft
set_option maxRecDepth 20000 in
theorem ggX1_turnJib_X1_turnToWind : GoodIn wsX1_turnJib wsX1_turnToWind := goodIn_r _ [10, 1, 11, 12, 13, 14, 15, 16, 53] (by decide +kernel) (by decide +kernel)
set_option maxRecDepth 20000 in
theorem gX1_turnJib_X1_turnToWind : GoodIn wsX1_turnJib (wsV RX1 74 RX1 yX1_turnToWind wsX1_turnToWind) := goodIn_app (goodIn_of _ (by decide +kernel)) ggX1_turnJib_X1_turnToWind
set_option maxRecDepth 20000 in
theorem ggX1_turnJib_X1_hasTarget : GoodIn wsX1_turnJib wsX1_hasTarget := goodIn_r _ [20, 1, 53] (by decide +kernel) (by decide +kernel)
set_option maxRecDepth 20000 in
theorem gX1_turnJib_X1_hasTarget : GoodIn wsX1_turnJib (wsV RX1 48 RX1 yX1_hasTarget wsX1_hasTarget) := goodIn_app (goodIn_of _ (by decide +kernel)) ggX1_turnJib_X1_hasTarget
set_option maxRecDepth 20000 in
theorem ggX1_turnJib_X1_blockerOf : GoodIn wsX1_turnJib wsX1_blockerOf := goodIn_r _ [24, 1, 17, 18, 19, 5, 20, 25, 26, 27, 28, 29, 30, 31, 32, 33, 34, 35, 36, 37, 38, 39, 40, 2, 3, 4, 6, 41, 42, 43, 44, 53] (by decide +kernel) (by decide +kernel)
set_option maxRecDepth 20000 in
theorem gX1_turnJib_X1_blockerOf : GoodIn wsX1_turnJib (wsV RX1 77 RX1 yX1_blockerOf wsX1_blockerOf) := goodIn_app (goodIn_of _ (by decide +kernel)) ggX1_turnJib_X1_blockerOf
set_option maxRecDepth 20000 in
theorem ggX1_turnJib_X1_endStep : GoodIn wsX1_turnJib wsX1_endStep := goodIn_r _ [48, 1, 29, 30, 31, 5, 32, 49, 50, 51, 52, 53] (by decide +kernel) (by decide +kernel)
set_option maxRecDepth 20000 in
theorem gX1_turnJib_X1_endStep : GoodIn wsX1_turnJib (wsV RX1 80 RX1 yX1_endStep wsX1_endStep) := goodIn_app (goodIn_of _ (by decide +kernel)) ggX1_turnJib_X1_endStep
theorem dX1_turnJib_0 : decode cX1_turnJib 0 = .ok (.aload_n 0, 1) := by decide +kernel
theorem dX1_turnJib_1 : decode cX1_turnJib 1 = .ok (.iload_n 1, 1) := by decide +kernel
theorem dX1_turnJib_2 : decode cX1_turnJib 2 = .ok (.invokevirtual 35, 3) := by decide +kernel
theorem dX1_turnJib_5 : decode cX1_turnJib 5 = .ok (.ifCond .eq 9, 3) := by decide +kernel
theorem dX1_turnJib_8 : decode cX1_turnJib 8 = .ok (.aload_n 0, 1) := by decide +kernel
theorem dX1_turnJib_9 : decode cX1_turnJib 9 = .ok (.iload_n 1, 1) := by decide +kernel
theorem dX1_turnJib_10 : decode cX1_turnJib 10 = .ok (.invokevirtual 74, 3) := by decide +kernel
theorem dX1_turnJib_13 : decode cX1_turnJib 13 = .ok (.ireturn, 1) := by decide +kernel
theorem dX1_turnJib_14 : decode cX1_turnJib 14 = .ok (.aload_n 0, 1) := by decide +kernel
theorem dX1_turnJib_15 : decode cX1_turnJib 15 = .ok (.iload_n 1, 1) := by decide +kernel
theorem dX1_turnJib_16 : decode cX1_turnJib 16 = .ok (.invokevirtual 48, 3) := by decide +kernel
theorem dX1_turnJib_19 : decode cX1_turnJib 19 = .ok (.ifCond .ne 5, 3) := by decide +kernel
theorem dX1_turnJib_22 : decode cX1_turnJib 22 = .ok (.iconst 0, 1) := by decide +kernel
theorem dX1_turnJib_23 : decode cX1_turnJib 23 = .ok (.ireturn, 1) := by decide +kernel
theorem dX1_turnJib_24 : decode cX1_turnJib 24 = .ok (.aload_n 0, 1) := by decide +kernel
theorem dX1_turnJib_25 : decode cX1_turnJib 25 = .ok (.iload_n 1, 1) := by decide +kernel
theorem dX1_turnJib_26 : decode cX1_turnJib 26 = .ok (.invokevirtual 77, 3) := by decide +kernel
theorem dX1_turnJib_29 : decode cX1_turnJib 29 = .ok (.bipush (-100), 2) := by decide +kernel
theorem dX1_turnJib_31 : decode cX1_turnJib 31 = .ok (.if_icmp .eq 18, 3) := by decide +kernel
theorem dX1_turnJib_34 : decode cX1_turnJib 34 = .ok (.aload_n 0, 1) := by decide +kernel
theorem dX1_turnJib_35 : decode cX1_turnJib 35 = .ok (.getfield 11, 3) := by decide +kernel
theorem dX1_turnJib_38 : decode cX1_turnJib 38 = .ok (.bipush 28, 2) := by decide +kernel
theorem dX1_turnJib_40 : decode cX1_turnJib 40 = .ok (.iload_n 1, 1) := by decide +kernel
theorem dX1_turnJib_41 : decode cX1_turnJib 41 = .ok (.iadd, 1) := by decide +kernel
theorem dX1_turnJib_42 : decode cX1_turnJib 42 = .ok (.dup2, 1) := by decide +kernel
theorem dX1_turnJib_43 : decode cX1_turnJib 43 = .ok (.iaload, 1) := by decide +kernel
theorem dX1_turnJib_44 : decode cX1_turnJib 44 = .ok (.iconst 1, 1) := by decide +kernel
theorem dX1_turnJib_45 : decode cX1_turnJib 45 = .ok (.iadd, 1) := by decide +kernel
theorem dX1_turnJib_46 : decode cX1_turnJib 46 = .ok (.iastore, 1) := by decide +kernel
theorem dX1_turnJib_47 : decode cX1_turnJib 47 = .ok (.iconst 0, 1) := by decide +kernel
theorem dX1_turnJib_48 : decode cX1_turnJib 48 = .ok (.ireturn, 1) := by decide +kernel
theorem dX1_turnJib_49 : decode cX1_turnJib 49 = .ok (.aload_n 0, 1) := by decide +kernel
theorem dX1_turnJib_50 : decode cX1_turnJib 50 = .ok (.getfield 11, 3) := by decide +kernel
theorem dX1_turnJib_53 : decode cX1_turnJib 53 = .ok (.bipush 24, 2) := by decide +kernel
theorem dX1_turnJib_55 : decode cX1_turnJib 55 = .ok (.iload_n 1, 1) := by decide +kernel
theorem dX1_turnJib_56 : decode cX1_turnJib 56 = .ok (.iadd, 1) := by decide +kernel
theorem dX1_turnJib_57 : decode cX1_turnJib 57 = .ok (.dup2, 1) := by decide +kernel
theorem dX1_turnJib_58 : decode cX1_turnJib 58 = .ok (.iaload, 1) := by decide +kernel
theorem dX1_turnJib_59 : decode cX1_turnJib 59 = .ok (.iconst 1, 1) := by decide +kernel
theorem dX1_turnJib_60 : decode cX1_turnJib 60 = .ok (.iadd, 1) := by decide +kernel
theorem dX1_turnJib_61 : decode cX1_turnJib 61 = .ok (.iastore, 1) := by decide +kernel
theorem dX1_turnJib_62 : decode cX1_turnJib 62 = .ok (.aload_n 0, 1) := by decide +kernel
theorem dX1_turnJib_63 : decode cX1_turnJib 63 = .ok (.getfield 11, 3) := by decide +kernel
theorem dX1_turnJib_66 : decode cX1_turnJib 66 = .ok (.bipush 24, 2) := by decide +kernel
theorem dX1_turnJib_68 : decode cX1_turnJib 68 = .ok (.iload_n 1, 1) := by decide +kernel
theorem dX1_turnJib_69 : decode cX1_turnJib 69 = .ok (.iadd, 1) := by decide +kernel
theorem dX1_turnJib_70 : decode cX1_turnJib 70 = .ok (.iaload, 1) := by decide +kernel
theorem dX1_turnJib_71 : decode cX1_turnJib 71 = .ok (.aload_n 0, 1) := by decide +kernel
theorem dX1_turnJib_72 : decode cX1_turnJib 72 = .ok (.getfield 11, 3) := by decide +kernel
theorem dX1_turnJib_75 : decode cX1_turnJib 75 = .ok (.bipush 8, 2) := by decide +kernel
theorem dX1_turnJib_77 : decode cX1_turnJib 77 = .ok (.iload_n 1, 1) := by decide +kernel
theorem dX1_turnJib_78 : decode cX1_turnJib 78 = .ok (.iadd, 1) := by decide +kernel
theorem dX1_turnJib_79 : decode cX1_turnJib 79 = .ok (.iaload, 1) := by decide +kernel
theorem dX1_turnJib_80 : decode cX1_turnJib 80 = .ok (.if_icmp .ne 8, 3) := by decide +kernel
theorem dX1_turnJib_83 : decode cX1_turnJib 83 = .ok (.aload_n 0, 1) := by decide +kernel
theorem dX1_turnJib_84 : decode cX1_turnJib 84 = .ok (.iload_n 1, 1) := by decide +kernel
theorem dX1_turnJib_85 : decode cX1_turnJib 85 = .ok (.invokevirtual 80, 3) := by decide +kernel
theorem dX1_turnJib_88 : decode cX1_turnJib 88 = .ok (.iconst 1, 1) := by decide +kernel
theorem dX1_turnJib_89 : decode cX1_turnJib 89 = .ok (.ireturn, 1) := by decide +kernel
set_option maxRecDepth 20000 in
theorem ggX1_turnToWind_X3_shorterWay : GoodIn wsX1_turnToWind wsX3_shorterWay := goodIn_r _ [4, 5, 6, 3, 7] (by decide +kernel) (by decide +kernel)
set_option maxRecDepth 20000 in
theorem gX1_turnToWind_X3_shorterWay_n38 : GoodIn wsX1_turnToWind (wsX3_shorterWay) := ggX1_turnToWind_X3_shorterWay
theorem dX1_turnToWind_0 : decode cX1_turnToWind 0 = .ok (.aload_n 0, 1) := by decide +kernel
theorem dX1_turnToWind_1 : decode cX1_turnToWind 1 = .ok (.getfield 11, 3) := by decide +kernel
theorem dX1_turnToWind_4 : decode cX1_turnToWind 4 = .ok (.iconst 4, 1) := by decide +kernel
theorem dX1_turnToWind_5 : decode cX1_turnToWind 5 = .ok (.iload_n 1, 1) := by decide +kernel
theorem dX1_turnToWind_6 : decode cX1_turnToWind 6 = .ok (.iadd, 1) := by decide +kernel
theorem dX1_turnToWind_7 : decode cX1_turnToWind 7 = .ok (.iaload, 1) := by decide +kernel
theorem dX1_turnToWind_8 : decode cX1_turnToWind 8 = .ok (.istore_n 2, 1) := by decide +kernel
theorem dX1_turnToWind_9 : decode cX1_turnToWind 9 = .ok (.iload_n 2, 1) := by decide +kernel
theorem dX1_turnToWind_10 : decode cX1_turnToWind 10 = .ok (.aload_n 0, 1) := by decide +kernel
theorem dX1_turnToWind_11 : decode cX1_turnToWind 11 = .ok (.getfield 11, 3) := by decide +kernel
theorem dX1_turnToWind_14 : decode cX1_turnToWind 14 = .ok (.iconst 1, 1) := by decide +kernel
theorem dX1_turnToWind_15 : decode cX1_turnToWind 15 = .ok (.iaload, 1) := by decide +kernel
theorem dX1_turnToWind_16 : decode cX1_turnToWind 16 = .ok (.if_icmp .ne 5, 3) := by decide +kernel
theorem dX1_turnToWind_19 : decode cX1_turnToWind 19 = .ok (.iconst 0, 1) := by decide +kernel
theorem dX1_turnToWind_20 : decode cX1_turnToWind 20 = .ok (.ireturn, 1) := by decide +kernel
theorem dX1_turnToWind_21 : decode cX1_turnToWind 21 = .ok (.aload_n 0, 1) := by decide +kernel
theorem dX1_turnToWind_22 : decode cX1_turnToWind 22 = .ok (.getfield 11, 3) := by decide +kernel
theorem dX1_turnToWind_25 : decode cX1_turnToWind 25 = .ok (.iconst 4, 1) := by decide +kernel
theorem dX1_turnToWind_26 : decode cX1_turnToWind 26 = .ok (.iload_n 1, 1) := by decide +kernel
theorem dX1_turnToWind_27 : decode cX1_turnToWind 27 = .ok (.iadd, 1) := by decide +kernel
theorem dX1_turnToWind_28 : decode cX1_turnToWind 28 = .ok (.iload_n 2, 1) := by decide +kernel
theorem dX1_turnToWind_29 : decode cX1_turnToWind 29 = .ok (.iload_n 2, 1) := by decide +kernel
theorem dX1_turnToWind_30 : decode cX1_turnToWind 30 = .ok (.aload_n 0, 1) := by decide +kernel
theorem dX1_turnToWind_31 : decode cX1_turnToWind 31 = .ok (.getfield 11, 3) := by decide +kernel
theorem dX1_turnToWind_34 : decode cX1_turnToWind 34 = .ok (.iconst 1, 1) := by decide +kernel
theorem dX1_turnToWind_35 : decode cX1_turnToWind 35 = .ok (.iaload, 1) := by decide +kernel
theorem dX1_turnToWind_36 : decode cX1_turnToWind 36 = .ok (.invokestatic 38, 3) := by decide +kernel
theorem dX1_turnToWind_39 : decode cX1_turnToWind 39 = .ok (.iadd, 1) := by decide +kernel
theorem dX1_turnToWind_40 : decode cX1_turnToWind 40 = .ok (.bipush 36, 2) := by decide +kernel
theorem dX1_turnToWind_42 : decode cX1_turnToWind 42 = .ok (.iadd, 1) := by decide +kernel
theorem dX1_turnToWind_43 : decode cX1_turnToWind 43 = .ok (.bipush 36, 2) := by decide +kernel
theorem dX1_turnToWind_45 : decode cX1_turnToWind 45 = .ok (.irem, 1) := by decide +kernel
theorem dX1_turnToWind_46 : decode cX1_turnToWind 46 = .ok (.iastore, 1) := by decide +kernel
theorem dX1_turnToWind_47 : decode cX1_turnToWind 47 = .ok (.iconst 1, 1) := by decide +kernel
theorem dX1_turnToWind_48 : decode cX1_turnToWind 48 = .ok (.ireturn, 1) := by decide +kernel
set_option maxRecDepth 20000 in
theorem ggX1_endStep_X1_nextAngle : GoodIn wsX1_endStep wsX1_nextAngle := goodIn_r _ [6, 1, 11] (by decide +kernel) (by decide +kernel)
set_option maxRecDepth 20000 in
theorem gX1_endStep_X1_nextAngle : GoodIn wsX1_endStep (wsV RX1 57 RX1 yX1_nextAngle wsX1_nextAngle) := goodIn_app (goodIn_of _ (by decide +kernel)) ggX1_endStep_X1_nextAngle
set_option maxRecDepth 20000 in
theorem ggX1_endStep_X1_dropTarget : GoodIn wsX1_endStep wsX1_dropTarget := goodIn_r _ [10, 1, 11] (by decide +kernel) (by decide +kernel)
set_option maxRecDepth 20000 in
theorem gX1_endStep_X1_dropTarget : GoodIn wsX1_endStep (wsV RX1 32 RX1 yX1_dropTarget wsX1_dropTarget) := goodIn_app (goodIn_of _ (by decide +kernel)) ggX1_endStep_X1_dropTarget
theorem dX1_endStep_0 : decode cX1_endStep 0 = .ok (.aload_n 0, 1) := by decide +kernel
theorem dX1_endStep_1 : decode cX1_endStep 1 = .ok (.getfield 11, 3) := by decide +kernel
theorem dX1_endStep_4 : decode cX1_endStep 4 = .ok (.iconst 4, 1) := by decide +kernel
theorem dX1_endStep_5 : decode cX1_endStep 5 = .ok (.iload_n 1, 1) := by decide +kernel
theorem dX1_endStep_6 : decode cX1_endStep 6 = .ok (.iadd, 1) := by decide +kernel
theorem dX1_endStep_7 : decode cX1_endStep 7 = .ok (.aload_n 0, 1) := by decide +kernel
theorem dX1_endStep_8 : decode cX1_endStep 8 = .ok (.iload_n 1, 1) := by decide +kernel
theorem dX1_endStep_9 : decode cX1_endStep 9 = .ok (.invokevirtual 57, 3) := by decide +kernel
theorem dX1_endStep_12 : decode cX1_endStep 12 = .ok (.iastore, 1) := by decide +kernel
theorem dX1_endStep_13 : decode cX1_endStep 13 = .ok (.aload_n 0, 1) := by decide +kernel
theorem dX1_endStep_14 : decode cX1_endStep 14 = .ok (.getfield 11, 3) := by decide +kernel
theorem dX1_endStep_17 : decode cX1_endStep 17 = .ok (.bipush 24, 2) := by decide +kernel
theorem dX1_endStep_19 : decode cX1_endStep 19 = .ok (.iload_n 1, 1) := by decide +kernel
theorem dX1_endStep_20 : decode cX1_endStep 20 = .ok (.iadd, 1) := by decide +kernel
theorem dX1_endStep_21 : decode cX1_endStep 21 = .ok (.iconst 0, 1) := by decide +kernel
theorem dX1_endStep_22 : decode cX1_endStep 22 = .ok (.iastore, 1) := by decide +kernel
theorem dX1_endStep_23 : decode cX1_endStep 23 = .ok (.aload_n 0, 1) := by decide +kernel
theorem dX1_endStep_24 : decode cX1_endStep 24 = .ok (.getfield 11, 3) := by decide +kernel
theorem dX1_endStep_27 : decode cX1_endStep 27 = .ok (.bipush 40, 2) := by decide +kernel
theorem dX1_endStep_29 : decode cX1_endStep 29 = .ok (.iload_n 1, 1) := by decide +kernel
theorem dX1_endStep_30 : decode cX1_endStep 30 = .ok (.iadd, 1) := by decide +kernel
theorem dX1_endStep_31 : decode cX1_endStep 31 = .ok (.dup2, 1) := by decide +kernel
theorem dX1_endStep_32 : decode cX1_endStep 32 = .ok (.iaload, 1) := by decide +kernel
theorem dX1_endStep_33 : decode cX1_endStep 33 = .ok (.iconst 1, 1) := by decide +kernel
theorem dX1_endStep_34 : decode cX1_endStep 34 = .ok (.iadd, 1) := by decide +kernel
theorem dX1_endStep_35 : decode cX1_endStep 35 = .ok (.iastore, 1) := by decide +kernel
theorem dX1_endStep_36 : decode cX1_endStep 36 = .ok (.aload_n 0, 1) := by decide +kernel
theorem dX1_endStep_37 : decode cX1_endStep 37 = .ok (.getfield 11, 3) := by decide +kernel
theorem dX1_endStep_40 : decode cX1_endStep 40 = .ok (.iconst 4, 1) := by decide +kernel
theorem dX1_endStep_41 : decode cX1_endStep 41 = .ok (.iload_n 1, 1) := by decide +kernel
theorem dX1_endStep_42 : decode cX1_endStep 42 = .ok (.iadd, 1) := by decide +kernel
theorem dX1_endStep_43 : decode cX1_endStep 43 = .ok (.iaload, 1) := by decide +kernel
theorem dX1_endStep_44 : decode cX1_endStep 44 = .ok (.aload_n 0, 1) := by decide +kernel
theorem dX1_endStep_45 : decode cX1_endStep 45 = .ok (.getfield 11, 3) := by decide +kernel
theorem dX1_endStep_48 : decode cX1_endStep 48 = .ok (.bipush 16, 2) := by decide +kernel
theorem dX1_endStep_50 : decode cX1_endStep 50 = .ok (.iload_n 1, 1) := by decide +kernel
theorem dX1_endStep_51 : decode cX1_endStep 51 = .ok (.iadd, 1) := by decide +kernel
theorem dX1_endStep_52 : decode cX1_endStep 52 = .ok (.iaload, 1) := by decide +kernel
theorem dX1_endStep_53 : decode cX1_endStep 53 = .ok (.if_icmp .ne 9, 3) := by decide +kernel
theorem dX1_endStep_56 : decode cX1_endStep 56 = .ok (.aload_n 0, 1) := by decide +kernel
theorem dX1_endStep_57 : decode cX1_endStep 57 = .ok (.iload_n 1, 1) := by decide +kernel
theorem dX1_endStep_58 : decode cX1_endStep 58 = .ok (.invokevirtual 32, 3) := by decide +kernel
theorem dX1_endStep_61 : decode cX1_endStep 61 = .ok (.pop, 1) := by decide +kernel
theorem dX1_endStep_62 : decode cX1_endStep 62 = .ok (.return_, 1) := by decide +kernel
theorem dX1_nextAngle_0 : decode cX1_nextAngle 0 = .ok (.aload_n 0, 1) := by decide +kernel
theorem dX1_nextAngle_1 : decode cX1_nextAngle 1 = .ok (.getfield 11, 3) := by decide +kernel
theorem dX1_nextAngle_4 : decode cX1_nextAngle 4 = .ok (.iconst 4, 1) := by decide +kernel
theorem dX1_nextAngle_5 : decode cX1_nextAngle 5 = .ok (.iload_n 1, 1) := by decide +kernel
theorem dX1_nextAngle_6 : decode cX1_nextAngle 6 = .ok (.iadd, 1) := by decide +kernel
theorem dX1_nextAngle_7 : decode cX1_nextAngle 7 = .ok (.iaload, 1) := by decide +kernel
theorem dX1_nextAngle_8 : decode cX1_nextAngle 8 = .ok (.aload_n 0, 1) := by decide +kernel
theorem dX1_nextAngle_9 : decode cX1_nextAngle 9 = .ok (.getfield 11, 3) := by decide +kernel
theorem dX1_nextAngle_12 : decode cX1_nextAngle 12 = .ok (.bipush 20, 2) := by decide +kernel
theorem dX1_nextAngle_14 : decode cX1_nextAngle 14 = .ok (.iload_n 1, 1) := by decide +kernel
theorem dX1_nextAngle_15 : decode cX1_nextAngle 15 = .ok (.iadd, 1) := by decide +kernel
theorem dX1_nextAngle_16 : decode cX1_nextAngle 16 = .ok (.iaload, 1) := by decide +kernel
theorem dX1_nextAngle_17 : decode cX1_nextAngle 17 = .ok (.iadd, 1) := by decide +kernel
theorem dX1_nextAngle_18 : decode cX1_nextAngle 18 = .ok (.bipush 36, 2) := by decide +kernel
theorem dX1_nextAngle_20 : decode cX1_nextAngle 20 = .ok (.iadd, 1) := by decide +kernel
theorem dX1_nextAngle_21 : decode cX1_nextAngle 21 = .ok (.bipush 36, 2) := by decide +kernel
theorem dX1_nextAngle_23 : decode cX1_nextAngle 23 = .ok (.irem, 1) := by decide +kernel
theorem dX1_nextAngle_24 : decode cX1_nextAngle 24 = .ok (.ireturn, 1) := by decide +kernel
set_option maxRecDepth 20000 in
theorem ggX1_blockerOf_X1_hasTarget : GoodIn wsX1_blockerOf wsX1_hasTarget := goodIn_r _ [6, 1, 31] (by decide +kernel) (by decide +kernel)
set_option maxRecDepth 20000 in
theorem gX1_blockerOf_X1_hasTarget : GoodIn wsX1_blockerOf (wsV RX1 48 RX1 yX1_hasTarget wsX1_hasTarget) := goodIn_app (goodIn_of _ (by decide +kernel)) ggX1_blockerOf_X1_hasTarget
set_option maxRecDepth 20000 in
theorem ggX1_blockerOf_X1_isOnStep : GoodIn wsX1_blockerOf wsX1_isOnStep := goodIn_r _ [10, 1, 31] (by decide +kernel) (by decide +kernel)
set_option maxRecDepth 20000 in
theorem gX1_blockerOf_X1_isOnStep : GoodIn wsX1_blockerOf (wsV RX1 28 RX1 yX1_isOnStep wsX1_isOnStep) := goodIn_app (goodIn_of _ (by decide +kernel)) ggX1_blockerOf_X1_isOnStep
set_option maxRecDepth 20000 in
theorem ggX1_blockerOf_X1_nextAngle : GoodIn wsX1_blockerOf wsX1_nextAngle := goodIn_r _ [14, 1, 31] (by decide +kernel) (by decide +kernel)
set_option maxRecDepth 20000 in
theorem gX1_blockerOf_X1_nextAngle : GoodIn wsX1_blockerOf (wsV RX1 57 RX1 yX1_nextAngle wsX1_nextAngle) := goodIn_app (goodIn_of _ (by decide +kernel)) ggX1_blockerOf_X1_nextAngle
set_option maxRecDepth 20000 in
theorem ggX1_blockerOf_X1_zonesAtAngle : GoodIn wsX1_blockerOf wsX1_zonesAtAngle := goodIn_r _ [18, 1, 31] (by decide +kernel) (by decide +kernel)
set_option maxRecDepth 20000 in
theorem gX1_blockerOf_X1_zonesAtAngle : GoodIn wsX1_blockerOf (wsV RX1 54 RX1 yX1_zonesAtAngle wsX1_zonesAtAngle) := goodIn_app (goodIn_of _ (by decide +kernel)) ggX1_blockerOf_X1_zonesAtAngle
set_option maxRecDepth 20000 in
theorem ggX1_blockerOf_X1_zonesOccupiedBy : GoodIn wsX1_blockerOf wsX1_zonesOccupiedBy := goodIn_r _ [22, 1, 23, 24, 25, 5, 26, 27, 28, 29, 30, 15, 16, 17, 18, 7, 8, 9, 10, 11, 12, 13, 14, 31] (by decide +kernel) (by decide +kernel)
set_option maxRecDepth 20000 in
theorem gX1_blockerOf_X1_zonesOccupiedBy : GoodIn wsX1_blockerOf (wsV RX1 21 RX1 yX1_zonesOccupiedBy wsX1_zonesOccupiedBy) := goodIn_app (goodIn_of _ (by decide +kernel)) ggX1_blockerOf_X1_zonesOccupiedBy
theorem dX1_blockerOf_0 : decode cX1_blockerOf 0 = .ok (.aload_n 0, 1) := by decide +kernel
theorem dX1_blockerOf_1 : decode cX1_blockerOf 1 = .ok (.iload_n 1, 1) := by decide +kernel
theorem dX1_blockerOf_2 : decode cX1_blockerOf 2 = .ok (.invokevirtual 48, 3) := by decide +kernel
theorem dX1_blockerOf_5 : decode cX1_blockerOf 5 = .ok (.ifCond .eq 11, 3) := by decide +kernel
theorem dX1_blockerOf_8 : decode cX1_blockerOf 8 = .ok (.aload_n 0, 1) := by decide +kernel
theorem dX1_blockerOf_9 : decode cX1_blockerOf 9 = .ok (.iload_n 1, 1) := by decide +kernel
theorem dX1_blockerOf_10 : decode cX1_blockerOf 10 = .ok (.invokevirtual 28, 3) := by decide +kernel
theorem dX1_blockerOf_13 : decode cX1_blockerOf 13 = .ok (.ifCond .eq 6, 3) := by decide +kernel
theorem dX1_blockerOf_16 : decode cX1_blockerOf 16 = .ok (.bipush (-100), 2) := by decide +kernel
theorem dX1_blockerOf_18 : decode cX1_blockerOf 18 = .ok (.ireturn, 1) := by decide +kernel
theorem dX1_blockerOf_19 : decode cX1_blockerOf 19 = .ok (.aload_n 0, 1) := by decide +kernel
theorem dX1_blockerOf_20 : decode cX1_blockerOf 20 = .ok (.iload_n 1, 1) := by decide +kernel
theorem dX1_blockerOf_21 : decode cX1_blockerOf 21 = .ok (.aload_n 0, 1) := by decide +kernel
theorem dX1_blockerOf_22 : decode cX1_blockerOf 22 = .ok (.iload_n 1, 1) := by decide +kernel
theorem dX1_blockerOf_23 : decode cX1_blockerOf 23 = .ok (.invokevirtual 57, 3) := by decide +kernel
theorem dX1_blockerOf_26 : decode cX1_blockerOf 26 = .ok (.invokevirtual 54, 3) := by decide +kernel
theorem dX1_blockerOf_29 : decode cX1_blockerOf 29 = .ok (.istore_n 2, 1) := by decide +kernel
theorem dX1_blockerOf_30 : decode cX1_blockerOf 30 = .ok (.iconst 0, 1) := by decide +kernel
theorem dX1_blockerOf_31 : decode cX1_blockerOf 31 = .ok (.istore_n 3, 1) := by decide +kernel
theorem dX1_blockerOf_32 : decode cX1_blockerOf 32 = .ok (.iload_n 3, 1) := by decide +kernel
theorem dX1_blockerOf_33 : decode cX1_blockerOf 33 = .ok (.aload_n 0, 1) := by decide +kernel
theorem dX1_blockerOf_34 : decode cX1_blockerOf 34 = .ok (.getfield 11, 3) := by decide +kernel
theorem dX1_blockerOf_37 : decode cX1_blockerOf 37 = .ok (.iconst 2, 1) := by decide +kernel
theorem dX1_blockerOf_38 : decode cX1_blockerOf 38 = .ok (.iaload, 1) := by decide +kernel
theorem dX1_blockerOf_39 : decode cX1_blockerOf 39 = .ok (.if_icmp .ge 26, 3) := by decide +kernel
theorem dX1_blockerOf_42 : decode cX1_blockerOf 42 = .ok (.iload_n 3, 1) := by decide +kernel
theorem dX1_blockerOf_43 : decode cX1_blockerOf 43 = .ok (.iload_n 1, 1) := by decide +kernel
theorem dX1_blockerOf_44 : decode cX1_blockerOf 44 = .ok (.if_icmp .eq 15, 3) := by decide +kernel
theorem dX1_blockerOf_47 : decode cX1_blockerOf 47 = .ok (.aload_n 0, 1) := by decide +kernel
theorem dX1_blockerOf_48 : decode cX1_blockerOf 48 = .ok (.iload_n 3, 1) := by decide +kernel
theorem dX1_blockerOf_49 : decode cX1_blockerOf 49 = .ok (.invokevirtual 21, 3) := by decide +kernel
theorem dX1_blockerOf_52 : decode cX1_blockerOf 52 = .ok (.iload_n 2, 1) := by decide +kernel
theorem dX1_blockerOf_53 : decode cX1_blockerOf 53 = .ok (.iand, 1) := by decide +kernel
theorem dX1_blockerOf_54 : decode cX1_blockerOf 54 = .ok (.ifCond .eq 5, 3) := by decide +kernel
theorem dX1_blockerOf_57 : decode cX1_blockerOf 57 = .ok (.iload_n 3, 1) := by decide +kernel
theorem dX1_blockerOf_58 : decode cX1_blockerOf 58 = .ok (.ireturn, 1) := by decide +kernel
theorem dX1_blockerOf_59 : decode cX1_blockerOf 59 = .ok (.iinc 3 1, 3) := by decide +kernel
theorem dX1_blockerOf_62 : decode cX1_blockerOf 62 = .ok (.goto (-30), 3) := by decide +kernel
theorem dX1_blockerOf_65 : decode cX1_blockerOf 65 = .ok (.bipush (-100), 2) := by decide +kernel
theorem dX1_blockerOf_67 : decode cX1_blockerOf 67 = .ok (.ireturn, 1) := by decide +kernel
set_option maxRecDepth 20000 in
theorem ggX1_cycleSet_X1_blockersLeadBackTo : GoodIn wsX1_cycleSet wsX1_blockersLeadBackTo := goodIn_r _ [6, 7, 8, 9, 5, 10, 1, 11, 12, 13, 14, 15, 16, 17, 18, 19, 20, 21, 22, 23, 24, 25, 26, 27, 28, 29, 30, 31, 32, 33, 34, 35, 36, 37, 38, 39] (by decide +kernel) (by decide +kernel)
set_option maxRecDepth 20000 in
theorem gX1_cycleSet_X1_blockersLeadBackTo : GoodIn wsX1_cycleSet (wsV RX1 84 RX1 yX1_blockersLeadBackTo wsX1_blockersLeadBackTo) := goodIn_app (goodIn_of _ (by decide +kernel)) ggX1_cycleSet_X1_blockersLeadBackTo
theorem dX1_cycleSet_0 : decode cX1_cycleSet 0 = .ok (.iconst 0, 1) := by decide +kernel
theorem dX1_cycleSet_1 : decode cX1_cycleSet 1 = .ok (.istore_n 1, 1) := by decide +kernel
theorem dX1_cycleSet_2 : decode cX1_cycleSet 2 = .ok (.iconst 0, 1) := by decide +kernel
theorem dX1_cycleSet_3 : decode cX1_cycleSet 3 = .ok (.istore_n 2, 1) := by decide +kernel
theorem dX1_cycleSet_4 : decode cX1_cycleSet 4 = .ok (.iload_n 2, 1) := by decide +kernel
theorem dX1_cycleSet_5 : decode cX1_cycleSet 5 = .ok (.aload_n 0, 1) := by decide +kernel
theorem dX1_cycleSet_6 : decode cX1_cycleSet 6 = .ok (.getfield 11, 3) := by decide +kernel
theorem dX1_cycleSet_9 : decode cX1_cycleSet 9 = .ok (.iconst 2, 1) := by decide +kernel
theorem dX1_cycleSet_10 : decode cX1_cycleSet 10 = .ok (.iaload, 1) := by decide +kernel
theorem dX1_cycleSet_11 : decode cX1_cycleSet 11 = .ok (.if_icmp .ge 23, 3) := by decide +kernel
theorem dX1_cycleSet_14 : decode cX1_cycleSet 14 = .ok (.aload_n 0, 1) := by decide +kernel
theorem dX1_cycleSet_15 : decode cX1_cycleSet 15 = .ok (.iload_n 2, 1) := by decide +kernel
theorem dX1_cycleSet_16 : decode cX1_cycleSet 16 = .ok (.invokevirtual 84, 3) := by decide +kernel
theorem dX1_cycleSet_19 : decode cX1_cycleSet 19 = .ok (.ifCond .eq 9, 3) := by decide +kernel
theorem dX1_cycleSet_22 : decode cX1_cycleSet 22 = .ok (.iload_n 1, 1) := by decide +kernel
theorem dX1_cycleSet_23 : decode cX1_cycleSet 23 = .ok (.iconst 1, 1) := by decide +kernel
theorem dX1_cycleSet_24 : decode cX1_cycleSet 24 = .ok (.iload_n 2, 1) := by decide +kernel
theorem dX1_cycleSet_25 : decode cX1_cycleSet 25 = .ok (.ishl, 1) := by decide +kernel
theorem dX1_cycleSet_26 : decode cX1_cycleSet 26 = .ok (.ior, 1) := by decide +kernel
theorem dX1_cycleSet_27 : decode cX1_cycleSet 27 = .ok (.istore_n 1, 1) := by decide +kernel
theorem dX1_cycleSet_28 : decode cX1_cycleSet 28 = .ok (.iinc 2 1, 3) := by decide +kernel
theorem dX1_cycleSet_31 : decode cX1_cycleSet 31 = .ok (.goto (-27), 3) := by decide +kernel
theorem dX1_cycleSet_34 : decode cX1_cycleSet 34 = .ok (.iload_n 1, 1) := by decide +kernel
theorem dX1_cycleSet_35 : decode cX1_cycleSet 35 = .ok (.ireturn, 1) := by decide +kernel
set_option maxRecDepth 20000 in
theorem ggX1_blockersLeadBackTo_X1_blockerOf : GoodIn wsX1_blockersLeadBackTo wsX1_blockerOf := goodIn_r _ [5, 6, 7, 8, 9, 4, 10, 11, 12, 13, 14, 15, 16, 17, 18, 19, 20, 21, 22, 23, 24, 25, 26, 27, 28, 29, 30, 31, 32, 33, 34, 35] (by decide +kernel) (by decide +kernel)
set_option maxRecDepth 20000 in
theorem gX1_blockersLeadBackTo_X1_blockerOf : GoodIn wsX1_blockersLeadBackTo (wsV RX1 77 RX1 yX1_blockerOf wsX1_blockerOf) := goodIn_app (goodIn_of _ (by decide +kernel)) ggX1_blockersLeadBackTo_X1_blockerOf
theorem dX1_blockersLeadBackTo_0 : decode cX1_blockersLeadBackTo 0 = .ok (.iload_n 1, 1) := by decide +kernel
theorem dX1_blockersLeadBackTo_1 : decode cX1_blockersLeadBackTo 1 = .ok (.istore_n 2, 1) := by decide +kernel
theorem dX1_blockersLeadBackTo_2 : decode cX1_blockersLeadBackTo 2 = .ok (.iconst 0, 1) := by decide +kernel
theorem dX1_blockersLeadBackTo_3 : decode cX1_blockersLeadBackTo 3 = .ok (.istore_n 3, 1) := by decide +kernel
theorem dX1_blockersLeadBackTo_4 : decode cX1_blockersLeadBackTo 4 = .ok (.iload_n 3, 1) := by decide +kernel
theorem dX1_blockersLeadBackTo_5 : decode cX1_blockersLeadBackTo 5 = .ok (.iconst 4, 1) := by decide +kernel
theorem dX1_blockersLeadBackTo_6 : decode cX1_blockersLeadBackTo 6 = .ok (.if_icmp .ge 37, 3) := by decide +kernel
theorem dX1_blockersLeadBackTo_9 : decode cX1_blockersLeadBackTo 9 = .ok (.aload_n 0, 1) := by decide +kernel
theorem dX1_blockersLeadBackTo_10 : decode cX1_blockersLeadBackTo 10 = .ok (.iload_n 2, 1) := by decide +kernel
theorem dX1_blockersLeadBackTo_11 : decode cX1_blockersLeadBackTo 11 = .ok (.invokevirtual 77, 3) := by decide +kernel
theorem dX1_blockersLeadBackTo_14 : decode cX1_blockersLeadBackTo 14 = .ok (.istore_n 2, 1) := by decide +kernel
theorem dX1_blockersLeadBackTo_15 : decode cX1_blockersLeadBackTo 15 = .ok (.iload_n 2, 1) := by decide +kernel
theorem dX1_blockersLeadBackTo_16 : decode cX1_blockersLeadBackTo 16 = .ok (.bipush (-100), 2) := by decide +kernel
theorem dX1_blockersLeadBackTo_18 : decode cX1_blockersLeadBackTo 18 = .ok (.if_icmp .eq 8, 3) := by decide +kernel
theorem dX1_blockersLeadBackTo_21 : decode cX1_blockersLeadBackTo 21 = .ok (.iload_n 2, 1) := by decide +kernel
theorem dX1_blockersLeadBackTo_22 : decode cX1_blockersLeadBackTo 22 = .ok (.iload_n 1, 1) := by decide +kernel
theorem dX1_blockersLeadBackTo_23 : decode cX1_blockersLeadBackTo 23 = .ok (.if_icmp .ne 14, 3) := by decide +kernel
theorem dX1_blockersLeadBackTo_26 : decode cX1_blockersLeadBackTo 26 = .ok (.iload_n 2, 1) := by decide +kernel
theorem dX1_blockersLeadBackTo_27 : decode cX1_blockersLeadBackTo 27 = .ok (.iload_n 1, 1) := by decide +kernel
theorem dX1_blockersLeadBackTo_28 : decode cX1_blockersLeadBackTo 28 = .ok (.if_icmp .ne 7, 3) := by decide +kernel
theorem dX1_blockersLeadBackTo_31 : decode cX1_blockersLeadBackTo 31 = .ok (.iconst 1, 1) := by decide +kernel
theorem dX1_blockersLeadBackTo_32 : decode cX1_blockersLeadBackTo 32 = .ok (.goto 4, 3) := by decide +kernel
theorem dX1_blockersLeadBackTo_35 : decode cX1_blockersLeadBackTo 35 = .ok (.iconst 0, 1) := by decide +kernel
theorem dX1_blockersLeadBackTo_36 : decode cX1_blockersLeadBackTo 36 = .ok (.ireturn, 1) := by decide +kernel
theorem dX1_blockersLeadBackTo_37 : decode cX1_blockersLeadBackTo 37 = .ok (.iinc 3 1, 3) := by decide +kernel
theorem dX1_blockersLeadBackTo_40 : decode cX1_blockersLeadBackTo 40 = .ok (.goto (-36), 3) := by decide +kernel
theorem dX1_blockersLeadBackTo_43 : decode cX1_blockersLeadBackTo 43 = .ok (.iconst 0, 1) := by decide +kernel
theorem dX1_blockersLeadBackTo_44 : decode cX1_blockersLeadBackTo 44 = .ok (.ireturn, 1) := by decide +kernel
theorem dX1_noteCount_0 : decode cX1_noteCount 0 = .ok (.aload_n 0, 1) := by decide +kernel
theorem dX1_noteCount_1 : decode cX1_noteCount 1 = .ok (.getfield 11, 3) := by decide +kernel
theorem dX1_noteCount_4 : decode cX1_noteCount 4 = .ok (.iconst 3, 1) := by decide +kernel
theorem dX1_noteCount_5 : decode cX1_noteCount 5 = .ok (.iaload, 1) := by decide +kernel
theorem dX1_noteCount_6 : decode cX1_noteCount 6 = .ok (.ireturn, 1) := by decide +kernel
theorem dX1_partOfNote_0 : decode cX1_partOfNote 0 = .ok (.aload_n 0, 1) := by decide +kernel
theorem dX1_partOfNote_1 : decode cX1_partOfNote 1 = .ok (.getfield 11, 3) := by decide +kernel
theorem dX1_partOfNote_4 : decode cX1_partOfNote 4 = .ok (.bipush 92, 2) := by decide +kernel
theorem dX1_partOfNote_6 : decode cX1_partOfNote 6 = .ok (.iload_n 1, 1) := by decide +kernel
theorem dX1_partOfNote_7 : decode cX1_partOfNote 7 = .ok (.iconst 4, 1) := by decide +kernel
theorem dX1_partOfNote_8 : decode cX1_partOfNote 8 = .ok (.imul, 1) := by decide +kernel
theorem dX1_partOfNote_9 : decode cX1_partOfNote 9 = .ok (.iadd, 1) := by decide +kernel
theorem dX1_partOfNote_10 : decode cX1_partOfNote 10 = .ok (.iload_n 2, 1) := by decide +kernel
theorem dX1_partOfNote_11 : decode cX1_partOfNote 11 = .ok (.iadd, 1) := by decide +kernel
theorem dX1_partOfNote_12 : decode cX1_partOfNote 12 = .ok (.iaload, 1) := by decide +kernel
theorem dX1_partOfNote_13 : decode cX1_partOfNote 13 = .ok (.ireturn, 1) := by decide +kernel
theorem dX1_putNote_0 : decode cX1_putNote 0 = .ok (.bipush 92, 2) := by decide +kernel
theorem dX1_putNote_2 : decode cX1_putNote 2 = .ok (.aload_n 0, 1) := by decide +kernel
theorem dX1_putNote_3 : decode cX1_putNote 3 = .ok (.getfield 11, 3) := by decide +kernel
theorem dX1_putNote_6 : decode cX1_putNote 6 = .ok (.iconst 3, 1) := by decide +kernel
theorem dX1_putNote_7 : decode cX1_putNote 7 = .ok (.iaload, 1) := by decide +kernel
theorem dX1_putNote_8 : decode cX1_putNote 8 = .ok (.iconst 4, 1) := by decide +kernel
theorem dX1_putNote_9 : decode cX1_putNote 9 = .ok (.imul, 1) := by decide +kernel
theorem dX1_putNote_10 : decode cX1_putNote 10 = .ok (.iadd, 1) := by decide +kernel
theorem dX1_putNote_11 : decode cX1_putNote 11 = .ok (.istore 4, 2) := by decide +kernel
theorem dX1_putNote_13 : decode cX1_putNote 13 = .ok (.aload_n 0, 1) := by decide +kernel
theorem dX1_putNote_14 : decode cX1_putNote 14 = .ok (.getfield 11, 3) := by decide +kernel
theorem dX1_putNote_17 : decode cX1_putNote 17 = .ok (.iload 4, 2) := by decide +kernel
theorem dX1_putNote_19 : decode cX1_putNote 19 = .ok (.aload_n 0, 1) := by decide +kernel
theorem dX1_putNote_20 : decode cX1_putNote 20 = .ok (.getfield 11, 3) := by decide +kernel
theorem dX1_putNote_23 : decode cX1_putNote 23 = .ok (.iconst 0, 1) := by decide +kernel
theorem dX1_putNote_24 : decode cX1_putNote 24 = .ok (.iaload, 1) := by decide +kernel
theorem dX1_putNote_25 : decode cX1_putNote 25 = .ok (.iastore, 1) := by decide +kernel
theorem dX1_putNote_26 : decode cX1_putNote 26 = .ok (.aload_n 0, 1) := by decide +kernel
theorem dX1_putNote_27 : decode cX1_putNote 27 = .ok (.getfield 11, 3) := by decide +kernel
theorem dX1_putNote_30 : decode cX1_putNote 30 = .ok (.iload 4, 2) := by decide +kernel
theorem dX1_putNote_32 : decode cX1_putNote 32 = .ok (.iconst 1, 1) := by decide +kernel
theorem dX1_putNote_33 : decode cX1_putNote 33 = .ok (.iadd, 1) := by decide +kernel
theorem dX1_putNote_34 : decode cX1_putNote 34 = .ok (.iload_n 1, 1) := by decide +kernel
theorem dX1_putNote_35 : decode cX1_putNote 35 = .ok (.iastore, 1) := by decide +kernel
theorem dX1_putNote_36 : decode cX1_putNote 36 = .ok (.aload_n 0, 1) := by decide +kernel
theorem dX1_putNote_37 : decode cX1_putNote 37 = .ok (.getfield 11, 3) := by decide +kernel
theorem dX1_putNote_40 : decode cX1_putNote 40 = .ok (.iload 4, 2) := by decide +kernel
theorem dX1_putNote_42 : decode cX1_putNote 42 = .ok (.iconst 2, 1) := by decide +kernel
theorem dX1_putNote_43 : decode cX1_putNote 43 = .ok (.iadd, 1) := by decide +kernel
theorem dX1_putNote_44 : decode cX1_putNote 44 = .ok (.iload_n 2, 1) := by decide +kernel
theorem dX1_putNote_45 : decode cX1_putNote 45 = .ok (.iastore, 1) := by decide +kernel
theorem dX1_putNote_46 : decode cX1_putNote 46 = .ok (.aload_n 0, 1) := by decide +kernel
theorem dX1_putNote_47 : decode cX1_putNote 47 = .ok (.getfield 11, 3) := by decide +kernel
theorem dX1_putNote_50 : decode cX1_putNote 50 = .ok (.iload 4, 2) := by decide +kernel
theorem dX1_putNote_52 : decode cX1_putNote 52 = .ok (.iconst 3, 1) := by decide +kernel
theorem dX1_putNote_53 : decode cX1_putNote 53 = .ok (.iadd, 1) := by decide +kernel
theorem dX1_putNote_54 : decode cX1_putNote 54 = .ok (.iload_n 3, 1) := by decide +kernel
theorem dX1_putNote_55 : decode cX1_putNote 55 = .ok (.iastore, 1) := by decide +kernel
theorem dX1_putNote_56 : decode cX1_putNote 56 = .ok (.aload_n 0, 1) := by decide +kernel
theorem dX1_putNote_57 : decode cX1_putNote 57 = .ok (.getfield 11, 3) := by decide +kernel
theorem dX1_putNote_60 : decode cX1_putNote 60 = .ok (.iconst 3, 1) := by decide +kernel
theorem dX1_putNote_61 : decode cX1_putNote 61 = .ok (.dup2, 1) := by decide +kernel
theorem dX1_putNote_62 : decode cX1_putNote 62 = .ok (.iaload, 1) := by decide +kernel
theorem dX1_putNote_63 : decode cX1_putNote 63 = .ok (.iconst 1, 1) := by decide +kernel
theorem dX1_putNote_64 : decode cX1_putNote 64 = .ok (.iadd, 1) := by decide +kernel
theorem dX1_putNote_65 : decode cX1_putNote 65 = .ok (.iastore, 1) := by decide +kernel
theorem dX1_putNote_66 : decode cX1_putNote 66 = .ok (.return_, 1) := by decide +kernel
set_option maxRecDepth 20000 in
theorem ggX1_hash_X1_hashWithCrane : GoodIn wsX1_hash wsX1_hashWithCrane := goodIn_r _ [8, 2, 9, 10, 11, 7, 12, 3, 13, 14, 15, 16, 17, 18, 19, 20, 21, 22, 23, 24, 25, 26, 27, 28, 29, 30, 31, 32, 33, 34, 35, 36, 37, 38, 39, 40, 41, 42, 43, 44, 45] (by decide +kernel) (by decide +kernel)
set_option maxRecDepth 20000 in
theorem gX1_hash_X1_hashWithCrane : GoodIn wsX1_hash (wsV RX1 91 RX1 yX1_hashWithCrane wsX1_hashWithCrane) := goodIn_app (goodIn_of _ (by decide +kernel)) ggX1_hash_X1_hashWithCrane
theorem dX1_hash_0 : decode cX1_hash 0 = .ok (.ldc2_w 87, 3) := by decide +kernel
theorem dX1_hash_3 : decode cX1_hash 3 = .ok (.lstore_n 1, 1) := by decide +kernel
theorem dX1_hash_4 : decode cX1_hash 4 = .ok (.ldc2_w 89, 3) := by decide +kernel
theorem dX1_hash_7 : decode cX1_hash 7 = .ok (.lload_n 1, 1) := by decide +kernel
theorem dX1_hash_8 : decode cX1_hash 8 = .ok (.lmul, 1) := by decide +kernel
theorem dX1_hash_9 : decode cX1_hash 9 = .ok (.aload_n 0, 1) := by decide +kernel
theorem dX1_hash_10 : decode cX1_hash 10 = .ok (.getfield 11, 3) := by decide +kernel
theorem dX1_hash_13 : decode cX1_hash 13 = .ok (.iconst 0, 1) := by decide +kernel
theorem dX1_hash_14 : decode cX1_hash 14 = .ok (.iaload, 1) := by decide +kernel
theorem dX1_hash_15 : decode cX1_hash 15 = .ok (.i2l, 1) := by decide +kernel
theorem dX1_hash_16 : decode cX1_hash 16 = .ok (.ladd, 1) := by decide +kernel
theorem dX1_hash_17 : decode cX1_hash 17 = .ok (.lstore_n 1, 1) := by decide +kernel
theorem dX1_hash_18 : decode cX1_hash 18 = .ok (.ldc2_w 89, 3) := by decide +kernel
theorem dX1_hash_21 : decode cX1_hash 21 = .ok (.lload_n 1, 1) := by decide +kernel
theorem dX1_hash_22 : decode cX1_hash 22 = .ok (.lmul, 1) := by decide +kernel
theorem dX1_hash_23 : decode cX1_hash 23 = .ok (.aload_n 0, 1) := by decide +kernel
theorem dX1_hash_24 : decode cX1_hash 24 = .ok (.getfield 11, 3) := by decide +kernel
theorem dX1_hash_27 : decode cX1_hash 27 = .ok (.iconst 1, 1) := by decide +kernel
theorem dX1_hash_28 : decode cX1_hash 28 = .ok (.iaload, 1) := by decide +kernel
theorem dX1_hash_29 : decode cX1_hash 29 = .ok (.i2l, 1) := by decide +kernel
theorem dX1_hash_30 : decode cX1_hash 30 = .ok (.ladd, 1) := by decide +kernel
theorem dX1_hash_31 : decode cX1_hash 31 = .ok (.lstore_n 1, 1) := by decide +kernel
theorem dX1_hash_32 : decode cX1_hash 32 = .ok (.ldc2_w 89, 3) := by decide +kernel
theorem dX1_hash_35 : decode cX1_hash 35 = .ok (.lload_n 1, 1) := by decide +kernel
theorem dX1_hash_36 : decode cX1_hash 36 = .ok (.lmul, 1) := by decide +kernel
theorem dX1_hash_37 : decode cX1_hash 37 = .ok (.aload_n 0, 1) := by decide +kernel
theorem dX1_hash_38 : decode cX1_hash 38 = .ok (.getfield 11, 3) := by decide +kernel
theorem dX1_hash_41 : decode cX1_hash 41 = .ok (.iconst 2, 1) := by decide +kernel
theorem dX1_hash_42 : decode cX1_hash 42 = .ok (.iaload, 1) := by decide +kernel
theorem dX1_hash_43 : decode cX1_hash 43 = .ok (.i2l, 1) := by decide +kernel
theorem dX1_hash_44 : decode cX1_hash 44 = .ok (.ladd, 1) := by decide +kernel
theorem dX1_hash_45 : decode cX1_hash 45 = .ok (.lstore_n 1, 1) := by decide +kernel
theorem dX1_hash_46 : decode cX1_hash 46 = .ok (.iconst 0, 1) := by decide +kernel
theorem dX1_hash_47 : decode cX1_hash 47 = .ok (.istore_n 3, 1) := by decide +kernel
theorem dX1_hash_48 : decode cX1_hash 48 = .ok (.iload_n 3, 1) := by decide +kernel
theorem dX1_hash_49 : decode cX1_hash 49 = .ok (.aload_n 0, 1) := by decide +kernel
theorem dX1_hash_50 : decode cX1_hash 50 = .ok (.getfield 11, 3) := by decide +kernel
theorem dX1_hash_53 : decode cX1_hash 53 = .ok (.iconst 2, 1) := by decide +kernel
theorem dX1_hash_54 : decode cX1_hash 54 = .ok (.iaload, 1) := by decide +kernel
theorem dX1_hash_55 : decode cX1_hash 55 = .ok (.if_icmp .ge 16, 3) := by decide +kernel
theorem dX1_hash_58 : decode cX1_hash 58 = .ok (.aload_n 0, 1) := by decide +kernel
theorem dX1_hash_59 : decode cX1_hash 59 = .ok (.lload_n 1, 1) := by decide +kernel
theorem dX1_hash_60 : decode cX1_hash 60 = .ok (.iload_n 3, 1) := by decide +kernel
theorem dX1_hash_61 : decode cX1_hash 61 = .ok (.invokevirtual 91, 3) := by decide +kernel
theorem dX1_hash_64 : decode cX1_hash 64 = .ok (.lstore_n 1, 1) := by decide +kernel
theorem dX1_hash_65 : decode cX1_hash 65 = .ok (.iinc 3 1, 3) := by decide +kernel
theorem dX1_hash_68 : decode cX1_hash 68 = .ok (.goto (-20), 3) := by decide +kernel
theorem dX1_hash_71 : decode cX1_hash 71 = .ok (.ldc2_w 89, 3) := by decide +kernel
theorem dX1_hash_74 : decode cX1_hash 74 = .ok (.lload_n 1, 1) := by decide +kernel
theorem dX1_hash_75 : decode cX1_hash 75 = .ok (.lmul, 1) := by decide +kernel
theorem dX1_hash_76 : decode cX1_hash 76 = .ok (.aload_n 0, 1) := by decide +kernel
theorem dX1_hash_77 : decode cX1_hash 77 = .ok (.getfield 11, 3) := by decide +kernel
theorem dX1_hash_80 : decode cX1_hash 80 = .ok (.iconst 3, 1) := by decide +kernel
theorem dX1_hash_81 : decode cX1_hash 81 = .ok (.iaload, 1) := by decide +kernel
theorem dX1_hash_82 : decode cX1_hash 82 = .ok (.i2l, 1) := by decide +kernel
theorem dX1_hash_83 : decode cX1_hash 83 = .ok (.ladd, 1) := by decide +kernel
theorem dX1_hash_84 : decode cX1_hash 84 = .ok (.lstore_n 1, 1) := by decide +kernel
theorem dX1_hash_85 : decode cX1_hash 85 = .ok (.bipush 92, 2) := by decide +kernel
theorem dX1_hash_87 : decode cX1_hash 87 = .ok (.istore_n 3, 1) := by decide +kernel
theorem dX1_hash_88 : decode cX1_hash 88 = .ok (.iload_n 3, 1) := by decide +kernel
theorem dX1_hash_89 : decode cX1_hash 89 = .ok (.bipush 92, 2) := by decide +kernel
theorem dX1_hash_91 : decode cX1_hash 91 = .ok (.aload_n 0, 1) := by decide +kernel
theorem dX1_hash_92 : decode cX1_hash 92 = .ok (.getfield 11, 3) := by decide +kernel
theorem dX1_hash_95 : decode cX1_hash 95 = .ok (.iconst 3, 1) := by decide +kernel
theorem dX1_hash_96 : decode cX1_hash 96 = .ok (.iaload, 1) := by decide +kernel
theorem dX1_hash_97 : decode cX1_hash 97 = .ok (.iconst 4, 1) := by decide +kernel
theorem dX1_hash_98 : decode cX1_hash 98 = .ok (.imul, 1) := by decide +kernel
theorem dX1_hash_99 : decode cX1_hash 99 = .ok (.iadd, 1) := by decide +kernel
theorem dX1_hash_100 : decode cX1_hash 100 = .ok (.if_icmp .ge 23, 3) := by decide +kernel
theorem dX1_hash_103 : decode cX1_hash 103 = .ok (.ldc2_w 89, 3) := by decide +kernel
theorem dX1_hash_106 : decode cX1_hash 106 = .ok (.lload_n 1, 1) := by decide +kernel
theorem dX1_hash_107 : decode cX1_hash 107 = .ok (.lmul, 1) := by decide +kernel
theorem dX1_hash_108 : decode cX1_hash 108 = .ok (.aload_n 0, 1) := by decide +kernel
theorem dX1_hash_109 : decode cX1_hash 109 = .ok (.getfield 11, 3) := by decide +kernel
theorem dX1_hash_112 : decode cX1_hash 112 = .ok (.iload_n 3, 1) := by decide +kernel
theorem dX1_hash_113 : decode cX1_hash 113 = .ok (.iaload, 1) := by decide +kernel
theorem dX1_hash_114 : decode cX1_hash 114 = .ok (.i2l, 1) := by decide +kernel
theorem dX1_hash_115 : decode cX1_hash 115 = .ok (.ladd, 1) := by decide +kernel
theorem dX1_hash_116 : decode cX1_hash 116 = .ok (.lstore_n 1, 1) := by decide +kernel
theorem dX1_hash_117 : decode cX1_hash 117 = .ok (.iinc 3 1, 3) := by decide +kernel
theorem dX1_hash_120 : decode cX1_hash 120 = .ok (.goto (-32), 3) := by decide +kernel
theorem dX1_hash_123 : decode cX1_hash 123 = .ok (.lload_n 1, 1) := by decide +kernel
theorem dX1_hash_124 : decode cX1_hash 124 = .ok (.lreturn, 1) := by decide +kernel
set_option maxRecDepth 20000 in
theorem ggX1_hashWithCrane_X1_property : GoodIn wsX1_hashWithCrane wsX1_property := goodIn_r _ [6, 7, 8, 9, 10, 5, 11, 12, 13, 14, 15, 16, 17, 18, 19, 20, 21, 22, 23, 24, 25, 26, 27, 28, 29, 30, 31, 40] (by decide +kernel) (by decide +kernel)
set_option maxRecDepth 20000 in
theorem gX1_hashWithCrane_X1_property : GoodIn wsX1_hashWithCrane (wsV RX1 95 RX1 yX1_property wsX1_property) := goodIn_app (goodIn_of _ (by decide +kernel)) ggX1_hashWithCrane_X1_property
set_option maxRecDepth 20000 in
theorem ggX1_hashWithCrane_X1_firstOf : GoodIn wsX1_hashWithCrane wsX1_firstOf := goodIn_r _ [35, 7, 40] (by decide +kernel) (by decide +kernel)
set_option maxRecDepth 20000 in
theorem gX1_hashWithCrane_X1_firstOf : GoodIn wsX1_hashWithCrane (wsV RX1 51 RX1 yX1_firstOf wsX1_firstOf) := goodIn_app (goodIn_of _ (by decide +kernel)) ggX1_hashWithCrane_X1_firstOf
set_option maxRecDepth 20000 in
theorem ggX1_hashWithCrane_X1_lastOf : GoodIn wsX1_hashWithCrane wsX1_lastOf := goodIn_r _ [39, 7, 40] (by decide +kernel) (by decide +kernel)
set_option maxRecDepth 20000 in
theorem gX1_hashWithCrane_X1_lastOf : GoodIn wsX1_hashWithCrane (wsV RX1 98 RX1 yX1_lastOf wsX1_lastOf) := goodIn_app (goodIn_of _ (by decide +kernel)) ggX1_hashWithCrane_X1_lastOf
theorem dX1_hashWithCrane_0 : decode cX1_hashWithCrane 0 = .ok (.lload_n 1, 1) := by decide +kernel
theorem dX1_hashWithCrane_1 : decode cX1_hashWithCrane 1 = .ok (.lstore 4, 2) := by decide +kernel
theorem dX1_hashWithCrane_3 : decode cX1_hashWithCrane 3 = .ok (.iconst 0, 1) := by decide +kernel
theorem dX1_hashWithCrane_4 : decode cX1_hashWithCrane 4 = .ok (.istore 6, 2) := by decide +kernel
theorem dX1_hashWithCrane_6 : decode cX1_hashWithCrane 6 = .ok (.iload 6, 2) := by decide +kernel
theorem dX1_hashWithCrane_8 : decode cX1_hashWithCrane 8 = .ok (.bipush 10, 2) := by decide +kernel
theorem dX1_hashWithCrane_10 : decode cX1_hashWithCrane 10 = .ok (.if_icmp .ge 26, 3) := by decide +kernel
theorem dX1_hashWithCrane_13 : decode cX1_hashWithCrane 13 = .ok (.ldc2_w 89, 3) := by decide +kernel
theorem dX1_hashWithCrane_16 : decode cX1_hashWithCrane 16 = .ok (.lload 4, 2) := by decide +kernel
theorem dX1_hashWithCrane_18 : decode cX1_hashWithCrane 18 = .ok (.lmul, 1) := by decide +kernel
theorem dX1_hashWithCrane_19 : decode cX1_hashWithCrane 19 = .ok (.aload_n 0, 1) := by decide +kernel
theorem dX1_hashWithCrane_20 : decode cX1_hashWithCrane 20 = .ok (.iload_n 3, 1) := by decide +kernel
theorem dX1_hashWithCrane_21 : decode cX1_hashWithCrane 21 = .ok (.iload 6, 2) := by decide +kernel
theorem dX1_hashWithCrane_23 : decode cX1_hashWithCrane 23 = .ok (.invokevirtual 95, 3) := by decide +kernel
theorem dX1_hashWithCrane_26 : decode cX1_hashWithCrane 26 = .ok (.i2l, 1) := by decide +kernel
theorem dX1_hashWithCrane_27 : decode cX1_hashWithCrane 27 = .ok (.ladd, 1) := by decide +kernel
theorem dX1_hashWithCrane_28 : decode cX1_hashWithCrane 28 = .ok (.lstore 4, 2) := by decide +kernel
theorem dX1_hashWithCrane_30 : decode cX1_hashWithCrane 30 = .ok (.iinc 6 1, 3) := by decide +kernel
theorem dX1_hashWithCrane_33 : decode cX1_hashWithCrane 33 = .ok (.goto (-27), 3) := by decide +kernel
theorem dX1_hashWithCrane_36 : decode cX1_hashWithCrane 36 = .ok (.iconst 0, 1) := by decide +kernel
theorem dX1_hashWithCrane_37 : decode cX1_hashWithCrane 37 = .ok (.istore 6, 2) := by decide +kernel
theorem dX1_hashWithCrane_39 : decode cX1_hashWithCrane 39 = .ok (.iload 6, 2) := by decide +kernel
theorem dX1_hashWithCrane_41 : decode cX1_hashWithCrane 41 = .ok (.bipush 6, 2) := by decide +kernel
theorem dX1_hashWithCrane_43 : decode cX1_hashWithCrane 43 = .ok (.if_icmp .ge 43, 3) := by decide +kernel
theorem dX1_hashWithCrane_46 : decode cX1_hashWithCrane 46 = .ok (.ldc2_w 89, 3) := by decide +kernel
theorem dX1_hashWithCrane_49 : decode cX1_hashWithCrane 49 = .ok (.lload 4, 2) := by decide +kernel
theorem dX1_hashWithCrane_51 : decode cX1_hashWithCrane 51 = .ok (.lmul, 1) := by decide +kernel
theorem dX1_hashWithCrane_52 : decode cX1_hashWithCrane 52 = .ok (.aload_n 0, 1) := by decide +kernel
theorem dX1_hashWithCrane_53 : decode cX1_hashWithCrane 53 = .ok (.iload_n 3, 1) := by decide +kernel
theorem dX1_hashWithCrane_54 : decode cX1_hashWithCrane 54 = .ok (.iload 6, 2) := by decide +kernel
theorem dX1_hashWithCrane_56 : decode cX1_hashWithCrane 56 = .ok (.invokevirtual 51, 3) := by decide +kernel
theorem dX1_hashWithCrane_59 : decode cX1_hashWithCrane 59 = .ok (.i2l, 1) := by decide +kernel
theorem dX1_hashWithCrane_60 : decode cX1_hashWithCrane 60 = .ok (.ladd, 1) := by decide +kernel
theorem dX1_hashWithCrane_61 : decode cX1_hashWithCrane 61 = .ok (.lstore 4, 2) := by decide +kernel
theorem dX1_hashWithCrane_63 : decode cX1_hashWithCrane 63 = .ok (.ldc2_w 89, 3) := by decide +kernel
theorem dX1_hashWithCrane_66 : decode cX1_hashWithCrane 66 = .ok (.lload 4, 2) := by decide +kernel
theorem dX1_hashWithCrane_68 : decode cX1_hashWithCrane 68 = .ok (.lmul, 1) := by decide +kernel
theorem dX1_hashWithCrane_69 : decode cX1_hashWithCrane 69 = .ok (.aload_n 0, 1) := by decide +kernel
theorem dX1_hashWithCrane_70 : decode cX1_hashWithCrane 70 = .ok (.iload_n 3, 1) := by decide +kernel
theorem dX1_hashWithCrane_71 : decode cX1_hashWithCrane 71 = .ok (.iload 6, 2) := by decide +kernel
theorem dX1_hashWithCrane_73 : decode cX1_hashWithCrane 73 = .ok (.invokevirtual 98, 3) := by decide +kernel
theorem dX1_hashWithCrane_76 : decode cX1_hashWithCrane 76 = .ok (.i2l, 1) := by decide +kernel
theorem dX1_hashWithCrane_77 : decode cX1_hashWithCrane 77 = .ok (.ladd, 1) := by decide +kernel
theorem dX1_hashWithCrane_78 : decode cX1_hashWithCrane 78 = .ok (.lstore 4, 2) := by decide +kernel
theorem dX1_hashWithCrane_80 : decode cX1_hashWithCrane 80 = .ok (.iinc 6 1, 3) := by decide +kernel
theorem dX1_hashWithCrane_83 : decode cX1_hashWithCrane 83 = .ok (.goto (-44), 3) := by decide +kernel
theorem dX1_hashWithCrane_86 : decode cX1_hashWithCrane 86 = .ok (.lload 4, 2) := by decide +kernel
theorem dX1_hashWithCrane_88 : decode cX1_hashWithCrane 88 = .ok (.lreturn, 1) := by decide +kernel
theorem dX2_init_0 : decode cX2_init 0 = .ok (.aload_n 0, 1) := by decide +kernel
theorem dX2_init_1 : decode cX2_init 1 = .ok (.invokespecial 5, 3) := by decide +kernel
theorem dX2_init_4 : decode cX2_init 4 = .ok (.aload_n 0, 1) := by decide +kernel
theorem dX2_init_5 : decode cX2_init 5 = .ok (.bipush 80, 2) := by decide +kernel
theorem dX2_init_7 : decode cX2_init 7 = .ok (.newarray .int, 2) := by decide +kernel
theorem dX2_init_9 : decode cX2_init 9 = .ok (.putfield 11, 3) := by decide +kernel
theorem dX2_init_12 : decode cX2_init 12 = .ok (.aload_n 0, 1) := by decide +kernel
theorem dX2_init_13 : decode cX2_init 13 = .ok (.iconst 0, 1) := by decide +kernel
theorem dX2_init_14 : decode cX2_init 14 = .ok (.putfield 15, 3) := by decide +kernel
theorem dX2_init_17 : decode cX2_init 17 = .ok (.aload_n 0, 1) := by decide +kernel
theorem dX2_init_18 : decode cX2_init 18 = .ok (.iconst 0, 1) := by decide +kernel
theorem dX2_init_19 : decode cX2_init 19 = .ok (.putfield 19, 3) := by decide +kernel
theorem dX2_init_22 : decode cX2_init 22 = .ok (.aload_n 0, 1) := by decide +kernel
theorem dX2_init_23 : decode cX2_init 23 = .ok (.bipush 20, 2) := by decide +kernel
theorem dX2_init_25 : decode cX2_init 25 = .ok (.newarray .int, 2) := by decide +kernel
theorem dX2_init_27 : decode cX2_init 27 = .ok (.putfield 22, 3) := by decide +kernel
theorem dX2_init_30 : decode cX2_init 30 = .ok (.aload_n 0, 1) := by decide +kernel
theorem dX2_init_31 : decode cX2_init 31 = .ok (.bipush 20, 2) := by decide +kernel
theorem dX2_init_33 : decode cX2_init 33 = .ok (.newarray .int, 2) := by decide +kernel
theorem dX2_init_35 : decode cX2_init 35 = .ok (.putfield 25, 3) := by decide +kernel
theorem dX2_init_38 : decode cX2_init 38 = .ok (.aload_n 0, 1) := by decide +kernel
theorem dX2_init_39 : decode cX2_init 39 = .ok (.bipush 20, 2) := by decide +kernel
theorem dX2_init_41 : decode cX2_init 41 = .ok (.newarray .int, 2) := by decide +kernel
theorem dX2_init_43 : decode cX2_init 43 = .ok (.putfield 28, 3) := by decide +kernel
theorem dX2_init_46 : decode cX2_init 46 = .ok (.aload_n 0, 1) := by decide +kernel
theorem dX2_init_47 : decode cX2_init 47 = .ok (.iconst 0, 1) := by decide +kernel
theorem dX2_init_48 : decode cX2_init 48 = .ok (.putfield 31, 3) := by decide +kernel
theorem dX2_init_51 : decode cX2_init 51 = .ok (.return_, 1) := by decide +kernel
set_option maxRecDepth 20000 in
theorem ggX2_read_X2_readCommand : GoodIn wsX2_read wsX2_readCommand := goodIn_r _ [7, 1, 8, 9, 10, 11, 12, 13, 6, 14, 15, 16, 17, 18, 19, 20, 21, 22, 23, 24, 25, 26, 27, 28, 29, 30, 31, 32, 33, 34, 35, 36, 37, 38, 39, 40, 41, 42, 43, 44, 45, 46, 47, 48, 49, 50, 51, 52, 53, 54, 55, 56, 57] (by decide +kernel) (by decide +kernel)
set_option maxRecDepth 20000 in
theorem gX2_read_X2_readCommand : GoodIn wsX2_read (wsV RX2 34 RX2 yX2_readCommand wsX2_readCommand) := goodIn_app (goodIn_of _ (by decide +kernel)) ggX2_read_X2_readCommand
set_option maxRecDepth 20000 in
theorem ggX2_read_X2_skipBlanks : GoodIn wsX2_read wsX2_skipBlanks := goodIn_r _ [14, 1, 15, 16, 50, 51, 52, 53, 54, 55, 56] (by decide +kernel) (by decide +kernel)
set_option maxRecDepth 20000 in
theorem gX2_read_X2_skipBlanks : GoodIn wsX2_read (wsV RX2 38 RX2 yX2_skipBlanks wsX2_skipBlanks) := goodIn_app (goodIn_of _ (by decide +kernel)) ggX2_read_X2_skipBlanks
set_option maxRecDepth 20000 in
theorem ggX2_read_X2_byteHere : GoodIn wsX2_read wsX2_byteHere := goodIn_r _ [20, 1, 15, 16, 50, 51, 52, 53, 54, 55, 56] (by decide +kernel) (by decide +kernel)
set_option maxRecDepth 20000 in
theorem gX2_read_X2_byteHere : GoodIn wsX2_read (wsV RX2 41 RX2 yX2_byteHere wsX2_byteHere) := goodIn_app (goodIn_of _ (by decide +kernel)) ggX2_read_X2_byteHere
theorem dX2_read_0 : decode cX2_read 0 = .ok (.aload_n 0, 1) := by decide +kernel
theorem dX2_read_1 : decode cX2_read 1 = .ok (.iconst 0, 1) := by decide +kernel
theorem dX2_read_2 : decode cX2_read 2 = .ok (.putfield 19, 3) := by decide +kernel
theorem dX2_read_5 : decode cX2_read 5 = .ok (.aload_n 0, 1) := by decide +kernel
theorem dX2_read_6 : decode cX2_read 6 = .ok (.iconst 0, 1) := by decide +kernel
theorem dX2_read_7 : decode cX2_read 7 = .ok (.putfield 31, 3) := by decide +kernel
theorem dX2_read_10 : decode cX2_read 10 = .ok (.iconst 0, 1) := by decide +kernel
theorem dX2_read_11 : decode cX2_read 11 = .ok (.istore_n 2, 1) := by decide +kernel
theorem dX2_read_12 : decode cX2_read 12 = .ok (.iload_n 2, 1) := by decide +kernel
theorem dX2_read_13 : decode cX2_read 13 = .ok (.bipush 20, 2) := by decide +kernel
theorem dX2_read_15 : decode cX2_read 15 = .ok (.if_icmp .ge 70, 3) := by decide +kernel
theorem dX2_read_18 : decode cX2_read 18 = .ok (.aload_n 0, 1) := by decide +kernel
theorem dX2_read_19 : decode cX2_read 19 = .ok (.iload_n 2, 1) := by decide +kernel
theorem dX2_read_20 : decode cX2_read 20 = .ok (.aload_n 1, 1) := by decide +kernel
theorem dX2_read_21 : decode cX2_read 21 = .ok (.invokevirtual 34, 3) := by decide +kernel
theorem dX2_read_24 : decode cX2_read 24 = .ok (.istore_n 3, 1) := by decide +kernel
theorem dX2_read_25 : decode cX2_read 25 = .ok (.iload_n 3, 1) := by decide +kernel
theorem dX2_read_26 : decode cX2_read 26 = .ok (.bipush (-100), 2) := by decide +kernel
theorem dX2_read_28 : decode cX2_read 28 = .ok (.if_icmp .eq 5, 3) := by decide +kernel
theorem dX2_read_31 : decode cX2_read 31 = .ok (.iload_n 3, 1) := by decide +kernel
theorem dX2_read_32 : decode cX2_read 32 = .ok (.ireturn, 1) := by decide +kernel
theorem dX2_read_33 : decode cX2_read 33 = .ok (.aload_n 0, 1) := by decide +kernel
theorem dX2_read_34 : decode cX2_read 34 = .ok (.iload_n 2, 1) := by decide +kernel
theorem dX2_read_35 : decode cX2_read 35 = .ok (.iconst 1, 1) := by decide +kernel
theorem dX2_read_36 : decode cX2_read 36 = .ok (.iadd, 1) := by decide +kernel
theorem dX2_read_37 : decode cX2_read 37 = .ok (.putfield 31, 3) := by decide +kernel
theorem dX2_read_40 : decode cX2_read 40 = .ok (.aload_n 0, 1) := by decide +kernel
theorem dX2_read_41 : decode cX2_read 41 = .ok (.invokevirtual 38, 3) := by decide +kernel
theorem dX2_read_44 : decode cX2_read 44 = .ok (.aload_n 0, 1) := by decide +kernel
theorem dX2_read_45 : decode cX2_read 45 = .ok (.invokevirtual 41, 3) := by decide +kernel
theorem dX2_read_48 : decode cX2_read 48 = .ok (.iconst (-1), 1) := by decide +kernel
theorem dX2_read_49 : decode cX2_read 49 = .ok (.if_icmp .ne 6, 3) := by decide +kernel
theorem dX2_read_52 : decode cX2_read 52 = .ok (.bipush (-100), 2) := by decide +kernel
theorem dX2_read_54 : decode cX2_read 54 = .ok (.ireturn, 1) := by decide +kernel
theorem dX2_read_55 : decode cX2_read 55 = .ok (.aload_n 0, 1) := by decide +kernel
theorem dX2_read_56 : decode cX2_read 56 = .ok (.invokevirtual 41, 3) := by decide +kernel
theorem dX2_read_59 : decode cX2_read 59 = .ok (.bipush 59, 2) := by decide +kernel
theorem dX2_read_61 : decode cX2_read 61 = .ok (.if_icmp .eq 8, 3) := by decide +kernel
theorem dX2_read_64 : decode cX2_read 64 = .ok (.aload_n 0, 1) := by decide +kernel
theorem dX2_read_65 : decode cX2_read 65 = .ok (.getfield 19, 3) := by decide +kernel
theorem dX2_read_68 : decode cX2_read 68 = .ok (.ireturn, 1) := by decide +kernel
theorem dX2_read_69 : decode cX2_read 69 = .ok (.aload_n 0, 1) := by decide +kernel
theorem dX2_read_70 : decode cX2_read 70 = .ok (.dup, 1) := by decide +kernel
theorem dX2_read_71 : decode cX2_read 71 = .ok (.getfield 19, 3) := by decide +kernel
theorem dX2_read_74 : decode cX2_read 74 = .ok (.iconst 1, 1) := by decide +kernel
theorem dX2_read_75 : decode cX2_read 75 = .ok (.iadd, 1) := by decide +kernel
theorem dX2_read_76 : decode cX2_read 76 = .ok (.putfield 19, 3) := by decide +kernel
theorem dX2_read_79 : decode cX2_read 79 = .ok (.iinc 2 1, 3) := by decide +kernel
theorem dX2_read_82 : decode cX2_read 82 = .ok (.goto (-70), 3) := by decide +kernel
theorem dX2_read_85 : decode cX2_read 85 = .ok (.aload_n 0, 1) := by decide +kernel
theorem dX2_read_86 : decode cX2_read 86 = .ok (.getfield 19, 3) := by decide +kernel
theorem dX2_read_89 : decode cX2_read 89 = .ok (.ireturn, 1) := by decide +kernel
set_option maxRecDepth 20000 in
theorem ggX2_carryOut_X1_aim : GoodIn wsX2_carryOut wsX1_aim := goodIn_r _ [9, 10, 11, 12, 13, 8, 14, 15, 16, 17, 18, 19, 20, 21, 22, 23, 24, 32] (by decide +kernel) (by decide +kernel)
set_option maxRecDepth 20000 in
theorem gX2_carryOut_X1_aim : GoodIn wsX2_carryOut (wsV RX2 45 RX1 yX1_aim wsX1_aim) := goodIn_app (goodIn_of _ (by decide +kernel)) ggX2_carryOut_X1_aim
theorem dX2_carryOut_0 : decode cX2_carryOut 0 = .ok (.iconst 0, 1) := by decide +kernel
theorem dX2_carryOut_1 : decode cX2_carryOut 1 = .ok (.istore_n 2, 1) := by decide +kernel
theorem dX2_carryOut_2 : decode cX2_carryOut 2 = .ok (.iload_n 2, 1) := by decide +kernel
theorem dX2_carryOut_3 : decode cX2_carryOut 3 = .ok (.aload_n 0, 1) := by decide +kernel
theorem dX2_carryOut_4 : decode cX2_carryOut 4 = .ok (.getfield 31, 3) := by decide +kernel
theorem dX2_carryOut_7 : decode cX2_carryOut 7 = .ok (.if_icmp .ge 32, 3) := by decide +kernel
theorem dX2_carryOut_10 : decode cX2_carryOut 10 = .ok (.aload_n 1, 1) := by decide +kernel
theorem dX2_carryOut_11 : decode cX2_carryOut 11 = .ok (.aload_n 0, 1) := by decide +kernel
theorem dX2_carryOut_12 : decode cX2_carryOut 12 = .ok (.getfield 22, 3) := by decide +kernel
theorem dX2_carryOut_15 : decode cX2_carryOut 15 = .ok (.iload_n 2, 1) := by decide +kernel
theorem dX2_carryOut_16 : decode cX2_carryOut 16 = .ok (.iaload, 1) := by decide +kernel
theorem dX2_carryOut_17 : decode cX2_carryOut 17 = .ok (.aload_n 0, 1) := by decide +kernel
theorem dX2_carryOut_18 : decode cX2_carryOut 18 = .ok (.getfield 28, 3) := by decide +kernel
theorem dX2_carryOut_21 : decode cX2_carryOut 21 = .ok (.iload_n 2, 1) := by decide +kernel
theorem dX2_carryOut_22 : decode cX2_carryOut 22 = .ok (.iaload, 1) := by decide +kernel
theorem dX2_carryOut_23 : decode cX2_carryOut 23 = .ok (.aload_n 0, 1) := by decide +kernel
theorem dX2_carryOut_24 : decode cX2_carryOut 24 = .ok (.getfield 25, 3) := by decide +kernel
theorem dX2_carryOut_27 : decode cX2_carryOut 27 = .ok (.iload_n 2, 1) := by decide +kernel
theorem dX2_carryOut_28 : decode cX2_carryOut 28 = .ok (.iaload, 1) := by decide +kernel
theorem dX2_carryOut_29 : decode cX2_carryOut 29 = .ok (.invokevirtual 45, 3) := by decide +kernel
theorem dX2_carryOut_32 : decode cX2_carryOut 32 = .ok (.pop, 1) := by decide +kernel
theorem dX2_carryOut_33 : decode cX2_carryOut 33 = .ok (.iinc 2 1, 3) := by decide +kernel
theorem dX2_carryOut_36 : decode cX2_carryOut 36 = .ok (.goto (-34), 3) := by decide +kernel
theorem dX2_carryOut_39 : decode cX2_carryOut 39 = .ok (.return_, 1) := by decide +kernel
set_option maxRecDepth 20000 in
theorem ggX2_readCommand_X2_skipBlanks : GoodIn wsX2_readCommand wsX2_skipBlanks := goodIn_r _ [9, 1, 10, 11, 45, 46, 47, 48, 49, 50, 51] (by decide +kernel) (by decide +kernel)
set_option maxRecDepth 20000 in
theorem gX2_readCommand_X2_skipBlanks : GoodIn wsX2_readCommand (wsV RX2 38 RX2 yX2_skipBlanks wsX2_skipBlanks) := goodIn_app (goodIn_of _ (by decide +kernel)) ggX2_readCommand_X2_skipBlanks
set_option maxRecDepth 20000 in
theorem ggX2_readCommand_X2_byteHere : GoodIn wsX2_readCommand wsX2_byteHere := goodIn_r _ [15, 1, 10, 11, 45, 46, 47, 48, 49, 50, 51] (by decide +kernel) (by decide +kernel)
set_option maxRecDepth 20000 in
theorem gX2_readCommand_X2_byteHere : GoodIn wsX2_readCommand (wsV RX2 41 RX2 yX2_byteHere wsX2_byteHere) := goodIn_app (goodIn_of _ (by decide +kernel)) ggX2_readCommand_X2_byteHere
set_option maxRecDepth 20000 in
theorem ggX2_readCommand_X1_hasCrane : GoodIn wsX2_readCommand wsX1_hasCrane := goodIn_r _ [20, 21, 52] (by decide +kernel) (by decide +kernel)
set_option maxRecDepth 20000 in
theorem gX2_readCommand_X1_hasCrane : GoodIn wsX2_readCommand (wsV RX2 51 RX1 yX1_hasCrane wsX1_hasCrane) := goodIn_app (goodIn_of _ (by decide +kernel)) ggX2_readCommand_X1_hasCrane
set_option maxRecDepth 20000 in
theorem ggX2_readCommand_X1_canAim : GoodIn wsX2_readCommand wsX1_canAim := goodIn_r _ [25, 26, 27, 28, 19, 29, 21, 30, 31, 32, 33, 52] (by decide +kernel) (by decide +kernel)
set_option maxRecDepth 20000 in
theorem gX2_readCommand_X1_canAim : GoodIn wsX2_readCommand (wsV RX2 55 RX1 yX1_canAim wsX1_canAim) := goodIn_app (goodIn_of _ (by decide +kernel)) ggX2_readCommand_X1_canAim
set_option maxRecDepth 20000 in
theorem ggX2_readCommand_X2_wayHere : GoodIn wsX2_readCommand wsX2_wayHere := goodIn_r _ [37, 12, 13, 14, 8, 15, 1, 10, 11, 45, 46, 47, 48, 49, 50, 51] (by decide +kernel) (by decide +kernel)
set_option maxRecDepth 20000 in
theorem gX2_readCommand_X2_wayHere : GoodIn wsX2_readCommand (wsV RX2 58 RX2 yX2_wayHere wsX2_wayHere) := goodIn_app (goodIn_of _ (by decide +kernel)) ggX2_readCommand_X2_wayHere
set_option maxRecDepth 20000 in
theorem ggX2_readCommand_X2_readAngle : GoodIn wsX2_readCommand wsX2_readAngle := goodIn_r _ [41, 1, 10, 11, 42, 43, 44, 45, 46, 47, 48, 49, 50, 51] (by decide +kernel) (by decide +kernel)
set_option maxRecDepth 20000 in
theorem gX2_readCommand_X2_readAngle : GoodIn wsX2_readCommand (wsV RX2 61 RX2 yX2_readAngle wsX2_readAngle) := goodIn_app (goodIn_of _ (by decide +kernel)) ggX2_readCommand_X2_readAngle
theorem dX2_readCommand_0 : decode cX2_readCommand 0 = .ok (.aload_n 0, 1) := by decide +kernel
theorem dX2_readCommand_1 : decode cX2_readCommand 1 = .ok (.invokevirtual 38, 3) := by decide +kernel
theorem dX2_readCommand_4 : decode cX2_readCommand 4 = .ok (.aload_n 0, 1) := by decide +kernel
theorem dX2_readCommand_5 : decode cX2_readCommand 5 = .ok (.invokevirtual 41, 3) := by decide +kernel
theorem dX2_readCommand_8 : decode cX2_readCommand 8 = .ok (.bipush 48, 2) := by decide +kernel
theorem dX2_readCommand_10 : decode cX2_readCommand 10 = .ok (.isub, 1) := by decide +kernel
theorem dX2_readCommand_11 : decode cX2_readCommand 11 = .ok (.istore_n 3, 1) := by decide +kernel
theorem dX2_readCommand_12 : decode cX2_readCommand 12 = .ok (.aload_n 2, 1) := by decide +kernel
theorem dX2_readCommand_13 : decode cX2_readCommand 13 = .ok (.iload_n 3, 1) := by decide +kernel
theorem dX2_readCommand_14 : decode cX2_readCommand 14 = .ok (.invokevirtual 51, 3) := by decide +kernel
theorem dX2_readCommand_17 : decode cX2_readCommand 17 = .ok (.ifCond .eq 11, 3) := by decide +kernel
theorem dX2_readCommand_20 : decode cX2_readCommand 20 = .ok (.aload_n 2, 1) := by decide +kernel
theorem dX2_readCommand_21 : decode cX2_readCommand 21 = .ok (.iload_n 3, 1) := by decide +kernel
theorem dX2_readCommand_22 : decode cX2_readCommand 22 = .ok (.invokevirtual 55, 3) := by decide +kernel
theorem dX2_readCommand_25 : decode cX2_readCommand 25 = .ok (.ifCond .ne 8, 3) := by decide +kernel
theorem dX2_readCommand_28 : decode cX2_readCommand 28 = .ok (.aload_n 0, 1) := by decide +kernel
theorem dX2_readCommand_29 : decode cX2_readCommand 29 = .ok (.getfield 19, 3) := by decide +kernel
theorem dX2_readCommand_32 : decode cX2_readCommand 32 = .ok (.ireturn, 1) := by decide +kernel
theorem dX2_readCommand_33 : decode cX2_readCommand 33 = .ok (.aload_n 0, 1) := by decide +kernel
theorem dX2_readCommand_34 : decode cX2_readCommand 34 = .ok (.dup, 1) := by decide +kernel
theorem dX2_readCommand_35 : decode cX2_readCommand 35 = .ok (.getfield 19, 3) := by decide +kernel
theorem dX2_readCommand_38 : decode cX2_readCommand 38 = .ok (.iconst 1, 1) := by decide +kernel
theorem dX2_readCommand_39 : decode cX2_readCommand 39 = .ok (.iadd, 1) := by decide +kernel
theorem dX2_readCommand_40 : decode cX2_readCommand 40 = .ok (.putfield 19, 3) := by decide +kernel
theorem dX2_readCommand_43 : decode cX2_readCommand 43 = .ok (.aload_n 0, 1) := by decide +kernel
theorem dX2_readCommand_44 : decode cX2_readCommand 44 = .ok (.invokevirtual 38, 3) := by decide +kernel
theorem dX2_readCommand_47 : decode cX2_readCommand 47 = .ok (.aload_n 0, 1) := by decide +kernel
theorem dX2_readCommand_48 : decode cX2_readCommand 48 = .ok (.invokevirtual 58, 3) := by decide +kernel
theorem dX2_readCommand_51 : decode cX2_readCommand 51 = .ok (.istore 4, 2) := by decide +kernel
theorem dX2_readCommand_53 : decode cX2_readCommand 53 = .ok (.iload 4, 2) := by decide +kernel
theorem dX2_readCommand_55 : decode cX2_readCommand 55 = .ok (.iconst 2, 1) := by decide +kernel
theorem dX2_readCommand_56 : decode cX2_readCommand 56 = .ok (.if_icmp .ne 8, 3) := by decide +kernel
theorem dX2_readCommand_59 : decode cX2_readCommand 59 = .ok (.aload_n 0, 1) := by decide +kernel
theorem dX2_readCommand_60 : decode cX2_readCommand 60 = .ok (.getfield 19, 3) := by decide +kernel
theorem dX2_readCommand_63 : decode cX2_readCommand 63 = .ok (.ireturn, 1) := by decide +kernel
theorem dX2_readCommand_64 : decode cX2_readCommand 64 = .ok (.aload_n 0, 1) := by decide +kernel
theorem dX2_readCommand_65 : decode cX2_readCommand 65 = .ok (.dup, 1) := by decide +kernel
theorem dX2_readCommand_66 : decode cX2_readCommand 66 = .ok (.getfield 19, 3) := by decide +kernel
theorem dX2_readCommand_69 : decode cX2_readCommand 69 = .ok (.iconst 1, 1) := by decide +kernel
theorem dX2_readCommand_70 : decode cX2_readCommand 70 = .ok (.iadd, 1) := by decide +kernel
theorem dX2_readCommand_71 : decode cX2_readCommand 71 = .ok (.putfield 19, 3) := by decide +kernel
theorem dX2_readCommand_74 : decode cX2_readCommand 74 = .ok (.aload_n 0, 1) := by decide +kernel
theorem dX2_readCommand_75 : decode cX2_readCommand 75 = .ok (.invokevirtual 38, 3) := by decide +kernel
theorem dX2_readCommand_78 : decode cX2_readCommand 78 = .ok (.aload_n 0, 1) := by decide +kernel
theorem dX2_readCommand_79 : decode cX2_readCommand 79 = .ok (.getfield 19, 3) := by decide +kernel
theorem dX2_readCommand_82 : decode cX2_readCommand 82 = .ok (.istore 5, 2) := by decide +kernel
theorem dX2_readCommand_84 : decode cX2_readCommand 84 = .ok (.aload_n 0, 1) := by decide +kernel
theorem dX2_readCommand_85 : decode cX2_readCommand 85 = .ok (.invokevirtual 61, 3) := by decide +kernel
theorem dX2_readCommand_88 : decode cX2_readCommand 88 = .ok (.istore 6, 2) := by decide +kernel
theorem dX2_readCommand_90 : decode cX2_readCommand 90 = .ok (.iload 6, 2) := by decide +kernel
theorem dX2_readCommand_92 : decode cX2_readCommand 92 = .ok (.iconst (-1), 1) := by decide +kernel
theorem dX2_readCommand_93 : decode cX2_readCommand 93 = .ok (.if_icmp .ne 6, 3) := by decide +kernel
theorem dX2_readCommand_96 : decode cX2_readCommand 96 = .ok (.iload 5, 2) := by decide +kernel
theorem dX2_readCommand_98 : decode cX2_readCommand 98 = .ok (.ireturn, 1) := by decide +kernel
theorem dX2_readCommand_99 : decode cX2_readCommand 99 = .ok (.aload_n 0, 1) := by decide +kernel
theorem dX2_readCommand_100 : decode cX2_readCommand 100 = .ok (.getfield 22, 3) := by decide +kernel
theorem dX2_readCommand_103 : decode cX2_readCommand 103 = .ok (.iload_n 1, 1) := by decide +kernel
theorem dX2_readCommand_104 : decode cX2_readCommand 104 = .ok (.iload_n 3, 1) := by decide +kernel
theorem dX2_readCommand_105 : decode cX2_readCommand 105 = .ok (.iastore, 1) := by decide +kernel
theorem dX2_readCommand_106 : decode cX2_readCommand 106 = .ok (.aload_n 0, 1) := by decide +kernel
theorem dX2_readCommand_107 : decode cX2_readCommand 107 = .ok (.getfield 25, 3) := by decide +kernel
theorem dX2_readCommand_110 : decode cX2_readCommand 110 = .ok (.iload_n 1, 1) := by decide +kernel
theorem dX2_readCommand_111 : decode cX2_readCommand 111 = .ok (.iload 4, 2) := by decide +kernel
theorem dX2_readCommand_113 : decode cX2_readCommand 113 = .ok (.iastore, 1) := by decide +kernel
theorem dX2_readCommand_114 : decode cX2_readCommand 114 = .ok (.aload_n 0, 1) := by decide +kernel
theorem dX2_readCommand_115 : decode cX2_readCommand 115 = .ok (.getfield 28, 3) := by decide +kernel
theorem dX2_readCommand_118 : decode cX2_readCommand 118 = .ok (.iload_n 1, 1) := by decide +kernel
theorem dX2_readCommand_119 : decode cX2_readCommand 119 = .ok (.iload 6, 2) := by decide +kernel
theorem dX2_readCommand_121 : decode cX2_readCommand 121 = .ok (.iastore, 1) := by decide +kernel
theorem dX2_readCommand_122 : decode cX2_readCommand 122 = .ok (.bipush (-100), 2) := by decide +kernel
theorem dX2_readCommand_124 : decode cX2_readCommand 124 = .ok (.ireturn, 1) := by decide +kernel
theorem dX2_byteHere_0 : decode cX2_byteHere 0 = .ok (.aload_n 0, 1) := by decide +kernel
theorem dX2_byteHere_1 : decode cX2_byteHere 1 = .ok (.getfield 19, 3) := by decide +kernel
theorem dX2_byteHere_4 : decode cX2_byteHere 4 = .ok (.aload_n 0, 1) := by decide +kernel
theorem dX2_byteHere_5 : decode cX2_byteHere 5 = .ok (.getfield 15, 3) := by decide +kernel
theorem dX2_byteHere_8 : decode cX2_byteHere 8 = .ok (.if_icmp .ge 15, 3) := by decide +kernel
theorem dX2_byteHere_11 : decode cX2_byteHere 11 = .ok (.aload_n 0, 1) := by decide +kernel
theorem dX2_byteHere_12 : decode cX2_byteHere 12 = .ok (.getfield 11, 3) := by decide +kernel
theorem dX2_byteHere_15 : decode cX2_byteHere 15 = .ok (.aload_n 0, 1) := by decide +kernel
theorem dX2_byteHere_16 : decode cX2_byteHere 16 = .ok (.getfield 19, 3) := by decide +kernel
theorem dX2_byteHere_19 : decode cX2_byteHere 19 = .ok (.iaload, 1) := by decide +kernel
theorem dX2_byteHere_20 : decode cX2_byteHere 20 = .ok (.goto 4, 3) := by decide +kernel
theorem dX2_byteHere_23 : decode cX2_byteHere 23 = .ok (.iconst (-1), 1) := by decide +kernel
theorem dX2_byteHere_24 : decode cX2_byteHere 24 = .ok (.ireturn, 1) := by decide +kernel
theorem dX2_skipBlanks_0 : decode cX2_skipBlanks 0 = .ok (.aload_n 0, 1) := by decide +kernel
theorem dX2_skipBlanks_1 : decode cX2_skipBlanks 1 = .ok (.getfield 19, 3) := by decide +kernel
theorem dX2_skipBlanks_4 : decode cX2_skipBlanks 4 = .ok (.aload_n 0, 1) := by decide +kernel
theorem dX2_skipBlanks_5 : decode cX2_skipBlanks 5 = .ok (.getfield 15, 3) := by decide +kernel
theorem dX2_skipBlanks_8 : decode cX2_skipBlanks 8 = .ok (.if_icmp .ge 30, 3) := by decide +kernel
theorem dX2_skipBlanks_11 : decode cX2_skipBlanks 11 = .ok (.aload_n 0, 1) := by decide +kernel
theorem dX2_skipBlanks_12 : decode cX2_skipBlanks 12 = .ok (.getfield 11, 3) := by decide +kernel
theorem dX2_skipBlanks_15 : decode cX2_skipBlanks 15 = .ok (.aload_n 0, 1) := by decide +kernel
theorem dX2_skipBlanks_16 : decode cX2_skipBlanks 16 = .ok (.getfield 19, 3) := by decide +kernel
theorem dX2_skipBlanks_19 : decode cX2_skipBlanks 19 = .ok (.iaload, 1) := by decide +kernel
theorem dX2_skipBlanks_20 : decode cX2_skipBlanks 20 = .ok (.bipush 32, 2) := by decide +kernel
theorem dX2_skipBlanks_22 : decode cX2_skipBlanks 22 = .ok (.if_icmp .ne 16, 3) := by decide +kernel
theorem dX2_skipBlanks_25 : decode cX2_skipBlanks 25 = .ok (.aload_n 0, 1) := by decide +kernel
theorem dX2_skipBlanks_26 : decode cX2_skipBlanks 26 = .ok (.dup, 1) := by decide +kernel
theorem dX2_skipBlanks_27 : decode cX2_skipBlanks 27 = .ok (.getfield 19, 3) := by decide +kernel
theorem dX2_skipBlanks_30 : decode cX2_skipBlanks 30 = .ok (.iconst 1, 1) := by decide +kernel
theorem dX2_skipBlanks_31 : decode cX2_skipBlanks 31 = .ok (.iadd, 1) := by decide +kernel
theorem dX2_skipBlanks_32 : decode cX2_skipBlanks 32 = .ok (.putfield 19, 3) := by decide +kernel
theorem dX2_skipBlanks_35 : decode cX2_skipBlanks 35 = .ok (.goto (-35), 3) := by decide +kernel
theorem dX2_skipBlanks_38 : decode cX2_skipBlanks 38 = .ok (.return_, 1) := by decide +kernel
set_option maxRecDepth 20000 in
theorem ggX2_wayHere_X2_byteHere : GoodIn wsX2_wayHere wsX2_byteHere := goodIn_r _ [5, 6, 7, 8, 9, 10, 11, 12, 13, 14, 15] (by decide +kernel) (by decide +kernel)
set_option maxRecDepth 20000 in
theorem gX2_wayHere_X2_byteHere : GoodIn wsX2_wayHere (wsV RX2 41 RX2 yX2_byteHere wsX2_byteHere) := goodIn_app (goodIn_of _ (by decide +kernel)) ggX2_wayHere_X2_byteHere
theorem dX2_wayHere_0 : decode cX2_wayHere 0 = .ok (.aload_n 0, 1) := by decide +kernel
theorem dX2_wayHere_1 : decode cX2_wayHere 1 = .ok (.invokevirtual 41, 3) := by decide +kernel
theorem dX2_wayHere_4 : decode cX2_wayHere 4 = .ok (.lookupswitch 42 #[(60, 38), (62, 36), (126, 40)], 36) := by decide +kernel
theorem dX2_wayHere_40 : decode cX2_wayHere 40 = .ok (.iconst 1, 1) := by decide +kernel
theorem dX2_wayHere_41 : decode cX2_wayHere 41 = .ok (.ireturn, 1) := by decide +kernel
theorem dX2_wayHere_42 : decode cX2_wayHere 42 = .ok (.iconst (-1), 1) := by decide +kernel
theorem dX2_wayHere_43 : decode cX2_wayHere 43 = .ok (.ireturn, 1) := by decide +kernel
theorem dX2_wayHere_44 : decode cX2_wayHere 44 = .ok (.iconst 0, 1) := by decide +kernel
theorem dX2_wayHere_45 : decode cX2_wayHere 45 = .ok (.ireturn, 1) := by decide +kernel
theorem dX2_wayHere_46 : decode cX2_wayHere 46 = .ok (.iconst 2, 1) := by decide +kernel
theorem dX2_wayHere_47 : decode cX2_wayHere 47 = .ok (.ireturn, 1) := by decide +kernel
set_option maxRecDepth 20000 in
theorem ggX2_readAngle_X3_isAngle : GoodIn wsX2_readAngle wsX3_isAngle := goodIn_r _ [6] (by decide +kernel) (by decide +kernel)
set_option maxRecDepth 20000 in
theorem gX2_readAngle_X3_isAngle_n64 : GoodIn wsX2_readAngle (wsX3_isAngle) := ggX2_readAngle_X3_isAngle
theorem dX2_readAngle_0 : decode cX2_readAngle 0 = .ok (.iconst 0, 1) := by decide +kernel
theorem dX2_readAngle_1 : decode cX2_readAngle 1 = .ok (.istore_n 1, 1) := by decide +kernel
theorem dX2_readAngle_2 : decode cX2_readAngle 2 = .ok (.iconst 0, 1) := by decide +kernel
theorem dX2_readAngle_3 : decode cX2_readAngle 3 = .ok (.istore_n 2, 1) := by decide +kernel
theorem dX2_readAngle_4 : decode cX2_readAngle 4 = .ok (.aload_n 0, 1) := by decide +kernel
theorem dX2_readAngle_5 : decode cX2_readAngle 5 = .ok (.getfield 19, 3) := by decide +kernel
theorem dX2_readAngle_8 : decode cX2_readAngle 8 = .ok (.aload_n 0, 1) := by decide +kernel
theorem dX2_readAngle_9 : decode cX2_readAngle 9 = .ok (.getfield 15, 3) := by decide +kernel
theorem dX2_readAngle_12 : decode cX2_readAngle 12 = .ok (.if_icmp .ge 74, 3) := by decide +kernel
theorem dX2_readAngle_15 : decode cX2_readAngle 15 = .ok (.aload_n 0, 1) := by decide +kernel
theorem dX2_readAngle_16 : decode cX2_readAngle 16 = .ok (.getfield 11, 3) := by decide +kernel
theorem dX2_readAngle_19 : decode cX2_readAngle 19 = .ok (.aload_n 0, 1) := by decide +kernel
theorem dX2_readAngle_20 : decode cX2_readAngle 20 = .ok (.getfield 19, 3) := by decide +kernel
theorem dX2_readAngle_23 : decode cX2_readAngle 23 = .ok (.iaload, 1) := by decide +kernel
theorem dX2_readAngle_24 : decode cX2_readAngle 24 = .ok (.bipush 48, 2) := by decide +kernel
theorem dX2_readAngle_26 : decode cX2_readAngle 26 = .ok (.if_icmp .lt 60, 3) := by decide +kernel
theorem dX2_readAngle_29 : decode cX2_readAngle 29 = .ok (.aload_n 0, 1) := by decide +kernel
theorem dX2_readAngle_30 : decode cX2_readAngle 30 = .ok (.getfield 11, 3) := by decide +kernel
theorem dX2_readAngle_33 : decode cX2_readAngle 33 = .ok (.aload_n 0, 1) := by decide +kernel
theorem dX2_readAngle_34 : decode cX2_readAngle 34 = .ok (.getfield 19, 3) := by decide +kernel
theorem dX2_readAngle_37 : decode cX2_readAngle 37 = .ok (.iaload, 1) := by decide +kernel
theorem dX2_readAngle_38 : decode cX2_readAngle 38 = .ok (.bipush 57, 2) := by decide +kernel
theorem dX2_readAngle_40 : decode cX2_readAngle 40 = .ok (.if_icmp .gt 46, 3) := by decide +kernel
theorem dX2_readAngle_43 : decode cX2_readAngle 43 = .ok (.iload_n 2, 1) := by decide +kernel
theorem dX2_readAngle_44 : decode cX2_readAngle 44 = .ok (.iconst 2, 1) := by decide +kernel
theorem dX2_readAngle_45 : decode cX2_readAngle 45 = .ok (.if_icmp .ge 23, 3) := by decide +kernel
theorem dX2_readAngle_48 : decode cX2_readAngle 48 = .ok (.bipush 10, 2) := by decide +kernel
theorem dX2_readAngle_50 : decode cX2_readAngle 50 = .ok (.iload_n 1, 1) := by decide +kernel
theorem dX2_readAngle_51 : decode cX2_readAngle 51 = .ok (.imul, 1) := by decide +kernel
theorem dX2_readAngle_52 : decode cX2_readAngle 52 = .ok (.aload_n 0, 1) := by decide +kernel
theorem dX2_readAngle_53 : decode cX2_readAngle 53 = .ok (.getfield 11, 3) := by decide +kernel
theorem dX2_readAngle_56 : decode cX2_readAngle 56 = .ok (.aload_n 0, 1) := by decide +kernel
theorem dX2_readAngle_57 : decode cX2_readAngle 57 = .ok (.getfield 19, 3) := by decide +kernel
theorem dX2_readAngle_60 : decode cX2_readAngle 60 = .ok (.iaload, 1) := by decide +kernel
theorem dX2_readAngle_61 : decode cX2_readAngle 61 = .ok (.iadd, 1) := by decide +kernel
theorem dX2_readAngle_62 : decode cX2_readAngle 62 = .ok (.bipush 48, 2) := by decide +kernel
theorem dX2_readAngle_64 : decode cX2_readAngle 64 = .ok (.isub, 1) := by decide +kernel
theorem dX2_readAngle_65 : decode cX2_readAngle 65 = .ok (.goto 4, 3) := by decide +kernel
theorem dX2_readAngle_68 : decode cX2_readAngle 68 = .ok (.iload_n 1, 1) := by decide +kernel
theorem dX2_readAngle_69 : decode cX2_readAngle 69 = .ok (.istore_n 1, 1) := by decide +kernel
