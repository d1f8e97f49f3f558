theorem dX3_override_33 : decode cX3_override 33 = .ok (.invokevirtual 108, 3) := by decide +kernel
theorem dX3_override_36 : decode cX3_override 36 = .ok (.ifCond .eq 14, 3) := by decide +kernel
theorem dX3_override_39 : decode cX3_override 39 = .ok (.aload_n 0, 1) := by decide +kernel
theorem dX3_override_40 : decode cX3_override 40 = .ok (.getfield 10, 3) := by decide +kernel
theorem dX3_override_43 : decode cX3_override 43 = .ok (.iload_n 1, 1) := by decide +kernel
theorem dX3_override_44 : decode cX3_override 44 = .ok (.invokevirtual 102, 3) := by decide +kernel
theorem dX3_override_47 : decode cX3_override 47 = .ok (.ifCond .eq 6, 3) := by decide +kernel
theorem dX3_override_50 : decode cX3_override 50 = .ok (.bipush (-103), 2) := by decide +kernel
theorem dX3_override_52 : decode cX3_override 52 = .ok (.ireturn, 1) := by decide +kernel
theorem dX3_override_53 : decode cX3_override 53 = .ok (.aload_n 0, 1) := by decide +kernel
theorem dX3_override_54 : decode cX3_override 54 = .ok (.getfield 10, 3) := by decide +kernel
theorem dX3_override_57 : decode cX3_override 57 = .ok (.invokevirtual 150, 3) := by decide +kernel
theorem dX3_override_60 : decode cX3_override 60 = .ok (.bipush 10, 2) := by decide +kernel
theorem dX3_override_62 : decode cX3_override 62 = .ok (.if_icmp .lt 6, 3) := by decide +kernel
theorem dX3_override_65 : decode cX3_override 65 = .ok (.bipush (-104), 2) := by decide +kernel
theorem dX3_override_67 : decode cX3_override 67 = .ok (.ireturn, 1) := by decide +kernel
theorem dX3_override_68 : decode cX3_override 68 = .ok (.aload_n 0, 1) := by decide +kernel
theorem dX3_override_69 : decode cX3_override 69 = .ok (.getfield 22, 3) := by decide +kernel
theorem dX3_override_72 : decode cX3_override 72 = .ok (.aload_n 0, 1) := by decide +kernel
theorem dX3_override_73 : decode cX3_override 73 = .ok (.getfield 10, 3) := by decide +kernel
theorem dX3_override_76 : decode cX3_override 76 = .ok (.invokevirtual 44, 3) := by decide +kernel
theorem dX3_override_79 : decode cX3_override 79 = .ok (.aload_n 0, 1) := by decide +kernel
theorem dX3_override_80 : decode cX3_override 80 = .ok (.getfield 10, 3) := by decide +kernel
theorem dX3_override_83 : decode cX3_override 83 = .ok (.iload_n 1, 1) := by decide +kernel
theorem dX3_override_84 : decode cX3_override 84 = .ok (.invokevirtual 153, 3) := by decide +kernel
theorem dX3_override_87 : decode cX3_override 87 = .ok (.aload_n 0, 1) := by decide +kernel
theorem dX3_override_88 : decode cX3_override 88 = .ok (.getfield 10, 3) := by decide +kernel
theorem dX3_override_91 : decode cX3_override 91 = .ok (.invokevirtual 93, 3) := by decide +kernel
theorem dX3_override_94 : decode cX3_override 94 = .ok (.istore_n 3, 1) := by decide +kernel
theorem dX3_override_95 : decode cX3_override 95 = .ok (.aload_n 0, 1) := by decide +kernel
theorem dX3_override_96 : decode cX3_override 96 = .ok (.getfield 10, 3) := by decide +kernel
theorem dX3_override_99 : decode cX3_override 99 = .ok (.iload_n 1, 1) := by decide +kernel
theorem dX3_override_100 : decode cX3_override 100 = .ok (.iload_n 2, 1) := by decide +kernel
theorem dX3_override_101 : decode cX3_override 101 = .ok (.iload_n 3, 1) := by decide +kernel
theorem dX3_override_102 : decode cX3_override 102 = .ok (.invokevirtual 156, 3) := by decide +kernel
theorem dX3_override_105 : decode cX3_override 105 = .ok (.iload_n 3, 1) := by decide +kernel
theorem dX3_override_106 : decode cX3_override 106 = .ok (.ireturn, 1) := by decide +kernel
set_option maxRecDepth 20000 in
theorem ggX3_notes_X1_noteCount : GoodIn wsX3_notes wsX1_noteCount := goodIn_r _ [6, 7, 12] (by decide +kernel) (by decide +kernel)
set_option maxRecDepth 20000 in
theorem gX3_notes_X1_noteCount : GoodIn wsX3_notes (wsV RX3 150 RX1 yX1_noteCount wsX1_noteCount) := goodIn_app (goodIn_of _ (by decide +kernel)) ggX3_notes_X1_noteCount
theorem dX3_notes_0 : decode cX3_notes 0 = .ok (.aload_n 0, 1) := by decide +kernel
theorem dX3_notes_1 : decode cX3_notes 1 = .ok (.getfield 10, 3) := by decide +kernel
theorem dX3_notes_4 : decode cX3_notes 4 = .ok (.invokevirtual 150, 3) := by decide +kernel
theorem dX3_notes_7 : decode cX3_notes 7 = .ok (.ireturn, 1) := by decide +kernel
set_option maxRecDepth 20000 in
theorem ggX3_note_X1_noteCount : GoodIn wsX3_note wsX1_noteCount := goodIn_r _ [6, 7, 16] (by decide +kernel) (by decide +kernel)
set_option maxRecDepth 20000 in
theorem gX3_note_X1_noteCount : GoodIn wsX3_note (wsV RX3 150 RX1 yX1_noteCount wsX1_noteCount) := goodIn_app (goodIn_of _ (by decide +kernel)) ggX3_note_X1_noteCount
set_option maxRecDepth 20000 in
theorem ggX3_note_X1_partOfNote : GoodIn wsX3_note wsX1_partOfNote := goodIn_r _ [11, 7, 16] (by decide +kernel) (by decide +kernel)
set_option maxRecDepth 20000 in
theorem gX3_note_X1_partOfNote : GoodIn wsX3_note (wsV RX3 160 RX1 yX1_partOfNote wsX1_partOfNote) := goodIn_app (goodIn_of _ (by decide +kernel)) ggX3_note_X1_partOfNote
theorem dX3_note_0 : decode cX3_note 0 = .ok (.iload_n 1, 1) := by decide +kernel
theorem dX3_note_1 : decode cX3_note 1 = .ok (.ifCond .lt 14, 3) := by decide +kernel
theorem dX3_note_4 : decode cX3_note 4 = .ok (.iload_n 1, 1) := by decide +kernel
theorem dX3_note_5 : decode cX3_note 5 = .ok (.aload_n 0, 1) := by decide +kernel
theorem dX3_note_6 : decode cX3_note 6 = .ok (.getfield 10, 3) := by decide +kernel
theorem dX3_note_9 : decode cX3_note 9 = .ok (.invokevirtual 150, 3) := by decide +kernel
theorem dX3_note_12 : decode cX3_note 12 = .ok (.if_icmp .lt 6, 3) := by decide +kernel
theorem dX3_note_15 : decode cX3_note 15 = .ok (.bipush (-101), 2) := by decide +kernel
theorem dX3_note_17 : decode cX3_note 17 = .ok (.ireturn, 1) := by decide +kernel
theorem dX3_note_18 : decode cX3_note 18 = .ok (.iload_n 2, 1) := by decide +kernel
theorem dX3_note_19 : decode cX3_note 19 = .ok (.ifCond .lt 8, 3) := by decide +kernel
theorem dX3_note_22 : decode cX3_note 22 = .ok (.iload_n 2, 1) := by decide +kernel
theorem dX3_note_23 : decode cX3_note 23 = .ok (.iconst 4, 1) := by decide +kernel
theorem dX3_note_24 : decode cX3_note 24 = .ok (.if_icmp .lt 6, 3) := by decide +kernel
theorem dX3_note_27 : decode cX3_note 27 = .ok (.bipush (-102), 2) := by decide +kernel
theorem dX3_note_29 : decode cX3_note 29 = .ok (.ireturn, 1) := by decide +kernel
theorem dX3_note_30 : decode cX3_note 30 = .ok (.aload_n 0, 1) := by decide +kernel
theorem dX3_note_31 : decode cX3_note 31 = .ok (.getfield 10, 3) := by decide +kernel
theorem dX3_note_34 : decode cX3_note 34 = .ok (.iload_n 1, 1) := by decide +kernel
theorem dX3_note_35 : decode cX3_note 35 = .ok (.iload_n 2, 1) := by decide +kernel
theorem dX3_note_36 : decode cX3_note 36 = .ok (.invokevirtual 160, 3) := by decide +kernel
theorem dX3_note_39 : decode cX3_note 39 = .ok (.ireturn, 1) := by decide +kernel
set_option maxRecDepth 20000 in
theorem ggX3_undo_X0_isEmpty : GoodIn wsX3_undo wsX0_isEmpty := goodIn_r _ [7, 8, 29, 30, 31] (by decide +kernel) (by decide +kernel)
set_option maxRecDepth 20000 in
theorem gX3_undo_X0_isEmpty : GoodIn wsX3_undo (wsV RX3 166 RX0 yX0_isEmpty wsX0_isEmpty) := goodIn_app (goodIn_of _ (by decide +kernel)) ggX3_undo_X0_isEmpty
set_option maxRecDepth 20000 in
theorem ggX3_undo_X0_restore : GoodIn wsX3_undo wsX0_restore := goodIn_r _ [12, 13, 8, 14, 15, 16, 17, 18, 19, 20, 21, 22, 23, 24, 29, 30, 31, 32] (by decide +kernel) (by decide +kernel)
set_option maxRecDepth 20000 in
theorem gX3_undo_X0_restore : GoodIn wsX3_undo (wsV RX3 169 RX0 yX0_restore wsX0_restore) := goodIn_app (goodIn_of _ (by decide +kernel)) ggX3_undo_X0_restore
theorem dX3_undo_0 : decode cX3_undo 0 = .ok (.aload_n 0, 1) := by decide +kernel
theorem dX3_undo_1 : decode cX3_undo 1 = .ok (.getfield 22, 3) := by decide +kernel
theorem dX3_undo_4 : decode cX3_undo 4 = .ok (.invokevirtual 166, 3) := by decide +kernel
theorem dX3_undo_7 : decode cX3_undo 7 = .ok (.ifCond .eq 6, 3) := by decide +kernel
theorem dX3_undo_10 : decode cX3_undo 10 = .ok (.bipush (-103), 2) := by decide +kernel
theorem dX3_undo_12 : decode cX3_undo 12 = .ok (.ireturn, 1) := by decide +kernel
theorem dX3_undo_13 : decode cX3_undo 13 = .ok (.aload_n 0, 1) := by decide +kernel
theorem dX3_undo_14 : decode cX3_undo 14 = .ok (.getfield 22, 3) := by decide +kernel
theorem dX3_undo_17 : decode cX3_undo 17 = .ok (.aload_n 0, 1) := by decide +kernel
theorem dX3_undo_18 : decode cX3_undo 18 = .ok (.getfield 10, 3) := by decide +kernel
theorem dX3_undo_21 : decode cX3_undo 21 = .ok (.invokevirtual 169, 3) := by decide +kernel
theorem dX3_undo_24 : decode cX3_undo 24 = .ok (.ireturn, 1) := by decide +kernel
set_option maxRecDepth 20000 in
theorem ggX3_command_X2_read : GoodIn wsX3_command wsX2_read := goodIn_r _ [8, 9, 10, 11, 12, 13, 7, 14, 15, 16, 17, 18, 19, 20, 21, 22, 23, 24, 25, 26, 27, 28, 29, 30, 31, 32, 33, 34, 35, 36, 37, 38, 39, 40, 41, 42, 43, 44, 45, 46, 47, 48, 49, 50, 51, 52, 53, 54, 55, 56, 117, 118, 119, 120, 121, 122, 123, 124] (by decide +kernel) (by decide +kernel)
set_option maxRecDepth 20000 in
theorem gX3_command_X2_read : GoodIn wsX3_command (wsV RX3 182 RX2 yX2_read wsX2_read) := goodIn_app (goodIn_of _ (by decide +kernel)) ggX3_command_X2_read
set_option maxRecDepth 20000 in
theorem ggX3_command_X0_keep : GoodIn wsX3_command wsX0_keep := goodIn_r _ [61, 62, 63, 64, 65, 66, 67, 68, 69, 70, 71, 31, 72, 33, 73, 74, 75, 76, 125, 126, 127, 124] (by decide +kernel) (by decide +kernel)
set_option maxRecDepth 20000 in
theorem gX3_command_X0_keep : GoodIn wsX3_command (wsV RX3 44 RX0 yX0_keep wsX0_keep) := goodIn_app (goodIn_of _ (by decide +kernel)) ggX3_command_X0_keep
set_option maxRecDepth 20000 in
theorem ggX3_command_X2_carryOut : GoodIn wsX3_command wsX2_carryOut := goodIn_r _ [80, 10, 15, 17, 16, 81, 82, 83, 31, 84, 33, 85, 86, 87, 88, 89, 55, 90, 91, 92, 93, 94, 95, 96, 97, 117, 118, 119, 120, 121, 122, 123, 124] (by decide +kernel) (by decide +kernel)
set_option maxRecDepth 20000 in
theorem gX3_command_X2_carryOut : GoodIn wsX3_command (wsV RX3 185 RX2 yX2_carryOut wsX2_carryOut) := goodIn_app (goodIn_of _ (by decide +kernel)) ggX3_command_X2_carryOut
set_option maxRecDepth 20000 in
theorem ggX3_command_X1_cranesWithTarget : GoodIn wsX3_command wsX1_cranesWithTarget := goodIn_r _ [101, 33, 102, 103, 104, 31, 105, 124] (by decide +kernel) (by decide +kernel)
set_option maxRecDepth 20000 in
theorem gX3_command_X1_cranesWithTarget : GoodIn wsX3_command (wsV RX3 188 RX1 yX1_cranesWithTarget wsX1_cranesWithTarget) := goodIn_app (goodIn_of _ (by decide +kernel)) ggX3_command_X1_cranesWithTarget
set_option maxRecDepth 20000 in
theorem ggX3_command_J6_bitCount_0f7a4 : GoodIn wsX3_command wsJ6_bitCount_0f7a4 := goodIn_r _ [109, 110, 111, 112] (by decide +kernel) (by decide +kernel)
set_option maxRecDepth 20000 in
theorem gX3_command_J6_bitCount_0f7a4 : GoodIn wsX3_command (va_wsS RX3 191 yJ6_bitCount_0f7a4 wsJ6_bitCount_0f7a4) := goodIn_app (goodIn_of _ (by decide +kernel)) ggX3_command_J6_bitCount_0f7a4
theorem dX3_command_0 : decode cX3_command 0 = .ok (.aload_n 0, 1) := by decide +kernel
theorem dX3_command_1 : decode cX3_command 1 = .ok (.getfield 29, 3) := by decide +kernel
theorem dX3_command_4 : decode cX3_command 4 = .ok (.aload_n 0, 1) := by decide +kernel
theorem dX3_command_5 : decode cX3_command 5 = .ok (.getfield 10, 3) := by decide +kernel
theorem dX3_command_8 : decode cX3_command 8 = .ok (.invokevirtual 182, 3) := by decide +kernel
theorem dX3_command_11 : decode cX3_command 11 = .ok (.bipush (-100), 2) := by decide +kernel
theorem dX3_command_13 : decode cX3_command 13 = .ok (.if_icmp .eq 6, 3) := by decide +kernel
theorem dX3_command_16 : decode cX3_command 16 = .ok (.bipush (-103), 2) := by decide +kernel
theorem dX3_command_18 : decode cX3_command 18 = .ok (.ireturn, 1) := by decide +kernel
theorem dX3_command_19 : decode cX3_command 19 = .ok (.aload_n 0, 1) := by decide +kernel
theorem dX3_command_20 : decode cX3_command 20 = .ok (.getfield 22, 3) := by decide +kernel
theorem dX3_command_23 : decode cX3_command 23 = .ok (.aload_n 0, 1) := by decide +kernel
theorem dX3_command_24 : decode cX3_command 24 = .ok (.getfield 10, 3) := by decide +kernel
theorem dX3_command_27 : decode cX3_command 27 = .ok (.invokevirtual 44, 3) := by decide +kernel
theorem dX3_command_30 : decode cX3_command 30 = .ok (.aload_n 0, 1) := by decide +kernel
theorem dX3_command_31 : decode cX3_command 31 = .ok (.getfield 29, 3) := by decide +kernel
theorem dX3_command_34 : decode cX3_command 34 = .ok (.aload_n 0, 1) := by decide +kernel
theorem dX3_command_35 : decode cX3_command 35 = .ok (.getfield 10, 3) := by decide +kernel
theorem dX3_command_38 : decode cX3_command 38 = .ok (.invokevirtual 185, 3) := by decide +kernel
theorem dX3_command_41 : decode cX3_command 41 = .ok (.aload_n 0, 1) := by decide +kernel
theorem dX3_command_42 : decode cX3_command 42 = .ok (.getfield 10, 3) := by decide +kernel
theorem dX3_command_45 : decode cX3_command 45 = .ok (.invokevirtual 188, 3) := by decide +kernel
theorem dX3_command_48 : decode cX3_command 48 = .ok (.invokestatic 191, 3) := by decide +kernel
theorem dX3_command_51 : decode cX3_command 51 = .ok (.ireturn, 1) := by decide +kernel
set_option maxRecDepth 20000 in
theorem ggX3_digest_X1_hash : GoodIn wsX3_digest wsX1_hash := goodIn_r _ [6, 7, 8, 9, 10, 11, 12, 5, 13, 14, 15, 16, 17, 18, 19, 20, 21, 22, 23, 24, 25, 26, 27, 28, 29, 30, 31, 32, 33, 34, 35, 36, 37, 38, 39, 40, 41, 42, 43, 44, 45, 46, 47, 48, 49, 54] (by decide +kernel) (by decide +kernel)
set_option maxRecDepth 20000 in
theorem gX3_digest_X1_hash : GoodIn wsX3_digest (wsV RX3 196 RX1 yX1_hash wsX1_hash) := goodIn_app (goodIn_of _ (by decide +kernel)) ggX3_digest_X1_hash
theorem dX3_digest_0 : decode cX3_digest 0 = .ok (.aload_n 0, 1) := by decide +kernel
theorem dX3_digest_1 : decode cX3_digest 1 = .ok (.getfield 10, 3) := by decide +kernel
theorem dX3_digest_4 : decode cX3_digest 4 = .ok (.invokevirtual 196, 3) := by decide +kernel
theorem dX3_digest_7 : decode cX3_digest 7 = .ok (.lreturn, 1) := by decide +kernel
theorem dX3_isAngle_0 : decode cX3_isAngle 0 = .ok (.iload_n 0, 1) := by decide +kernel
theorem dX3_isAngle_1 : decode cX3_isAngle 1 = .ok (.ifCond .lt 13, 3) := by decide +kernel
theorem dX3_isAngle_4 : decode cX3_isAngle 4 = .ok (.iload_n 0, 1) := by decide +kernel
theorem dX3_isAngle_5 : decode cX3_isAngle 5 = .ok (.bipush 36, 2) := by decide +kernel
theorem dX3_isAngle_7 : decode cX3_isAngle 7 = .ok (.if_icmp .ge 7, 3) := by decide +kernel
theorem dX3_isAngle_10 : decode cX3_isAngle 10 = .ok (.iconst 1, 1) := by decide +kernel
theorem dX3_isAngle_11 : decode cX3_isAngle 11 = .ok (.goto 4, 3) := by decide +kernel
theorem dX3_isAngle_14 : decode cX3_isAngle 14 = .ok (.iconst 0, 1) := by decide +kernel
theorem dX3_isAngle_15 : decode cX3_isAngle 15 = .ok (.ireturn, 1) := by decide +kernel
theorem dX3_isPriority_0 : decode cX3_isPriority 0 = .ok (.iload_n 0, 1) := by decide +kernel
theorem dX3_isPriority_1 : decode cX3_isPriority 1 = .ok (.ifCond .lt 13, 3) := by decide +kernel
theorem dX3_isPriority_4 : decode cX3_isPriority 4 = .ok (.iload_n 0, 1) := by decide +kernel
theorem dX3_isPriority_5 : decode cX3_isPriority 5 = .ok (.bipush 9, 2) := by decide +kernel
theorem dX3_isPriority_7 : decode cX3_isPriority 7 = .ok (.if_icmp .gt 7, 3) := by decide +kernel
theorem dX3_isPriority_10 : decode cX3_isPriority 10 = .ok (.iconst 1, 1) := by decide +kernel
theorem dX3_isPriority_11 : decode cX3_isPriority 11 = .ok (.goto 4, 3) := by decide +kernel
theorem dX3_isPriority_14 : decode cX3_isPriority 14 = .ok (.iconst 0, 1) := by decide +kernel
theorem dX3_isPriority_15 : decode cX3_isPriority 15 = .ok (.ireturn, 1) := by decide +kernel
theorem dX3_isZone_0 : decode cX3_isZone 0 = .ok (.iload_n 0, 1) := by decide +kernel
theorem dX3_isZone_1 : decode cX3_isZone 1 = .ok (.ifCond .lt 13, 3) := by decide +kernel
theorem dX3_isZone_4 : decode cX3_isZone 4 = .ok (.iload_n 0, 1) := by decide +kernel
theorem dX3_isZone_5 : decode cX3_isZone 5 = .ok (.bipush 6, 2) := by decide +kernel
theorem dX3_isZone_7 : decode cX3_isZone 7 = .ok (.if_icmp .ge 7, 3) := by decide +kernel
theorem dX3_isZone_10 : decode cX3_isZone 10 = .ok (.iconst 1, 1) := by decide +kernel
theorem dX3_isZone_11 : decode cX3_isZone 11 = .ok (.goto 4, 3) := by decide +kernel
theorem dX3_isZone_14 : decode cX3_isZone 14 = .ok (.iconst 0, 1) := by decide +kernel
theorem dX3_isZone_15 : decode cX3_isZone 15 = .ok (.ireturn, 1) := by decide +kernel
theorem dX3_stepsClockwise_0 : decode cX3_stepsClockwise 0 = .ok (.iload_n 1, 1) := by decide +kernel
theorem dX3_stepsClockwise_1 : decode cX3_stepsClockwise 1 = .ok (.iload_n 0, 1) := by decide +kernel
theorem dX3_stepsClockwise_2 : decode cX3_stepsClockwise 2 = .ok (.isub, 1) := by decide +kernel
theorem dX3_stepsClockwise_3 : decode cX3_stepsClockwise 3 = .ok (.bipush 36, 2) := by decide +kernel
theorem dX3_stepsClockwise_5 : decode cX3_stepsClockwise 5 = .ok (.iadd, 1) := by decide +kernel
theorem dX3_stepsClockwise_6 : decode cX3_stepsClockwise 6 = .ok (.bipush 36, 2) := by decide +kernel
theorem dX3_stepsClockwise_8 : decode cX3_stepsClockwise 8 = .ok (.irem, 1) := by decide +kernel
theorem dX3_stepsClockwise_9 : decode cX3_stepsClockwise 9 = .ok (.ireturn, 1) := by decide +kernel
set_option maxRecDepth 20000 in
theorem ggX3_shorterWay_X3_stepsClockwise : GoodIn wsX3_shorterWay wsX3_stepsClockwise := goodIn_r _ [4] (by decide +kernel) (by decide +kernel)
set_option maxRecDepth 20000 in
theorem gX3_shorterWay_X3_stepsClockwise : GoodIn wsX3_shorterWay (va_wsS RX3 73 yX3_stepsClockwise wsX3_stepsClockwise) := goodIn_app (goodIn_of _ (by decide +kernel)) ggX3_shorterWay_X3_stepsClockwise
theorem dX3_shorterWay_0 : decode cX3_shorterWay 0 = .ok (.iload_n 0, 1) := by decide +kernel
theorem dX3_shorterWay_1 : decode cX3_shorterWay 1 = .ok (.iload_n 1, 1) := by decide +kernel
theorem dX3_shorterWay_2 : decode cX3_shorterWay 2 = .ok (.invokestatic 73, 3) := by decide +kernel
theorem dX3_shorterWay_5 : decode cX3_shorterWay 5 = .ok (.bipush 18, 2) := by decide +kernel
theorem dX3_shorterWay_7 : decode cX3_shorterWay 7 = .ok (.if_icmp .gt 7, 3) := by decide +kernel
theorem dX3_shorterWay_10 : decode cX3_shorterWay 10 = .ok (.iconst 1, 1) := by decide +kernel
theorem dX3_shorterWay_11 : decode cX3_shorterWay 11 = .ok (.goto 4, 3) := by decide +kernel
theorem dX3_shorterWay_14 : decode cX3_shorterWay 14 = .ok (.iconst (-1), 1) := by decide +kernel
theorem dX3_shorterWay_15 : decode cX3_shorterWay 15 = .ok (.ireturn, 1) := by decide +kernel
set_option maxRecDepth 20000 in
theorem ggX3_wouldMakeConflict_X1_copyFrom : GoodIn wsX3_wouldMakeConflict wsX1_copyFrom := goodIn_r _ [7, 8, 9, 10, 11, 12, 60] (by decide +kernel) (by decide +kernel)
set_option maxRecDepth 20000 in
theorem gX3_wouldMakeConflict_X1_copyFrom : GoodIn wsX3_wouldMakeConflict (wsV RX3 200 RX1 yX1_copyFrom wsX1_copyFrom) := goodIn_app (goodIn_of _ (by decide +kernel)) ggX3_wouldMakeConflict_X1_copyFrom
set_option maxRecDepth 20000 in
theorem ggX3_wouldMakeConflict_X1_setLimits : GoodIn wsX3_wouldMakeConflict wsX1_setLimits := goodIn_r _ [16, 8, 60] (by decide +kernel) (by decide +kernel)
set_option maxRecDepth 20000 in
theorem gX3_wouldMakeConflict_X1_setLimits : GoodIn wsX3_wouldMakeConflict (wsV RX3 69 RX1 yX1_setLimits wsX1_setLimits) := goodIn_app (goodIn_of _ (by decide +kernel)) ggX3_wouldMakeConflict_X1_setLimits
set_option maxRecDepth 20000 in
theorem ggX3_wouldMakeConflict_X1_isConflict : GoodIn wsX3_wouldMakeConflict wsX1_isConflict := goodIn_r _ [20, 21, 22, 23, 6, 24, 8, 25, 26, 27, 28, 29, 30, 31, 32, 33, 34, 35, 36, 37, 38, 39, 40, 41, 42, 43, 44, 45, 46, 47, 48, 49, 50, 51, 52, 53, 54, 55, 60] (by decide +kernel) (by decide +kernel)
set_option maxRecDepth 20000 in
theorem gX3_wouldMakeConflict_X1_isConflict : GoodIn wsX3_wouldMakeConflict (wsV RX3 203 RX1 yX1_isConflict wsX1_isConflict) := goodIn_app (goodIn_of _ (by decide +kernel)) ggX3_wouldMakeConflict_X1_isConflict
theorem dX3_wouldMakeConflict_0 : decode cX3_wouldMakeConflict 0 = .ok (.aload_n 0, 1) := by decide +kernel
theorem dX3_wouldMakeConflict_1 : decode cX3_wouldMakeConflict 1 = .ok (.getfield 16, 3) := by decide +kernel
theorem dX3_wouldMakeConflict_4 : decode cX3_wouldMakeConflict 4 = .ok (.aload_n 0, 1) := by decide +kernel
theorem dX3_wouldMakeConflict_5 : decode cX3_wouldMakeConflict 5 = .ok (.getfield 10, 3) := by decide +kernel
theorem dX3_wouldMakeConflict_8 : decode cX3_wouldMakeConflict 8 = .ok (.invokevirtual 200, 3) := by decide +kernel
theorem dX3_wouldMakeConflict_11 : decode cX3_wouldMakeConflict 11 = .ok (.aload_n 0, 1) := by decide +kernel
theorem dX3_wouldMakeConflict_12 : decode cX3_wouldMakeConflict 12 = .ok (.getfield 16, 3) := by decide +kernel
theorem dX3_wouldMakeConflict_15 : decode cX3_wouldMakeConflict 15 = .ok (.iload_n 1, 1) := by decide +kernel
theorem dX3_wouldMakeConflict_16 : decode cX3_wouldMakeConflict 16 = .ok (.iload_n 2, 1) := by decide +kernel
theorem dX3_wouldMakeConflict_17 : decode cX3_wouldMakeConflict 17 = .ok (.iload_n 3, 1) := by decide +kernel
theorem dX3_wouldMakeConflict_18 : decode cX3_wouldMakeConflict 18 = .ok (.iload 4, 2) := by decide +kernel
theorem dX3_wouldMakeConflict_20 : decode cX3_wouldMakeConflict 20 = .ok (.invokevirtual 69, 3) := by decide +kernel
theorem dX3_wouldMakeConflict_23 : decode cX3_wouldMakeConflict 23 = .ok (.aload_n 0, 1) := by decide +kernel
theorem dX3_wouldMakeConflict_24 : decode cX3_wouldMakeConflict 24 = .ok (.getfield 16, 3) := by decide +kernel
theorem dX3_wouldMakeConflict_27 : decode cX3_wouldMakeConflict 27 = .ok (.iload_n 2, 1) := by decide +kernel
theorem dX3_wouldMakeConflict_28 : decode cX3_wouldMakeConflict 28 = .ok (.invokevirtual 203, 3) := by decide +kernel
theorem dX3_wouldMakeConflict_31 : decode cX3_wouldMakeConflict 31 = .ok (.ifCond .eq 18, 3) := by decide +kernel
theorem dX3_wouldMakeConflict_34 : decode cX3_wouldMakeConflict 34 = .ok (.aload_n 0, 1) := by decide +kernel
theorem dX3_wouldMakeConflict_35 : decode cX3_wouldMakeConflict 35 = .ok (.getfield 10, 3) := by decide +kernel
theorem dX3_wouldMakeConflict_38 : decode cX3_wouldMakeConflict 38 = .ok (.iload_n 2, 1) := by decide +kernel
theorem dX3_wouldMakeConflict_39 : decode cX3_wouldMakeConflict 39 = .ok (.invokevirtual 203, 3) := by decide +kernel
theorem dX3_wouldMakeConflict_42 : decode cX3_wouldMakeConflict 42 = .ok (.ifCond .ne 7, 3) := by decide +kernel
theorem dX3_wouldMakeConflict_45 : decode cX3_wouldMakeConflict 45 = .ok (.iconst 1, 1) := by decide +kernel
theorem dX3_wouldMakeConflict_46 : decode cX3_wouldMakeConflict 46 = .ok (.goto 4, 3) := by decide +kernel
theorem dX3_wouldMakeConflict_49 : decode cX3_wouldMakeConflict 49 = .ok (.iconst 0, 1) := by decide +kernel
theorem dX3_wouldMakeConflict_50 : decode cX3_wouldMakeConflict 50 = .ok (.ireturn, 1) := by decide +kernel
set_option maxRecDepth 20000 in
theorem ggX3_ticksUntilDone_X1_copyFrom : GoodIn wsX3_ticksUntilDone wsX1_copyFrom := goodIn_r _ [7, 8, 9, 10, 11, 12, 79] (by decide +kernel) (by decide +kernel)
set_option maxRecDepth 20000 in
theorem gX3_ticksUntilDone_X1_copyFrom : GoodIn wsX3_ticksUntilDone (wsV RX3 200 RX1 yX1_copyFrom wsX1_copyFrom) := goodIn_app (goodIn_of _ (by decide +kernel)) ggX3_ticksUntilDone_X1_copyFrom
set_option maxRecDepth 20000 in
theorem ggX3_ticksUntilDone_X1_cranesWithTarget : GoodIn wsX3_ticksUntilDone wsX1_cranesWithTarget := goodIn_r _ [16, 8, 17, 18, 19, 6, 20, 79] (by decide +kernel) (by decide +kernel)
set_option maxRecDepth 20000 in
theorem gX3_ticksUntilDone_X1_cranesWithTarget : GoodIn wsX3_ticksUntilDone (wsV RX3 188 RX1 yX1_cranesWithTarget wsX1_cranesWithTarget) := goodIn_app (goodIn_of _ (by decide +kernel)) ggX3_ticksUntilDone_X1_cranesWithTarget
set_option maxRecDepth 20000 in
theorem ggX3_ticksUntilDone_X1_passTick : GoodIn wsX3_ticksUntilDone wsX1_passTick := goodIn_r _ [24, 8, 25, 26, 27, 6, 28, 29, 30, 31, 32, 33, 34, 35, 36, 37, 38, 39, 40, 41, 42, 17, 18, 19, 20, 43, 44, 45, 46, 47, 48, 49, 50, 51, 52, 53, 54, 55, 56, 57, 58, 59, 60, 61, 62, 63, 64, 65, 66, 67, 68, 69, 70, 71, 72, 73, 74, 79] (by decide +kernel) (by decide +kernel)
set_option maxRecDepth 20000 in
theorem gX3_ticksUntilDone_X1_passTick : GoodIn wsX3_ticksUntilDone (wsV RX3 118 RX1 yX1_passTick wsX1_passTick) := goodIn_app (goodIn_of _ (by decide +kernel)) ggX3_ticksUntilDone_X1_passTick
theorem dX3_ticksUntilDone_0 : decode cX3_ticksUntilDone 0 = .ok (.aload_n 0, 1) := by decide +kernel
theorem dX3_ticksUntilDone_1 : decode cX3_ticksUntilDone 1 = .ok (.getfield 16, 3) := by decide +kernel
theorem dX3_ticksUntilDone_4 : decode cX3_ticksUntilDone 4 = .ok (.aload_n 0, 1) := by decide +kernel
theorem dX3_ticksUntilDone_5 : decode cX3_ticksUntilDone 5 = .ok (.getfield 10, 3) := by decide +kernel
theorem dX3_ticksUntilDone_8 : decode cX3_ticksUntilDone 8 = .ok (.invokevirtual 200, 3) := by decide +kernel
theorem dX3_ticksUntilDone_11 : decode cX3_ticksUntilDone 11 = .ok (.iconst 0, 1) := by decide +kernel
theorem dX3_ticksUntilDone_12 : decode cX3_ticksUntilDone 12 = .ok (.istore_n 2, 1) := by decide +kernel
theorem dX3_ticksUntilDone_13 : decode cX3_ticksUntilDone 13 = .ok (.iload_n 2, 1) := by decide +kernel
theorem dX3_ticksUntilDone_14 : decode cX3_ticksUntilDone 14 = .ok (.sipush 1000, 3) := by decide +kernel
theorem dX3_ticksUntilDone_17 : decode cX3_ticksUntilDone 17 = .ok (.if_icmp .gt 36, 3) := by decide +kernel
theorem dX3_ticksUntilDone_20 : decode cX3_ticksUntilDone 20 = .ok (.aload_n 0, 1) := by decide +kernel
theorem dX3_ticksUntilDone_21 : decode cX3_ticksUntilDone 21 = .ok (.getfield 16, 3) := by decide +kernel
theorem dX3_ticksUntilDone_24 : decode cX3_ticksUntilDone 24 = .ok (.invokevirtual 188, 3) := by decide +kernel
theorem dX3_ticksUntilDone_27 : decode cX3_ticksUntilDone 27 = .ok (.iload_n 1, 1) := by decide +kernel
theorem dX3_ticksUntilDone_28 : decode cX3_ticksUntilDone 28 = .ok (.iand, 1) := by decide +kernel
theorem dX3_ticksUntilDone_29 : decode cX3_ticksUntilDone 29 = .ok (.ifCond .ne 5, 3) := by decide +kernel
theorem dX3_ticksUntilDone_32 : decode cX3_ticksUntilDone 32 = .ok (.iload_n 2, 1) := by decide +kernel
theorem dX3_ticksUntilDone_33 : decode cX3_ticksUntilDone 33 = .ok (.ireturn, 1) := by decide +kernel
theorem dX3_ticksUntilDone_34 : decode cX3_ticksUntilDone 34 = .ok (.aload_n 0, 1) := by decide +kernel
theorem dX3_ticksUntilDone_35 : decode cX3_ticksUntilDone 35 = .ok (.getfield 16, 3) := by decide +kernel
theorem dX3_ticksUntilDone_38 : decode cX3_ticksUntilDone 38 = .ok (.invokevirtual 118, 3) := by decide +kernel
theorem dX3_ticksUntilDone_41 : decode cX3_ticksUntilDone 41 = .ok (.ifCond .ne 6, 3) := by decide +kernel
theorem dX3_ticksUntilDone_44 : decode cX3_ticksUntilDone 44 = .ok (.bipush (-100), 2) := by decide +kernel
theorem dX3_ticksUntilDone_46 : decode cX3_ticksUntilDone 46 = .ok (.ireturn, 1) := by decide +kernel
theorem dX3_ticksUntilDone_47 : decode cX3_ticksUntilDone 47 = .ok (.iinc 2 1, 3) := by decide +kernel
theorem dX3_ticksUntilDone_50 : decode cX3_ticksUntilDone 50 = .ok (.goto (-37), 3) := by decide +kernel
theorem dX3_ticksUntilDone_53 : decode cX3_ticksUntilDone 53 = .ok (.bipush (-100), 2) := by decide +kernel
theorem dX3_ticksUntilDone_55 : decode cX3_ticksUntilDone 55 = .ok (.ireturn, 1) := by decide +kernel
set_option maxRecDepth 20000 in
theorem ggX3_foretoldWaits_X1_copyFrom : GoodIn wsX3_foretoldWaits wsX1_copyFrom := goodIn_r _ [7, 8, 9, 10, 11, 12, 79] (by decide +kernel) (by decide +kernel)
set_option maxRecDepth 20000 in
theorem gX3_foretoldWaits_X1_copyFrom : GoodIn wsX3_foretoldWaits (wsV RX3 200 RX1 yX1_copyFrom wsX1_copyFrom) := goodIn_app (goodIn_of _ (by decide +kernel)) ggX3_foretoldWaits_X1_copyFrom
set_option maxRecDepth 20000 in
theorem ggX3_foretoldWaits_X1_waitOf : GoodIn wsX3_foretoldWaits wsX1_waitOf := goodIn_r _ [16, 8, 79] (by decide +kernel) (by decide +kernel)
set_option maxRecDepth 20000 in
theorem gX3_foretoldWaits_X1_waitOf : GoodIn wsX3_foretoldWaits (wsV RX3 206 RX1 yX1_waitOf wsX1_waitOf) := goodIn_app (goodIn_of _ (by decide +kernel)) ggX3_foretoldWaits_X1_waitOf
set_option maxRecDepth 20000 in
theorem ggX3_foretoldWaits_X1_passTick : GoodIn wsX3_foretoldWaits wsX1_passTick := goodIn_r _ [20, 8, 21, 22, 23, 6, 24, 25, 26, 27, 28, 29, 30, 31, 32, 33, 34, 35, 36, 37, 38, 39, 40, 41, 42, 43, 44, 45, 46, 47, 48, 49, 50, 51, 52, 53, 54, 55, 56, 57, 58, 59, 60, 61, 62, 63, 64, 65, 66, 67, 68, 69, 70, 71, 72, 73, 74, 79] (by decide +kernel) (by decide +kernel)
set_option maxRecDepth 20000 in
theorem gX3_foretoldWaits_X1_passTick : GoodIn wsX3_foretoldWaits (wsV RX3 118 RX1 yX1_passTick wsX1_passTick) := goodIn_app (goodIn_of _ (by decide +kernel)) ggX3_foretoldWaits_X1_passTick
theorem dX3_foretoldWaits_0 : decode cX3_foretoldWaits 0 = .ok (.aload_n 0, 1) := by decide +kernel
theorem dX3_foretoldWaits_1 : decode cX3_foretoldWaits 1 = .ok (.getfield 16, 3) := by decide +kernel
theorem dX3_foretoldWaits_4 : decode cX3_foretoldWaits 4 = .ok (.aload_n 0, 1) := by decide +kernel
theorem dX3_foretoldWaits_5 : decode cX3_foretoldWaits 5 = .ok (.getfield 10, 3) := by decide +kernel
theorem dX3_foretoldWaits_8 : decode cX3_foretoldWaits 8 = .ok (.invokevirtual 200, 3) := by decide +kernel
theorem dX3_foretoldWaits_11 : decode cX3_foretoldWaits 11 = .ok (.aload_n 0, 1) := by decide +kernel
theorem dX3_foretoldWaits_12 : decode cX3_foretoldWaits 12 = .ok (.getfield 16, 3) := by decide +kernel
theorem dX3_foretoldWaits_15 : decode cX3_foretoldWaits 15 = .ok (.iload_n 1, 1) := by decide +kernel
theorem dX3_foretoldWaits_16 : decode cX3_foretoldWaits 16 = .ok (.invokevirtual 206, 3) := by decide +kernel
theorem dX3_foretoldWaits_19 : decode cX3_foretoldWaits 19 = .ok (.istore_n 3, 1) := by decide +kernel
theorem dX3_foretoldWaits_20 : decode cX3_foretoldWaits 20 = .ok (.iconst 0, 1) := by decide +kernel
theorem dX3_foretoldWaits_21 : decode cX3_foretoldWaits 21 = .ok (.istore 4, 2) := by decide +kernel
theorem dX3_foretoldWaits_23 : decode cX3_foretoldWaits 23 = .ok (.iload 4, 2) := by decide +kernel
theorem dX3_foretoldWaits_25 : decode cX3_foretoldWaits 25 = .ok (.iload_n 2, 1) := by decide +kernel
theorem dX3_foretoldWaits_26 : decode cX3_foretoldWaits 26 = .ok (.if_icmp .ge 51, 3) := by decide +kernel
theorem dX3_foretoldWaits_29 : decode cX3_foretoldWaits 29 = .ok (.aload_n 0, 1) := by decide +kernel
theorem dX3_foretoldWaits_30 : decode cX3_foretoldWaits 30 = .ok (.getfield 16, 3) := by decide +kernel
theorem dX3_foretoldWaits_33 : decode cX3_foretoldWaits 33 = .ok (.iload_n 1, 1) := by decide +kernel
theorem dX3_foretoldWaits_34 : decode cX3_foretoldWaits 34 = .ok (.invokevirtual 206, 3) := by decide +kernel
theorem dX3_foretoldWaits_37 : decode cX3_foretoldWaits 37 = .ok (.istore 5, 2) := by decide +kernel
theorem dX3_foretoldWaits_39 : decode cX3_foretoldWaits 39 = .ok (.aload_n 0, 1) := by decide +kernel
theorem dX3_foretoldWaits_40 : decode cX3_foretoldWaits 40 = .ok (.getfield 16, 3) := by decide +kernel
theorem dX3_foretoldWaits_43 : decode cX3_foretoldWaits 43 = .ok (.invokevirtual 118, 3) := by decide +kernel
theorem dX3_foretoldWaits_46 : decode cX3_foretoldWaits 46 = .ok (.ifCond .ne 25, 3) := by decide +kernel
theorem dX3_foretoldWaits_49 : decode cX3_foretoldWaits 49 = .ok (.iload 5, 2) := by decide +kernel
theorem dX3_foretoldWaits_51 : decode cX3_foretoldWaits 51 = .ok (.iload_n 3, 1) := by decide +kernel
theorem dX3_foretoldWaits_52 : decode cX3_foretoldWaits 52 = .ok (.isub, 1) := by decide +kernel
theorem dX3_foretoldWaits_53 : decode cX3_foretoldWaits 53 = .ok (.iload_n 2, 1) := by decide +kernel
theorem dX3_foretoldWaits_54 : decode cX3_foretoldWaits 54 = .ok (.iload 4, 2) := by decide +kernel
theorem dX3_foretoldWaits_56 : decode cX3_foretoldWaits 56 = .ok (.isub, 1) := by decide +kernel
theorem dX3_foretoldWaits_57 : decode cX3_foretoldWaits 57 = .ok (.aload_n 0, 1) := by decide +kernel
theorem dX3_foretoldWaits_58 : decode cX3_foretoldWaits 58 = .ok (.getfield 16, 3) := by decide +kernel
theorem dX3_foretoldWaits_61 : decode cX3_foretoldWaits 61 = .ok (.iload_n 1, 1) := by decide +kernel
theorem dX3_foretoldWaits_62 : decode cX3_foretoldWaits 62 = .ok (.invokevirtual 206, 3) := by decide +kernel
theorem dX3_foretoldWaits_65 : decode cX3_foretoldWaits 65 = .ok (.iload 5, 2) := by decide +kernel
theorem dX3_foretoldWaits_67 : decode cX3_foretoldWaits 67 = .ok (.isub, 1) := by decide +kernel
theorem dX3_foretoldWaits_68 : decode cX3_foretoldWaits 68 = .ok (.imul, 1) := by decide +kernel
theorem dX3_foretoldWaits_69 : decode cX3_foretoldWaits 69 = .ok (.iadd, 1) := by decide +kernel
theorem dX3_foretoldWaits_70 : decode cX3_foretoldWaits 70 = .ok (.ireturn, 1) := by decide +kernel
theorem dX3_foretoldWaits_71 : decode cX3_foretoldWaits 71 = .ok (.iinc 4 1, 3) := by decide +kernel
theorem dX3_foretoldWaits_74 : decode cX3_foretoldWaits 74 = .ok (.goto (-51), 3) := by decide +kernel
theorem dX3_foretoldWaits_77 : decode cX3_foretoldWaits 77 = .ok (.aload_n 0, 1) := by decide +kernel
theorem dX3_foretoldWaits_78 : decode cX3_foretoldWaits 78 = .ok (.getfield 16, 3) := by decide +kernel
theorem dX3_foretoldWaits_81 : decode cX3_foretoldWaits 81 = .ok (.iload_n 1, 1) := by decide +kernel
theorem dX3_foretoldWaits_82 : decode cX3_foretoldWaits 82 = .ok (.invokevirtual 206, 3) := by decide +kernel
theorem dX3_foretoldWaits_85 : decode cX3_foretoldWaits 85 = .ok (.iload_n 3, 1) := by decide +kernel
theorem dX3_foretoldWaits_86 : decode cX3_foretoldWaits 86 = .ok (.isub, 1) := by decide +kernel
theorem dX3_foretoldWaits_87 : decode cX3_foretoldWaits 87 = .ok (.ireturn, 1) := by decide +kernel
theorem dJ6_bitCount_0f7a4_0 : decode cJ6_bitCount_0f7a4 0 = .ok (.iload_n 0, 1) := by decide +kernel
theorem dJ6_bitCount_0f7a4_1 : decode cJ6_bitCount_0f7a4 1 = .ok (.iload_n 0, 1) := by decide +kernel
theorem dJ6_bitCount_0f7a4_2 : decode cJ6_bitCount_0f7a4 2 = .ok (.iconst 1, 1) := by decide +kernel
theorem dJ6_bitCount_0f7a4_3 : decode cJ6_bitCount_0f7a4 3 = .ok (.iushr, 1) := by decide +kernel
theorem dJ6_bitCount_0f7a4_4 : decode cJ6_bitCount_0f7a4 4 = .ok (.ldc_w 265, 3) := by decide +kernel
theorem dJ6_bitCount_0f7a4_7 : decode cJ6_bitCount_0f7a4 7 = .ok (.iand, 1) := by decide +kernel
theorem dJ6_bitCount_0f7a4_8 : decode cJ6_bitCount_0f7a4 8 = .ok (.isub, 1) := by decide +kernel
theorem dJ6_bitCount_0f7a4_9 : decode cJ6_bitCount_0f7a4 9 = .ok (.istore_n 0, 1) := by decide +kernel
theorem dJ6_bitCount_0f7a4_10 : decode cJ6_bitCount_0f7a4 10 = .ok (.iload_n 0, 1) := by decide +kernel
theorem dJ6_bitCount_0f7a4_11 : decode cJ6_bitCount_0f7a4 11 = .ok (.ldc_w 266, 3) := by decide +kernel
theorem dJ6_bitCount_0f7a4_14 : decode cJ6_bitCount_0f7a4 14 = .ok (.iand, 1) := by decide +kernel
theorem dJ6_bitCount_0f7a4_15 : decode cJ6_bitCount_0f7a4 15 = .ok (.iload_n 0, 1) := by decide +kernel
theorem dJ6_bitCount_0f7a4_16 : decode cJ6_bitCount_0f7a4 16 = .ok (.iconst 2, 1) := by decide +kernel
theorem dJ6_bitCount_0f7a4_17 : decode cJ6_bitCount_0f7a4 17 = .ok (.iushr, 1) := by decide +kernel
theorem dJ6_bitCount_0f7a4_18 : decode cJ6_bitCount_0f7a4 18 = .ok (.ldc_w 266, 3) := by decide +kernel
theorem dJ6_bitCount_0f7a4_21 : decode cJ6_bitCount_0f7a4 21 = .ok (.iand, 1) := by decide +kernel
theorem dJ6_bitCount_0f7a4_22 : decode cJ6_bitCount_0f7a4 22 = .ok (.iadd, 1) := by decide +kernel
theorem dJ6_bitCount_0f7a4_23 : decode cJ6_bitCount_0f7a4 23 = .ok (.istore_n 0, 1) := by decide +kernel
theorem dJ6_bitCount_0f7a4_24 : decode cJ6_bitCount_0f7a4 24 = .ok (.iload_n 0, 1) := by decide +kernel
theorem dJ6_bitCount_0f7a4_25 : decode cJ6_bitCount_0f7a4 25 = .ok (.iload_n 0, 1) := by decide +kernel
theorem dJ6_bitCount_0f7a4_26 : decode cJ6_bitCount_0f7a4 26 = .ok (.iconst 4, 1) := by decide +kernel
theorem dJ6_bitCount_0f7a4_27 : decode cJ6_bitCount_0f7a4 27 = .ok (.iushr, 1) := by decide +kernel
theorem dJ6_bitCount_0f7a4_28 : decode cJ6_bitCount_0f7a4 28 = .ok (.iadd, 1) := by decide +kernel
theorem dJ6_bitCount_0f7a4_29 : decode cJ6_bitCount_0f7a4 29 = .ok (.ldc_w 267, 3) := by decide +kernel
theorem dJ6_bitCount_0f7a4_32 : decode cJ6_bitCount_0f7a4 32 = .ok (.iand, 1) := by decide +kernel
theorem dJ6_bitCount_0f7a4_33 : decode cJ6_bitCount_0f7a4 33 = .ok (.istore_n 0, 1) := by decide +kernel
theorem dJ6_bitCount_0f7a4_34 : decode cJ6_bitCount_0f7a4 34 = .ok (.iload_n 0, 1) := by decide +kernel
theorem dJ6_bitCount_0f7a4_35 : decode cJ6_bitCount_0f7a4 35 = .ok (.iload_n 0, 1) := by decide +kernel
theorem dJ6_bitCount_0f7a4_36 : decode cJ6_bitCount_0f7a4 36 = .ok (.bipush 8, 2) := by decide +kernel
theorem dJ6_bitCount_0f7a4_38 : decode cJ6_bitCount_0f7a4 38 = .ok (.iushr, 1) := by decide +kernel
theorem dJ6_bitCount_0f7a4_39 : decode cJ6_bitCount_0f7a4 39 = .ok (.iadd, 1) := by decide +kernel
theorem dJ6_bitCount_0f7a4_40 : decode cJ6_bitCount_0f7a4 40 = .ok (.istore_n 0, 1) := by decide +kernel
theorem dJ6_bitCount_0f7a4_41 : decode cJ6_bitCount_0f7a4 41 = .ok (.iload_n 0, 1) := by decide +kernel
theorem dJ6_bitCount_0f7a4_42 : decode cJ6_bitCount_0f7a4 42 = .ok (.iload_n 0, 1) := by decide +kernel
theorem dJ6_bitCount_0f7a4_43 : decode cJ6_bitCount_0f7a4 43 = .ok (.bipush 16, 2) := by decide +kernel
theorem dJ6_bitCount_0f7a4_45 : decode cJ6_bitCount_0f7a4 45 = .ok (.iushr, 1) := by decide +kernel
theorem dJ6_bitCount_0f7a4_46 : decode cJ6_bitCount_0f7a4 46 = .ok (.iadd, 1) := by decide +kernel
theorem dJ6_bitCount_0f7a4_47 : decode cJ6_bitCount_0f7a4 47 = .ok (.istore_n 0, 1) := by decide +kernel
theorem dJ6_bitCount_0f7a4_48 : decode cJ6_bitCount_0f7a4 48 = .ok (.iload_n 0, 1) := by decide +kernel
theorem dJ6_bitCount_0f7a4_49 : decode cJ6_bitCount_0f7a4 49 = .ok (.bipush 63, 2) := by decide +kernel
theorem dJ6_bitCount_0f7a4_51 : decode cJ6_bitCount_0f7a4 51 = .ok (.iand, 1) := by decide +kernel
theorem dJ6_bitCount_0f7a4_52 : decode cJ6_bitCount_0f7a4 52 = .ok (.ireturn, 1) := by decide +kernel
theorem dJ9_min_7cf53_0 : decode cJ9_min_7cf53 0 = .ok (.iload_n 0, 1) := by decide +kernel
theorem dJ9_min_7cf53_1 : decode cJ9_min_7cf53 1 = .ok (.iload_n 1, 1) := by decide +kernel
theorem dJ9_min_7cf53_2 : decode cJ9_min_7cf53 2 = .ok (.if_icmp .gt 7, 3) := by decide +kernel
theorem dJ9_min_7cf53_5 : decode cJ9_min_7cf53 5 = .ok (.iload_n 0, 1) := by decide +kernel
theorem dJ9_min_7cf53_6 : decode cJ9_min_7cf53 6 = .ok (.goto 4, 3) := by decide +kernel
theorem dJ9_min_7cf53_9 : decode cJ9_min_7cf53 9 = .ok (.iload_n 1, 1) := by decide +kernel
theorem dJ9_min_7cf53_10 : decode cJ9_min_7cf53 10 = .ok (.ireturn, 1) := by decide +kernel
theorem dL_cell_0 : decode cL_cell 0 = .ok (.iload_n 1, 1) := by decide +kernel
theorem dL_cell_1 : decode cL_cell 1 = .ok (.aload_n 0, 1) := by decide +kernel
theorem dL_cell_2 : decode cL_cell 2 = .ok (.arraylength, 1) := by decide +kernel
theorem dL_cell_3 : decode cL_cell 3 = .ok (.if_icmp .ge 9, 3) := by decide +kernel
theorem dL_cell_6 : decode cL_cell 6 = .ok (.aload_n 0, 1) := by decide +kernel
theorem dL_cell_7 : decode cL_cell 7 = .ok (.iload_n 1, 1) := by decide +kernel
theorem dL_cell_8 : decode cL_cell 8 = .ok (.iaload, 1) := by decide +kernel
theorem dL_cell_9 : decode cL_cell 9 = .ok (.goto 15, 3) := by decide +kernel
theorem dL_cell_12 : decode cL_cell 12 = .ok (.sipush 7919, 3) := by decide +kernel
theorem dL_cell_15 : decode cL_cell 15 = .ok (.iload_n 1, 1) := by decide +kernel
theorem dL_cell_16 : decode cL_cell 16 = .ok (.iconst 3, 1) := by decide +kernel
theorem dL_cell_17 : decode cL_cell 17 = .ok (.iadd, 1) := by decide +kernel
theorem dL_cell_18 : decode cL_cell 18 = .ok (.imul, 1) := by decide +kernel
theorem dL_cell_19 : decode cL_cell 19 = .ok (.iload_n 1, 1) := by decide +kernel
theorem dL_cell_20 : decode cL_cell 20 = .ok (.bipush 11, 2) := by decide +kernel
theorem dL_cell_22 : decode cL_cell 22 = .ok (.iadd, 1) := by decide +kernel
theorem dL_cell_23 : decode cL_cell 23 = .ok (.imul, 1) := by decide +kernel
theorem dL_cell_24 : decode cL_cell 24 = .ok (.ireturn, 1) := by decide +kernel
theorem dL_low_0 : decode cL_low 0 = .ok (.iload_n 0, 1) := by decide +kernel
theorem dL_low_1 : decode cL_low 1 = .ok (.ldc 7, 2) := by decide +kernel
theorem dL_low_3 : decode cL_low 3 = .ok (.iand, 1) := by decide +kernel
theorem dL_low_4 : decode cL_low 4 = .ok (.iload_n 1, 1) := by decide +kernel
theorem dL_low_5 : decode cL_low 5 = .ok (.irem, 1) := by decide +kernel
theorem dL_low_6 : decode cL_low 6 = .ok (.ireturn, 1) := by decide +kernel
set_option maxRecDepth 20000 in
theorem ggL_hasTarget_X3_crane : GoodIn wsL_hasTarget wsX3_crane := goodIn_r _ [5, 6, 7, 8, 9, 10, 11, 12, 13, 14, 15, 16, 17, 18, 19, 20, 21, 22, 23, 24, 25, 26, 27, 28, 29, 30, 31, 32, 33, 34, 35, 36, 37, 38, 39, 40, 41, 42, 43, 44, 45] (by decide +kernel) (by decide +kernel)
set_option maxRecDepth 20000 in
theorem gL_hasTarget_X3_crane : GoodIn wsL_hasTarget (wsV RL 8 RX3 yX3_crane wsX3_crane) := goodIn_app (goodIn_of _ (by decide +kernel)) ggL_hasTarget_X3_crane
theorem dL_hasTarget_0 : decode cL_hasTarget 0 = .ok (.aload_n 0, 1) := by decide +kernel
theorem dL_hasTarget_1 : decode cL_hasTarget 1 = .ok (.iload_n 1, 1) := by decide +kernel
theorem dL_hasTarget_2 : decode cL_hasTarget 2 = .ok (.iconst 3, 1) := by decide +kernel
theorem dL_hasTarget_3 : decode cL_hasTarget 3 = .ok (.invokevirtual 8, 3) := by decide +kernel
theorem dL_hasTarget_6 : decode cL_hasTarget 6 = .ok (.bipush (-100), 2) := by decide +kernel
theorem dL_hasTarget_8 : decode cL_hasTarget 8 = .ok (.if_icmp .eq 7, 3) := by decide +kernel
theorem dL_hasTarget_11 : decode cL_hasTarget 11 = .ok (.iconst 1, 1) := by decide +kernel
theorem dL_hasTarget_12 : decode cL_hasTarget 12 = .ok (.goto 4, 3) := by decide +kernel
theorem dL_hasTarget_15 : decode cL_hasTarget 15 = .ok (.iconst 0, 1) := by decide +kernel
theorem dL_hasTarget_16 : decode cL_hasTarget 16 = .ok (.ireturn, 1) := by decide +kernel
set_option maxRecDepth 20000 in
theorem ggL_isSound_X3_occupants : GoodIn wsL_isSound wsX3_occupants := goodIn_r _ [5, 6, 7, 8, 4, 9, 10, 11, 12, 13, 14, 15, 16, 17, 18, 19, 20, 21, 22, 23, 24, 25, 26, 27, 28, 29, 30, 31, 32, 33, 34, 35, 36, 37, 38, 39, 136, 137, 138, 139, 140] (by decide +kernel) (by decide +kernel)
set_option maxRecDepth 20000 in
theorem gL_isSound_X3_occupants : GoodIn wsL_isSound (wsV RL 16 RX3 yX3_occupants wsX3_occupants) := goodIn_app (goodIn_of _ (by decide +kernel)) ggL_isSound_X3_occupants
set_option maxRecDepth 20000 in
theorem ggL_isSound_X3_cranes : GoodIn wsL_isSound wsX3_cranes := goodIn_r _ [43, 6, 44, 45, 46, 13, 47, 15, 136, 137, 138, 139, 140] (by decide +kernel) (by decide +kernel)
set_option maxRecDepth 20000 in
theorem gL_isSound_X3_cranes : GoodIn wsL_isSound (wsV RL 20 RX3 yX3_cranes wsX3_cranes) := goodIn_app (goodIn_of _ (by decide +kernel)) ggL_isSound_X3_cranes
set_option maxRecDepth 20000 in
theorem ggL_isSound_X3_crane : GoodIn wsL_isSound wsX3_crane := goodIn_r _ [51, 6, 52, 53, 54, 13, 55, 15, 56, 57, 58, 59, 16, 17, 18, 19, 20, 21, 22, 23, 24, 25, 26, 27, 28, 29, 30, 31, 32, 33, 34, 35, 36, 37, 38, 39, 136, 137, 138, 139, 140] (by decide +kernel) (by decide +kernel)
set_option maxRecDepth 20000 in
theorem gL_isSound_X3_crane : GoodIn wsL_isSound (wsV RL 8 RX3 yX3_crane wsX3_crane) := goodIn_app (goodIn_of _ (by decide +kernel)) ggL_isSound_X3_crane
set_option maxRecDepth 20000 in
theorem ggL_isSound_X3_arc : GoodIn wsL_isSound wsX3_arc := goodIn_r _ [63, 6, 52, 53, 54, 13, 55, 15, 7, 8, 4, 9, 64, 65, 66, 67, 68, 69, 70, 71, 136, 137, 138, 139, 140] (by decide +kernel) (by decide +kernel)
set_option maxRecDepth 20000 in
theorem gL_isSound_X3_arc : GoodIn wsL_isSound (wsV RL 24 RX3 yX3_arc wsX3_arc) := goodIn_app (goodIn_of _ (by decide +kernel)) ggL_isSound_X3_arc
set_option maxRecDepth 20000 in
theorem ggL_isSound_X3_conflicts : GoodIn wsL_isSound wsX3_conflicts := goodIn_r _ [75, 6, 76, 77, 78, 13, 79, 80, 81, 82, 83, 84, 11, 12, 14, 15, 16, 17, 18, 19, 20, 21, 22, 23, 24, 25, 26, 27, 28, 29, 30, 31, 32, 33, 34, 35, 36, 37, 38, 39, 85, 86, 87, 88, 89, 90, 91, 136, 137, 138, 139, 140] (by decide +kernel) (by decide +kernel)
set_option maxRecDepth 20000 in
theorem gL_isSound_X3_conflicts : GoodIn wsL_isSound (wsV RL 28 RX3 yX3_conflicts wsX3_conflicts) := goodIn_app (goodIn_of _ (by decide +kernel)) ggL_isSound_X3_conflicts
set_option maxRecDepth 20000 in
theorem ggL_isSound_X3_cycle : GoodIn wsL_isSound wsX3_cycle := goodIn_r _ [95, 6, 96, 97, 98, 13, 99, 15, 100, 101, 102, 103, 104, 105, 106, 107, 108, 109, 110, 111, 32, 33, 34, 35, 36, 37, 38, 39, 28, 29, 30, 31, 16, 17, 18, 19, 20, 21, 22, 23, 24, 25, 26, 27, 136, 137, 138, 139, 140] (by decide +kernel) (by decide +kernel)
set_option maxRecDepth 20000 in
theorem gL_isSound_X3_cycle : GoodIn wsL_isSound (wsV RL 31 RX3 yX3_cycle wsX3_cycle) := goodIn_app (goodIn_of _ (by decide +kernel)) ggL_isSound_X3_cycle
set_option maxRecDepth 20000 in
theorem ggL_isSound_X3_blocker : GoodIn wsL_isSound wsX3_blocker := goodIn_r _ [115, 6, 52, 53, 54, 13, 55, 15, 116, 105, 106, 107, 108, 109, 110, 111, 32, 33, 34, 35, 36, 37, 38, 39, 28, 29, 30, 31, 16, 17, 18, 19, 20, 21, 22, 23, 24, 25, 26, 27, 136, 137, 138, 139, 140] (by decide +kernel) (by decide +kernel)
set_option maxRecDepth 20000 in
theorem gL_isSound_X3_blocker : GoodIn wsL_isSound (wsV RL 34 RX3 yX3_blocker wsX3_blocker) := goodIn_app (goodIn_of _ (by decide +kernel)) ggL_isSound_X3_blocker
set_option maxRecDepth 20000 in
theorem ggL_isSound_L_hasTarget : GoodIn wsL_isSound wsL_hasTarget := goodIn_r _ [120, 48, 49, 50, 4, 51, 6, 52, 53, 54, 13, 55, 15, 56, 57, 58, 59, 16, 17, 18, 19, 20, 21, 22, 23, 24, 25, 26, 27, 28, 29, 30, 31, 32, 33, 34, 35, 36, 37, 38, 39, 136, 137, 138, 139, 140] (by decide +kernel) (by decide +kernel)
set_option maxRecDepth 20000 in
theorem gL_isSound_L_hasTarget : GoodIn wsL_isSound (va_wsS RL 37 yL_hasTarget wsL_hasTarget) := goodIn_app (goodIn_of _ (by decide +kernel)) ggL_isSound_L_hasTarget
set_option maxRecDepth 20000 in
theorem ggL_isSound_X3_needs : GoodIn wsL_isSound wsX3_needs := goodIn_r _ [124, 6, 52, 53, 54, 13, 55, 15, 125, 109, 110, 111, 126, 127, 128, 129, 130, 131, 132, 133, 134, 4, 135, 136, 137, 138, 139, 140] (by decide +kernel) (by decide +kernel)
set_option maxRecDepth 20000 in
theorem gL_isSound_X3_needs : GoodIn wsL_isSound (wsV RL 41 RX3 yX3_needs wsX3_needs) := goodIn_app (goodIn_of _ (by decide +kernel)) ggL_isSound_X3_needs
theorem dL_isSound_0 : decode cL_isSound 0 = .ok (.iconst 0, 1) := by decide +kernel
theorem dL_isSound_1 : decode cL_isSound 1 = .ok (.istore_n 2, 1) := by decide +kernel
theorem dL_isSound_2 : decode cL_isSound 2 = .ok (.iconst 0, 1) := by decide +kernel
theorem dL_isSound_3 : decode cL_isSound 3 = .ok (.istore_n 3, 1) := by decide +kernel
theorem dL_isSound_4 : decode cL_isSound 4 = .ok (.iload_n 3, 1) := by decide +kernel
theorem dL_isSound_5 : decode cL_isSound 5 = .ok (.bipush 6, 2) := by decide +kernel
theorem dL_isSound_7 : decode cL_isSound 7 = .ok (.if_icmp .ge 118, 3) := by decide +kernel
theorem dL_isSound_10 : decode cL_isSound 10 = .ok (.aload_n 0, 1) := by decide +kernel
theorem dL_isSound_11 : decode cL_isSound 11 = .ok (.iload_n 3, 1) := by decide +kernel
theorem dL_isSound_12 : decode cL_isSound 12 = .ok (.invokevirtual 16, 3) := by decide +kernel
theorem dL_isSound_15 : decode cL_isSound 15 = .ok (.istore 4, 2) := by decide +kernel
theorem dL_isSound_17 : decode cL_isSound 17 = .ok (.iconst 0, 1) := by decide +kernel
theorem dL_isSound_18 : decode cL_isSound 18 = .ok (.istore 5, 2) := by decide +kernel
theorem dL_isSound_20 : decode cL_isSound 20 = .ok (.iload 5, 2) := by decide +kernel
theorem dL_isSound_22 : decode cL_isSound 22 = .ok (.aload_n 0, 1) := by decide +kernel
theorem dL_isSound_23 : decode cL_isSound 23 = .ok (.invokevirtual 20, 3) := by decide +kernel
theorem dL_isSound_26 : decode cL_isSound 26 = .ok (.if_icmp .ge 73, 3) := by decide +kernel
theorem dL_isSound_29 : decode cL_isSound 29 = .ok (.iload 4, 2) := by decide +kernel
theorem dL_isSound_31 : decode cL_isSound 31 = .ok (.iload 5, 2) := by decide +kernel
theorem dL_isSound_33 : decode cL_isSound 33 = .ok (.ishr, 1) := by decide +kernel
theorem dL_isSound_34 : decode cL_isSound 34 = .ok (.iconst 1, 1) := by decide +kernel
theorem dL_isSound_35 : decode cL_isSound 35 = .ok (.iand, 1) := by decide +kernel
theorem dL_isSound_36 : decode cL_isSound 36 = .ok (.iconst 1, 1) := by decide +kernel
theorem dL_isSound_37 : decode cL_isSound 37 = .ok (.if_icmp .ne 7, 3) := by decide +kernel
theorem dL_isSound_40 : decode cL_isSound 40 = .ok (.iconst 1, 1) := by decide +kernel
theorem dL_isSound_41 : decode cL_isSound 41 = .ok (.goto 4, 3) := by decide +kernel
theorem dL_isSound_44 : decode cL_isSound 44 = .ok (.iconst 0, 1) := by decide +kernel
theorem dL_isSound_45 : decode cL_isSound 45 = .ok (.istore 6, 2) := by decide +kernel
theorem dL_isSound_47 : decode cL_isSound 47 = .ok (.iload 6, 2) := by decide +kernel
theorem dL_isSound_49 : decode cL_isSound 49 = .ok (.aload_n 0, 1) := by decide +kernel
theorem dL_isSound_50 : decode cL_isSound 50 = .ok (.iload 5, 2) := by decide +kernel
theorem dL_isSound_52 : decode cL_isSound 52 = .ok (.bipush 8, 2) := by decide +kernel
theorem dL_isSound_54 : decode cL_isSound 54 = .ok (.invokevirtual 8, 3) := by decide +kernel
theorem dL_isSound_57 : decode cL_isSound 57 = .ok (.iload_n 3, 1) := by decide +kernel
theorem dL_isSound_58 : decode cL_isSound 58 = .ok (.ishr, 1) := by decide +kernel
theorem dL_isSound_59 : decode cL_isSound 59 = .ok (.iconst 1, 1) := by decide +kernel
theorem dL_isSound_60 : decode cL_isSound 60 = .ok (.iand, 1) := by decide +kernel
theorem dL_isSound_61 : decode cL_isSound 61 = .ok (.iconst 1, 1) := by decide +kernel
theorem dL_isSound_62 : decode cL_isSound 62 = .ok (.if_icmp .ne 7, 3) := by decide +kernel
theorem dL_isSound_65 : decode cL_isSound 65 = .ok (.iconst 1, 1) := by decide +kernel
theorem dL_isSound_66 : decode cL_isSound 66 = .ok (.goto 4, 3) := by decide +kernel
theorem dL_isSound_69 : decode cL_isSound 69 = .ok (.iconst 0, 1) := by decide +kernel
theorem dL_isSound_70 : decode cL_isSound 70 = .ok (.if_icmp .ne 21, 3) := by decide +kernel
theorem dL_isSound_73 : decode cL_isSound 73 = .ok (.iload 6, 2) := by decide +kernel
theorem dL_isSound_75 : decode cL_isSound 75 = .ok (.ifCond .eq 18, 3) := by decide +kernel
theorem dL_isSound_78 : decode cL_isSound 78 = .ok (.aload_n 0, 1) := by decide +kernel
theorem dL_isSound_79 : decode cL_isSound 79 = .ok (.iload 5, 2) := by decide +kernel
theorem dL_isSound_81 : decode cL_isSound 81 = .ok (.iload_n 3, 1) := by decide +kernel
theorem dL_isSound_82 : decode cL_isSound 82 = .ok (.iconst 0, 1) := by decide +kernel
theorem dL_isSound_83 : decode cL_isSound 83 = .ok (.invokevirtual 24, 3) := by decide +kernel
theorem dL_isSound_86 : decode cL_isSound 86 = .ok (.bipush (-100), 2) := by decide +kernel
theorem dL_isSound_88 : decode cL_isSound 88 = .ok (.if_icmp .ne 5, 3) := by decide +kernel
theorem dL_isSound_91 : decode cL_isSound 91 = .ok (.iconst 0, 1) := by decide +kernel
theorem dL_isSound_92 : decode cL_isSound 92 = .ok (.ireturn, 1) := by decide +kernel
theorem dL_isSound_93 : decode cL_isSound 93 = .ok (.iinc 5 1, 3) := by decide +kernel
theorem dL_isSound_96 : decode cL_isSound 96 = .ok (.goto (-76), 3) := by decide +kernel
theorem dL_isSound_99 : decode cL_isSound 99 = .ok (.iload_n 2, 1) := by decide +kernel
theorem dL_isSound_100 : decode cL_isSound 100 = .ok (.iload 4, 2) := by decide +kernel
theorem dL_isSound_102 : decode cL_isSound 102 = .ok (.iload 4, 2) := by decide +kernel
theorem dL_isSound_104 : decode cL_isSound 104 = .ok (.iconst 1, 1) := by decide +kernel
theorem dL_isSound_105 : decode cL_isSound 105 = .ok (.isub, 1) := by decide +kernel
theorem dL_isSound_106 : decode cL_isSound 106 = .ok (.iand, 1) := by decide +kernel
theorem dL_isSound_107 : decode cL_isSound 107 = .ok (.ifCond .eq 9, 3) := by decide +kernel
theorem dL_isSound_110 : decode cL_isSound 110 = .ok (.iconst 1, 1) := by decide +kernel
theorem dL_isSound_111 : decode cL_isSound 111 = .ok (.iload_n 3, 1) := by decide +kernel
theorem dL_isSound_112 : decode cL_isSound 112 = .ok (.ishl, 1) := by decide +kernel
theorem dL_isSound_113 : decode cL_isSound 113 = .ok (.goto 4, 3) := by decide +kernel
theorem dL_isSound_116 : decode cL_isSound 116 = .ok (.iconst 0, 1) := by decide +kernel
theorem dL_isSound_117 : decode cL_isSound 117 = .ok (.ior, 1) := by decide +kernel
theorem dL_isSound_118 : decode cL_isSound 118 = .ok (.istore_n 2, 1) := by decide +kernel
theorem dL_isSound_119 : decode cL_isSound 119 = .ok (.iinc 3 1, 3) := by decide +kernel
theorem dL_isSound_122 : decode cL_isSound 122 = .ok (.goto (-118), 3) := by decide +kernel
theorem dL_isSound_125 : decode cL_isSound 125 = .ok (.aload_n 0, 1) := by decide +kernel
theorem dL_isSound_126 : decode cL_isSound 126 = .ok (.invokevirtual 28, 3) := by decide +kernel
theorem dL_isSound_129 : decode cL_isSound 129 = .ok (.iload_n 2, 1) := by decide +kernel
theorem dL_isSound_130 : decode cL_isSound 130 = .ok (.if_icmp .ne 11, 3) := by decide +kernel
theorem dL_isSound_133 : decode cL_isSound 133 = .ok (.iload_n 2, 1) := by decide +kernel
theorem dL_isSound_134 : decode cL_isSound 134 = .ok (.ifCond .eq 9, 3) := by decide +kernel
theorem dL_isSound_137 : decode cL_isSound 137 = .ok (.iload_n 1, 1) := by decide +kernel
theorem dL_isSound_138 : decode cL_isSound 138 = .ok (.ifCond .ne 5, 3) := by decide +kernel
theorem dL_isSound_141 : decode cL_isSound 141 = .ok (.iconst 0, 1) := by decide +kernel
theorem dL_isSound_142 : decode cL_isSound 142 = .ok (.ireturn, 1) := by decide +kernel
theorem dL_isSound_143 : decode cL_isSound 143 = .ok (.aload_n 0, 1) := by decide +kernel
theorem dL_isSound_144 : decode cL_isSound 144 = .ok (.invokevirtual 31, 3) := by decide +kernel
theorem dL_isSound_147 : decode cL_isSound 147 = .ok (.istore_n 3, 1) := by decide +kernel
theorem dL_isSound_148 : decode cL_isSound 148 = .ok (.iconst 0, 1) := by decide +kernel
theorem dL_isSound_149 : decode cL_isSound 149 = .ok (.istore 4, 2) := by decide +kernel
theorem dL_isSound_151 : decode cL_isSound 151 = .ok (.iload 4, 2) := by decide +kernel
theorem dL_isSound_153 : decode cL_isSound 153 = .ok (.aload_n 0, 1) := by decide +kernel
theorem dL_isSound_154 : decode cL_isSound 154 = .ok (.invokevirtual 20, 3) := by decide +kernel
theorem dL_isSound_157 : decode cL_isSound 157 = .ok (.if_icmp .ge 225, 3) := by decide +kernel
theorem dL_isSound_160 : decode cL_isSound 160 = .ok (.aload_n 0, 1) := by decide +kernel
theorem dL_isSound_161 : decode cL_isSound 161 = .ok (.iload 4, 2) := by decide +kernel
theorem dL_isSound_163 : decode cL_isSound 163 = .ok (.invokevirtual 34, 3) := by decide +kernel
theorem dL_isSound_166 : decode cL_isSound 166 = .ok (.istore 5, 2) := by decide +kernel
theorem dL_isSound_168 : decode cL_isSound 168 = .ok (.iload 5, 2) := by decide +kernel
theorem dL_isSound_170 : decode cL_isSound 170 = .ok (.bipush (-100), 2) := by decide +kernel
theorem dL_isSound_172 : decode cL_isSound 172 = .ok (.if_icmp .eq 45, 3) := by decide +kernel
theorem dL_isSound_175 : decode cL_isSound 175 = .ok (.iload 5, 2) := by decide +kernel
theorem dL_isSound_177 : decode cL_isSound 177 = .ok (.iload 4, 2) := by decide +kernel
theorem dL_isSound_179 : decode cL_isSound 179 = .ok (.if_icmp .eq 36, 3) := by decide +kernel
theorem dL_isSound_182 : decode cL_isSound 182 = .ok (.iload 5, 2) := by decide +kernel
theorem dL_isSound_184 : decode cL_isSound 184 = .ok (.ifCond .lt 31, 3) := by decide +kernel
theorem dL_isSound_187 : decode cL_isSound 187 = .ok (.iload 5, 2) := by decide +kernel
theorem dL_isSound_189 : decode cL_isSound 189 = .ok (.aload_n 0, 1) := by decide +kernel
theorem dL_isSound_190 : decode cL_isSound 190 = .ok (.invokevirtual 20, 3) := by decide +kernel
theorem dL_isSound_193 : decode cL_isSound 193 = .ok (.if_icmp .ge 22, 3) := by decide +kernel
theorem dL_isSound_196 : decode cL_isSound 196 = .ok (.aload_n 0, 1) := by decide +kernel
theorem dL_isSound_197 : decode cL_isSound 197 = .ok (.iload 4, 2) := by decide +kernel
theorem dL_isSound_199 : decode cL_isSound 199 = .ok (.invokestatic 37, 3) := by decide +kernel
theorem dL_isSound_202 : decode cL_isSound 202 = .ok (.ifCond .eq 13, 3) := by decide +kernel
theorem dL_isSound_205 : decode cL_isSound 205 = .ok (.aload_n 0, 1) := by decide +kernel
theorem dL_isSound_206 : decode cL_isSound 206 = .ok (.iload 4, 2) := by decide +kernel
theorem dL_isSound_208 : decode cL_isSound 208 = .ok (.iconst 5, 1) := by decide +kernel
theorem dL_isSound_209 : decode cL_isSound 209 = .ok (.invokevirtual 8, 3) := by decide +kernel
theorem dL_isSound_212 : decode cL_isSound 212 = .ok (.ifCond .eq 5, 3) := by decide +kernel
theorem dL_isSound_215 : decode cL_isSound 215 = .ok (.iconst 0, 1) := by decide +kernel
theorem dL_isSound_216 : decode cL_isSound 216 = .ok (.ireturn, 1) := by decide +kernel
theorem dL_isSound_217 : decode cL_isSound 217 = .ok (.iload_n 3, 1) := by decide +kernel
theorem dL_isSound_218 : decode cL_isSound 218 = .ok (.iload 4, 2) := by decide +kernel
theorem dL_isSound_220 : decode cL_isSound 220 = .ok (.ishr, 1) := by decide +kernel
theorem dL_isSound_221 : decode cL_isSound 221 = .ok (.iconst 1, 1) := by decide +kernel
theorem dL_isSound_222 : decode cL_isSound 222 = .ok (.iand, 1) := by decide +kernel
theorem dL_isSound_223 : decode cL_isSound 223 = .ok (.iconst 1, 1) := by decide +kernel
theorem dL_isSound_224 : decode cL_isSound 224 = .ok (.if_icmp .ne 22, 3) := by decide +kernel
theorem dL_isSound_227 : decode cL_isSound 227 = .ok (.iload 5, 2) := by decide +kernel
theorem dL_isSound_229 : decode cL_isSound 229 = .ok (.bipush (-100), 2) := by decide +kernel
theorem dL_isSound_231 : decode cL_isSound 231 = .ok (.if_icmp .eq 13, 3) := by decide +kernel
theorem dL_isSound_234 : decode cL_isSound 234 = .ok (.iload_n 3, 1) := by decide +kernel
theorem dL_isSound_235 : decode cL_isSound 235 = .ok (.iload 5, 2) := by decide +kernel
theorem dL_isSound_237 : decode cL_isSound 237 = .ok (.ishr, 1) := by decide +kernel
theorem dL_isSound_238 : decode cL_isSound 238 = .ok (.iconst 1, 1) := by decide +kernel
theorem dL_isSound_239 : decode cL_isSound 239 = .ok (.iand, 1) := by decide +kernel
theorem dL_isSound_240 : decode cL_isSound 240 = .ok (.iconst 1, 1) := by decide +kernel
theorem dL_isSound_241 : decode cL_isSound 241 = .ok (.if_icmp .eq 5, 3) := by decide +kernel
theorem dL_isSound_244 : decode cL_isSound 244 = .ok (.iconst 0, 1) := by decide +kernel
theorem dL_isSound_245 : decode cL_isSound 245 = .ok (.ireturn, 1) := by decide +kernel
theorem dL_isSound_246 : decode cL_isSound 246 = .ok (.aload_n 0, 1) := by decide +kernel
theorem dL_isSound_247 : decode cL_isSound 247 = .ok (.iload 4, 2) := by decide +kernel
theorem dL_isSound_249 : decode cL_isSound 249 = .ok (.iconst 5, 1) := by decide +kernel
theorem dL_isSound_250 : decode cL_isSound 250 = .ok (.invokevirtual 8, 3) := by decide +kernel
theorem dL_isSound_253 : decode cL_isSound 253 = .ok (.aload_n 0, 1) := by decide +kernel
theorem dL_isSound_254 : decode cL_isSound 254 = .ok (.iload 4, 2) := by decide +kernel
theorem dL_isSound_256 : decode cL_isSound 256 = .ok (.iconst 1, 1) := by decide +kernel
theorem dL_isSound_257 : decode cL_isSound 257 = .ok (.invokevirtual 8, 3) := by decide +kernel
theorem dL_isSound_260 : decode cL_isSound 260 = .ok (.if_icmp .ge 64, 3) := by decide +kernel
theorem dL_isSound_263 : decode cL_isSound 263 = .ok (.aload_n 0, 1) := by decide +kernel
theorem dL_isSound_264 : decode cL_isSound 264 = .ok (.iload 4, 2) := by decide +kernel
theorem dL_isSound_266 : decode cL_isSound 266 = .ok (.iconst 5, 1) := by decide +kernel
theorem dL_isSound_267 : decode cL_isSound 267 = .ok (.invokevirtual 8, 3) := by decide +kernel
theorem dL_isSound_270 : decode cL_isSound 270 = .ok (.ifCond .le 12, 3) := by decide +kernel
theorem dL_isSound_273 : decode cL_isSound 273 = .ok (.aload_n 0, 1) := by decide +kernel
theorem dL_isSound_274 : decode cL_isSound 274 = .ok (.iload 4, 2) := by decide +kernel
theorem dL_isSound_276 : decode cL_isSound 276 = .ok (.invokestatic 37, 3) := by decide +kernel
theorem dL_isSound_279 : decode cL_isSound 279 = .ok (.ifCond .eq 45, 3) := by decide +kernel
theorem dL_isSound_282 : decode cL_isSound 282 = .ok (.aload_n 0, 1) := by decide +kernel
theorem dL_isSound_283 : decode cL_isSound 283 = .ok (.iload 4, 2) := by decide +kernel
theorem dL_isSound_285 : decode cL_isSound 285 = .ok (.invokestatic 37, 3) := by decide +kernel
theorem dL_isSound_288 : decode cL_isSound 288 = .ok (.aload_n 0, 1) := by decide +kernel
theorem dL_isSound_289 : decode cL_isSound 289 = .ok (.iload 4, 2) := by decide +kernel
theorem dL_isSound_291 : decode cL_isSound 291 = .ok (.iconst 4, 1) := by decide +kernel
theorem dL_isSound_292 : decode cL_isSound 292 = .ok (.invokevirtual 8, 3) := by decide +kernel
theorem dL_isSound_295 : decode cL_isSound 295 = .ok (.ifCond .ne 7, 3) := by decide +kernel
theorem dL_isSound_298 : decode cL_isSound 298 = .ok (.iconst 1, 1) := by decide +kernel
theorem dL_isSound_299 : decode cL_isSound 299 = .ok (.goto 4, 3) := by decide +kernel
theorem dL_isSound_302 : decode cL_isSound 302 = .ok (.iconst 0, 1) := by decide +kernel
theorem dL_isSound_303 : decode cL_isSound 303 = .ok (.if_icmp .eq 21, 3) := by decide +kernel
theorem dL_isSound_306 : decode cL_isSound 306 = .ok (.aload_n 0, 1) := by decide +kernel
theorem dL_isSound_307 : decode cL_isSound 307 = .ok (.iload 4, 2) := by decide +kernel
theorem dL_isSound_309 : decode cL_isSound 309 = .ok (.invokestatic 37, 3) := by decide +kernel
theorem dL_isSound_312 : decode cL_isSound 312 = .ok (.ifCond .ne 14, 3) := by decide +kernel
theorem dL_isSound_315 : decode cL_isSound 315 = .ok (.aload_n 0, 1) := by decide +kernel
theorem dL_isSound_316 : decode cL_isSound 316 = .ok (.iload 4, 2) := by decide +kernel
theorem dL_isSound_318 : decode cL_isSound 318 = .ok (.invokevirtual 41, 3) := by decide +kernel
theorem dL_isSound_321 : decode cL_isSound 321 = .ok (.ifCond .eq 5, 3) := by decide +kernel
theorem dL_isSound_324 : decode cL_isSound 324 = .ok (.iconst 0, 1) := by decide +kernel
theorem dL_isSound_325 : decode cL_isSound 325 = .ok (.ireturn, 1) := by decide +kernel
theorem dL_isSound_326 : decode cL_isSound 326 = .ok (.aload_n 0, 1) := by decide +kernel
theorem dL_isSound_327 : decode cL_isSound 327 = .ok (.iload 4, 2) := by decide +kernel
theorem dL_isSound_329 : decode cL_isSound 329 = .ok (.invokestatic 37, 3) := by decide +kernel
theorem dL_isSound_332 : decode cL_isSound 332 = .ok (.ifCond .eq 44, 3) := by decide +kernel
theorem dL_isSound_335 : decode cL_isSound 335 = .ok (.aload_n 0, 1) := by decide +kernel
theorem dL_isSound_336 : decode cL_isSound 336 = .ok (.iload 4, 2) := by decide +kernel
theorem dL_isSound_338 : decode cL_isSound 338 = .ok (.iconst 3, 1) := by decide +kernel
theorem dL_isSound_339 : decode cL_isSound 339 = .ok (.invokevirtual 8, 3) := by decide +kernel
theorem dL_isSound_342 : decode cL_isSound 342 = .ok (.aload_n 0, 1) := by decide +kernel
theorem dL_isSound_343 : decode cL_isSound 343 = .ok (.iload 4, 2) := by decide +kernel
theorem dL_isSound_345 : decode cL_isSound 345 = .ok (.iconst 0, 1) := by decide +kernel
theorem dL_isSound_346 : decode cL_isSound 346 = .ok (.invokevirtual 8, 3) := by decide +kernel
theorem dL_isSound_349 : decode cL_isSound 349 = .ok (.if_icmp .eq 25, 3) := by decide +kernel
theorem dL_isSound_352 : decode cL_isSound 352 = .ok (.aload_n 0, 1) := by decide +kernel
theorem dL_isSound_353 : decode cL_isSound 353 = .ok (.iload 4, 2) := by decide +kernel
theorem dL_isSound_355 : decode cL_isSound 355 = .ok (.bipush 7, 2) := by decide +kernel
theorem dL_isSound_357 : decode cL_isSound 357 = .ok (.invokevirtual 8, 3) := by decide +kernel
theorem dL_isSound_360 : decode cL_isSound 360 = .ok (.iconst 1, 1) := by decide +kernel
theorem dL_isSound_361 : decode cL_isSound 361 = .ok (.if_icmp .eq 13, 3) := by decide +kernel
theorem dL_isSound_364 : decode cL_isSound 364 = .ok (.aload_n 0, 1) := by decide +kernel
theorem dL_isSound_365 : decode cL_isSound 365 = .ok (.iload 4, 2) := by decide +kernel
theorem dL_isSound_367 : decode cL_isSound 367 = .ok (.invokevirtual 41, 3) := by decide +kernel
theorem dL_isSound_370 : decode cL_isSound 370 = .ok (.iconst 1, 1) := by decide +kernel
theorem dL_isSound_371 : decode cL_isSound 371 = .ok (.if_icmp .ge 5, 3) := by decide +kernel
theorem dL_isSound_374 : decode cL_isSound 374 = .ok (.iconst 0, 1) := by decide +kernel
theorem dL_isSound_375 : decode cL_isSound 375 = .ok (.ireturn, 1) := by decide +kernel
theorem dL_isSound_376 : decode cL_isSound 376 = .ok (.iinc 4 1, 3) := by decide +kernel
theorem dL_isSound_379 : decode cL_isSound 379 = .ok (.goto (-228), 3) := by decide +kernel
theorem dL_isSound_382 : decode cL_isSound 382 = .ok (.iconst 1, 1) := by decide +kernel
theorem dL_isSound_383 : decode cL_isSound 383 = .ok (.ireturn, 1) := by decide +kernel
set_option maxRecDepth 20000 in
theorem ggL_isForetold_X3_digest : GoodIn wsL_isForetold wsX3_digest := goodIn_r _ [5, 6, 7, 8, 9, 10, 11, 12, 13, 14, 15, 16, 17, 18, 19, 20, 21, 22, 23, 24, 25, 26, 27, 28, 29, 30, 31, 32, 33, 34, 35, 36, 37, 38, 39, 40, 41, 42, 43, 44, 45, 46, 47, 48, 49, 50, 51, 52, 53, 54, 205, 206, 207, 208, 209] (by decide +kernel) (by decide +kernel)
set_option maxRecDepth 20000 in
theorem gL_isForetold_X3_digest : GoodIn wsL_isForetold (wsV RL 44 RX3 yX3_digest wsX3_digest) := goodIn_app (goodIn_of _ (by decide +kernel)) ggL_isForetold_X3_digest
set_option maxRecDepth 20000 in
theorem ggL_isForetold_X3_cranes : GoodIn wsL_isForetold wsX3_cranes := goodIn_r _ [58, 6, 59, 60, 61, 10, 62, 14, 205, 206, 207, 208, 209] (by decide +kernel) (by decide +kernel)
set_option maxRecDepth 20000 in
theorem gL_isForetold_X3_cranes : GoodIn wsL_isForetold (wsV RL 20 RX3 yX3_cranes wsX3_cranes) := goodIn_app (goodIn_of _ (by decide +kernel)) ggL_isForetold_X3_cranes
set_option maxRecDepth 20000 in
theorem ggL_isForetold_X3_done : GoodIn wsL_isForetold wsX3_done := goodIn_r _ [66, 6, 67, 68, 69, 10, 70, 14, 71, 72, 73, 4, 74, 75, 76, 77, 78, 79, 80, 81, 82, 83, 84, 85, 86, 87, 88, 89, 90, 91, 92, 93, 94, 95, 96, 97, 98, 99, 27, 28, 29, 30, 100, 101, 102, 103, 104, 105, 106, 107, 108, 109, 110, 111, 112, 39, 40, 41, 42, 43, 44, 45, 46, 35, 36, 37, 38, 23, 24, 25, 26, 31, 32, 33, 34, 113, 114, 115, 116, 117, 118, 119, 120, 205, 206, 207, 208, 209] (by decide +kernel) (by decide +kernel)
set_option maxRecDepth 20000 in
theorem gL_isForetold_X3_done : GoodIn wsL_isForetold (wsV RL 48 RX3 yX3_done wsX3_done) := goodIn_app (goodIn_of _ (by decide +kernel)) ggL_isForetold_X3_done
set_option maxRecDepth 20000 in
theorem ggL_isForetold_L_hasTarget : GoodIn wsL_isForetold wsL_hasTarget := goodIn_r _ [124, 125, 126, 127, 4, 128, 6, 67, 68, 69, 10, 70, 14, 129, 20, 21, 22, 23, 24, 25, 26, 27, 28, 29, 30, 31, 32, 33, 34, 35, 36, 37, 38, 39, 40, 41, 42, 43, 44, 45, 46, 205, 206, 207, 208, 209] (by decide +kernel) (by decide +kernel)
set_option maxRecDepth 20000 in
theorem gL_isForetold_L_hasTarget : GoodIn wsL_isForetold (va_wsS RL 37 yL_hasTarget wsL_hasTarget) := goodIn_app (goodIn_of _ (by decide +kernel)) ggL_isForetold_L_hasTarget
set_option maxRecDepth 20000 in
theorem ggL_isForetold_X3_needs : GoodIn wsL_isForetold wsX3_needs := goodIn_r _ [133, 6, 67, 68, 69, 10, 70, 14, 134, 89, 90, 91, 135, 136, 137, 138, 139, 140, 141, 142, 107, 4, 108, 205, 206, 207, 208, 209] (by decide +kernel) (by decide +kernel)
set_option maxRecDepth 20000 in
theorem gL_isForetold_X3_needs : GoodIn wsL_isForetold (wsV RL 41 RX3 yX3_needs wsX3_needs) := goodIn_app (goodIn_of _ (by decide +kernel)) ggL_isForetold_X3_needs
set_option maxRecDepth 20000 in
theorem ggL_isForetold_X3_waits : GoodIn wsL_isForetold wsX3_waits := goodIn_r _ [146, 6, 67, 68, 69, 10, 70, 14, 147, 148, 149, 4, 150, 75, 76, 77, 78, 79, 80, 81, 82, 83, 151, 152, 153, 154, 92, 93, 94, 95, 96, 97, 98, 99, 27, 28, 29, 30, 100, 101, 102, 103, 104, 105, 106, 107, 108, 88, 89, 90, 91, 109, 110, 111, 112, 39, 40, 41, 42, 43, 44, 45, 46, 35, 36, 37, 38, 23, 24, 25, 26, 31, 32, 33, 34, 113, 114, 115, 116, 117, 118, 119, 120, 205, 206, 207, 208, 209] (by decide +kernel) (by decide +kernel)
set_option maxRecDepth 20000 in
theorem gL_isForetold_X3_waits : GoodIn wsL_isForetold (wsV RL 51 RX3 yX3_waits wsX3_waits) := goodIn_app (goodIn_of _ (by decide +kernel)) ggL_isForetold_X3_waits
set_option maxRecDepth 20000 in
theorem ggL_isForetold_X3_allDone : GoodIn wsL_isForetold wsX3_allDone := goodIn_r _ [158, 71, 72, 73, 4, 74, 75, 6, 76, 77, 78, 10, 79, 14, 80, 81, 82, 83, 84, 85, 86, 87, 88, 89, 90, 91, 92, 93, 94, 95, 96, 97, 98, 99, 27, 28, 29, 30, 100, 101, 102, 103, 104, 105, 106, 107, 108, 109, 110, 111, 112, 39, 40, 41, 42, 43, 44, 45, 46, 35, 36, 37, 38, 23, 24, 25, 26, 31, 32, 33, 34, 113, 114, 115, 116, 117, 118, 119, 120, 205, 206, 207, 208, 209] (by decide +kernel) (by decide +kernel)
set_option maxRecDepth 20000 in
theorem gL_isForetold_X3_allDone : GoodIn wsL_isForetold (wsV RL 54 RX3 yX3_allDone wsX3_allDone) := goodIn_app (goodIn_of _ (by decide +kernel)) ggL_isForetold_X3_allDone
set_option maxRecDepth 20000 in
theorem ggL_isForetold_X3_crane : GoodIn wsL_isForetold wsX3_crane := goodIn_r _ [128, 6, 67, 68, 69, 10, 70, 14, 129, 20, 21, 22, 23, 24, 25, 26, 27, 28, 29, 30, 31, 32, 33, 34, 35, 36, 37, 38, 39, 40, 41, 42, 43, 44, 45, 46, 205, 206, 207, 208, 209] (by decide +kernel) (by decide +kernel)
set_option maxRecDepth 20000 in
theorem gL_isForetold_X3_crane : GoodIn wsL_isForetold (wsV RL 8 RX3 yX3_crane wsX3_crane) := goodIn_app (goodIn_of _ (by decide +kernel)) ggL_isForetold_X3_crane
set_option maxRecDepth 20000 in
theorem ggL_isForetold_X3_time : GoodIn wsL_isForetold wsX3_time := goodIn_r _ [162, 6, 163, 164, 165, 10, 166, 14, 205, 206, 207, 208, 209] (by decide +kernel) (by decide +kernel)
set_option maxRecDepth 20000 in
theorem gL_isForetold_X3_time : GoodIn wsL_isForetold (wsV RL 57 RX3 yX3_time wsX3_time) := goodIn_app (goodIn_of _ (by decide +kernel)) ggL_isForetold_X3_time
set_option maxRecDepth 20000 in
theorem ggL_isForetold_X3_tick : GoodIn wsL_isForetold wsX3_tick := goodIn_r _ [170, 6, 171, 172, 163, 164, 165, 10, 166, 14, 173, 174, 175, 176, 177, 178, 179, 180, 181, 182, 183, 184, 185, 186, 187, 188, 80, 81, 82, 83, 92, 93, 94, 95, 96, 97, 98, 99, 27, 28, 29, 30, 100, 101, 102, 103, 104, 4, 105, 106, 107, 108, 88, 89, 90, 91, 109, 110, 111, 112, 39, 40, 41, 42, 43, 44, 45, 46, 35, 36, 37, 38, 23, 24, 25, 26, 31, 32, 33, 34, 113, 114, 115, 116, 117, 118, 119, 120, 205, 206, 207, 208, 209, 210, 211, 212] (by decide +kernel) (by decide +kernel)
set_option maxRecDepth 20000 in
theorem gL_isForetold_X3_tick : GoodIn wsL_isForetold (wsV RL 60 RX3 yX3_tick wsX3_tick) := goodIn_app (goodIn_of _ (by decide +kernel)) ggL_isForetold_X3_tick
set_option maxRecDepth 20000 in
theorem ggL_isForetold_X3_undo : GoodIn wsL_isForetold wsX3_undo := goodIn_r _ [192, 172, 6, 193, 194, 195, 176, 196, 180, 197, 198, 199, 200, 179, 178, 201, 202, 203, 10, 204, 14, 80, 81, 82, 83, 205, 206, 207, 208, 210, 211, 212, 209] (by decide +kernel) (by decide +kernel)
set_option maxRecDepth 20000 in
theorem gL_isForetold_X3_undo : GoodIn wsL_isForetold (wsV RL 63 RX3 yX3_undo wsX3_undo) := goodIn_app (goodIn_of _ (by decide +kernel)) ggL_isForetold_X3_undo
theorem dL_isForetold_0 : decode cL_isForetold 0 = .ok (.aload_n 0, 1) := by decide +kernel
theorem dL_isForetold_1 : decode cL_isForetold 1 = .ok (.invokevirtual 44, 3) := by decide +kernel
theorem dL_isForetold_4 : decode cL_isForetold 4 = .ok (.lstore_n 2, 1) := by decide +kernel
theorem dL_isForetold_5 : decode cL_isForetold 5 = .ok (.iconst 0, 1) := by decide +kernel
theorem dL_isForetold_6 : decode cL_isForetold 6 = .ok (.istore 4, 2) := by decide +kernel
theorem dL_isForetold_8 : decode cL_isForetold 8 = .ok (.iconst 0, 1) := by decide +kernel
theorem dL_isForetold_9 : decode cL_isForetold 9 = .ok (.istore 5, 2) := by decide +kernel
theorem dL_isForetold_11 : decode cL_isForetold 11 = .ok (.iload 5, 2) := by decide +kernel
theorem dL_isForetold_13 : decode cL_isForetold 13 = .ok (.aload_n 0, 1) := by decide +kernel
theorem dL_isForetold_14 : decode cL_isForetold 14 = .ok (.invokevirtual 20, 3) := by decide +kernel
theorem dL_isForetold_17 : decode cL_isForetold 17 = .ok (.if_icmp .ge 100, 3) := by decide +kernel
theorem dL_isForetold_20 : decode cL_isForetold 20 = .ok (.aload_n 0, 1) := by decide +kernel
theorem dL_isForetold_21 : decode cL_isForetold 21 = .ok (.iload 5, 2) := by decide +kernel
theorem dL_isForetold_23 : decode cL_isForetold 23 = .ok (.invokevirtual 48, 3) := by decide +kernel
theorem dL_isForetold_26 : decode cL_isForetold 26 = .ok (.istore 6, 2) := by decide +kernel
theorem dL_isForetold_28 : decode cL_isForetold 28 = .ok (.iload 6, 2) := by decide +kernel
theorem dL_isForetold_30 : decode cL_isForetold 30 = .ok (.bipush (-100), 2) := by decide +kernel
theorem dL_isForetold_32 : decode cL_isForetold 32 = .ok (.if_icmp .ne 10, 3) := by decide +kernel
theorem dL_isForetold_35 : decode cL_isForetold 35 = .ok (.bipush (-100), 2) := by decide +kernel
theorem dL_isForetold_37 : decode cL_isForetold 37 = .ok (.istore 4, 2) := by decide +kernel
theorem dL_isForetold_39 : decode cL_isForetold 39 = .ok (.goto 72, 3) := by decide +kernel
theorem dL_isForetold_42 : decode cL_isForetold 42 = .ok (.iload 4, 2) := by decide +kernel
theorem dL_isForetold_44 : decode cL_isForetold 44 = .ok (.bipush (-100), 2) := by decide +kernel
theorem dL_isForetold_46 : decode cL_isForetold 46 = .ok (.if_icmp .eq 15, 3) := by decide +kernel
theorem dL_isForetold_49 : decode cL_isForetold 49 = .ok (.iload 6, 2) := by decide +kernel
theorem dL_isForetold_51 : decode cL_isForetold 51 = .ok (.iload 4, 2) := by decide +kernel
theorem dL_isForetold_53 : decode cL_isForetold 53 = .ok (.if_icmp .le 8, 3) := by decide +kernel
theorem dL_isForetold_56 : decode cL_isForetold 56 = .ok (.iload 6, 2) := by decide +kernel
theorem dL_isForetold_58 : decode cL_isForetold 58 = .ok (.goto 5, 3) := by decide +kernel
theorem dL_isForetold_61 : decode cL_isForetold 61 = .ok (.iload 4, 2) := by decide +kernel
theorem dL_isForetold_63 : decode cL_isForetold 63 = .ok (.istore 4, 2) := by decide +kernel
theorem dL_isForetold_65 : decode cL_isForetold 65 = .ok (.iload 6, 2) := by decide +kernel
theorem dL_isForetold_67 : decode cL_isForetold 67 = .ok (.ifCond .ne 7, 3) := by decide +kernel
theorem dL_isForetold_70 : decode cL_isForetold 70 = .ok (.iconst 1, 1) := by decide +kernel
theorem dL_isForetold_71 : decode cL_isForetold 71 = .ok (.goto 4, 3) := by decide +kernel
theorem dL_isForetold_74 : decode cL_isForetold 74 = .ok (.iconst 0, 1) := by decide +kernel
theorem dL_isForetold_75 : decode cL_isForetold 75 = .ok (.aload_n 0, 1) := by decide +kernel
theorem dL_isForetold_76 : decode cL_isForetold 76 = .ok (.iload 5, 2) := by decide +kernel
theorem dL_isForetold_78 : decode cL_isForetold 78 = .ok (.invokestatic 37, 3) := by decide +kernel
theorem dL_isForetold_81 : decode cL_isForetold 81 = .ok (.if_icmp .eq 28, 3) := by decide +kernel
theorem dL_isForetold_84 : decode cL_isForetold 84 = .ok (.iload 6, 2) := by decide +kernel
theorem dL_isForetold_86 : decode cL_isForetold 86 = .ok (.ifCond .le 25, 3) := by decide +kernel
theorem dL_isForetold_89 : decode cL_isForetold 89 = .ok (.iload 6, 2) := by decide +kernel
theorem dL_isForetold_91 : decode cL_isForetold 91 = .ok (.aload_n 0, 1) := by decide +kernel
theorem dL_isForetold_92 : decode cL_isForetold 92 = .ok (.iload 5, 2) := by decide +kernel
theorem dL_isForetold_94 : decode cL_isForetold 94 = .ok (.invokevirtual 41, 3) := by decide +kernel
theorem dL_isForetold_97 : decode cL_isForetold 97 = .ok (.aload_n 0, 1) := by decide +kernel
theorem dL_isForetold_98 : decode cL_isForetold 98 = .ok (.iload 5, 2) := by decide +kernel
theorem dL_isForetold_100 : decode cL_isForetold 100 = .ok (.iload 6, 2) := by decide +kernel
theorem dL_isForetold_102 : decode cL_isForetold 102 = .ok (.invokevirtual 51, 3) := by decide +kernel
theorem dL_isForetold_105 : decode cL_isForetold 105 = .ok (.iadd, 1) := by decide +kernel
theorem dL_isForetold_106 : decode cL_isForetold 106 = .ok (.if_icmp .eq 5, 3) := by decide +kernel
theorem dL_isForetold_109 : decode cL_isForetold 109 = .ok (.iconst 0, 1) := by decide +kernel
theorem dL_isForetold_110 : decode cL_isForetold 110 = .ok (.ireturn, 1) := by decide +kernel
theorem dL_isForetold_111 : decode cL_isForetold 111 = .ok (.iinc 5 1, 3) := by decide +kernel
theorem dL_isForetold_114 : decode cL_isForetold 114 = .ok (.goto (-103), 3) := by decide +kernel
theorem dL_isForetold_117 : decode cL_isForetold 117 = .ok (.aload_n 0, 1) := by decide +kernel
theorem dL_isForetold_118 : decode cL_isForetold 118 = .ok (.invokevirtual 54, 3) := by decide +kernel
theorem dL_isForetold_121 : decode cL_isForetold 121 = .ok (.iload 4, 2) := by decide +kernel
theorem dL_isForetold_123 : decode cL_isForetold 123 = .ok (.if_icmp .eq 5, 3) := by decide +kernel
theorem dL_isForetold_126 : decode cL_isForetold 126 = .ok (.iconst 0, 1) := by decide +kernel
theorem dL_isForetold_127 : decode cL_isForetold 127 = .ok (.ireturn, 1) := by decide +kernel
theorem dL_isForetold_128 : decode cL_isForetold 128 = .ok (.iconst 0, 1) := by decide +kernel
theorem dL_isForetold_129 : decode cL_isForetold 129 = .ok (.istore 5, 2) := by decide +kernel
theorem dL_isForetold_131 : decode cL_isForetold 131 = .ok (.iload 5, 2) := by decide +kernel
theorem dL_isForetold_133 : decode cL_isForetold 133 = .ok (.aload_n 0, 1) := by decide +kernel
theorem dL_isForetold_134 : decode cL_isForetold 134 = .ok (.invokevirtual 20, 3) := by decide +kernel
theorem dL_isForetold_137 : decode cL_isForetold 137 = .ok (.if_icmp .ge 202, 3) := by decide +kernel
theorem dL_isForetold_140 : decode cL_isForetold 140 = .ok (.aload_n 0, 1) := by decide +kernel
theorem dL_isForetold_141 : decode cL_isForetold 141 = .ok (.iload 5, 2) := by decide +kernel
theorem dL_isForetold_143 : decode cL_isForetold 143 = .ok (.iload_n 1, 1) := by decide +kernel
theorem dL_isForetold_144 : decode cL_isForetold 144 = .ok (.invokevirtual 51, 3) := by decide +kernel
theorem dL_isForetold_147 : decode cL_isForetold 147 = .ok (.istore 6, 2) := by decide +kernel
theorem dL_isForetold_149 : decode cL_isForetold 149 = .ok (.aload_n 0, 1) := by decide +kernel
theorem dL_isForetold_150 : decode cL_isForetold 150 = .ok (.iload 5, 2) := by decide +kernel
theorem dL_isForetold_152 : decode cL_isForetold 152 = .ok (.bipush 6, 2) := by decide +kernel
theorem dL_isForetold_154 : decode cL_isForetold 154 = .ok (.invokevirtual 8, 3) := by decide +kernel
theorem dL_isForetold_157 : decode cL_isForetold 157 = .ok (.iload 6, 2) := by decide +kernel
theorem dL_isForetold_159 : decode cL_isForetold 159 = .ok (.iadd, 1) := by decide +kernel
theorem dL_isForetold_160 : decode cL_isForetold 160 = .ok (.istore 7, 2) := by decide +kernel
theorem dL_isForetold_162 : decode cL_isForetold 162 = .ok (.aload_n 0, 1) := by decide +kernel
theorem dL_isForetold_163 : decode cL_isForetold 163 = .ok (.iload 5, 2) := by decide +kernel
theorem dL_isForetold_165 : decode cL_isForetold 165 = .ok (.invokevirtual 48, 3) := by decide +kernel
theorem dL_isForetold_168 : decode cL_isForetold 168 = .ok (.istore 8, 2) := by decide +kernel
theorem dL_isForetold_170 : decode cL_isForetold 170 = .ok (.aload_n 0, 1) := by decide +kernel
theorem dL_isForetold_171 : decode cL_isForetold 171 = .ok (.iload 5, 2) := by decide +kernel
theorem dL_isForetold_173 : decode cL_isForetold 173 = .ok (.iconst 0, 1) := by decide +kernel
theorem dL_isForetold_174 : decode cL_isForetold 174 = .ok (.invokevirtual 8, 3) := by decide +kernel
theorem dL_isForetold_177 : decode cL_isForetold 177 = .ok (.istore 9, 2) := by decide +kernel
theorem dL_isForetold_179 : decode cL_isForetold 179 = .ok (.aload_n 0, 1) := by decide +kernel
theorem dL_isForetold_180 : decode cL_isForetold 180 = .ok (.iload 5, 2) := by decide +kernel
theorem dL_isForetold_182 : decode cL_isForetold 182 = .ok (.bipush 9, 2) := by decide +kernel
theorem dL_isForetold_184 : decode cL_isForetold 184 = .ok (.invokevirtual 8, 3) := by decide +kernel
theorem dL_isForetold_187 : decode cL_isForetold 187 = .ok (.istore 10, 2) := by decide +kernel
theorem dL_isForetold_189 : decode cL_isForetold 189 = .ok (.aload_n 0, 1) := by decide +kernel
theorem dL_isForetold_190 : decode cL_isForetold 190 = .ok (.invokevirtual 57, 3) := by decide +kernel
theorem dL_isForetold_193 : decode cL_isForetold 193 = .ok (.istore 11, 2) := by decide +kernel
theorem dL_isForetold_195 : decode cL_isForetold 195 = .ok (.iload 6, 2) := by decide +kernel
theorem dL_isForetold_197 : decode cL_isForetold 197 = .ok (.ifCond .lt 21, 3) := by decide +kernel
theorem dL_isForetold_200 : decode cL_isForetold 200 = .ok (.iload 6, 2) := by decide +kernel
theorem dL_isForetold_202 : decode cL_isForetold 202 = .ok (.iload_n 1, 1) := by decide +kernel
theorem dL_isForetold_203 : decode cL_isForetold 203 = .ok (.if_icmp .gt 15, 3) := by decide +kernel
theorem dL_isForetold_206 : decode cL_isForetold 206 = .ok (.aload_n 0, 1) := by decide +kernel
theorem dL_isForetold_207 : decode cL_isForetold 207 = .ok (.iload_n 1, 1) := by decide +kernel
theorem dL_isForetold_208 : decode cL_isForetold 208 = .ok (.invokevirtual 60, 3) := by decide +kernel
theorem dL_isForetold_211 : decode cL_isForetold 211 = .ok (.iload 11, 2) := by decide +kernel
theorem dL_isForetold_213 : decode cL_isForetold 213 = .ok (.iload_n 1, 1) := by decide +kernel
theorem dL_isForetold_214 : decode cL_isForetold 214 = .ok (.iadd, 1) := by decide +kernel
theorem dL_isForetold_215 : decode cL_isForetold 215 = .ok (.if_icmp .eq 5, 3) := by decide +kernel
theorem dL_isForetold_218 : decode cL_isForetold 218 = .ok (.iconst 0, 1) := by decide +kernel
theorem dL_isForetold_219 : decode cL_isForetold 219 = .ok (.ireturn, 1) := by decide +kernel
theorem dL_isForetold_220 : decode cL_isForetold 220 = .ok (.aload_n 0, 1) := by decide +kernel
theorem dL_isForetold_221 : decode cL_isForetold 221 = .ok (.iload 5, 2) := by decide +kernel
theorem dL_isForetold_223 : decode cL_isForetold 223 = .ok (.bipush 6, 2) := by decide +kernel
theorem dL_isForetold_225 : decode cL_isForetold 225 = .ok (.invokevirtual 8, 3) := by decide +kernel
theorem dL_isForetold_228 : decode cL_isForetold 228 = .ok (.iload 7, 2) := by decide +kernel
theorem dL_isForetold_230 : decode cL_isForetold 230 = .ok (.if_icmp .ne 45, 3) := by decide +kernel
theorem dL_isForetold_233 : decode cL_isForetold 233 = .ok (.iload 8, 2) := by decide +kernel
theorem dL_isForetold_235 : decode cL_isForetold 235 = .ok (.bipush (-100), 2) := by decide +kernel
theorem dL_isForetold_237 : decode cL_isForetold 237 = .ok (.if_icmp .eq 9, 3) := by decide +kernel
theorem dL_isForetold_240 : decode cL_isForetold 240 = .ok (.iload 8, 2) := by decide +kernel
theorem dL_isForetold_242 : decode cL_isForetold 242 = .ok (.iload_n 1, 1) := by decide +kernel
theorem dL_isForetold_243 : decode cL_isForetold 243 = .ok (.if_icmp .le 7, 3) := by decide +kernel
theorem dL_isForetold_246 : decode cL_isForetold 246 = .ok (.iconst 1, 1) := by decide +kernel
theorem dL_isForetold_247 : decode cL_isForetold 247 = .ok (.goto 4, 3) := by decide +kernel
theorem dL_isForetold_250 : decode cL_isForetold 250 = .ok (.iconst 0, 1) := by decide +kernel
theorem dL_isForetold_251 : decode cL_isForetold 251 = .ok (.aload_n 0, 1) := by decide +kernel
theorem dL_isForetold_252 : decode cL_isForetold 252 = .ok (.iload 5, 2) := by decide +kernel
theorem dL_isForetold_254 : decode cL_isForetold 254 = .ok (.invokestatic 37, 3) := by decide +kernel
theorem dL_isForetold_257 : decode cL_isForetold 257 = .ok (.if_icmp .ne 18, 3) := by decide +kernel
theorem dL_isForetold_260 : decode cL_isForetold 260 = .ok (.aload_n 0, 1) := by decide +kernel
theorem dL_isForetold_261 : decode cL_isForetold 261 = .ok (.iload 5, 2) := by decide +kernel
theorem dL_isForetold_263 : decode cL_isForetold 263 = .ok (.bipush 9, 2) := by decide +kernel
theorem dL_isForetold_265 : decode cL_isForetold 265 = .ok (.invokevirtual 8, 3) := by decide +kernel
theorem dL_isForetold_268 : decode cL_isForetold 268 = .ok (.iload 10, 2) := by decide +kernel
theorem dL_isForetold_270 : decode cL_isForetold 270 = .ok (.isub, 1) := by decide +kernel
theorem dL_isForetold_271 : decode cL_isForetold 271 = .ok (.iload_n 1, 1) := by decide +kernel
theorem dL_isForetold_272 : decode cL_isForetold 272 = .ok (.if_icmp .le 5, 3) := by decide +kernel
theorem dL_isForetold_275 : decode cL_isForetold 275 = .ok (.iconst 0, 1) := by decide +kernel
theorem dL_isForetold_276 : decode cL_isForetold 276 = .ok (.ireturn, 1) := by decide +kernel
theorem dL_isForetold_277 : decode cL_isForetold 277 = .ok (.aload_n 0, 1) := by decide +kernel
theorem dL_isForetold_278 : decode cL_isForetold 278 = .ok (.iload 5, 2) := by decide +kernel
theorem dL_isForetold_280 : decode cL_isForetold 280 = .ok (.bipush 7, 2) := by decide +kernel
theorem dL_isForetold_282 : decode cL_isForetold 282 = .ok (.invokevirtual 8, 3) := by decide +kernel
