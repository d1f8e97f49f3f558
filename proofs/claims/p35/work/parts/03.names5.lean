theorem dL_isForetold_285 : decode cL_isForetold 285 = .ok (.ifCond .ne 30, 3) := by decide +kernel
theorem dL_isForetold_288 : decode cL_isForetold 288 = .ok (.aload_n 0, 1) := by decide +kernel
theorem dL_isForetold_289 : decode cL_isForetold 289 = .ok (.iload 5, 2) := by decide +kernel
theorem dL_isForetold_291 : decode cL_isForetold 291 = .ok (.bipush 9, 2) := by decide +kernel
theorem dL_isForetold_293 : decode cL_isForetold 293 = .ok (.invokevirtual 8, 3) := by decide +kernel
theorem dL_isForetold_296 : decode cL_isForetold 296 = .ok (.iload 10, 2) := by decide +kernel
theorem dL_isForetold_298 : decode cL_isForetold 298 = .ok (.if_icmp .ne 17, 3) := by decide +kernel
theorem dL_isForetold_301 : decode cL_isForetold 301 = .ok (.aload_n 0, 1) := by decide +kernel
theorem dL_isForetold_302 : decode cL_isForetold 302 = .ok (.iload 5, 2) := by decide +kernel
theorem dL_isForetold_304 : decode cL_isForetold 304 = .ok (.iconst 0, 1) := by decide +kernel
theorem dL_isForetold_305 : decode cL_isForetold 305 = .ok (.invokevirtual 8, 3) := by decide +kernel
theorem dL_isForetold_308 : decode cL_isForetold 308 = .ok (.iload 9, 2) := by decide +kernel
theorem dL_isForetold_310 : decode cL_isForetold 310 = .ok (.if_icmp .eq 5, 3) := by decide +kernel
theorem dL_isForetold_313 : decode cL_isForetold 313 = .ok (.iconst 0, 1) := by decide +kernel
theorem dL_isForetold_314 : decode cL_isForetold 314 = .ok (.ireturn, 1) := by decide +kernel
theorem dL_isForetold_315 : decode cL_isForetold 315 = .ok (.aload_n 0, 1) := by decide +kernel
theorem dL_isForetold_316 : decode cL_isForetold 316 = .ok (.invokevirtual 63, 3) := by decide +kernel
theorem dL_isForetold_319 : decode cL_isForetold 319 = .ok (.ifCond .lt 12, 3) := by decide +kernel
theorem dL_isForetold_322 : decode cL_isForetold 322 = .ok (.aload_n 0, 1) := by decide +kernel
theorem dL_isForetold_323 : decode cL_isForetold 323 = .ok (.invokevirtual 44, 3) := by decide +kernel
theorem dL_isForetold_326 : decode cL_isForetold 326 = .ok (.lload_n 2, 1) := by decide +kernel
theorem dL_isForetold_327 : decode cL_isForetold 327 = .ok (.lcmp, 1) := by decide +kernel
theorem dL_isForetold_328 : decode cL_isForetold 328 = .ok (.ifCond .eq 5, 3) := by decide +kernel
theorem dL_isForetold_331 : decode cL_isForetold 331 = .ok (.iconst 0, 1) := by decide +kernel
theorem dL_isForetold_332 : decode cL_isForetold 332 = .ok (.ireturn, 1) := by decide +kernel
theorem dL_isForetold_333 : decode cL_isForetold 333 = .ok (.iinc 5 1, 3) := by decide +kernel
theorem dL_isForetold_336 : decode cL_isForetold 336 = .ok (.goto (-205), 3) := by decide +kernel
theorem dL_isForetold_339 : decode cL_isForetold 339 = .ok (.iconst 1, 1) := by decide +kernel
theorem dL_isForetold_340 : decode cL_isForetold 340 = .ok (.ireturn, 1) := by decide +kernel
set_option maxRecDepth 20000 in
theorem ggL_changes_L_low : GoodIn wsL_changes wsL_low := goodIn_r _ [4, 5] (by decide +kernel) (by decide +kernel)
set_option maxRecDepth 20000 in
theorem gL_changes_L_low : GoodIn wsL_changes (va_wsS RL 66 yL_low wsL_low) := goodIn_app (goodIn_of _ (by decide +kernel)) ggL_changes_L_low
set_option maxRecDepth 20000 in
theorem ggL_changes_X3_setPriority : GoodIn wsL_changes wsX3_setPriority := goodIn_r _ [10, 11, 12, 13, 14, 15, 16, 17, 18, 19, 20, 9, 21, 22, 23, 24, 25, 26, 27, 28, 29, 30, 31, 32, 33, 34, 35, 36, 37, 38, 39, 40, 41, 42, 43, 44, 45, 218, 219, 220, 221, 222, 223, 224, 225] (by decide +kernel) (by decide +kernel)
set_option maxRecDepth 20000 in
theorem gL_changes_X3_setPriority : GoodIn wsL_changes (wsV RL 69 RX3 yX3_setPriority wsX3_setPriority) := goodIn_app (goodIn_of _ (by decide +kernel)) ggL_changes_X3_setPriority
set_option maxRecDepth 20000 in
theorem ggL_changes_X3_setArc : GoodIn wsL_changes wsX3_setArc := goodIn_r _ [49, 11, 12, 13, 14, 15, 16, 17, 18, 50, 51, 9, 52, 53, 54, 55, 56, 57, 58, 59, 60, 61, 62, 63, 64, 65, 66, 67, 68, 38, 39, 40, 41, 69, 70, 71, 72, 73, 74, 75, 76, 77, 78, 79, 80, 81, 82, 83, 84, 85, 86, 87, 88, 89, 90, 91, 92, 93, 94, 95, 96, 97, 98, 99, 100, 101, 102, 103, 104, 105, 106, 107, 108, 22, 23, 24, 25, 26, 27, 28, 29, 30, 31, 32, 33, 34, 35, 36, 37, 109, 110, 111, 218, 219, 220, 221, 222, 223, 224, 225] (by decide +kernel) (by decide +kernel)
set_option maxRecDepth 20000 in
theorem gL_changes_X3_setArc : GoodIn wsL_changes (wsV RL 72 RX3 yX3_setArc wsX3_setArc) := goodIn_app (goodIn_of _ (by decide +kernel)) ggL_changes_X3_setArc
set_option maxRecDepth 20000 in
theorem ggL_changes_X3_removeArc : GoodIn wsL_changes wsX3_removeArc := goodIn_r _ [115, 11, 12, 13, 14, 15, 16, 17, 18, 50, 51, 9, 52, 22, 23, 24, 25, 26, 27, 28, 29, 30, 31, 32, 33, 34, 35, 36, 37, 38, 39, 40, 41, 116, 117, 118, 119, 120, 121, 122, 123, 69, 70, 71, 72, 218, 219, 220, 221, 222, 223, 224, 225] (by decide +kernel) (by decide +kernel)
set_option maxRecDepth 20000 in
theorem gL_changes_X3_removeArc : GoodIn wsL_changes (wsV RL 76 RX3 yX3_removeArc wsX3_removeArc) := goodIn_app (goodIn_of _ (by decide +kernel)) ggL_changes_X3_removeArc
set_option maxRecDepth 20000 in
theorem ggL_changes_X3_stop : GoodIn wsL_changes wsX3_stop := goodIn_r _ [127, 11, 12, 13, 14, 15, 16, 17, 18, 128, 95, 96, 97, 22, 23, 24, 25, 26, 27, 28, 29, 30, 31, 32, 33, 34, 35, 36, 37, 38, 39, 40, 41, 129, 130, 131, 132, 218, 219, 220, 221, 222, 223, 224, 225] (by decide +kernel) (by decide +kernel)
set_option maxRecDepth 20000 in
theorem gL_changes_X3_stop : GoodIn wsL_changes (wsV RL 79 RX3 yX3_stop wsX3_stop) := goodIn_app (goodIn_of _ (by decide +kernel)) ggL_changes_X3_stop
set_option maxRecDepth 20000 in
theorem ggL_changes_X3_turnRound : GoodIn wsL_changes wsX3_turnRound := goodIn_r _ [136, 11, 12, 13, 14, 15, 16, 17, 18, 137, 138, 139, 140, 128, 95, 96, 97, 22, 23, 24, 25, 26, 27, 28, 29, 30, 31, 32, 33, 34, 35, 36, 37, 38, 39, 40, 41, 141, 142, 143, 144, 145, 146, 147, 148, 110, 9, 111, 218, 219, 220, 221, 222, 223, 224, 225] (by decide +kernel) (by decide +kernel)
set_option maxRecDepth 20000 in
theorem gL_changes_X3_turnRound : GoodIn wsL_changes (wsV RL 82 RX3 yX3_turnRound wsX3_turnRound) := goodIn_app (goodIn_of _ (by decide +kernel)) ggL_changes_X3_turnRound
set_option maxRecDepth 20000 in
theorem ggL_changes_X3_leave : GoodIn wsL_changes wsX3_leave := goodIn_r _ [152, 11, 12, 13, 14, 15, 16, 17, 18, 56, 57, 58, 59, 153, 154, 155, 156, 86, 87, 88, 89, 81, 82, 83, 84, 85, 90, 91, 92, 93, 94, 95, 96, 97, 98, 99, 100, 101, 22, 23, 24, 25, 26, 27, 28, 29, 30, 31, 32, 33, 34, 35, 36, 37, 38, 39, 40, 41, 157, 158, 159, 160, 161, 130, 131, 132, 162, 163, 164, 165, 218, 219, 220, 221, 222, 223, 224, 225] (by decide +kernel) (by decide +kernel)
set_option maxRecDepth 20000 in
theorem gL_changes_X3_leave : GoodIn wsL_changes (wsV RL 85 RX3 yX3_leave wsX3_leave) := goodIn_app (goodIn_of _ (by decide +kernel)) ggL_changes_X3_leave
set_option maxRecDepth 20000 in
theorem ggL_changes_X3_setWind : GoodIn wsL_changes wsX3_setWind := goodIn_r _ [169, 12, 11, 53, 54, 9, 55, 22, 23, 24, 25, 26, 27, 28, 29, 30, 31, 32, 33, 34, 35, 36, 16, 37, 18, 38, 39, 40, 41, 170, 171, 172, 173, 218, 219, 220, 221, 223, 224, 225, 222] (by decide +kernel) (by decide +kernel)
set_option maxRecDepth 20000 in
theorem gL_changes_X3_setWind : GoodIn wsL_changes (wsV RL 89 RX3 yX3_setWind wsX3_setWind) := goodIn_app (goodIn_of _ (by decide +kernel)) ggL_changes_X3_setWind
set_option maxRecDepth 20000 in
theorem ggL_changes_X3_tick : GoodIn wsL_changes wsX3_tick := goodIn_r _ [177, 11, 178, 12, 179, 180, 181, 16, 182, 18, 22, 23, 24, 25, 26, 27, 28, 29, 30, 31, 32, 33, 34, 35, 36, 37, 38, 39, 40, 41, 183, 184, 185, 186, 187, 188, 189, 190, 85, 57, 58, 59, 191, 192, 193, 194, 195, 9, 196, 109, 110, 111, 197, 138, 139, 140, 198, 199, 200, 201, 94, 95, 96, 97, 98, 99, 100, 101, 90, 91, 92, 93, 81, 82, 83, 84, 86, 87, 88, 89, 202, 203, 204, 205, 161, 130, 131, 132, 218, 219, 220, 221, 222, 223, 224, 225] (by decide +kernel) (by decide +kernel)
set_option maxRecDepth 20000 in
theorem gL_changes_X3_tick : GoodIn wsL_changes (wsV RL 60 RX3 yX3_tick wsX3_tick) := goodIn_app (goodIn_of _ (by decide +kernel)) ggL_changes_X3_tick
set_option maxRecDepth 20000 in
theorem ggL_changes_X3_slew : GoodIn wsL_changes wsX3_slew := goodIn_r _ [209, 11, 12, 13, 14, 15, 16, 17, 18, 53, 54, 9, 55, 210, 211, 212, 213, 94, 95, 96, 97, 85, 57, 58, 59, 22, 23, 24, 25, 26, 27, 28, 29, 30, 31, 32, 33, 34, 35, 36, 37, 38, 39, 40, 41, 214, 215, 216, 217, 161, 130, 131, 132, 195, 196, 109, 110, 111, 145, 146, 147, 148, 218, 219, 220, 221, 222, 223, 224, 225] (by decide +kernel) (by decide +kernel)
set_option maxRecDepth 20000 in
theorem gL_changes_X3_slew : GoodIn wsL_changes (wsV RL 92 RX3 yX3_slew wsX3_slew) := goodIn_app (goodIn_of _ (by decide +kernel)) ggL_changes_X3_slew
theorem dL_changes_0 : decode cL_changes 0 = .ok (.iload_n 1, 1) := by decide +kernel
theorem dL_changes_1 : decode cL_changes 1 = .ok (.iconst 4, 1) := by decide +kernel
theorem dL_changes_2 : decode cL_changes 2 = .ok (.ishr, 1) := by decide +kernel
theorem dL_changes_3 : decode cL_changes 3 = .ok (.iconst 4, 1) := by decide +kernel
theorem dL_changes_4 : decode cL_changes 4 = .ok (.invokestatic 66, 3) := by decide +kernel
theorem dL_changes_7 : decode cL_changes 7 = .ok (.istore_n 2, 1) := by decide +kernel
theorem dL_changes_8 : decode cL_changes 8 = .ok (.iload_n 1, 1) := by decide +kernel
theorem dL_changes_9 : decode cL_changes 9 = .ok (.bipush 16, 2) := by decide +kernel
theorem dL_changes_11 : decode cL_changes 11 = .ok (.invokestatic 66, 3) := by decide +kernel
theorem dL_changes_14 : decode cL_changes 14 = .ok (.tableswitch 183 0 10 #[58, 73, 73, 73, 106, 121, 127, 133, 153, 167, 167], 58) := by decide +kernel
theorem dL_changes_72 : decode cL_changes 72 = .ok (.aload_n 0, 1) := by decide +kernel
theorem dL_changes_73 : decode cL_changes 73 = .ok (.iload_n 2, 1) := by decide +kernel
theorem dL_changes_74 : decode cL_changes 74 = .ok (.iload_n 1, 1) := by decide +kernel
theorem dL_changes_75 : decode cL_changes 75 = .ok (.bipush 6, 2) := by decide +kernel
theorem dL_changes_77 : decode cL_changes 77 = .ok (.ishr, 1) := by decide +kernel
theorem dL_changes_78 : decode cL_changes 78 = .ok (.bipush 10, 2) := by decide +kernel
theorem dL_changes_80 : decode cL_changes 80 = .ok (.invokestatic 66, 3) := by decide +kernel
theorem dL_changes_83 : decode cL_changes 83 = .ok (.invokevirtual 69, 3) := by decide +kernel
theorem dL_changes_86 : decode cL_changes 86 = .ok (.ireturn, 1) := by decide +kernel
theorem dL_changes_87 : decode cL_changes 87 = .ok (.aload_n 0, 1) := by decide +kernel
theorem dL_changes_88 : decode cL_changes 88 = .ok (.iload_n 2, 1) := by decide +kernel
theorem dL_changes_89 : decode cL_changes 89 = .ok (.iload_n 1, 1) := by decide +kernel
theorem dL_changes_90 : decode cL_changes 90 = .ok (.bipush 6, 2) := by decide +kernel
theorem dL_changes_92 : decode cL_changes 92 = .ok (.ishr, 1) := by decide +kernel
theorem dL_changes_93 : decode cL_changes 93 = .ok (.bipush 6, 2) := by decide +kernel
theorem dL_changes_95 : decode cL_changes 95 = .ok (.invokestatic 66, 3) := by decide +kernel
theorem dL_changes_98 : decode cL_changes 98 = .ok (.iload_n 1, 1) := by decide +kernel
theorem dL_changes_99 : decode cL_changes 99 = .ok (.bipush 9, 2) := by decide +kernel
theorem dL_changes_101 : decode cL_changes 101 = .ok (.ishr, 1) := by decide +kernel
theorem dL_changes_102 : decode cL_changes 102 = .ok (.bipush 36, 2) := by decide +kernel
theorem dL_changes_104 : decode cL_changes 104 = .ok (.invokestatic 66, 3) := by decide +kernel
theorem dL_changes_107 : decode cL_changes 107 = .ok (.iload_n 1, 1) := by decide +kernel
theorem dL_changes_108 : decode cL_changes 108 = .ok (.bipush 14, 2) := by decide +kernel
theorem dL_changes_110 : decode cL_changes 110 = .ok (.ishr, 1) := by decide +kernel
theorem dL_changes_111 : decode cL_changes 111 = .ok (.bipush 36, 2) := by decide +kernel
theorem dL_changes_113 : decode cL_changes 113 = .ok (.invokestatic 66, 3) := by decide +kernel
theorem dL_changes_116 : decode cL_changes 116 = .ok (.invokevirtual 72, 3) := by decide +kernel
theorem dL_changes_119 : decode cL_changes 119 = .ok (.ireturn, 1) := by decide +kernel
theorem dL_changes_120 : decode cL_changes 120 = .ok (.aload_n 0, 1) := by decide +kernel
theorem dL_changes_121 : decode cL_changes 121 = .ok (.iload_n 2, 1) := by decide +kernel
theorem dL_changes_122 : decode cL_changes 122 = .ok (.iload_n 1, 1) := by decide +kernel
theorem dL_changes_123 : decode cL_changes 123 = .ok (.bipush 6, 2) := by decide +kernel
theorem dL_changes_125 : decode cL_changes 125 = .ok (.ishr, 1) := by decide +kernel
theorem dL_changes_126 : decode cL_changes 126 = .ok (.bipush 6, 2) := by decide +kernel
theorem dL_changes_128 : decode cL_changes 128 = .ok (.invokestatic 66, 3) := by decide +kernel
theorem dL_changes_131 : decode cL_changes 131 = .ok (.invokevirtual 76, 3) := by decide +kernel
theorem dL_changes_134 : decode cL_changes 134 = .ok (.ireturn, 1) := by decide +kernel
theorem dL_changes_135 : decode cL_changes 135 = .ok (.aload_n 0, 1) := by decide +kernel
theorem dL_changes_136 : decode cL_changes 136 = .ok (.iload_n 2, 1) := by decide +kernel
theorem dL_changes_137 : decode cL_changes 137 = .ok (.invokevirtual 79, 3) := by decide +kernel
theorem dL_changes_140 : decode cL_changes 140 = .ok (.ireturn, 1) := by decide +kernel
theorem dL_changes_141 : decode cL_changes 141 = .ok (.aload_n 0, 1) := by decide +kernel
theorem dL_changes_142 : decode cL_changes 142 = .ok (.iload_n 2, 1) := by decide +kernel
theorem dL_changes_143 : decode cL_changes 143 = .ok (.invokevirtual 82, 3) := by decide +kernel
theorem dL_changes_146 : decode cL_changes 146 = .ok (.ireturn, 1) := by decide +kernel
theorem dL_changes_147 : decode cL_changes 147 = .ok (.aload_n 0, 1) := by decide +kernel
theorem dL_changes_148 : decode cL_changes 148 = .ok (.iload_n 2, 1) := by decide +kernel
theorem dL_changes_149 : decode cL_changes 149 = .ok (.iload_n 1, 1) := by decide +kernel
theorem dL_changes_150 : decode cL_changes 150 = .ok (.bipush 6, 2) := by decide +kernel
theorem dL_changes_152 : decode cL_changes 152 = .ok (.ishr, 1) := by decide +kernel
theorem dL_changes_153 : decode cL_changes 153 = .ok (.iconst 3, 1) := by decide +kernel
theorem dL_changes_154 : decode cL_changes 154 = .ok (.iand, 1) := by decide +kernel
theorem dL_changes_155 : decode cL_changes 155 = .ok (.ifCond .ne 7, 3) := by decide +kernel
theorem dL_changes_158 : decode cL_changes 158 = .ok (.iconst 1, 1) := by decide +kernel
theorem dL_changes_159 : decode cL_changes 159 = .ok (.goto 4, 3) := by decide +kernel
theorem dL_changes_162 : decode cL_changes 162 = .ok (.iconst 0, 1) := by decide +kernel
theorem dL_changes_163 : decode cL_changes 163 = .ok (.invokevirtual 85, 3) := by decide +kernel
theorem dL_changes_166 : decode cL_changes 166 = .ok (.ireturn, 1) := by decide +kernel
theorem dL_changes_167 : decode cL_changes 167 = .ok (.aload_n 0, 1) := by decide +kernel
theorem dL_changes_168 : decode cL_changes 168 = .ok (.iload_n 1, 1) := by decide +kernel
theorem dL_changes_169 : decode cL_changes 169 = .ok (.bipush 6, 2) := by decide +kernel
theorem dL_changes_171 : decode cL_changes 171 = .ok (.ishr, 1) := by decide +kernel
theorem dL_changes_172 : decode cL_changes 172 = .ok (.bipush 36, 2) := by decide +kernel
theorem dL_changes_174 : decode cL_changes 174 = .ok (.invokestatic 66, 3) := by decide +kernel
theorem dL_changes_177 : decode cL_changes 177 = .ok (.invokevirtual 89, 3) := by decide +kernel
theorem dL_changes_180 : decode cL_changes 180 = .ok (.ireturn, 1) := by decide +kernel
theorem dL_changes_181 : decode cL_changes 181 = .ok (.aload_n 0, 1) := by decide +kernel
theorem dL_changes_182 : decode cL_changes 182 = .ok (.iconst 1, 1) := by decide +kernel
theorem dL_changes_183 : decode cL_changes 183 = .ok (.iload_n 1, 1) := by decide +kernel
theorem dL_changes_184 : decode cL_changes 184 = .ok (.bipush 6, 2) := by decide +kernel
theorem dL_changes_186 : decode cL_changes 186 = .ok (.ishr, 1) := by decide +kernel
theorem dL_changes_187 : decode cL_changes 187 = .ok (.bipush 12, 2) := by decide +kernel
theorem dL_changes_189 : decode cL_changes 189 = .ok (.invokestatic 66, 3) := by decide +kernel
theorem dL_changes_192 : decode cL_changes 192 = .ok (.iadd, 1) := by decide +kernel
theorem dL_changes_193 : decode cL_changes 193 = .ok (.invokevirtual 60, 3) := by decide +kernel
theorem dL_changes_196 : decode cL_changes 196 = .ok (.ireturn, 1) := by decide +kernel
theorem dL_changes_197 : decode cL_changes 197 = .ok (.aload_n 0, 1) := by decide +kernel
theorem dL_changes_198 : decode cL_changes 198 = .ok (.iload_n 2, 1) := by decide +kernel
theorem dL_changes_199 : decode cL_changes 199 = .ok (.iload_n 1, 1) := by decide +kernel
theorem dL_changes_200 : decode cL_changes 200 = .ok (.bipush 6, 2) := by decide +kernel
theorem dL_changes_202 : decode cL_changes 202 = .ok (.ishr, 1) := by decide +kernel
theorem dL_changes_203 : decode cL_changes 203 = .ok (.bipush 36, 2) := by decide +kernel
theorem dL_changes_205 : decode cL_changes 205 = .ok (.invokestatic 66, 3) := by decide +kernel
theorem dL_changes_208 : decode cL_changes 208 = .ok (.iload_n 1, 1) := by decide +kernel
theorem dL_changes_209 : decode cL_changes 209 = .ok (.bipush 12, 2) := by decide +kernel
theorem dL_changes_211 : decode cL_changes 211 = .ok (.ishr, 1) := by decide +kernel
theorem dL_changes_212 : decode cL_changes 212 = .ok (.iconst 3, 1) := by decide +kernel
theorem dL_changes_213 : decode cL_changes 213 = .ok (.iand, 1) := by decide +kernel
theorem dL_changes_214 : decode cL_changes 214 = .ok (.iconst 3, 1) := by decide +kernel
theorem dL_changes_215 : decode cL_changes 215 = .ok (.if_icmp .ne 7, 3) := by decide +kernel
theorem dL_changes_218 : decode cL_changes 218 = .ok (.iconst 0, 1) := by decide +kernel
theorem dL_changes_219 : decode cL_changes 219 = .ok (.goto 11, 3) := by decide +kernel
theorem dL_changes_222 : decode cL_changes 222 = .ok (.iload_n 1, 1) := by decide +kernel
theorem dL_changes_223 : decode cL_changes 223 = .ok (.bipush 12, 2) := by decide +kernel
theorem dL_changes_225 : decode cL_changes 225 = .ok (.ishr, 1) := by decide +kernel
theorem dL_changes_226 : decode cL_changes 226 = .ok (.iconst 3, 1) := by decide +kernel
theorem dL_changes_227 : decode cL_changes 227 = .ok (.iand, 1) := by decide +kernel
theorem dL_changes_228 : decode cL_changes 228 = .ok (.iconst 1, 1) := by decide +kernel
theorem dL_changes_229 : decode cL_changes 229 = .ok (.isub, 1) := by decide +kernel
theorem dL_changes_230 : decode cL_changes 230 = .ok (.invokevirtual 92, 3) := by decide +kernel
theorem dL_changes_233 : decode cL_changes 233 = .ok (.ireturn, 1) := by decide +kernel
set_option maxRecDepth 20000 in
theorem ggL_law_X3_init : GoodIn wsL_law wsX3_init := goodIn_r _ [5, 6, 7, 8, 9, 10, 11, 12, 13, 14, 15, 16, 17, 18, 19, 20, 21, 22, 23, 24, 25, 26, 27, 28, 29, 30, 31, 32, 33, 34, 35, 36, 37, 38, 39, 40, 41, 42, 43, 467, 463, 464, 465, 466, 468, 469, 470, 471, 472, 473, 474, 475, 476, 477] (by decide +kernel) (by decide +kernel)
set_option maxRecDepth 20000 in
theorem gL_law_X3_init : GoodIn wsL_law (wsX3_init) := ggL_law_X3_init
set_option maxRecDepth 20000 in
theorem ggL_law_L_cell : GoodIn wsL_law wsL_cell := goodIn_r _ [47] (by decide +kernel) (by decide +kernel)
set_option maxRecDepth 20000 in
theorem gL_law_L_cell : GoodIn wsL_law (va_wsS RL 97 yL_cell wsL_cell) := goodIn_app (goodIn_of _ (by decide +kernel)) ggL_law_L_cell
set_option maxRecDepth 20000 in
theorem ggL_law_X3_undo : GoodIn wsL_law wsX3_undo := goodIn_r _ [51, 17, 12, 52, 53, 54, 16, 55, 32, 56, 57, 58, 59, 33, 31, 60, 61, 62, 11, 63, 27, 64, 65, 66, 67, 463, 464, 465, 466, 468, 469, 470, 467] (by decide +kernel) (by decide +kernel)
set_option maxRecDepth 20000 in
theorem gL_law_X3_undo : GoodIn wsL_law (wsV RL 63 RX3 yX3_undo wsX3_undo) := goodIn_app (goodIn_of _ (by decide +kernel)) ggL_law_X3_undo
set_option maxRecDepth 20000 in
theorem ggL_law_X3_cycle : GoodIn wsL_law wsX3_cycle := goodIn_r _ [71, 12, 72, 73, 74, 11, 75, 27, 76, 77, 78, 79, 80, 81, 82, 83, 84, 85, 86, 87, 88, 89, 90, 91, 92, 93, 94, 95, 96, 97, 98, 99, 100, 101, 102, 103, 104, 105, 106, 107, 108, 109, 110, 111, 463, 464, 465, 466, 467] (by decide +kernel) (by decide +kernel)
set_option maxRecDepth 20000 in
theorem gL_law_X3_cycle : GoodIn wsL_law (wsV RL 31 RX3 yX3_cycle wsX3_cycle) := goodIn_app (goodIn_of _ (by decide +kernel)) ggL_law_X3_cycle
set_option maxRecDepth 20000 in
theorem ggL_law_X3_conflicts : GoodIn wsL_law wsX3_conflicts := goodIn_r _ [115, 12, 116, 117, 118, 11, 119, 120, 121, 122, 123, 124, 125, 126, 127, 27, 100, 101, 102, 103, 104, 105, 106, 107, 108, 109, 110, 111, 96, 97, 98, 99, 88, 89, 90, 91, 92, 93, 94, 95, 128, 129, 130, 131, 132, 133, 134, 463, 464, 465, 466, 467] (by decide +kernel) (by decide +kernel)
set_option maxRecDepth 20000 in
theorem gL_law_X3_conflicts : GoodIn wsL_law (wsV RL 28 RX3 yX3_conflicts wsX3_conflicts) := goodIn_app (goodIn_of _ (by decide +kernel)) ggL_law_X3_conflicts
set_option maxRecDepth 20000 in
theorem ggL_law_X3_allDone : GoodIn wsL_law wsX3_allDone := goodIn_r _ [138, 139, 140, 141, 2, 142, 13, 12, 143, 144, 145, 11, 146, 27, 64, 65, 66, 67, 147, 148, 149, 150, 84, 85, 86, 87, 151, 152, 153, 154, 155, 156, 157, 158, 104, 105, 106, 107, 159, 160, 161, 162, 163, 164, 165, 166, 167, 80, 81, 82, 83, 88, 89, 90, 91, 92, 93, 94, 95, 96, 97, 98, 99, 100, 101, 102, 103, 108, 109, 110, 111, 168, 169, 170, 171, 172, 173, 174, 175, 463, 464, 465, 466, 467] (by decide +kernel) (by decide +kernel)
set_option maxRecDepth 20000 in
theorem gL_law_X3_allDone : GoodIn wsL_law (wsV RL 54 RX3 yX3_allDone wsX3_allDone) := goodIn_app (goodIn_of _ (by decide +kernel)) ggL_law_X3_allDone
set_option maxRecDepth 20000 in
theorem ggL_law_X3_command : GoodIn wsL_law wsX3_command := goodIn_r _ [179, 21, 12, 17, 180, 181, 182, 20, 183, 39, 43, 184, 185, 186, 187, 40, 41, 42, 188, 189, 190, 191, 38, 37, 192, 193, 194, 195, 196, 197, 198, 11, 199, 27, 200, 201, 202, 203, 88, 89, 90, 91, 104, 105, 106, 107, 204, 205, 206, 207, 208, 209, 210, 211, 212, 2, 213, 214, 215, 216, 16, 217, 31, 33, 32, 218, 219, 220, 221, 222, 223, 224, 225, 64, 65, 66, 67, 226, 227, 228, 229, 230, 231, 232, 233, 172, 173, 174, 175, 163, 164, 165, 166, 167, 234, 235, 236, 237, 147, 148, 149, 150, 84, 85, 86, 87, 238, 129, 130, 131, 132, 133, 134, 463, 464, 465, 466, 471, 472, 473, 474, 475, 476, 477, 467, 468, 469, 470] (by decide +kernel) (by decide +kernel)
set_option maxRecDepth 20000 in
theorem gL_law_X3_command : GoodIn wsL_law (wsV RL 101 RX3 yX3_command wsX3_command) := goodIn_app (goodIn_of _ (by decide +kernel)) ggL_law_X3_command
set_option maxRecDepth 20000 in
theorem ggL_law_X3_crane : GoodIn wsL_law wsX3_crane := goodIn_r _ [242, 12, 243, 197, 198, 11, 199, 27, 244, 245, 246, 247, 100, 101, 102, 103, 104, 105, 106, 107, 108, 109, 110, 111, 96, 97, 98, 99, 88, 89, 90, 91, 92, 93, 94, 95, 463, 464, 465, 466, 467] (by decide +kernel) (by decide +kernel)
set_option maxRecDepth 20000 in
theorem gL_law_X3_crane : GoodIn wsL_law (wsV RL 8 RX3 yX3_crane wsX3_crane) := goodIn_app (goodIn_of _ (by decide +kernel)) ggL_law_X3_crane
set_option maxRecDepth 20000 in
theorem ggL_law_L_low : GoodIn wsL_law wsL_low := goodIn_r _ [250, 251] (by decide +kernel) (by decide +kernel)
set_option maxRecDepth 20000 in
theorem gL_law_L_low : GoodIn wsL_law (va_wsS RL 66 yL_low wsL_low) := goodIn_app (goodIn_of _ (by decide +kernel)) ggL_law_L_low
set_option maxRecDepth 20000 in
theorem ggL_law_X3_addCrane : GoodIn wsL_law wsX3_addCrane := goodIn_r _ [255, 12, 17, 256, 212, 2, 213, 257, 258, 259, 260, 261, 262, 11, 263, 27, 214, 215, 216, 16, 217, 31, 33, 32, 218, 219, 220, 221, 222, 223, 224, 225, 64, 65, 66, 67, 264, 265, 266, 267, 463, 464, 465, 466, 467, 468, 469, 470] (by decide +kernel) (by decide +kernel)
set_option maxRecDepth 20000 in
theorem gL_law_X3_addCrane : GoodIn wsL_law (wsV RL 104 RX3 yX3_addCrane wsX3_addCrane) := goodIn_app (goodIn_of _ (by decide +kernel)) ggL_law_X3_addCrane
set_option maxRecDepth 20000 in
theorem ggL_law_X3_digest : GoodIn wsL_law wsX3_digest := goodIn_r _ [271, 12, 272, 273, 274, 11, 275, 276, 277, 27, 278, 279, 280, 281, 282, 245, 246, 247, 100, 101, 102, 103, 104, 105, 106, 107, 108, 109, 110, 111, 96, 97, 98, 99, 88, 89, 90, 91, 92, 93, 94, 95, 283, 284, 285, 286, 287, 288, 289, 290, 463, 464, 465, 466, 467] (by decide +kernel) (by decide +kernel)
set_option maxRecDepth 20000 in
theorem gL_law_X3_digest : GoodIn wsL_law (wsV RL 44 RX3 yX3_digest wsX3_digest) := goodIn_app (goodIn_of _ (by decide +kernel)) ggL_law_X3_digest
set_option maxRecDepth 20000 in
theorem ggL_law_L_changes : GoodIn wsL_law wsL_changes := goodIn_r _ [293, 248, 249, 46, 250, 251, 294, 295, 296, 2, 297, 12, 17, 243, 197, 198, 11, 199, 27, 257, 258, 259, 214, 215, 216, 16, 217, 31, 33, 32, 218, 219, 220, 221, 222, 223, 224, 225, 64, 65, 66, 67, 298, 299, 300, 301, 302, 303, 304, 305, 306, 307, 308, 256, 212, 213, 309, 105, 106, 107, 310, 311, 312, 313, 13, 143, 144, 145, 146, 314, 315, 316, 317, 318, 121, 122, 123, 124, 125, 126, 127, 100, 101, 102, 103, 104, 108, 109, 110, 111, 96, 97, 98, 99, 88, 89, 90, 91, 92, 93, 94, 95, 128, 129, 130, 131, 132, 133, 134, 165, 166, 167, 319, 320, 321, 322, 323, 324, 325, 326, 283, 284, 285, 286, 327, 328, 329, 330, 331, 332, 173, 174, 175, 333, 334, 335, 336, 337, 85, 86, 87, 338, 339, 340, 341, 234, 235, 236, 237, 342, 343, 344, 345, 346, 347, 348, 349, 350, 351, 352, 353, 172, 354, 355, 356, 357, 358, 359, 360, 361, 362, 363, 364, 365, 366, 367, 368, 369, 370, 371, 372, 373, 374, 151, 152, 153, 154, 155, 156, 157, 158, 159, 160, 161, 162, 163, 164, 84, 80, 81, 82, 83, 168, 169, 170, 171, 375, 376, 377, 378, 379, 201, 202, 203, 380, 231, 232, 233, 463, 464, 465, 466, 467, 468, 469, 470] (by decide +kernel) (by decide +kernel)
set_option maxRecDepth 20000 in
theorem gL_law_L_changes : GoodIn wsL_law (va_wsS RL 107 yL_changes wsL_changes) := goodIn_app (goodIn_of _ (by decide +kernel)) ggL_law_L_changes
set_option maxRecDepth 20000 in
theorem ggL_law_L_isSound : GoodIn wsL_law wsL_isSound := goodIn_r _ [383, 384, 385, 386, 2, 387, 12, 306, 307, 308, 388, 125, 126, 11, 127, 27, 100, 101, 102, 103, 104, 105, 106, 107, 108, 109, 110, 111, 96, 97, 98, 99, 88, 89, 90, 91, 92, 93, 94, 95, 389, 390, 391, 392, 260, 261, 262, 263, 239, 240, 241, 242, 243, 197, 198, 199, 244, 245, 246, 247, 393, 394, 395, 396, 397, 288, 289, 290, 398, 284, 285, 286, 112, 113, 114, 115, 116, 117, 118, 119, 120, 121, 122, 123, 124, 128, 129, 130, 131, 132, 133, 134, 68, 69, 70, 71, 72, 73, 74, 75, 76, 77, 78, 79, 80, 81, 82, 83, 84, 85, 86, 87, 399, 400, 401, 402, 403, 404, 405, 46, 406, 407, 408, 409, 410, 337, 411, 412, 413, 414, 234, 235, 236, 237, 166, 167, 463, 464, 465, 466, 467] (by decide +kernel) (by decide +kernel)
set_option maxRecDepth 20000 in
theorem gL_law_L_isSound : GoodIn wsL_law (va_wsS RL 111 yL_isSound wsL_isSound) := goodIn_app (goodIn_of _ (by decide +kernel)) ggL_law_L_isSound
set_option maxRecDepth 20000 in
theorem ggL_law_L_isForetold : GoodIn wsL_law wsL_isForetold := goodIn_r _ [417, 268, 269, 270, 2, 271, 12, 272, 273, 274, 11, 275, 276, 277, 27, 278, 279, 280, 281, 282, 245, 246, 247, 100, 101, 102, 103, 104, 105, 106, 107, 108, 109, 110, 111, 96, 97, 98, 99, 88, 89, 90, 91, 92, 93, 94, 95, 283, 284, 285, 286, 287, 288, 289, 290, 389, 390, 391, 392, 260, 261, 262, 263, 418, 419, 420, 421, 243, 197, 198, 199, 139, 140, 141, 142, 13, 143, 144, 145, 146, 64, 65, 66, 67, 147, 148, 149, 150, 84, 85, 86, 87, 151, 152, 153, 154, 155, 156, 157, 158, 159, 160, 161, 162, 163, 164, 165, 166, 167, 80, 81, 82, 83, 168, 169, 170, 171, 172, 173, 174, 175, 404, 405, 46, 406, 239, 240, 241, 242, 244, 407, 408, 409, 410, 337, 411, 412, 413, 414, 234, 235, 236, 237, 422, 423, 424, 425, 426, 427, 428, 429, 430, 431, 432, 433, 135, 136, 137, 138, 434, 435, 436, 437, 371, 372, 373, 374, 366, 367, 368, 369, 370, 17, 214, 215, 216, 16, 217, 31, 33, 32, 218, 219, 220, 221, 222, 223, 224, 225, 48, 49, 50, 51, 52, 53, 54, 55, 56, 57, 58, 59, 60, 61, 62, 63, 463, 464, 465, 466, 467, 468, 469, 470] (by decide +kernel) (by decide +kernel)
set_option maxRecDepth 20000 in
theorem gL_law_L_isForetold : GoodIn wsL_law (va_wsS RL 115 yL_isForetold wsL_isForetold) := goodIn_app (goodIn_of _ (by decide +kernel)) ggL_law_L_isForetold
set_option maxRecDepth 20000 in
theorem ggL_law_X3_notes : GoodIn wsL_law wsX3_notes := goodIn_r _ [441, 12, 442, 443, 444, 11, 445, 27, 463, 464, 465, 466, 467] (by decide +kernel) (by decide +kernel)
set_option maxRecDepth 20000 in
theorem gL_law_X3_notes : GoodIn wsL_law (wsV RL 118 RX3 yX3_notes wsX3_notes) := goodIn_app (goodIn_of _ (by decide +kernel)) ggL_law_X3_notes
set_option maxRecDepth 20000 in
theorem ggL_law_L_hasTarget : GoodIn wsL_law wsL_hasTarget := goodIn_r _ [406, 239, 240, 241, 2, 242, 12, 243, 197, 198, 11, 199, 27, 244, 245, 246, 247, 100, 101, 102, 103, 104, 105, 106, 107, 108, 109, 110, 111, 96, 97, 98, 99, 88, 89, 90, 91, 92, 93, 94, 95, 463, 464, 465, 466, 467] (by decide +kernel) (by decide +kernel)
set_option maxRecDepth 20000 in
theorem gL_law_L_hasTarget : GoodIn wsL_law (va_wsS RL 37 yL_hasTarget wsL_hasTarget) := goodIn_app (goodIn_of _ (by decide +kernel)) ggL_law_L_hasTarget
set_option maxRecDepth 20000 in
theorem ggL_law_X3_needs : GoodIn wsL_law wsX3_needs := goodIn_r _ [410, 12, 243, 197, 198, 11, 199, 27, 337, 85, 86, 87, 411, 412, 413, 414, 234, 235, 236, 237, 166, 2, 167, 463, 464, 465, 466, 467] (by decide +kernel) (by decide +kernel)
set_option maxRecDepth 20000 in
theorem gL_law_X3_needs : GoodIn wsL_law (wsV RL 41 RX3 yX3_needs wsX3_needs) := goodIn_app (goodIn_of _ (by decide +kernel)) ggL_law_X3_needs
set_option maxRecDepth 20000 in
theorem ggL_law_X3_override : GoodIn wsL_law wsX3_override := goodIn_r _ [449, 12, 17, 243, 197, 198, 11, 199, 27, 337, 85, 86, 87, 331, 89, 90, 91, 442, 443, 444, 445, 214, 215, 216, 16, 217, 31, 33, 32, 218, 219, 220, 221, 222, 223, 224, 225, 64, 65, 66, 67, 450, 169, 170, 171, 92, 93, 94, 95, 172, 173, 174, 175, 116, 117, 118, 119, 120, 121, 122, 123, 124, 125, 126, 127, 100, 101, 102, 103, 104, 105, 106, 107, 108, 109, 110, 111, 96, 97, 98, 99, 88, 128, 129, 130, 131, 132, 133, 134, 451, 452, 453, 454, 463, 464, 465, 466, 467, 468, 469, 470] (by decide +kernel) (by decide +kernel)
set_option maxRecDepth 20000 in
theorem gL_law_X3_override : GoodIn wsL_law (wsV RL 121 RX3 yX3_override wsX3_override) := goodIn_app (goodIn_of _ (by decide +kernel)) ggL_law_X3_override
set_option maxRecDepth 20000 in
theorem ggL_law_X3_note : GoodIn wsL_law wsX3_note := goodIn_r _ [458, 12, 442, 443, 444, 11, 445, 27, 459, 460, 461, 462, 463, 464, 465, 466, 467] (by decide +kernel) (by decide +kernel)
set_option maxRecDepth 20000 in
theorem gL_law_X3_note : GoodIn wsL_law (wsV RL 124 RX3 yX3_note wsX3_note) := goodIn_app (goodIn_of _ (by decide +kernel)) ggL_law_X3_note
set_option maxRecDepth 20000 in
theorem ggL_law_X3_time : GoodIn wsL_law wsX3_time := goodIn_r _ [437, 12, 371, 372, 373, 11, 374, 27, 463, 464, 465, 466, 467] (by decide +kernel) (by decide +kernel)
set_option maxRecDepth 20000 in
theorem gL_law_X3_time : GoodIn wsL_law (wsV RL 57 RX3 yX3_time wsX3_time) := goodIn_app (goodIn_of _ (by decide +kernel)) ggL_law_X3_time
set_option maxRecDepth 20000 in
theorem ggL_law_X3_removeArc : GoodIn wsL_law wsX3_removeArc := goodIn_r _ [322, 12, 17, 243, 197, 198, 11, 199, 27, 306, 307, 2, 308, 214, 215, 216, 16, 217, 31, 33, 32, 218, 219, 220, 221, 222, 223, 224, 225, 64, 65, 66, 67, 323, 324, 325, 326, 283, 284, 285, 286, 314, 315, 316, 317, 463, 464, 465, 466, 467, 468, 469, 470] (by decide +kernel) (by decide +kernel)
set_option maxRecDepth 20000 in
theorem gL_law_X3_removeArc : GoodIn wsL_law (wsV RL 76 RX3 yX3_removeArc wsX3_removeArc) := goodIn_app (goodIn_of _ (by decide +kernel)) ggL_law_X3_removeArc
set_option maxRecDepth 20000 in
theorem ggL_law_X3_blocker : GoodIn wsL_law wsX3_blocker := goodIn_r _ [402, 12, 243, 197, 198, 11, 199, 27, 403, 81, 82, 83, 84, 85, 86, 87, 88, 89, 90, 91, 92, 93, 94, 95, 96, 97, 98, 99, 100, 101, 102, 103, 104, 105, 106, 107, 108, 109, 110, 111, 463, 464, 465, 466, 467] (by decide +kernel) (by decide +kernel)
set_option maxRecDepth 20000 in
theorem gL_law_X3_blocker : GoodIn wsL_law (wsV RL 34 RX3 yX3_blocker wsX3_blocker) := goodIn_app (goodIn_of _ (by decide +kernel)) ggL_law_X3_blocker
set_option maxRecDepth 20000 in
theorem ggL_law_X3_done : GoodIn wsL_law wsX3_done := goodIn_r _ [421, 12, 243, 197, 198, 11, 199, 27, 139, 140, 141, 2, 142, 13, 143, 144, 145, 146, 64, 65, 66, 67, 147, 148, 149, 150, 84, 85, 86, 87, 151, 152, 153, 154, 155, 156, 157, 158, 104, 105, 106, 107, 159, 160, 161, 162, 163, 164, 165, 166, 167, 80, 81, 82, 83, 88, 89, 90, 91, 92, 93, 94, 95, 96, 97, 98, 99, 100, 101, 102, 103, 108, 109, 110, 111, 168, 169, 170, 171, 172, 173, 174, 175, 463, 464, 465, 466, 467] (by decide +kernel) (by decide +kernel)
set_option maxRecDepth 20000 in
theorem gL_law_X3_done : GoodIn wsL_law (wsV RL 48 RX3 yX3_done wsX3_done) := goodIn_app (goodIn_of _ (by decide +kernel)) ggL_law_X3_done
set_option maxRecDepth 20000 in
theorem ggL_law_X3_waits : GoodIn wsL_law wsX3_waits := goodIn_r _ [425, 12, 243, 197, 198, 11, 199, 27, 426, 427, 428, 2, 429, 13, 143, 144, 145, 146, 64, 65, 66, 67, 430, 431, 432, 433, 151, 152, 153, 154, 155, 156, 157, 158, 104, 105, 106, 107, 159, 160, 161, 162, 163, 164, 165, 166, 167, 84, 85, 86, 87, 80, 81, 82, 83, 88, 89, 90, 91, 92, 93, 94, 95, 96, 97, 98, 99, 100, 101, 102, 103, 108, 109, 110, 111, 168, 169, 170, 171, 172, 173, 174, 175, 463, 464, 465, 466, 467] (by decide +kernel) (by decide +kernel)
set_option maxRecDepth 20000 in
theorem gL_law_X3_waits : GoodIn wsL_law (wsV RL 51 RX3 yX3_waits wsX3_waits) := goodIn_app (goodIn_of _ (by decide +kernel)) ggL_law_X3_waits
set_option maxRecDepth 20000 in
theorem ggL_law_X3_setWind : GoodIn wsL_law wsX3_setWind := goodIn_r _ [361, 17, 12, 256, 212, 2, 213, 214, 215, 216, 16, 217, 31, 33, 32, 218, 219, 220, 221, 222, 223, 224, 11, 225, 27, 64, 65, 66, 67, 362, 363, 364, 365, 463, 464, 465, 466, 468, 469, 470, 467] (by decide +kernel) (by decide +kernel)
set_option maxRecDepth 20000 in
theorem gL_law_X3_setWind : GoodIn wsL_law (wsV RL 89 RX3 yX3_setWind wsX3_setWind) := goodIn_app (goodIn_of _ (by decide +kernel)) ggL_law_X3_setWind
set_option maxRecDepth 20000 in
theorem ggL_law_X3_tick : GoodIn wsL_law wsX3_tick := goodIn_r _ [369, 12, 370, 17, 371, 372, 373, 11, 374, 27, 214, 215, 216, 16, 217, 31, 33, 32, 218, 219, 220, 221, 222, 223, 224, 225, 64, 65, 66, 67, 151, 152, 153, 154, 155, 156, 157, 158, 104, 105, 106, 107, 159, 160, 161, 162, 163, 2, 164, 165, 166, 167, 84, 85, 86, 87, 80, 81, 82, 83, 88, 89, 90, 91, 92, 93, 94, 95, 96, 97, 98, 99, 100, 101, 102, 103, 108, 109, 110, 111, 168, 169, 170, 171, 172, 173, 174, 175, 463, 464, 465, 466, 467, 468, 469, 470] (by decide +kernel) (by decide +kernel)
set_option maxRecDepth 20000 in
theorem gL_law_X3_tick : GoodIn wsL_law (wsV RL 60 RX3 yX3_tick wsX3_tick) := goodIn_app (goodIn_of _ (by decide +kernel)) ggL_law_X3_tick
set_option maxRecDepth 20000 in
theorem ggL_law_X3_leave : GoodIn wsL_law wsX3_leave := goodIn_r _ [345, 12, 17, 243, 197, 198, 11, 199, 27, 309, 105, 106, 107, 346, 347, 348, 349, 108, 109, 110, 111, 100, 101, 102, 103, 104, 96, 97, 98, 99, 88, 89, 90, 91, 92, 93, 94, 95, 214, 215, 216, 16, 217, 31, 33, 32, 218, 219, 220, 221, 222, 223, 224, 225, 64, 65, 66, 67, 350, 351, 352, 353, 172, 173, 174, 175, 354, 355, 356, 357, 463, 464, 465, 466, 467, 468, 469, 470] (by decide +kernel) (by decide +kernel)
set_option maxRecDepth 20000 in
theorem gL_law_X3_leave : GoodIn wsL_law (wsV RL 85 RX3 yX3_leave wsX3_leave) := goodIn_app (goodIn_of _ (by decide +kernel)) ggL_law_X3_leave
set_option maxRecDepth 20000 in
theorem ggL_law_X3_slew : GoodIn wsL_law wsX3_slew := goodIn_r _ [378, 12, 17, 243, 197, 198, 11, 199, 27, 256, 212, 2, 213, 379, 201, 202, 203, 88, 89, 90, 91, 104, 105, 106, 107, 214, 215, 216, 16, 217, 31, 33, 32, 218, 219, 220, 221, 222, 223, 224, 225, 64, 65, 66, 67, 380, 231, 232, 233, 172, 173, 174, 175, 163, 164, 165, 166, 167, 234, 235, 236, 237, 463, 464, 465, 466, 467, 468, 469, 470] (by decide +kernel) (by decide +kernel)
set_option maxRecDepth 20000 in
theorem gL_law_X3_slew : GoodIn wsL_law (wsV RL 92 RX3 yX3_slew wsX3_slew) := goodIn_app (goodIn_of _ (by decide +kernel)) ggL_law_X3_slew
set_option maxRecDepth 20000 in
theorem ggL_law_X3_setArc : GoodIn wsL_law wsX3_setArc := goodIn_r _ [305, 12, 17, 243, 197, 198, 11, 199, 27, 306, 307, 2, 308, 256, 212, 213, 309, 105, 106, 107, 310, 311, 312, 313, 13, 143, 144, 145, 146, 64, 65, 66, 67, 314, 315, 316, 317, 318, 121, 122, 123, 124, 125, 126, 127, 100, 101, 102, 103, 104, 108, 109, 110, 111, 96, 97, 98, 99, 88, 89, 90, 91, 92, 93, 94, 95, 128, 129, 130, 131, 132, 133, 134, 214, 215, 216, 16, 217, 31, 33, 32, 218, 219, 220, 221, 222, 223, 224, 225, 165, 166, 167, 463, 464, 465, 466, 467, 468, 469, 470] (by decide +kernel) (by decide +kernel)
set_option maxRecDepth 20000 in
theorem gL_law_X3_setArc : GoodIn wsL_law (wsV RL 72 RX3 yX3_setArc wsX3_setArc) := goodIn_app (goodIn_of _ (by decide +kernel)) ggL_law_X3_setArc
theorem dL_law_0 : decode cL_law 0 = .ok (.new 9, 3) := by decide +kernel
theorem dL_law_3 : decode cL_law 3 = .ok (.dup, 1) := by decide +kernel
theorem dL_law_4 : decode cL_law 4 = .ok (.invokespecial 96, 3) := by decide +kernel
theorem dL_law_7 : decode cL_law 7 = .ok (.astore_n 1, 1) := by decide +kernel
theorem dL_law_8 : decode cL_law 8 = .ok (.aload_n 0, 1) := by decide +kernel
theorem dL_law_9 : decode cL_law 9 = .ok (.iconst 0, 1) := by decide +kernel
theorem dL_law_10 : decode cL_law 10 = .ok (.invokestatic 97, 3) := by decide +kernel
theorem dL_law_13 : decode cL_law 13 = .ok (.istore_n 2, 1) := by decide +kernel
theorem dL_law_14 : decode cL_law 14 = .ok (.aload_n 1, 1) := by decide +kernel
theorem dL_law_15 : decode cL_law 15 = .ok (.invokevirtual 63, 3) := by decide +kernel
theorem dL_law_18 : decode cL_law 18 = .ok (.bipush (-103), 2) := by decide +kernel
theorem dL_law_20 : decode cL_law 20 = .ok (.if_icmp .ne 44, 3) := by decide +kernel
theorem dL_law_23 : decode cL_law 23 = .ok (.aload_n 1, 1) := by decide +kernel
theorem dL_law_24 : decode cL_law 24 = .ok (.invokevirtual 31, 3) := by decide +kernel
theorem dL_law_27 : decode cL_law 27 = .ok (.ifCond .ne 37, 3) := by decide +kernel
theorem dL_law_30 : decode cL_law 30 = .ok (.aload_n 1, 1) := by decide +kernel
theorem dL_law_31 : decode cL_law 31 = .ok (.invokevirtual 28, 3) := by decide +kernel
theorem dL_law_34 : decode cL_law 34 = .ok (.ifCond .ne 30, 3) := by decide +kernel
theorem dL_law_37 : decode cL_law 37 = .ok (.aload_n 1, 1) := by decide +kernel
theorem dL_law_38 : decode cL_law 38 = .ok (.invokevirtual 54, 3) := by decide +kernel
theorem dL_law_41 : decode cL_law 41 = .ok (.ifCond .ne 23, 3) := by decide +kernel
theorem dL_law_44 : decode cL_law 44 = .ok (.aload_n 1, 1) := by decide +kernel
theorem dL_law_45 : decode cL_law 45 = .ok (.invokevirtual 101, 3) := by decide +kernel
theorem dL_law_48 : decode cL_law 48 = .ok (.bipush (-103), 2) := by decide +kernel
theorem dL_law_50 : decode cL_law 50 = .ok (.if_icmp .ne 14, 3) := by decide +kernel
theorem dL_law_53 : decode cL_law 53 = .ok (.aload_n 1, 1) := by decide +kernel
theorem dL_law_54 : decode cL_law 54 = .ok (.iconst 0, 1) := by decide +kernel
theorem dL_law_55 : decode cL_law 55 = .ok (.iconst 0, 1) := by decide +kernel
theorem dL_law_56 : decode cL_law 56 = .ok (.invokevirtual 8, 3) := by decide +kernel
theorem dL_law_59 : decode cL_law 59 = .ok (.bipush (-101), 2) := by decide +kernel
theorem dL_law_61 : decode cL_law 61 = .ok (.if_icmp .eq 5, 3) := by decide +kernel
theorem dL_law_64 : decode cL_law 64 = .ok (.iconst 0, 1) := by decide +kernel
theorem dL_law_65 : decode cL_law 65 = .ok (.ireturn, 1) := by decide +kernel
theorem dL_law_66 : decode cL_law 66 = .ok (.iconst 2, 1) := by decide +kernel
theorem dL_law_67 : decode cL_law 67 = .ok (.iload_n 2, 1) := by decide +kernel
theorem dL_law_68 : decode cL_law 68 = .ok (.iconst 3, 1) := by decide +kernel
theorem dL_law_69 : decode cL_law 69 = .ok (.invokestatic 66, 3) := by decide +kernel
theorem dL_law_72 : decode cL_law 72 = .ok (.iadd, 1) := by decide +kernel
theorem dL_law_73 : decode cL_law 73 = .ok (.istore_n 3, 1) := by decide +kernel
theorem dL_law_74 : decode cL_law 74 = .ok (.iconst 0, 1) := by decide +kernel
theorem dL_law_75 : decode cL_law 75 = .ok (.istore 4, 2) := by decide +kernel
theorem dL_law_77 : decode cL_law 77 = .ok (.iload 4, 2) := by decide +kernel
theorem dL_law_79 : decode cL_law 79 = .ok (.iload_n 3, 1) := by decide +kernel
theorem dL_law_80 : decode cL_law 80 = .ok (.if_icmp .ge 58, 3) := by decide +kernel
theorem dL_law_83 : decode cL_law 83 = .ok (.aload_n 0, 1) := by decide +kernel
theorem dL_law_84 : decode cL_law 84 = .ok (.iconst 1, 1) := by decide +kernel
theorem dL_law_85 : decode cL_law 85 = .ok (.iload 4, 2) := by decide +kernel
theorem dL_law_87 : decode cL_law 87 = .ok (.iadd, 1) := by decide +kernel
theorem dL_law_88 : decode cL_law 88 = .ok (.invokestatic 97, 3) := by decide +kernel
theorem dL_law_91 : decode cL_law 91 = .ok (.istore 5, 2) := by decide +kernel
theorem dL_law_93 : decode cL_law 93 = .ok (.aload_n 1, 1) := by decide +kernel
theorem dL_law_94 : decode cL_law 94 = .ok (.iload 5, 2) := by decide +kernel
theorem dL_law_96 : decode cL_law 96 = .ok (.bipush 36, 2) := by decide +kernel
theorem dL_law_98 : decode cL_law 98 = .ok (.invokestatic 66, 3) := by decide +kernel
theorem dL_law_101 : decode cL_law 101 = .ok (.iconst 1, 1) := by decide +kernel
theorem dL_law_102 : decode cL_law 102 = .ok (.iload 5, 2) := by decide +kernel
theorem dL_law_104 : decode cL_law 104 = .ok (.bipush 6, 2) := by decide +kernel
theorem dL_law_106 : decode cL_law 106 = .ok (.ishr, 1) := by decide +kernel
theorem dL_law_107 : decode cL_law 107 = .ok (.iconst 5, 1) := by decide +kernel
theorem dL_law_108 : decode cL_law 108 = .ok (.invokestatic 66, 3) := by decide +kernel
theorem dL_law_111 : decode cL_law 111 = .ok (.iadd, 1) := by decide +kernel
theorem dL_law_112 : decode cL_law 112 = .ok (.iload 5, 2) := by decide +kernel
theorem dL_law_114 : decode cL_law 114 = .ok (.bipush 9, 2) := by decide +kernel
theorem dL_law_116 : decode cL_law 116 = .ok (.ishr, 1) := by decide +kernel
theorem dL_law_117 : decode cL_law 117 = .ok (.bipush 10, 2) := by decide +kernel
theorem dL_law_119 : decode cL_law 119 = .ok (.invokestatic 66, 3) := by decide +kernel
theorem dL_law_122 : decode cL_law 122 = .ok (.invokevirtual 104, 3) := by decide +kernel
theorem dL_law_125 : decode cL_law 125 = .ok (.iload 4, 2) := by decide +kernel
theorem dL_law_127 : decode cL_law 127 = .ok (.if_icmp .eq 5, 3) := by decide +kernel
theorem dL_law_130 : decode cL_law 130 = .ok (.iconst 0, 1) := by decide +kernel
theorem dL_law_131 : decode cL_law 131 = .ok (.ireturn, 1) := by decide +kernel
theorem dL_law_132 : decode cL_law 132 = .ok (.iinc 4 1, 3) := by decide +kernel
theorem dL_law_135 : decode cL_law 135 = .ok (.goto (-58), 3) := by decide +kernel
theorem dL_law_138 : decode cL_law 138 = .ok (.iconst 0, 1) := by decide +kernel
theorem dL_law_139 : decode cL_law 139 = .ok (.istore 4, 2) := by decide +kernel
theorem dL_law_141 : decode cL_law 141 = .ok (.iload 4, 2) := by decide +kernel
theorem dL_law_143 : decode cL_law 143 = .ok (.bipush 22, 2) := by decide +kernel
theorem dL_law_145 : decode cL_law 145 = .ok (.if_icmp .ge 124, 3) := by decide +kernel
theorem dL_law_148 : decode cL_law 148 = .ok (.aload_n 0, 1) := by decide +kernel
theorem dL_law_149 : decode cL_law 149 = .ok (.iconst 5, 1) := by decide +kernel
theorem dL_law_150 : decode cL_law 150 = .ok (.iload 4, 2) := by decide +kernel
theorem dL_law_152 : decode cL_law 152 = .ok (.iadd, 1) := by decide +kernel
theorem dL_law_153 : decode cL_law 153 = .ok (.invokestatic 97, 3) := by decide +kernel
theorem dL_law_156 : decode cL_law 156 = .ok (.istore 5, 2) := by decide +kernel
theorem dL_law_158 : decode cL_law 158 = .ok (.aload_n 1, 1) := by decide +kernel
theorem dL_law_159 : decode cL_law 159 = .ok (.invokevirtual 44, 3) := by decide +kernel
theorem dL_law_162 : decode cL_law 162 = .ok (.lstore 6, 2) := by decide +kernel
theorem dL_law_164 : decode cL_law 164 = .ok (.aload_n 1, 1) := by decide +kernel
theorem dL_law_165 : decode cL_law 165 = .ok (.iload 5, 2) := by decide +kernel
theorem dL_law_167 : decode cL_law 167 = .ok (.invokestatic 107, 3) := by decide +kernel
theorem dL_law_170 : decode cL_law 170 = .ok (.istore 8, 2) := by decide +kernel
theorem dL_law_172 : decode cL_law 172 = .ok (.iload 8, 2) := by decide +kernel
theorem dL_law_174 : decode cL_law 174 = .ok (.bipush (-100), 2) := by decide +kernel
theorem dL_law_176 : decode cL_law 176 = .ok (.if_icmp .ge 15, 3) := by decide +kernel
theorem dL_law_179 : decode cL_law 179 = .ok (.aload_n 1, 1) := by decide +kernel
theorem dL_law_180 : decode cL_law 180 = .ok (.invokevirtual 44, 3) := by decide +kernel
theorem dL_law_183 : decode cL_law 183 = .ok (.lload 6, 2) := by decide +kernel
theorem dL_law_185 : decode cL_law 185 = .ok (.lcmp, 1) := by decide +kernel
theorem dL_law_186 : decode cL_law 186 = .ok (.ifCond .eq 5, 3) := by decide +kernel
theorem dL_law_189 : decode cL_law 189 = .ok (.iconst 0, 1) := by decide +kernel
theorem dL_law_190 : decode cL_law 190 = .ok (.ireturn, 1) := by decide +kernel
theorem dL_law_191 : decode cL_law 191 = .ok (.iload 8, 2) := by decide +kernel
theorem dL_law_193 : decode cL_law 193 = .ok (.bipush (-100), 2) := by decide +kernel
theorem dL_law_195 : decode cL_law 195 = .ok (.if_icmp .lt 32, 3) := by decide +kernel
theorem dL_law_198 : decode cL_law 198 = .ok (.iload 5, 2) := by decide +kernel
theorem dL_law_200 : decode cL_law 200 = .ok (.bipush 27, 2) := by decide +kernel
theorem dL_law_202 : decode cL_law 202 = .ok (.ishr, 1) := by decide +kernel
theorem dL_law_203 : decode cL_law 203 = .ok (.iconst 3, 1) := by decide +kernel
theorem dL_law_204 : decode cL_law 204 = .ok (.iand, 1) := by decide +kernel
theorem dL_law_205 : decode cL_law 205 = .ok (.ifCond .ne 22, 3) := by decide +kernel
theorem dL_law_208 : decode cL_law 208 = .ok (.aload_n 1, 1) := by decide +kernel
theorem dL_law_209 : decode cL_law 209 = .ok (.invokevirtual 63, 3) := by decide +kernel
theorem dL_law_212 : decode cL_law 212 = .ok (.ifCond .lt 13, 3) := by decide +kernel
theorem dL_law_215 : decode cL_law 215 = .ok (.aload_n 1, 1) := by decide +kernel
theorem dL_law_216 : decode cL_law 216 = .ok (.invokevirtual 44, 3) := by decide +kernel
theorem dL_law_219 : decode cL_law 219 = .ok (.lload 6, 2) := by decide +kernel
theorem dL_law_221 : decode cL_law 221 = .ok (.lcmp, 1) := by decide +kernel
theorem dL_law_222 : decode cL_law 222 = .ok (.ifCond .eq 5, 3) := by decide +kernel
theorem dL_law_225 : decode cL_law 225 = .ok (.iconst 0, 1) := by decide +kernel
theorem dL_law_226 : decode cL_law 226 = .ok (.ireturn, 1) := by decide +kernel
theorem dL_law_227 : decode cL_law 227 = .ok (.aload_n 1, 1) := by decide +kernel
theorem dL_law_228 : decode cL_law 228 = .ok (.iconst 0, 1) := by decide +kernel
theorem dL_law_229 : decode cL_law 229 = .ok (.invokestatic 111, 3) := by decide +kernel
theorem dL_law_232 : decode cL_law 232 = .ok (.ifCond .eq 29, 3) := by decide +kernel
theorem dL_law_235 : decode cL_law 235 = .ok (.iload 4, 2) := by decide +kernel
theorem dL_law_237 : decode cL_law 237 = .ok (.iconst 5, 1) := by decide +kernel
theorem dL_law_238 : decode cL_law 238 = .ok (.irem, 1) := by decide +kernel
theorem dL_law_239 : decode cL_law 239 = .ok (.iconst 4, 1) := by decide +kernel
theorem dL_law_240 : decode cL_law 240 = .ok (.if_icmp .ne 23, 3) := by decide +kernel
theorem dL_law_243 : decode cL_law 243 = .ok (.aload_n 1, 1) := by decide +kernel
theorem dL_law_244 : decode cL_law 244 = .ok (.iconst 1, 1) := by decide +kernel
theorem dL_law_245 : decode cL_law 245 = .ok (.iload 5, 2) := by decide +kernel
theorem dL_law_247 : decode cL_law 247 = .ok (.iconst 5, 1) := by decide +kernel
theorem dL_law_248 : decode cL_law 248 = .ok (.ishr, 1) := by decide +kernel
theorem dL_law_249 : decode cL_law 249 = .ok (.bipush 40, 2) := by decide +kernel
theorem dL_law_251 : decode cL_law 251 = .ok (.invokestatic 66, 3) := by decide +kernel
theorem dL_law_254 : decode cL_law 254 = .ok (.iadd, 1) := by decide +kernel
theorem dL_law_255 : decode cL_law 255 = .ok (.invokestatic 115, 3) := by decide +kernel
theorem dL_law_258 : decode cL_law 258 = .ok (.ifCond .ne 5, 3) := by decide +kernel
theorem dL_law_261 : decode cL_law 261 = .ok (.iconst 0, 1) := by decide +kernel
theorem dL_law_262 : decode cL_law 262 = .ok (.ireturn, 1) := by decide +kernel
theorem dL_law_263 : decode cL_law 263 = .ok (.iinc 4 1, 3) := by decide +kernel
theorem dL_law_266 : decode cL_law 266 = .ok (.goto (-125), 3) := by decide +kernel
theorem dL_law_269 : decode cL_law 269 = .ok (.iconst 0, 1) := by decide +kernel
theorem dL_law_270 : decode cL_law 270 = .ok (.istore 4, 2) := by decide +kernel
theorem dL_law_272 : decode cL_law 272 = .ok (.iload 4, 2) := by decide +kernel
theorem dL_law_274 : decode cL_law 274 = .ok (.iload_n 3, 1) := by decide +kernel
theorem dL_law_275 : decode cL_law 275 = .ok (.if_icmp .ge 222, 3) := by decide +kernel
theorem dL_law_278 : decode cL_law 278 = .ok (.aload_n 1, 1) := by decide +kernel
theorem dL_law_279 : decode cL_law 279 = .ok (.invokevirtual 118, 3) := by decide +kernel
theorem dL_law_282 : decode cL_law 282 = .ok (.istore 5, 2) := by decide +kernel
theorem dL_law_284 : decode cL_law 284 = .ok (.aload_n 1, 1) := by decide +kernel
theorem dL_law_285 : decode cL_law 285 = .ok (.iload 4, 2) := by decide +kernel
theorem dL_law_287 : decode cL_law 287 = .ok (.invokestatic 37, 3) := by decide +kernel
theorem dL_law_290 : decode cL_law 290 = .ok (.ifCond .eq 17, 3) := by decide +kernel
theorem dL_law_293 : decode cL_law 293 = .ok (.aload_n 1, 1) := by decide +kernel
theorem dL_law_294 : decode cL_law 294 = .ok (.iload 4, 2) := by decide +kernel
theorem dL_law_296 : decode cL_law 296 = .ok (.iconst 5, 1) := by decide +kernel
theorem dL_law_297 : decode cL_law 297 = .ok (.invokevirtual 8, 3) := by decide +kernel
theorem dL_law_300 : decode cL_law 300 = .ok (.ifCond .ne 7, 3) := by decide +kernel
theorem dL_law_303 : decode cL_law 303 = .ok (.iconst 1, 1) := by decide +kernel
theorem dL_law_304 : decode cL_law 304 = .ok (.goto 4, 3) := by decide +kernel
theorem dL_law_307 : decode cL_law 307 = .ok (.iconst 0, 1) := by decide +kernel
theorem dL_law_308 : decode cL_law 308 = .ok (.istore 6, 2) := by decide +kernel
theorem dL_law_310 : decode cL_law 310 = .ok (.aload_n 1, 1) := by decide +kernel
theorem dL_law_311 : decode cL_law 311 = .ok (.iload 4, 2) := by decide +kernel
theorem dL_law_313 : decode cL_law 313 = .ok (.invokevirtual 41, 3) := by decide +kernel
theorem dL_law_316 : decode cL_law 316 = .ok (.istore 7, 2) := by decide +kernel
theorem dL_law_318 : decode cL_law 318 = .ok (.aload_n 1, 1) := by decide +kernel
theorem dL_law_319 : decode cL_law 319 = .ok (.iload 4, 2) := by decide +kernel
theorem dL_law_321 : decode cL_law 321 = .ok (.iconst 0, 1) := by decide +kernel
theorem dL_law_322 : decode cL_law 322 = .ok (.invokevirtual 8, 3) := by decide +kernel
theorem dL_law_325 : decode cL_law 325 = .ok (.aload_n 1, 1) := by decide +kernel
theorem dL_law_326 : decode cL_law 326 = .ok (.iload 4, 2) := by decide +kernel
theorem dL_law_328 : decode cL_law 328 = .ok (.iconst 4, 1) := by decide +kernel
theorem dL_law_329 : decode cL_law 329 = .ok (.invokevirtual 8, 3) := by decide +kernel
theorem dL_law_332 : decode cL_law 332 = .ok (.iadd, 1) := by decide +kernel
theorem dL_law_333 : decode cL_law 333 = .ok (.bipush 36, 2) := by decide +kernel
theorem dL_law_335 : decode cL_law 335 = .ok (.iadd, 1) := by decide +kernel
theorem dL_law_336 : decode cL_law 336 = .ok (.bipush 36, 2) := by decide +kernel
theorem dL_law_338 : decode cL_law 338 = .ok (.irem, 1) := by decide +kernel
theorem dL_law_339 : decode cL_law 339 = .ok (.istore 8, 2) := by decide +kernel
theorem dL_law_341 : decode cL_law 341 = .ok (.aload_n 1, 1) := by decide +kernel
theorem dL_law_342 : decode cL_law 342 = .ok (.iload 4, 2) := by decide +kernel
theorem dL_law_344 : decode cL_law 344 = .ok (.iconst 1, 1) := by decide +kernel
theorem dL_law_345 : decode cL_law 345 = .ok (.iload 4, 2) := by decide +kernel
theorem dL_law_347 : decode cL_law 347 = .ok (.iadd, 1) := by decide +kernel
theorem dL_law_348 : decode cL_law 348 = .ok (.invokevirtual 121, 3) := by decide +kernel
theorem dL_law_351 : decode cL_law 351 = .ok (.istore 9, 2) := by decide +kernel
theorem dL_law_353 : decode cL_law 353 = .ok (.iload 6, 2) := by decide +kernel
theorem dL_law_355 : decode cL_law 355 = .ok (.ifCond .ne 21, 3) := by decide +kernel
theorem dL_law_358 : decode cL_law 358 = .ok (.iload 9, 2) := by decide +kernel
theorem dL_law_360 : decode cL_law 360 = .ok (.bipush (-103), 2) := by decide +kernel
theorem dL_law_362 : decode cL_law 362 = .ok (.if_icmp .ne 12, 3) := by decide +kernel
theorem dL_law_365 : decode cL_law 365 = .ok (.aload_n 1, 1) := by decide +kernel
theorem dL_law_366 : decode cL_law 366 = .ok (.invokevirtual 118, 3) := by decide +kernel
theorem dL_law_369 : decode cL_law 369 = .ok (.iload 5, 2) := by decide +kernel
theorem dL_law_371 : decode cL_law 371 = .ok (.if_icmp .eq 110, 3) := by decide +kernel
theorem dL_law_374 : decode cL_law 374 = .ok (.iconst 0, 1) := by decide +kernel
theorem dL_law_375 : decode cL_law 375 = .ok (.ireturn, 1) := by decide +kernel
theorem dL_law_376 : decode cL_law 376 = .ok (.iload 9, 2) := by decide +kernel
theorem dL_law_378 : decode cL_law 378 = .ok (.aload_n 1, 1) := by decide +kernel
theorem dL_law_379 : decode cL_law 379 = .ok (.invokevirtual 28, 3) := by decide +kernel
theorem dL_law_382 : decode cL_law 382 = .ok (.if_icmp .ne 97, 3) := by decide +kernel
theorem dL_law_385 : decode cL_law 385 = .ok (.aload_n 1, 1) := by decide +kernel
theorem dL_law_386 : decode cL_law 386 = .ok (.iload 4, 2) := by decide +kernel
theorem dL_law_388 : decode cL_law 388 = .ok (.iconst 0, 1) := by decide +kernel
theorem dL_law_389 : decode cL_law 389 = .ok (.invokevirtual 8, 3) := by decide +kernel
theorem dL_law_392 : decode cL_law 392 = .ok (.iload 8, 2) := by decide +kernel
theorem dL_law_394 : decode cL_law 394 = .ok (.if_icmp .ne 85, 3) := by decide +kernel
theorem dL_law_397 : decode cL_law 397 = .ok (.aload_n 1, 1) := by decide +kernel
theorem dL_law_398 : decode cL_law 398 = .ok (.iload 4, 2) := by decide +kernel
theorem dL_law_400 : decode cL_law 400 = .ok (.invokevirtual 41, 3) := by decide +kernel
theorem dL_law_403 : decode cL_law 403 = .ok (.iload 7, 2) := by decide +kernel
theorem dL_law_405 : decode cL_law 405 = .ok (.aload_n 1, 1) := by decide +kernel
theorem dL_law_406 : decode cL_law 406 = .ok (.iload 4, 2) := by decide +kernel
theorem dL_law_408 : decode cL_law 408 = .ok (.iconst 1, 1) := by decide +kernel
theorem dL_law_409 : decode cL_law 409 = .ok (.invokevirtual 8, 3) := by decide +kernel
theorem dL_law_412 : decode cL_law 412 = .ok (.isub, 1) := by decide +kernel
theorem dL_law_413 : decode cL_law 413 = .ok (.if_icmp .ne 66, 3) := by decide +kernel
theorem dL_law_416 : decode cL_law 416 = .ok (.aload_n 1, 1) := by decide +kernel
theorem dL_law_417 : decode cL_law 417 = .ok (.invokevirtual 118, 3) := by decide +kernel
theorem dL_law_420 : decode cL_law 420 = .ok (.iload 5, 2) := by decide +kernel
theorem dL_law_422 : decode cL_law 422 = .ok (.iconst 1, 1) := by decide +kernel
theorem dL_law_423 : decode cL_law 423 = .ok (.iadd, 1) := by decide +kernel
theorem dL_law_424 : decode cL_law 424 = .ok (.if_icmp .ne 55, 3) := by decide +kernel
theorem dL_law_427 : decode cL_law 427 = .ok (.aload_n 1, 1) := by decide +kernel
theorem dL_law_428 : decode cL_law 428 = .ok (.iload 5, 2) := by decide +kernel
theorem dL_law_430 : decode cL_law 430 = .ok (.iconst 0, 1) := by decide +kernel
theorem dL_law_431 : decode cL_law 431 = .ok (.invokevirtual 124, 3) := by decide +kernel
theorem dL_law_434 : decode cL_law 434 = .ok (.aload_n 1, 1) := by decide +kernel
theorem dL_law_435 : decode cL_law 435 = .ok (.invokevirtual 57, 3) := by decide +kernel
theorem dL_law_438 : decode cL_law 438 = .ok (.if_icmp .ne 41, 3) := by decide +kernel
theorem dL_law_441 : decode cL_law 441 = .ok (.aload_n 1, 1) := by decide +kernel
theorem dL_law_442 : decode cL_law 442 = .ok (.iload 5, 2) := by decide +kernel
theorem dL_law_444 : decode cL_law 444 = .ok (.iconst 1, 1) := by decide +kernel
theorem dL_law_445 : decode cL_law 445 = .ok (.invokevirtual 124, 3) := by decide +kernel
theorem dL_law_448 : decode cL_law 448 = .ok (.iload 4, 2) := by decide +kernel
theorem dL_law_450 : decode cL_law 450 = .ok (.if_icmp .ne 29, 3) := by decide +kernel
theorem dL_law_453 : decode cL_law 453 = .ok (.aload_n 1, 1) := by decide +kernel
theorem dL_law_454 : decode cL_law 454 = .ok (.iload 5, 2) := by decide +kernel
theorem dL_law_456 : decode cL_law 456 = .ok (.iconst 2, 1) := by decide +kernel
theorem dL_law_457 : decode cL_law 457 = .ok (.invokevirtual 124, 3) := by decide +kernel
theorem dL_law_460 : decode cL_law 460 = .ok (.iconst 1, 1) := by decide +kernel
theorem dL_law_461 : decode cL_law 461 = .ok (.iload 4, 2) := by decide +kernel
theorem dL_law_463 : decode cL_law 463 = .ok (.iadd, 1) := by decide +kernel
theorem dL_law_464 : decode cL_law 464 = .ok (.if_icmp .ne 15, 3) := by decide +kernel
theorem dL_law_467 : decode cL_law 467 = .ok (.aload_n 1, 1) := by decide +kernel
theorem dL_law_468 : decode cL_law 468 = .ok (.iload 5, 2) := by decide +kernel
theorem dL_law_470 : decode cL_law 470 = .ok (.iconst 3, 1) := by decide +kernel
theorem dL_law_471 : decode cL_law 471 = .ok (.invokevirtual 124, 3) := by decide +kernel
theorem dL_law_474 : decode cL_law 474 = .ok (.iload 9, 2) := by decide +kernel
theorem dL_law_476 : decode cL_law 476 = .ok (.if_icmp .eq 5, 3) := by decide +kernel
theorem dL_law_479 : decode cL_law 479 = .ok (.iconst 0, 1) := by decide +kernel
theorem dL_law_480 : decode cL_law 480 = .ok (.ireturn, 1) := by decide +kernel
theorem dL_law_481 : decode cL_law 481 = .ok (.aload_n 1, 1) := by decide +kernel
theorem dL_law_482 : decode cL_law 482 = .ok (.iconst 1, 1) := by decide +kernel
theorem dL_law_483 : decode cL_law 483 = .ok (.invokestatic 111, 3) := by decide +kernel
theorem dL_law_486 : decode cL_law 486 = .ok (.ifCond .ne 5, 3) := by decide +kernel
theorem dL_law_489 : decode cL_law 489 = .ok (.iconst 0, 1) := by decide +kernel
theorem dL_law_490 : decode cL_law 490 = .ok (.ireturn, 1) := by decide +kernel
theorem dL_law_491 : decode cL_law 491 = .ok (.iinc 4 1, 3) := by decide +kernel
theorem dL_law_494 : decode cL_law 494 = .ok (.goto (-222), 3) := by decide +kernel
theorem dL_law_497 : decode cL_law 497 = .ok (.iconst 0, 1) := by decide +kernel
theorem dL_law_498 : decode cL_law 498 = .ok (.istore 4, 2) := by decide +kernel
theorem dL_law_500 : decode cL_law 500 = .ok (.iload 4, 2) := by decide +kernel
theorem dL_law_502 : decode cL_law 502 = .ok (.iload_n 3, 1) := by decide +kernel
theorem dL_law_503 : decode cL_law 503 = .ok (.if_icmp .ge 34, 3) := by decide +kernel
theorem dL_law_506 : decode cL_law 506 = .ok (.iconst 0, 1) := by decide +kernel
theorem dL_law_507 : decode cL_law 507 = .ok (.istore 5, 2) := by decide +kernel
theorem dL_law_509 : decode cL_law 509 = .ok (.iload 5, 2) := by decide +kernel
theorem dL_law_511 : decode cL_law 511 = .ok (.bipush 6, 2) := by decide +kernel
theorem dL_law_513 : decode cL_law 513 = .ok (.if_icmp .ge 18, 3) := by decide +kernel
theorem dL_law_516 : decode cL_law 516 = .ok (.aload_n 1, 1) := by decide +kernel
theorem dL_law_517 : decode cL_law 517 = .ok (.iload 4, 2) := by decide +kernel
theorem dL_law_519 : decode cL_law 519 = .ok (.iload 5, 2) := by decide +kernel
theorem dL_law_521 : decode cL_law 521 = .ok (.invokevirtual 76, 3) := by decide +kernel
theorem dL_law_524 : decode cL_law 524 = .ok (.pop, 1) := by decide +kernel
theorem dL_law_525 : decode cL_law 525 = .ok (.iinc 5 1, 3) := by decide +kernel
theorem dL_law_528 : decode cL_law 528 = .ok (.goto (-19), 3) := by decide +kernel
theorem dL_law_531 : decode cL_law 531 = .ok (.iinc 4 1, 3) := by decide +kernel
theorem dL_law_534 : decode cL_law 534 = .ok (.goto (-34), 3) := by decide +kernel
theorem dL_law_537 : decode cL_law 537 = .ok (.iconst 0, 1) := by decide +kernel
theorem dL_law_538 : decode cL_law 538 = .ok (.istore 4, 2) := by decide +kernel
theorem dL_law_540 : decode cL_law 540 = .ok (.iload 4, 2) := by decide +kernel
theorem dL_law_542 : decode cL_law 542 = .ok (.iload_n 3, 1) := by decide +kernel
theorem dL_law_543 : decode cL_law 543 = .ok (.if_icmp .ge 48, 3) := by decide +kernel
theorem dL_law_546 : decode cL_law 546 = .ok (.aload_n 1, 1) := by decide +kernel
theorem dL_law_547 : decode cL_law 547 = .ok (.iload 4, 2) := by decide +kernel
theorem dL_law_549 : decode cL_law 549 = .ok (.invokevirtual 34, 3) := by decide +kernel
theorem dL_law_552 : decode cL_law 552 = .ok (.bipush (-100), 2) := by decide +kernel
theorem dL_law_554 : decode cL_law 554 = .ok (.if_icmp .ne 29, 3) := by decide +kernel
theorem dL_law_557 : decode cL_law 557 = .ok (.aload_n 1, 1) := by decide +kernel
theorem dL_law_558 : decode cL_law 558 = .ok (.iload 4, 2) := by decide +kernel
theorem dL_law_560 : decode cL_law 560 = .ok (.invokevirtual 48, 3) := by decide +kernel
theorem dL_law_563 : decode cL_law 563 = .ok (.aload_n 1, 1) := by decide +kernel
theorem dL_law_564 : decode cL_law 564 = .ok (.iload 4, 2) := by decide +kernel
theorem dL_law_566 : decode cL_law 566 = .ok (.invokevirtual 41, 3) := by decide +kernel
theorem dL_law_569 : decode cL_law 569 = .ok (.if_icmp .ne 14, 3) := by decide +kernel
theorem dL_law_572 : decode cL_law 572 = .ok (.aload_n 1, 1) := by decide +kernel
theorem dL_law_573 : decode cL_law 573 = .ok (.iload 4, 2) := by decide +kernel
theorem dL_law_575 : decode cL_law 575 = .ok (.bipush 50, 2) := by decide +kernel
theorem dL_law_577 : decode cL_law 577 = .ok (.invokevirtual 51, 3) := by decide +kernel
theorem dL_law_580 : decode cL_law 580 = .ok (.ifCond .eq 5, 3) := by decide +kernel
theorem dL_law_583 : decode cL_law 583 = .ok (.iconst 0, 1) := by decide +kernel
theorem dL_law_584 : decode cL_law 584 = .ok (.ireturn, 1) := by decide +kernel
theorem dL_law_585 : decode cL_law 585 = .ok (.iinc 4 1, 3) := by decide +kernel
theorem dL_law_588 : decode cL_law 588 = .ok (.goto (-48), 3) := by decide +kernel
theorem dL_law_591 : decode cL_law 591 = .ok (.iload_n 2, 1) := by decide +kernel
theorem dL_law_592 : decode cL_law 592 = .ok (.iconst 4, 1) := by decide +kernel
theorem dL_law_593 : decode cL_law 593 = .ok (.ishr, 1) := by decide +kernel
theorem dL_law_594 : decode cL_law 594 = .ok (.bipush 36, 2) := by decide +kernel
theorem dL_law_596 : decode cL_law 596 = .ok (.invokestatic 66, 3) := by decide +kernel
theorem dL_law_599 : decode cL_law 599 = .ok (.istore 4, 2) := by decide +kernel
theorem dL_law_601 : decode cL_law 601 = .ok (.aload_n 1, 1) := by decide +kernel
theorem dL_law_602 : decode cL_law 602 = .ok (.iload 4, 2) := by decide +kernel
theorem dL_law_604 : decode cL_law 604 = .ok (.invokevirtual 89, 3) := by decide +kernel
theorem dL_law_607 : decode cL_law 607 = .ok (.pop, 1) := by decide +kernel
theorem dL_law_608 : decode cL_law 608 = .ok (.aload_n 1, 1) := by decide +kernel
theorem dL_law_609 : decode cL_law 609 = .ok (.sipush 175, 3) := by decide +kernel
theorem dL_law_612 : decode cL_law 612 = .ok (.invokevirtual 60, 3) := by decide +kernel
theorem dL_law_615 : decode cL_law 615 = .ok (.sipush 175, 3) := by decide +kernel
theorem dL_law_618 : decode cL_law 618 = .ok (.if_icmp .lt 10, 3) := by decide +kernel
theorem dL_law_621 : decode cL_law 621 = .ok (.aload_n 1, 1) := by decide +kernel
theorem dL_law_622 : decode cL_law 622 = .ok (.invokevirtual 54, 3) := by decide +kernel
theorem dL_law_625 : decode cL_law 625 = .ok (.ifCond .eq 5, 3) := by decide +kernel
theorem dL_law_628 : decode cL_law 628 = .ok (.iconst 0, 1) := by decide +kernel
theorem dL_law_629 : decode cL_law 629 = .ok (.ireturn, 1) := by decide +kernel
theorem dL_law_630 : decode cL_law 630 = .ok (.iconst 0, 1) := by decide +kernel
theorem dL_law_631 : decode cL_law 631 = .ok (.istore 5, 2) := by decide +kernel
theorem dL_law_633 : decode cL_law 633 = .ok (.iload 5, 2) := by decide +kernel
theorem dL_law_635 : decode cL_law 635 = .ok (.iload_n 3, 1) := by decide +kernel
theorem dL_law_636 : decode cL_law 636 = .ok (.if_icmp .ge 32, 3) := by decide +kernel
theorem dL_law_639 : decode cL_law 639 = .ok (.aload_n 1, 1) := by decide +kernel
theorem dL_law_640 : decode cL_law 640 = .ok (.iload 5, 2) := by decide +kernel
theorem dL_law_642 : decode cL_law 642 = .ok (.iconst 1, 1) := by decide +kernel
theorem dL_law_643 : decode cL_law 643 = .ok (.invokevirtual 85, 3) := by decide +kernel
theorem dL_law_646 : decode cL_law 646 = .ok (.ifCond .lt 14, 3) := by decide +kernel
theorem dL_law_649 : decode cL_law 649 = .ok (.aload_n 1, 1) := by decide +kernel
theorem dL_law_650 : decode cL_law 650 = .ok (.iload 5, 2) := by decide +kernel
theorem dL_law_652 : decode cL_law 652 = .ok (.iconst 1, 1) := by decide +kernel
theorem dL_law_653 : decode cL_law 653 = .ok (.invokevirtual 85, 3) := by decide +kernel
theorem dL_law_656 : decode cL_law 656 = .ok (.iconst 1, 1) := by decide +kernel
theorem dL_law_657 : decode cL_law 657 = .ok (.if_icmp .eq 5, 3) := by decide +kernel
theorem dL_law_660 : decode cL_law 660 = .ok (.iconst 0, 1) := by decide +kernel
theorem dL_law_661 : decode cL_law 661 = .ok (.ireturn, 1) := by decide +kernel
theorem dL_law_662 : decode cL_law 662 = .ok (.iinc 5 1, 3) := by decide +kernel
theorem dL_law_665 : decode cL_law 665 = .ok (.goto (-32), 3) := by decide +kernel
theorem dL_law_668 : decode cL_law 668 = .ok (.aload_n 1, 1) := by decide +kernel
theorem dL_law_669 : decode cL_law 669 = .ok (.bipush 18, 2) := by decide +kernel
theorem dL_law_671 : decode cL_law 671 = .ok (.invokevirtual 60, 3) := by decide +kernel
theorem dL_law_674 : decode cL_law 674 = .ok (.pop, 1) := by decide +kernel
theorem dL_law_675 : decode cL_law 675 = .ok (.iconst 0, 1) := by decide +kernel
theorem dL_law_676 : decode cL_law 676 = .ok (.istore 5, 2) := by decide +kernel
theorem dL_law_678 : decode cL_law 678 = .ok (.iload 5, 2) := by decide +kernel
theorem dL_law_680 : decode cL_law 680 = .ok (.iload_n 3, 1) := by decide +kernel
theorem dL_law_681 : decode cL_law 681 = .ok (.if_icmp .ge 50, 3) := by decide +kernel
theorem dL_law_684 : decode cL_law 684 = .ok (.aload_n 1, 1) := by decide +kernel
theorem dL_law_685 : decode cL_law 685 = .ok (.iload 5, 2) := by decide +kernel
theorem dL_law_687 : decode cL_law 687 = .ok (.iconst 0, 1) := by decide +kernel
theorem dL_law_688 : decode cL_law 688 = .ok (.invokevirtual 8, 3) := by decide +kernel
theorem dL_law_691 : decode cL_law 691 = .ok (.iload 4, 2) := by decide +kernel
theorem dL_law_693 : decode cL_law 693 = .ok (.if_icmp .ne 30, 3) := by decide +kernel
theorem dL_law_696 : decode cL_law 696 = .ok (.aload_n 1, 1) := by decide +kernel
theorem dL_law_697 : decode cL_law 697 = .ok (.iload 5, 2) := by decide +kernel
theorem dL_law_699 : decode cL_law 699 = .ok (.iconst 0, 1) := by decide +kernel
theorem dL_law_700 : decode cL_law 700 = .ok (.iconst 0, 1) := by decide +kernel
theorem dL_law_701 : decode cL_law 701 = .ok (.invokevirtual 92, 3) := by decide +kernel
theorem dL_law_704 : decode cL_law 704 = .ok (.bipush (-103), 2) := by decide +kernel
theorem dL_law_706 : decode cL_law 706 = .ok (.if_icmp .ne 17, 3) := by decide +kernel
theorem dL_law_709 : decode cL_law 709 = .ok (.aload_n 1, 1) := by decide +kernel
theorem dL_law_710 : decode cL_law 710 = .ok (.iload 5, 2) := by decide +kernel
theorem dL_law_712 : decode cL_law 712 = .ok (.iconst 0, 1) := by decide +kernel
theorem dL_law_713 : decode cL_law 713 = .ok (.iconst 0, 1) := by decide +kernel
theorem dL_law_714 : decode cL_law 714 = .ok (.iconst 0, 1) := by decide +kernel
theorem dL_law_715 : decode cL_law 715 = .ok (.invokevirtual 72, 3) := by decide +kernel
theorem dL_law_718 : decode cL_law 718 = .ok (.bipush (-103), 2) := by decide +kernel
theorem dL_law_720 : decode cL_law 720 = .ok (.if_icmp .eq 5, 3) := by decide +kernel
theorem dL_law_723 : decode cL_law 723 = .ok (.iconst 0, 1) := by decide +kernel
theorem dL_law_724 : decode cL_law 724 = .ok (.ireturn, 1) := by decide +kernel
theorem dL_law_725 : decode cL_law 725 = .ok (.iinc 5 1, 3) := by decide +kernel
theorem dL_law_728 : decode cL_law 728 = .ok (.goto (-50), 3) := by decide +kernel
theorem dL_law_731 : decode cL_law 731 = .ok (.aload_n 1, 1) := by decide +kernel
theorem dL_law_732 : decode cL_law 732 = .ok (.invokevirtual 44, 3) := by decide +kernel
theorem dL_law_735 : decode cL_law 735 = .ok (.lstore 5, 2) := by decide +kernel
theorem dL_law_737 : decode cL_law 737 = .ok (.aload_n 1, 1) := by decide +kernel
theorem dL_law_738 : decode cL_law 738 = .ok (.bipush 36, 2) := by decide +kernel
theorem dL_law_740 : decode cL_law 740 = .ok (.iconst 1, 1) := by decide +kernel
theorem dL_law_741 : decode cL_law 741 = .ok (.iconst 0, 1) := by decide +kernel
theorem dL_law_742 : decode cL_law 742 = .ok (.invokevirtual 104, 3) := by decide +kernel
theorem dL_law_745 : decode cL_law 745 = .ok (.bipush (-102), 2) := by decide +kernel
theorem dL_law_747 : decode cL_law 747 = .ok (.if_icmp .ne 118, 3) := by decide +kernel
theorem dL_law_750 : decode cL_law 750 = .ok (.aload_n 1, 1) := by decide +kernel
theorem dL_law_751 : decode cL_law 751 = .ok (.iconst 0, 1) := by decide +kernel
theorem dL_law_752 : decode cL_law 752 = .ok (.bipush 6, 2) := by decide +kernel
theorem dL_law_754 : decode cL_law 754 = .ok (.iconst 0, 1) := by decide +kernel
theorem dL_law_755 : decode cL_law 755 = .ok (.iconst 0, 1) := by decide +kernel
theorem dL_law_756 : decode cL_law 756 = .ok (.invokevirtual 72, 3) := by decide +kernel
theorem dL_law_759 : decode cL_law 759 = .ok (.bipush (-101), 2) := by decide +kernel
theorem dL_law_761 : decode cL_law 761 = .ok (.if_icmp .ne 104, 3) := by decide +kernel
theorem dL_law_764 : decode cL_law 764 = .ok (.aload_n 1, 1) := by decide +kernel
theorem dL_law_765 : decode cL_law 765 = .ok (.iconst 0, 1) := by decide +kernel
theorem dL_law_766 : decode cL_law 766 = .ok (.iconst 0, 1) := by decide +kernel
theorem dL_law_767 : decode cL_law 767 = .ok (.bipush 36, 2) := by decide +kernel
theorem dL_law_769 : decode cL_law 769 = .ok (.iconst 0, 1) := by decide +kernel
theorem dL_law_770 : decode cL_law 770 = .ok (.invokevirtual 72, 3) := by decide +kernel
theorem dL_law_773 : decode cL_law 773 = .ok (.bipush (-102), 2) := by decide +kernel
theorem dL_law_775 : decode cL_law 775 = .ok (.if_icmp .ne 90, 3) := by decide +kernel
theorem dL_law_778 : decode cL_law 778 = .ok (.aload_n 1, 1) := by decide +kernel
theorem dL_law_779 : decode cL_law 779 = .ok (.iconst 0, 1) := by decide +kernel
theorem dL_law_780 : decode cL_law 780 = .ok (.iconst 0, 1) := by decide +kernel
theorem dL_law_781 : decode cL_law 781 = .ok (.iconst 2, 1) := by decide +kernel
theorem dL_law_782 : decode cL_law 782 = .ok (.invokevirtual 92, 3) := by decide +kernel
theorem dL_law_785 : decode cL_law 785 = .ok (.bipush (-102), 2) := by decide +kernel
theorem dL_law_787 : decode cL_law 787 = .ok (.if_icmp .ne 78, 3) := by decide +kernel
theorem dL_law_790 : decode cL_law 790 = .ok (.aload_n 1, 1) := by decide +kernel
theorem dL_law_791 : decode cL_law 791 = .ok (.sipush 201, 3) := by decide +kernel
theorem dL_law_794 : decode cL_law 794 = .ok (.invokevirtual 60, 3) := by decide +kernel
theorem dL_law_797 : decode cL_law 797 = .ok (.bipush (-102), 2) := by decide +kernel
theorem dL_law_799 : decode cL_law 799 = .ok (.if_icmp .ne 66, 3) := by decide +kernel
theorem dL_law_802 : decode cL_law 802 = .ok (.aload_n 1, 1) := by decide +kernel
theorem dL_law_803 : decode cL_law 803 = .ok (.iconst 0, 1) := by decide +kernel
theorem dL_law_804 : decode cL_law 804 = .ok (.bipush 10, 2) := by decide +kernel
theorem dL_law_806 : decode cL_law 806 = .ok (.invokevirtual 121, 3) := by decide +kernel
theorem dL_law_809 : decode cL_law 809 = .ok (.bipush (-102), 2) := by decide +kernel
theorem dL_law_811 : decode cL_law 811 = .ok (.if_icmp .ne 54, 3) := by decide +kernel
theorem dL_law_814 : decode cL_law 814 = .ok (.aload_n 1, 1) := by decide +kernel
theorem dL_law_815 : decode cL_law 815 = .ok (.iconst 0, 1) := by decide +kernel
theorem dL_law_816 : decode cL_law 816 = .ok (.bipush 10, 2) := by decide +kernel
theorem dL_law_818 : decode cL_law 818 = .ok (.invokevirtual 8, 3) := by decide +kernel
theorem dL_law_821 : decode cL_law 821 = .ok (.bipush (-102), 2) := by decide +kernel
theorem dL_law_823 : decode cL_law 823 = .ok (.if_icmp .ne 42, 3) := by decide +kernel
theorem dL_law_826 : decode cL_law 826 = .ok (.aload_n 1, 1) := by decide +kernel
theorem dL_law_827 : decode cL_law 827 = .ok (.aload_n 1, 1) := by decide +kernel
theorem dL_law_828 : decode cL_law 828 = .ok (.invokevirtual 118, 3) := by decide +kernel
theorem dL_law_831 : decode cL_law 831 = .ok (.iconst 0, 1) := by decide +kernel
theorem dL_law_832 : decode cL_law 832 = .ok (.invokevirtual 124, 3) := by decide +kernel
theorem dL_law_835 : decode cL_law 835 = .ok (.bipush (-101), 2) := by decide +kernel
theorem dL_law_837 : decode cL_law 837 = .ok (.if_icmp .ne 28, 3) := by decide +kernel
theorem dL_law_840 : decode cL_law 840 = .ok (.aload_n 1, 1) := by decide +kernel
theorem dL_law_841 : decode cL_law 841 = .ok (.iconst 0, 1) := by decide +kernel
theorem dL_law_842 : decode cL_law 842 = .ok (.iconst 0, 1) := by decide +kernel
theorem dL_law_843 : decode cL_law 843 = .ok (.invokevirtual 51, 3) := by decide +kernel
theorem dL_law_846 : decode cL_law 846 = .ok (.bipush (-102), 2) := by decide +kernel
theorem dL_law_848 : decode cL_law 848 = .ok (.if_icmp .ne 17, 3) := by decide +kernel
theorem dL_law_851 : decode cL_law 851 = .ok (.aload_n 1, 1) := by decide +kernel
theorem dL_law_852 : decode cL_law 852 = .ok (.invokevirtual 44, 3) := by decide +kernel
theorem dL_law_855 : decode cL_law 855 = .ok (.lload 5, 2) := by decide +kernel
theorem dL_law_857 : decode cL_law 857 = .ok (.lcmp, 1) := by decide +kernel
theorem dL_law_858 : decode cL_law 858 = .ok (.ifCond .ne 7, 3) := by decide +kernel
theorem dL_law_861 : decode cL_law 861 = .ok (.iconst 1, 1) := by decide +kernel
theorem dL_law_862 : decode cL_law 862 = .ok (.goto 4, 3) := by decide +kernel
theorem dL_law_865 : decode cL_law 865 = .ok (.iconst 0, 1) := by decide +kernel
theorem dL_law_866 : decode cL_law 866 = .ok (.ireturn, 1) := by decide +kernel
