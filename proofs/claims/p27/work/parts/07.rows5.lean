theorem dL_isGrouped_74 : decode cL_isGrouped 74 = .ok (.iload 4, 2) := by decide +kernel
theorem dL_isGrouped_76 : decode cL_isGrouped 76 = .ok (.iload 5, 2) := by decide +kernel
theorem dL_isGrouped_78 : decode cL_isGrouped 78 = .ok (.invokestatic 35, 3) := by decide +kernel
theorem dL_isGrouped_81 : decode cL_isGrouped 81 = .ok (.ifCond .eq 37, 3) := by decide +kernel
theorem dL_isGrouped_84 : decode cL_isGrouped 84 = .ok (.aload_n 0, 1) := by decide +kernel
theorem dL_isGrouped_85 : decode cL_isGrouped 85 = .ok (.iconst 2, 1) := by decide +kernel
theorem dL_isGrouped_86 : decode cL_isGrouped 86 = .ok (.iconst 2, 1) := by decide +kernel
theorem dL_isGrouped_87 : decode cL_isGrouped 87 = .ok (.iconst 0, 1) := by decide +kernel
theorem dL_isGrouped_88 : decode cL_isGrouped 88 = .ok (.invokevirtual 39, 3) := by decide +kernel
theorem dL_isGrouped_91 : decode cL_isGrouped 91 = .ok (.ifCond .lt 27, 3) := by decide +kernel
theorem dL_isGrouped_94 : decode cL_isGrouped 94 = .ok (.aload_n 1, 1) := by decide +kernel
theorem dL_isGrouped_95 : decode cL_isGrouped 95 = .ok (.iconst 1, 1) := by decide +kernel
theorem dL_isGrouped_96 : decode cL_isGrouped 96 = .ok (.iconst 1, 1) := by decide +kernel
theorem dL_isGrouped_97 : decode cL_isGrouped 97 = .ok (.iconst 2, 1) := by decide +kernel
theorem dL_isGrouped_98 : decode cL_isGrouped 98 = .ok (.invokevirtual 39, 3) := by decide +kernel
theorem dL_isGrouped_101 : decode cL_isGrouped 101 = .ok (.ifCond .lt 17, 3) := by decide +kernel
theorem dL_isGrouped_104 : decode cL_isGrouped 104 = .ok (.aload_n 1, 1) := by decide +kernel
theorem dL_isGrouped_105 : decode cL_isGrouped 105 = .ok (.iconst 1, 1) := by decide +kernel
theorem dL_isGrouped_106 : decode cL_isGrouped 106 = .ok (.iconst 0, 1) := by decide +kernel
theorem dL_isGrouped_107 : decode cL_isGrouped 107 = .ok (.iconst 1, 1) := by decide +kernel
theorem dL_isGrouped_108 : decode cL_isGrouped 108 = .ok (.invokevirtual 39, 3) := by decide +kernel
theorem dL_isGrouped_111 : decode cL_isGrouped 111 = .ok (.ifCond .lt 7, 3) := by decide +kernel
theorem dL_isGrouped_114 : decode cL_isGrouped 114 = .ok (.iconst 1, 1) := by decide +kernel
theorem dL_isGrouped_115 : decode cL_isGrouped 115 = .ok (.goto 4, 3) := by decide +kernel
theorem dL_isGrouped_118 : decode cL_isGrouped 118 = .ok (.iconst 0, 1) := by decide +kernel
theorem dL_isGrouped_119 : decode cL_isGrouped 119 = .ok (.istore 6, 2) := by decide +kernel
theorem dL_isGrouped_121 : decode cL_isGrouped 121 = .ok (.iload 6, 2) := by decide +kernel
theorem dL_isGrouped_123 : decode cL_isGrouped 123 = .ok (.ifCond .eq 32, 3) := by decide +kernel
theorem dL_isGrouped_126 : decode cL_isGrouped 126 = .ok (.aload_n 0, 1) := by decide +kernel
theorem dL_isGrouped_127 : decode cL_isGrouped 127 = .ok (.iconst 2, 1) := by decide +kernel
theorem dL_isGrouped_128 : decode cL_isGrouped 128 = .ok (.aload_n 1, 1) := by decide +kernel
theorem dL_isGrouped_129 : decode cL_isGrouped 129 = .ok (.iconst 1, 1) := by decide +kernel
theorem dL_isGrouped_130 : decode cL_isGrouped 130 = .ok (.invokestatic 45, 3) := by decide +kernel
theorem dL_isGrouped_133 : decode cL_isGrouped 133 = .ok (.ifCond .eq 22, 3) := by decide +kernel
theorem dL_isGrouped_136 : decode cL_isGrouped 136 = .ok (.iload 5, 2) := by decide +kernel
theorem dL_isGrouped_138 : decode cL_isGrouped 138 = .ok (.ifCond .eq 13, 3) := by decide +kernel
theorem dL_isGrouped_141 : decode cL_isGrouped 141 = .ok (.aload_n 0, 1) := by decide +kernel
theorem dL_isGrouped_142 : decode cL_isGrouped 142 = .ok (.iconst 2, 1) := by decide +kernel
theorem dL_isGrouped_143 : decode cL_isGrouped 143 = .ok (.iconst 2, 1) := by decide +kernel
theorem dL_isGrouped_144 : decode cL_isGrouped 144 = .ok (.invokevirtual 42, 3) := by decide +kernel
theorem dL_isGrouped_147 : decode cL_isGrouped 147 = .ok (.iconst 1, 1) := by decide +kernel
theorem dL_isGrouped_148 : decode cL_isGrouped 148 = .ok (.if_icmp .ne 7, 3) := by decide +kernel
theorem dL_isGrouped_151 : decode cL_isGrouped 151 = .ok (.iconst 1, 1) := by decide +kernel
theorem dL_isGrouped_152 : decode cL_isGrouped 152 = .ok (.goto 4, 3) := by decide +kernel
theorem dL_isGrouped_155 : decode cL_isGrouped 155 = .ok (.iconst 0, 1) := by decide +kernel
theorem dL_isGrouped_156 : decode cL_isGrouped 156 = .ok (.ireturn, 1) := by decide +kernel
set_option maxRecDepth 20000 in
theorem ggL_isTurned_L_gets : GoodIn wsL_isTurned wsL_gets := goodIn_r _ [4, 5, 6, 7, 8, 9, 10, 11, 12, 13, 14, 15, 16, 17, 18, 19, 20, 21, 22, 23, 24, 25, 26, 27, 28, 29, 30, 31, 32, 33, 34, 35, 36, 37, 38, 39, 40, 41, 42, 43, 44, 45, 46, 47, 48, 49, 50, 51, 52, 53, 54, 55, 56, 57, 58, 59, 60, 61, 62, 63, 3, 64, 65, 66, 67, 68, 69, 70, 71, 72, 73, 74, 75, 76, 77, 78, 79, 80, 81, 82, 83, 84, 85, 86, 87, 88, 89, 90, 91, 92, 93, 146, 147, 148, 149, 150, 151, 152, 153, 154, 155, 156, 157, 158, 159, 160, 161, 162, 163, 164, 165, 166, 167, 168, 169, 170, 171] (by decide +kernel) (by decide +kernel)
set_option maxRecDepth 20000 in
theorem gL_isTurned_L_gets : GoodIn wsL_isTurned (va_wsS RL 35 yL_gets wsL_gets) := goodIn_app (goodIn_of _ (by decide +kernel)) ggL_isTurned_L_gets
set_option maxRecDepth 20000 in
theorem ggL_isTurned_X5_multiply : GoodIn wsL_isTurned wsX5_multiply := goodIn_r _ [97, 10, 23, 11, 12, 8, 13, 14, 15, 16, 98, 99, 100, 101, 21, 22, 28, 24, 25, 26, 27, 102, 103, 104, 83, 105, 106, 107, 108, 109, 110, 111, 29, 30, 31, 32, 33, 34, 35, 36, 37, 38, 39, 40, 41, 42, 43, 44, 45, 46, 47, 48, 49, 50, 51, 52, 53, 54, 146, 147, 148, 149, 150, 151, 152, 153, 154, 155, 156, 157, 158, 159, 160, 161, 162, 163, 164, 165, 166, 167, 168, 169] (by decide +kernel) (by decide +kernel)
set_option maxRecDepth 20000 in
theorem gL_isTurned_X5_multiply : GoodIn wsL_isTurned (wsV RL 39 RX5 yX5_multiply wsX5_multiply) := goodIn_app (goodIn_of _ (by decide +kernel)) ggL_isTurned_X5_multiply
set_option maxRecDepth 20000 in
theorem ggL_isTurned_X5_turn : GoodIn wsL_isTurned wsX5_turn := goodIn_r _ [115, 10, 23, 21, 22, 28, 11, 12, 8, 13, 14, 15, 16, 116, 117, 118, 83, 119, 120, 121, 122, 123, 124, 125, 126, 127, 128, 129, 130, 131, 132, 133, 134, 135, 136, 137, 138, 29, 30, 31, 32, 33, 34, 35, 36, 37, 38, 39, 40, 41, 42, 43, 44, 45, 46, 47, 48, 49, 50, 51, 52, 53, 54, 146, 147, 148, 149, 150, 151, 152, 153, 154, 155, 156, 157, 158, 159, 160, 161, 162, 163, 164, 165, 166, 167, 168, 169] (by decide +kernel) (by decide +kernel)
set_option maxRecDepth 20000 in
theorem gL_isTurned_X5_turn : GoodIn wsL_isTurned (wsV RL 49 RX5 yX5_turn wsX5_turn) := goodIn_app (goodIn_of _ (by decide +kernel)) ggL_isTurned_X5_turn
set_option maxRecDepth 20000 in
theorem ggL_isTurned_L_areSame : GoodIn wsL_isTurned wsL_areSame := goodIn_r _ [141, 55, 56, 57, 8, 58, 21, 37, 22, 36, 59, 60, 61, 10, 142, 143, 144, 145, 23, 11, 12, 13, 14, 15, 16, 90, 91, 92, 93, 146, 147, 148, 149, 150, 151, 152, 153, 154, 155, 156, 157, 158, 159, 160, 161, 162, 163, 164, 165, 166, 167, 168, 169, 170, 171] (by decide +kernel) (by decide +kernel)
set_option maxRecDepth 20000 in
theorem gL_isTurned_L_areSame : GoodIn wsL_isTurned (va_wsS RL 45 yL_areSame wsL_areSame) := goodIn_app (goodIn_of _ (by decide +kernel)) ggL_isTurned_L_areSame
theorem dL_isTurned_0 : decode cL_isTurned 0 = .ok (.aload_n 0, 1) := by decide +kernel
theorem dL_isTurned_1 : decode cL_isTurned 1 = .ok (.iconst 0, 1) := by decide +kernel
theorem dL_isTurned_2 : decode cL_isTurned 2 = .ok (.aload_n 1, 1) := by decide +kernel
theorem dL_isTurned_3 : decode cL_isTurned 3 = .ok (.iconst 0, 1) := by decide +kernel
theorem dL_isTurned_4 : decode cL_isTurned 4 = .ok (.iload_n 2, 1) := by decide +kernel
theorem dL_isTurned_5 : decode cL_isTurned 5 = .ok (.iconst 0, 1) := by decide +kernel
theorem dL_isTurned_6 : decode cL_isTurned 6 = .ok (.invokestatic 35, 3) := by decide +kernel
theorem dL_isTurned_9 : decode cL_isTurned 9 = .ok (.ifCond .eq 39, 3) := by decide +kernel
theorem dL_isTurned_12 : decode cL_isTurned 12 = .ok (.aload_n 0, 1) := by decide +kernel
theorem dL_isTurned_13 : decode cL_isTurned 13 = .ok (.iconst 1, 1) := by decide +kernel
theorem dL_isTurned_14 : decode cL_isTurned 14 = .ok (.aload_n 1, 1) := by decide +kernel
theorem dL_isTurned_15 : decode cL_isTurned 15 = .ok (.iconst 1, 1) := by decide +kernel
theorem dL_isTurned_16 : decode cL_isTurned 16 = .ok (.iload_n 3, 1) := by decide +kernel
theorem dL_isTurned_17 : decode cL_isTurned 17 = .ok (.iconst 0, 1) := by decide +kernel
theorem dL_isTurned_18 : decode cL_isTurned 18 = .ok (.invokestatic 35, 3) := by decide +kernel
theorem dL_isTurned_21 : decode cL_isTurned 21 = .ok (.ifCond .eq 27, 3) := by decide +kernel
theorem dL_isTurned_24 : decode cL_isTurned 24 = .ok (.aload_n 0, 1) := by decide +kernel
theorem dL_isTurned_25 : decode cL_isTurned 25 = .ok (.iconst 2, 1) := by decide +kernel
theorem dL_isTurned_26 : decode cL_isTurned 26 = .ok (.iconst 0, 1) := by decide +kernel
theorem dL_isTurned_27 : decode cL_isTurned 27 = .ok (.iconst 1, 1) := by decide +kernel
theorem dL_isTurned_28 : decode cL_isTurned 28 = .ok (.invokevirtual 39, 3) := by decide +kernel
theorem dL_isTurned_31 : decode cL_isTurned 31 = .ok (.ifCond .lt 17, 3) := by decide +kernel
theorem dL_isTurned_34 : decode cL_isTurned 34 = .ok (.aload_n 0, 1) := by decide +kernel
theorem dL_isTurned_35 : decode cL_isTurned 35 = .ok (.iconst 2, 1) := by decide +kernel
theorem dL_isTurned_36 : decode cL_isTurned 36 = .ok (.iload 4, 2) := by decide +kernel
theorem dL_isTurned_38 : decode cL_isTurned 38 = .ok (.invokevirtual 49, 3) := by decide +kernel
theorem dL_isTurned_41 : decode cL_isTurned 41 = .ok (.ifCond .lt 7, 3) := by decide +kernel
theorem dL_isTurned_44 : decode cL_isTurned 44 = .ok (.iconst 1, 1) := by decide +kernel
theorem dL_isTurned_45 : decode cL_isTurned 45 = .ok (.goto 4, 3) := by decide +kernel
theorem dL_isTurned_48 : decode cL_isTurned 48 = .ok (.iconst 0, 1) := by decide +kernel
theorem dL_isTurned_49 : decode cL_isTurned 49 = .ok (.istore 5, 2) := by decide +kernel
theorem dL_isTurned_51 : decode cL_isTurned 51 = .ok (.iload 5, 2) := by decide +kernel
theorem dL_isTurned_53 : decode cL_isTurned 53 = .ok (.ifCond .eq 39, 3) := by decide +kernel
theorem dL_isTurned_56 : decode cL_isTurned 56 = .ok (.iload 4, 2) := by decide +kernel
theorem dL_isTurned_58 : decode cL_isTurned 58 = .ok (.iconst 1, 1) := by decide +kernel
theorem dL_isTurned_59 : decode cL_isTurned 59 = .ok (.if_icmp .eq 13, 3) := by decide +kernel
theorem dL_isTurned_62 : decode cL_isTurned 62 = .ok (.aload_n 1, 1) := by decide +kernel
theorem dL_isTurned_63 : decode cL_isTurned 63 = .ok (.iconst 0, 1) := by decide +kernel
theorem dL_isTurned_64 : decode cL_isTurned 64 = .ok (.iload 4, 2) := by decide +kernel
theorem dL_isTurned_66 : decode cL_isTurned 66 = .ok (.invokevirtual 49, 3) := by decide +kernel
theorem dL_isTurned_69 : decode cL_isTurned 69 = .ok (.ifCond .lt 23, 3) := by decide +kernel
theorem dL_isTurned_72 : decode cL_isTurned 72 = .ok (.iload 4, 2) := by decide +kernel
theorem dL_isTurned_74 : decode cL_isTurned 74 = .ok (.iconst 2, 1) := by decide +kernel
theorem dL_isTurned_75 : decode cL_isTurned 75 = .ok (.if_icmp .eq 13, 3) := by decide +kernel
theorem dL_isTurned_78 : decode cL_isTurned 78 = .ok (.aload_n 1, 1) := by decide +kernel
theorem dL_isTurned_79 : decode cL_isTurned 79 = .ok (.iconst 1, 1) := by decide +kernel
theorem dL_isTurned_80 : decode cL_isTurned 80 = .ok (.iload 4, 2) := by decide +kernel
theorem dL_isTurned_82 : decode cL_isTurned 82 = .ok (.invokevirtual 49, 3) := by decide +kernel
theorem dL_isTurned_85 : decode cL_isTurned 85 = .ok (.ifCond .lt 7, 3) := by decide +kernel
theorem dL_isTurned_88 : decode cL_isTurned 88 = .ok (.iconst 1, 1) := by decide +kernel
theorem dL_isTurned_89 : decode cL_isTurned 89 = .ok (.goto 4, 3) := by decide +kernel
theorem dL_isTurned_92 : decode cL_isTurned 92 = .ok (.iconst 0, 1) := by decide +kernel
theorem dL_isTurned_93 : decode cL_isTurned 93 = .ok (.istore 5, 2) := by decide +kernel
theorem dL_isTurned_95 : decode cL_isTurned 95 = .ok (.iload 5, 2) := by decide +kernel
theorem dL_isTurned_97 : decode cL_isTurned 97 = .ok (.ifCond .eq 42, 3) := by decide +kernel
theorem dL_isTurned_100 : decode cL_isTurned 100 = .ok (.iload 4, 2) := by decide +kernel
theorem dL_isTurned_102 : decode cL_isTurned 102 = .ok (.ifCond .ne 13, 3) := by decide +kernel
theorem dL_isTurned_105 : decode cL_isTurned 105 = .ok (.aload_n 1, 1) := by decide +kernel
theorem dL_isTurned_106 : decode cL_isTurned 106 = .ok (.iconst 2, 1) := by decide +kernel
theorem dL_isTurned_107 : decode cL_isTurned 107 = .ok (.iconst 1, 1) := by decide +kernel
theorem dL_isTurned_108 : decode cL_isTurned 108 = .ok (.iconst 0, 1) := by decide +kernel
theorem dL_isTurned_109 : decode cL_isTurned 109 = .ok (.invokevirtual 39, 3) := by decide +kernel
theorem dL_isTurned_112 : decode cL_isTurned 112 = .ok (.goto 10, 3) := by decide +kernel
theorem dL_isTurned_115 : decode cL_isTurned 115 = .ok (.aload_n 1, 1) := by decide +kernel
theorem dL_isTurned_116 : decode cL_isTurned 116 = .ok (.iconst 2, 1) := by decide +kernel
theorem dL_isTurned_117 : decode cL_isTurned 117 = .ok (.iconst 0, 1) := by decide +kernel
theorem dL_isTurned_118 : decode cL_isTurned 118 = .ok (.iconst 1, 1) := by decide +kernel
theorem dL_isTurned_119 : decode cL_isTurned 119 = .ok (.invokevirtual 39, 3) := by decide +kernel
theorem dL_isTurned_122 : decode cL_isTurned 122 = .ok (.ifCond .lt 17, 3) := by decide +kernel
theorem dL_isTurned_125 : decode cL_isTurned 125 = .ok (.aload_n 0, 1) := by decide +kernel
theorem dL_isTurned_126 : decode cL_isTurned 126 = .ok (.iconst 2, 1) := by decide +kernel
theorem dL_isTurned_127 : decode cL_isTurned 127 = .ok (.aload_n 1, 1) := by decide +kernel
theorem dL_isTurned_128 : decode cL_isTurned 128 = .ok (.iconst 2, 1) := by decide +kernel
theorem dL_isTurned_129 : decode cL_isTurned 129 = .ok (.invokestatic 45, 3) := by decide +kernel
theorem dL_isTurned_132 : decode cL_isTurned 132 = .ok (.ifCond .eq 7, 3) := by decide +kernel
theorem dL_isTurned_135 : decode cL_isTurned 135 = .ok (.iconst 1, 1) := by decide +kernel
theorem dL_isTurned_136 : decode cL_isTurned 136 = .ok (.goto 4, 3) := by decide +kernel
theorem dL_isTurned_139 : decode cL_isTurned 139 = .ok (.iconst 0, 1) := by decide +kernel
theorem dL_isTurned_140 : decode cL_isTurned 140 = .ok (.istore 5, 2) := by decide +kernel
theorem dL_isTurned_142 : decode cL_isTurned 142 = .ok (.iload 5, 2) := by decide +kernel
theorem dL_isTurned_144 : decode cL_isTurned 144 = .ok (.ifCond .eq 27, 3) := by decide +kernel
theorem dL_isTurned_147 : decode cL_isTurned 147 = .ok (.aload_n 0, 1) := by decide +kernel
theorem dL_isTurned_148 : decode cL_isTurned 148 = .ok (.iconst 0, 1) := by decide +kernel
theorem dL_isTurned_149 : decode cL_isTurned 149 = .ok (.iload 4, 2) := by decide +kernel
theorem dL_isTurned_151 : decode cL_isTurned 151 = .ok (.invokevirtual 49, 3) := by decide +kernel
theorem dL_isTurned_154 : decode cL_isTurned 154 = .ok (.ifCond .lt 17, 3) := by decide +kernel
theorem dL_isTurned_157 : decode cL_isTurned 157 = .ok (.aload_n 0, 1) := by decide +kernel
theorem dL_isTurned_158 : decode cL_isTurned 158 = .ok (.iconst 0, 1) := by decide +kernel
theorem dL_isTurned_159 : decode cL_isTurned 159 = .ok (.iload 4, 2) := by decide +kernel
theorem dL_isTurned_161 : decode cL_isTurned 161 = .ok (.invokevirtual 49, 3) := by decide +kernel
theorem dL_isTurned_164 : decode cL_isTurned 164 = .ok (.ifCond .lt 7, 3) := by decide +kernel
theorem dL_isTurned_167 : decode cL_isTurned 167 = .ok (.iconst 1, 1) := by decide +kernel
theorem dL_isTurned_168 : decode cL_isTurned 168 = .ok (.goto 4, 3) := by decide +kernel
theorem dL_isTurned_171 : decode cL_isTurned 171 = .ok (.iconst 0, 1) := by decide +kernel
theorem dL_isTurned_172 : decode cL_isTurned 172 = .ok (.istore 5, 2) := by decide +kernel
theorem dL_isTurned_174 : decode cL_isTurned 174 = .ok (.iload 5, 2) := by decide +kernel
theorem dL_isTurned_176 : decode cL_isTurned 176 = .ok (.ifCond .eq 33, 3) := by decide +kernel
theorem dL_isTurned_179 : decode cL_isTurned 179 = .ok (.iload 4, 2) := by decide +kernel
theorem dL_isTurned_181 : decode cL_isTurned 181 = .ok (.iconst 1, 1) := by decide +kernel
theorem dL_isTurned_182 : decode cL_isTurned 182 = .ok (.if_icmp .eq 13, 3) := by decide +kernel
theorem dL_isTurned_185 : decode cL_isTurned 185 = .ok (.aload_n 1, 1) := by decide +kernel
theorem dL_isTurned_186 : decode cL_isTurned 186 = .ok (.iconst 0, 1) := by decide +kernel
theorem dL_isTurned_187 : decode cL_isTurned 187 = .ok (.iload 4, 2) := by decide +kernel
theorem dL_isTurned_189 : decode cL_isTurned 189 = .ok (.invokevirtual 49, 3) := by decide +kernel
theorem dL_isTurned_192 : decode cL_isTurned 192 = .ok (.ifCond .lt 17, 3) := by decide +kernel
theorem dL_isTurned_195 : decode cL_isTurned 195 = .ok (.aload_n 0, 1) := by decide +kernel
theorem dL_isTurned_196 : decode cL_isTurned 196 = .ok (.iconst 0, 1) := by decide +kernel
theorem dL_isTurned_197 : decode cL_isTurned 197 = .ok (.aload_n 1, 1) := by decide +kernel
theorem dL_isTurned_198 : decode cL_isTurned 198 = .ok (.iconst 0, 1) := by decide +kernel
theorem dL_isTurned_199 : decode cL_isTurned 199 = .ok (.invokestatic 45, 3) := by decide +kernel
theorem dL_isTurned_202 : decode cL_isTurned 202 = .ok (.ifCond .eq 7, 3) := by decide +kernel
theorem dL_isTurned_205 : decode cL_isTurned 205 = .ok (.iconst 1, 1) := by decide +kernel
theorem dL_isTurned_206 : decode cL_isTurned 206 = .ok (.goto 4, 3) := by decide +kernel
theorem dL_isTurned_209 : decode cL_isTurned 209 = .ok (.iconst 0, 1) := by decide +kernel
theorem dL_isTurned_210 : decode cL_isTurned 210 = .ok (.ireturn, 1) := by decide +kernel
set_option maxRecDepth 20000 in
theorem ggL_areAsMany_X5_byTables : GoodIn wsL_areAsMany wsX5_byTables := goodIn_r _ [5, 6, 7, 8, 9, 10, 11, 12, 4, 13, 14, 15, 16, 17, 18, 19, 20, 21, 22, 23, 24, 25, 26, 27, 28, 29, 30, 31, 32, 33, 34, 35, 36, 37, 38, 39, 40, 41, 85, 86, 87, 88, 89, 90, 91, 92, 93, 94, 95, 96, 97, 98, 99, 100, 101, 102, 103, 104, 105, 106, 107, 108, 109, 110] (by decide +kernel) (by decide +kernel)
set_option maxRecDepth 20000 in
theorem gL_areAsMany_X5_byTables : GoodIn wsL_areAsMany (wsV RL 52 RX5 yX5_byTables wsX5_byTables) := goodIn_app (goodIn_of _ (by decide +kernel)) ggL_areAsMany_X5_byTables
set_option maxRecDepth 20000 in
theorem ggL_areAsMany_X5_count : GoodIn wsL_areAsMany wsX5_count := goodIn_r _ [45, 8, 9, 46, 47, 48, 49, 50, 6, 85, 86, 87, 88, 89, 90, 91, 92, 93, 94, 95, 96, 97, 98, 99, 100, 101, 102, 103, 104, 111, 112, 113, 114, 115, 116] (by decide +kernel) (by decide +kernel)
set_option maxRecDepth 20000 in
theorem gL_areAsMany_X5_count : GoodIn wsL_areAsMany (wsV RL 9 RX5 yX5_count wsX5_count) := goodIn_app (goodIn_of _ (by decide +kernel)) ggL_areAsMany_X5_count
set_option maxRecDepth 20000 in
theorem ggL_areAsMany_X5_byOrders : GoodIn wsL_areAsMany wsX5_byOrders := goodIn_r _ [54, 6, 8, 14, 55, 56, 10, 11, 12, 4, 13, 15, 16, 17, 57, 58, 59, 60, 46, 61, 62, 63, 64, 65, 66, 67, 68, 69, 70, 71, 72, 73, 74, 75, 76, 77, 78, 79, 80, 81, 82, 83, 84, 85, 86, 87, 88, 89, 90, 91, 92, 93, 94, 95, 96, 97, 98, 99, 100, 101, 102, 103, 104] (by decide +kernel) (by decide +kernel)
set_option maxRecDepth 20000 in
theorem gL_areAsMany_X5_byOrders : GoodIn wsL_areAsMany (wsV RL 55 RX5 yX5_byOrders wsX5_byOrders) := goodIn_app (goodIn_of _ (by decide +kernel)) ggL_areAsMany_X5_byOrders
theorem dL_areAsMany_0 : decode cL_areAsMany 0 = .ok (.iconst 0, 1) := by decide +kernel
theorem dL_areAsMany_1 : decode cL_areAsMany 1 = .ok (.istore_n 3, 1) := by decide +kernel
theorem dL_areAsMany_2 : decode cL_areAsMany 2 = .ok (.aload_n 0, 1) := by decide +kernel
theorem dL_areAsMany_3 : decode cL_areAsMany 3 = .ok (.iload_n 1, 1) := by decide +kernel
theorem dL_areAsMany_4 : decode cL_areAsMany 4 = .ok (.iload_n 2, 1) := by decide +kernel
theorem dL_areAsMany_5 : decode cL_areAsMany 5 = .ok (.iconst (-1), 1) := by decide +kernel
theorem dL_areAsMany_6 : decode cL_areAsMany 6 = .ok (.invokevirtual 52, 3) := by decide +kernel
theorem dL_areAsMany_9 : decode cL_areAsMany 9 = .ok (.aload_n 0, 1) := by decide +kernel
theorem dL_areAsMany_10 : decode cL_areAsMany 10 = .ok (.iload_n 2, 1) := by decide +kernel
theorem dL_areAsMany_11 : decode cL_areAsMany 11 = .ok (.iload_n 1, 1) := by decide +kernel
theorem dL_areAsMany_12 : decode cL_areAsMany 12 = .ok (.iconst (-1), 1) := by decide +kernel
theorem dL_areAsMany_13 : decode cL_areAsMany 13 = .ok (.invokevirtual 52, 3) := by decide +kernel
theorem dL_areAsMany_16 : decode cL_areAsMany 16 = .ok (.if_icmp .ne 40, 3) := by decide +kernel
theorem dL_areAsMany_19 : decode cL_areAsMany 19 = .ok (.aload_n 0, 1) := by decide +kernel
theorem dL_areAsMany_20 : decode cL_areAsMany 20 = .ok (.iload_n 1, 1) := by decide +kernel
theorem dL_areAsMany_21 : decode cL_areAsMany 21 = .ok (.iconst 0, 1) := by decide +kernel
theorem dL_areAsMany_22 : decode cL_areAsMany 22 = .ok (.iconst (-1), 1) := by decide +kernel
theorem dL_areAsMany_23 : decode cL_areAsMany 23 = .ok (.invokevirtual 52, 3) := by decide +kernel
theorem dL_areAsMany_26 : decode cL_areAsMany 26 = .ok (.iconst 1, 1) := by decide +kernel
theorem dL_areAsMany_27 : decode cL_areAsMany 27 = .ok (.if_icmp .ne 29, 3) := by decide +kernel
theorem dL_areAsMany_30 : decode cL_areAsMany 30 = .ok (.aload_n 0, 1) := by decide +kernel
theorem dL_areAsMany_31 : decode cL_areAsMany 31 = .ok (.iload_n 1, 1) := by decide +kernel
theorem dL_areAsMany_32 : decode cL_areAsMany 32 = .ok (.iconst 0, 1) := by decide +kernel
theorem dL_areAsMany_33 : decode cL_areAsMany 33 = .ok (.iload_n 1, 1) := by decide +kernel
theorem dL_areAsMany_34 : decode cL_areAsMany 34 = .ok (.invokevirtual 52, 3) := by decide +kernel
theorem dL_areAsMany_37 : decode cL_areAsMany 37 = .ok (.iconst 1, 1) := by decide +kernel
theorem dL_areAsMany_38 : decode cL_areAsMany 38 = .ok (.if_icmp .ne 18, 3) := by decide +kernel
theorem dL_areAsMany_41 : decode cL_areAsMany 41 = .ok (.aload_n 0, 1) := by decide +kernel
theorem dL_areAsMany_42 : decode cL_areAsMany 42 = .ok (.iconst 0, 1) := by decide +kernel
theorem dL_areAsMany_43 : decode cL_areAsMany 43 = .ok (.iload_n 2, 1) := by decide +kernel
theorem dL_areAsMany_44 : decode cL_areAsMany 44 = .ok (.iload_n 2, 1) := by decide +kernel
theorem dL_areAsMany_45 : decode cL_areAsMany 45 = .ok (.invokevirtual 52, 3) := by decide +kernel
theorem dL_areAsMany_48 : decode cL_areAsMany 48 = .ok (.iconst 1, 1) := by decide +kernel
theorem dL_areAsMany_49 : decode cL_areAsMany 49 = .ok (.if_icmp .ne 7, 3) := by decide +kernel
theorem dL_areAsMany_52 : decode cL_areAsMany 52 = .ok (.iconst 1, 1) := by decide +kernel
theorem dL_areAsMany_53 : decode cL_areAsMany 53 = .ok (.goto 4, 3) := by decide +kernel
theorem dL_areAsMany_56 : decode cL_areAsMany 56 = .ok (.iconst 0, 1) := by decide +kernel
theorem dL_areAsMany_57 : decode cL_areAsMany 57 = .ok (.istore 4, 2) := by decide +kernel
theorem dL_areAsMany_59 : decode cL_areAsMany 59 = .ok (.iconst 0, 1) := by decide +kernel
theorem dL_areAsMany_60 : decode cL_areAsMany 60 = .ok (.istore 5, 2) := by decide +kernel
theorem dL_areAsMany_62 : decode cL_areAsMany 62 = .ok (.iload 5, 2) := by decide +kernel
theorem dL_areAsMany_64 : decode cL_areAsMany 64 = .ok (.iconst 1, 1) := by decide +kernel
theorem dL_areAsMany_65 : decode cL_areAsMany 65 = .ok (.aload_n 0, 1) := by decide +kernel
theorem dL_areAsMany_66 : decode cL_areAsMany 66 = .ok (.iconst 0, 1) := by decide +kernel
theorem dL_areAsMany_67 : decode cL_areAsMany 67 = .ok (.invokevirtual 9, 3) := by decide +kernel
theorem dL_areAsMany_70 : decode cL_areAsMany 70 = .ok (.iconst 1, 1) := by decide +kernel
theorem dL_areAsMany_71 : decode cL_areAsMany 71 = .ok (.isub, 1) := by decide +kernel
theorem dL_areAsMany_72 : decode cL_areAsMany 72 = .ok (.ishl, 1) := by decide +kernel
theorem dL_areAsMany_73 : decode cL_areAsMany 73 = .ok (.if_icmp .ge 70, 3) := by decide +kernel
theorem dL_areAsMany_76 : decode cL_areAsMany 76 = .ok (.iload_n 3, 1) := by decide +kernel
theorem dL_areAsMany_77 : decode cL_areAsMany 77 = .ok (.aload_n 0, 1) := by decide +kernel
theorem dL_areAsMany_78 : decode cL_areAsMany 78 = .ok (.iload_n 1, 1) := by decide +kernel
theorem dL_areAsMany_79 : decode cL_areAsMany 79 = .ok (.iload_n 2, 1) := by decide +kernel
theorem dL_areAsMany_80 : decode cL_areAsMany 80 = .ok (.iload 5, 2) := by decide +kernel
theorem dL_areAsMany_82 : decode cL_areAsMany 82 = .ok (.invokevirtual 52, 3) := by decide +kernel
theorem dL_areAsMany_85 : decode cL_areAsMany 85 = .ok (.iadd, 1) := by decide +kernel
theorem dL_areAsMany_86 : decode cL_areAsMany 86 = .ok (.istore_n 3, 1) := by decide +kernel
theorem dL_areAsMany_87 : decode cL_areAsMany 87 = .ok (.iload 4, 2) := by decide +kernel
theorem dL_areAsMany_89 : decode cL_areAsMany 89 = .ok (.ifCond .eq 45, 3) := by decide +kernel
theorem dL_areAsMany_92 : decode cL_areAsMany 92 = .ok (.aload_n 0, 1) := by decide +kernel
theorem dL_areAsMany_93 : decode cL_areAsMany 93 = .ok (.iload_n 1, 1) := by decide +kernel
theorem dL_areAsMany_94 : decode cL_areAsMany 94 = .ok (.iload_n 2, 1) := by decide +kernel
theorem dL_areAsMany_95 : decode cL_areAsMany 95 = .ok (.iload 5, 2) := by decide +kernel
theorem dL_areAsMany_97 : decode cL_areAsMany 97 = .ok (.invokevirtual 52, 3) := by decide +kernel
theorem dL_areAsMany_100 : decode cL_areAsMany 100 = .ok (.aload_n 0, 1) := by decide +kernel
theorem dL_areAsMany_101 : decode cL_areAsMany 101 = .ok (.iload_n 1, 1) := by decide +kernel
theorem dL_areAsMany_102 : decode cL_areAsMany 102 = .ok (.iload_n 2, 1) := by decide +kernel
theorem dL_areAsMany_103 : decode cL_areAsMany 103 = .ok (.iload 5, 2) := by decide +kernel
theorem dL_areAsMany_105 : decode cL_areAsMany 105 = .ok (.invokevirtual 55, 3) := by decide +kernel
theorem dL_areAsMany_108 : decode cL_areAsMany 108 = .ok (.if_icmp .ne 26, 3) := by decide +kernel
theorem dL_areAsMany_111 : decode cL_areAsMany 111 = .ok (.aload_n 0, 1) := by decide +kernel
theorem dL_areAsMany_112 : decode cL_areAsMany 112 = .ok (.iload_n 1, 1) := by decide +kernel
theorem dL_areAsMany_113 : decode cL_areAsMany 113 = .ok (.iload_n 2, 1) := by decide +kernel
theorem dL_areAsMany_114 : decode cL_areAsMany 114 = .ok (.iload 5, 2) := by decide +kernel
theorem dL_areAsMany_116 : decode cL_areAsMany 116 = .ok (.invokevirtual 52, 3) := by decide +kernel
theorem dL_areAsMany_119 : decode cL_areAsMany 119 = .ok (.ifCond .eq 11, 3) := by decide +kernel
theorem dL_areAsMany_122 : decode cL_areAsMany 122 = .ok (.iload 5, 2) := by decide +kernel
theorem dL_areAsMany_124 : decode cL_areAsMany 124 = .ok (.iload_n 2, 1) := by decide +kernel
theorem dL_areAsMany_125 : decode cL_areAsMany 125 = .ok (.iand, 1) := by decide +kernel
theorem dL_areAsMany_126 : decode cL_areAsMany 126 = .ok (.iload_n 2, 1) := by decide +kernel
theorem dL_areAsMany_127 : decode cL_areAsMany 127 = .ok (.if_icmp .ne 7, 3) := by decide +kernel
theorem dL_areAsMany_130 : decode cL_areAsMany 130 = .ok (.iconst 1, 1) := by decide +kernel
theorem dL_areAsMany_131 : decode cL_areAsMany 131 = .ok (.goto 4, 3) := by decide +kernel
theorem dL_areAsMany_134 : decode cL_areAsMany 134 = .ok (.iconst 0, 1) := by decide +kernel
theorem dL_areAsMany_135 : decode cL_areAsMany 135 = .ok (.istore 4, 2) := by decide +kernel
theorem dL_areAsMany_137 : decode cL_areAsMany 137 = .ok (.iinc 5 1, 3) := by decide +kernel
theorem dL_areAsMany_140 : decode cL_areAsMany 140 = .ok (.goto (-78), 3) := by decide +kernel
theorem dL_areAsMany_143 : decode cL_areAsMany 143 = .ok (.iload 4, 2) := by decide +kernel
theorem dL_areAsMany_145 : decode cL_areAsMany 145 = .ok (.ifCond .eq 18, 3) := by decide +kernel
theorem dL_areAsMany_148 : decode cL_areAsMany 148 = .ok (.iload_n 3, 1) := by decide +kernel
theorem dL_areAsMany_149 : decode cL_areAsMany 149 = .ok (.aload_n 0, 1) := by decide +kernel
theorem dL_areAsMany_150 : decode cL_areAsMany 150 = .ok (.iload_n 1, 1) := by decide +kernel
theorem dL_areAsMany_151 : decode cL_areAsMany 151 = .ok (.iload_n 2, 1) := by decide +kernel
theorem dL_areAsMany_152 : decode cL_areAsMany 152 = .ok (.iconst (-1), 1) := by decide +kernel
theorem dL_areAsMany_153 : decode cL_areAsMany 153 = .ok (.invokevirtual 52, 3) := by decide +kernel
theorem dL_areAsMany_156 : decode cL_areAsMany 156 = .ok (.if_icmp .ne 7, 3) := by decide +kernel
theorem dL_areAsMany_159 : decode cL_areAsMany 159 = .ok (.iconst 1, 1) := by decide +kernel
theorem dL_areAsMany_160 : decode cL_areAsMany 160 = .ok (.goto 4, 3) := by decide +kernel
theorem dL_areAsMany_163 : decode cL_areAsMany 163 = .ok (.iconst 0, 1) := by decide +kernel
theorem dL_areAsMany_164 : decode cL_areAsMany 164 = .ok (.ireturn, 1) := by decide +kernel
set_option maxRecDepth 20000 in
theorem ggL_isOrder_X5_count : GoodIn wsL_isOrder wsX5_count := goodIn_r _ [5, 6, 7, 8, 9, 10, 11, 12, 13, 131, 132, 133, 134, 135, 136, 137, 138, 139, 140, 141, 142, 143, 144, 145, 146, 147, 148, 149, 150, 151, 152, 153, 154, 155, 156] (by decide +kernel) (by decide +kernel)
set_option maxRecDepth 20000 in
theorem gL_isOrder_X5_count : GoodIn wsL_isOrder (wsV RL 9 RX5 yX5_count wsX5_count) := goodIn_app (goodIn_of _ (by decide +kernel)) ggL_isOrder_X5_count
set_option maxRecDepth 20000 in
theorem ggL_isOrder_X5_orderOf : GoodIn wsL_isOrder wsX5_orderOf := goodIn_r _ [17, 13, 6, 7, 18, 19, 20, 21, 22, 23, 24, 4, 25, 8, 26, 27, 28, 29, 30, 31, 32, 33, 34, 35, 36, 37, 38, 39, 40, 41, 42, 43, 44, 45, 46, 47, 48, 49, 50, 131, 132, 133, 134, 135, 136, 137, 138, 139, 140, 141, 142, 143, 144, 145, 146, 147, 148, 149, 150] (by decide +kernel) (by decide +kernel)
set_option maxRecDepth 20000 in
theorem gL_isOrder_X5_orderOf : GoodIn wsL_isOrder (wsV RL 58 RX5 yX5_orderOf wsX5_orderOf) := goodIn_app (goodIn_of _ (by decide +kernel)) ggL_isOrder_X5_orderOf
set_option maxRecDepth 20000 in
theorem ggL_isOrder_X5_product : GoodIn wsL_isOrder wsX5_product := goodIn_r _ [54, 13, 6, 22, 23, 24, 4, 25, 8, 26, 27, 28, 55, 56, 57, 32, 58, 59, 60, 131, 132, 133, 134, 135, 136, 137, 138, 139, 140, 141, 142, 143, 144, 145, 146, 147, 148, 149, 150] (by decide +kernel) (by decide +kernel)
set_option maxRecDepth 20000 in
theorem gL_isOrder_X5_product : GoodIn wsL_isOrder (wsV RL 61 RX5 yX5_product wsX5_product) := goodIn_app (goodIn_of _ (by decide +kernel)) ggL_isOrder_X5_product
set_option maxRecDepth 20000 in
theorem ggL_isOrder_X5_clear : GoodIn wsL_isOrder wsX5_clear := goodIn_r _ [64, 13, 65, 66, 4, 67, 26, 27, 28, 68, 69, 70, 71, 6, 8, 72, 73, 74, 75, 76, 77, 78, 79, 80, 81, 82, 83, 84, 9, 7, 85, 86, 87, 88, 89, 90, 91, 92, 93, 94, 95, 96, 97, 98, 99, 100, 101, 131, 132, 133, 134, 135, 136, 137, 138, 139, 140, 141, 142, 143, 144, 145, 146, 147, 148, 149, 150, 151, 152, 153, 154] (by decide +kernel) (by decide +kernel)
set_option maxRecDepth 20000 in
theorem gL_isOrder_X5_clear : GoodIn wsL_isOrder (wsV RL 19 RX5 yX5_clear wsX5_clear) := goodIn_app (goodIn_of _ (by decide +kernel)) ggL_isOrder_X5_clear
set_option maxRecDepth 20000 in
theorem ggL_isOrder_X5_add : GoodIn wsL_isOrder wsX5_add := goodIn_r _ [105, 13, 77, 65, 66, 4, 67, 26, 27, 28, 22, 23, 24, 25, 6, 8, 106, 107, 108, 109, 72, 78, 79, 80, 81, 82, 83, 84, 9, 7, 85, 86, 87, 88, 89, 90, 91, 92, 93, 94, 95, 96, 97, 98, 99, 100, 101, 131, 132, 133, 134, 135, 136, 137, 138, 139, 140, 141, 142, 143, 144, 145, 146, 147, 148, 149, 150, 151, 152, 153, 154] (by decide +kernel) (by decide +kernel)
set_option maxRecDepth 20000 in
theorem gL_isOrder_X5_add : GoodIn wsL_isOrder (wsV RL 31 RX5 yX5_add wsX5_add) := goodIn_app (goodIn_of _ (by decide +kernel)) ggL_isOrder_X5_add
set_option maxRecDepth 20000 in
theorem ggL_isOrder_X5_turn : GoodIn wsL_isOrder wsX5_turn := goodIn_r _ [113, 13, 72, 6, 8, 77, 65, 66, 4, 67, 26, 27, 28, 36, 37, 38, 32, 39, 40, 114, 115, 116, 117, 118, 35, 119, 50, 30, 31, 33, 34, 120, 121, 122, 123, 124, 125, 78, 79, 80, 81, 82, 83, 84, 9, 7, 85, 86, 87, 88, 89, 90, 91, 92, 93, 94, 95, 96, 97, 98, 99, 100, 101, 131, 132, 133, 134, 135, 136, 137, 138, 139, 140, 141, 142, 143, 144, 145, 146, 147, 148, 149, 150, 151, 152, 153, 154] (by decide +kernel) (by decide +kernel)
set_option maxRecDepth 20000 in
theorem gL_isOrder_X5_turn : GoodIn wsL_isOrder (wsV RL 49 RX5 yX5_turn wsX5_turn) := goodIn_app (goodIn_of _ (by decide +kernel)) ggL_isOrder_X5_turn
set_option maxRecDepth 20000 in
theorem ggL_isOrder_X5_termOf : GoodIn wsL_isOrder wsX5_termOf := goodIn_r _ [129, 13, 6, 8, 72, 130, 65, 66, 4, 67, 26, 27, 28, 131, 132, 133, 134, 135, 136, 137, 138, 139, 140, 141, 142, 143, 144, 145, 146, 147, 148, 149, 150] (by decide +kernel) (by decide +kernel)
set_option maxRecDepth 20000 in
theorem gL_isOrder_X5_termOf : GoodIn wsL_isOrder (wsV RL 64 RX5 yX5_termOf wsX5_termOf) := goodIn_app (goodIn_of _ (by decide +kernel)) ggL_isOrder_X5_termOf
theorem dL_isOrder_0 : decode cL_isOrder 0 = .ok (.aload_n 0, 1) := by decide +kernel
theorem dL_isOrder_1 : decode cL_isOrder 1 = .ok (.iconst 0, 1) := by decide +kernel
theorem dL_isOrder_2 : decode cL_isOrder 2 = .ok (.invokevirtual 9, 3) := by decide +kernel
theorem dL_isOrder_5 : decode cL_isOrder 5 = .ok (.istore_n 2, 1) := by decide +kernel
theorem dL_isOrder_6 : decode cL_isOrder 6 = .ok (.aload_n 0, 1) := by decide +kernel
theorem dL_isOrder_7 : decode cL_isOrder 7 = .ok (.iload_n 1, 1) := by decide +kernel
theorem dL_isOrder_8 : decode cL_isOrder 8 = .ok (.iconst 4, 1) := by decide +kernel
theorem dL_isOrder_9 : decode cL_isOrder 9 = .ok (.invokevirtual 58, 3) := by decide +kernel
theorem dL_isOrder_12 : decode cL_isOrder 12 = .ok (.istore_n 3, 1) := by decide +kernel
theorem dL_isOrder_13 : decode cL_isOrder 13 = .ok (.iload_n 2, 1) := by decide +kernel
theorem dL_isOrder_14 : decode cL_isOrder 14 = .ok (.iload_n 2, 1) := by decide +kernel
theorem dL_isOrder_15 : decode cL_isOrder 15 = .ok (.iconst 1, 1) := by decide +kernel
theorem dL_isOrder_16 : decode cL_isOrder 16 = .ok (.isub, 1) := by decide +kernel
theorem dL_isOrder_17 : decode cL_isOrder 17 = .ok (.imul, 1) := by decide +kernel
theorem dL_isOrder_18 : decode cL_isOrder 18 = .ok (.iconst 2, 1) := by decide +kernel
theorem dL_isOrder_19 : decode cL_isOrder 19 = .ok (.idiv, 1) := by decide +kernel
theorem dL_isOrder_20 : decode cL_isOrder 20 = .ok (.istore 4, 2) := by decide +kernel
theorem dL_isOrder_22 : decode cL_isOrder 22 = .ok (.aload_n 0, 1) := by decide +kernel
theorem dL_isOrder_23 : decode cL_isOrder 23 = .ok (.iload_n 3, 1) := by decide +kernel
theorem dL_isOrder_24 : decode cL_isOrder 24 = .ok (.iconst 4, 1) := by decide +kernel
theorem dL_isOrder_25 : decode cL_isOrder 25 = .ok (.invokevirtual 58, 3) := by decide +kernel
theorem dL_isOrder_28 : decode cL_isOrder 28 = .ok (.iload_n 1, 1) := by decide +kernel
theorem dL_isOrder_29 : decode cL_isOrder 29 = .ok (.if_icmp .ne 87, 3) := by decide +kernel
theorem dL_isOrder_32 : decode cL_isOrder 32 = .ok (.aload_n 0, 1) := by decide +kernel
theorem dL_isOrder_33 : decode cL_isOrder 33 = .ok (.iload_n 3, 1) := by decide +kernel
theorem dL_isOrder_34 : decode cL_isOrder 34 = .ok (.iconst 2, 1) := by decide +kernel
theorem dL_isOrder_35 : decode cL_isOrder 35 = .ok (.invokevirtual 58, 3) := by decide +kernel
theorem dL_isOrder_38 : decode cL_isOrder 38 = .ok (.aload_n 0, 1) := by decide +kernel
theorem dL_isOrder_39 : decode cL_isOrder 39 = .ok (.iload_n 1, 1) := by decide +kernel
theorem dL_isOrder_40 : decode cL_isOrder 40 = .ok (.iconst 2, 1) := by decide +kernel
theorem dL_isOrder_41 : decode cL_isOrder 41 = .ok (.invokevirtual 58, 3) := by decide +kernel
theorem dL_isOrder_44 : decode cL_isOrder 44 = .ok (.if_icmp .ne 72, 3) := by decide +kernel
theorem dL_isOrder_47 : decode cL_isOrder 47 = .ok (.aload_n 0, 1) := by decide +kernel
theorem dL_isOrder_48 : decode cL_isOrder 48 = .ok (.iload_n 3, 1) := by decide +kernel
theorem dL_isOrder_49 : decode cL_isOrder 49 = .ok (.bipush 6, 2) := by decide +kernel
theorem dL_isOrder_51 : decode cL_isOrder 51 = .ok (.invokevirtual 58, 3) := by decide +kernel
theorem dL_isOrder_54 : decode cL_isOrder 54 = .ok (.aload_n 0, 1) := by decide +kernel
theorem dL_isOrder_55 : decode cL_isOrder 55 = .ok (.iload_n 1, 1) := by decide +kernel
theorem dL_isOrder_56 : decode cL_isOrder 56 = .ok (.bipush 6, 2) := by decide +kernel
theorem dL_isOrder_58 : decode cL_isOrder 58 = .ok (.invokevirtual 58, 3) := by decide +kernel
theorem dL_isOrder_61 : decode cL_isOrder 61 = .ok (.if_icmp .ne 55, 3) := by decide +kernel
theorem dL_isOrder_64 : decode cL_isOrder 64 = .ok (.aload_n 0, 1) := by decide +kernel
theorem dL_isOrder_65 : decode cL_isOrder 65 = .ok (.iload_n 1, 1) := by decide +kernel
theorem dL_isOrder_66 : decode cL_isOrder 66 = .ok (.iload_n 3, 1) := by decide +kernel
theorem dL_isOrder_67 : decode cL_isOrder 67 = .ok (.invokevirtual 61, 3) := by decide +kernel
theorem dL_isOrder_70 : decode cL_isOrder 70 = .ok (.ifCond .ne 46, 3) := by decide +kernel
theorem dL_isOrder_73 : decode cL_isOrder 73 = .ok (.aload_n 0, 1) := by decide +kernel
theorem dL_isOrder_74 : decode cL_isOrder 74 = .ok (.iload_n 3, 1) := by decide +kernel
theorem dL_isOrder_75 : decode cL_isOrder 75 = .ok (.iload_n 1, 1) := by decide +kernel
theorem dL_isOrder_76 : decode cL_isOrder 76 = .ok (.invokevirtual 61, 3) := by decide +kernel
theorem dL_isOrder_79 : decode cL_isOrder 79 = .ok (.ifCond .ne 37, 3) := by decide +kernel
theorem dL_isOrder_82 : decode cL_isOrder 82 = .ok (.aload_n 0, 1) := by decide +kernel
theorem dL_isOrder_83 : decode cL_isOrder 83 = .ok (.iload_n 1, 1) := by decide +kernel
theorem dL_isOrder_84 : decode cL_isOrder 84 = .ok (.iconst 0, 1) := by decide +kernel
theorem dL_isOrder_85 : decode cL_isOrder 85 = .ok (.invokevirtual 61, 3) := by decide +kernel
theorem dL_isOrder_88 : decode cL_isOrder 88 = .ok (.iload_n 1, 1) := by decide +kernel
theorem dL_isOrder_89 : decode cL_isOrder 89 = .ok (.if_icmp .ne 27, 3) := by decide +kernel
theorem dL_isOrder_92 : decode cL_isOrder 92 = .ok (.aload_n 0, 1) := by decide +kernel
theorem dL_isOrder_93 : decode cL_isOrder 93 = .ok (.iload_n 1, 1) := by decide +kernel
theorem dL_isOrder_94 : decode cL_isOrder 94 = .ok (.iconst 3, 1) := by decide +kernel
theorem dL_isOrder_95 : decode cL_isOrder 95 = .ok (.invokevirtual 58, 3) := by decide +kernel
theorem dL_isOrder_98 : decode cL_isOrder 98 = .ok (.iload_n 2, 1) := by decide +kernel
theorem dL_isOrder_99 : decode cL_isOrder 99 = .ok (.aload_n 0, 1) := by decide +kernel
theorem dL_isOrder_100 : decode cL_isOrder 100 = .ok (.iload_n 1, 1) := by decide +kernel
theorem dL_isOrder_101 : decode cL_isOrder 101 = .ok (.bipush 6, 2) := by decide +kernel
theorem dL_isOrder_103 : decode cL_isOrder 103 = .ok (.invokevirtual 58, 3) := by decide +kernel
theorem dL_isOrder_106 : decode cL_isOrder 106 = .ok (.isub, 1) := by decide +kernel
theorem dL_isOrder_107 : decode cL_isOrder 107 = .ok (.iconst 2, 1) := by decide +kernel
theorem dL_isOrder_108 : decode cL_isOrder 108 = .ok (.irem, 1) := by decide +kernel
theorem dL_isOrder_109 : decode cL_isOrder 109 = .ok (.if_icmp .ne 7, 3) := by decide +kernel
theorem dL_isOrder_112 : decode cL_isOrder 112 = .ok (.iconst 1, 1) := by decide +kernel
theorem dL_isOrder_113 : decode cL_isOrder 113 = .ok (.goto 4, 3) := by decide +kernel
theorem dL_isOrder_116 : decode cL_isOrder 116 = .ok (.iconst 0, 1) := by decide +kernel
theorem dL_isOrder_117 : decode cL_isOrder 117 = .ok (.istore 5, 2) := by decide +kernel
theorem dL_isOrder_119 : decode cL_isOrder 119 = .ok (.iload 5, 2) := by decide +kernel
theorem dL_isOrder_121 : decode cL_isOrder 121 = .ok (.ifCond .eq 35, 3) := by decide +kernel
theorem dL_isOrder_124 : decode cL_isOrder 124 = .ok (.aload_n 0, 1) := by decide +kernel
theorem dL_isOrder_125 : decode cL_isOrder 125 = .ok (.iconst 0, 1) := by decide +kernel
theorem dL_isOrder_126 : decode cL_isOrder 126 = .ok (.invokevirtual 19, 3) := by decide +kernel
theorem dL_isOrder_129 : decode cL_isOrder 129 = .ok (.ifCond .lt 27, 3) := by decide +kernel
theorem dL_isOrder_132 : decode cL_isOrder 132 = .ok (.aload_n 0, 1) := by decide +kernel
theorem dL_isOrder_133 : decode cL_isOrder 133 = .ok (.iconst 0, 1) := by decide +kernel
theorem dL_isOrder_134 : decode cL_isOrder 134 = .ok (.iload_n 1, 1) := by decide +kernel
theorem dL_isOrder_135 : decode cL_isOrder 135 = .ok (.iconst 1, 1) := by decide +kernel
theorem dL_isOrder_136 : decode cL_isOrder 136 = .ok (.invokevirtual 31, 3) := by decide +kernel
theorem dL_isOrder_139 : decode cL_isOrder 139 = .ok (.iconst 1, 1) := by decide +kernel
theorem dL_isOrder_140 : decode cL_isOrder 140 = .ok (.if_icmp .ne 16, 3) := by decide +kernel
theorem dL_isOrder_143 : decode cL_isOrder 143 = .ok (.aload_n 0, 1) := by decide +kernel
theorem dL_isOrder_144 : decode cL_isOrder 144 = .ok (.iconst 0, 1) := by decide +kernel
theorem dL_isOrder_145 : decode cL_isOrder 145 = .ok (.iconst 1, 1) := by decide +kernel
theorem dL_isOrder_146 : decode cL_isOrder 146 = .ok (.invokevirtual 49, 3) := by decide +kernel
theorem dL_isOrder_149 : decode cL_isOrder 149 = .ok (.ifCond .lt 7, 3) := by decide +kernel
theorem dL_isOrder_152 : decode cL_isOrder 152 = .ok (.iconst 1, 1) := by decide +kernel
theorem dL_isOrder_153 : decode cL_isOrder 153 = .ok (.goto 4, 3) := by decide +kernel
theorem dL_isOrder_156 : decode cL_isOrder 156 = .ok (.iconst 0, 1) := by decide +kernel
theorem dL_isOrder_157 : decode cL_isOrder 157 = .ok (.istore 5, 2) := by decide +kernel
theorem dL_isOrder_159 : decode cL_isOrder 159 = .ok (.aload_n 0, 1) := by decide +kernel
theorem dL_isOrder_160 : decode cL_isOrder 160 = .ok (.iconst 0, 1) := by decide +kernel
theorem dL_isOrder_161 : decode cL_isOrder 161 = .ok (.iconst 0, 1) := by decide +kernel
theorem dL_isOrder_162 : decode cL_isOrder 162 = .ok (.iconst 0, 1) := by decide +kernel
theorem dL_isOrder_163 : decode cL_isOrder 163 = .ok (.invokevirtual 64, 3) := by decide +kernel
theorem dL_isOrder_166 : decode cL_isOrder 166 = .ok (.istore 6, 2) := by decide +kernel
theorem dL_isOrder_168 : decode cL_isOrder 168 = .ok (.iload 5, 2) := by decide +kernel
theorem dL_isOrder_170 : decode cL_isOrder 170 = .ok (.ifCond .eq 35, 3) := by decide +kernel
theorem dL_isOrder_173 : decode cL_isOrder 173 = .ok (.aload_n 0, 1) := by decide +kernel
theorem dL_isOrder_174 : decode cL_isOrder 174 = .ok (.iload 6, 2) := by decide +kernel
theorem dL_isOrder_176 : decode cL_isOrder 176 = .ok (.iconst 2, 1) := by decide +kernel
theorem dL_isOrder_177 : decode cL_isOrder 177 = .ok (.invokevirtual 58, 3) := by decide +kernel
theorem dL_isOrder_180 : decode cL_isOrder 180 = .ok (.iload 4, 2) := by decide +kernel
theorem dL_isOrder_182 : decode cL_isOrder 182 = .ok (.aload_n 0, 1) := by decide +kernel
theorem dL_isOrder_183 : decode cL_isOrder 183 = .ok (.iload_n 1, 1) := by decide +kernel
theorem dL_isOrder_184 : decode cL_isOrder 184 = .ok (.iconst 2, 1) := by decide +kernel
theorem dL_isOrder_185 : decode cL_isOrder 185 = .ok (.invokevirtual 58, 3) := by decide +kernel
theorem dL_isOrder_188 : decode cL_isOrder 188 = .ok (.isub, 1) := by decide +kernel
theorem dL_isOrder_189 : decode cL_isOrder 189 = .ok (.if_icmp .ne 16, 3) := by decide +kernel
theorem dL_isOrder_192 : decode cL_isOrder 192 = .ok (.aload_n 0, 1) := by decide +kernel
theorem dL_isOrder_193 : decode cL_isOrder 193 = .ok (.iconst 0, 1) := by decide +kernel
theorem dL_isOrder_194 : decode cL_isOrder 194 = .ok (.iconst 2, 1) := by decide +kernel
theorem dL_isOrder_195 : decode cL_isOrder 195 = .ok (.invokevirtual 49, 3) := by decide +kernel
theorem dL_isOrder_198 : decode cL_isOrder 198 = .ok (.ifCond .lt 7, 3) := by decide +kernel
theorem dL_isOrder_201 : decode cL_isOrder 201 = .ok (.iconst 1, 1) := by decide +kernel
theorem dL_isOrder_202 : decode cL_isOrder 202 = .ok (.goto 4, 3) := by decide +kernel
theorem dL_isOrder_205 : decode cL_isOrder 205 = .ok (.iconst 0, 1) := by decide +kernel
theorem dL_isOrder_206 : decode cL_isOrder 206 = .ok (.istore 5, 2) := by decide +kernel
theorem dL_isOrder_208 : decode cL_isOrder 208 = .ok (.aload_n 0, 1) := by decide +kernel
theorem dL_isOrder_209 : decode cL_isOrder 209 = .ok (.iconst 0, 1) := by decide +kernel
theorem dL_isOrder_210 : decode cL_isOrder 210 = .ok (.iconst 0, 1) := by decide +kernel
theorem dL_isOrder_211 : decode cL_isOrder 211 = .ok (.iconst 0, 1) := by decide +kernel
theorem dL_isOrder_212 : decode cL_isOrder 212 = .ok (.invokevirtual 64, 3) := by decide +kernel
theorem dL_isOrder_215 : decode cL_isOrder 215 = .ok (.istore 7, 2) := by decide +kernel
theorem dL_isOrder_217 : decode cL_isOrder 217 = .ok (.iload 5, 2) := by decide +kernel
theorem dL_isOrder_219 : decode cL_isOrder 219 = .ok (.ifCond .eq 58, 3) := by decide +kernel
theorem dL_isOrder_222 : decode cL_isOrder 222 = .ok (.aload_n 0, 1) := by decide +kernel
theorem dL_isOrder_223 : decode cL_isOrder 223 = .ok (.iload 7, 2) := by decide +kernel
theorem dL_isOrder_225 : decode cL_isOrder 225 = .ok (.iconst 2, 1) := by decide +kernel
theorem dL_isOrder_226 : decode cL_isOrder 226 = .ok (.invokevirtual 58, 3) := by decide +kernel
theorem dL_isOrder_229 : decode cL_isOrder 229 = .ok (.aload_n 0, 1) := by decide +kernel
theorem dL_isOrder_230 : decode cL_isOrder 230 = .ok (.iload_n 1, 1) := by decide +kernel
theorem dL_isOrder_231 : decode cL_isOrder 231 = .ok (.iconst 2, 1) := by decide +kernel
theorem dL_isOrder_232 : decode cL_isOrder 232 = .ok (.invokevirtual 58, 3) := by decide +kernel
theorem dL_isOrder_235 : decode cL_isOrder 235 = .ok (.if_icmp .ne 42, 3) := by decide +kernel
theorem dL_isOrder_238 : decode cL_isOrder 238 = .ok (.aload_n 0, 1) := by decide +kernel
theorem dL_isOrder_239 : decode cL_isOrder 239 = .ok (.iload_n 1, 1) := by decide +kernel
theorem dL_isOrder_240 : decode cL_isOrder 240 = .ok (.aload_n 0, 1) := by decide +kernel
theorem dL_isOrder_241 : decode cL_isOrder 241 = .ok (.iconst 1, 1) := by decide +kernel
theorem dL_isOrder_242 : decode cL_isOrder 242 = .ok (.invokevirtual 9, 3) := by decide +kernel
theorem dL_isOrder_245 : decode cL_isOrder 245 = .ok (.iconst 1, 1) := by decide +kernel
theorem dL_isOrder_246 : decode cL_isOrder 246 = .ok (.isub, 1) := by decide +kernel
theorem dL_isOrder_247 : decode cL_isOrder 247 = .ok (.invokevirtual 61, 3) := by decide +kernel
theorem dL_isOrder_250 : decode cL_isOrder 250 = .ok (.iload 6, 2) := by decide +kernel
theorem dL_isOrder_252 : decode cL_isOrder 252 = .ok (.if_icmp .ne 25, 3) := by decide +kernel
theorem dL_isOrder_255 : decode cL_isOrder 255 = .ok (.aload_n 0, 1) := by decide +kernel
theorem dL_isOrder_256 : decode cL_isOrder 256 = .ok (.aload_n 0, 1) := by decide +kernel
theorem dL_isOrder_257 : decode cL_isOrder 257 = .ok (.iconst 1, 1) := by decide +kernel
theorem dL_isOrder_258 : decode cL_isOrder 258 = .ok (.invokevirtual 9, 3) := by decide +kernel
theorem dL_isOrder_261 : decode cL_isOrder 261 = .ok (.iconst 1, 1) := by decide +kernel
theorem dL_isOrder_262 : decode cL_isOrder 262 = .ok (.isub, 1) := by decide +kernel
theorem dL_isOrder_263 : decode cL_isOrder 263 = .ok (.iload 6, 2) := by decide +kernel
theorem dL_isOrder_265 : decode cL_isOrder 265 = .ok (.invokevirtual 61, 3) := by decide +kernel
theorem dL_isOrder_268 : decode cL_isOrder 268 = .ok (.iload 7, 2) := by decide +kernel
theorem dL_isOrder_270 : decode cL_isOrder 270 = .ok (.if_icmp .ne 7, 3) := by decide +kernel
theorem dL_isOrder_273 : decode cL_isOrder 273 = .ok (.iconst 1, 1) := by decide +kernel
theorem dL_isOrder_274 : decode cL_isOrder 274 = .ok (.goto 4, 3) := by decide +kernel
theorem dL_isOrder_277 : decode cL_isOrder 277 = .ok (.iconst 0, 1) := by decide +kernel
theorem dL_isOrder_278 : decode cL_isOrder 278 = .ok (.ireturn, 1) := by decide +kernel
set_option maxRecDepth 20000 in
theorem ggL_law_X5_init : GoodIn wsL_law wsX5_init := goodIn_r _ [5, 6, 7, 8, 9, 10, 11, 12, 13, 14, 15, 16, 17, 18, 19, 20, 21, 22, 23, 24, 25, 26, 27, 28, 29, 30, 31, 32, 33, 34, 35, 36, 37, 38, 39, 40, 41, 42, 43, 44, 45, 46, 47, 48, 49, 50, 51, 52, 53, 54, 55, 56, 57, 58, 59, 60, 61, 62, 63, 64, 65, 66, 67, 68, 69, 70, 71, 2, 72, 73, 74, 75, 76, 77, 78, 79, 80, 81, 82, 83, 84, 85, 86, 87, 88, 89, 90, 91, 92, 93, 94, 95, 96, 97, 98, 99, 100, 101, 102, 103, 104, 105, 106, 107, 108, 109, 110, 111, 112, 113, 114, 115, 116, 117, 118, 119, 120, 121, 122, 123, 343, 344, 345, 346, 347, 348, 349, 350, 351, 352, 353, 354, 355, 356, 357, 358, 359, 360, 361, 362, 363, 364, 365, 366, 367, 368, 369, 370, 371, 372, 373, 374, 375, 376, 377, 378, 379, 380, 381, 382, 383] (by decide +kernel) (by decide +kernel)
set_option maxRecDepth 20000 in
theorem gL_law_X5_init : GoodIn wsL_law (wsX5_init) := ggL_law_X5_init
set_option maxRecDepth 20000 in
theorem ggL_law_L_cell : GoodIn wsL_law wsL_cell := goodIn_r _ [127, 128] (by decide +kernel) (by decide +kernel)
set_option maxRecDepth 20000 in
theorem gL_law_L_cell : GoodIn wsL_law (va_wsS RL 68 yL_cell wsL_cell) := goodIn_app (goodIn_of _ (by decide +kernel)) ggL_law_L_cell
set_option maxRecDepth 20000 in
theorem ggL_law_L_up : GoodIn wsL_law wsL_up := goodIn_r _ [131, 132] (by decide +kernel) (by decide +kernel)
set_option maxRecDepth 20000 in
theorem gL_law_L_up : GoodIn wsL_law (va_wsS RL 22 yL_up wsL_up) := goodIn_app (goodIn_of _ (by decide +kernel)) ggL_law_L_up
set_option maxRecDepth 20000 in
theorem ggL_law_X5_begin : GoodIn wsL_law wsX5_begin := goodIn_r _ [136, 137, 20, 33, 138, 13, 139, 140, 141, 2, 142, 143, 144, 145, 19, 146, 39, 38, 41, 147, 148, 149, 150, 37, 151, 152, 153, 154, 69, 70, 71, 72, 10, 9, 73, 74, 75, 76, 77, 78, 7, 8, 79, 80, 81, 12, 82, 83, 84, 85, 86, 87, 88, 89, 90, 91, 92, 93, 94, 95, 96, 97, 98, 99, 100, 101, 102, 103, 104, 105, 106, 107, 108, 109, 110, 111, 112, 113, 114, 115, 116, 117, 118, 119, 120, 121, 122, 123, 343, 344, 345, 346, 347, 348, 349, 350, 351, 373, 374, 375, 376, 377, 378, 379, 380, 381, 382, 383, 352, 353, 354, 355] (by decide +kernel) (by decide +kernel)
set_option maxRecDepth 20000 in
theorem gL_law_X5_begin : GoodIn wsL_law (wsV RL 72 RX5 yX5_begin wsX5_begin) := goodIn_app (goodIn_of _ (by decide +kernel)) ggL_law_X5_begin
set_option maxRecDepth 20000 in
theorem ggL_law_L_isGrouped : GoodIn wsL_law wsL_isGrouped := goodIn_r _ [157, 158, 159, 126, 160, 161, 162, 163, 2, 164, 137, 165, 166, 167, 140, 141, 142, 168, 169, 170, 171, 33, 139, 13, 172, 173, 174, 175, 15, 176, 177, 178, 179, 180, 181, 182, 20, 138, 143, 144, 145, 19, 146, 39, 38, 41, 147, 148, 149, 150, 37, 151, 152, 153, 154, 183, 184, 185, 186, 187, 24, 188, 129, 130, 131, 132, 189, 190, 191, 192, 193, 194, 195, 196, 197, 198, 199, 200, 201, 202, 203, 204, 205, 74, 206, 82, 207, 208, 209, 210, 211, 212, 213, 214, 215, 216, 217, 218, 219, 220, 221, 222, 223, 121, 122, 123, 88, 80, 224, 225, 226, 227, 228, 229, 230, 231, 232, 233, 234, 235, 236, 237, 238, 239, 240, 241, 242, 243, 244, 245, 246, 247, 248, 249, 250, 251, 252, 253, 254, 255, 256, 257, 258, 259, 343, 344, 345, 346, 347, 348, 349, 350, 351, 373, 374, 375, 376, 377, 378, 379, 380, 381, 382, 383, 352, 353, 354, 355, 356, 357] (by decide +kernel) (by decide +kernel)
set_option maxRecDepth 20000 in
theorem gL_law_L_isGrouped : GoodIn wsL_law (va_wsS RL 75 yL_isGrouped wsL_isGrouped) := goodIn_app (goodIn_of _ (by decide +kernel)) ggL_law_L_isGrouped
set_option maxRecDepth 20000 in
theorem ggL_law_L_isTurned : GoodIn wsL_law wsL_isTurned := goodIn_r _ [262, 158, 159, 126, 160, 161, 162, 163, 2, 164, 137, 165, 166, 167, 140, 141, 142, 168, 169, 170, 171, 33, 139, 13, 172, 173, 174, 175, 15, 176, 177, 178, 179, 180, 181, 182, 20, 138, 143, 144, 145, 19, 146, 39, 38, 41, 147, 148, 149, 150, 37, 151, 152, 153, 154, 183, 184, 185, 186, 187, 24, 188, 129, 130, 131, 132, 189, 190, 191, 192, 193, 194, 195, 196, 197, 198, 199, 200, 201, 202, 203, 204, 205, 74, 206, 82, 207, 208, 209, 210, 211, 212, 213, 214, 215, 216, 217, 218, 219, 220, 221, 222, 223, 121, 122, 123, 88, 80, 224, 225, 226, 227, 263, 264, 265, 266, 267, 268, 269, 270, 84, 271, 272, 273, 274, 85, 79, 89, 101, 102, 103, 104, 87, 105, 106, 107, 98, 99, 100, 253, 254, 255, 256, 257, 258, 259, 343, 344, 345, 346, 347, 348, 349, 350, 351, 373, 374, 375, 376, 377, 378, 379, 380, 381, 382, 383, 352, 353, 354, 355, 356, 357] (by decide +kernel) (by decide +kernel)
set_option maxRecDepth 20000 in
theorem gL_law_L_isTurned : GoodIn wsL_law (va_wsS RL 79 yL_isTurned wsL_isTurned) := goodIn_app (goodIn_of _ (by decide +kernel)) ggL_law_L_isTurned
set_option maxRecDepth 20000 in
theorem ggL_law_X5_count : GoodIn wsL_law wsX5_count := goodIn_r _ [186, 33, 138, 139, 20, 187, 24, 188, 137, 343, 344, 345, 346, 347, 348, 349, 350, 351, 373, 374, 375, 376, 377, 378, 379, 380, 381, 382, 383, 352, 353, 354, 355, 356, 357] (by decide +kernel) (by decide +kernel)
set_option maxRecDepth 20000 in
theorem gL_law_X5_count : GoodIn wsL_law (wsV RL 9 RX5 yX5_count wsX5_count) := goodIn_app (goodIn_of _ (by decide +kernel)) ggL_law_X5_count
set_option maxRecDepth 20000 in
theorem ggL_law_L_isOrder : GoodIn wsL_law wsL_isOrder := goodIn_r _ [277, 183, 184, 185, 2, 186, 33, 138, 139, 20, 187, 24, 188, 137, 278, 279, 280, 281, 193, 282, 283, 284, 211, 212, 213, 214, 140, 141, 142, 285, 102, 103, 74, 104, 87, 79, 267, 268, 269, 270, 84, 286, 287, 288, 289, 82, 290, 291, 292, 293, 101, 294, 295, 296, 297, 223, 121, 122, 123, 88, 80, 161, 162, 163, 164, 165, 166, 167, 168, 169, 170, 171, 13, 172, 173, 174, 175, 15, 176, 177, 178, 179, 180, 181, 182, 143, 144, 145, 19, 146, 39, 38, 41, 147, 148, 149, 150, 37, 151, 152, 153, 154, 207, 208, 209, 210, 199, 200, 201, 202, 263, 264, 265, 266, 271, 272, 273, 274, 85, 89, 105, 106, 107, 98, 99, 100, 298, 299, 300, 301, 302, 343, 344, 345, 346, 347, 348, 349, 350, 351, 373, 374, 375, 376, 377, 378, 379, 380, 381, 382, 383, 352, 353, 354, 355, 356, 357] (by decide +kernel) (by decide +kernel)
set_option maxRecDepth 20000 in
theorem gL_law_L_isOrder : GoodIn wsL_law (va_wsS RL 83 yL_isOrder wsL_isOrder) := goodIn_app (goodIn_of _ (by decide +kernel)) ggL_law_L_isOrder
set_option maxRecDepth 20000 in
theorem ggL_law_L_areAsMany : GoodIn wsL_law wsL_areAsMany := goodIn_r _ [305, 306, 307, 308, 2, 309, 137, 32, 33, 138, 194, 195, 196, 197, 198, 140, 141, 142, 310, 311, 312, 31, 313, 63, 68, 64, 67, 65, 66, 314, 315, 316, 317, 318, 319, 320, 152, 153, 154, 321, 322, 323, 183, 184, 185, 186, 139, 20, 187, 24, 188, 324, 325, 326, 327, 16, 240, 328, 329, 330, 331, 284, 203, 204, 205, 74, 206, 82, 223, 121, 122, 123, 88, 80, 332, 333, 334, 335, 336, 337, 338, 339, 340, 341, 342, 343, 344, 345, 346, 347, 348, 349, 350, 351, 373, 374, 375, 376, 377, 378, 379, 380, 381, 382, 383, 367, 368, 369, 370, 371, 372, 352, 353, 354, 355, 356, 357] (by decide +kernel) (by decide +kernel)
set_option maxRecDepth 20000 in
theorem gL_law_L_areAsMany : GoodIn wsL_law (va_wsS RL 87 yL_areAsMany wsL_areAsMany) := goodIn_app (goodIn_of _ (by decide +kernel)) ggL_law_L_areAsMany
theorem dL_law_0 : decode cL_law 0 = .ok (.new 10, 3) := by decide +kernel
theorem dL_law_3 : decode cL_law 3 = .ok (.dup, 1) := by decide +kernel
theorem dL_law_4 : decode cL_law 4 = .ok (.invokespecial 67, 3) := by decide +kernel
theorem dL_law_7 : decode cL_law 7 = .ok (.astore_n 1, 1) := by decide +kernel
theorem dL_law_8 : decode cL_law 8 = .ok (.new 10, 3) := by decide +kernel
theorem dL_law_11 : decode cL_law 11 = .ok (.dup, 1) := by decide +kernel
theorem dL_law_12 : decode cL_law 12 = .ok (.invokespecial 67, 3) := by decide +kernel
theorem dL_law_15 : decode cL_law 15 = .ok (.astore_n 2, 1) := by decide +kernel
theorem dL_law_16 : decode cL_law 16 = .ok (.iconst 2, 1) := by decide +kernel
theorem dL_law_17 : decode cL_law 17 = .ok (.aload_n 0, 1) := by decide +kernel
theorem dL_law_18 : decode cL_law 18 = .ok (.iconst 0, 1) := by decide +kernel
theorem dL_law_19 : decode cL_law 19 = .ok (.invokestatic 68, 3) := by decide +kernel
theorem dL_law_22 : decode cL_law 22 = .ok (.iconst 3, 1) := by decide +kernel
theorem dL_law_23 : decode cL_law 23 = .ok (.invokestatic 22, 3) := by decide +kernel
theorem dL_law_26 : decode cL_law 26 = .ok (.iadd, 1) := by decide +kernel
theorem dL_law_27 : decode cL_law 27 = .ok (.istore_n 3, 1) := by decide +kernel
theorem dL_law_28 : decode cL_law 28 = .ok (.aload_n 1, 1) := by decide +kernel
theorem dL_law_29 : decode cL_law 29 = .ok (.iload_n 3, 1) := by decide +kernel
theorem dL_law_30 : decode cL_law 30 = .ok (.invokevirtual 72, 3) := by decide +kernel
theorem dL_law_33 : decode cL_law 33 = .ok (.aload_n 2, 1) := by decide +kernel
theorem dL_law_34 : decode cL_law 34 = .ok (.iload_n 3, 1) := by decide +kernel
theorem dL_law_35 : decode cL_law 35 = .ok (.invokevirtual 72, 3) := by decide +kernel
theorem dL_law_38 : decode cL_law 38 = .ok (.if_icmp .ne 7, 3) := by decide +kernel
theorem dL_law_41 : decode cL_law 41 = .ok (.iconst 1, 1) := by decide +kernel
theorem dL_law_42 : decode cL_law 42 = .ok (.goto 4, 3) := by decide +kernel
theorem dL_law_45 : decode cL_law 45 = .ok (.iconst 0, 1) := by decide +kernel
theorem dL_law_46 : decode cL_law 46 = .ok (.istore 4, 2) := by decide +kernel
theorem dL_law_48 : decode cL_law 48 = .ok (.iconst 1, 1) := by decide +kernel
theorem dL_law_49 : decode cL_law 49 = .ok (.istore 5, 2) := by decide +kernel
theorem dL_law_51 : decode cL_law 51 = .ok (.iload 5, 2) := by decide +kernel
theorem dL_law_53 : decode cL_law 53 = .ok (.bipush 13, 2) := by decide +kernel
theorem dL_law_55 : decode cL_law 55 = .ok (.if_icmp .ge 121, 3) := by decide +kernel
theorem dL_law_58 : decode cL_law 58 = .ok (.iload 4, 2) := by decide +kernel
theorem dL_law_60 : decode cL_law 60 = .ok (.ifCond .eq 116, 3) := by decide +kernel
theorem dL_law_63 : decode cL_law 63 = .ok (.aload_n 1, 1) := by decide +kernel
theorem dL_law_64 : decode cL_law 64 = .ok (.aload_n 2, 1) := by decide +kernel
theorem dL_law_65 : decode cL_law 65 = .ok (.aload_n 0, 1) := by decide +kernel
theorem dL_law_66 : decode cL_law 66 = .ok (.iload 5, 2) := by decide +kernel
theorem dL_law_68 : decode cL_law 68 = .ok (.invokestatic 68, 3) := by decide +kernel
theorem dL_law_71 : decode cL_law 71 = .ok (.aload_n 0, 1) := by decide +kernel
theorem dL_law_72 : decode cL_law 72 = .ok (.iload 5, 2) := by decide +kernel
theorem dL_law_74 : decode cL_law 74 = .ok (.iconst 1, 1) := by decide +kernel
theorem dL_law_75 : decode cL_law 75 = .ok (.iadd, 1) := by decide +kernel
theorem dL_law_76 : decode cL_law 76 = .ok (.invokestatic 68, 3) := by decide +kernel
theorem dL_law_79 : decode cL_law 79 = .ok (.aload_n 0, 1) := by decide +kernel
theorem dL_law_80 : decode cL_law 80 = .ok (.iload 5, 2) := by decide +kernel
theorem dL_law_82 : decode cL_law 82 = .ok (.iconst 2, 1) := by decide +kernel
theorem dL_law_83 : decode cL_law 83 = .ok (.iadd, 1) := by decide +kernel
theorem dL_law_84 : decode cL_law 84 = .ok (.invokestatic 68, 3) := by decide +kernel
theorem dL_law_87 : decode cL_law 87 = .ok (.iload 5, 2) := by decide +kernel
theorem dL_law_89 : decode cL_law 89 = .ok (.iconst 1, 1) := by decide +kernel
theorem dL_law_90 : decode cL_law 90 = .ok (.if_icmp .le 7, 3) := by decide +kernel
theorem dL_law_93 : decode cL_law 93 = .ok (.iconst 1, 1) := by decide +kernel
theorem dL_law_94 : decode cL_law 94 = .ok (.goto 4, 3) := by decide +kernel
theorem dL_law_97 : decode cL_law 97 = .ok (.iconst 0, 1) := by decide +kernel
theorem dL_law_98 : decode cL_law 98 = .ok (.invokestatic 75, 3) := by decide +kernel
theorem dL_law_101 : decode cL_law 101 = .ok (.ifCond .eq 66, 3) := by decide +kernel
theorem dL_law_104 : decode cL_law 104 = .ok (.aload_n 1, 1) := by decide +kernel
theorem dL_law_105 : decode cL_law 105 = .ok (.aload_n 2, 1) := by decide +kernel
theorem dL_law_106 : decode cL_law 106 = .ok (.aload_n 0, 1) := by decide +kernel
theorem dL_law_107 : decode cL_law 107 = .ok (.iload 5, 2) := by decide +kernel
theorem dL_law_109 : decode cL_law 109 = .ok (.iconst 3, 1) := by decide +kernel
theorem dL_law_110 : decode cL_law 110 = .ok (.iadd, 1) := by decide +kernel
theorem dL_law_111 : decode cL_law 111 = .ok (.invokestatic 68, 3) := by decide +kernel
theorem dL_law_114 : decode cL_law 114 = .ok (.aload_n 0, 1) := by decide +kernel
theorem dL_law_115 : decode cL_law 115 = .ok (.iload 5, 2) := by decide +kernel
theorem dL_law_117 : decode cL_law 117 = .ok (.iconst 4, 1) := by decide +kernel
theorem dL_law_118 : decode cL_law 118 = .ok (.iadd, 1) := by decide +kernel
theorem dL_law_119 : decode cL_law 119 = .ok (.invokestatic 68, 3) := by decide +kernel
theorem dL_law_122 : decode cL_law 122 = .ok (.aload_n 0, 1) := by decide +kernel
theorem dL_law_123 : decode cL_law 123 = .ok (.iload 5, 2) := by decide +kernel
theorem dL_law_125 : decode cL_law 125 = .ok (.iconst 5, 1) := by decide +kernel
theorem dL_law_126 : decode cL_law 126 = .ok (.iadd, 1) := by decide +kernel
theorem dL_law_127 : decode cL_law 127 = .ok (.invokestatic 68, 3) := by decide +kernel
theorem dL_law_130 : decode cL_law 130 = .ok (.iconst 4, 1) := by decide +kernel
theorem dL_law_131 : decode cL_law 131 = .ok (.invokestatic 22, 3) := by decide +kernel
theorem dL_law_134 : decode cL_law 134 = .ok (.invokestatic 79, 3) := by decide +kernel
theorem dL_law_137 : decode cL_law 137 = .ok (.ifCond .eq 30, 3) := by decide +kernel
theorem dL_law_140 : decode cL_law 140 = .ok (.aload_n 1, 1) := by decide +kernel
theorem dL_law_141 : decode cL_law 141 = .ok (.aload_n 0, 1) := by decide +kernel
theorem dL_law_142 : decode cL_law 142 = .ok (.iload 5, 2) := by decide +kernel
theorem dL_law_144 : decode cL_law 144 = .ok (.iconst 2, 1) := by decide +kernel
theorem dL_law_145 : decode cL_law 145 = .ok (.iadd, 1) := by decide +kernel
theorem dL_law_146 : decode cL_law 146 = .ok (.invokestatic 68, 3) := by decide +kernel
theorem dL_law_149 : decode cL_law 149 = .ok (.aload_n 1, 1) := by decide +kernel
theorem dL_law_150 : decode cL_law 150 = .ok (.iconst 1, 1) := by decide +kernel
theorem dL_law_151 : decode cL_law 151 = .ok (.invokevirtual 9, 3) := by decide +kernel
theorem dL_law_154 : decode cL_law 154 = .ok (.invokestatic 22, 3) := by decide +kernel
theorem dL_law_157 : decode cL_law 157 = .ok (.invokestatic 83, 3) := by decide +kernel
theorem dL_law_160 : decode cL_law 160 = .ok (.ifCond .eq 7, 3) := by decide +kernel
theorem dL_law_163 : decode cL_law 163 = .ok (.iconst 1, 1) := by decide +kernel
theorem dL_law_164 : decode cL_law 164 = .ok (.goto 4, 3) := by decide +kernel
theorem dL_law_167 : decode cL_law 167 = .ok (.iconst 0, 1) := by decide +kernel
theorem dL_law_168 : decode cL_law 168 = .ok (.istore 4, 2) := by decide +kernel
theorem dL_law_170 : decode cL_law 170 = .ok (.iinc 5 6, 3) := by decide +kernel
theorem dL_law_173 : decode cL_law 173 = .ok (.goto (-122), 3) := by decide +kernel
theorem dL_law_176 : decode cL_law 176 = .ok (.iload 4, 2) := by decide +kernel
theorem dL_law_178 : decode cL_law 178 = .ok (.ifCond .eq 42, 3) := by decide +kernel
theorem dL_law_181 : decode cL_law 181 = .ok (.aload_n 1, 1) := by decide +kernel
theorem dL_law_182 : decode cL_law 182 = .ok (.aload_n 0, 1) := by decide +kernel
theorem dL_law_183 : decode cL_law 183 = .ok (.bipush 13, 2) := by decide +kernel
theorem dL_law_185 : decode cL_law 185 = .ok (.invokestatic 68, 3) := by decide +kernel
theorem dL_law_188 : decode cL_law 188 = .ok (.iconst 1, 1) := by decide +kernel
theorem dL_law_189 : decode cL_law 189 = .ok (.iload_n 3, 1) := by decide +kernel
theorem dL_law_190 : decode cL_law 190 = .ok (.iconst 1, 1) := by decide +kernel
theorem dL_law_191 : decode cL_law 191 = .ok (.isub, 1) := by decide +kernel
theorem dL_law_192 : decode cL_law 192 = .ok (.ishl, 1) := by decide +kernel
theorem dL_law_193 : decode cL_law 193 = .ok (.invokestatic 22, 3) := by decide +kernel
theorem dL_law_196 : decode cL_law 196 = .ok (.aload_n 0, 1) := by decide +kernel
theorem dL_law_197 : decode cL_law 197 = .ok (.bipush 14, 2) := by decide +kernel
theorem dL_law_199 : decode cL_law 199 = .ok (.invokestatic 68, 3) := by decide +kernel
theorem dL_law_202 : decode cL_law 202 = .ok (.iconst 1, 1) := by decide +kernel
theorem dL_law_203 : decode cL_law 203 = .ok (.iload_n 3, 1) := by decide +kernel
theorem dL_law_204 : decode cL_law 204 = .ok (.iconst 1, 1) := by decide +kernel
theorem dL_law_205 : decode cL_law 205 = .ok (.isub, 1) := by decide +kernel
theorem dL_law_206 : decode cL_law 206 = .ok (.ishl, 1) := by decide +kernel
theorem dL_law_207 : decode cL_law 207 = .ok (.invokestatic 22, 3) := by decide +kernel
theorem dL_law_210 : decode cL_law 210 = .ok (.invokestatic 87, 3) := by decide +kernel
theorem dL_law_213 : decode cL_law 213 = .ok (.ifCond .eq 7, 3) := by decide +kernel
theorem dL_law_216 : decode cL_law 216 = .ok (.iconst 1, 1) := by decide +kernel
theorem dL_law_217 : decode cL_law 217 = .ok (.goto 4, 3) := by decide +kernel
theorem dL_law_220 : decode cL_law 220 = .ok (.iconst 0, 1) := by decide +kernel
theorem dL_law_221 : decode cL_law 221 = .ok (.ireturn, 1) := by decide +kernel
