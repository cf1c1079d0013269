theorem dX13_another_79 : decode cX13_another 79 = .ok (.iload_n 3, 1) := by decide +kernel
theorem dX13_another_80 : decode cX13_another 80 = .ok (.iconst (-1), 1) := by decide +kernel
theorem dX13_another_81 : decode cX13_another 81 = .ok (.if_icmp .ne 12, 3) := by decide +kernel
theorem dX13_another_84 : decode cX13_another 84 = .ok (.bipush 10, 2) := by decide +kernel
theorem dX13_another_86 : decode cX13_another 86 = .ok (.iload 4, 2) := by decide +kernel
theorem dX13_another_88 : decode cX13_another 88 = .ok (.imul, 1) := by decide +kernel
theorem dX13_another_89 : decode cX13_another 89 = .ok (.iload 5, 2) := by decide +kernel
theorem dX13_another_91 : decode cX13_another 91 = .ok (.iadd, 1) := by decide +kernel
theorem dX13_another_92 : decode cX13_another 92 = .ok (.istore_n 3, 1) := by decide +kernel
theorem dX13_another_93 : decode cX13_another 93 = .ok (.iinc 5 1, 3) := by decide +kernel
theorem dX13_another_96 : decode cX13_another 96 = .ok (.goto (-43), 3) := by decide +kernel
theorem dX13_another_99 : decode cX13_another 99 = .ok (.iinc 4 1, 3) := by decide +kernel
theorem dX13_another_102 : decode cX13_another 102 = .ok (.goto (-59), 3) := by decide +kernel
theorem dX13_another_105 : decode cX13_another 105 = .ok (.iload_n 1, 1) := by decide +kernel
theorem dX13_another_106 : decode cX13_another 106 = .ok (.ifCond .ne 7, 3) := by decide +kernel
theorem dX13_another_109 : decode cX13_another 109 = .ok (.iload_n 2, 1) := by decide +kernel
theorem dX13_another_110 : decode cX13_another 110 = .ok (.goto 4, 3) := by decide +kernel
theorem dX13_another_113 : decode cX13_another 113 = .ok (.iload_n 3, 1) := by decide +kernel
theorem dX13_another_114 : decode cX13_another 114 = .ok (.ireturn, 1) := by decide +kernel
theorem dX13_next_0 : decode cX13_next 0 = .ok (.aload_n 0, 1) := by decide +kernel
theorem dX13_next_1 : decode cX13_next 1 = .ok (.iconst 0, 1) := by decide +kernel
theorem dX13_next_2 : decode cX13_next 2 = .ok (.putfield 141, 3) := by decide +kernel
theorem dX13_next_5 : decode cX13_next 5 = .ok (.aload_n 0, 1) := by decide +kernel
theorem dX13_next_6 : decode cX13_next 6 = .ok (.iload_n 1, 1) := by decide +kernel
theorem dX13_next_7 : decode cX13_next 7 = .ok (.iconst 1, 1) := by decide +kernel
theorem dX13_next_8 : decode cX13_next 8 = .ok (.invokevirtual 414, 3) := by decide +kernel
theorem dX13_next_11 : decode cX13_next 11 = .ok (.ifCond .ne 5, 3) := by decide +kernel
theorem dX13_next_14 : decode cX13_next 14 = .ok (.iconst 0, 1) := by decide +kernel
theorem dX13_next_15 : decode cX13_next 15 = .ok (.ireturn, 1) := by decide +kernel
theorem dX13_next_16 : decode cX13_next 16 = .ok (.iconst 0, 1) := by decide +kernel
theorem dX13_next_17 : decode cX13_next 17 = .ok (.istore_n 2, 1) := by decide +kernel
theorem dX13_next_18 : decode cX13_next 18 = .ok (.iconst 1, 1) := by decide +kernel
theorem dX13_next_19 : decode cX13_next 19 = .ok (.istore_n 3, 1) := by decide +kernel
theorem dX13_next_20 : decode cX13_next 20 = .ok (.iload_n 3, 1) := by decide +kernel
theorem dX13_next_21 : decode cX13_next 21 = .ok (.bipush 12, 2) := by decide +kernel
theorem dX13_next_23 : decode cX13_next 23 = .ok (.if_icmp .gt 78, 3) := by decide +kernel
theorem dX13_next_26 : decode cX13_next 26 = .ok (.iconst 0, 1) := by decide +kernel
theorem dX13_next_27 : decode cX13_next 27 = .ok (.istore 4, 2) := by decide +kernel
theorem dX13_next_29 : decode cX13_next 29 = .ok (.iload 4, 2) := by decide +kernel
theorem dX13_next_31 : decode cX13_next 31 = .ok (.aload_n 0, 1) := by decide +kernel
theorem dX13_next_32 : decode cX13_next 32 = .ok (.getfield 333, 3) := by decide +kernel
theorem dX13_next_35 : decode cX13_next 35 = .ok (.if_icmp .ge 60, 3) := by decide +kernel
theorem dX13_next_38 : decode cX13_next 38 = .ok (.aload_n 0, 1) := by decide +kernel
theorem dX13_next_39 : decode cX13_next 39 = .ok (.iload_n 3, 1) := by decide +kernel
theorem dX13_next_40 : decode cX13_next 40 = .ok (.iload 4, 2) := by decide +kernel
theorem dX13_next_42 : decode cX13_next 42 = .ok (.invokevirtual 474, 3) := by decide +kernel
theorem dX13_next_45 : decode cX13_next 45 = .ok (.ifCond .ne 6, 3) := by decide +kernel
theorem dX13_next_48 : decode cX13_next 48 = .ok (.goto 41, 3) := by decide +kernel
theorem dX13_next_51 : decode cX13_next 51 = .ok (.iconst 0, 1) := by decide +kernel
theorem dX13_next_52 : decode cX13_next 52 = .ok (.istore 5, 2) := by decide +kernel
theorem dX13_next_54 : decode cX13_next 54 = .ok (.iload 5, 2) := by decide +kernel
theorem dX13_next_56 : decode cX13_next 56 = .ok (.bipush 30, 2) := by decide +kernel
theorem dX13_next_58 : decode cX13_next 58 = .ok (.if_icmp .ge 28, 3) := by decide +kernel
theorem dX13_next_61 : decode cX13_next 61 = .ok (.aload_n 0, 1) := by decide +kernel
theorem dX13_next_62 : decode cX13_next 62 = .ok (.getfield 129, 3) := by decide +kernel
theorem dX13_next_65 : decode cX13_next 65 = .ok (.bipush 30, 2) := by decide +kernel
theorem dX13_next_67 : decode cX13_next 67 = .ok (.iload_n 2, 1) := by decide +kernel
theorem dX13_next_68 : decode cX13_next 68 = .ok (.imul, 1) := by decide +kernel
theorem dX13_next_69 : decode cX13_next 69 = .ok (.iload 5, 2) := by decide +kernel
theorem dX13_next_71 : decode cX13_next 71 = .ok (.iadd, 1) := by decide +kernel
theorem dX13_next_72 : decode cX13_next 72 = .ok (.aload_n 0, 1) := by decide +kernel
theorem dX13_next_73 : decode cX13_next 73 = .ok (.getfield 126, 3) := by decide +kernel
theorem dX13_next_76 : decode cX13_next 76 = .ok (.iload 5, 2) := by decide +kernel
theorem dX13_next_78 : decode cX13_next 78 = .ok (.iaload, 1) := by decide +kernel
theorem dX13_next_79 : decode cX13_next 79 = .ok (.iastore, 1) := by decide +kernel
theorem dX13_next_80 : decode cX13_next 80 = .ok (.iinc 5 1, 3) := by decide +kernel
theorem dX13_next_83 : decode cX13_next 83 = .ok (.goto (-29), 3) := by decide +kernel
theorem dX13_next_86 : decode cX13_next 86 = .ok (.iinc 2 1, 3) := by decide +kernel
theorem dX13_next_89 : decode cX13_next 89 = .ok (.iinc 4 1, 3) := by decide +kernel
theorem dX13_next_92 : decode cX13_next 92 = .ok (.goto (-63), 3) := by decide +kernel
theorem dX13_next_95 : decode cX13_next 95 = .ok (.iinc 3 1, 3) := by decide +kernel
theorem dX13_next_98 : decode cX13_next 98 = .ok (.goto (-78), 3) := by decide +kernel
theorem dX13_next_101 : decode cX13_next 101 = .ok (.iconst (-1), 1) := by decide +kernel
theorem dX13_next_102 : decode cX13_next 102 = .ok (.istore_n 3, 1) := by decide +kernel
theorem dX13_next_103 : decode cX13_next 103 = .ok (.iconst 0, 1) := by decide +kernel
theorem dX13_next_104 : decode cX13_next 104 = .ok (.istore 4, 2) := by decide +kernel
theorem dX13_next_106 : decode cX13_next 106 = .ok (.iconst 0, 1) := by decide +kernel
theorem dX13_next_107 : decode cX13_next 107 = .ok (.istore 5, 2) := by decide +kernel
theorem dX13_next_109 : decode cX13_next 109 = .ok (.iload 5, 2) := by decide +kernel
theorem dX13_next_111 : decode cX13_next 111 = .ok (.bipush 30, 2) := by decide +kernel
theorem dX13_next_113 : decode cX13_next 113 = .ok (.if_icmp .ge 121, 3) := by decide +kernel
theorem dX13_next_116 : decode cX13_next 116 = .ok (.iconst 0, 1) := by decide +kernel
theorem dX13_next_117 : decode cX13_next 117 = .ok (.istore 6, 2) := by decide +kernel
theorem dX13_next_119 : decode cX13_next 119 = .ok (.iconst 0, 1) := by decide +kernel
theorem dX13_next_120 : decode cX13_next 120 = .ok (.istore 7, 2) := by decide +kernel
theorem dX13_next_122 : decode cX13_next 122 = .ok (.iload 7, 2) := by decide +kernel
theorem dX13_next_124 : decode cX13_next 124 = .ok (.iload_n 2, 1) := by decide +kernel
theorem dX13_next_125 : decode cX13_next 125 = .ok (.if_icmp .ge 84, 3) := by decide +kernel
theorem dX13_next_128 : decode cX13_next 128 = .ok (.iconst 1, 1) := by decide +kernel
theorem dX13_next_129 : decode cX13_next 129 = .ok (.istore 8, 2) := by decide +kernel
theorem dX13_next_131 : decode cX13_next 131 = .ok (.iconst 0, 1) := by decide +kernel
theorem dX13_next_132 : decode cX13_next 132 = .ok (.istore 9, 2) := by decide +kernel
theorem dX13_next_134 : decode cX13_next 134 = .ok (.iload 9, 2) := by decide +kernel
theorem dX13_next_136 : decode cX13_next 136 = .ok (.iload 7, 2) := by decide +kernel
theorem dX13_next_138 : decode cX13_next 138 = .ok (.if_icmp .ge 50, 3) := by decide +kernel
theorem dX13_next_141 : decode cX13_next 141 = .ok (.iload 8, 2) := by decide +kernel
theorem dX13_next_143 : decode cX13_next 143 = .ok (.ifCond .eq 45, 3) := by decide +kernel
theorem dX13_next_146 : decode cX13_next 146 = .ok (.aload_n 0, 1) := by decide +kernel
theorem dX13_next_147 : decode cX13_next 147 = .ok (.getfield 129, 3) := by decide +kernel
theorem dX13_next_150 : decode cX13_next 150 = .ok (.bipush 30, 2) := by decide +kernel
theorem dX13_next_152 : decode cX13_next 152 = .ok (.iload 7, 2) := by decide +kernel
theorem dX13_next_154 : decode cX13_next 154 = .ok (.imul, 1) := by decide +kernel
theorem dX13_next_155 : decode cX13_next 155 = .ok (.iload 5, 2) := by decide +kernel
theorem dX13_next_157 : decode cX13_next 157 = .ok (.iadd, 1) := by decide +kernel
theorem dX13_next_158 : decode cX13_next 158 = .ok (.iaload, 1) := by decide +kernel
theorem dX13_next_159 : decode cX13_next 159 = .ok (.aload_n 0, 1) := by decide +kernel
theorem dX13_next_160 : decode cX13_next 160 = .ok (.getfield 129, 3) := by decide +kernel
theorem dX13_next_163 : decode cX13_next 163 = .ok (.bipush 30, 2) := by decide +kernel
theorem dX13_next_165 : decode cX13_next 165 = .ok (.iload 9, 2) := by decide +kernel
theorem dX13_next_167 : decode cX13_next 167 = .ok (.imul, 1) := by decide +kernel
theorem dX13_next_168 : decode cX13_next 168 = .ok (.iload 5, 2) := by decide +kernel
theorem dX13_next_170 : decode cX13_next 170 = .ok (.iadd, 1) := by decide +kernel
theorem dX13_next_171 : decode cX13_next 171 = .ok (.iaload, 1) := by decide +kernel
theorem dX13_next_172 : decode cX13_next 172 = .ok (.if_icmp .eq 7, 3) := by decide +kernel
theorem dX13_next_175 : decode cX13_next 175 = .ok (.iconst 1, 1) := by decide +kernel
theorem dX13_next_176 : decode cX13_next 176 = .ok (.goto 4, 3) := by decide +kernel
theorem dX13_next_179 : decode cX13_next 179 = .ok (.iconst 0, 1) := by decide +kernel
theorem dX13_next_180 : decode cX13_next 180 = .ok (.istore 8, 2) := by decide +kernel
theorem dX13_next_182 : decode cX13_next 182 = .ok (.iinc 9 1, 3) := by decide +kernel
theorem dX13_next_185 : decode cX13_next 185 = .ok (.goto (-51), 3) := by decide +kernel
theorem dX13_next_188 : decode cX13_next 188 = .ok (.iload 6, 2) := by decide +kernel
theorem dX13_next_190 : decode cX13_next 190 = .ok (.iload 8, 2) := by decide +kernel
theorem dX13_next_192 : decode cX13_next 192 = .ok (.ifCond .eq 7, 3) := by decide +kernel
theorem dX13_next_195 : decode cX13_next 195 = .ok (.iconst 1, 1) := by decide +kernel
theorem dX13_next_196 : decode cX13_next 196 = .ok (.goto 4, 3) := by decide +kernel
theorem dX13_next_199 : decode cX13_next 199 = .ok (.iconst 0, 1) := by decide +kernel
theorem dX13_next_200 : decode cX13_next 200 = .ok (.iadd, 1) := by decide +kernel
theorem dX13_next_201 : decode cX13_next 201 = .ok (.istore 6, 2) := by decide +kernel
theorem dX13_next_203 : decode cX13_next 203 = .ok (.iinc 7 1, 3) := by decide +kernel
theorem dX13_next_206 : decode cX13_next 206 = .ok (.goto (-84), 3) := by decide +kernel
theorem dX13_next_209 : decode cX13_next 209 = .ok (.iload 6, 2) := by decide +kernel
theorem dX13_next_211 : decode cX13_next 211 = .ok (.iload 4, 2) := by decide +kernel
theorem dX13_next_213 : decode cX13_next 213 = .ok (.if_icmp .gt 6, 3) := by decide +kernel
theorem dX13_next_216 : decode cX13_next 216 = .ok (.goto 12, 3) := by decide +kernel
theorem dX13_next_219 : decode cX13_next 219 = .ok (.iload 5, 2) := by decide +kernel
theorem dX13_next_221 : decode cX13_next 221 = .ok (.iconst 1, 1) := by decide +kernel
theorem dX13_next_222 : decode cX13_next 222 = .ok (.iadd, 1) := by decide +kernel
theorem dX13_next_223 : decode cX13_next 223 = .ok (.istore_n 3, 1) := by decide +kernel
theorem dX13_next_224 : decode cX13_next 224 = .ok (.iload 6, 2) := by decide +kernel
theorem dX13_next_226 : decode cX13_next 226 = .ok (.istore 4, 2) := by decide +kernel
theorem dX13_next_228 : decode cX13_next 228 = .ok (.iinc 5 1, 3) := by decide +kernel
theorem dX13_next_231 : decode cX13_next 231 = .ok (.goto (-122), 3) := by decide +kernel
theorem dX13_next_234 : decode cX13_next 234 = .ok (.iload_n 1, 1) := by decide +kernel
theorem dX13_next_235 : decode cX13_next 235 = .ok (.ifCond .ne 7, 3) := by decide +kernel
theorem dX13_next_238 : decode cX13_next 238 = .ok (.iload_n 3, 1) := by decide +kernel
theorem dX13_next_239 : decode cX13_next 239 = .ok (.goto 5, 3) := by decide +kernel
theorem dX13_next_242 : decode cX13_next 242 = .ok (.iload 4, 2) := by decide +kernel
theorem dX13_next_244 : decode cX13_next 244 = .ok (.ireturn, 1) := by decide +kernel
theorem dX13_gains_0 : decode cX13_gains 0 = .ok (.aload_n 0, 1) := by decide +kernel
theorem dX13_gains_1 : decode cX13_gains 1 = .ok (.iconst 0, 1) := by decide +kernel
theorem dX13_gains_2 : decode cX13_gains 2 = .ok (.bipush 31, 2) := by decide +kernel
theorem dX13_gains_4 : decode cX13_gains 4 = .ok (.invokevirtual 432, 3) := by decide +kernel
theorem dX13_gains_7 : decode cX13_gains 7 = .ok (.iconst 0, 1) := by decide +kernel
theorem dX13_gains_8 : decode cX13_gains 8 = .ok (.istore 4, 2) := by decide +kernel
theorem dX13_gains_10 : decode cX13_gains 10 = .ok (.iconst 0, 1) := by decide +kernel
theorem dX13_gains_11 : decode cX13_gains 11 = .ok (.istore 5, 2) := by decide +kernel
theorem dX13_gains_13 : decode cX13_gains 13 = .ok (.iload 5, 2) := by decide +kernel
theorem dX13_gains_15 : decode cX13_gains 15 = .ok (.iload_n 1, 1) := by decide +kernel
theorem dX13_gains_16 : decode cX13_gains 16 = .ok (.if_icmp .gt 69, 3) := by decide +kernel
theorem dX13_gains_19 : decode cX13_gains 19 = .ok (.aload_n 0, 1) := by decide +kernel
theorem dX13_gains_20 : decode cX13_gains 20 = .ok (.bipush 31, 2) := by decide +kernel
theorem dX13_gains_22 : decode cX13_gains 22 = .ok (.aload_n 0, 1) := by decide +kernel
theorem dX13_gains_23 : decode cX13_gains 23 = .ok (.aload_n 0, 1) := by decide +kernel
theorem dX13_gains_24 : decode cX13_gains 24 = .ok (.getfield 108, 3) := by decide +kernel
theorem dX13_gains_27 : decode cX13_gains 27 = .ok (.bipush 34, 2) := by decide +kernel
theorem dX13_gains_29 : decode cX13_gains 29 = .ok (.iaload, 1) := by decide +kernel
theorem dX13_gains_30 : decode cX13_gains 30 = .ok (.invokevirtual 387, 3) := by decide +kernel
theorem dX13_gains_33 : decode cX13_gains 33 = .ok (.invokevirtual 390, 3) := by decide +kernel
theorem dX13_gains_36 : decode cX13_gains 36 = .ok (.iload 5, 2) := by decide +kernel
theorem dX13_gains_38 : decode cX13_gains 38 = .ok (.ifCond .ne 7, 3) := by decide +kernel
theorem dX13_gains_41 : decode cX13_gains 41 = .ok (.iload_n 2, 1) := by decide +kernel
theorem dX13_gains_42 : decode cX13_gains 42 = .ok (.goto 4, 3) := by decide +kernel
theorem dX13_gains_45 : decode cX13_gains 45 = .ok (.iload_n 3, 1) := by decide +kernel
theorem dX13_gains_46 : decode cX13_gains 46 = .ok (.istore 6, 2) := by decide +kernel
theorem dX13_gains_48 : decode cX13_gains 48 = .ok (.aload_n 0, 1) := by decide +kernel
theorem dX13_gains_49 : decode cX13_gains 49 = .ok (.bipush 31, 2) := by decide +kernel
theorem dX13_gains_51 : decode cX13_gains 51 = .ok (.iload 6, 2) := by decide +kernel
theorem dX13_gains_53 : decode cX13_gains 53 = .ok (.invokevirtual 396, 3) := by decide +kernel
theorem dX13_gains_56 : decode cX13_gains 56 = .ok (.ifCond .eq 13, 3) := by decide +kernel
theorem dX13_gains_59 : decode cX13_gains 59 = .ok (.aload_n 0, 1) := by decide +kernel
theorem dX13_gains_60 : decode cX13_gains 60 = .ok (.getfield 26, 3) := by decide +kernel
theorem dX13_gains_63 : decode cX13_gains 63 = .ok (.iload 6, 2) := by decide +kernel
theorem dX13_gains_65 : decode cX13_gains 65 = .ok (.iaload, 1) := by decide +kernel
theorem dX13_gains_66 : decode cX13_gains 66 = .ok (.goto 4, 3) := by decide +kernel
theorem dX13_gains_69 : decode cX13_gains 69 = .ok (.iconst 0, 1) := by decide +kernel
theorem dX13_gains_70 : decode cX13_gains 70 = .ok (.istore 4, 2) := by decide +kernel
theorem dX13_gains_72 : decode cX13_gains 72 = .ok (.aload_n 0, 1) := by decide +kernel
theorem dX13_gains_73 : decode cX13_gains 73 = .ok (.bipush 31, 2) := by decide +kernel
theorem dX13_gains_75 : decode cX13_gains 75 = .ok (.iconst 1, 1) := by decide +kernel
theorem dX13_gains_76 : decode cX13_gains 76 = .ok (.invokevirtual 400, 3) := by decide +kernel
theorem dX13_gains_79 : decode cX13_gains 79 = .ok (.iinc 5 1, 3) := by decide +kernel
theorem dX13_gains_82 : decode cX13_gains 82 = .ok (.goto (-69), 3) := by decide +kernel
theorem dX13_gains_85 : decode cX13_gains 85 = .ok (.iload_n 2, 1) := by decide +kernel
theorem dX13_gains_86 : decode cX13_gains 86 = .ok (.iload_n 3, 1) := by decide +kernel
theorem dX13_gains_87 : decode cX13_gains 87 = .ok (.if_icmp .ne 10, 3) := by decide +kernel
theorem dX13_gains_90 : decode cX13_gains 90 = .ok (.iload 4, 2) := by decide +kernel
theorem dX13_gains_92 : decode cX13_gains 92 = .ok (.iconst 3, 1) := by decide +kernel
theorem dX13_gains_93 : decode cX13_gains 93 = .ok (.isub, 1) := by decide +kernel
theorem dX13_gains_94 : decode cX13_gains 94 = .ok (.goto 5, 3) := by decide +kernel
theorem dX13_gains_97 : decode cX13_gains 97 = .ok (.iload 4, 2) := by decide +kernel
theorem dX13_gains_99 : decode cX13_gains 99 = .ok (.ireturn, 1) := by decide +kernel
theorem dX13_game_0 : decode cX13_game 0 = .ok (.aload_n 0, 1) := by decide +kernel
theorem dX13_game_1 : decode cX13_game 1 = .ok (.iconst 0, 1) := by decide +kernel
theorem dX13_game_2 : decode cX13_game 2 = .ok (.putfield 141, 3) := by decide +kernel
theorem dX13_game_5 : decode cX13_game 5 = .ok (.aload_n 0, 1) := by decide +kernel
theorem dX13_game_6 : decode cX13_game 6 = .ok (.iload_n 1, 1) := by decide +kernel
theorem dX13_game_7 : decode cX13_game 7 = .ok (.invokevirtual 411, 3) := by decide +kernel
theorem dX13_game_10 : decode cX13_game 10 = .ok (.ifCond .eq 38, 3) := by decide +kernel
theorem dX13_game_13 : decode cX13_game 13 = .ok (.aload_n 0, 1) := by decide +kernel
theorem dX13_game_14 : decode cX13_game 14 = .ok (.iload_n 2, 1) := by decide +kernel
theorem dX13_game_15 : decode cX13_game 15 = .ok (.invokevirtual 411, 3) := by decide +kernel
theorem dX13_game_18 : decode cX13_game 18 = .ok (.ifCond .eq 30, 3) := by decide +kernel
theorem dX13_game_21 : decode cX13_game 21 = .ok (.aload_n 0, 1) := by decide +kernel
theorem dX13_game_22 : decode cX13_game 22 = .ok (.iload_n 3, 1) := by decide +kernel
theorem dX13_game_23 : decode cX13_game 23 = .ok (.iconst 1, 1) := by decide +kernel
theorem dX13_game_24 : decode cX13_game 24 = .ok (.invokevirtual 414, 3) := by decide +kernel
theorem dX13_game_27 : decode cX13_game 27 = .ok (.ifCond .eq 21, 3) := by decide +kernel
theorem dX13_game_30 : decode cX13_game 30 = .ok (.aload_n 0, 1) := by decide +kernel
theorem dX13_game_31 : decode cX13_game 31 = .ok (.iload_n 1, 1) := by decide +kernel
theorem dX13_game_32 : decode cX13_game 32 = .ok (.iload_n 2, 1) := by decide +kernel
theorem dX13_game_33 : decode cX13_game 33 = .ok (.if_icmp .eq 7, 3) := by decide +kernel
theorem dX13_game_36 : decode cX13_game 36 = .ok (.iconst 1, 1) := by decide +kernel
theorem dX13_game_37 : decode cX13_game 37 = .ok (.goto 4, 3) := by decide +kernel
theorem dX13_game_40 : decode cX13_game 40 = .ok (.iconst 0, 1) := by decide +kernel
theorem dX13_game_41 : decode cX13_game 41 = .ok (.iconst 2, 1) := by decide +kernel
theorem dX13_game_42 : decode cX13_game 42 = .ok (.invokevirtual 326, 3) := by decide +kernel
theorem dX13_game_45 : decode cX13_game 45 = .ok (.ifCond .ne 5, 3) := by decide +kernel
theorem dX13_game_48 : decode cX13_game 48 = .ok (.iconst 0, 1) := by decide +kernel
theorem dX13_game_49 : decode cX13_game 49 = .ok (.ireturn, 1) := by decide +kernel
theorem dX13_game_50 : decode cX13_game 50 = .ok (.iconst 0, 1) := by decide +kernel
theorem dX13_game_51 : decode cX13_game 51 = .ok (.istore 4, 2) := by decide +kernel
theorem dX13_game_53 : decode cX13_game 53 = .ok (.iconst (-1), 1) := by decide +kernel
theorem dX13_game_54 : decode cX13_game 54 = .ok (.istore 5, 2) := by decide +kernel
theorem dX13_game_56 : decode cX13_game 56 = .ok (.iconst 0, 1) := by decide +kernel
theorem dX13_game_57 : decode cX13_game 57 = .ok (.istore 6, 2) := by decide +kernel
theorem dX13_game_59 : decode cX13_game 59 = .ok (.iload 6, 2) := by decide +kernel
theorem dX13_game_61 : decode cX13_game 61 = .ok (.iconst 4, 1) := by decide +kernel
theorem dX13_game_62 : decode cX13_game 62 = .ok (.if_icmp .ge 133, 3) := by decide +kernel
theorem dX13_game_65 : decode cX13_game 65 = .ok (.iload 6, 2) := by decide +kernel
theorem dX13_game_67 : decode cX13_game 67 = .ok (.iconst 2, 1) := by decide +kernel
theorem dX13_game_68 : decode cX13_game 68 = .ok (.idiv, 1) := by decide +kernel
theorem dX13_game_69 : decode cX13_game 69 = .ok (.ifCond .ne 7, 3) := by decide +kernel
theorem dX13_game_72 : decode cX13_game 72 = .ok (.iload_n 1, 1) := by decide +kernel
theorem dX13_game_73 : decode cX13_game 73 = .ok (.goto 4, 3) := by decide +kernel
theorem dX13_game_76 : decode cX13_game 76 = .ok (.iload_n 2, 1) := by decide +kernel
theorem dX13_game_77 : decode cX13_game 77 = .ok (.istore 7, 2) := by decide +kernel
theorem dX13_game_79 : decode cX13_game 79 = .ok (.iload 6, 2) := by decide +kernel
theorem dX13_game_81 : decode cX13_game 81 = .ok (.iconst 2, 1) := by decide +kernel
theorem dX13_game_82 : decode cX13_game 82 = .ok (.idiv, 1) := by decide +kernel
theorem dX13_game_83 : decode cX13_game 83 = .ok (.ifCond .ne 7, 3) := by decide +kernel
theorem dX13_game_86 : decode cX13_game 86 = .ok (.iload_n 2, 1) := by decide +kernel
theorem dX13_game_87 : decode cX13_game 87 = .ok (.goto 4, 3) := by decide +kernel
theorem dX13_game_90 : decode cX13_game 90 = .ok (.iload_n 1, 1) := by decide +kernel
theorem dX13_game_91 : decode cX13_game 91 = .ok (.istore 8, 2) := by decide +kernel
theorem dX13_game_93 : decode cX13_game 93 = .ok (.iload 6, 2) := by decide +kernel
theorem dX13_game_95 : decode cX13_game 95 = .ok (.iconst 2, 1) := by decide +kernel
theorem dX13_game_96 : decode cX13_game 96 = .ok (.irem, 1) := by decide +kernel
theorem dX13_game_97 : decode cX13_game 97 = .ok (.ifCond .ne 7, 3) := by decide +kernel
theorem dX13_game_100 : decode cX13_game 100 = .ok (.iload_n 1, 1) := by decide +kernel
theorem dX13_game_101 : decode cX13_game 101 = .ok (.goto 4, 3) := by decide +kernel
theorem dX13_game_104 : decode cX13_game 104 = .ok (.iload_n 2, 1) := by decide +kernel
theorem dX13_game_105 : decode cX13_game 105 = .ok (.istore 9, 2) := by decide +kernel
theorem dX13_game_107 : decode cX13_game 107 = .ok (.iload 6, 2) := by decide +kernel
theorem dX13_game_109 : decode cX13_game 109 = .ok (.iconst 2, 1) := by decide +kernel
theorem dX13_game_110 : decode cX13_game 110 = .ok (.irem, 1) := by decide +kernel
theorem dX13_game_111 : decode cX13_game 111 = .ok (.ifCond .ne 7, 3) := by decide +kernel
theorem dX13_game_114 : decode cX13_game 114 = .ok (.iload_n 2, 1) := by decide +kernel
theorem dX13_game_115 : decode cX13_game 115 = .ok (.goto 4, 3) := by decide +kernel
theorem dX13_game_118 : decode cX13_game 118 = .ok (.iload_n 1, 1) := by decide +kernel
theorem dX13_game_119 : decode cX13_game 119 = .ok (.istore 10, 2) := by decide +kernel
theorem dX13_game_121 : decode cX13_game 121 = .ok (.aload_n 0, 1) := by decide +kernel
theorem dX13_game_122 : decode cX13_game 122 = .ok (.iconst 0, 1) := by decide +kernel
theorem dX13_game_123 : decode cX13_game 123 = .ok (.iload 8, 2) := by decide +kernel
theorem dX13_game_125 : decode cX13_game 125 = .ok (.iload 9, 2) := by decide +kernel
theorem dX13_game_127 : decode cX13_game 127 = .ok (.invokevirtual 477, 3) := by decide +kernel
theorem dX13_game_130 : decode cX13_game 130 = .ok (.aload_n 0, 1) := by decide +kernel
theorem dX13_game_131 : decode cX13_game 131 = .ok (.iconst 0, 1) := by decide +kernel
theorem dX13_game_132 : decode cX13_game 132 = .ok (.iload 7, 2) := by decide +kernel
theorem dX13_game_134 : decode cX13_game 134 = .ok (.iload 9, 2) := by decide +kernel
theorem dX13_game_136 : decode cX13_game 136 = .ok (.invokevirtual 477, 3) := by decide +kernel
theorem dX13_game_139 : decode cX13_game 139 = .ok (.if_icmp .gt 50, 3) := by decide +kernel
theorem dX13_game_142 : decode cX13_game 142 = .ok (.aload_n 0, 1) := by decide +kernel
theorem dX13_game_143 : decode cX13_game 143 = .ok (.iconst 1, 1) := by decide +kernel
theorem dX13_game_144 : decode cX13_game 144 = .ok (.iload 7, 2) := by decide +kernel
theorem dX13_game_146 : decode cX13_game 146 = .ok (.iload 10, 2) := by decide +kernel
theorem dX13_game_148 : decode cX13_game 148 = .ok (.invokevirtual 477, 3) := by decide +kernel
theorem dX13_game_151 : decode cX13_game 151 = .ok (.aload_n 0, 1) := by decide +kernel
theorem dX13_game_152 : decode cX13_game 152 = .ok (.iconst 1, 1) := by decide +kernel
theorem dX13_game_153 : decode cX13_game 153 = .ok (.iload 7, 2) := by decide +kernel
theorem dX13_game_155 : decode cX13_game 155 = .ok (.iload 9, 2) := by decide +kernel
theorem dX13_game_157 : decode cX13_game 157 = .ok (.invokevirtual 477, 3) := by decide +kernel
theorem dX13_game_160 : decode cX13_game 160 = .ok (.if_icmp .le 6, 3) := by decide +kernel
theorem dX13_game_163 : decode cX13_game 163 = .ok (.goto 26, 3) := by decide +kernel
theorem dX13_game_166 : decode cX13_game 166 = .ok (.iinc 4 1, 3) := by decide +kernel
theorem dX13_game_169 : decode cX13_game 169 = .ok (.iload 5, 2) := by decide +kernel
theorem dX13_game_171 : decode cX13_game 171 = .ok (.iconst (-1), 1) := by decide +kernel
theorem dX13_game_172 : decode cX13_game 172 = .ok (.if_icmp .ne 17, 3) := by decide +kernel
theorem dX13_game_175 : decode cX13_game 175 = .ok (.bipush 10, 2) := by decide +kernel
theorem dX13_game_177 : decode cX13_game 177 = .ok (.iload 6, 2) := by decide +kernel
theorem dX13_game_179 : decode cX13_game 179 = .ok (.iconst 2, 1) := by decide +kernel
theorem dX13_game_180 : decode cX13_game 180 = .ok (.idiv, 1) := by decide +kernel
theorem dX13_game_181 : decode cX13_game 181 = .ok (.imul, 1) := by decide +kernel
theorem dX13_game_182 : decode cX13_game 182 = .ok (.iload 6, 2) := by decide +kernel
theorem dX13_game_184 : decode cX13_game 184 = .ok (.iconst 2, 1) := by decide +kernel
theorem dX13_game_185 : decode cX13_game 185 = .ok (.irem, 1) := by decide +kernel
theorem dX13_game_186 : decode cX13_game 186 = .ok (.iadd, 1) := by decide +kernel
theorem dX13_game_187 : decode cX13_game 187 = .ok (.istore 5, 2) := by decide +kernel
theorem dX13_game_189 : decode cX13_game 189 = .ok (.iinc 6 1, 3) := by decide +kernel
theorem dX13_game_192 : decode cX13_game 192 = .ok (.goto (-133), 3) := by decide +kernel
theorem dX13_game_195 : decode cX13_game 195 = .ok (.iload_n 3, 1) := by decide +kernel
theorem dX13_game_196 : decode cX13_game 196 = .ok (.ifCond .ne 8, 3) := by decide +kernel
theorem dX13_game_199 : decode cX13_game 199 = .ok (.iload 4, 2) := by decide +kernel
theorem dX13_game_201 : decode cX13_game 201 = .ok (.goto 5, 3) := by decide +kernel
theorem dX13_game_204 : decode cX13_game 204 = .ok (.iload 5, 2) := by decide +kernel
theorem dX13_game_206 : decode cX13_game 206 = .ok (.ireturn, 1) := by decide +kernel
theorem dX13_draw_0 : decode cX13_draw 0 = .ok (.aload_n 0, 1) := by decide +kernel
theorem dX13_draw_1 : decode cX13_draw 1 = .ok (.aload_n 0, 1) := by decide +kernel
theorem dX13_draw_2 : decode cX13_draw 2 = .ok (.getfield 480, 3) := by decide +kernel
theorem dX13_draw_5 : decode cX13_draw 5 = .ok (.ldc_w 483, 3) := by decide +kernel
theorem dX13_draw_8 : decode cX13_draw 8 = .ok (.imul, 1) := by decide +kernel
theorem dX13_draw_9 : decode cX13_draw 9 = .ok (.sipush 12345, 3) := by decide +kernel
theorem dX13_draw_12 : decode cX13_draw 12 = .ok (.iadd, 1) := by decide +kernel
theorem dX13_draw_13 : decode cX13_draw 13 = .ok (.putfield 480, 3) := by decide +kernel
theorem dX13_draw_16 : decode cX13_draw 16 = .ok (.aload_n 0, 1) := by decide +kernel
theorem dX13_draw_17 : decode cX13_draw 17 = .ok (.getfield 480, 3) := by decide +kernel
theorem dX13_draw_20 : decode cX13_draw 20 = .ok (.bipush 16, 2) := by decide +kernel
theorem dX13_draw_22 : decode cX13_draw 22 = .ok (.ishr, 1) := by decide +kernel
theorem dX13_draw_23 : decode cX13_draw 23 = .ok (.sipush 32767, 3) := by decide +kernel
theorem dX13_draw_26 : decode cX13_draw 26 = .ok (.iand, 1) := by decide +kernel
theorem dX13_draw_27 : decode cX13_draw 27 = .ok (.iload_n 1, 1) := by decide +kernel
theorem dX13_draw_28 : decode cX13_draw 28 = .ok (.irem, 1) := by decide +kernel
theorem dX13_draw_29 : decode cX13_draw 29 = .ok (.ireturn, 1) := by decide +kernel
theorem dX13_cities_0 : decode cX13_cities 0 = .ok (.aload_n 0, 1) := by decide +kernel
theorem dX13_cities_1 : decode cX13_cities 1 = .ok (.iconst 0, 1) := by decide +kernel
theorem dX13_cities_2 : decode cX13_cities 2 = .ok (.putfield 141, 3) := by decide +kernel
theorem dX13_cities_5 : decode cX13_cities 5 = .ok (.aload_n 0, 1) := by decide +kernel
theorem dX13_cities_6 : decode cX13_cities 6 = .ok (.iload_n 3, 1) := by decide +kernel
theorem dX13_cities_7 : decode cX13_cities 7 = .ok (.iconst 2, 1) := by decide +kernel
theorem dX13_cities_8 : decode cX13_cities 8 = .ok (.invokevirtual 414, 3) := by decide +kernel
theorem dX13_cities_11 : decode cX13_cities 11 = .ok (.ifCond .eq 18, 3) := by decide +kernel
theorem dX13_cities_14 : decode cX13_cities 14 = .ok (.aload_n 0, 1) := by decide +kernel
theorem dX13_cities_15 : decode cX13_cities 15 = .ok (.iload_n 2, 1) := by decide +kernel
theorem dX13_cities_16 : decode cX13_cities 16 = .ok (.iconst 0, 1) := by decide +kernel
theorem dX13_cities_17 : decode cX13_cities 17 = .ok (.bipush 60, 2) := by decide +kernel
theorem dX13_cities_19 : decode cX13_cities 19 = .ok (.invokestatic 407, 3) := by decide +kernel
theorem dX13_cities_22 : decode cX13_cities 22 = .ok (.iconst 2, 1) := by decide +kernel
theorem dX13_cities_23 : decode cX13_cities 23 = .ok (.invokevirtual 326, 3) := by decide +kernel
theorem dX13_cities_26 : decode cX13_cities 26 = .ok (.ifCond .ne 5, 3) := by decide +kernel
theorem dX13_cities_29 : decode cX13_cities 29 = .ok (.iconst 0, 1) := by decide +kernel
theorem dX13_cities_30 : decode cX13_cities 30 = .ok (.ireturn, 1) := by decide +kernel
theorem dX13_cities_31 : decode cX13_cities 31 = .ok (.aload_n 0, 1) := by decide +kernel
theorem dX13_cities_32 : decode cX13_cities 32 = .ok (.iconst 0, 1) := by decide +kernel
theorem dX13_cities_33 : decode cX13_cities 33 = .ok (.bipush 31, 2) := by decide +kernel
theorem dX13_cities_35 : decode cX13_cities 35 = .ok (.invokevirtual 432, 3) := by decide +kernel
theorem dX13_cities_38 : decode cX13_cities 38 = .ok (.aload_n 0, 1) := by decide +kernel
theorem dX13_cities_39 : decode cX13_cities 39 = .ok (.iload_n 1, 1) := by decide +kernel
theorem dX13_cities_40 : decode cX13_cities 40 = .ok (.putfield 480, 3) := by decide +kernel
theorem dX13_cities_43 : decode cX13_cities 43 = .ok (.iconst 0, 1) := by decide +kernel
theorem dX13_cities_44 : decode cX13_cities 44 = .ok (.istore 4, 2) := by decide +kernel
theorem dX13_cities_46 : decode cX13_cities 46 = .ok (.iload 4, 2) := by decide +kernel
theorem dX13_cities_48 : decode cX13_cities 48 = .ok (.iload_n 2, 1) := by decide +kernel
theorem dX13_cities_49 : decode cX13_cities 49 = .ok (.if_icmp .ge 85, 3) := by decide +kernel
theorem dX13_cities_52 : decode cX13_cities 52 = .ok (.aload_n 0, 1) := by decide +kernel
theorem dX13_cities_53 : decode cX13_cities 53 = .ok (.bipush 60, 2) := by decide +kernel
theorem dX13_cities_55 : decode cX13_cities 55 = .ok (.invokevirtual 484, 3) := by decide +kernel
theorem dX13_cities_58 : decode cX13_cities 58 = .ok (.istore 5, 2) := by decide +kernel
theorem dX13_cities_60 : decode cX13_cities 60 = .ok (.aload_n 0, 1) := by decide +kernel
theorem dX13_cities_61 : decode cX13_cities 61 = .ok (.bipush 9, 2) := by decide +kernel
theorem dX13_cities_63 : decode cX13_cities 63 = .ok (.invokevirtual 484, 3) := by decide +kernel
theorem dX13_cities_66 : decode cX13_cities 66 = .ok (.ifCond .ne 27, 3) := by decide +kernel
theorem dX13_cities_69 : decode cX13_cities 69 = .ok (.aload_n 0, 1) := by decide +kernel
theorem dX13_cities_70 : decode cX13_cities 70 = .ok (.getfield 108, 3) := by decide +kernel
theorem dX13_cities_73 : decode cX13_cities 73 = .ok (.bipush 35, 2) := by decide +kernel
theorem dX13_cities_75 : decode cX13_cities 75 = .ok (.iconst 1, 1) := by decide +kernel
theorem dX13_cities_76 : decode cX13_cities 76 = .ok (.aload_n 0, 1) := by decide +kernel
theorem dX13_cities_77 : decode cX13_cities 77 = .ok (.getfield 108, 3) := by decide +kernel
theorem dX13_cities_80 : decode cX13_cities 80 = .ok (.bipush 35, 2) := by decide +kernel
theorem dX13_cities_82 : decode cX13_cities 82 = .ok (.iaload, 1) := by decide +kernel
theorem dX13_cities_83 : decode cX13_cities 83 = .ok (.isub, 1) := by decide +kernel
theorem dX13_cities_84 : decode cX13_cities 84 = .ok (.iastore, 1) := by decide +kernel
theorem dX13_cities_85 : decode cX13_cities 85 = .ok (.aload_n 0, 1) := by decide +kernel
theorem dX13_cities_86 : decode cX13_cities 86 = .ok (.getfield 108, 3) := by decide +kernel
theorem dX13_cities_89 : decode cX13_cities 89 = .ok (.bipush 36, 2) := by decide +kernel
theorem dX13_cities_91 : decode cX13_cities 91 = .ok (.iconst 0, 1) := by decide +kernel
theorem dX13_cities_92 : decode cX13_cities 92 = .ok (.iastore, 1) := by decide +kernel
theorem dX13_cities_93 : decode cX13_cities 93 = .ok (.aload_n 0, 1) := by decide +kernel
theorem dX13_cities_94 : decode cX13_cities 94 = .ok (.bipush 31, 2) := by decide +kernel
theorem dX13_cities_96 : decode cX13_cities 96 = .ok (.iload 5, 2) := by decide +kernel
theorem dX13_cities_98 : decode cX13_cities 98 = .ok (.invokevirtual 390, 3) := by decide +kernel
theorem dX13_cities_101 : decode cX13_cities 101 = .ok (.aload_n 0, 1) := by decide +kernel
theorem dX13_cities_102 : decode cX13_cities 102 = .ok (.bipush 31, 2) := by decide +kernel
theorem dX13_cities_104 : decode cX13_cities 104 = .ok (.aload_n 0, 1) := by decide +kernel
theorem dX13_cities_105 : decode cX13_cities 105 = .ok (.bipush 31, 2) := by decide +kernel
theorem dX13_cities_107 : decode cX13_cities 107 = .ok (.aload_n 0, 1) := by decide +kernel
theorem dX13_cities_108 : decode cX13_cities 108 = .ok (.getfield 108, 3) := by decide +kernel
theorem dX13_cities_111 : decode cX13_cities 111 = .ok (.bipush 35, 2) := by decide +kernel
theorem dX13_cities_113 : decode cX13_cities 113 = .ok (.iaload, 1) := by decide +kernel
theorem dX13_cities_114 : decode cX13_cities 114 = .ok (.invokevirtual 393, 3) := by decide +kernel
theorem dX13_cities_117 : decode cX13_cities 117 = .ok (.invokevirtual 396, 3) := by decide +kernel
theorem dX13_cities_120 : decode cX13_cities 120 = .ok (.pop, 1) := by decide +kernel
theorem dX13_cities_121 : decode cX13_cities 121 = .ok (.aload_n 0, 1) := by decide +kernel
theorem dX13_cities_122 : decode cX13_cities 122 = .ok (.bipush 31, 2) := by decide +kernel
theorem dX13_cities_124 : decode cX13_cities 124 = .ok (.iconst 1, 1) := by decide +kernel
theorem dX13_cities_125 : decode cX13_cities 125 = .ok (.invokevirtual 400, 3) := by decide +kernel
theorem dX13_cities_128 : decode cX13_cities 128 = .ok (.iinc 4 1, 3) := by decide +kernel
theorem dX13_cities_131 : decode cX13_cities 131 = .ok (.goto (-85), 3) := by decide +kernel
theorem dX13_cities_134 : decode cX13_cities 134 = .ok (.iload_n 3, 1) := by decide +kernel
theorem dX13_cities_135 : decode cX13_cities 135 = .ok (.ifCond .ne 13, 3) := by decide +kernel
theorem dX13_cities_138 : decode cX13_cities 138 = .ok (.aload_n 0, 1) := by decide +kernel
theorem dX13_cities_139 : decode cX13_cities 139 = .ok (.getfield 108, 3) := by decide +kernel
theorem dX13_cities_142 : decode cX13_cities 142 = .ok (.bipush 31, 2) := by decide +kernel
theorem dX13_cities_144 : decode cX13_cities 144 = .ok (.iaload, 1) := by decide +kernel
theorem dX13_cities_145 : decode cX13_cities 145 = .ok (.goto 33, 3) := by decide +kernel
theorem dX13_cities_148 : decode cX13_cities 148 = .ok (.iload_n 3, 1) := by decide +kernel
theorem dX13_cities_149 : decode cX13_cities 149 = .ok (.iconst 1, 1) := by decide +kernel
theorem dX13_cities_150 : decode cX13_cities 150 = .ok (.if_icmp .ne 13, 3) := by decide +kernel
theorem dX13_cities_153 : decode cX13_cities 153 = .ok (.aload_n 0, 1) := by decide +kernel
theorem dX13_cities_154 : decode cX13_cities 154 = .ok (.getfield 108, 3) := by decide +kernel
theorem dX13_cities_157 : decode cX13_cities 157 = .ok (.bipush 33, 2) := by decide +kernel
theorem dX13_cities_159 : decode cX13_cities 159 = .ok (.iaload, 1) := by decide +kernel
theorem dX13_cities_160 : decode cX13_cities 160 = .ok (.goto 18, 3) := by decide +kernel
theorem dX13_cities_163 : decode cX13_cities 163 = .ok (.aload_n 0, 1) := by decide +kernel
theorem dX13_cities_164 : decode cX13_cities 164 = .ok (.getfield 108, 3) := by decide +kernel
theorem dX13_cities_167 : decode cX13_cities 167 = .ok (.bipush 37, 2) := by decide +kernel
theorem dX13_cities_169 : decode cX13_cities 169 = .ok (.iaload, 1) := by decide +kernel
theorem dX13_cities_170 : decode cX13_cities 170 = .ok (.aload_n 0, 1) := by decide +kernel
theorem dX13_cities_171 : decode cX13_cities 171 = .ok (.getfield 108, 3) := by decide +kernel
theorem dX13_cities_174 : decode cX13_cities 174 = .ok (.bipush 38, 2) := by decide +kernel
theorem dX13_cities_176 : decode cX13_cities 176 = .ok (.iaload, 1) := by decide +kernel
theorem dX13_cities_177 : decode cX13_cities 177 = .ok (.isub, 1) := by decide +kernel
theorem dX13_cities_178 : decode cX13_cities 178 = .ok (.ireturn, 1) := by decide +kernel
theorem dX13_ruin_0 : decode cX13_ruin 0 = .ok (.aload_n 0, 1) := by decide +kernel
theorem dX13_ruin_1 : decode cX13_ruin 1 = .ok (.iconst 0, 1) := by decide +kernel
theorem dX13_ruin_2 : decode cX13_ruin 2 = .ok (.putfield 141, 3) := by decide +kernel
theorem dX13_ruin_5 : decode cX13_ruin 5 = .ok (.aload_n 0, 1) := by decide +kernel
theorem dX13_ruin_6 : decode cX13_ruin 6 = .ok (.iconst 0, 1) := by decide +kernel
theorem dX13_ruin_7 : decode cX13_ruin 7 = .ok (.bipush 31, 2) := by decide +kernel
theorem dX13_ruin_9 : decode cX13_ruin 9 = .ok (.invokevirtual 432, 3) := by decide +kernel
theorem dX13_ruin_12 : decode cX13_ruin 12 = .ok (.iconst 0, 1) := by decide +kernel
theorem dX13_ruin_13 : decode cX13_ruin 13 = .ok (.istore_n 1, 1) := by decide +kernel
theorem dX13_ruin_14 : decode cX13_ruin 14 = .ok (.iload_n 1, 1) := by decide +kernel
theorem dX13_ruin_15 : decode cX13_ruin 15 = .ok (.bipush 60, 2) := by decide +kernel
theorem dX13_ruin_17 : decode cX13_ruin 17 = .ok (.if_icmp .gt 36, 3) := by decide +kernel
theorem dX13_ruin_20 : decode cX13_ruin 20 = .ok (.aload_n 0, 1) := by decide +kernel
theorem dX13_ruin_21 : decode cX13_ruin 21 = .ok (.getfield 108, 3) := by decide +kernel
theorem dX13_ruin_24 : decode cX13_ruin 24 = .ok (.bipush 33, 2) := by decide +kernel
theorem dX13_ruin_26 : decode cX13_ruin 26 = .ok (.iaload, 1) := by decide +kernel
theorem dX13_ruin_27 : decode cX13_ruin 27 = .ok (.aload_n 0, 1) := by decide +kernel
theorem dX13_ruin_28 : decode cX13_ruin 28 = .ok (.getfield 108, 3) := by decide +kernel
theorem dX13_ruin_31 : decode cX13_ruin 31 = .ok (.bipush 31, 2) := by decide +kernel
theorem dX13_ruin_33 : decode cX13_ruin 33 = .ok (.iaload, 1) := by decide +kernel
theorem dX13_ruin_34 : decode cX13_ruin 34 = .ok (.if_icmp .le 5, 3) := by decide +kernel
theorem dX13_ruin_37 : decode cX13_ruin 37 = .ok (.iload_n 1, 1) := by decide +kernel
theorem dX13_ruin_38 : decode cX13_ruin 38 = .ok (.ireturn, 1) := by decide +kernel
theorem dX13_ruin_39 : decode cX13_ruin 39 = .ok (.aload_n 0, 1) := by decide +kernel
theorem dX13_ruin_40 : decode cX13_ruin 40 = .ok (.bipush 31, 2) := by decide +kernel
theorem dX13_ruin_42 : decode cX13_ruin 42 = .ok (.bipush (-2), 2) := by decide +kernel
theorem dX13_ruin_44 : decode cX13_ruin 44 = .ok (.invokevirtual 404, 3) := by decide +kernel
theorem dX13_ruin_47 : decode cX13_ruin 47 = .ok (.iinc 1 1, 3) := by decide +kernel
theorem dX13_ruin_50 : decode cX13_ruin 50 = .ok (.goto (-36), 3) := by decide +kernel
theorem dX13_ruin_53 : decode cX13_ruin 53 = .ok (.iconst (-1), 1) := by decide +kernel
theorem dX13_ruin_54 : decode cX13_ruin 54 = .ok (.ireturn, 1) := by decide +kernel
theorem dX13_highest_0 : decode cX13_highest 0 = .ok (.aload_n 0, 1) := by decide +kernel
theorem dX13_highest_1 : decode cX13_highest 1 = .ok (.iconst 0, 1) := by decide +kernel
theorem dX13_highest_2 : decode cX13_highest 2 = .ok (.putfield 141, 3) := by decide +kernel
theorem dX13_highest_5 : decode cX13_highest 5 = .ok (.aload_n 0, 1) := by decide +kernel
theorem dX13_highest_6 : decode cX13_highest 6 = .ok (.iload_n 1, 1) := by decide +kernel
theorem dX13_highest_7 : decode cX13_highest 7 = .ok (.iconst 1, 1) := by decide +kernel
theorem dX13_highest_8 : decode cX13_highest 8 = .ok (.invokevirtual 414, 3) := by decide +kernel
theorem dX13_highest_11 : decode cX13_highest 11 = .ok (.ifCond .ne 5, 3) := by decide +kernel
theorem dX13_highest_14 : decode cX13_highest 14 = .ok (.iconst 0, 1) := by decide +kernel
theorem dX13_highest_15 : decode cX13_highest 15 = .ok (.ireturn, 1) := by decide +kernel
theorem dX13_highest_16 : decode cX13_highest 16 = .ok (.aload_n 0, 1) := by decide +kernel
theorem dX13_highest_17 : decode cX13_highest 17 = .ok (.iconst 0, 1) := by decide +kernel
theorem dX13_highest_18 : decode cX13_highest 18 = .ok (.bipush 31, 2) := by decide +kernel
theorem dX13_highest_20 : decode cX13_highest 20 = .ok (.invokevirtual 432, 3) := by decide +kernel
theorem dX13_highest_23 : decode cX13_highest 23 = .ok (.iconst 0, 1) := by decide +kernel
theorem dX13_highest_24 : decode cX13_highest 24 = .ok (.istore_n 2, 1) := by decide +kernel
theorem dX13_highest_25 : decode cX13_highest 25 = .ok (.aload_n 0, 1) := by decide +kernel
theorem dX13_highest_26 : decode cX13_highest 26 = .ok (.getfield 108, 3) := by decide +kernel
theorem dX13_highest_29 : decode cX13_highest 29 = .ok (.iconst 1, 1) := by decide +kernel
theorem dX13_highest_30 : decode cX13_highest 30 = .ok (.iaload, 1) := by decide +kernel
theorem dX13_highest_31 : decode cX13_highest 31 = .ok (.istore_n 3, 1) := by decide +kernel
theorem dX13_highest_32 : decode cX13_highest 32 = .ok (.iconst 1, 1) := by decide +kernel
theorem dX13_highest_33 : decode cX13_highest 33 = .ok (.istore 4, 2) := by decide +kernel
theorem dX13_highest_35 : decode cX13_highest 35 = .ok (.iload 4, 2) := by decide +kernel
theorem dX13_highest_37 : decode cX13_highest 37 = .ok (.bipush 60, 2) := by decide +kernel
theorem dX13_highest_39 : decode cX13_highest 39 = .ok (.if_icmp .gt 42, 3) := by decide +kernel
theorem dX13_highest_42 : decode cX13_highest 42 = .ok (.aload_n 0, 1) := by decide +kernel
theorem dX13_highest_43 : decode cX13_highest 43 = .ok (.bipush 31, 2) := by decide +kernel
theorem dX13_highest_45 : decode cX13_highest 45 = .ok (.bipush (-2), 2) := by decide +kernel
theorem dX13_highest_47 : decode cX13_highest 47 = .ok (.invokevirtual 404, 3) := by decide +kernel
theorem dX13_highest_50 : decode cX13_highest 50 = .ok (.aload_n 0, 1) := by decide +kernel
theorem dX13_highest_51 : decode cX13_highest 51 = .ok (.getfield 108, 3) := by decide +kernel
theorem dX13_highest_54 : decode cX13_highest 54 = .ok (.bipush 32, 2) := by decide +kernel
theorem dX13_highest_56 : decode cX13_highest 56 = .ok (.iaload, 1) := by decide +kernel
theorem dX13_highest_57 : decode cX13_highest 57 = .ok (.iload_n 3, 1) := by decide +kernel
theorem dX13_highest_58 : decode cX13_highest 58 = .ok (.if_icmp .gt 6, 3) := by decide +kernel
theorem dX13_highest_61 : decode cX13_highest 61 = .ok (.goto 14, 3) := by decide +kernel
theorem dX13_highest_64 : decode cX13_highest 64 = .ok (.iload 4, 2) := by decide +kernel
theorem dX13_highest_66 : decode cX13_highest 66 = .ok (.istore_n 2, 1) := by decide +kernel
theorem dX13_highest_67 : decode cX13_highest 67 = .ok (.aload_n 0, 1) := by decide +kernel
theorem dX13_highest_68 : decode cX13_highest 68 = .ok (.getfield 108, 3) := by decide +kernel
theorem dX13_highest_71 : decode cX13_highest 71 = .ok (.bipush 32, 2) := by decide +kernel
theorem dX13_highest_73 : decode cX13_highest 73 = .ok (.iaload, 1) := by decide +kernel
theorem dX13_highest_74 : decode cX13_highest 74 = .ok (.istore_n 3, 1) := by decide +kernel
theorem dX13_highest_75 : decode cX13_highest 75 = .ok (.iinc 4 1, 3) := by decide +kernel
theorem dX13_highest_78 : decode cX13_highest 78 = .ok (.goto (-43), 3) := by decide +kernel
theorem dX13_highest_81 : decode cX13_highest 81 = .ok (.iload_n 1, 1) := by decide +kernel
theorem dX13_highest_82 : decode cX13_highest 82 = .ok (.ifCond .ne 7, 3) := by decide +kernel
theorem dX13_highest_85 : decode cX13_highest 85 = .ok (.iload_n 2, 1) := by decide +kernel
theorem dX13_highest_86 : decode cX13_highest 86 = .ok (.goto 4, 3) := by decide +kernel
theorem dX13_highest_89 : decode cX13_highest 89 = .ok (.iload_n 3, 1) := by decide +kernel
theorem dX13_highest_90 : decode cX13_highest 90 = .ok (.ireturn, 1) := by decide +kernel
theorem dX13_better_0 : decode cX13_better 0 = .ok (.aload_n 0, 1) := by decide +kernel
theorem dX13_better_1 : decode cX13_better 1 = .ok (.iconst 0, 1) := by decide +kernel
theorem dX13_better_2 : decode cX13_better 2 = .ok (.putfield 141, 3) := by decide +kernel
theorem dX13_better_5 : decode cX13_better 5 = .ok (.aload_n 0, 1) := by decide +kernel
theorem dX13_better_6 : decode cX13_better 6 = .ok (.iload_n 1, 1) := by decide +kernel
theorem dX13_better_7 : decode cX13_better 7 = .ok (.iconst 1, 1) := by decide +kernel
theorem dX13_better_8 : decode cX13_better 8 = .ok (.invokevirtual 414, 3) := by decide +kernel
theorem dX13_better_11 : decode cX13_better 11 = .ok (.ifCond .ne 5, 3) := by decide +kernel
theorem dX13_better_14 : decode cX13_better 14 = .ok (.iconst 0, 1) := by decide +kernel
theorem dX13_better_15 : decode cX13_better 15 = .ok (.ireturn, 1) := by decide +kernel
theorem dX13_better_16 : decode cX13_better 16 = .ok (.aload_n 0, 1) := by decide +kernel
theorem dX13_better_17 : decode cX13_better 17 = .ok (.iconst 0, 1) := by decide +kernel
theorem dX13_better_18 : decode cX13_better 18 = .ok (.bipush 31, 2) := by decide +kernel
theorem dX13_better_20 : decode cX13_better 20 = .ok (.invokevirtual 432, 3) := by decide +kernel
theorem dX13_better_23 : decode cX13_better 23 = .ok (.iconst 0, 1) := by decide +kernel
theorem dX13_better_24 : decode cX13_better 24 = .ok (.istore_n 2, 1) := by decide +kernel
theorem dX13_better_25 : decode cX13_better 25 = .ok (.iconst 0, 1) := by decide +kernel
theorem dX13_better_26 : decode cX13_better 26 = .ok (.istore_n 3, 1) := by decide +kernel
theorem dX13_better_27 : decode cX13_better 27 = .ok (.iload_n 3, 1) := by decide +kernel
theorem dX13_better_28 : decode cX13_better 28 = .ok (.bipush 60, 2) := by decide +kernel
theorem dX13_better_30 : decode cX13_better 30 = .ok (.if_icmp .ge 81, 3) := by decide +kernel
theorem dX13_better_33 : decode cX13_better 33 = .ok (.aload_n 0, 1) := by decide +kernel
theorem dX13_better_34 : decode cX13_better 34 = .ok (.getfield 108, 3) := by decide +kernel
theorem dX13_better_37 : decode cX13_better 37 = .ok (.bipush 35, 2) := by decide +kernel
theorem dX13_better_39 : decode cX13_better 39 = .ok (.iaload, 1) := by decide +kernel
theorem dX13_better_40 : decode cX13_better 40 = .ok (.istore 4, 2) := by decide +kernel
theorem dX13_better_42 : decode cX13_better 42 = .ok (.aload_n 0, 1) := by decide +kernel
theorem dX13_better_43 : decode cX13_better 43 = .ok (.getfield 108, 3) := by decide +kernel
theorem dX13_better_46 : decode cX13_better 46 = .ok (.bipush 31, 2) := by decide +kernel
theorem dX13_better_48 : decode cX13_better 48 = .ok (.iaload, 1) := by decide +kernel
theorem dX13_better_49 : decode cX13_better 49 = .ok (.aload_n 0, 1) := by decide +kernel
theorem dX13_better_50 : decode cX13_better 50 = .ok (.getfield 108, 3) := by decide +kernel
theorem dX13_better_53 : decode cX13_better 53 = .ok (.bipush 33, 2) := by decide +kernel
theorem dX13_better_55 : decode cX13_better 55 = .ok (.iaload, 1) := by decide +kernel
theorem dX13_better_56 : decode cX13_better 56 = .ok (.isub, 1) := by decide +kernel
theorem dX13_better_57 : decode cX13_better 57 = .ok (.istore 5, 2) := by decide +kernel
theorem dX13_better_59 : decode cX13_better 59 = .ok (.aload_n 0, 1) := by decide +kernel
theorem dX13_better_60 : decode cX13_better 60 = .ok (.bipush 31, 2) := by decide +kernel
theorem dX13_better_62 : decode cX13_better 62 = .ok (.bipush (-2), 2) := by decide +kernel
theorem dX13_better_64 : decode cX13_better 64 = .ok (.invokevirtual 404, 3) := by decide +kernel
theorem dX13_better_67 : decode cX13_better 67 = .ok (.aload_n 0, 1) := by decide +kernel
theorem dX13_better_68 : decode cX13_better 68 = .ok (.getfield 108, 3) := by decide +kernel
theorem dX13_better_71 : decode cX13_better 71 = .ok (.bipush 31, 2) := by decide +kernel
theorem dX13_better_73 : decode cX13_better 73 = .ok (.iaload, 1) := by decide +kernel
theorem dX13_better_74 : decode cX13_better 74 = .ok (.aload_n 0, 1) := by decide +kernel
theorem dX13_better_75 : decode cX13_better 75 = .ok (.getfield 108, 3) := by decide +kernel
theorem dX13_better_78 : decode cX13_better 78 = .ok (.bipush 33, 2) := by decide +kernel
theorem dX13_better_80 : decode cX13_better 80 = .ok (.iaload, 1) := by decide +kernel
theorem dX13_better_81 : decode cX13_better 81 = .ok (.isub, 1) := by decide +kernel
theorem dX13_better_82 : decode cX13_better 82 = .ok (.iload 5, 2) := by decide +kernel
theorem dX13_better_84 : decode cX13_better 84 = .ok (.isub, 1) := by decide +kernel
theorem dX13_better_85 : decode cX13_better 85 = .ok (.istore 6, 2) := by decide +kernel
theorem dX13_better_87 : decode cX13_better 87 = .ok (.iload_n 2, 1) := by decide +kernel
theorem dX13_better_88 : decode cX13_better 88 = .ok (.iload 4, 2) := by decide +kernel
theorem dX13_better_90 : decode cX13_better 90 = .ok (.iconst 1, 1) := by decide +kernel
theorem dX13_better_91 : decode cX13_better 91 = .ok (.if_icmp .ne 8, 3) := by decide +kernel
theorem dX13_better_94 : decode cX13_better 94 = .ok (.iload 6, 2) := by decide +kernel
theorem dX13_better_96 : decode cX13_better 96 = .ok (.goto 7, 3) := by decide +kernel
theorem dX13_better_99 : decode cX13_better 99 = .ok (.iconst 0, 1) := by decide +kernel
theorem dX13_better_100 : decode cX13_better 100 = .ok (.iload 6, 2) := by decide +kernel
theorem dX13_better_102 : decode cX13_better 102 = .ok (.isub, 1) := by decide +kernel
theorem dX13_better_103 : decode cX13_better 103 = .ok (.iadd, 1) := by decide +kernel
theorem dX13_better_104 : decode cX13_better 104 = .ok (.istore_n 2, 1) := by decide +kernel
theorem dX13_better_105 : decode cX13_better 105 = .ok (.iinc 3 1, 3) := by decide +kernel
theorem dX13_better_108 : decode cX13_better 108 = .ok (.goto (-81), 3) := by decide +kernel
theorem dX13_better_111 : decode cX13_better 111 = .ok (.iload_n 1, 1) := by decide +kernel
theorem dX13_better_112 : decode cX13_better 112 = .ok (.ifCond .ne 15, 3) := by decide +kernel
theorem dX13_better_115 : decode cX13_better 115 = .ok (.iload_n 2, 1) := by decide +kernel
theorem dX13_better_116 : decode cX13_better 116 = .ok (.ifCond .le 7, 3) := by decide +kernel
theorem dX13_better_119 : decode cX13_better 119 = .ok (.iconst 1, 1) := by decide +kernel
theorem dX13_better_120 : decode cX13_better 120 = .ok (.goto 18, 3) := by decide +kernel
theorem dX13_better_123 : decode cX13_better 123 = .ok (.iconst 0, 1) := by decide +kernel
theorem dX13_better_124 : decode cX13_better 124 = .ok (.goto 14, 3) := by decide +kernel
theorem dX13_better_127 : decode cX13_better 127 = .ok (.iload_n 2, 1) := by decide +kernel
theorem dX13_better_128 : decode cX13_better 128 = .ok (.ifCond .le 7, 3) := by decide +kernel
theorem dX13_better_131 : decode cX13_better 131 = .ok (.iload_n 2, 1) := by decide +kernel
theorem dX13_better_132 : decode cX13_better 132 = .ok (.goto 6, 3) := by decide +kernel
theorem dX13_better_135 : decode cX13_better 135 = .ok (.iconst 0, 1) := by decide +kernel
theorem dX13_better_136 : decode cX13_better 136 = .ok (.iload_n 2, 1) := by decide +kernel
theorem dX13_better_137 : decode cX13_better 137 = .ok (.isub, 1) := by decide +kernel
theorem dX13_better_138 : decode cX13_better 138 = .ok (.ireturn, 1) := by decide +kernel
theorem dX13_guarded_0 : decode cX13_guarded 0 = .ok (.aload_n 0, 1) := by decide +kernel
theorem dX13_guarded_1 : decode cX13_guarded 1 = .ok (.iconst 0, 1) := by decide +kernel
theorem dX13_guarded_2 : decode cX13_guarded 2 = .ok (.putfield 141, 3) := by decide +kernel
theorem dX13_guarded_5 : decode cX13_guarded 5 = .ok (.aload_n 0, 1) := by decide +kernel
theorem dX13_guarded_6 : decode cX13_guarded 6 = .ok (.iload_n 1, 1) := by decide +kernel
theorem dX13_guarded_7 : decode cX13_guarded 7 = .ok (.ifCond .lt 15, 3) := by decide +kernel
theorem dX13_guarded_10 : decode cX13_guarded 10 = .ok (.iload_n 1, 1) := by decide +kernel
theorem dX13_guarded_11 : decode cX13_guarded 11 = .ok (.aload_n 0, 1) := by decide +kernel
theorem dX13_guarded_12 : decode cX13_guarded 12 = .ok (.getfield 345, 3) := by decide +kernel
theorem dX13_guarded_15 : decode cX13_guarded 15 = .ok (.if_icmp .ge 7, 3) := by decide +kernel
theorem dX13_guarded_18 : decode cX13_guarded 18 = .ok (.iconst 1, 1) := by decide +kernel
theorem dX13_guarded_19 : decode cX13_guarded 19 = .ok (.goto 4, 3) := by decide +kernel
theorem dX13_guarded_22 : decode cX13_guarded 22 = .ok (.iconst 0, 1) := by decide +kernel
theorem dX13_guarded_23 : decode cX13_guarded 23 = .ok (.iconst 1, 1) := by decide +kernel
theorem dX13_guarded_24 : decode cX13_guarded 24 = .ok (.invokevirtual 326, 3) := by decide +kernel
theorem dX13_guarded_27 : decode cX13_guarded 27 = .ok (.ifCond .ne 5, 3) := by decide +kernel
theorem dX13_guarded_30 : decode cX13_guarded 30 = .ok (.iconst 0, 1) := by decide +kernel
theorem dX13_guarded_31 : decode cX13_guarded 31 = .ok (.ireturn, 1) := by decide +kernel
theorem dX13_guarded_32 : decode cX13_guarded 32 = .ok (.iconst 0, 1) := by decide +kernel
theorem dX13_guarded_33 : decode cX13_guarded 33 = .ok (.istore_n 2, 1) := by decide +kernel
theorem dX13_guarded_34 : decode cX13_guarded 34 = .ok (.iconst 0, 1) := by decide +kernel
theorem dX13_guarded_35 : decode cX13_guarded 35 = .ok (.istore_n 3, 1) := by decide +kernel
theorem dX13_guarded_36 : decode cX13_guarded 36 = .ok (.iload_n 3, 1) := by decide +kernel
theorem dX13_guarded_37 : decode cX13_guarded 37 = .ok (.aload_n 0, 1) := by decide +kernel
theorem dX13_guarded_38 : decode cX13_guarded 38 = .ok (.getfield 342, 3) := by decide +kernel
theorem dX13_guarded_41 : decode cX13_guarded 41 = .ok (.if_icmp .ge 61, 3) := by decide +kernel
theorem dX13_guarded_44 : decode cX13_guarded 44 = .ok (.aload_n 0, 1) := by decide +kernel
theorem dX13_guarded_45 : decode cX13_guarded 45 = .ok (.getfield 38, 3) := by decide +kernel
theorem dX13_guarded_48 : decode cX13_guarded 48 = .ok (.iload_n 3, 1) := by decide +kernel
theorem dX13_guarded_49 : decode cX13_guarded 49 = .ok (.iaload, 1) := by decide +kernel
theorem dX13_guarded_50 : decode cX13_guarded 50 = .ok (.aload_n 0, 1) := by decide +kernel
theorem dX13_guarded_51 : decode cX13_guarded 51 = .ok (.getfield 41, 3) := by decide +kernel
theorem dX13_guarded_54 : decode cX13_guarded 54 = .ok (.iload_n 3, 1) := by decide +kernel
theorem dX13_guarded_55 : decode cX13_guarded 55 = .ok (.iaload, 1) := by decide +kernel
theorem dX13_guarded_56 : decode cX13_guarded 56 = .ok (.aload_n 0, 1) := by decide +kernel
theorem dX13_guarded_57 : decode cX13_guarded 57 = .ok (.getfield 47, 3) := by decide +kernel
theorem dX13_guarded_60 : decode cX13_guarded 60 = .ok (.iload_n 1, 1) := by decide +kernel
theorem dX13_guarded_61 : decode cX13_guarded 61 = .ok (.iaload, 1) := by decide +kernel
theorem dX13_guarded_62 : decode cX13_guarded 62 = .ok (.if_icmp .ne 7, 3) := by decide +kernel
theorem dX13_guarded_65 : decode cX13_guarded 65 = .ok (.iconst 5, 1) := by decide +kernel
theorem dX13_guarded_66 : decode cX13_guarded 66 = .ok (.goto 4, 3) := by decide +kernel
theorem dX13_guarded_69 : decode cX13_guarded 69 = .ok (.iconst 0, 1) := by decide +kernel
theorem dX13_guarded_70 : decode cX13_guarded 70 = .ok (.iadd, 1) := by decide +kernel
theorem dX13_guarded_71 : decode cX13_guarded 71 = .ok (.aload_n 0, 1) := by decide +kernel
theorem dX13_guarded_72 : decode cX13_guarded 72 = .ok (.getfield 108, 3) := by decide +kernel
theorem dX13_guarded_75 : decode cX13_guarded 75 = .ok (.iconst 1, 1) := by decide +kernel
theorem dX13_guarded_76 : decode cX13_guarded 76 = .ok (.iaload, 1) := by decide +kernel
theorem dX13_guarded_77 : decode cX13_guarded 77 = .ok (.bipush 10, 2) := by decide +kernel
theorem dX13_guarded_79 : decode cX13_guarded 79 = .ok (.idiv, 1) := by decide +kernel
theorem dX13_guarded_80 : decode cX13_guarded 80 = .ok (.isub, 1) := by decide +kernel
theorem dX13_guarded_81 : decode cX13_guarded 81 = .ok (.istore 4, 2) := by decide +kernel
theorem dX13_guarded_83 : decode cX13_guarded 83 = .ok (.iload 4, 2) := by decide +kernel
theorem dX13_guarded_85 : decode cX13_guarded 85 = .ok (.iload_n 2, 1) := by decide +kernel
theorem dX13_guarded_86 : decode cX13_guarded 86 = .ok (.if_icmp .le 8, 3) := by decide +kernel
theorem dX13_guarded_89 : decode cX13_guarded 89 = .ok (.iload 4, 2) := by decide +kernel
theorem dX13_guarded_91 : decode cX13_guarded 91 = .ok (.goto 4, 3) := by decide +kernel
theorem dX13_guarded_94 : decode cX13_guarded 94 = .ok (.iload_n 2, 1) := by decide +kernel
theorem dX13_guarded_95 : decode cX13_guarded 95 = .ok (.istore_n 2, 1) := by decide +kernel
theorem dX13_guarded_96 : decode cX13_guarded 96 = .ok (.iinc 3 1, 3) := by decide +kernel
theorem dX13_guarded_99 : decode cX13_guarded 99 = .ok (.goto (-63), 3) := by decide +kernel
theorem dX13_guarded_102 : decode cX13_guarded 102 = .ok (.iload_n 2, 1) := by decide +kernel
theorem dX13_guarded_103 : decode cX13_guarded 103 = .ok (.ireturn, 1) := by decide +kernel
theorem dX13_gloryIn_0 : decode cX13_gloryIn 0 = .ok (.aload_n 0, 1) := by decide +kernel
theorem dX13_gloryIn_1 : decode cX13_gloryIn 1 = .ok (.iconst 0, 1) := by decide +kernel
theorem dX13_gloryIn_2 : decode cX13_gloryIn 2 = .ok (.bipush 31, 2) := by decide +kernel
theorem dX13_gloryIn_4 : decode cX13_gloryIn 4 = .ok (.invokevirtual 432, 3) := by decide +kernel
theorem dX13_gloryIn_7 : decode cX13_gloryIn 7 = .ok (.aload_n 0, 1) := by decide +kernel
theorem dX13_gloryIn_8 : decode cX13_gloryIn 8 = .ok (.bipush 31, 2) := by decide +kernel
theorem dX13_gloryIn_10 : decode cX13_gloryIn 10 = .ok (.bipush 30, 2) := by decide +kernel
theorem dX13_gloryIn_12 : decode cX13_gloryIn 12 = .ok (.invokevirtual 429, 3) := by decide +kernel
theorem dX13_gloryIn_15 : decode cX13_gloryIn 15 = .ok (.aload_n 0, 1) := by decide +kernel
theorem dX13_gloryIn_16 : decode cX13_gloryIn 16 = .ok (.getfield 108, 3) := by decide +kernel
theorem dX13_gloryIn_19 : decode cX13_gloryIn 19 = .ok (.bipush 37, 2) := by decide +kernel
theorem dX13_gloryIn_21 : decode cX13_gloryIn 21 = .ok (.iload_n 1, 1) := by decide +kernel
theorem dX13_gloryIn_22 : decode cX13_gloryIn 22 = .ok (.iadd, 1) := by decide +kernel
theorem dX13_gloryIn_23 : decode cX13_gloryIn 23 = .ok (.iaload, 1) := by decide +kernel
theorem dX13_gloryIn_24 : decode cX13_gloryIn 24 = .ok (.ireturn, 1) := by decide +kernel
theorem dX13_swaps_0 : decode cX13_swaps 0 = .ok (.aload_n 0, 1) := by decide +kernel
theorem dX13_swaps_1 : decode cX13_swaps 1 = .ok (.getfield 108, 3) := by decide +kernel
theorem dX13_swaps_4 : decode cX13_swaps 4 = .ok (.iload_n 1, 1) := by decide +kernel
theorem dX13_swaps_5 : decode cX13_swaps 5 = .ok (.iaload, 1) := by decide +kernel
theorem dX13_swaps_6 : decode cX13_swaps 6 = .ok (.istore_n 3, 1) := by decide +kernel
theorem dX13_swaps_7 : decode cX13_swaps 7 = .ok (.aload_n 0, 1) := by decide +kernel
theorem dX13_swaps_8 : decode cX13_swaps 8 = .ok (.getfield 108, 3) := by decide +kernel
theorem dX13_swaps_11 : decode cX13_swaps 11 = .ok (.iload_n 1, 1) := by decide +kernel
theorem dX13_swaps_12 : decode cX13_swaps 12 = .ok (.aload_n 0, 1) := by decide +kernel
theorem dX13_swaps_13 : decode cX13_swaps 13 = .ok (.getfield 108, 3) := by decide +kernel
theorem dX13_swaps_16 : decode cX13_swaps 16 = .ok (.iload_n 2, 1) := by decide +kernel
theorem dX13_swaps_17 : decode cX13_swaps 17 = .ok (.iaload, 1) := by decide +kernel
theorem dX13_swaps_18 : decode cX13_swaps 18 = .ok (.iastore, 1) := by decide +kernel
theorem dX13_swaps_19 : decode cX13_swaps 19 = .ok (.aload_n 0, 1) := by decide +kernel
theorem dX13_swaps_20 : decode cX13_swaps 20 = .ok (.getfield 108, 3) := by decide +kernel
theorem dX13_swaps_23 : decode cX13_swaps 23 = .ok (.iload_n 2, 1) := by decide +kernel
theorem dX13_swaps_24 : decode cX13_swaps 24 = .ok (.iload_n 3, 1) := by decide +kernel
theorem dX13_swaps_25 : decode cX13_swaps 25 = .ok (.iastore, 1) := by decide +kernel
theorem dX13_swaps_26 : decode cX13_swaps 26 = .ok (.return_, 1) := by decide +kernel
theorem dX13_swap_0 : decode cX13_swap 0 = .ok (.aload_n 0, 1) := by decide +kernel
theorem dX13_swap_1 : decode cX13_swap 1 = .ok (.iconst 0, 1) := by decide +kernel
theorem dX13_swap_2 : decode cX13_swap 2 = .ok (.putfield 141, 3) := by decide +kernel
theorem dX13_swap_5 : decode cX13_swap 5 = .ok (.aload_n 0, 1) := by decide +kernel
theorem dX13_swap_6 : decode cX13_swap 6 = .ok (.iload_n 1, 1) := by decide +kernel
theorem dX13_swap_7 : decode cX13_swap 7 = .ok (.invokevirtual 417, 3) := by decide +kernel
theorem dX13_swap_10 : decode cX13_swap 10 = .ok (.ifCond .ne 5, 3) := by decide +kernel
theorem dX13_swap_13 : decode cX13_swap 13 = .ok (.iconst 0, 1) := by decide +kernel
theorem dX13_swap_14 : decode cX13_swap 14 = .ok (.ireturn, 1) := by decide +kernel
theorem dX13_swap_15 : decode cX13_swap 15 = .ok (.iconst (-1), 1) := by decide +kernel
theorem dX13_swap_16 : decode cX13_swap 16 = .ok (.istore_n 2, 1) := by decide +kernel
theorem dX13_swap_17 : decode cX13_swap 17 = .ok (.aload_n 0, 1) := by decide +kernel
theorem dX13_swap_18 : decode cX13_swap 18 = .ok (.iload_n 1, 1) := by decide +kernel
theorem dX13_swap_19 : decode cX13_swap 19 = .ok (.invokevirtual 487, 3) := by decide +kernel
theorem dX13_swap_22 : decode cX13_swap 22 = .ok (.istore_n 3, 1) := by decide +kernel
theorem dX13_swap_23 : decode cX13_swap 23 = .ok (.bipush 13, 2) := by decide +kernel
theorem dX13_swap_25 : decode cX13_swap 25 = .ok (.bipush 6, 2) := by decide +kernel
theorem dX13_swap_27 : decode cX13_swap 27 = .ok (.iload_n 1, 1) := by decide +kernel
theorem dX13_swap_28 : decode cX13_swap 28 = .ok (.imul, 1) := by decide +kernel
theorem dX13_swap_29 : decode cX13_swap 29 = .ok (.iadd, 1) := by decide +kernel
theorem dX13_swap_30 : decode cX13_swap 30 = .ok (.istore 4, 2) := by decide +kernel
theorem dX13_swap_32 : decode cX13_swap 32 = .ok (.iconst 0, 1) := by decide +kernel
theorem dX13_swap_33 : decode cX13_swap 33 = .ok (.istore 5, 2) := by decide +kernel
theorem dX13_swap_35 : decode cX13_swap 35 = .ok (.iload 5, 2) := by decide +kernel
theorem dX13_swap_37 : decode cX13_swap 37 = .ok (.aload_n 0, 1) := by decide +kernel
theorem dX13_swap_38 : decode cX13_swap 38 = .ok (.getfield 29, 3) := by decide +kernel
theorem dX13_swap_41 : decode cX13_swap 41 = .ok (.iload_n 1, 1) := by decide +kernel
theorem dX13_swap_42 : decode cX13_swap 42 = .ok (.iaload, 1) := by decide +kernel
theorem dX13_swap_43 : decode cX13_swap 43 = .ok (.if_icmp .ge 88, 3) := by decide +kernel
theorem dX13_swap_46 : decode cX13_swap 46 = .ok (.iload 5, 2) := by decide +kernel
theorem dX13_swap_48 : decode cX13_swap 48 = .ok (.iconst 1, 1) := by decide +kernel
theorem dX13_swap_49 : decode cX13_swap 49 = .ok (.iadd, 1) := by decide +kernel
theorem dX13_swap_50 : decode cX13_swap 50 = .ok (.istore 6, 2) := by decide +kernel
theorem dX13_swap_52 : decode cX13_swap 52 = .ok (.iload 6, 2) := by decide +kernel
theorem dX13_swap_54 : decode cX13_swap 54 = .ok (.aload_n 0, 1) := by decide +kernel
theorem dX13_swap_55 : decode cX13_swap 55 = .ok (.getfield 29, 3) := by decide +kernel
theorem dX13_swap_58 : decode cX13_swap 58 = .ok (.iload_n 1, 1) := by decide +kernel
theorem dX13_swap_59 : decode cX13_swap 59 = .ok (.iaload, 1) := by decide +kernel
theorem dX13_swap_60 : decode cX13_swap 60 = .ok (.if_icmp .ge 65, 3) := by decide +kernel
theorem dX13_swap_63 : decode cX13_swap 63 = .ok (.aload_n 0, 1) := by decide +kernel
theorem dX13_swap_64 : decode cX13_swap 64 = .ok (.iload 4, 2) := by decide +kernel
theorem dX13_swap_66 : decode cX13_swap 66 = .ok (.iload 5, 2) := by decide +kernel
theorem dX13_swap_68 : decode cX13_swap 68 = .ok (.iadd, 1) := by decide +kernel
theorem dX13_swap_69 : decode cX13_swap 69 = .ok (.iload 4, 2) := by decide +kernel
theorem dX13_swap_71 : decode cX13_swap 71 = .ok (.iload 6, 2) := by decide +kernel
theorem dX13_swap_73 : decode cX13_swap 73 = .ok (.iadd, 1) := by decide +kernel
theorem dX13_swap_74 : decode cX13_swap 74 = .ok (.invokevirtual 490, 3) := by decide +kernel
theorem dX13_swap_77 : decode cX13_swap 77 = .ok (.aload_n 0, 1) := by decide +kernel
theorem dX13_swap_78 : decode cX13_swap 78 = .ok (.iload_n 1, 1) := by decide +kernel
theorem dX13_swap_79 : decode cX13_swap 79 = .ok (.invokevirtual 487, 3) := by decide +kernel
theorem dX13_swap_82 : decode cX13_swap 82 = .ok (.istore 7, 2) := by decide +kernel
theorem dX13_swap_84 : decode cX13_swap 84 = .ok (.aload_n 0, 1) := by decide +kernel
theorem dX13_swap_85 : decode cX13_swap 85 = .ok (.iload 4, 2) := by decide +kernel
theorem dX13_swap_87 : decode cX13_swap 87 = .ok (.iload 5, 2) := by decide +kernel
theorem dX13_swap_89 : decode cX13_swap 89 = .ok (.iadd, 1) := by decide +kernel
theorem dX13_swap_90 : decode cX13_swap 90 = .ok (.iload 4, 2) := by decide +kernel
theorem dX13_swap_92 : decode cX13_swap 92 = .ok (.iload 6, 2) := by decide +kernel
theorem dX13_swap_94 : decode cX13_swap 94 = .ok (.iadd, 1) := by decide +kernel
theorem dX13_swap_95 : decode cX13_swap 95 = .ok (.invokevirtual 490, 3) := by decide +kernel
theorem dX13_swap_98 : decode cX13_swap 98 = .ok (.iload 7, 2) := by decide +kernel
theorem dX13_swap_100 : decode cX13_swap 100 = .ok (.iload_n 3, 1) := by decide +kernel
theorem dX13_swap_101 : decode cX13_swap 101 = .ok (.if_icmp .gt 6, 3) := by decide +kernel
theorem dX13_swap_104 : decode cX13_swap 104 = .ok (.goto 15, 3) := by decide +kernel
theorem dX13_swap_107 : decode cX13_swap 107 = .ok (.bipush 10, 2) := by decide +kernel
theorem dX13_swap_109 : decode cX13_swap 109 = .ok (.iload 5, 2) := by decide +kernel
theorem dX13_swap_111 : decode cX13_swap 111 = .ok (.imul, 1) := by decide +kernel
theorem dX13_swap_112 : decode cX13_swap 112 = .ok (.iload 6, 2) := by decide +kernel
theorem dX13_swap_114 : decode cX13_swap 114 = .ok (.iadd, 1) := by decide +kernel
theorem dX13_swap_115 : decode cX13_swap 115 = .ok (.istore_n 2, 1) := by decide +kernel
theorem dX13_swap_116 : decode cX13_swap 116 = .ok (.iload 7, 2) := by decide +kernel
theorem dX13_swap_118 : decode cX13_swap 118 = .ok (.istore_n 3, 1) := by decide +kernel
theorem dX13_swap_119 : decode cX13_swap 119 = .ok (.iinc 6 1, 3) := by decide +kernel
theorem dX13_swap_122 : decode cX13_swap 122 = .ok (.goto (-70), 3) := by decide +kernel
theorem dX13_swap_125 : decode cX13_swap 125 = .ok (.iinc 5 1, 3) := by decide +kernel
theorem dX13_swap_128 : decode cX13_swap 128 = .ok (.goto (-93), 3) := by decide +kernel
theorem dX13_swap_131 : decode cX13_swap 131 = .ok (.iload_n 2, 1) := by decide +kernel
theorem dX13_swap_132 : decode cX13_swap 132 = .ok (.ireturn, 1) := by decide +kernel
theorem dX13_image_0 : decode cX13_image 0 = .ok (.aload_n 0, 1) := by decide +kernel
theorem dX13_image_1 : decode cX13_image 1 = .ok (.iconst 0, 1) := by decide +kernel
theorem dX13_image_2 : decode cX13_image 2 = .ok (.putfield 141, 3) := by decide +kernel
theorem dX13_image_5 : decode cX13_image 5 = .ok (.aload_n 0, 1) := by decide +kernel
theorem dX13_image_6 : decode cX13_image 6 = .ok (.iconst 1, 1) := by decide +kernel
theorem dX13_image_7 : decode cX13_image 7 = .ok (.putfield 358, 3) := by decide +kernel
theorem dX13_image_10 : decode cX13_image 10 = .ok (.aload_n 0, 1) := by decide +kernel
theorem dX13_image_11 : decode cX13_image 11 = .ok (.aload_n 0, 1) := by decide +kernel
theorem dX13_image_12 : decode cX13_image 12 = .ok (.getfield 352, 3) := by decide +kernel
theorem dX13_image_15 : decode cX13_image 15 = .ok (.putfield 493, 3) := by decide +kernel
theorem dX13_image_18 : decode cX13_image 18 = .ok (.aload_n 0, 1) := by decide +kernel
theorem dX13_image_19 : decode cX13_image 19 = .ok (.aload_n 0, 1) := by decide +kernel
theorem dX13_image_20 : decode cX13_image 20 = .ok (.getfield 355, 3) := by decide +kernel
theorem dX13_image_23 : decode cX13_image 23 = .ok (.putfield 496, 3) := by decide +kernel
theorem dX13_image_26 : decode cX13_image 26 = .ok (.iconst 0, 1) := by decide +kernel
theorem dX13_image_27 : decode cX13_image 27 = .ok (.istore_n 1, 1) := by decide +kernel
theorem dX13_image_28 : decode cX13_image 28 = .ok (.iload_n 1, 1) := by decide +kernel
theorem dX13_image_29 : decode cX13_image 29 = .ok (.bipush 31, 2) := by decide +kernel
theorem dX13_image_31 : decode cX13_image 31 = .ok (.if_icmp .ge 21, 3) := by decide +kernel
theorem dX13_image_34 : decode cX13_image 34 = .ok (.aload_n 0, 1) := by decide +kernel
theorem dX13_image_35 : decode cX13_image 35 = .ok (.getfield 132, 3) := by decide +kernel
theorem dX13_image_38 : decode cX13_image 38 = .ok (.iload_n 1, 1) := by decide +kernel
theorem dX13_image_39 : decode cX13_image 39 = .ok (.aload_n 0, 1) := by decide +kernel
theorem dX13_image_40 : decode cX13_image 40 = .ok (.getfield 108, 3) := by decide +kernel
theorem dX13_image_43 : decode cX13_image 43 = .ok (.iload_n 1, 1) := by decide +kernel
theorem dX13_image_44 : decode cX13_image 44 = .ok (.iaload, 1) := by decide +kernel
theorem dX13_image_45 : decode cX13_image 45 = .ok (.iastore, 1) := by decide +kernel
theorem dX13_image_46 : decode cX13_image 46 = .ok (.iinc 1 1, 3) := by decide +kernel
theorem dX13_image_49 : decode cX13_image 49 = .ok (.goto (-21), 3) := by decide +kernel
theorem dX13_image_52 : decode cX13_image 52 = .ok (.aload_n 0, 1) := by decide +kernel
theorem dX13_image_53 : decode cX13_image 53 = .ok (.aload_n 0, 1) := by decide +kernel
theorem dX13_image_54 : decode cX13_image 54 = .ok (.getfield 111, 3) := by decide +kernel
theorem dX13_image_57 : decode cX13_image 57 = .ok (.aload_n 0, 1) := by decide +kernel
theorem dX13_image_58 : decode cX13_image 58 = .ok (.getfield 135, 3) := by decide +kernel
theorem dX13_image_61 : decode cX13_image 61 = .ok (.invokevirtual 348, 3) := by decide +kernel
theorem dX13_image_64 : decode cX13_image 64 = .ok (.aload_n 0, 1) := by decide +kernel
theorem dX13_image_65 : decode cX13_image 65 = .ok (.aload_n 0, 1) := by decide +kernel
theorem dX13_image_66 : decode cX13_image 66 = .ok (.getfield 123, 3) := by decide +kernel
theorem dX13_image_69 : decode cX13_image 69 = .ok (.aload_n 0, 1) := by decide +kernel
theorem dX13_image_70 : decode cX13_image 70 = .ok (.getfield 138, 3) := by decide +kernel
theorem dX13_image_73 : decode cX13_image 73 = .ok (.invokevirtual 348, 3) := by decide +kernel
theorem dX13_image_76 : decode cX13_image 76 = .ok (.return_, 1) := by decide +kernel
theorem dX13_restore_0 : decode cX13_restore 0 = .ok (.aload_n 0, 1) := by decide +kernel
theorem dX13_restore_1 : decode cX13_restore 1 = .ok (.iconst 0, 1) := by decide +kernel
theorem dX13_restore_2 : decode cX13_restore 2 = .ok (.putfield 141, 3) := by decide +kernel
theorem dX13_restore_5 : decode cX13_restore 5 = .ok (.aload_n 0, 1) := by decide +kernel
theorem dX13_restore_6 : decode cX13_restore 6 = .ok (.getfield 358, 3) := by decide +kernel
theorem dX13_restore_9 : decode cX13_restore 9 = .ok (.ifCond .ne 5, 3) := by decide +kernel
theorem dX13_restore_12 : decode cX13_restore 12 = .ok (.iconst 0, 1) := by decide +kernel
theorem dX13_restore_13 : decode cX13_restore 13 = .ok (.ireturn, 1) := by decide +kernel
theorem dX13_restore_14 : decode cX13_restore 14 = .ok (.aload_n 0, 1) := by decide +kernel
theorem dX13_restore_15 : decode cX13_restore 15 = .ok (.aload_n 0, 1) := by decide +kernel
theorem dX13_restore_16 : decode cX13_restore 16 = .ok (.getfield 493, 3) := by decide +kernel
theorem dX13_restore_19 : decode cX13_restore 19 = .ok (.putfield 352, 3) := by decide +kernel
theorem dX13_restore_22 : decode cX13_restore 22 = .ok (.aload_n 0, 1) := by decide +kernel
theorem dX13_restore_23 : decode cX13_restore 23 = .ok (.aload_n 0, 1) := by decide +kernel
theorem dX13_restore_24 : decode cX13_restore 24 = .ok (.getfield 496, 3) := by decide +kernel
theorem dX13_restore_27 : decode cX13_restore 27 = .ok (.putfield 355, 3) := by decide +kernel
theorem dX13_restore_30 : decode cX13_restore 30 = .ok (.iconst 0, 1) := by decide +kernel
theorem dX13_restore_31 : decode cX13_restore 31 = .ok (.istore_n 1, 1) := by decide +kernel
theorem dX13_restore_32 : decode cX13_restore 32 = .ok (.iload_n 1, 1) := by decide +kernel
theorem dX13_restore_33 : decode cX13_restore 33 = .ok (.bipush 31, 2) := by decide +kernel
theorem dX13_restore_35 : decode cX13_restore 35 = .ok (.if_icmp .ge 21, 3) := by decide +kernel
theorem dX13_restore_38 : decode cX13_restore 38 = .ok (.aload_n 0, 1) := by decide +kernel
theorem dX13_restore_39 : decode cX13_restore 39 = .ok (.getfield 108, 3) := by decide +kernel
theorem dX13_restore_42 : decode cX13_restore 42 = .ok (.iload_n 1, 1) := by decide +kernel
theorem dX13_restore_43 : decode cX13_restore 43 = .ok (.aload_n 0, 1) := by decide +kernel
theorem dX13_restore_44 : decode cX13_restore 44 = .ok (.getfield 132, 3) := by decide +kernel
theorem dX13_restore_47 : decode cX13_restore 47 = .ok (.iload_n 1, 1) := by decide +kernel
theorem dX13_restore_48 : decode cX13_restore 48 = .ok (.iaload, 1) := by decide +kernel
theorem dX13_restore_49 : decode cX13_restore 49 = .ok (.iastore, 1) := by decide +kernel
theorem dX13_restore_50 : decode cX13_restore 50 = .ok (.iinc 1 1, 3) := by decide +kernel
theorem dX13_restore_53 : decode cX13_restore 53 = .ok (.goto (-21), 3) := by decide +kernel
theorem dX13_restore_56 : decode cX13_restore 56 = .ok (.aload_n 0, 1) := by decide +kernel
theorem dX13_restore_57 : decode cX13_restore 57 = .ok (.aload_n 0, 1) := by decide +kernel
theorem dX13_restore_58 : decode cX13_restore 58 = .ok (.getfield 135, 3) := by decide +kernel
theorem dX13_restore_61 : decode cX13_restore 61 = .ok (.aload_n 0, 1) := by decide +kernel
theorem dX13_restore_62 : decode cX13_restore 62 = .ok (.getfield 111, 3) := by decide +kernel
theorem dX13_restore_65 : decode cX13_restore 65 = .ok (.invokevirtual 348, 3) := by decide +kernel
theorem dX13_restore_68 : decode cX13_restore 68 = .ok (.aload_n 0, 1) := by decide +kernel
theorem dX13_restore_69 : decode cX13_restore 69 = .ok (.aload_n 0, 1) := by decide +kernel
theorem dX13_restore_70 : decode cX13_restore 70 = .ok (.getfield 138, 3) := by decide +kernel
theorem dX13_restore_73 : decode cX13_restore 73 = .ok (.aload_n 0, 1) := by decide +kernel
theorem dX13_restore_74 : decode cX13_restore 74 = .ok (.getfield 123, 3) := by decide +kernel
theorem dX13_restore_77 : decode cX13_restore 77 = .ok (.invokevirtual 348, 3) := by decide +kernel
theorem dX13_restore_80 : decode cX13_restore 80 = .ok (.iconst 1, 1) := by decide +kernel
theorem dX13_restore_81 : decode cX13_restore 81 = .ok (.ireturn, 1) := by decide +kernel
theorem dJx29ce0_ordinal_8abf5_0 : decode cJx29ce0_ordinal_8abf5 0 = .ok (.aload_n 0, 1) := by decide +kernel
theorem dJx29ce0_ordinal_8abf5_1 : decode cJx29ce0_ordinal_8abf5 1 = .ok (.getfield 7, 3) := by decide +kernel
theorem dJx29ce0_ordinal_8abf5_4 : decode cJx29ce0_ordinal_8abf5 4 = .ok (.ireturn, 1) := by decide +kernel
theorem dJ6_bitCount_0f7a4_0 : decode cJ6_bitCount_0f7a4 0 = .ok (.iload_n 0, 1) := by decide +kernel
theorem dJ6_bitCount_0f7a4_1 : decode cJ6_bitCount_0f7a4 1 = .ok (.iload_n 0, 1) := by decide +kernel
theorem dJ6_bitCount_0f7a4_2 : decode cJ6_bitCount_0f7a4 2 = .ok (.iconst 1, 1) := by decide +kernel
theorem dJ6_bitCount_0f7a4_3 : decode cJ6_bitCount_0f7a4 3 = .ok (.iushr, 1) := by decide +kernel
theorem dJ6_bitCount_0f7a4_4 : decode cJ6_bitCount_0f7a4 4 = .ok (.ldc_w 265, 3) := by decide +kernel
theorem dJ6_bitCount_0f7a4_7 : decode cJ6_bitCount_0f7a4 7 = .ok (.iand, 1) := by decide +kernel
theorem dJ6_bitCount_0f7a4_8 : decode cJ6_bitCount_0f7a4 8 = .ok (.isub, 1) := by decide +kernel
theorem dJ6_bitCount_0f7a4_9 : decode cJ6_bitCount_0f7a4 9 = .ok (.istore_n 0, 1) := by decide +kernel
theorem dJ6_bitCount_0f7a4_10 : decode cJ6_bitCount_0f7a4 10 = .ok (.iload_n 0, 1) := by decide +kernel
theorem dJ6_bitCount_0f7a4_11 : decode cJ6_bitCount_0f7a4 11 = .ok (.ldc_w 266, 3) := by decide +kernel
theorem dJ6_bitCount_0f7a4_14 : decode cJ6_bitCount_0f7a4 14 = .ok (.iand, 1) := by decide +kernel
theorem dJ6_bitCount_0f7a4_15 : decode cJ6_bitCount_0f7a4 15 = .ok (.iload_n 0, 1) := by decide +kernel
theorem dJ6_bitCount_0f7a4_16 : decode cJ6_bitCount_0f7a4 16 = .ok (.iconst 2, 1) := by decide +kernel
theorem dJ6_bitCount_0f7a4_17 : decode cJ6_bitCount_0f7a4 17 = .ok (.iushr, 1) := by decide +kernel
theorem dJ6_bitCount_0f7a4_18 : decode cJ6_bitCount_0f7a4 18 = .ok (.ldc_w 266, 3) := by decide +kernel
theorem dJ6_bitCount_0f7a4_21 : decode cJ6_bitCount_0f7a4 21 = .ok (.iand, 1) := by decide +kernel
theorem dJ6_bitCount_0f7a4_22 : decode cJ6_bitCount_0f7a4 22 = .ok (.iadd, 1) := by decide +kernel
theorem dJ6_bitCount_0f7a4_23 : decode cJ6_bitCount_0f7a4 23 = .ok (.istore_n 0, 1) := by decide +kernel
theorem dJ6_bitCount_0f7a4_24 : decode cJ6_bitCount_0f7a4 24 = .ok (.iload_n 0, 1) := by decide +kernel
theorem dJ6_bitCount_0f7a4_25 : decode cJ6_bitCount_0f7a4 25 = .ok (.iload_n 0, 1) := by decide +kernel
theorem dJ6_bitCount_0f7a4_26 : decode cJ6_bitCount_0f7a4 26 = .ok (.iconst 4, 1) := by decide +kernel
theorem dJ6_bitCount_0f7a4_27 : decode cJ6_bitCount_0f7a4 27 = .ok (.iushr, 1) := by decide +kernel
theorem dJ6_bitCount_0f7a4_28 : decode cJ6_bitCount_0f7a4 28 = .ok (.iadd, 1) := by decide +kernel
theorem dJ6_bitCount_0f7a4_29 : decode cJ6_bitCount_0f7a4 29 = .ok (.ldc_w 267, 3) := by decide +kernel
theorem dJ6_bitCount_0f7a4_32 : decode cJ6_bitCount_0f7a4 32 = .ok (.iand, 1) := by decide +kernel
theorem dJ6_bitCount_0f7a4_33 : decode cJ6_bitCount_0f7a4 33 = .ok (.istore_n 0, 1) := by decide +kernel
theorem dJ6_bitCount_0f7a4_34 : decode cJ6_bitCount_0f7a4 34 = .ok (.iload_n 0, 1) := by decide +kernel
theorem dJ6_bitCount_0f7a4_35 : decode cJ6_bitCount_0f7a4 35 = .ok (.iload_n 0, 1) := by decide +kernel
theorem dJ6_bitCount_0f7a4_36 : decode cJ6_bitCount_0f7a4 36 = .ok (.bipush 8, 2) := by decide +kernel
theorem dJ6_bitCount_0f7a4_38 : decode cJ6_bitCount_0f7a4 38 = .ok (.iushr, 1) := by decide +kernel
theorem dJ6_bitCount_0f7a4_39 : decode cJ6_bitCount_0f7a4 39 = .ok (.iadd, 1) := by decide +kernel
theorem dJ6_bitCount_0f7a4_40 : decode cJ6_bitCount_0f7a4 40 = .ok (.istore_n 0, 1) := by decide +kernel
theorem dJ6_bitCount_0f7a4_41 : decode cJ6_bitCount_0f7a4 41 = .ok (.iload_n 0, 1) := by decide +kernel
theorem dJ6_bitCount_0f7a4_42 : decode cJ6_bitCount_0f7a4 42 = .ok (.iload_n 0, 1) := by decide +kernel
theorem dJ6_bitCount_0f7a4_43 : decode cJ6_bitCount_0f7a4 43 = .ok (.bipush 16, 2) := by decide +kernel
theorem dJ6_bitCount_0f7a4_45 : decode cJ6_bitCount_0f7a4 45 = .ok (.iushr, 1) := by decide +kernel
theorem dJ6_bitCount_0f7a4_46 : decode cJ6_bitCount_0f7a4 46 = .ok (.iadd, 1) := by decide +kernel
theorem dJ6_bitCount_0f7a4_47 : decode cJ6_bitCount_0f7a4 47 = .ok (.istore_n 0, 1) := by decide +kernel
theorem dJ6_bitCount_0f7a4_48 : decode cJ6_bitCount_0f7a4 48 = .ok (.iload_n 0, 1) := by decide +kernel
theorem dJ6_bitCount_0f7a4_49 : decode cJ6_bitCount_0f7a4 49 = .ok (.bipush 63, 2) := by decide +kernel
theorem dJ6_bitCount_0f7a4_51 : decode cJ6_bitCount_0f7a4 51 = .ok (.iand, 1) := by decide +kernel
theorem dJ6_bitCount_0f7a4_52 : decode cJ6_bitCount_0f7a4 52 = .ok (.ireturn, 1) := by decide +kernel
theorem dJ9_abs_0f7a4_0 : decode cJ9_abs_0f7a4 0 = .ok (.iload_n 0, 1) := by decide +kernel
theorem dJ9_abs_0f7a4_1 : decode cJ9_abs_0f7a4 1 = .ok (.ifCond .ge 8, 3) := by decide +kernel
theorem dJ9_abs_0f7a4_4 : decode cJ9_abs_0f7a4 4 = .ok (.iload_n 0, 1) := by decide +kernel
theorem dJ9_abs_0f7a4_5 : decode cJ9_abs_0f7a4 5 = .ok (.ineg, 1) := by decide +kernel
theorem dJ9_abs_0f7a4_6 : decode cJ9_abs_0f7a4 6 = .ok (.goto 4, 3) := by decide +kernel
theorem dJ9_abs_0f7a4_9 : decode cJ9_abs_0f7a4 9 = .ok (.iload_n 0, 1) := by decide +kernel
theorem dJ9_abs_0f7a4_10 : decode cJ9_abs_0f7a4 10 = .ok (.ireturn, 1) := by decide +kernel
theorem dJ9_max_7cf53_0 : decode cJ9_max_7cf53 0 = .ok (.iload_n 0, 1) := by decide +kernel
theorem dJ9_max_7cf53_1 : decode cJ9_max_7cf53 1 = .ok (.iload_n 1, 1) := by decide +kernel
theorem dJ9_max_7cf53_2 : decode cJ9_max_7cf53 2 = .ok (.if_icmp .lt 7, 3) := by decide +kernel
theorem dJ9_max_7cf53_5 : decode cJ9_max_7cf53 5 = .ok (.iload_n 0, 1) := by decide +kernel
theorem dJ9_max_7cf53_6 : decode cJ9_max_7cf53 6 = .ok (.goto 4, 3) := by decide +kernel
theorem dJ9_max_7cf53_9 : decode cJ9_max_7cf53 9 = .ok (.iload_n 1, 1) := by decide +kernel
theorem dJ9_max_7cf53_10 : decode cJ9_max_7cf53 10 = .ok (.ireturn, 1) := by decide +kernel
theorem dJ9_min_7cf53_0 : decode cJ9_min_7cf53 0 = .ok (.iload_n 0, 1) := by decide +kernel
theorem dJ9_min_7cf53_1 : decode cJ9_min_7cf53 1 = .ok (.iload_n 1, 1) := by decide +kernel
theorem dJ9_min_7cf53_2 : decode cJ9_min_7cf53 2 = .ok (.if_icmp .gt 7, 3) := by decide +kernel
theorem dJ9_min_7cf53_5 : decode cJ9_min_7cf53 5 = .ok (.iload_n 0, 1) := by decide +kernel
theorem dJ9_min_7cf53_6 : decode cJ9_min_7cf53 6 = .ok (.goto 4, 3) := by decide +kernel
theorem dJ9_min_7cf53_9 : decode cJ9_min_7cf53 9 = .ok (.iload_n 1, 1) := by decide +kernel
theorem dJ9_min_7cf53_10 : decode cJ9_min_7cf53 10 = .ok (.ireturn, 1) := by decide +kernel
theorem dJ0_length_8abf5_0 : decode cJ0_length_8abf5 0 = .ok (.aload_n 0, 1) := by decide +kernel
theorem dJ0_length_8abf5_1 : decode cJ0_length_8abf5 1 = .ok (.getfield 9, 3) := by decide +kernel
theorem dJ0_length_8abf5_4 : decode cJ0_length_8abf5 4 = .ok (.arraylength, 1) := by decide +kernel
theorem dJ0_length_8abf5_5 : decode cJ0_length_8abf5 5 = .ok (.aload_n 0, 1) := by decide +kernel
theorem dJ0_length_8abf5_6 : decode cJ0_length_8abf5 6 = .ok (.invokevirtual 335, 3) := by decide +kernel
theorem dJ0_length_8abf5_9 : decode cJ0_length_8abf5 9 = .ok (.ishr, 1) := by decide +kernel
theorem dJ0_length_8abf5_10 : decode cJ0_length_8abf5 10 = .ok (.ireturn, 1) := by decide +kernel
theorem dJ0_charAt_5068e_0 : decode cJ0_charAt_5068e 0 = .ok (.aload_n 0, 1) := by decide +kernel
theorem dJ0_charAt_5068e_1 : decode cJ0_charAt_5068e 1 = .ok (.invokevirtual 492, 3) := by decide +kernel
theorem dJ0_charAt_5068e_4 : decode cJ0_charAt_5068e 4 = .ok (.ifCond .eq 12, 3) := by decide +kernel
theorem dJ0_charAt_5068e_7 : decode cJ0_charAt_5068e 7 = .ok (.aload_n 0, 1) := by decide +kernel
theorem dJ0_charAt_5068e_8 : decode cJ0_charAt_5068e 8 = .ok (.getfield 9, 3) := by decide +kernel
theorem dJ0_charAt_5068e_11 : decode cJ0_charAt_5068e 11 = .ok (.iload_n 1, 1) := by decide +kernel
theorem dJ0_charAt_5068e_12 : decode cJ0_charAt_5068e 12 = .ok (.invokestatic 495, 3) := by decide +kernel
theorem dJ0_charAt_5068e_15 : decode cJ0_charAt_5068e 15 = .ok (.ireturn, 1) := by decide +kernel
theorem dJ0_charAt_5068e_16 : decode cJ0_charAt_5068e 16 = .ok (.aload_n 0, 1) := by decide +kernel
theorem dJ0_charAt_5068e_17 : decode cJ0_charAt_5068e 17 = .ok (.getfield 9, 3) := by decide +kernel
theorem dJ0_charAt_5068e_20 : decode cJ0_charAt_5068e 20 = .ok (.iload_n 1, 1) := by decide +kernel
theorem dJ0_charAt_5068e_21 : decode cJ0_charAt_5068e 21 = .ok (.invokestatic 498, 3) := by decide +kernel
theorem dJ0_charAt_5068e_24 : decode cJ0_charAt_5068e 24 = .ok (.ireturn, 1) := by decide +kernel
theorem dJ0_coder_7d493_0 : decode cJ0_coder_7d493 0 = .ok (.getstatic 38, 3) := by decide +kernel
theorem dJ0_coder_7d493_3 : decode cJ0_coder_7d493 3 = .ok (.ifCond .eq 10, 3) := by decide +kernel
theorem dJ0_coder_7d493_6 : decode cJ0_coder_7d493 6 = .ok (.aload_n 0, 1) := by decide +kernel
theorem dJ0_coder_7d493_7 : decode cJ0_coder_7d493 7 = .ok (.getfield 15, 3) := by decide +kernel
theorem dJ0_coder_7d493_10 : decode cJ0_coder_7d493 10 = .ok (.goto 4, 3) := by decide +kernel
theorem dJ0_coder_7d493_13 : decode cJ0_coder_7d493 13 = .ok (.iconst 1, 1) := by decide +kernel
theorem dJ0_coder_7d493_14 : decode cJ0_coder_7d493 14 = .ok (.ireturn, 1) := by decide +kernel
theorem dJ0_isLatin1_aae02_0 : decode cJ0_isLatin1_aae02 0 = .ok (.getstatic 38, 3) := by decide +kernel
theorem dJ0_isLatin1_aae02_3 : decode cJ0_isLatin1_aae02 3 = .ok (.ifCond .eq 14, 3) := by decide +kernel
theorem dJ0_isLatin1_aae02_6 : decode cJ0_isLatin1_aae02 6 = .ok (.aload_n 0, 1) := by decide +kernel
theorem dJ0_isLatin1_aae02_7 : decode cJ0_isLatin1_aae02 7 = .ok (.getfield 15, 3) := by decide +kernel
theorem dJ0_isLatin1_aae02_10 : decode cJ0_isLatin1_aae02 10 = .ok (.ifCond .ne 7, 3) := by decide +kernel
theorem dJ0_isLatin1_aae02_13 : decode cJ0_isLatin1_aae02 13 = .ok (.iconst 1, 1) := by decide +kernel
theorem dJ0_isLatin1_aae02_14 : decode cJ0_isLatin1_aae02 14 = .ok (.goto 4, 3) := by decide +kernel
theorem dJ0_isLatin1_aae02_17 : decode cJ0_isLatin1_aae02 17 = .ok (.iconst 0, 1) := by decide +kernel
theorem dJ0_isLatin1_aae02_18 : decode cJ0_isLatin1_aae02 18 = .ok (.ireturn, 1) := by decide +kernel
theorem dJ0_checkIndex_df160_0 : decode cJ0_checkIndex_df160 0 = .ok (.iload_n 0, 1) := by decide +kernel
theorem dJ0_checkIndex_df160_1 : decode cJ0_checkIndex_df160 1 = .ok (.iload_n 1, 1) := by decide +kernel
theorem dJ0_checkIndex_df160_2 : decode cJ0_checkIndex_df160 2 = .ok (.getstatic 1053, 3) := by decide +kernel
theorem dJ0_checkIndex_df160_5 : decode cJ0_checkIndex_df160 5 = .ok (.invokestatic 1059, 3) := by decide +kernel
theorem dJ0_checkIndex_df160_8 : decode cJ0_checkIndex_df160 8 = .ok (.pop, 1) := by decide +kernel
theorem dJ0_checkIndex_df160_9 : decode cJ0_checkIndex_df160 9 = .ok (.return_, 1) := by decide +kernel
theorem dJ1_charAt_3b067_0 : decode cJ1_charAt_3b067 0 = .ok (.iload_n 1, 1) := by decide +kernel
theorem dJ1_charAt_3b067_1 : decode cJ1_charAt_3b067 1 = .ok (.aload_n 0, 1) := by decide +kernel
theorem dJ1_charAt_3b067_2 : decode cJ1_charAt_3b067 2 = .ok (.arraylength, 1) := by decide +kernel
theorem dJ1_charAt_3b067_3 : decode cJ1_charAt_3b067 3 = .ok (.invokestatic 9, 3) := by decide +kernel
theorem dJ1_charAt_3b067_6 : decode cJ1_charAt_3b067 6 = .ok (.aload_n 0, 1) := by decide +kernel
theorem dJ1_charAt_3b067_7 : decode cJ1_charAt_3b067 7 = .ok (.iload_n 1, 1) := by decide +kernel
theorem dJ1_charAt_3b067_8 : decode cJ1_charAt_3b067 8 = .ok (.baload, 1) := by decide +kernel
theorem dJ1_charAt_3b067_9 : decode cJ1_charAt_3b067 9 = .ok (.sipush 255, 3) := by decide +kernel
theorem dJ1_charAt_3b067_12 : decode cJ1_charAt_3b067 12 = .ok (.iand, 1) := by decide +kernel
theorem dJ1_charAt_3b067_13 : decode cJ1_charAt_3b067 13 = .ok (.i2c, 1) := by decide +kernel
theorem dJ1_charAt_3b067_14 : decode cJ1_charAt_3b067 14 = .ok (.ireturn, 1) := by decide +kernel
theorem dJ2_getChar_3b067_0 : decode cJ2_getChar_3b067 0 = .ok (.getstatic 44, 3) := by decide +kernel
theorem dJ2_getChar_3b067_3 : decode cJ2_getChar_3b067 3 = .ok (.ifCond .ne 25, 3) := by decide +kernel
theorem dJ2_getChar_3b067_6 : decode cJ2_getChar_3b067 6 = .ok (.iload_n 1, 1) := by decide +kernel
theorem dJ2_getChar_3b067_7 : decode cJ2_getChar_3b067 7 = .ok (.ifCond .lt 11, 3) := by decide +kernel
theorem dJ2_getChar_3b067_10 : decode cJ2_getChar_3b067 10 = .ok (.iload_n 1, 1) := by decide +kernel
theorem dJ2_getChar_3b067_11 : decode cJ2_getChar_3b067 11 = .ok (.aload_n 0, 1) := by decide +kernel
theorem dJ2_getChar_3b067_12 : decode cJ2_getChar_3b067 12 = .ok (.invokestatic 48, 3) := by decide +kernel
theorem dJ2_getChar_3b067_15 : decode cJ2_getChar_3b067 15 = .ok (.if_icmp .lt 13, 3) := by decide +kernel
theorem dJ2_getChar_3b067_18 : decode cJ2_getChar_3b067 18 = .ok (.new 52, 3) := by decide +kernel
theorem dJ2_getChar_3b067_21 : decode cJ2_getChar_3b067 21 = .ok (.dup, 1) := by decide +kernel
theorem dJ2_getChar_3b067_22 : decode cJ2_getChar_3b067 22 = .ok (.ldc 54, 2) := by decide +kernel
theorem dJ2_getChar_3b067_24 : decode cJ2_getChar_3b067 24 = .ok (.invokespecial 56, 3) := by decide +kernel
theorem dJ2_getChar_3b067_27 : decode cJ2_getChar_3b067 27 = .ok (.athrow, 1) := by decide +kernel
theorem dJ2_getChar_3b067_28 : decode cJ2_getChar_3b067 28 = .ok (.iload_n 1, 1) := by decide +kernel
theorem dJ2_getChar_3b067_29 : decode cJ2_getChar_3b067 29 = .ok (.iconst 1, 1) := by decide +kernel
theorem dJ2_getChar_3b067_30 : decode cJ2_getChar_3b067 30 = .ok (.ishl, 1) := by decide +kernel
theorem dJ2_getChar_3b067_31 : decode cJ2_getChar_3b067 31 = .ok (.istore_n 1, 1) := by decide +kernel
theorem dJ2_getChar_3b067_32 : decode cJ2_getChar_3b067 32 = .ok (.aload_n 0, 1) := by decide +kernel
theorem dJ2_getChar_3b067_33 : decode cJ2_getChar_3b067 33 = .ok (.iload_n 1, 1) := by decide +kernel
theorem dJ2_getChar_3b067_34 : decode cJ2_getChar_3b067 34 = .ok (.iinc 1 1, 3) := by decide +kernel
theorem dJ2_getChar_3b067_37 : decode cJ2_getChar_3b067 37 = .ok (.baload, 1) := by decide +kernel
theorem dJ2_getChar_3b067_38 : decode cJ2_getChar_3b067 38 = .ok (.sipush 255, 3) := by decide +kernel
theorem dJ2_getChar_3b067_41 : decode cJ2_getChar_3b067 41 = .ok (.iand, 1) := by decide +kernel
theorem dJ2_getChar_3b067_42 : decode cJ2_getChar_3b067 42 = .ok (.getstatic 59, 3) := by decide +kernel
theorem dJ2_getChar_3b067_45 : decode cJ2_getChar_3b067 45 = .ok (.ishl, 1) := by decide +kernel
theorem dJ2_getChar_3b067_46 : decode cJ2_getChar_3b067 46 = .ok (.aload_n 0, 1) := by decide +kernel
theorem dJ2_getChar_3b067_47 : decode cJ2_getChar_3b067 47 = .ok (.iload_n 1, 1) := by decide +kernel
theorem dJ2_getChar_3b067_48 : decode cJ2_getChar_3b067 48 = .ok (.baload, 1) := by decide +kernel
theorem dJ2_getChar_3b067_49 : decode cJ2_getChar_3b067 49 = .ok (.sipush 255, 3) := by decide +kernel
theorem dJ2_getChar_3b067_52 : decode cJ2_getChar_3b067 52 = .ok (.iand, 1) := by decide +kernel
theorem dJ2_getChar_3b067_53 : decode cJ2_getChar_3b067 53 = .ok (.getstatic 63, 3) := by decide +kernel
theorem dJ2_getChar_3b067_56 : decode cJ2_getChar_3b067 56 = .ok (.ishl, 1) := by decide +kernel
theorem dJ2_getChar_3b067_57 : decode cJ2_getChar_3b067 57 = .ok (.ior, 1) := by decide +kernel
theorem dJ2_getChar_3b067_58 : decode cJ2_getChar_3b067 58 = .ok (.i2c, 1) := by decide +kernel
theorem dJ2_getChar_3b067_59 : decode cJ2_getChar_3b067 59 = .ok (.ireturn, 1) := by decide +kernel
theorem dJ2_length_9d52b_0 : decode cJ2_length_9d52b 0 = .ok (.aload_n 0, 1) := by decide +kernel
theorem dJ2_length_9d52b_1 : decode cJ2_length_9d52b 1 = .ok (.arraylength, 1) := by decide +kernel
theorem dJ2_length_9d52b_2 : decode cJ2_length_9d52b 2 = .ok (.iconst 1, 1) := by decide +kernel
theorem dJ2_length_9d52b_3 : decode cJ2_length_9d52b 3 = .ok (.ishr, 1) := by decide +kernel
theorem dJ2_length_9d52b_4 : decode cJ2_length_9d52b 4 = .ok (.ireturn, 1) := by decide +kernel
theorem dJ2_charAt_3b067_0 : decode cJ2_charAt_3b067 0 = .ok (.iload_n 1, 1) := by decide +kernel
theorem dJ2_charAt_3b067_1 : decode cJ2_charAt_3b067 1 = .ok (.aload_n 0, 1) := by decide +kernel
theorem dJ2_charAt_3b067_2 : decode cJ2_charAt_3b067 2 = .ok (.invokestatic 67, 3) := by decide +kernel
theorem dJ2_charAt_3b067_5 : decode cJ2_charAt_3b067 5 = .ok (.aload_n 0, 1) := by decide +kernel
theorem dJ2_charAt_3b067_6 : decode cJ2_charAt_3b067 6 = .ok (.iload_n 1, 1) := by decide +kernel
theorem dJ2_charAt_3b067_7 : decode cJ2_charAt_3b067 7 = .ok (.invokestatic 71, 3) := by decide +kernel
theorem dJ2_charAt_3b067_10 : decode cJ2_charAt_3b067 10 = .ok (.ireturn, 1) := by decide +kernel
theorem dJ2_checkIndex_2214a_0 : decode cJ2_checkIndex_2214a 0 = .ok (.iload_n 0, 1) := by decide +kernel
theorem dJ2_checkIndex_2214a_1 : decode cJ2_checkIndex_2214a 1 = .ok (.aload_n 1, 1) := by decide +kernel
theorem dJ2_checkIndex_2214a_2 : decode cJ2_checkIndex_2214a 2 = .ok (.invokestatic 48, 3) := by decide +kernel
theorem dJ2_checkIndex_2214a_5 : decode cJ2_checkIndex_2214a 5 = .ok (.invokestatic 414, 3) := by decide +kernel
theorem dJ2_checkIndex_2214a_8 : decode cJ2_checkIndex_2214a 8 = .ok (.return_, 1) := by decide +kernel
theorem dJ3_checkIndex_8e157_0 : decode cJ3_checkIndex_8e157 0 = .ok (.iload_n 0, 1) := by decide +kernel
theorem dJ3_checkIndex_8e157_1 : decode cJ3_checkIndex_8e157 1 = .ok (.ifCond .lt 8, 3) := by decide +kernel
theorem dJ3_checkIndex_8e157_4 : decode cJ3_checkIndex_8e157 4 = .ok (.iload_n 0, 1) := by decide +kernel
theorem dJ3_checkIndex_8e157_5 : decode cJ3_checkIndex_8e157 5 = .ok (.iload_n 1, 1) := by decide +kernel
theorem dJ3_checkIndex_8e157_6 : decode cJ3_checkIndex_8e157 6 = .ok (.if_icmp .lt 10, 3) := by decide +kernel
theorem dJ3_checkIndex_8e157_9 : decode cJ3_checkIndex_8e157 9 = .ok (.aload_n 2, 1) := by decide +kernel
theorem dJ3_checkIndex_8e157_10 : decode cJ3_checkIndex_8e157 10 = .ok (.iload_n 0, 1) := by decide +kernel
theorem dJ3_checkIndex_8e157_11 : decode cJ3_checkIndex_8e157 11 = .ok (.iload_n 1, 1) := by decide +kernel
theorem dJ3_checkIndex_8e157_12 : decode cJ3_checkIndex_8e157 12 = .ok (.invokestatic 95, 3) := by decide +kernel
theorem dJ3_checkIndex_8e157_15 : decode cJ3_checkIndex_8e157 15 = .ok (.athrow, 1) := by decide +kernel
theorem dJ3_checkIndex_8e157_16 : decode cJ3_checkIndex_8e157 16 = .ok (.iload_n 0, 1) := by decide +kernel
theorem dJ3_checkIndex_8e157_17 : decode cJ3_checkIndex_8e157 17 = .ok (.ireturn, 1) := by decide +kernel
theorem dL_land_0 : decode cL_land 0 = .ok (.aload_n 2, 1) := by decide +kernel
theorem dL_land_1 : decode cL_land 1 = .ok (.iconst 0, 1) := by decide +kernel
theorem dL_land_2 : decode cL_land 2 = .ok (.aload_n 0, 1) := by decide +kernel
theorem dL_land_3 : decode cL_land 3 = .ok (.iload_n 1, 1) := by decide +kernel
theorem dL_land_4 : decode cL_land 4 = .ok (.invokevirtual 7, 3) := by decide +kernel
theorem dL_land_7 : decode cL_land 7 = .ok (.i2l, 1) := by decide +kernel
theorem dL_land_8 : decode cL_land 8 = .ok (.lastore, 1) := by decide +kernel
theorem dL_land_9 : decode cL_land 9 = .ok (.goto 6, 3) := by decide +kernel
theorem dL_land_12 : decode cL_land 12 = .ok (.astore_n 3, 1) := by decide +kernel
theorem dL_land_13 : decode cL_land 13 = .ok (.iconst 1, 1) := by decide +kernel
theorem dL_land_14 : decode cL_land 14 = .ok (.ireturn, 1) := by decide +kernel
theorem dL_land_15 : decode cL_land 15 = .ok (.iconst 0, 1) := by decide +kernel
theorem dL_land_16 : decode cL_land 16 = .ok (.ireturn, 1) := by decide +kernel
theorem dL_count_0 : decode cL_count 0 = .ok (.aload_n 2, 1) := by decide +kernel
theorem dL_count_1 : decode cL_count 1 = .ok (.iconst 0, 1) := by decide +kernel
theorem dL_count_2 : decode cL_count 2 = .ok (.aload_n 0, 1) := by decide +kernel
theorem dL_count_3 : decode cL_count 3 = .ok (.iload_n 1, 1) := by decide +kernel
theorem dL_count_4 : decode cL_count 4 = .ok (.invokevirtual 15, 3) := by decide +kernel
theorem dL_count_7 : decode cL_count 7 = .ok (.i2l, 1) := by decide +kernel
theorem dL_count_8 : decode cL_count 8 = .ok (.lastore, 1) := by decide +kernel
theorem dL_count_9 : decode cL_count 9 = .ok (.goto 6, 3) := by decide +kernel
theorem dL_count_12 : decode cL_count 12 = .ok (.astore_n 3, 1) := by decide +kernel
theorem dL_count_13 : decode cL_count 13 = .ok (.iconst 1, 1) := by decide +kernel
theorem dL_count_14 : decode cL_count 14 = .ok (.ireturn, 1) := by decide +kernel
theorem dL_count_15 : decode cL_count 15 = .ok (.iconst 0, 1) := by decide +kernel
theorem dL_count_16 : decode cL_count 16 = .ok (.ireturn, 1) := by decide +kernel
theorem dL_deed_0 : decode cL_deed 0 = .ok (.aload_n 3, 1) := by decide +kernel
theorem dL_deed_1 : decode cL_deed 1 = .ok (.iconst 0, 1) := by decide +kernel
theorem dL_deed_2 : decode cL_deed 2 = .ok (.aload_n 0, 1) := by decide +kernel
theorem dL_deed_3 : decode cL_deed 3 = .ok (.iload_n 1, 1) := by decide +kernel
theorem dL_deed_4 : decode cL_deed 4 = .ok (.iload_n 2, 1) := by decide +kernel
theorem dL_deed_5 : decode cL_deed 5 = .ok (.invokevirtual 20, 3) := by decide +kernel
theorem dL_deed_8 : decode cL_deed 8 = .ok (.i2l, 1) := by decide +kernel
theorem dL_deed_9 : decode cL_deed 9 = .ok (.lastore, 1) := by decide +kernel
theorem dL_deed_10 : decode cL_deed 10 = .ok (.goto 7, 3) := by decide +kernel
theorem dL_deed_13 : decode cL_deed 13 = .ok (.astore 4, 2) := by decide +kernel
theorem dL_deed_15 : decode cL_deed 15 = .ok (.iconst 1, 1) := by decide +kernel
theorem dL_deed_16 : decode cL_deed 16 = .ok (.ireturn, 1) := by decide +kernel
theorem dL_deed_17 : decode cL_deed 17 = .ok (.iconst 0, 1) := by decide +kernel
theorem dL_deed_18 : decode cL_deed 18 = .ok (.ireturn, 1) := by decide +kernel
theorem dL_brother_0 : decode cL_brother 0 = .ok (.aload_n 3, 1) := by decide +kernel
theorem dL_brother_1 : decode cL_brother 1 = .ok (.iconst 0, 1) := by decide +kernel
theorem dL_brother_2 : decode cL_brother 2 = .ok (.aload_n 0, 1) := by decide +kernel
theorem dL_brother_3 : decode cL_brother 3 = .ok (.iload_n 1, 1) := by decide +kernel
theorem dL_brother_4 : decode cL_brother 4 = .ok (.iload_n 2, 1) := by decide +kernel
theorem dL_brother_5 : decode cL_brother 5 = .ok (.invokevirtual 24, 3) := by decide +kernel
theorem dL_brother_8 : decode cL_brother 8 = .ok (.i2l, 1) := by decide +kernel
theorem dL_brother_9 : decode cL_brother 9 = .ok (.lastore, 1) := by decide +kernel
theorem dL_brother_10 : decode cL_brother 10 = .ok (.goto 7, 3) := by decide +kernel
theorem dL_brother_13 : decode cL_brother 13 = .ok (.astore 4, 2) := by decide +kernel
theorem dL_brother_15 : decode cL_brother 15 = .ok (.iconst 1, 1) := by decide +kernel
theorem dL_brother_16 : decode cL_brother 16 = .ok (.ireturn, 1) := by decide +kernel
theorem dL_brother_17 : decode cL_brother 17 = .ok (.iconst 0, 1) := by decide +kernel
theorem dL_brother_18 : decode cL_brother 18 = .ok (.ireturn, 1) := by decide +kernel
theorem dL_way_0 : decode cL_way 0 = .ok (.aload_n 3, 1) := by decide +kernel
theorem dL_way_1 : decode cL_way 1 = .ok (.iconst 0, 1) := by decide +kernel
theorem dL_way_2 : decode cL_way 2 = .ok (.aload_n 0, 1) := by decide +kernel
theorem dL_way_3 : decode cL_way 3 = .ok (.iload_n 1, 1) := by decide +kernel
theorem dL_way_4 : decode cL_way 4 = .ok (.iload_n 2, 1) := by decide +kernel
theorem dL_way_5 : decode cL_way 5 = .ok (.invokevirtual 27, 3) := by decide +kernel
theorem dL_way_8 : decode cL_way 8 = .ok (.i2l, 1) := by decide +kernel
theorem dL_way_9 : decode cL_way 9 = .ok (.lastore, 1) := by decide +kernel
theorem dL_way_10 : decode cL_way 10 = .ok (.goto 7, 3) := by decide +kernel
theorem dL_way_13 : decode cL_way 13 = .ok (.astore 4, 2) := by decide +kernel
theorem dL_way_15 : decode cL_way 15 = .ok (.iconst 1, 1) := by decide +kernel
theorem dL_way_16 : decode cL_way 16 = .ok (.ireturn, 1) := by decide +kernel
theorem dL_way_17 : decode cL_way 17 = .ok (.iconst 0, 1) := by decide +kernel
theorem dL_way_18 : decode cL_way 18 = .ok (.ireturn, 1) := by decide +kernel
theorem dL_friend_0 : decode cL_friend 0 = .ok (.aload_n 3, 1) := by decide +kernel
theorem dL_friend_1 : decode cL_friend 1 = .ok (.iconst 0, 1) := by decide +kernel
theorem dL_friend_2 : decode cL_friend 2 = .ok (.aload_n 0, 1) := by decide +kernel
theorem dL_friend_3 : decode cL_friend 3 = .ok (.iload_n 1, 1) := by decide +kernel
theorem dL_friend_4 : decode cL_friend 4 = .ok (.iload_n 2, 1) := by decide +kernel
theorem dL_friend_5 : decode cL_friend 5 = .ok (.invokevirtual 30, 3) := by decide +kernel
theorem dL_friend_8 : decode cL_friend 8 = .ok (.i2l, 1) := by decide +kernel
theorem dL_friend_9 : decode cL_friend 9 = .ok (.lastore, 1) := by decide +kernel
theorem dL_friend_10 : decode cL_friend 10 = .ok (.goto 7, 3) := by decide +kernel
theorem dL_friend_13 : decode cL_friend 13 = .ok (.astore 4, 2) := by decide +kernel
theorem dL_friend_15 : decode cL_friend 15 = .ok (.iconst 1, 1) := by decide +kernel
theorem dL_friend_16 : decode cL_friend 16 = .ok (.ireturn, 1) := by decide +kernel
theorem dL_friend_17 : decode cL_friend 17 = .ok (.iconst 0, 1) := by decide +kernel
theorem dL_friend_18 : decode cL_friend 18 = .ok (.ireturn, 1) := by decide +kernel
theorem dL_change_0 : decode cL_change 0 = .ok (.aload 4, 2) := by decide +kernel
theorem dL_change_2 : decode cL_change 2 = .ok (.iconst 0, 1) := by decide +kernel
theorem dL_change_3 : decode cL_change 3 = .ok (.aload_n 0, 1) := by decide +kernel
theorem dL_change_4 : decode cL_change 4 = .ok (.iload_n 1, 1) := by decide +kernel
theorem dL_change_5 : decode cL_change 5 = .ok (.iload_n 2, 1) := by decide +kernel
theorem dL_change_6 : decode cL_change 6 = .ok (.iload_n 3, 1) := by decide +kernel
theorem dL_change_7 : decode cL_change 7 = .ok (.invokevirtual 33, 3) := by decide +kernel
theorem dL_change_10 : decode cL_change 10 = .ok (.i2l, 1) := by decide +kernel
theorem dL_change_11 : decode cL_change 11 = .ok (.lastore, 1) := by decide +kernel
theorem dL_change_12 : decode cL_change 12 = .ok (.goto 7, 3) := by decide +kernel
theorem dL_change_15 : decode cL_change 15 = .ok (.astore 5, 2) := by decide +kernel
theorem dL_change_17 : decode cL_change 17 = .ok (.iconst 1, 1) := by decide +kernel
theorem dL_change_18 : decode cL_change 18 = .ok (.ireturn, 1) := by decide +kernel
theorem dL_change_19 : decode cL_change 19 = .ok (.iconst 0, 1) := by decide +kernel
theorem dL_change_20 : decode cL_change 20 = .ok (.ireturn, 1) := by decide +kernel
theorem dL_gift_0 : decode cL_gift 0 = .ok (.aload_n 3, 1) := by decide +kernel
theorem dL_gift_1 : decode cL_gift 1 = .ok (.iconst 0, 1) := by decide +kernel
theorem dL_gift_2 : decode cL_gift 2 = .ok (.aload_n 0, 1) := by decide +kernel
theorem dL_gift_3 : decode cL_gift 3 = .ok (.iload_n 1, 1) := by decide +kernel
theorem dL_gift_4 : decode cL_gift 4 = .ok (.iload_n 2, 1) := by decide +kernel
theorem dL_gift_5 : decode cL_gift 5 = .ok (.invokevirtual 37, 3) := by decide +kernel
theorem dL_gift_8 : decode cL_gift 8 = .ok (.i2l, 1) := by decide +kernel
theorem dL_gift_9 : decode cL_gift 9 = .ok (.lastore, 1) := by decide +kernel
theorem dL_gift_10 : decode cL_gift 10 = .ok (.goto 7, 3) := by decide +kernel
theorem dL_gift_13 : decode cL_gift 13 = .ok (.astore 4, 2) := by decide +kernel
theorem dL_gift_15 : decode cL_gift 15 = .ok (.iconst 1, 1) := by decide +kernel
theorem dL_gift_16 : decode cL_gift 16 = .ok (.ireturn, 1) := by decide +kernel
theorem dL_gift_17 : decode cL_gift 17 = .ok (.iconst 0, 1) := by decide +kernel
theorem dL_gift_18 : decode cL_gift 18 = .ok (.ireturn, 1) := by decide +kernel
theorem dL_then_0 : decode cL_then 0 = .ok (.aload_n 3, 1) := by decide +kernel
theorem dL_then_1 : decode cL_then 1 = .ok (.iconst 0, 1) := by decide +kernel
theorem dL_then_2 : decode cL_then 2 = .ok (.aload_n 0, 1) := by decide +kernel
theorem dL_then_3 : decode cL_then 3 = .ok (.iload_n 1, 1) := by decide +kernel
theorem dL_then_4 : decode cL_then 4 = .ok (.iload_n 2, 1) := by decide +kernel
theorem dL_then_5 : decode cL_then 5 = .ok (.invokevirtual 40, 3) := by decide +kernel
theorem dL_then_8 : decode cL_then 8 = .ok (.i2l, 1) := by decide +kernel
theorem dL_then_9 : decode cL_then 9 = .ok (.lastore, 1) := by decide +kernel
theorem dL_then_10 : decode cL_then 10 = .ok (.goto 11, 3) := by decide +kernel
theorem dL_then_13 : decode cL_then 13 = .ok (.astore 4, 2) := by decide +kernel
theorem dL_then_15 : decode cL_then 15 = .ok (.iconst 1, 1) := by decide +kernel
theorem dL_then_16 : decode cL_then 16 = .ok (.ireturn, 1) := by decide +kernel
theorem dL_then_17 : decode cL_then 17 = .ok (.astore 4, 2) := by decide +kernel
theorem dL_then_19 : decode cL_then 19 = .ok (.iconst 2, 1) := by decide +kernel
theorem dL_then_20 : decode cL_then 20 = .ok (.ireturn, 1) := by decide +kernel
theorem dL_then_21 : decode cL_then 21 = .ok (.iconst 0, 1) := by decide +kernel
theorem dL_then_22 : decode cL_then 22 = .ok (.ireturn, 1) := by decide +kernel
theorem dL_stays_0 : decode cL_stays 0 = .ok (.aload_n 2, 1) := by decide +kernel
theorem dL_stays_1 : decode cL_stays 1 = .ok (.iconst 0, 1) := by decide +kernel
theorem dL_stays_2 : decode cL_stays 2 = .ok (.aload_n 0, 1) := by decide +kernel
theorem dL_stays_3 : decode cL_stays 3 = .ok (.iload_n 1, 1) := by decide +kernel
theorem dL_stays_4 : decode cL_stays 4 = .ok (.invokevirtual 43, 3) := by decide +kernel
theorem dL_stays_7 : decode cL_stays 7 = .ok (.i2l, 1) := by decide +kernel
theorem dL_stays_8 : decode cL_stays 8 = .ok (.lastore, 1) := by decide +kernel
theorem dL_stays_9 : decode cL_stays 9 = .ok (.goto 6, 3) := by decide +kernel
theorem dL_stays_12 : decode cL_stays 12 = .ok (.astore_n 3, 1) := by decide +kernel
theorem dL_stays_13 : decode cL_stays 13 = .ok (.iconst 1, 1) := by decide +kernel
theorem dL_stays_14 : decode cL_stays 14 = .ok (.ireturn, 1) := by decide +kernel
theorem dL_stays_15 : decode cL_stays 15 = .ok (.iconst 0, 1) := by decide +kernel
theorem dL_stays_16 : decode cL_stays 16 = .ok (.ireturn, 1) := by decide +kernel
theorem dL_cost_0 : decode cL_cost 0 = .ok (.aload_n 2, 1) := by decide +kernel
theorem dL_cost_1 : decode cL_cost 1 = .ok (.iconst 0, 1) := by decide +kernel
theorem dL_cost_2 : decode cL_cost 2 = .ok (.aload_n 0, 1) := by decide +kernel
theorem dL_cost_3 : decode cL_cost 3 = .ok (.iload_n 1, 1) := by decide +kernel
theorem dL_cost_4 : decode cL_cost 4 = .ok (.invokevirtual 46, 3) := by decide +kernel
theorem dL_cost_7 : decode cL_cost 7 = .ok (.i2l, 1) := by decide +kernel
theorem dL_cost_8 : decode cL_cost 8 = .ok (.lastore, 1) := by decide +kernel
theorem dL_cost_9 : decode cL_cost 9 = .ok (.goto 6, 3) := by decide +kernel
theorem dL_cost_12 : decode cL_cost 12 = .ok (.astore_n 3, 1) := by decide +kernel
theorem dL_cost_13 : decode cL_cost 13 = .ok (.iconst 1, 1) := by decide +kernel
theorem dL_cost_14 : decode cL_cost 14 = .ok (.ireturn, 1) := by decide +kernel
theorem dL_cost_15 : decode cL_cost 15 = .ok (.iconst 0, 1) := by decide +kernel
theorem dL_cost_16 : decode cL_cost 16 = .ok (.ireturn, 1) := by decide +kernel
theorem dL_plan_0 : decode cL_plan 0 = .ok (.aload_n 3, 1) := by decide +kernel
theorem dL_plan_1 : decode cL_plan 1 = .ok (.iconst 0, 1) := by decide +kernel
theorem dL_plan_2 : decode cL_plan 2 = .ok (.aload_n 0, 1) := by decide +kernel
theorem dL_plan_3 : decode cL_plan 3 = .ok (.iload_n 1, 1) := by decide +kernel
theorem dL_plan_4 : decode cL_plan 4 = .ok (.iload_n 2, 1) := by decide +kernel
theorem dL_plan_5 : decode cL_plan 5 = .ok (.invokevirtual 49, 3) := by decide +kernel
theorem dL_plan_8 : decode cL_plan 8 = .ok (.i2l, 1) := by decide +kernel
theorem dL_plan_9 : decode cL_plan 9 = .ok (.lastore, 1) := by decide +kernel
theorem dL_plan_10 : decode cL_plan 10 = .ok (.goto 11, 3) := by decide +kernel
theorem dL_plan_13 : decode cL_plan 13 = .ok (.astore 4, 2) := by decide +kernel
theorem dL_plan_15 : decode cL_plan 15 = .ok (.iconst 1, 1) := by decide +kernel
theorem dL_plan_16 : decode cL_plan 16 = .ok (.ireturn, 1) := by decide +kernel
theorem dL_plan_17 : decode cL_plan 17 = .ok (.astore 4, 2) := by decide +kernel
theorem dL_plan_19 : decode cL_plan 19 = .ok (.iconst 2, 1) := by decide +kernel
theorem dL_plan_20 : decode cL_plan 20 = .ok (.ireturn, 1) := by decide +kernel
theorem dL_plan_21 : decode cL_plan 21 = .ok (.iconst 0, 1) := by decide +kernel
theorem dL_plan_22 : decode cL_plan 22 = .ok (.ireturn, 1) := by decide +kernel
theorem dL_wins_0 : decode cL_wins 0 = .ok (.aload_n 3, 1) := by decide +kernel
theorem dL_wins_1 : decode cL_wins 1 = .ok (.iconst 0, 1) := by decide +kernel
theorem dL_wins_2 : decode cL_wins 2 = .ok (.aload_n 0, 1) := by decide +kernel
theorem dL_wins_3 : decode cL_wins 3 = .ok (.iload_n 1, 1) := by decide +kernel
theorem dL_wins_4 : decode cL_wins 4 = .ok (.iload_n 2, 1) := by decide +kernel
theorem dL_wins_5 : decode cL_wins 5 = .ok (.invokevirtual 52, 3) := by decide +kernel
theorem dL_wins_8 : decode cL_wins 8 = .ok (.ifCond .eq 7, 3) := by decide +kernel
theorem dL_wins_11 : decode cL_wins 11 = .ok (.lconst 1, 1) := by decide +kernel
theorem dL_wins_12 : decode cL_wins 12 = .ok (.goto 4, 3) := by decide +kernel
theorem dL_wins_15 : decode cL_wins 15 = .ok (.lconst 0, 1) := by decide +kernel
theorem dL_wins_16 : decode cL_wins 16 = .ok (.lastore, 1) := by decide +kernel
theorem dL_wins_17 : decode cL_wins 17 = .ok (.goto 7, 3) := by decide +kernel
theorem dL_wins_20 : decode cL_wins 20 = .ok (.astore 4, 2) := by decide +kernel
theorem dL_wins_22 : decode cL_wins 22 = .ok (.iconst 1, 1) := by decide +kernel
theorem dL_wins_23 : decode cL_wins 23 = .ok (.ireturn, 1) := by decide +kernel
theorem dL_wins_24 : decode cL_wins 24 = .ok (.iconst 0, 1) := by decide +kernel
theorem dL_wins_25 : decode cL_wins 25 = .ok (.ireturn, 1) := by decide +kernel
theorem dL_assault_0 : decode cL_assault 0 = .ok (.aload_n 2, 1) := by decide +kernel
theorem dL_assault_1 : decode cL_assault 1 = .ok (.iconst 0, 1) := by decide +kernel
theorem dL_assault_2 : decode cL_assault 2 = .ok (.aload_n 0, 1) := by decide +kernel
theorem dL_assault_3 : decode cL_assault 3 = .ok (.iload_n 1, 1) := by decide +kernel
theorem dL_assault_4 : decode cL_assault 4 = .ok (.invokevirtual 56, 3) := by decide +kernel
theorem dL_assault_7 : decode cL_assault 7 = .ok (.i2l, 1) := by decide +kernel
theorem dL_assault_8 : decode cL_assault 8 = .ok (.lastore, 1) := by decide +kernel
theorem dL_assault_9 : decode cL_assault 9 = .ok (.goto 6, 3) := by decide +kernel
theorem dL_assault_12 : decode cL_assault 12 = .ok (.astore_n 3, 1) := by decide +kernel
theorem dL_assault_13 : decode cL_assault 13 = .ok (.iconst 1, 1) := by decide +kernel
theorem dL_assault_14 : decode cL_assault 14 = .ok (.ireturn, 1) := by decide +kernel
theorem dL_assault_15 : decode cL_assault 15 = .ok (.iconst 0, 1) := by decide +kernel
theorem dL_assault_16 : decode cL_assault 16 = .ok (.ireturn, 1) := by decide +kernel
theorem dL_bought_0 : decode cL_bought 0 = .ok (.aload_n 2, 1) := by decide +kernel
theorem dL_bought_1 : decode cL_bought 1 = .ok (.iconst 0, 1) := by decide +kernel
theorem dL_bought_2 : decode cL_bought 2 = .ok (.aload_n 0, 1) := by decide +kernel
theorem dL_bought_3 : decode cL_bought 3 = .ok (.iload_n 1, 1) := by decide +kernel
theorem dL_bought_4 : decode cL_bought 4 = .ok (.invokevirtual 59, 3) := by decide +kernel
theorem dL_bought_7 : decode cL_bought 7 = .ok (.i2l, 1) := by decide +kernel
theorem dL_bought_8 : decode cL_bought 8 = .ok (.lastore, 1) := by decide +kernel
theorem dL_bought_9 : decode cL_bought 9 = .ok (.goto 6, 3) := by decide +kernel
theorem dL_bought_12 : decode cL_bought 12 = .ok (.astore_n 3, 1) := by decide +kernel
theorem dL_bought_13 : decode cL_bought 13 = .ok (.iconst 1, 1) := by decide +kernel
theorem dL_bought_14 : decode cL_bought 14 = .ok (.ireturn, 1) := by decide +kernel
theorem dL_bought_15 : decode cL_bought 15 = .ok (.iconst 0, 1) := by decide +kernel
theorem dL_bought_16 : decode cL_bought 16 = .ok (.ireturn, 1) := by decide +kernel
theorem dL_odds_0 : decode cL_odds 0 = .ok (.aload 4, 2) := by decide +kernel
theorem dL_odds_2 : decode cL_odds 2 = .ok (.iconst 0, 1) := by decide +kernel
theorem dL_odds_3 : decode cL_odds 3 = .ok (.aload_n 0, 1) := by decide +kernel
theorem dL_odds_4 : decode cL_odds 4 = .ok (.iload_n 1, 1) := by decide +kernel
theorem dL_odds_5 : decode cL_odds 5 = .ok (.iload_n 2, 1) := by decide +kernel
theorem dL_odds_6 : decode cL_odds 6 = .ok (.iload_n 3, 1) := by decide +kernel
theorem dL_odds_7 : decode cL_odds 7 = .ok (.invokevirtual 62, 3) := by decide +kernel
theorem dL_odds_10 : decode cL_odds 10 = .ok (.i2l, 1) := by decide +kernel
theorem dL_odds_11 : decode cL_odds 11 = .ok (.lastore, 1) := by decide +kernel
theorem dL_odds_12 : decode cL_odds 12 = .ok (.goto 11, 3) := by decide +kernel
theorem dL_odds_15 : decode cL_odds 15 = .ok (.astore 5, 2) := by decide +kernel
theorem dL_odds_17 : decode cL_odds 17 = .ok (.iconst 1, 1) := by decide +kernel
theorem dL_odds_18 : decode cL_odds 18 = .ok (.ireturn, 1) := by decide +kernel
theorem dL_odds_19 : decode cL_odds 19 = .ok (.astore 5, 2) := by decide +kernel
theorem dL_odds_21 : decode cL_odds 21 = .ok (.iconst 2, 1) := by decide +kernel
theorem dL_odds_22 : decode cL_odds 22 = .ok (.ireturn, 1) := by decide +kernel
theorem dL_odds_23 : decode cL_odds 23 = .ok (.iconst 0, 1) := by decide +kernel
theorem dL_odds_24 : decode cL_odds 24 = .ok (.ireturn, 1) := by decide +kernel
theorem dL_moved_0 : decode cL_moved 0 = .ok (.aload_n 3, 1) := by decide +kernel
theorem dL_moved_1 : decode cL_moved 1 = .ok (.iconst 0, 1) := by decide +kernel
theorem dL_moved_2 : decode cL_moved 2 = .ok (.aload_n 0, 1) := by decide +kernel
theorem dL_moved_3 : decode cL_moved 3 = .ok (.iload_n 1, 1) := by decide +kernel
theorem dL_moved_4 : decode cL_moved 4 = .ok (.iload_n 2, 1) := by decide +kernel
theorem dL_moved_5 : decode cL_moved 5 = .ok (.invokevirtual 65, 3) := by decide +kernel
theorem dL_moved_8 : decode cL_moved 8 = .ok (.i2l, 1) := by decide +kernel
theorem dL_moved_9 : decode cL_moved 9 = .ok (.lastore, 1) := by decide +kernel
theorem dL_moved_10 : decode cL_moved 10 = .ok (.goto 11, 3) := by decide +kernel
theorem dL_moved_13 : decode cL_moved 13 = .ok (.astore 4, 2) := by decide +kernel
theorem dL_moved_15 : decode cL_moved 15 = .ok (.iconst 1, 1) := by decide +kernel
theorem dL_moved_16 : decode cL_moved 16 = .ok (.ireturn, 1) := by decide +kernel
theorem dL_moved_17 : decode cL_moved 17 = .ok (.astore 4, 2) := by decide +kernel
theorem dL_moved_19 : decode cL_moved 19 = .ok (.iconst 2, 1) := by decide +kernel
theorem dL_moved_20 : decode cL_moved 20 = .ok (.ireturn, 1) := by decide +kernel
theorem dL_moved_21 : decode cL_moved 21 = .ok (.iconst 0, 1) := by decide +kernel
theorem dL_moved_22 : decode cL_moved 22 = .ok (.ireturn, 1) := by decide +kernel
theorem dL_parties_0 : decode cL_parties 0 = .ok (.aload_n 2, 1) := by decide +kernel
theorem dL_parties_1 : decode cL_parties 1 = .ok (.iconst 0, 1) := by decide +kernel
theorem dL_parties_2 : decode cL_parties 2 = .ok (.aload_n 0, 1) := by decide +kernel
theorem dL_parties_3 : decode cL_parties 3 = .ok (.iload_n 1, 1) := by decide +kernel
theorem dL_parties_4 : decode cL_parties 4 = .ok (.invokevirtual 68, 3) := by decide +kernel
theorem dL_parties_7 : decode cL_parties 7 = .ok (.i2l, 1) := by decide +kernel
theorem dL_parties_8 : decode cL_parties 8 = .ok (.lastore, 1) := by decide +kernel
theorem dL_parties_9 : decode cL_parties 9 = .ok (.goto 6, 3) := by decide +kernel
theorem dL_parties_12 : decode cL_parties 12 = .ok (.astore_n 3, 1) := by decide +kernel
theorem dL_parties_13 : decode cL_parties 13 = .ok (.iconst 1, 1) := by decide +kernel
theorem dL_parties_14 : decode cL_parties 14 = .ok (.ireturn, 1) := by decide +kernel
theorem dL_parties_15 : decode cL_parties 15 = .ok (.iconst 0, 1) := by decide +kernel
theorem dL_parties_16 : decode cL_parties 16 = .ok (.ireturn, 1) := by decide +kernel
theorem dL_another_0 : decode cL_another 0 = .ok (.aload_n 2, 1) := by decide +kernel
theorem dL_another_1 : decode cL_another 1 = .ok (.iconst 0, 1) := by decide +kernel
theorem dL_another_2 : decode cL_another 2 = .ok (.aload_n 0, 1) := by decide +kernel
theorem dL_another_3 : decode cL_another 3 = .ok (.iload_n 1, 1) := by decide +kernel
theorem dL_another_4 : decode cL_another 4 = .ok (.invokevirtual 71, 3) := by decide +kernel
theorem dL_another_7 : decode cL_another 7 = .ok (.i2l, 1) := by decide +kernel
theorem dL_another_8 : decode cL_another 8 = .ok (.lastore, 1) := by decide +kernel
theorem dL_another_9 : decode cL_another 9 = .ok (.goto 6, 3) := by decide +kernel
theorem dL_another_12 : decode cL_another 12 = .ok (.astore_n 3, 1) := by decide +kernel
theorem dL_another_13 : decode cL_another 13 = .ok (.iconst 1, 1) := by decide +kernel
theorem dL_another_14 : decode cL_another 14 = .ok (.ireturn, 1) := by decide +kernel
theorem dL_another_15 : decode cL_another 15 = .ok (.iconst 0, 1) := by decide +kernel
theorem dL_another_16 : decode cL_another 16 = .ok (.ireturn, 1) := by decide +kernel
theorem dL_next_0 : decode cL_next 0 = .ok (.aload_n 2, 1) := by decide +kernel
theorem dL_next_1 : decode cL_next 1 = .ok (.iconst 0, 1) := by decide +kernel
theorem dL_next_2 : decode cL_next 2 = .ok (.aload_n 0, 1) := by decide +kernel
theorem dL_next_3 : decode cL_next 3 = .ok (.iload_n 1, 1) := by decide +kernel
theorem dL_next_4 : decode cL_next 4 = .ok (.invokevirtual 74, 3) := by decide +kernel
theorem dL_next_7 : decode cL_next 7 = .ok (.i2l, 1) := by decide +kernel
theorem dL_next_8 : decode cL_next 8 = .ok (.lastore, 1) := by decide +kernel
theorem dL_next_9 : decode cL_next 9 = .ok (.goto 6, 3) := by decide +kernel
theorem dL_next_12 : decode cL_next 12 = .ok (.astore_n 3, 1) := by decide +kernel
theorem dL_next_13 : decode cL_next 13 = .ok (.iconst 1, 1) := by decide +kernel
theorem dL_next_14 : decode cL_next 14 = .ok (.ireturn, 1) := by decide +kernel
theorem dL_next_15 : decode cL_next 15 = .ok (.iconst 0, 1) := by decide +kernel
theorem dL_next_16 : decode cL_next 16 = .ok (.ireturn, 1) := by decide +kernel
theorem dL_game_0 : decode cL_game 0 = .ok (.aload 4, 2) := by decide +kernel
theorem dL_game_2 : decode cL_game 2 = .ok (.iconst 0, 1) := by decide +kernel
theorem dL_game_3 : decode cL_game 3 = .ok (.aload_n 0, 1) := by decide +kernel
theorem dL_game_4 : decode cL_game 4 = .ok (.iload_n 1, 1) := by decide +kernel
theorem dL_game_5 : decode cL_game 5 = .ok (.iload_n 2, 1) := by decide +kernel
theorem dL_game_6 : decode cL_game 6 = .ok (.iload_n 3, 1) := by decide +kernel
theorem dL_game_7 : decode cL_game 7 = .ok (.invokevirtual 77, 3) := by decide +kernel
theorem dL_game_10 : decode cL_game 10 = .ok (.i2l, 1) := by decide +kernel
theorem dL_game_11 : decode cL_game 11 = .ok (.lastore, 1) := by decide +kernel
theorem dL_game_12 : decode cL_game 12 = .ok (.goto 11, 3) := by decide +kernel
theorem dL_game_15 : decode cL_game 15 = .ok (.astore 5, 2) := by decide +kernel
theorem dL_game_17 : decode cL_game 17 = .ok (.iconst 1, 1) := by decide +kernel
theorem dL_game_18 : decode cL_game 18 = .ok (.ireturn, 1) := by decide +kernel
theorem dL_game_19 : decode cL_game 19 = .ok (.astore 5, 2) := by decide +kernel
theorem dL_game_21 : decode cL_game 21 = .ok (.iconst 2, 1) := by decide +kernel
theorem dL_game_22 : decode cL_game 22 = .ok (.ireturn, 1) := by decide +kernel
theorem dL_game_23 : decode cL_game 23 = .ok (.iconst 0, 1) := by decide +kernel
theorem dL_game_24 : decode cL_game 24 = .ok (.ireturn, 1) := by decide +kernel
theorem dL_cities_0 : decode cL_cities 0 = .ok (.aload 4, 2) := by decide +kernel
theorem dL_cities_2 : decode cL_cities 2 = .ok (.iconst 0, 1) := by decide +kernel
theorem dL_cities_3 : decode cL_cities 3 = .ok (.aload_n 0, 1) := by decide +kernel
theorem dL_cities_4 : decode cL_cities 4 = .ok (.iload_n 1, 1) := by decide +kernel
theorem dL_cities_5 : decode cL_cities 5 = .ok (.iload_n 2, 1) := by decide +kernel
theorem dL_cities_6 : decode cL_cities 6 = .ok (.iload_n 3, 1) := by decide +kernel
theorem dL_cities_7 : decode cL_cities 7 = .ok (.invokevirtual 80, 3) := by decide +kernel
theorem dL_cities_10 : decode cL_cities 10 = .ok (.i2l, 1) := by decide +kernel
theorem dL_cities_11 : decode cL_cities 11 = .ok (.lastore, 1) := by decide +kernel
theorem dL_cities_12 : decode cL_cities 12 = .ok (.goto 11, 3) := by decide +kernel
theorem dL_cities_15 : decode cL_cities 15 = .ok (.astore 5, 2) := by decide +kernel
theorem dL_cities_17 : decode cL_cities 17 = .ok (.iconst 1, 1) := by decide +kernel
theorem dL_cities_18 : decode cL_cities 18 = .ok (.ireturn, 1) := by decide +kernel
theorem dL_cities_19 : decode cL_cities 19 = .ok (.astore 5, 2) := by decide +kernel
theorem dL_cities_21 : decode cL_cities 21 = .ok (.iconst 2, 1) := by decide +kernel
theorem dL_cities_22 : decode cL_cities 22 = .ok (.ireturn, 1) := by decide +kernel
theorem dL_cities_23 : decode cL_cities 23 = .ok (.iconst 0, 1) := by decide +kernel
theorem dL_cities_24 : decode cL_cities 24 = .ok (.ireturn, 1) := by decide +kernel
theorem dL_highest_0 : decode cL_highest 0 = .ok (.aload_n 2, 1) := by decide +kernel
theorem dL_highest_1 : decode cL_highest 1 = .ok (.iconst 0, 1) := by decide +kernel
theorem dL_highest_2 : decode cL_highest 2 = .ok (.aload_n 0, 1) := by decide +kernel
theorem dL_highest_3 : decode cL_highest 3 = .ok (.iload_n 1, 1) := by decide +kernel
theorem dL_highest_4 : decode cL_highest 4 = .ok (.invokevirtual 83, 3) := by decide +kernel
theorem dL_highest_7 : decode cL_highest 7 = .ok (.i2l, 1) := by decide +kernel
theorem dL_highest_8 : decode cL_highest 8 = .ok (.lastore, 1) := by decide +kernel
theorem dL_highest_9 : decode cL_highest 9 = .ok (.goto 6, 3) := by decide +kernel
theorem dL_highest_12 : decode cL_highest 12 = .ok (.astore_n 3, 1) := by decide +kernel
theorem dL_highest_13 : decode cL_highest 13 = .ok (.iconst 1, 1) := by decide +kernel
theorem dL_highest_14 : decode cL_highest 14 = .ok (.ireturn, 1) := by decide +kernel
theorem dL_highest_15 : decode cL_highest 15 = .ok (.iconst 0, 1) := by decide +kernel
theorem dL_highest_16 : decode cL_highest 16 = .ok (.ireturn, 1) := by decide +kernel
theorem dL_better_0 : decode cL_better 0 = .ok (.aload_n 2, 1) := by decide +kernel
theorem dL_better_1 : decode cL_better 1 = .ok (.iconst 0, 1) := by decide +kernel
theorem dL_better_2 : decode cL_better 2 = .ok (.aload_n 0, 1) := by decide +kernel
theorem dL_better_3 : decode cL_better 3 = .ok (.iload_n 1, 1) := by decide +kernel
theorem dL_better_4 : decode cL_better 4 = .ok (.invokevirtual 86, 3) := by decide +kernel
theorem dL_better_7 : decode cL_better 7 = .ok (.i2l, 1) := by decide +kernel
theorem dL_better_8 : decode cL_better 8 = .ok (.lastore, 1) := by decide +kernel
theorem dL_better_9 : decode cL_better 9 = .ok (.goto 6, 3) := by decide +kernel
theorem dL_better_12 : decode cL_better 12 = .ok (.astore_n 3, 1) := by decide +kernel
theorem dL_better_13 : decode cL_better 13 = .ok (.iconst 1, 1) := by decide +kernel
theorem dL_better_14 : decode cL_better 14 = .ok (.ireturn, 1) := by decide +kernel
theorem dL_better_15 : decode cL_better 15 = .ok (.iconst 0, 1) := by decide +kernel
theorem dL_better_16 : decode cL_better 16 = .ok (.ireturn, 1) := by decide +kernel
theorem dL_guarded_0 : decode cL_guarded 0 = .ok (.aload_n 2, 1) := by decide +kernel
theorem dL_guarded_1 : decode cL_guarded 1 = .ok (.iconst 0, 1) := by decide +kernel
theorem dL_guarded_2 : decode cL_guarded 2 = .ok (.aload_n 0, 1) := by decide +kernel
theorem dL_guarded_3 : decode cL_guarded 3 = .ok (.iload_n 1, 1) := by decide +kernel
theorem dL_guarded_4 : decode cL_guarded 4 = .ok (.invokevirtual 89, 3) := by decide +kernel
theorem dL_guarded_7 : decode cL_guarded 7 = .ok (.i2l, 1) := by decide +kernel
theorem dL_guarded_8 : decode cL_guarded 8 = .ok (.lastore, 1) := by decide +kernel
theorem dL_guarded_9 : decode cL_guarded 9 = .ok (.goto 6, 3) := by decide +kernel
theorem dL_guarded_12 : decode cL_guarded 12 = .ok (.astore_n 3, 1) := by decide +kernel
theorem dL_guarded_13 : decode cL_guarded 13 = .ok (.iconst 1, 1) := by decide +kernel
theorem dL_guarded_14 : decode cL_guarded 14 = .ok (.ireturn, 1) := by decide +kernel
theorem dL_guarded_15 : decode cL_guarded 15 = .ok (.iconst 0, 1) := by decide +kernel
theorem dL_guarded_16 : decode cL_guarded 16 = .ok (.ireturn, 1) := by decide +kernel
theorem dL_swap_0 : decode cL_swap 0 = .ok (.aload_n 2, 1) := by decide +kernel
theorem dL_swap_1 : decode cL_swap 1 = .ok (.iconst 0, 1) := by decide +kernel
theorem dL_swap_2 : decode cL_swap 2 = .ok (.aload_n 0, 1) := by decide +kernel
theorem dL_swap_3 : decode cL_swap 3 = .ok (.iload_n 1, 1) := by decide +kernel
theorem dL_swap_4 : decode cL_swap 4 = .ok (.invokevirtual 92, 3) := by decide +kernel
theorem dL_swap_7 : decode cL_swap 7 = .ok (.i2l, 1) := by decide +kernel
theorem dL_swap_8 : decode cL_swap 8 = .ok (.lastore, 1) := by decide +kernel
theorem dL_swap_9 : decode cL_swap 9 = .ok (.goto 6, 3) := by decide +kernel
theorem dL_swap_12 : decode cL_swap 12 = .ok (.astore_n 3, 1) := by decide +kernel
theorem dL_swap_13 : decode cL_swap 13 = .ok (.iconst 1, 1) := by decide +kernel
theorem dL_swap_14 : decode cL_swap 14 = .ok (.ireturn, 1) := by decide +kernel
theorem dL_swap_15 : decode cL_swap 15 = .ok (.iconst 0, 1) := by decide +kernel
theorem dL_swap_16 : decode cL_swap 16 = .ok (.ireturn, 1) := by decide +kernel
theorem dL_law_0 : decode cL_law 0 = .ok (.new 8, 3) := by decide +kernel
theorem dL_law_3 : decode cL_law 3 = .ok (.dup, 1) := by decide +kernel
theorem dL_law_4 : decode cL_law 4 = .ok (.invokespecial 95, 3) := by decide +kernel
theorem dL_law_7 : decode cL_law 7 = .ok (.astore_n 1, 1) := by decide +kernel
theorem dL_law_8 : decode cL_law 8 = .ok (.new 96, 3) := by decide +kernel
theorem dL_law_11 : decode cL_law 11 = .ok (.dup, 1) := by decide +kernel
theorem dL_law_12 : decode cL_law 12 = .ok (.invokespecial 98, 3) := by decide +kernel
theorem dL_law_15 : decode cL_law 15 = .ok (.astore_n 2, 1) := by decide +kernel
theorem dL_law_16 : decode cL_law 16 = .ok (.iconst 1, 1) := by decide +kernel
theorem dL_law_17 : decode cL_law 17 = .ok (.newarray .long, 2) := by decide +kernel
theorem dL_law_19 : decode cL_law 19 = .ok (.astore_n 3, 1) := by decide +kernel
theorem dL_law_20 : decode cL_law 20 = .ok (.iconst 0, 1) := by decide +kernel
theorem dL_law_21 : decode cL_law 21 = .ok (.istore 4, 2) := by decide +kernel
theorem dL_law_23 : decode cL_law 23 = .ok (.iload 4, 2) := by decide +kernel
theorem dL_law_25 : decode cL_law 25 = .ok (.aload_n 0, 1) := by decide +kernel
theorem dL_law_26 : decode cL_law 26 = .ok (.arraylength, 1) := by decide +kernel
theorem dL_law_27 : decode cL_law 27 = .ok (.bipush 6, 2) := by decide +kernel
theorem dL_law_29 : decode cL_law 29 = .ok (.isub, 1) := by decide +kernel
theorem dL_law_30 : decode cL_law 30 = .ok (.if_icmp .gt 2140, 3) := by decide +kernel
theorem dL_law_33 : decode cL_law 33 = .ok (.aload_n 0, 1) := by decide +kernel
theorem dL_law_34 : decode cL_law 34 = .ok (.iload 4, 2) := by decide +kernel
theorem dL_law_36 : decode cL_law 36 = .ok (.iaload, 1) := by decide +kernel
theorem dL_law_37 : decode cL_law 37 = .ok (.bipush 63, 2) := by decide +kernel
theorem dL_law_39 : decode cL_law 39 = .ok (.iand, 1) := by decide +kernel
theorem dL_law_40 : decode cL_law 40 = .ok (.tableswitch 2124 0 38 #[172, 245, 301, 314, 370, 438, 506, 574, 642, 667, 747, 772, 797, 865, 878, 946, 1002, 1015, 1028, 1084, 1152, 1227, 1283, 1339, 1419, 1487, 1543, 1580, 1591, 1647, 1703, 1783, 1863, 1876, 1932, 1988, 2044, 2100, 2111], 172) := by decide +kernel
theorem dL_law_212 : decode cL_law 212 = .ok (.aload_n 1, 1) := by decide +kernel
theorem dL_law_213 : decode cL_law 213 = .ok (.aload_n 0, 1) := by decide +kernel
theorem dL_law_214 : decode cL_law 214 = .ok (.iload 4, 2) := by decide +kernel
theorem dL_law_216 : decode cL_law 216 = .ok (.iconst 1, 1) := by decide +kernel
theorem dL_law_217 : decode cL_law 217 = .ok (.iadd, 1) := by decide +kernel
theorem dL_law_218 : decode cL_law 218 = .ok (.iaload, 1) := by decide +kernel
theorem dL_law_219 : decode cL_law 219 = .ok (.aload_n 0, 1) := by decide +kernel
theorem dL_law_220 : decode cL_law 220 = .ok (.iload 4, 2) := by decide +kernel
theorem dL_law_222 : decode cL_law 222 = .ok (.iconst 2, 1) := by decide +kernel
theorem dL_law_223 : decode cL_law 223 = .ok (.iadd, 1) := by decide +kernel
theorem dL_law_224 : decode cL_law 224 = .ok (.iaload, 1) := by decide +kernel
theorem dL_law_225 : decode cL_law 225 = .ok (.aload_n 0, 1) := by decide +kernel
theorem dL_law_226 : decode cL_law 226 = .ok (.iload 4, 2) := by decide +kernel
theorem dL_law_228 : decode cL_law 228 = .ok (.iconst 3, 1) := by decide +kernel
theorem dL_law_229 : decode cL_law 229 = .ok (.iadd, 1) := by decide +kernel
theorem dL_law_230 : decode cL_law 230 = .ok (.iaload, 1) := by decide +kernel
theorem dL_law_231 : decode cL_law 231 = .ok (.aload_n 0, 1) := by decide +kernel
theorem dL_law_232 : decode cL_law 232 = .ok (.iload 4, 2) := by decide +kernel
theorem dL_law_234 : decode cL_law 234 = .ok (.iconst 4, 1) := by decide +kernel
theorem dL_law_235 : decode cL_law 235 = .ok (.iadd, 1) := by decide +kernel
theorem dL_law_236 : decode cL_law 236 = .ok (.iaload, 1) := by decide +kernel
theorem dL_law_237 : decode cL_law 237 = .ok (.aload_n 0, 1) := by decide +kernel
theorem dL_law_238 : decode cL_law 238 = .ok (.iload 4, 2) := by decide +kernel
theorem dL_law_240 : decode cL_law 240 = .ok (.iconst 5, 1) := by decide +kernel
theorem dL_law_241 : decode cL_law 241 = .ok (.iadd, 1) := by decide +kernel
theorem dL_law_242 : decode cL_law 242 = .ok (.iaload, 1) := by decide +kernel
theorem dL_law_243 : decode cL_law 243 = .ok (.invokevirtual 99, 3) := by decide +kernel
theorem dL_law_246 : decode cL_law 246 = .ok (.aload_n 2, 1) := by decide +kernel
theorem dL_law_247 : decode cL_law 247 = .ok (.aload_n 0, 1) := by decide +kernel
theorem dL_law_248 : decode cL_law 248 = .ok (.iload 4, 2) := by decide +kernel
theorem dL_law_250 : decode cL_law 250 = .ok (.iconst 1, 1) := by decide +kernel
theorem dL_law_251 : decode cL_law 251 = .ok (.iadd, 1) := by decide +kernel
theorem dL_law_252 : decode cL_law 252 = .ok (.iaload, 1) := by decide +kernel
theorem dL_law_253 : decode cL_law 253 = .ok (.aload_n 0, 1) := by decide +kernel
theorem dL_law_254 : decode cL_law 254 = .ok (.iload 4, 2) := by decide +kernel
theorem dL_law_256 : decode cL_law 256 = .ok (.iconst 2, 1) := by decide +kernel
theorem dL_law_257 : decode cL_law 257 = .ok (.iadd, 1) := by decide +kernel
theorem dL_law_258 : decode cL_law 258 = .ok (.iaload, 1) := by decide +kernel
theorem dL_law_259 : decode cL_law 259 = .ok (.aload_n 0, 1) := by decide +kernel
theorem dL_law_260 : decode cL_law 260 = .ok (.iload 4, 2) := by decide +kernel
theorem dL_law_262 : decode cL_law 262 = .ok (.iconst 3, 1) := by decide +kernel
theorem dL_law_263 : decode cL_law 263 = .ok (.iadd, 1) := by decide +kernel
theorem dL_law_264 : decode cL_law 264 = .ok (.iaload, 1) := by decide +kernel
theorem dL_law_265 : decode cL_law 265 = .ok (.aload_n 0, 1) := by decide +kernel
theorem dL_law_266 : decode cL_law 266 = .ok (.iload 4, 2) := by decide +kernel
theorem dL_law_268 : decode cL_law 268 = .ok (.iconst 4, 1) := by decide +kernel
theorem dL_law_269 : decode cL_law 269 = .ok (.iadd, 1) := by decide +kernel
theorem dL_law_270 : decode cL_law 270 = .ok (.iaload, 1) := by decide +kernel
theorem dL_law_271 : decode cL_law 271 = .ok (.aload_n 0, 1) := by decide +kernel
theorem dL_law_272 : decode cL_law 272 = .ok (.iload 4, 2) := by decide +kernel
theorem dL_law_274 : decode cL_law 274 = .ok (.iconst 5, 1) := by decide +kernel
theorem dL_law_275 : decode cL_law 275 = .ok (.iadd, 1) := by decide +kernel
theorem dL_law_276 : decode cL_law 276 = .ok (.iaload, 1) := by decide +kernel
theorem dL_law_277 : decode cL_law 277 = .ok (.invokevirtual 103, 3) := by decide +kernel
theorem dL_law_280 : decode cL_law 280 = .ok (.if_icmp .eq 1884, 3) := by decide +kernel
theorem dL_law_283 : decode cL_law 283 = .ok (.iconst 0, 1) := by decide +kernel
theorem dL_law_284 : decode cL_law 284 = .ok (.ireturn, 1) := by decide +kernel
theorem dL_law_285 : decode cL_law 285 = .ok (.aload_n 1, 1) := by decide +kernel
theorem dL_law_286 : decode cL_law 286 = .ok (.aload_n 0, 1) := by decide +kernel
theorem dL_law_287 : decode cL_law 287 = .ok (.iload 4, 2) := by decide +kernel
theorem dL_law_289 : decode cL_law 289 = .ok (.iconst 1, 1) := by decide +kernel
theorem dL_law_290 : decode cL_law 290 = .ok (.iadd, 1) := by decide +kernel
theorem dL_law_291 : decode cL_law 291 = .ok (.iaload, 1) := by decide +kernel
theorem dL_law_292 : decode cL_law 292 = .ok (.aload_n 3, 1) := by decide +kernel
theorem dL_law_293 : decode cL_law 293 = .ok (.invokestatic 104, 3) := by decide +kernel
theorem dL_law_296 : decode cL_law 296 = .ok (.istore 5, 2) := by decide +kernel
theorem dL_law_298 : decode cL_law 298 = .ok (.aload_n 2, 1) := by decide +kernel
theorem dL_law_299 : decode cL_law 299 = .ok (.aload_n 0, 1) := by decide +kernel
theorem dL_law_300 : decode cL_law 300 = .ok (.iload 4, 2) := by decide +kernel
theorem dL_law_302 : decode cL_law 302 = .ok (.iconst 1, 1) := by decide +kernel
theorem dL_law_303 : decode cL_law 303 = .ok (.iadd, 1) := by decide +kernel
theorem dL_law_304 : decode cL_law 304 = .ok (.iaload, 1) := by decide +kernel
theorem dL_law_305 : decode cL_law 305 = .ok (.invokevirtual 109, 3) := by decide +kernel
theorem dL_law_308 : decode cL_law 308 = .ok (.istore 6, 2) := by decide +kernel
theorem dL_law_310 : decode cL_law 310 = .ok (.aload_n 2, 1) := by decide +kernel
theorem dL_law_311 : decode cL_law 311 = .ok (.invokevirtual 110, 3) := by decide +kernel
theorem dL_law_314 : decode cL_law 314 = .ok (.iload 5, 2) := by decide +kernel
theorem dL_law_316 : decode cL_law 316 = .ok (.if_icmp .eq 5, 3) := by decide +kernel
theorem dL_law_319 : decode cL_law 319 = .ok (.iconst 0, 1) := by decide +kernel
theorem dL_law_320 : decode cL_law 320 = .ok (.ireturn, 1) := by decide +kernel
theorem dL_law_321 : decode cL_law 321 = .ok (.iload 5, 2) := by decide +kernel
theorem dL_law_323 : decode cL_law 323 = .ok (.ifCond .ne 15, 3) := by decide +kernel
theorem dL_law_326 : decode cL_law 326 = .ok (.aload_n 3, 1) := by decide +kernel
theorem dL_law_327 : decode cL_law 327 = .ok (.iconst 0, 1) := by decide +kernel
theorem dL_law_328 : decode cL_law 328 = .ok (.laload, 1) := by decide +kernel
theorem dL_law_329 : decode cL_law 329 = .ok (.iload 6, 2) := by decide +kernel
theorem dL_law_331 : decode cL_law 331 = .ok (.i2l, 1) := by decide +kernel
theorem dL_law_332 : decode cL_law 332 = .ok (.lcmp, 1) := by decide +kernel
theorem dL_law_333 : decode cL_law 333 = .ok (.ifCond .eq 5, 3) := by decide +kernel
theorem dL_law_336 : decode cL_law 336 = .ok (.iconst 0, 1) := by decide +kernel
theorem dL_law_337 : decode cL_law 337 = .ok (.ireturn, 1) := by decide +kernel
theorem dL_law_338 : decode cL_law 338 = .ok (.goto 1826, 3) := by decide +kernel
theorem dL_law_341 : decode cL_law 341 = .ok (.aload_n 1, 1) := by decide +kernel
theorem dL_law_342 : decode cL_law 342 = .ok (.invokevirtual 114, 3) := by decide +kernel
theorem dL_law_345 : decode cL_law 345 = .ok (.aload_n 2, 1) := by decide +kernel
theorem dL_law_346 : decode cL_law 346 = .ok (.invokevirtual 117, 3) := by decide +kernel
theorem dL_law_349 : decode cL_law 349 = .ok (.if_icmp .eq 1815, 3) := by decide +kernel
theorem dL_law_352 : decode cL_law 352 = .ok (.iconst 0, 1) := by decide +kernel
theorem dL_law_353 : decode cL_law 353 = .ok (.ireturn, 1) := by decide +kernel
theorem dL_law_354 : decode cL_law 354 = .ok (.aload_n 1, 1) := by decide +kernel
theorem dL_law_355 : decode cL_law 355 = .ok (.aload_n 0, 1) := by decide +kernel
theorem dL_law_356 : decode cL_law 356 = .ok (.iload 4, 2) := by decide +kernel
theorem dL_law_358 : decode cL_law 358 = .ok (.iconst 1, 1) := by decide +kernel
theorem dL_law_359 : decode cL_law 359 = .ok (.iadd, 1) := by decide +kernel
theorem dL_law_360 : decode cL_law 360 = .ok (.iaload, 1) := by decide +kernel
theorem dL_law_361 : decode cL_law 361 = .ok (.aload_n 3, 1) := by decide +kernel
theorem dL_law_362 : decode cL_law 362 = .ok (.invokestatic 118, 3) := by decide +kernel
theorem dL_law_365 : decode cL_law 365 = .ok (.istore 5, 2) := by decide +kernel
theorem dL_law_367 : decode cL_law 367 = .ok (.aload_n 2, 1) := by decide +kernel
theorem dL_law_368 : decode cL_law 368 = .ok (.aload_n 0, 1) := by decide +kernel
theorem dL_law_369 : decode cL_law 369 = .ok (.iload 4, 2) := by decide +kernel
theorem dL_law_371 : decode cL_law 371 = .ok (.iconst 1, 1) := by decide +kernel
theorem dL_law_372 : decode cL_law 372 = .ok (.iadd, 1) := by decide +kernel
theorem dL_law_373 : decode cL_law 373 = .ok (.iaload, 1) := by decide +kernel
theorem dL_law_374 : decode cL_law 374 = .ok (.invokevirtual 120, 3) := by decide +kernel
theorem dL_law_377 : decode cL_law 377 = .ok (.istore 6, 2) := by decide +kernel
theorem dL_law_379 : decode cL_law 379 = .ok (.aload_n 2, 1) := by decide +kernel
theorem dL_law_380 : decode cL_law 380 = .ok (.invokevirtual 110, 3) := by decide +kernel
theorem dL_law_383 : decode cL_law 383 = .ok (.iload 5, 2) := by decide +kernel
theorem dL_law_385 : decode cL_law 385 = .ok (.if_icmp .eq 5, 3) := by decide +kernel
theorem dL_law_388 : decode cL_law 388 = .ok (.iconst 0, 1) := by decide +kernel
theorem dL_law_389 : decode cL_law 389 = .ok (.ireturn, 1) := by decide +kernel
theorem dL_law_390 : decode cL_law 390 = .ok (.iload 5, 2) := by decide +kernel
theorem dL_law_392 : decode cL_law 392 = .ok (.ifCond .ne 15, 3) := by decide +kernel
theorem dL_law_395 : decode cL_law 395 = .ok (.aload_n 3, 1) := by decide +kernel
theorem dL_law_396 : decode cL_law 396 = .ok (.iconst 0, 1) := by decide +kernel
theorem dL_law_397 : decode cL_law 397 = .ok (.laload, 1) := by decide +kernel
theorem dL_law_398 : decode cL_law 398 = .ok (.iload 6, 2) := by decide +kernel
theorem dL_law_400 : decode cL_law 400 = .ok (.i2l, 1) := by decide +kernel
theorem dL_law_401 : decode cL_law 401 = .ok (.lcmp, 1) := by decide +kernel
theorem dL_law_402 : decode cL_law 402 = .ok (.ifCond .eq 5, 3) := by decide +kernel
theorem dL_law_405 : decode cL_law 405 = .ok (.iconst 0, 1) := by decide +kernel
theorem dL_law_406 : decode cL_law 406 = .ok (.ireturn, 1) := by decide +kernel
theorem dL_law_407 : decode cL_law 407 = .ok (.goto 1757, 3) := by decide +kernel
theorem dL_law_410 : decode cL_law 410 = .ok (.aload_n 1, 1) := by decide +kernel
theorem dL_law_411 : decode cL_law 411 = .ok (.aload_n 0, 1) := by decide +kernel
theorem dL_law_412 : decode cL_law 412 = .ok (.iload 4, 2) := by decide +kernel
theorem dL_law_414 : decode cL_law 414 = .ok (.iconst 1, 1) := by decide +kernel
theorem dL_law_415 : decode cL_law 415 = .ok (.iadd, 1) := by decide +kernel
theorem dL_law_416 : decode cL_law 416 = .ok (.iaload, 1) := by decide +kernel
theorem dL_law_417 : decode cL_law 417 = .ok (.aload_n 0, 1) := by decide +kernel
theorem dL_law_418 : decode cL_law 418 = .ok (.iload 4, 2) := by decide +kernel
theorem dL_law_420 : decode cL_law 420 = .ok (.iconst 2, 1) := by decide +kernel
theorem dL_law_421 : decode cL_law 421 = .ok (.iadd, 1) := by decide +kernel
theorem dL_law_422 : decode cL_law 422 = .ok (.iaload, 1) := by decide +kernel
theorem dL_law_423 : decode cL_law 423 = .ok (.aload_n 3, 1) := by decide +kernel
theorem dL_law_424 : decode cL_law 424 = .ok (.invokestatic 121, 3) := by decide +kernel
theorem dL_law_427 : decode cL_law 427 = .ok (.istore 5, 2) := by decide +kernel
theorem dL_law_429 : decode cL_law 429 = .ok (.aload_n 2, 1) := by decide +kernel
theorem dL_law_430 : decode cL_law 430 = .ok (.aload_n 0, 1) := by decide +kernel
theorem dL_law_431 : decode cL_law 431 = .ok (.iload 4, 2) := by decide +kernel
theorem dL_law_433 : decode cL_law 433 = .ok (.iconst 1, 1) := by decide +kernel
theorem dL_law_434 : decode cL_law 434 = .ok (.iadd, 1) := by decide +kernel
theorem dL_law_435 : decode cL_law 435 = .ok (.iaload, 1) := by decide +kernel
theorem dL_law_436 : decode cL_law 436 = .ok (.aload_n 0, 1) := by decide +kernel
theorem dL_law_437 : decode cL_law 437 = .ok (.iload 4, 2) := by decide +kernel
theorem dL_law_439 : decode cL_law 439 = .ok (.iconst 2, 1) := by decide +kernel
theorem dL_law_440 : decode cL_law 440 = .ok (.iadd, 1) := by decide +kernel
theorem dL_law_441 : decode cL_law 441 = .ok (.iaload, 1) := by decide +kernel
theorem dL_law_442 : decode cL_law 442 = .ok (.invokevirtual 124, 3) := by decide +kernel
theorem dL_law_445 : decode cL_law 445 = .ok (.istore 6, 2) := by decide +kernel
theorem dL_law_447 : decode cL_law 447 = .ok (.aload_n 2, 1) := by decide +kernel
theorem dL_law_448 : decode cL_law 448 = .ok (.invokevirtual 110, 3) := by decide +kernel
theorem dL_law_451 : decode cL_law 451 = .ok (.iload 5, 2) := by decide +kernel
theorem dL_law_453 : decode cL_law 453 = .ok (.if_icmp .eq 5, 3) := by decide +kernel
theorem dL_law_456 : decode cL_law 456 = .ok (.iconst 0, 1) := by decide +kernel
theorem dL_law_457 : decode cL_law 457 = .ok (.ireturn, 1) := by decide +kernel
theorem dL_law_458 : decode cL_law 458 = .ok (.iload 5, 2) := by decide +kernel
theorem dL_law_460 : decode cL_law 460 = .ok (.ifCond .ne 15, 3) := by decide +kernel
theorem dL_law_463 : decode cL_law 463 = .ok (.aload_n 3, 1) := by decide +kernel
theorem dL_law_464 : decode cL_law 464 = .ok (.iconst 0, 1) := by decide +kernel
theorem dL_law_465 : decode cL_law 465 = .ok (.laload, 1) := by decide +kernel
theorem dL_law_466 : decode cL_law 466 = .ok (.iload 6, 2) := by decide +kernel
theorem dL_law_468 : decode cL_law 468 = .ok (.i2l, 1) := by decide +kernel
theorem dL_law_469 : decode cL_law 469 = .ok (.lcmp, 1) := by decide +kernel
theorem dL_law_470 : decode cL_law 470 = .ok (.ifCond .eq 5, 3) := by decide +kernel
theorem dL_law_473 : decode cL_law 473 = .ok (.iconst 0, 1) := by decide +kernel
theorem dL_law_474 : decode cL_law 474 = .ok (.ireturn, 1) := by decide +kernel
theorem dL_law_475 : decode cL_law 475 = .ok (.goto 1689, 3) := by decide +kernel
theorem dL_law_478 : decode cL_law 478 = .ok (.aload_n 1, 1) := by decide +kernel
theorem dL_law_479 : decode cL_law 479 = .ok (.aload_n 0, 1) := by decide +kernel
theorem dL_law_480 : decode cL_law 480 = .ok (.iload 4, 2) := by decide +kernel
theorem dL_law_482 : decode cL_law 482 = .ok (.iconst 1, 1) := by decide +kernel
theorem dL_law_483 : decode cL_law 483 = .ok (.iadd, 1) := by decide +kernel
theorem dL_law_484 : decode cL_law 484 = .ok (.iaload, 1) := by decide +kernel
theorem dL_law_485 : decode cL_law 485 = .ok (.aload_n 0, 1) := by decide +kernel
theorem dL_law_486 : decode cL_law 486 = .ok (.iload 4, 2) := by decide +kernel
theorem dL_law_488 : decode cL_law 488 = .ok (.iconst 2, 1) := by decide +kernel
theorem dL_law_489 : decode cL_law 489 = .ok (.iadd, 1) := by decide +kernel
theorem dL_law_490 : decode cL_law 490 = .ok (.iaload, 1) := by decide +kernel
theorem dL_law_491 : decode cL_law 491 = .ok (.aload_n 3, 1) := by decide +kernel
theorem dL_law_492 : decode cL_law 492 = .ok (.invokestatic 125, 3) := by decide +kernel
theorem dL_law_495 : decode cL_law 495 = .ok (.istore 5, 2) := by decide +kernel
theorem dL_law_497 : decode cL_law 497 = .ok (.aload_n 2, 1) := by decide +kernel
theorem dL_law_498 : decode cL_law 498 = .ok (.aload_n 0, 1) := by decide +kernel
theorem dL_law_499 : decode cL_law 499 = .ok (.iload 4, 2) := by decide +kernel
theorem dL_law_501 : decode cL_law 501 = .ok (.iconst 1, 1) := by decide +kernel
theorem dL_law_502 : decode cL_law 502 = .ok (.iadd, 1) := by decide +kernel
theorem dL_law_503 : decode cL_law 503 = .ok (.iaload, 1) := by decide +kernel
theorem dL_law_504 : decode cL_law 504 = .ok (.aload_n 0, 1) := by decide +kernel
theorem dL_law_505 : decode cL_law 505 = .ok (.iload 4, 2) := by decide +kernel
theorem dL_law_507 : decode cL_law 507 = .ok (.iconst 2, 1) := by decide +kernel
theorem dL_law_508 : decode cL_law 508 = .ok (.iadd, 1) := by decide +kernel
theorem dL_law_509 : decode cL_law 509 = .ok (.iaload, 1) := by decide +kernel
theorem dL_law_510 : decode cL_law 510 = .ok (.invokevirtual 127, 3) := by decide +kernel
theorem dL_law_513 : decode cL_law 513 = .ok (.istore 6, 2) := by decide +kernel
theorem dL_law_515 : decode cL_law 515 = .ok (.aload_n 2, 1) := by decide +kernel
theorem dL_law_516 : decode cL_law 516 = .ok (.invokevirtual 110, 3) := by decide +kernel
theorem dL_law_519 : decode cL_law 519 = .ok (.iload 5, 2) := by decide +kernel
theorem dL_law_521 : decode cL_law 521 = .ok (.if_icmp .eq 5, 3) := by decide +kernel
theorem dL_law_524 : decode cL_law 524 = .ok (.iconst 0, 1) := by decide +kernel
theorem dL_law_525 : decode cL_law 525 = .ok (.ireturn, 1) := by decide +kernel
theorem dL_law_526 : decode cL_law 526 = .ok (.iload 5, 2) := by decide +kernel
theorem dL_law_528 : decode cL_law 528 = .ok (.ifCond .ne 15, 3) := by decide +kernel
theorem dL_law_531 : decode cL_law 531 = .ok (.aload_n 3, 1) := by decide +kernel
theorem dL_law_532 : decode cL_law 532 = .ok (.iconst 0, 1) := by decide +kernel
theorem dL_law_533 : decode cL_law 533 = .ok (.laload, 1) := by decide +kernel
theorem dL_law_534 : decode cL_law 534 = .ok (.iload 6, 2) := by decide +kernel
theorem dL_law_536 : decode cL_law 536 = .ok (.i2l, 1) := by decide +kernel
theorem dL_law_537 : decode cL_law 537 = .ok (.lcmp, 1) := by decide +kernel
theorem dL_law_538 : decode cL_law 538 = .ok (.ifCond .eq 5, 3) := by decide +kernel
theorem dL_law_541 : decode cL_law 541 = .ok (.iconst 0, 1) := by decide +kernel
theorem dL_law_542 : decode cL_law 542 = .ok (.ireturn, 1) := by decide +kernel
theorem dL_law_543 : decode cL_law 543 = .ok (.goto 1621, 3) := by decide +kernel
theorem dL_law_546 : decode cL_law 546 = .ok (.aload_n 1, 1) := by decide +kernel
theorem dL_law_547 : decode cL_law 547 = .ok (.aload_n 0, 1) := by decide +kernel
theorem dL_law_548 : decode cL_law 548 = .ok (.iload 4, 2) := by decide +kernel
theorem dL_law_550 : decode cL_law 550 = .ok (.iconst 1, 1) := by decide +kernel
theorem dL_law_551 : decode cL_law 551 = .ok (.iadd, 1) := by decide +kernel
theorem dL_law_552 : decode cL_law 552 = .ok (.iaload, 1) := by decide +kernel
theorem dL_law_553 : decode cL_law 553 = .ok (.aload_n 0, 1) := by decide +kernel
theorem dL_law_554 : decode cL_law 554 = .ok (.iload 4, 2) := by decide +kernel
theorem dL_law_556 : decode cL_law 556 = .ok (.iconst 2, 1) := by decide +kernel
theorem dL_law_557 : decode cL_law 557 = .ok (.iadd, 1) := by decide +kernel
theorem dL_law_558 : decode cL_law 558 = .ok (.iaload, 1) := by decide +kernel
theorem dL_law_559 : decode cL_law 559 = .ok (.aload_n 3, 1) := by decide +kernel
theorem dL_law_560 : decode cL_law 560 = .ok (.invokestatic 128, 3) := by decide +kernel
theorem dL_law_563 : decode cL_law 563 = .ok (.istore 5, 2) := by decide +kernel
theorem dL_law_565 : decode cL_law 565 = .ok (.aload_n 2, 1) := by decide +kernel
theorem dL_law_566 : decode cL_law 566 = .ok (.aload_n 0, 1) := by decide +kernel
theorem dL_law_567 : decode cL_law 567 = .ok (.iload 4, 2) := by decide +kernel
theorem dL_law_569 : decode cL_law 569 = .ok (.iconst 1, 1) := by decide +kernel
theorem dL_law_570 : decode cL_law 570 = .ok (.iadd, 1) := by decide +kernel
theorem dL_law_571 : decode cL_law 571 = .ok (.iaload, 1) := by decide +kernel
theorem dL_law_572 : decode cL_law 572 = .ok (.aload_n 0, 1) := by decide +kernel
theorem dL_law_573 : decode cL_law 573 = .ok (.iload 4, 2) := by decide +kernel
theorem dL_law_575 : decode cL_law 575 = .ok (.iconst 2, 1) := by decide +kernel
theorem dL_law_576 : decode cL_law 576 = .ok (.iadd, 1) := by decide +kernel
theorem dL_law_577 : decode cL_law 577 = .ok (.iaload, 1) := by decide +kernel
theorem dL_law_578 : decode cL_law 578 = .ok (.invokevirtual 130, 3) := by decide +kernel
theorem dL_law_581 : decode cL_law 581 = .ok (.istore 6, 2) := by decide +kernel
theorem dL_law_583 : decode cL_law 583 = .ok (.aload_n 2, 1) := by decide +kernel
theorem dL_law_584 : decode cL_law 584 = .ok (.invokevirtual 110, 3) := by decide +kernel
theorem dL_law_587 : decode cL_law 587 = .ok (.iload 5, 2) := by decide +kernel
theorem dL_law_589 : decode cL_law 589 = .ok (.if_icmp .eq 5, 3) := by decide +kernel
theorem dL_law_592 : decode cL_law 592 = .ok (.iconst 0, 1) := by decide +kernel
theorem dL_law_593 : decode cL_law 593 = .ok (.ireturn, 1) := by decide +kernel
theorem dL_law_594 : decode cL_law 594 = .ok (.iload 5, 2) := by decide +kernel
theorem dL_law_596 : decode cL_law 596 = .ok (.ifCond .ne 15, 3) := by decide +kernel
theorem dL_law_599 : decode cL_law 599 = .ok (.aload_n 3, 1) := by decide +kernel
theorem dL_law_600 : decode cL_law 600 = .ok (.iconst 0, 1) := by decide +kernel
theorem dL_law_601 : decode cL_law 601 = .ok (.laload, 1) := by decide +kernel
theorem dL_law_602 : decode cL_law 602 = .ok (.iload 6, 2) := by decide +kernel
theorem dL_law_604 : decode cL_law 604 = .ok (.i2l, 1) := by decide +kernel
theorem dL_law_605 : decode cL_law 605 = .ok (.lcmp, 1) := by decide +kernel
theorem dL_law_606 : decode cL_law 606 = .ok (.ifCond .eq 5, 3) := by decide +kernel
theorem dL_law_609 : decode cL_law 609 = .ok (.iconst 0, 1) := by decide +kernel
theorem dL_law_610 : decode cL_law 610 = .ok (.ireturn, 1) := by decide +kernel
theorem dL_law_611 : decode cL_law 611 = .ok (.goto 1553, 3) := by decide +kernel
theorem dL_law_614 : decode cL_law 614 = .ok (.aload_n 1, 1) := by decide +kernel
theorem dL_law_615 : decode cL_law 615 = .ok (.aload_n 0, 1) := by decide +kernel
theorem dL_law_616 : decode cL_law 616 = .ok (.iload 4, 2) := by decide +kernel
theorem dL_law_618 : decode cL_law 618 = .ok (.iconst 1, 1) := by decide +kernel
theorem dL_law_619 : decode cL_law 619 = .ok (.iadd, 1) := by decide +kernel
theorem dL_law_620 : decode cL_law 620 = .ok (.iaload, 1) := by decide +kernel
theorem dL_law_621 : decode cL_law 621 = .ok (.aload_n 0, 1) := by decide +kernel
theorem dL_law_622 : decode cL_law 622 = .ok (.iload 4, 2) := by decide +kernel
theorem dL_law_624 : decode cL_law 624 = .ok (.iconst 2, 1) := by decide +kernel
theorem dL_law_625 : decode cL_law 625 = .ok (.iadd, 1) := by decide +kernel
theorem dL_law_626 : decode cL_law 626 = .ok (.iaload, 1) := by decide +kernel
theorem dL_law_627 : decode cL_law 627 = .ok (.aload_n 3, 1) := by decide +kernel
theorem dL_law_628 : decode cL_law 628 = .ok (.invokestatic 131, 3) := by decide +kernel
theorem dL_law_631 : decode cL_law 631 = .ok (.istore 5, 2) := by decide +kernel
theorem dL_law_633 : decode cL_law 633 = .ok (.aload_n 2, 1) := by decide +kernel
theorem dL_law_634 : decode cL_law 634 = .ok (.aload_n 0, 1) := by decide +kernel
theorem dL_law_635 : decode cL_law 635 = .ok (.iload 4, 2) := by decide +kernel
theorem dL_law_637 : decode cL_law 637 = .ok (.iconst 1, 1) := by decide +kernel
theorem dL_law_638 : decode cL_law 638 = .ok (.iadd, 1) := by decide +kernel
theorem dL_law_639 : decode cL_law 639 = .ok (.iaload, 1) := by decide +kernel
theorem dL_law_640 : decode cL_law 640 = .ok (.aload_n 0, 1) := by decide +kernel
theorem dL_law_641 : decode cL_law 641 = .ok (.iload 4, 2) := by decide +kernel
theorem dL_law_643 : decode cL_law 643 = .ok (.iconst 2, 1) := by decide +kernel
theorem dL_law_644 : decode cL_law 644 = .ok (.iadd, 1) := by decide +kernel
theorem dL_law_645 : decode cL_law 645 = .ok (.iaload, 1) := by decide +kernel
theorem dL_law_646 : decode cL_law 646 = .ok (.invokevirtual 133, 3) := by decide +kernel
theorem dL_law_649 : decode cL_law 649 = .ok (.istore 6, 2) := by decide +kernel
theorem dL_law_651 : decode cL_law 651 = .ok (.aload_n 2, 1) := by decide +kernel
theorem dL_law_652 : decode cL_law 652 = .ok (.invokevirtual 110, 3) := by decide +kernel
theorem dL_law_655 : decode cL_law 655 = .ok (.iload 5, 2) := by decide +kernel
theorem dL_law_657 : decode cL_law 657 = .ok (.if_icmp .eq 5, 3) := by decide +kernel
theorem dL_law_660 : decode cL_law 660 = .ok (.iconst 0, 1) := by decide +kernel
theorem dL_law_661 : decode cL_law 661 = .ok (.ireturn, 1) := by decide +kernel
theorem dL_law_662 : decode cL_law 662 = .ok (.iload 5, 2) := by decide +kernel
theorem dL_law_664 : decode cL_law 664 = .ok (.ifCond .ne 15, 3) := by decide +kernel
theorem dL_law_667 : decode cL_law 667 = .ok (.aload_n 3, 1) := by decide +kernel
theorem dL_law_668 : decode cL_law 668 = .ok (.iconst 0, 1) := by decide +kernel
theorem dL_law_669 : decode cL_law 669 = .ok (.laload, 1) := by decide +kernel
theorem dL_law_670 : decode cL_law 670 = .ok (.iload 6, 2) := by decide +kernel
theorem dL_law_672 : decode cL_law 672 = .ok (.i2l, 1) := by decide +kernel
theorem dL_law_673 : decode cL_law 673 = .ok (.lcmp, 1) := by decide +kernel
theorem dL_law_674 : decode cL_law 674 = .ok (.ifCond .eq 5, 3) := by decide +kernel
theorem dL_law_677 : decode cL_law 677 = .ok (.iconst 0, 1) := by decide +kernel
theorem dL_law_678 : decode cL_law 678 = .ok (.ireturn, 1) := by decide +kernel
theorem dL_law_679 : decode cL_law 679 = .ok (.goto 1485, 3) := by decide +kernel
theorem dL_law_682 : decode cL_law 682 = .ok (.aload_n 1, 1) := by decide +kernel
theorem dL_law_683 : decode cL_law 683 = .ok (.aload_n 0, 1) := by decide +kernel
theorem dL_law_684 : decode cL_law 684 = .ok (.iload 4, 2) := by decide +kernel
theorem dL_law_686 : decode cL_law 686 = .ok (.iconst 1, 1) := by decide +kernel
theorem dL_law_687 : decode cL_law 687 = .ok (.iadd, 1) := by decide +kernel
theorem dL_law_688 : decode cL_law 688 = .ok (.iaload, 1) := by decide +kernel
theorem dL_law_689 : decode cL_law 689 = .ok (.invokevirtual 134, 3) := by decide +kernel
theorem dL_law_692 : decode cL_law 692 = .ok (.aload_n 2, 1) := by decide +kernel
theorem dL_law_693 : decode cL_law 693 = .ok (.aload_n 0, 1) := by decide +kernel
theorem dL_law_694 : decode cL_law 694 = .ok (.iload 4, 2) := by decide +kernel
theorem dL_law_696 : decode cL_law 696 = .ok (.iconst 1, 1) := by decide +kernel
theorem dL_law_697 : decode cL_law 697 = .ok (.iadd, 1) := by decide +kernel
theorem dL_law_698 : decode cL_law 698 = .ok (.iaload, 1) := by decide +kernel
theorem dL_law_699 : decode cL_law 699 = .ok (.invokevirtual 137, 3) := by decide +kernel
theorem dL_law_702 : decode cL_law 702 = .ok (.if_icmp .eq 1462, 3) := by decide +kernel
theorem dL_law_705 : decode cL_law 705 = .ok (.iconst 0, 1) := by decide +kernel
theorem dL_law_706 : decode cL_law 706 = .ok (.ireturn, 1) := by decide +kernel
theorem dL_law_707 : decode cL_law 707 = .ok (.aload_n 1, 1) := by decide +kernel
theorem dL_law_708 : decode cL_law 708 = .ok (.aload_n 0, 1) := by decide +kernel
theorem dL_law_709 : decode cL_law 709 = .ok (.iload 4, 2) := by decide +kernel
theorem dL_law_711 : decode cL_law 711 = .ok (.iconst 1, 1) := by decide +kernel
theorem dL_law_712 : decode cL_law 712 = .ok (.iadd, 1) := by decide +kernel
theorem dL_law_713 : decode cL_law 713 = .ok (.iaload, 1) := by decide +kernel
theorem dL_law_714 : decode cL_law 714 = .ok (.aload_n 0, 1) := by decide +kernel
theorem dL_law_715 : decode cL_law 715 = .ok (.iload 4, 2) := by decide +kernel
theorem dL_law_717 : decode cL_law 717 = .ok (.iconst 2, 1) := by decide +kernel
theorem dL_law_718 : decode cL_law 718 = .ok (.iadd, 1) := by decide +kernel
theorem dL_law_719 : decode cL_law 719 = .ok (.iaload, 1) := by decide +kernel
theorem dL_law_720 : decode cL_law 720 = .ok (.aload_n 0, 1) := by decide +kernel
theorem dL_law_721 : decode cL_law 721 = .ok (.iload 4, 2) := by decide +kernel
theorem dL_law_723 : decode cL_law 723 = .ok (.iconst 3, 1) := by decide +kernel
theorem dL_law_724 : decode cL_law 724 = .ok (.iadd, 1) := by decide +kernel
theorem dL_law_725 : decode cL_law 725 = .ok (.iaload, 1) := by decide +kernel
theorem dL_law_726 : decode cL_law 726 = .ok (.aload_n 3, 1) := by decide +kernel
theorem dL_law_727 : decode cL_law 727 = .ok (.invokestatic 138, 3) := by decide +kernel
theorem dL_law_730 : decode cL_law 730 = .ok (.istore 5, 2) := by decide +kernel
theorem dL_law_732 : decode cL_law 732 = .ok (.aload_n 2, 1) := by decide +kernel
theorem dL_law_733 : decode cL_law 733 = .ok (.aload_n 0, 1) := by decide +kernel
theorem dL_law_734 : decode cL_law 734 = .ok (.iload 4, 2) := by decide +kernel
theorem dL_law_736 : decode cL_law 736 = .ok (.iconst 1, 1) := by decide +kernel
theorem dL_law_737 : decode cL_law 737 = .ok (.iadd, 1) := by decide +kernel
theorem dL_law_738 : decode cL_law 738 = .ok (.iaload, 1) := by decide +kernel
theorem dL_law_739 : decode cL_law 739 = .ok (.aload_n 0, 1) := by decide +kernel
theorem dL_law_740 : decode cL_law 740 = .ok (.iload 4, 2) := by decide +kernel
theorem dL_law_742 : decode cL_law 742 = .ok (.iconst 2, 1) := by decide +kernel
theorem dL_law_743 : decode cL_law 743 = .ok (.iadd, 1) := by decide +kernel
theorem dL_law_744 : decode cL_law 744 = .ok (.iaload, 1) := by decide +kernel
theorem dL_law_745 : decode cL_law 745 = .ok (.aload_n 0, 1) := by decide +kernel
theorem dL_law_746 : decode cL_law 746 = .ok (.iload 4, 2) := by decide +kernel
theorem dL_law_748 : decode cL_law 748 = .ok (.iconst 3, 1) := by decide +kernel
theorem dL_law_749 : decode cL_law 749 = .ok (.iadd, 1) := by decide +kernel
theorem dL_law_750 : decode cL_law 750 = .ok (.iaload, 1) := by decide +kernel
theorem dL_law_751 : decode cL_law 751 = .ok (.invokevirtual 141, 3) := by decide +kernel
theorem dL_law_754 : decode cL_law 754 = .ok (.istore 6, 2) := by decide +kernel
theorem dL_law_756 : decode cL_law 756 = .ok (.aload_n 2, 1) := by decide +kernel
theorem dL_law_757 : decode cL_law 757 = .ok (.invokevirtual 110, 3) := by decide +kernel
theorem dL_law_760 : decode cL_law 760 = .ok (.iload 5, 2) := by decide +kernel
theorem dL_law_762 : decode cL_law 762 = .ok (.if_icmp .eq 5, 3) := by decide +kernel
theorem dL_law_765 : decode cL_law 765 = .ok (.iconst 0, 1) := by decide +kernel
theorem dL_law_766 : decode cL_law 766 = .ok (.ireturn, 1) := by decide +kernel
theorem dL_law_767 : decode cL_law 767 = .ok (.iload 5, 2) := by decide +kernel
theorem dL_law_769 : decode cL_law 769 = .ok (.ifCond .ne 15, 3) := by decide +kernel
theorem dL_law_772 : decode cL_law 772 = .ok (.aload_n 3, 1) := by decide +kernel
theorem dL_law_773 : decode cL_law 773 = .ok (.iconst 0, 1) := by decide +kernel
theorem dL_law_774 : decode cL_law 774 = .ok (.laload, 1) := by decide +kernel
theorem dL_law_775 : decode cL_law 775 = .ok (.iload 6, 2) := by decide +kernel
theorem dL_law_777 : decode cL_law 777 = .ok (.i2l, 1) := by decide +kernel
theorem dL_law_778 : decode cL_law 778 = .ok (.lcmp, 1) := by decide +kernel
theorem dL_law_779 : decode cL_law 779 = .ok (.ifCond .eq 5, 3) := by decide +kernel
theorem dL_law_782 : decode cL_law 782 = .ok (.iconst 0, 1) := by decide +kernel
theorem dL_law_783 : decode cL_law 783 = .ok (.ireturn, 1) := by decide +kernel
theorem dL_law_784 : decode cL_law 784 = .ok (.goto 1380, 3) := by decide +kernel
theorem dL_law_787 : decode cL_law 787 = .ok (.aload_n 1, 1) := by decide +kernel
theorem dL_law_788 : decode cL_law 788 = .ok (.aload_n 0, 1) := by decide +kernel
theorem dL_law_789 : decode cL_law 789 = .ok (.iload 4, 2) := by decide +kernel
theorem dL_law_791 : decode cL_law 791 = .ok (.iconst 1, 1) := by decide +kernel
theorem dL_law_792 : decode cL_law 792 = .ok (.iadd, 1) := by decide +kernel
theorem dL_law_793 : decode cL_law 793 = .ok (.iaload, 1) := by decide +kernel
theorem dL_law_794 : decode cL_law 794 = .ok (.invokevirtual 142, 3) := by decide +kernel
theorem dL_law_797 : decode cL_law 797 = .ok (.aload_n 2, 1) := by decide +kernel
theorem dL_law_798 : decode cL_law 798 = .ok (.aload_n 0, 1) := by decide +kernel
theorem dL_law_799 : decode cL_law 799 = .ok (.iload 4, 2) := by decide +kernel
theorem dL_law_801 : decode cL_law 801 = .ok (.iconst 1, 1) := by decide +kernel
theorem dL_law_802 : decode cL_law 802 = .ok (.iadd, 1) := by decide +kernel
theorem dL_law_803 : decode cL_law 803 = .ok (.iaload, 1) := by decide +kernel
theorem dL_law_804 : decode cL_law 804 = .ok (.invokevirtual 145, 3) := by decide +kernel
theorem dL_law_807 : decode cL_law 807 = .ok (.if_icmp .eq 1357, 3) := by decide +kernel
theorem dL_law_810 : decode cL_law 810 = .ok (.iconst 0, 1) := by decide +kernel
theorem dL_law_811 : decode cL_law 811 = .ok (.ireturn, 1) := by decide +kernel
theorem dL_law_812 : decode cL_law 812 = .ok (.aload_n 1, 1) := by decide +kernel
theorem dL_law_813 : decode cL_law 813 = .ok (.aload_n 0, 1) := by decide +kernel
theorem dL_law_814 : decode cL_law 814 = .ok (.iload 4, 2) := by decide +kernel
theorem dL_law_816 : decode cL_law 816 = .ok (.iconst 1, 1) := by decide +kernel
theorem dL_law_817 : decode cL_law 817 = .ok (.iadd, 1) := by decide +kernel
theorem dL_law_818 : decode cL_law 818 = .ok (.iaload, 1) := by decide +kernel
theorem dL_law_819 : decode cL_law 819 = .ok (.invokevirtual 146, 3) := by decide +kernel
theorem dL_law_822 : decode cL_law 822 = .ok (.aload_n 2, 1) := by decide +kernel
theorem dL_law_823 : decode cL_law 823 = .ok (.aload_n 0, 1) := by decide +kernel
theorem dL_law_824 : decode cL_law 824 = .ok (.iload 4, 2) := by decide +kernel
theorem dL_law_826 : decode cL_law 826 = .ok (.iconst 1, 1) := by decide +kernel
theorem dL_law_827 : decode cL_law 827 = .ok (.iadd, 1) := by decide +kernel
theorem dL_law_828 : decode cL_law 828 = .ok (.iaload, 1) := by decide +kernel
theorem dL_law_829 : decode cL_law 829 = .ok (.invokevirtual 149, 3) := by decide +kernel
theorem dL_law_832 : decode cL_law 832 = .ok (.if_icmp .eq 1332, 3) := by decide +kernel
theorem dL_law_835 : decode cL_law 835 = .ok (.iconst 0, 1) := by decide +kernel
theorem dL_law_836 : decode cL_law 836 = .ok (.ireturn, 1) := by decide +kernel
theorem dL_law_837 : decode cL_law 837 = .ok (.aload_n 1, 1) := by decide +kernel
theorem dL_law_838 : decode cL_law 838 = .ok (.aload_n 0, 1) := by decide +kernel
theorem dL_law_839 : decode cL_law 839 = .ok (.iload 4, 2) := by decide +kernel
theorem dL_law_841 : decode cL_law 841 = .ok (.iconst 1, 1) := by decide +kernel
theorem dL_law_842 : decode cL_law 842 = .ok (.iadd, 1) := by decide +kernel
theorem dL_law_843 : decode cL_law 843 = .ok (.iaload, 1) := by decide +kernel
theorem dL_law_844 : decode cL_law 844 = .ok (.aload_n 0, 1) := by decide +kernel
theorem dL_law_845 : decode cL_law 845 = .ok (.iload 4, 2) := by decide +kernel
theorem dL_law_847 : decode cL_law 847 = .ok (.iconst 2, 1) := by decide +kernel
theorem dL_law_848 : decode cL_law 848 = .ok (.iadd, 1) := by decide +kernel
theorem dL_law_849 : decode cL_law 849 = .ok (.iaload, 1) := by decide +kernel
theorem dL_law_850 : decode cL_law 850 = .ok (.aload_n 3, 1) := by decide +kernel
theorem dL_law_851 : decode cL_law 851 = .ok (.invokestatic 150, 3) := by decide +kernel
theorem dL_law_854 : decode cL_law 854 = .ok (.istore 5, 2) := by decide +kernel
theorem dL_law_856 : decode cL_law 856 = .ok (.aload_n 2, 1) := by decide +kernel
theorem dL_law_857 : decode cL_law 857 = .ok (.aload_n 0, 1) := by decide +kernel
theorem dL_law_858 : decode cL_law 858 = .ok (.iload 4, 2) := by decide +kernel
theorem dL_law_860 : decode cL_law 860 = .ok (.iconst 1, 1) := by decide +kernel
theorem dL_law_861 : decode cL_law 861 = .ok (.iadd, 1) := by decide +kernel
theorem dL_law_862 : decode cL_law 862 = .ok (.iaload, 1) := by decide +kernel
theorem dL_law_863 : decode cL_law 863 = .ok (.aload_n 0, 1) := by decide +kernel
theorem dL_law_864 : decode cL_law 864 = .ok (.iload 4, 2) := by decide +kernel
theorem dL_law_866 : decode cL_law 866 = .ok (.iconst 2, 1) := by decide +kernel
theorem dL_law_867 : decode cL_law 867 = .ok (.iadd, 1) := by decide +kernel
theorem dL_law_868 : decode cL_law 868 = .ok (.iaload, 1) := by decide +kernel
theorem dL_law_869 : decode cL_law 869 = .ok (.invokevirtual 152, 3) := by decide +kernel
theorem dL_law_872 : decode cL_law 872 = .ok (.istore 6, 2) := by decide +kernel
theorem dL_law_874 : decode cL_law 874 = .ok (.aload_n 2, 1) := by decide +kernel
theorem dL_law_875 : decode cL_law 875 = .ok (.invokevirtual 110, 3) := by decide +kernel
theorem dL_law_878 : decode cL_law 878 = .ok (.iload 5, 2) := by decide +kernel
theorem dL_law_880 : decode cL_law 880 = .ok (.if_icmp .eq 5, 3) := by decide +kernel
theorem dL_law_883 : decode cL_law 883 = .ok (.iconst 0, 1) := by decide +kernel
theorem dL_law_884 : decode cL_law 884 = .ok (.ireturn, 1) := by decide +kernel
theorem dL_law_885 : decode cL_law 885 = .ok (.iload 5, 2) := by decide +kernel
theorem dL_law_887 : decode cL_law 887 = .ok (.ifCond .ne 15, 3) := by decide +kernel
theorem dL_law_890 : decode cL_law 890 = .ok (.aload_n 3, 1) := by decide +kernel
theorem dL_law_891 : decode cL_law 891 = .ok (.iconst 0, 1) := by decide +kernel
theorem dL_law_892 : decode cL_law 892 = .ok (.laload, 1) := by decide +kernel
theorem dL_law_893 : decode cL_law 893 = .ok (.iload 6, 2) := by decide +kernel
theorem dL_law_895 : decode cL_law 895 = .ok (.i2l, 1) := by decide +kernel
theorem dL_law_896 : decode cL_law 896 = .ok (.lcmp, 1) := by decide +kernel
theorem dL_law_897 : decode cL_law 897 = .ok (.ifCond .eq 5, 3) := by decide +kernel
theorem dL_law_900 : decode cL_law 900 = .ok (.iconst 0, 1) := by decide +kernel
theorem dL_law_901 : decode cL_law 901 = .ok (.ireturn, 1) := by decide +kernel
theorem dL_law_902 : decode cL_law 902 = .ok (.goto 1262, 3) := by decide +kernel
theorem dL_law_905 : decode cL_law 905 = .ok (.aload_n 1, 1) := by decide +kernel
theorem dL_law_906 : decode cL_law 906 = .ok (.invokevirtual 153, 3) := by decide +kernel
theorem dL_law_909 : decode cL_law 909 = .ok (.aload_n 2, 1) := by decide +kernel
theorem dL_law_910 : decode cL_law 910 = .ok (.invokevirtual 156, 3) := by decide +kernel
theorem dL_law_913 : decode cL_law 913 = .ok (.if_icmp .eq 1251, 3) := by decide +kernel
theorem dL_law_916 : decode cL_law 916 = .ok (.iconst 0, 1) := by decide +kernel
theorem dL_law_917 : decode cL_law 917 = .ok (.ireturn, 1) := by decide +kernel
theorem dL_law_918 : decode cL_law 918 = .ok (.aload_n 1, 1) := by decide +kernel
theorem dL_law_919 : decode cL_law 919 = .ok (.aload_n 0, 1) := by decide +kernel
theorem dL_law_920 : decode cL_law 920 = .ok (.iload 4, 2) := by decide +kernel
theorem dL_law_922 : decode cL_law 922 = .ok (.iconst 1, 1) := by decide +kernel
theorem dL_law_923 : decode cL_law 923 = .ok (.iadd, 1) := by decide +kernel
theorem dL_law_924 : decode cL_law 924 = .ok (.iaload, 1) := by decide +kernel
theorem dL_law_925 : decode cL_law 925 = .ok (.aload_n 0, 1) := by decide +kernel
theorem dL_law_926 : decode cL_law 926 = .ok (.iload 4, 2) := by decide +kernel
theorem dL_law_928 : decode cL_law 928 = .ok (.iconst 2, 1) := by decide +kernel
theorem dL_law_929 : decode cL_law 929 = .ok (.iadd, 1) := by decide +kernel
theorem dL_law_930 : decode cL_law 930 = .ok (.iaload, 1) := by decide +kernel
theorem dL_law_931 : decode cL_law 931 = .ok (.aload_n 3, 1) := by decide +kernel
theorem dL_law_932 : decode cL_law 932 = .ok (.invokestatic 157, 3) := by decide +kernel
theorem dL_law_935 : decode cL_law 935 = .ok (.istore 5, 2) := by decide +kernel
theorem dL_law_937 : decode cL_law 937 = .ok (.aload_n 2, 1) := by decide +kernel
theorem dL_law_938 : decode cL_law 938 = .ok (.aload_n 0, 1) := by decide +kernel
theorem dL_law_939 : decode cL_law 939 = .ok (.iload 4, 2) := by decide +kernel
theorem dL_law_941 : decode cL_law 941 = .ok (.iconst 1, 1) := by decide +kernel
theorem dL_law_942 : decode cL_law 942 = .ok (.iadd, 1) := by decide +kernel
theorem dL_law_943 : decode cL_law 943 = .ok (.iaload, 1) := by decide +kernel
theorem dL_law_944 : decode cL_law 944 = .ok (.aload_n 0, 1) := by decide +kernel
theorem dL_law_945 : decode cL_law 945 = .ok (.iload 4, 2) := by decide +kernel
theorem dL_law_947 : decode cL_law 947 = .ok (.iconst 2, 1) := by decide +kernel
theorem dL_law_948 : decode cL_law 948 = .ok (.iadd, 1) := by decide +kernel
theorem dL_law_949 : decode cL_law 949 = .ok (.iaload, 1) := by decide +kernel
theorem dL_law_950 : decode cL_law 950 = .ok (.invokevirtual 159, 3) := by decide +kernel
theorem dL_law_953 : decode cL_law 953 = .ok (.istore 6, 2) := by decide +kernel
theorem dL_law_955 : decode cL_law 955 = .ok (.aload_n 2, 1) := by decide +kernel
theorem dL_law_956 : decode cL_law 956 = .ok (.invokevirtual 110, 3) := by decide +kernel
theorem dL_law_959 : decode cL_law 959 = .ok (.iload 5, 2) := by decide +kernel
theorem dL_law_961 : decode cL_law 961 = .ok (.if_icmp .eq 5, 3) := by decide +kernel
theorem dL_law_964 : decode cL_law 964 = .ok (.iconst 0, 1) := by decide +kernel
theorem dL_law_965 : decode cL_law 965 = .ok (.ireturn, 1) := by decide +kernel
theorem dL_law_966 : decode cL_law 966 = .ok (.iload 5, 2) := by decide +kernel
theorem dL_law_968 : decode cL_law 968 = .ok (.ifCond .ne 15, 3) := by decide +kernel
theorem dL_law_971 : decode cL_law 971 = .ok (.aload_n 3, 1) := by decide +kernel
theorem dL_law_972 : decode cL_law 972 = .ok (.iconst 0, 1) := by decide +kernel
theorem dL_law_973 : decode cL_law 973 = .ok (.laload, 1) := by decide +kernel
theorem dL_law_974 : decode cL_law 974 = .ok (.iload 6, 2) := by decide +kernel
theorem dL_law_976 : decode cL_law 976 = .ok (.i2l, 1) := by decide +kernel
theorem dL_law_977 : decode cL_law 977 = .ok (.lcmp, 1) := by decide +kernel
theorem dL_law_978 : decode cL_law 978 = .ok (.ifCond .eq 5, 3) := by decide +kernel
theorem dL_law_981 : decode cL_law 981 = .ok (.iconst 0, 1) := by decide +kernel
theorem dL_law_982 : decode cL_law 982 = .ok (.ireturn, 1) := by decide +kernel
theorem dL_law_983 : decode cL_law 983 = .ok (.goto 1181, 3) := by decide +kernel
theorem dL_law_986 : decode cL_law 986 = .ok (.aload_n 1, 1) := by decide +kernel
theorem dL_law_987 : decode cL_law 987 = .ok (.aload_n 0, 1) := by decide +kernel
theorem dL_law_988 : decode cL_law 988 = .ok (.iload 4, 2) := by decide +kernel
theorem dL_law_990 : decode cL_law 990 = .ok (.iconst 1, 1) := by decide +kernel
theorem dL_law_991 : decode cL_law 991 = .ok (.iadd, 1) := by decide +kernel
theorem dL_law_992 : decode cL_law 992 = .ok (.iaload, 1) := by decide +kernel
theorem dL_law_993 : decode cL_law 993 = .ok (.aload_n 3, 1) := by decide +kernel
theorem dL_law_994 : decode cL_law 994 = .ok (.invokestatic 160, 3) := by decide +kernel
theorem dL_law_997 : decode cL_law 997 = .ok (.istore 5, 2) := by decide +kernel
theorem dL_law_999 : decode cL_law 999 = .ok (.aload_n 2, 1) := by decide +kernel
theorem dL_law_1000 : decode cL_law 1000 = .ok (.aload_n 0, 1) := by decide +kernel
theorem dL_law_1001 : decode cL_law 1001 = .ok (.iload 4, 2) := by decide +kernel
theorem dL_law_1003 : decode cL_law 1003 = .ok (.iconst 1, 1) := by decide +kernel
theorem dL_law_1004 : decode cL_law 1004 = .ok (.iadd, 1) := by decide +kernel
theorem dL_law_1005 : decode cL_law 1005 = .ok (.iaload, 1) := by decide +kernel
theorem dL_law_1006 : decode cL_law 1006 = .ok (.invokevirtual 162, 3) := by decide +kernel
theorem dL_law_1009 : decode cL_law 1009 = .ok (.istore 6, 2) := by decide +kernel
theorem dL_law_1011 : decode cL_law 1011 = .ok (.aload_n 2, 1) := by decide +kernel
theorem dL_law_1012 : decode cL_law 1012 = .ok (.invokevirtual 110, 3) := by decide +kernel
theorem dL_law_1015 : decode cL_law 1015 = .ok (.iload 5, 2) := by decide +kernel
theorem dL_law_1017 : decode cL_law 1017 = .ok (.if_icmp .eq 5, 3) := by decide +kernel
theorem dL_law_1020 : decode cL_law 1020 = .ok (.iconst 0, 1) := by decide +kernel
theorem dL_law_1021 : decode cL_law 1021 = .ok (.ireturn, 1) := by decide +kernel
theorem dL_law_1022 : decode cL_law 1022 = .ok (.iload 5, 2) := by decide +kernel
theorem dL_law_1024 : decode cL_law 1024 = .ok (.ifCond .ne 15, 3) := by decide +kernel
theorem dL_law_1027 : decode cL_law 1027 = .ok (.aload_n 3, 1) := by decide +kernel
theorem dL_law_1028 : decode cL_law 1028 = .ok (.iconst 0, 1) := by decide +kernel
theorem dL_law_1029 : decode cL_law 1029 = .ok (.laload, 1) := by decide +kernel
theorem dL_law_1030 : decode cL_law 1030 = .ok (.iload 6, 2) := by decide +kernel
theorem dL_law_1032 : decode cL_law 1032 = .ok (.i2l, 1) := by decide +kernel
theorem dL_law_1033 : decode cL_law 1033 = .ok (.lcmp, 1) := by decide +kernel
theorem dL_law_1034 : decode cL_law 1034 = .ok (.ifCond .eq 5, 3) := by decide +kernel
theorem dL_law_1037 : decode cL_law 1037 = .ok (.iconst 0, 1) := by decide +kernel
theorem dL_law_1038 : decode cL_law 1038 = .ok (.ireturn, 1) := by decide +kernel
theorem dL_law_1039 : decode cL_law 1039 = .ok (.goto 1125, 3) := by decide +kernel
theorem dL_law_1042 : decode cL_law 1042 = .ok (.aload_n 1, 1) := by decide +kernel
theorem dL_law_1043 : decode cL_law 1043 = .ok (.invokevirtual 163, 3) := by decide +kernel
theorem dL_law_1046 : decode cL_law 1046 = .ok (.aload_n 2, 1) := by decide +kernel
theorem dL_law_1047 : decode cL_law 1047 = .ok (.invokevirtual 166, 3) := by decide +kernel
theorem dL_law_1050 : decode cL_law 1050 = .ok (.if_icmp .eq 1114, 3) := by decide +kernel
theorem dL_law_1053 : decode cL_law 1053 = .ok (.iconst 0, 1) := by decide +kernel
theorem dL_law_1054 : decode cL_law 1054 = .ok (.ireturn, 1) := by decide +kernel
theorem dL_law_1055 : decode cL_law 1055 = .ok (.aload_n 1, 1) := by decide +kernel
theorem dL_law_1056 : decode cL_law 1056 = .ok (.invokevirtual 167, 3) := by decide +kernel
theorem dL_law_1059 : decode cL_law 1059 = .ok (.aload_n 2, 1) := by decide +kernel
theorem dL_law_1060 : decode cL_law 1060 = .ok (.invokevirtual 170, 3) := by decide +kernel
theorem dL_law_1063 : decode cL_law 1063 = .ok (.if_icmp .eq 1101, 3) := by decide +kernel
theorem dL_law_1066 : decode cL_law 1066 = .ok (.iconst 0, 1) := by decide +kernel
theorem dL_law_1067 : decode cL_law 1067 = .ok (.ireturn, 1) := by decide +kernel
theorem dL_law_1068 : decode cL_law 1068 = .ok (.aload_n 1, 1) := by decide +kernel
theorem dL_law_1069 : decode cL_law 1069 = .ok (.aload_n 0, 1) := by decide +kernel
theorem dL_law_1070 : decode cL_law 1070 = .ok (.iload 4, 2) := by decide +kernel
theorem dL_law_1072 : decode cL_law 1072 = .ok (.iconst 1, 1) := by decide +kernel
theorem dL_law_1073 : decode cL_law 1073 = .ok (.iadd, 1) := by decide +kernel
theorem dL_law_1074 : decode cL_law 1074 = .ok (.iaload, 1) := by decide +kernel
theorem dL_law_1075 : decode cL_law 1075 = .ok (.aload_n 3, 1) := by decide +kernel
theorem dL_law_1076 : decode cL_law 1076 = .ok (.invokestatic 171, 3) := by decide +kernel
theorem dL_law_1079 : decode cL_law 1079 = .ok (.istore 5, 2) := by decide +kernel
theorem dL_law_1081 : decode cL_law 1081 = .ok (.aload_n 2, 1) := by decide +kernel
theorem dL_law_1082 : decode cL_law 1082 = .ok (.aload_n 0, 1) := by decide +kernel
theorem dL_law_1083 : decode cL_law 1083 = .ok (.iload 4, 2) := by decide +kernel
theorem dL_law_1085 : decode cL_law 1085 = .ok (.iconst 1, 1) := by decide +kernel
theorem dL_law_1086 : decode cL_law 1086 = .ok (.iadd, 1) := by decide +kernel
theorem dL_law_1087 : decode cL_law 1087 = .ok (.iaload, 1) := by decide +kernel
theorem dL_law_1088 : decode cL_law 1088 = .ok (.invokevirtual 173, 3) := by decide +kernel
theorem dL_law_1091 : decode cL_law 1091 = .ok (.istore 6, 2) := by decide +kernel
theorem dL_law_1093 : decode cL_law 1093 = .ok (.aload_n 2, 1) := by decide +kernel
theorem dL_law_1094 : decode cL_law 1094 = .ok (.invokevirtual 110, 3) := by decide +kernel
theorem dL_law_1097 : decode cL_law 1097 = .ok (.iload 5, 2) := by decide +kernel
theorem dL_law_1099 : decode cL_law 1099 = .ok (.if_icmp .eq 5, 3) := by decide +kernel
theorem dL_law_1102 : decode cL_law 1102 = .ok (.iconst 0, 1) := by decide +kernel
theorem dL_law_1103 : decode cL_law 1103 = .ok (.ireturn, 1) := by decide +kernel
theorem dL_law_1104 : decode cL_law 1104 = .ok (.iload 5, 2) := by decide +kernel
theorem dL_law_1106 : decode cL_law 1106 = .ok (.ifCond .ne 15, 3) := by decide +kernel
theorem dL_law_1109 : decode cL_law 1109 = .ok (.aload_n 3, 1) := by decide +kernel
theorem dL_law_1110 : decode cL_law 1110 = .ok (.iconst 0, 1) := by decide +kernel
theorem dL_law_1111 : decode cL_law 1111 = .ok (.laload, 1) := by decide +kernel
theorem dL_law_1112 : decode cL_law 1112 = .ok (.iload 6, 2) := by decide +kernel
theorem dL_law_1114 : decode cL_law 1114 = .ok (.i2l, 1) := by decide +kernel
theorem dL_law_1115 : decode cL_law 1115 = .ok (.lcmp, 1) := by decide +kernel
theorem dL_law_1116 : decode cL_law 1116 = .ok (.ifCond .eq 5, 3) := by decide +kernel
theorem dL_law_1119 : decode cL_law 1119 = .ok (.iconst 0, 1) := by decide +kernel
theorem dL_law_1120 : decode cL_law 1120 = .ok (.ireturn, 1) := by decide +kernel
theorem dL_law_1121 : decode cL_law 1121 = .ok (.goto 1043, 3) := by decide +kernel
theorem dL_law_1124 : decode cL_law 1124 = .ok (.aload_n 1, 1) := by decide +kernel
theorem dL_law_1125 : decode cL_law 1125 = .ok (.aload_n 0, 1) := by decide +kernel
theorem dL_law_1126 : decode cL_law 1126 = .ok (.iload 4, 2) := by decide +kernel
theorem dL_law_1128 : decode cL_law 1128 = .ok (.iconst 1, 1) := by decide +kernel
theorem dL_law_1129 : decode cL_law 1129 = .ok (.iadd, 1) := by decide +kernel
theorem dL_law_1130 : decode cL_law 1130 = .ok (.iaload, 1) := by decide +kernel
theorem dL_law_1131 : decode cL_law 1131 = .ok (.aload_n 0, 1) := by decide +kernel
theorem dL_law_1132 : decode cL_law 1132 = .ok (.iload 4, 2) := by decide +kernel
theorem dL_law_1134 : decode cL_law 1134 = .ok (.iconst 2, 1) := by decide +kernel
theorem dL_law_1135 : decode cL_law 1135 = .ok (.iadd, 1) := by decide +kernel
theorem dL_law_1136 : decode cL_law 1136 = .ok (.iaload, 1) := by decide +kernel
theorem dL_law_1137 : decode cL_law 1137 = .ok (.aload_n 3, 1) := by decide +kernel
theorem dL_law_1138 : decode cL_law 1138 = .ok (.invokestatic 174, 3) := by decide +kernel
theorem dL_law_1141 : decode cL_law 1141 = .ok (.istore 5, 2) := by decide +kernel
theorem dL_law_1143 : decode cL_law 1143 = .ok (.aload_n 2, 1) := by decide +kernel
theorem dL_law_1144 : decode cL_law 1144 = .ok (.aload_n 0, 1) := by decide +kernel
theorem dL_law_1145 : decode cL_law 1145 = .ok (.iload 4, 2) := by decide +kernel
theorem dL_law_1147 : decode cL_law 1147 = .ok (.iconst 1, 1) := by decide +kernel
theorem dL_law_1148 : decode cL_law 1148 = .ok (.iadd, 1) := by decide +kernel
theorem dL_law_1149 : decode cL_law 1149 = .ok (.iaload, 1) := by decide +kernel
theorem dL_law_1150 : decode cL_law 1150 = .ok (.aload_n 0, 1) := by decide +kernel
theorem dL_law_1151 : decode cL_law 1151 = .ok (.iload 4, 2) := by decide +kernel
theorem dL_law_1153 : decode cL_law 1153 = .ok (.iconst 2, 1) := by decide +kernel
theorem dL_law_1154 : decode cL_law 1154 = .ok (.iadd, 1) := by decide +kernel
theorem dL_law_1155 : decode cL_law 1155 = .ok (.iaload, 1) := by decide +kernel
theorem dL_law_1156 : decode cL_law 1156 = .ok (.invokevirtual 176, 3) := by decide +kernel
theorem dL_law_1159 : decode cL_law 1159 = .ok (.istore 6, 2) := by decide +kernel
theorem dL_law_1161 : decode cL_law 1161 = .ok (.aload_n 2, 1) := by decide +kernel
theorem dL_law_1162 : decode cL_law 1162 = .ok (.invokevirtual 110, 3) := by decide +kernel
theorem dL_law_1165 : decode cL_law 1165 = .ok (.iload 5, 2) := by decide +kernel
theorem dL_law_1167 : decode cL_law 1167 = .ok (.if_icmp .eq 5, 3) := by decide +kernel
theorem dL_law_1170 : decode cL_law 1170 = .ok (.iconst 0, 1) := by decide +kernel
theorem dL_law_1171 : decode cL_law 1171 = .ok (.ireturn, 1) := by decide +kernel
theorem dL_law_1172 : decode cL_law 1172 = .ok (.iload 5, 2) := by decide +kernel
theorem dL_law_1174 : decode cL_law 1174 = .ok (.ifCond .ne 15, 3) := by decide +kernel
theorem dL_law_1177 : decode cL_law 1177 = .ok (.aload_n 3, 1) := by decide +kernel
theorem dL_law_1178 : decode cL_law 1178 = .ok (.iconst 0, 1) := by decide +kernel
theorem dL_law_1179 : decode cL_law 1179 = .ok (.laload, 1) := by decide +kernel
theorem dL_law_1180 : decode cL_law 1180 = .ok (.iload 6, 2) := by decide +kernel
theorem dL_law_1182 : decode cL_law 1182 = .ok (.i2l, 1) := by decide +kernel
theorem dL_law_1183 : decode cL_law 1183 = .ok (.lcmp, 1) := by decide +kernel
theorem dL_law_1184 : decode cL_law 1184 = .ok (.ifCond .eq 5, 3) := by decide +kernel
theorem dL_law_1187 : decode cL_law 1187 = .ok (.iconst 0, 1) := by decide +kernel
theorem dL_law_1188 : decode cL_law 1188 = .ok (.ireturn, 1) := by decide +kernel
theorem dL_law_1189 : decode cL_law 1189 = .ok (.goto 975, 3) := by decide +kernel
theorem dL_law_1192 : decode cL_law 1192 = .ok (.aload_n 1, 1) := by decide +kernel
theorem dL_law_1193 : decode cL_law 1193 = .ok (.aload_n 0, 1) := by decide +kernel
theorem dL_law_1194 : decode cL_law 1194 = .ok (.iload 4, 2) := by decide +kernel
theorem dL_law_1196 : decode cL_law 1196 = .ok (.iconst 1, 1) := by decide +kernel
theorem dL_law_1197 : decode cL_law 1197 = .ok (.iadd, 1) := by decide +kernel
theorem dL_law_1198 : decode cL_law 1198 = .ok (.iaload, 1) := by decide +kernel
theorem dL_law_1199 : decode cL_law 1199 = .ok (.aload_n 0, 1) := by decide +kernel
theorem dL_law_1200 : decode cL_law 1200 = .ok (.iload 4, 2) := by decide +kernel
theorem dL_law_1202 : decode cL_law 1202 = .ok (.iconst 2, 1) := by decide +kernel
theorem dL_law_1203 : decode cL_law 1203 = .ok (.iadd, 1) := by decide +kernel
theorem dL_law_1204 : decode cL_law 1204 = .ok (.iaload, 1) := by decide +kernel
theorem dL_law_1205 : decode cL_law 1205 = .ok (.aload_n 3, 1) := by decide +kernel
theorem dL_law_1206 : decode cL_law 1206 = .ok (.invokestatic 177, 3) := by decide +kernel
theorem dL_law_1209 : decode cL_law 1209 = .ok (.istore 5, 2) := by decide +kernel
theorem dL_law_1211 : decode cL_law 1211 = .ok (.aload_n 2, 1) := by decide +kernel
theorem dL_law_1212 : decode cL_law 1212 = .ok (.aload_n 0, 1) := by decide +kernel
theorem dL_law_1213 : decode cL_law 1213 = .ok (.iload 4, 2) := by decide +kernel
theorem dL_law_1215 : decode cL_law 1215 = .ok (.iconst 1, 1) := by decide +kernel
theorem dL_law_1216 : decode cL_law 1216 = .ok (.iadd, 1) := by decide +kernel
theorem dL_law_1217 : decode cL_law 1217 = .ok (.iaload, 1) := by decide +kernel
theorem dL_law_1218 : decode cL_law 1218 = .ok (.aload_n 0, 1) := by decide +kernel
theorem dL_law_1219 : decode cL_law 1219 = .ok (.iload 4, 2) := by decide +kernel
theorem dL_law_1221 : decode cL_law 1221 = .ok (.iconst 2, 1) := by decide +kernel
theorem dL_law_1222 : decode cL_law 1222 = .ok (.iadd, 1) := by decide +kernel
theorem dL_law_1223 : decode cL_law 1223 = .ok (.iaload, 1) := by decide +kernel
theorem dL_law_1224 : decode cL_law 1224 = .ok (.invokevirtual 179, 3) := by decide +kernel
theorem dL_law_1227 : decode cL_law 1227 = .ok (.istore 6, 2) := by decide +kernel
theorem dL_law_1229 : decode cL_law 1229 = .ok (.aload_n 2, 1) := by decide +kernel
theorem dL_law_1230 : decode cL_law 1230 = .ok (.invokevirtual 110, 3) := by decide +kernel
theorem dL_law_1233 : decode cL_law 1233 = .ok (.iload 5, 2) := by decide +kernel
theorem dL_law_1235 : decode cL_law 1235 = .ok (.if_icmp .eq 5, 3) := by decide +kernel
theorem dL_law_1238 : decode cL_law 1238 = .ok (.iconst 0, 1) := by decide +kernel
theorem dL_law_1239 : decode cL_law 1239 = .ok (.ireturn, 1) := by decide +kernel
theorem dL_law_1240 : decode cL_law 1240 = .ok (.iload 5, 2) := by decide +kernel
theorem dL_law_1242 : decode cL_law 1242 = .ok (.ifCond .ne 22, 3) := by decide +kernel
theorem dL_law_1245 : decode cL_law 1245 = .ok (.aload_n 3, 1) := by decide +kernel
theorem dL_law_1246 : decode cL_law 1246 = .ok (.iconst 0, 1) := by decide +kernel
theorem dL_law_1247 : decode cL_law 1247 = .ok (.laload, 1) := by decide +kernel
theorem dL_law_1248 : decode cL_law 1248 = .ok (.iload 6, 2) := by decide +kernel
theorem dL_law_1250 : decode cL_law 1250 = .ok (.ifCond .eq 7, 3) := by decide +kernel
theorem dL_law_1253 : decode cL_law 1253 = .ok (.lconst 1, 1) := by decide +kernel
theorem dL_law_1254 : decode cL_law 1254 = .ok (.goto 4, 3) := by decide +kernel
theorem dL_law_1257 : decode cL_law 1257 = .ok (.lconst 0, 1) := by decide +kernel
theorem dL_law_1258 : decode cL_law 1258 = .ok (.lcmp, 1) := by decide +kernel
theorem dL_law_1259 : decode cL_law 1259 = .ok (.ifCond .eq 5, 3) := by decide +kernel
theorem dL_law_1262 : decode cL_law 1262 = .ok (.iconst 0, 1) := by decide +kernel
theorem dL_law_1263 : decode cL_law 1263 = .ok (.ireturn, 1) := by decide +kernel
theorem dL_law_1264 : decode cL_law 1264 = .ok (.goto 900, 3) := by decide +kernel
theorem dL_law_1267 : decode cL_law 1267 = .ok (.aload_n 1, 1) := by decide +kernel
theorem dL_law_1268 : decode cL_law 1268 = .ok (.aload_n 0, 1) := by decide +kernel
theorem dL_law_1269 : decode cL_law 1269 = .ok (.iload 4, 2) := by decide +kernel
theorem dL_law_1271 : decode cL_law 1271 = .ok (.iconst 1, 1) := by decide +kernel
theorem dL_law_1272 : decode cL_law 1272 = .ok (.iadd, 1) := by decide +kernel
theorem dL_law_1273 : decode cL_law 1273 = .ok (.iaload, 1) := by decide +kernel
theorem dL_law_1274 : decode cL_law 1274 = .ok (.aload_n 3, 1) := by decide +kernel
theorem dL_law_1275 : decode cL_law 1275 = .ok (.invokestatic 180, 3) := by decide +kernel
theorem dL_law_1278 : decode cL_law 1278 = .ok (.istore 5, 2) := by decide +kernel
theorem dL_law_1280 : decode cL_law 1280 = .ok (.aload_n 2, 1) := by decide +kernel
theorem dL_law_1281 : decode cL_law 1281 = .ok (.aload_n 0, 1) := by decide +kernel
theorem dL_law_1282 : decode cL_law 1282 = .ok (.iload 4, 2) := by decide +kernel
theorem dL_law_1284 : decode cL_law 1284 = .ok (.iconst 1, 1) := by decide +kernel
theorem dL_law_1285 : decode cL_law 1285 = .ok (.iadd, 1) := by decide +kernel
theorem dL_law_1286 : decode cL_law 1286 = .ok (.iaload, 1) := by decide +kernel
theorem dL_law_1287 : decode cL_law 1287 = .ok (.invokevirtual 182, 3) := by decide +kernel
theorem dL_law_1290 : decode cL_law 1290 = .ok (.istore 6, 2) := by decide +kernel
theorem dL_law_1292 : decode cL_law 1292 = .ok (.aload_n 2, 1) := by decide +kernel
theorem dL_law_1293 : decode cL_law 1293 = .ok (.invokevirtual 110, 3) := by decide +kernel
theorem dL_law_1296 : decode cL_law 1296 = .ok (.iload 5, 2) := by decide +kernel
theorem dL_law_1298 : decode cL_law 1298 = .ok (.if_icmp .eq 5, 3) := by decide +kernel
theorem dL_law_1301 : decode cL_law 1301 = .ok (.iconst 0, 1) := by decide +kernel
theorem dL_law_1302 : decode cL_law 1302 = .ok (.ireturn, 1) := by decide +kernel
theorem dL_law_1303 : decode cL_law 1303 = .ok (.iload 5, 2) := by decide +kernel
theorem dL_law_1305 : decode cL_law 1305 = .ok (.ifCond .ne 15, 3) := by decide +kernel
theorem dL_law_1308 : decode cL_law 1308 = .ok (.aload_n 3, 1) := by decide +kernel
theorem dL_law_1309 : decode cL_law 1309 = .ok (.iconst 0, 1) := by decide +kernel
theorem dL_law_1310 : decode cL_law 1310 = .ok (.laload, 1) := by decide +kernel
theorem dL_law_1311 : decode cL_law 1311 = .ok (.iload 6, 2) := by decide +kernel
theorem dL_law_1313 : decode cL_law 1313 = .ok (.i2l, 1) := by decide +kernel
theorem dL_law_1314 : decode cL_law 1314 = .ok (.lcmp, 1) := by decide +kernel
theorem dL_law_1315 : decode cL_law 1315 = .ok (.ifCond .eq 5, 3) := by decide +kernel
theorem dL_law_1318 : decode cL_law 1318 = .ok (.iconst 0, 1) := by decide +kernel
theorem dL_law_1319 : decode cL_law 1319 = .ok (.ireturn, 1) := by decide +kernel
theorem dL_law_1320 : decode cL_law 1320 = .ok (.goto 844, 3) := by decide +kernel
theorem dL_law_1323 : decode cL_law 1323 = .ok (.aload_n 1, 1) := by decide +kernel
theorem dL_law_1324 : decode cL_law 1324 = .ok (.aload_n 0, 1) := by decide +kernel
theorem dL_law_1325 : decode cL_law 1325 = .ok (.iload 4, 2) := by decide +kernel
theorem dL_law_1327 : decode cL_law 1327 = .ok (.iconst 1, 1) := by decide +kernel
theorem dL_law_1328 : decode cL_law 1328 = .ok (.iadd, 1) := by decide +kernel
theorem dL_law_1329 : decode cL_law 1329 = .ok (.iaload, 1) := by decide +kernel
theorem dL_law_1330 : decode cL_law 1330 = .ok (.aload_n 3, 1) := by decide +kernel
theorem dL_law_1331 : decode cL_law 1331 = .ok (.invokestatic 183, 3) := by decide +kernel
theorem dL_law_1334 : decode cL_law 1334 = .ok (.istore 5, 2) := by decide +kernel
theorem dL_law_1336 : decode cL_law 1336 = .ok (.aload_n 2, 1) := by decide +kernel
theorem dL_law_1337 : decode cL_law 1337 = .ok (.aload_n 0, 1) := by decide +kernel
theorem dL_law_1338 : decode cL_law 1338 = .ok (.iload 4, 2) := by decide +kernel
theorem dL_law_1340 : decode cL_law 1340 = .ok (.iconst 1, 1) := by decide +kernel
theorem dL_law_1341 : decode cL_law 1341 = .ok (.iadd, 1) := by decide +kernel
theorem dL_law_1342 : decode cL_law 1342 = .ok (.iaload, 1) := by decide +kernel
theorem dL_law_1343 : decode cL_law 1343 = .ok (.invokevirtual 185, 3) := by decide +kernel
theorem dL_law_1346 : decode cL_law 1346 = .ok (.istore 6, 2) := by decide +kernel
theorem dL_law_1348 : decode cL_law 1348 = .ok (.aload_n 2, 1) := by decide +kernel
theorem dL_law_1349 : decode cL_law 1349 = .ok (.invokevirtual 110, 3) := by decide +kernel
theorem dL_law_1352 : decode cL_law 1352 = .ok (.iload 5, 2) := by decide +kernel
theorem dL_law_1354 : decode cL_law 1354 = .ok (.if_icmp .eq 5, 3) := by decide +kernel
theorem dL_law_1357 : decode cL_law 1357 = .ok (.iconst 0, 1) := by decide +kernel
theorem dL_law_1358 : decode cL_law 1358 = .ok (.ireturn, 1) := by decide +kernel
theorem dL_law_1359 : decode cL_law 1359 = .ok (.iload 5, 2) := by decide +kernel
theorem dL_law_1361 : decode cL_law 1361 = .ok (.ifCond .ne 15, 3) := by decide +kernel
theorem dL_law_1364 : decode cL_law 1364 = .ok (.aload_n 3, 1) := by decide +kernel
theorem dL_law_1365 : decode cL_law 1365 = .ok (.iconst 0, 1) := by decide +kernel
theorem dL_law_1366 : decode cL_law 1366 = .ok (.laload, 1) := by decide +kernel
theorem dL_law_1367 : decode cL_law 1367 = .ok (.iload 6, 2) := by decide +kernel
theorem dL_law_1369 : decode cL_law 1369 = .ok (.i2l, 1) := by decide +kernel
theorem dL_law_1370 : decode cL_law 1370 = .ok (.lcmp, 1) := by decide +kernel
theorem dL_law_1371 : decode cL_law 1371 = .ok (.ifCond .eq 5, 3) := by decide +kernel
theorem dL_law_1374 : decode cL_law 1374 = .ok (.iconst 0, 1) := by decide +kernel
theorem dL_law_1375 : decode cL_law 1375 = .ok (.ireturn, 1) := by decide +kernel
theorem dL_law_1376 : decode cL_law 1376 = .ok (.goto 788, 3) := by decide +kernel
theorem dL_law_1379 : decode cL_law 1379 = .ok (.aload_n 1, 1) := by decide +kernel
theorem dL_law_1380 : decode cL_law 1380 = .ok (.aload_n 0, 1) := by decide +kernel
theorem dL_law_1381 : decode cL_law 1381 = .ok (.iload 4, 2) := by decide +kernel
theorem dL_law_1383 : decode cL_law 1383 = .ok (.iconst 1, 1) := by decide +kernel
theorem dL_law_1384 : decode cL_law 1384 = .ok (.iadd, 1) := by decide +kernel
theorem dL_law_1385 : decode cL_law 1385 = .ok (.iaload, 1) := by decide +kernel
theorem dL_law_1386 : decode cL_law 1386 = .ok (.aload_n 0, 1) := by decide +kernel
theorem dL_law_1387 : decode cL_law 1387 = .ok (.iload 4, 2) := by decide +kernel
theorem dL_law_1389 : decode cL_law 1389 = .ok (.iconst 2, 1) := by decide +kernel
theorem dL_law_1390 : decode cL_law 1390 = .ok (.iadd, 1) := by decide +kernel
theorem dL_law_1391 : decode cL_law 1391 = .ok (.iaload, 1) := by decide +kernel
theorem dL_law_1392 : decode cL_law 1392 = .ok (.aload_n 0, 1) := by decide +kernel
theorem dL_law_1393 : decode cL_law 1393 = .ok (.iload 4, 2) := by decide +kernel
theorem dL_law_1395 : decode cL_law 1395 = .ok (.iconst 3, 1) := by decide +kernel
theorem dL_law_1396 : decode cL_law 1396 = .ok (.iadd, 1) := by decide +kernel
theorem dL_law_1397 : decode cL_law 1397 = .ok (.iaload, 1) := by decide +kernel
theorem dL_law_1398 : decode cL_law 1398 = .ok (.aload_n 3, 1) := by decide +kernel
theorem dL_law_1399 : decode cL_law 1399 = .ok (.invokestatic 186, 3) := by decide +kernel
theorem dL_law_1402 : decode cL_law 1402 = .ok (.istore 5, 2) := by decide +kernel
theorem dL_law_1404 : decode cL_law 1404 = .ok (.aload_n 2, 1) := by decide +kernel
theorem dL_law_1405 : decode cL_law 1405 = .ok (.aload_n 0, 1) := by decide +kernel
theorem dL_law_1406 : decode cL_law 1406 = .ok (.iload 4, 2) := by decide +kernel
theorem dL_law_1408 : decode cL_law 1408 = .ok (.iconst 1, 1) := by decide +kernel
theorem dL_law_1409 : decode cL_law 1409 = .ok (.iadd, 1) := by decide +kernel
theorem dL_law_1410 : decode cL_law 1410 = .ok (.iaload, 1) := by decide +kernel
theorem dL_law_1411 : decode cL_law 1411 = .ok (.aload_n 0, 1) := by decide +kernel
theorem dL_law_1412 : decode cL_law 1412 = .ok (.iload 4, 2) := by decide +kernel
theorem dL_law_1414 : decode cL_law 1414 = .ok (.iconst 2, 1) := by decide +kernel
theorem dL_law_1415 : decode cL_law 1415 = .ok (.iadd, 1) := by decide +kernel
theorem dL_law_1416 : decode cL_law 1416 = .ok (.iaload, 1) := by decide +kernel
theorem dL_law_1417 : decode cL_law 1417 = .ok (.aload_n 0, 1) := by decide +kernel
theorem dL_law_1418 : decode cL_law 1418 = .ok (.iload 4, 2) := by decide +kernel
theorem dL_law_1420 : decode cL_law 1420 = .ok (.iconst 3, 1) := by decide +kernel
theorem dL_law_1421 : decode cL_law 1421 = .ok (.iadd, 1) := by decide +kernel
theorem dL_law_1422 : decode cL_law 1422 = .ok (.iaload, 1) := by decide +kernel
theorem dL_law_1423 : decode cL_law 1423 = .ok (.invokevirtual 188, 3) := by decide +kernel
theorem dL_law_1426 : decode cL_law 1426 = .ok (.istore 6, 2) := by decide +kernel
theorem dL_law_1428 : decode cL_law 1428 = .ok (.aload_n 2, 1) := by decide +kernel
theorem dL_law_1429 : decode cL_law 1429 = .ok (.invokevirtual 110, 3) := by decide +kernel
theorem dL_law_1432 : decode cL_law 1432 = .ok (.iload 5, 2) := by decide +kernel
theorem dL_law_1434 : decode cL_law 1434 = .ok (.if_icmp .eq 5, 3) := by decide +kernel
theorem dL_law_1437 : decode cL_law 1437 = .ok (.iconst 0, 1) := by decide +kernel
theorem dL_law_1438 : decode cL_law 1438 = .ok (.ireturn, 1) := by decide +kernel
theorem dL_law_1439 : decode cL_law 1439 = .ok (.iload 5, 2) := by decide +kernel
theorem dL_law_1441 : decode cL_law 1441 = .ok (.ifCond .ne 15, 3) := by decide +kernel
theorem dL_law_1444 : decode cL_law 1444 = .ok (.aload_n 3, 1) := by decide +kernel
theorem dL_law_1445 : decode cL_law 1445 = .ok (.iconst 0, 1) := by decide +kernel
theorem dL_law_1446 : decode cL_law 1446 = .ok (.laload, 1) := by decide +kernel
theorem dL_law_1447 : decode cL_law 1447 = .ok (.iload 6, 2) := by decide +kernel
theorem dL_law_1449 : decode cL_law 1449 = .ok (.i2l, 1) := by decide +kernel
theorem dL_law_1450 : decode cL_law 1450 = .ok (.lcmp, 1) := by decide +kernel
theorem dL_law_1451 : decode cL_law 1451 = .ok (.ifCond .eq 5, 3) := by decide +kernel
theorem dL_law_1454 : decode cL_law 1454 = .ok (.iconst 0, 1) := by decide +kernel
theorem dL_law_1455 : decode cL_law 1455 = .ok (.ireturn, 1) := by decide +kernel
theorem dL_law_1456 : decode cL_law 1456 = .ok (.goto 708, 3) := by decide +kernel
theorem dL_law_1459 : decode cL_law 1459 = .ok (.aload_n 1, 1) := by decide +kernel
theorem dL_law_1460 : decode cL_law 1460 = .ok (.aload_n 0, 1) := by decide +kernel
theorem dL_law_1461 : decode cL_law 1461 = .ok (.iload 4, 2) := by decide +kernel
theorem dL_law_1463 : decode cL_law 1463 = .ok (.iconst 1, 1) := by decide +kernel
theorem dL_law_1464 : decode cL_law 1464 = .ok (.iadd, 1) := by decide +kernel
theorem dL_law_1465 : decode cL_law 1465 = .ok (.iaload, 1) := by decide +kernel
theorem dL_law_1466 : decode cL_law 1466 = .ok (.aload_n 0, 1) := by decide +kernel
theorem dL_law_1467 : decode cL_law 1467 = .ok (.iload 4, 2) := by decide +kernel
theorem dL_law_1469 : decode cL_law 1469 = .ok (.iconst 2, 1) := by decide +kernel
theorem dL_law_1470 : decode cL_law 1470 = .ok (.iadd, 1) := by decide +kernel
theorem dL_law_1471 : decode cL_law 1471 = .ok (.iaload, 1) := by decide +kernel
theorem dL_law_1472 : decode cL_law 1472 = .ok (.aload_n 3, 1) := by decide +kernel
theorem dL_law_1473 : decode cL_law 1473 = .ok (.invokestatic 189, 3) := by decide +kernel
theorem dL_law_1476 : decode cL_law 1476 = .ok (.istore 5, 2) := by decide +kernel
theorem dL_law_1478 : decode cL_law 1478 = .ok (.aload_n 2, 1) := by decide +kernel
theorem dL_law_1479 : decode cL_law 1479 = .ok (.aload_n 0, 1) := by decide +kernel
theorem dL_law_1480 : decode cL_law 1480 = .ok (.iload 4, 2) := by decide +kernel
theorem dL_law_1482 : decode cL_law 1482 = .ok (.iconst 1, 1) := by decide +kernel
theorem dL_law_1483 : decode cL_law 1483 = .ok (.iadd, 1) := by decide +kernel
theorem dL_law_1484 : decode cL_law 1484 = .ok (.iaload, 1) := by decide +kernel
theorem dL_law_1485 : decode cL_law 1485 = .ok (.aload_n 0, 1) := by decide +kernel
theorem dL_law_1486 : decode cL_law 1486 = .ok (.iload 4, 2) := by decide +kernel
theorem dL_law_1488 : decode cL_law 1488 = .ok (.iconst 2, 1) := by decide +kernel
theorem dL_law_1489 : decode cL_law 1489 = .ok (.iadd, 1) := by decide +kernel
theorem dL_law_1490 : decode cL_law 1490 = .ok (.iaload, 1) := by decide +kernel
theorem dL_law_1491 : decode cL_law 1491 = .ok (.invokevirtual 191, 3) := by decide +kernel
theorem dL_law_1494 : decode cL_law 1494 = .ok (.istore 6, 2) := by decide +kernel
theorem dL_law_1496 : decode cL_law 1496 = .ok (.aload_n 2, 1) := by decide +kernel
theorem dL_law_1497 : decode cL_law 1497 = .ok (.invokevirtual 110, 3) := by decide +kernel
theorem dL_law_1500 : decode cL_law 1500 = .ok (.iload 5, 2) := by decide +kernel
theorem dL_law_1502 : decode cL_law 1502 = .ok (.if_icmp .eq 5, 3) := by decide +kernel
theorem dL_law_1505 : decode cL_law 1505 = .ok (.iconst 0, 1) := by decide +kernel
theorem dL_law_1506 : decode cL_law 1506 = .ok (.ireturn, 1) := by decide +kernel
theorem dL_law_1507 : decode cL_law 1507 = .ok (.iload 5, 2) := by decide +kernel
theorem dL_law_1509 : decode cL_law 1509 = .ok (.ifCond .ne 15, 3) := by decide +kernel
theorem dL_law_1512 : decode cL_law 1512 = .ok (.aload_n 3, 1) := by decide +kernel
theorem dL_law_1513 : decode cL_law 1513 = .ok (.iconst 0, 1) := by decide +kernel
theorem dL_law_1514 : decode cL_law 1514 = .ok (.laload, 1) := by decide +kernel
theorem dL_law_1515 : decode cL_law 1515 = .ok (.iload 6, 2) := by decide +kernel
theorem dL_law_1517 : decode cL_law 1517 = .ok (.i2l, 1) := by decide +kernel
theorem dL_law_1518 : decode cL_law 1518 = .ok (.lcmp, 1) := by decide +kernel
theorem dL_law_1519 : decode cL_law 1519 = .ok (.ifCond .eq 5, 3) := by decide +kernel
theorem dL_law_1522 : decode cL_law 1522 = .ok (.iconst 0, 1) := by decide +kernel
theorem dL_law_1523 : decode cL_law 1523 = .ok (.ireturn, 1) := by decide +kernel
theorem dL_law_1524 : decode cL_law 1524 = .ok (.goto 640, 3) := by decide +kernel
theorem dL_law_1527 : decode cL_law 1527 = .ok (.aload_n 1, 1) := by decide +kernel
theorem dL_law_1528 : decode cL_law 1528 = .ok (.aload_n 0, 1) := by decide +kernel
theorem dL_law_1529 : decode cL_law 1529 = .ok (.iload 4, 2) := by decide +kernel
theorem dL_law_1531 : decode cL_law 1531 = .ok (.iconst 1, 1) := by decide +kernel
theorem dL_law_1532 : decode cL_law 1532 = .ok (.iadd, 1) := by decide +kernel
theorem dL_law_1533 : decode cL_law 1533 = .ok (.iaload, 1) := by decide +kernel
theorem dL_law_1534 : decode cL_law 1534 = .ok (.aload_n 3, 1) := by decide +kernel
theorem dL_law_1535 : decode cL_law 1535 = .ok (.invokestatic 192, 3) := by decide +kernel
theorem dL_law_1538 : decode cL_law 1538 = .ok (.istore 5, 2) := by decide +kernel
theorem dL_law_1540 : decode cL_law 1540 = .ok (.aload_n 2, 1) := by decide +kernel
theorem dL_law_1541 : decode cL_law 1541 = .ok (.aload_n 0, 1) := by decide +kernel
theorem dL_law_1542 : decode cL_law 1542 = .ok (.iload 4, 2) := by decide +kernel
theorem dL_law_1544 : decode cL_law 1544 = .ok (.iconst 1, 1) := by decide +kernel
theorem dL_law_1545 : decode cL_law 1545 = .ok (.iadd, 1) := by decide +kernel
theorem dL_law_1546 : decode cL_law 1546 = .ok (.iaload, 1) := by decide +kernel
theorem dL_law_1547 : decode cL_law 1547 = .ok (.invokevirtual 194, 3) := by decide +kernel
theorem dL_law_1550 : decode cL_law 1550 = .ok (.istore 6, 2) := by decide +kernel
theorem dL_law_1552 : decode cL_law 1552 = .ok (.aload_n 2, 1) := by decide +kernel
theorem dL_law_1553 : decode cL_law 1553 = .ok (.invokevirtual 110, 3) := by decide +kernel
theorem dL_law_1556 : decode cL_law 1556 = .ok (.iload 5, 2) := by decide +kernel
theorem dL_law_1558 : decode cL_law 1558 = .ok (.if_icmp .eq 5, 3) := by decide +kernel
theorem dL_law_1561 : decode cL_law 1561 = .ok (.iconst 0, 1) := by decide +kernel
theorem dL_law_1562 : decode cL_law 1562 = .ok (.ireturn, 1) := by decide +kernel
theorem dL_law_1563 : decode cL_law 1563 = .ok (.iload 5, 2) := by decide +kernel
theorem dL_law_1565 : decode cL_law 1565 = .ok (.ifCond .ne 15, 3) := by decide +kernel
theorem dL_law_1568 : decode cL_law 1568 = .ok (.aload_n 3, 1) := by decide +kernel
theorem dL_law_1569 : decode cL_law 1569 = .ok (.iconst 0, 1) := by decide +kernel
theorem dL_law_1570 : decode cL_law 1570 = .ok (.laload, 1) := by decide +kernel
theorem dL_law_1571 : decode cL_law 1571 = .ok (.iload 6, 2) := by decide +kernel
theorem dL_law_1573 : decode cL_law 1573 = .ok (.i2l, 1) := by decide +kernel
theorem dL_law_1574 : decode cL_law 1574 = .ok (.lcmp, 1) := by decide +kernel
theorem dL_law_1575 : decode cL_law 1575 = .ok (.ifCond .eq 5, 3) := by decide +kernel
theorem dL_law_1578 : decode cL_law 1578 = .ok (.iconst 0, 1) := by decide +kernel
theorem dL_law_1579 : decode cL_law 1579 = .ok (.ireturn, 1) := by decide +kernel
theorem dL_law_1580 : decode cL_law 1580 = .ok (.goto 584, 3) := by decide +kernel
theorem dL_law_1583 : decode cL_law 1583 = .ok (.aload_n 1, 1) := by decide +kernel
theorem dL_law_1584 : decode cL_law 1584 = .ok (.aload_n 0, 1) := by decide +kernel
theorem dL_law_1585 : decode cL_law 1585 = .ok (.iload 4, 2) := by decide +kernel
theorem dL_law_1587 : decode cL_law 1587 = .ok (.iconst 1, 1) := by decide +kernel
theorem dL_law_1588 : decode cL_law 1588 = .ok (.iadd, 1) := by decide +kernel
theorem dL_law_1589 : decode cL_law 1589 = .ok (.iaload, 1) := by decide +kernel
theorem dL_law_1590 : decode cL_law 1590 = .ok (.aload_n 0, 1) := by decide +kernel
theorem dL_law_1591 : decode cL_law 1591 = .ok (.iload 4, 2) := by decide +kernel
theorem dL_law_1593 : decode cL_law 1593 = .ok (.iconst 2, 1) := by decide +kernel
theorem dL_law_1594 : decode cL_law 1594 = .ok (.iadd, 1) := by decide +kernel
theorem dL_law_1595 : decode cL_law 1595 = .ok (.iaload, 1) := by decide +kernel
theorem dL_law_1596 : decode cL_law 1596 = .ok (.invokevirtual 195, 3) := by decide +kernel
theorem dL_law_1599 : decode cL_law 1599 = .ok (.aload_n 2, 1) := by decide +kernel
theorem dL_law_1600 : decode cL_law 1600 = .ok (.aload_n 0, 1) := by decide +kernel
theorem dL_law_1601 : decode cL_law 1601 = .ok (.iload 4, 2) := by decide +kernel
theorem dL_law_1603 : decode cL_law 1603 = .ok (.iconst 1, 1) := by decide +kernel
theorem dL_law_1604 : decode cL_law 1604 = .ok (.iadd, 1) := by decide +kernel
theorem dL_law_1605 : decode cL_law 1605 = .ok (.iaload, 1) := by decide +kernel
theorem dL_law_1606 : decode cL_law 1606 = .ok (.aload_n 0, 1) := by decide +kernel
theorem dL_law_1607 : decode cL_law 1607 = .ok (.iload 4, 2) := by decide +kernel
theorem dL_law_1609 : decode cL_law 1609 = .ok (.iconst 2, 1) := by decide +kernel
theorem dL_law_1610 : decode cL_law 1610 = .ok (.iadd, 1) := by decide +kernel
theorem dL_law_1611 : decode cL_law 1611 = .ok (.iaload, 1) := by decide +kernel
theorem dL_law_1612 : decode cL_law 1612 = .ok (.invokevirtual 198, 3) := by decide +kernel
theorem dL_law_1615 : decode cL_law 1615 = .ok (.if_icmp .eq 549, 3) := by decide +kernel
theorem dL_law_1618 : decode cL_law 1618 = .ok (.iconst 0, 1) := by decide +kernel
theorem dL_law_1619 : decode cL_law 1619 = .ok (.ireturn, 1) := by decide +kernel
theorem dL_law_1620 : decode cL_law 1620 = .ok (.aload_n 1, 1) := by decide +kernel
theorem dL_law_1621 : decode cL_law 1621 = .ok (.invokevirtual 199, 3) := by decide +kernel
theorem dL_law_1624 : decode cL_law 1624 = .ok (.aload_n 2, 1) := by decide +kernel
theorem dL_law_1625 : decode cL_law 1625 = .ok (.invokevirtual 202, 3) := by decide +kernel
theorem dL_law_1628 : decode cL_law 1628 = .ok (.goto 536, 3) := by decide +kernel
theorem dL_law_1631 : decode cL_law 1631 = .ok (.aload_n 1, 1) := by decide +kernel
theorem dL_law_1632 : decode cL_law 1632 = .ok (.aload_n 0, 1) := by decide +kernel
theorem dL_law_1633 : decode cL_law 1633 = .ok (.iload 4, 2) := by decide +kernel
theorem dL_law_1635 : decode cL_law 1635 = .ok (.iconst 1, 1) := by decide +kernel
theorem dL_law_1636 : decode cL_law 1636 = .ok (.iadd, 1) := by decide +kernel
theorem dL_law_1637 : decode cL_law 1637 = .ok (.iaload, 1) := by decide +kernel
theorem dL_law_1638 : decode cL_law 1638 = .ok (.aload_n 3, 1) := by decide +kernel
theorem dL_law_1639 : decode cL_law 1639 = .ok (.invokestatic 203, 3) := by decide +kernel
theorem dL_law_1642 : decode cL_law 1642 = .ok (.istore 5, 2) := by decide +kernel
theorem dL_law_1644 : decode cL_law 1644 = .ok (.aload_n 2, 1) := by decide +kernel
theorem dL_law_1645 : decode cL_law 1645 = .ok (.aload_n 0, 1) := by decide +kernel
theorem dL_law_1646 : decode cL_law 1646 = .ok (.iload 4, 2) := by decide +kernel
theorem dL_law_1648 : decode cL_law 1648 = .ok (.iconst 1, 1) := by decide +kernel
theorem dL_law_1649 : decode cL_law 1649 = .ok (.iadd, 1) := by decide +kernel
theorem dL_law_1650 : decode cL_law 1650 = .ok (.iaload, 1) := by decide +kernel
theorem dL_law_1651 : decode cL_law 1651 = .ok (.invokevirtual 205, 3) := by decide +kernel
theorem dL_law_1654 : decode cL_law 1654 = .ok (.istore 6, 2) := by decide +kernel
theorem dL_law_1656 : decode cL_law 1656 = .ok (.aload_n 2, 1) := by decide +kernel
theorem dL_law_1657 : decode cL_law 1657 = .ok (.invokevirtual 110, 3) := by decide +kernel
theorem dL_law_1660 : decode cL_law 1660 = .ok (.iload 5, 2) := by decide +kernel
theorem dL_law_1662 : decode cL_law 1662 = .ok (.if_icmp .eq 5, 3) := by decide +kernel
theorem dL_law_1665 : decode cL_law 1665 = .ok (.iconst 0, 1) := by decide +kernel
theorem dL_law_1666 : decode cL_law 1666 = .ok (.ireturn, 1) := by decide +kernel
theorem dL_law_1667 : decode cL_law 1667 = .ok (.iload 5, 2) := by decide +kernel
theorem dL_law_1669 : decode cL_law 1669 = .ok (.ifCond .ne 15, 3) := by decide +kernel
theorem dL_law_1672 : decode cL_law 1672 = .ok (.aload_n 3, 1) := by decide +kernel
theorem dL_law_1673 : decode cL_law 1673 = .ok (.iconst 0, 1) := by decide +kernel
theorem dL_law_1674 : decode cL_law 1674 = .ok (.laload, 1) := by decide +kernel
theorem dL_law_1675 : decode cL_law 1675 = .ok (.iload 6, 2) := by decide +kernel
theorem dL_law_1677 : decode cL_law 1677 = .ok (.i2l, 1) := by decide +kernel
theorem dL_law_1678 : decode cL_law 1678 = .ok (.lcmp, 1) := by decide +kernel
theorem dL_law_1679 : decode cL_law 1679 = .ok (.ifCond .eq 5, 3) := by decide +kernel
theorem dL_law_1682 : decode cL_law 1682 = .ok (.iconst 0, 1) := by decide +kernel
theorem dL_law_1683 : decode cL_law 1683 = .ok (.ireturn, 1) := by decide +kernel
theorem dL_law_1684 : decode cL_law 1684 = .ok (.goto 480, 3) := by decide +kernel
theorem dL_law_1687 : decode cL_law 1687 = .ok (.aload_n 1, 1) := by decide +kernel
theorem dL_law_1688 : decode cL_law 1688 = .ok (.aload_n 0, 1) := by decide +kernel
theorem dL_law_1689 : decode cL_law 1689 = .ok (.iload 4, 2) := by decide +kernel
theorem dL_law_1691 : decode cL_law 1691 = .ok (.iconst 1, 1) := by decide +kernel
theorem dL_law_1692 : decode cL_law 1692 = .ok (.iadd, 1) := by decide +kernel
theorem dL_law_1693 : decode cL_law 1693 = .ok (.iaload, 1) := by decide +kernel
theorem dL_law_1694 : decode cL_law 1694 = .ok (.aload_n 3, 1) := by decide +kernel
theorem dL_law_1695 : decode cL_law 1695 = .ok (.invokestatic 206, 3) := by decide +kernel
theorem dL_law_1698 : decode cL_law 1698 = .ok (.istore 5, 2) := by decide +kernel
theorem dL_law_1700 : decode cL_law 1700 = .ok (.aload_n 2, 1) := by decide +kernel
theorem dL_law_1701 : decode cL_law 1701 = .ok (.aload_n 0, 1) := by decide +kernel
theorem dL_law_1702 : decode cL_law 1702 = .ok (.iload 4, 2) := by decide +kernel
theorem dL_law_1704 : decode cL_law 1704 = .ok (.iconst 1, 1) := by decide +kernel
theorem dL_law_1705 : decode cL_law 1705 = .ok (.iadd, 1) := by decide +kernel
theorem dL_law_1706 : decode cL_law 1706 = .ok (.iaload, 1) := by decide +kernel
theorem dL_law_1707 : decode cL_law 1707 = .ok (.invokevirtual 208, 3) := by decide +kernel
theorem dL_law_1710 : decode cL_law 1710 = .ok (.istore 6, 2) := by decide +kernel
theorem dL_law_1712 : decode cL_law 1712 = .ok (.aload_n 2, 1) := by decide +kernel
theorem dL_law_1713 : decode cL_law 1713 = .ok (.invokevirtual 110, 3) := by decide +kernel
theorem dL_law_1716 : decode cL_law 1716 = .ok (.iload 5, 2) := by decide +kernel
theorem dL_law_1718 : decode cL_law 1718 = .ok (.if_icmp .eq 5, 3) := by decide +kernel
theorem dL_law_1721 : decode cL_law 1721 = .ok (.iconst 0, 1) := by decide +kernel
theorem dL_law_1722 : decode cL_law 1722 = .ok (.ireturn, 1) := by decide +kernel
theorem dL_law_1723 : decode cL_law 1723 = .ok (.iload 5, 2) := by decide +kernel
theorem dL_law_1725 : decode cL_law 1725 = .ok (.ifCond .ne 15, 3) := by decide +kernel
theorem dL_law_1728 : decode cL_law 1728 = .ok (.aload_n 3, 1) := by decide +kernel
theorem dL_law_1729 : decode cL_law 1729 = .ok (.iconst 0, 1) := by decide +kernel
theorem dL_law_1730 : decode cL_law 1730 = .ok (.laload, 1) := by decide +kernel
theorem dL_law_1731 : decode cL_law 1731 = .ok (.iload 6, 2) := by decide +kernel
theorem dL_law_1733 : decode cL_law 1733 = .ok (.i2l, 1) := by decide +kernel
theorem dL_law_1734 : decode cL_law 1734 = .ok (.lcmp, 1) := by decide +kernel
theorem dL_law_1735 : decode cL_law 1735 = .ok (.ifCond .eq 5, 3) := by decide +kernel
theorem dL_law_1738 : decode cL_law 1738 = .ok (.iconst 0, 1) := by decide +kernel
theorem dL_law_1739 : decode cL_law 1739 = .ok (.ireturn, 1) := by decide +kernel
theorem dL_law_1740 : decode cL_law 1740 = .ok (.goto 424, 3) := by decide +kernel
theorem dL_law_1743 : decode cL_law 1743 = .ok (.aload_n 1, 1) := by decide +kernel
theorem dL_law_1744 : decode cL_law 1744 = .ok (.aload_n 0, 1) := by decide +kernel
theorem dL_law_1745 : decode cL_law 1745 = .ok (.iload 4, 2) := by decide +kernel
theorem dL_law_1747 : decode cL_law 1747 = .ok (.iconst 1, 1) := by decide +kernel
theorem dL_law_1748 : decode cL_law 1748 = .ok (.iadd, 1) := by decide +kernel
theorem dL_law_1749 : decode cL_law 1749 = .ok (.iaload, 1) := by decide +kernel
theorem dL_law_1750 : decode cL_law 1750 = .ok (.aload_n 0, 1) := by decide +kernel
theorem dL_law_1751 : decode cL_law 1751 = .ok (.iload 4, 2) := by decide +kernel
theorem dL_law_1753 : decode cL_law 1753 = .ok (.iconst 2, 1) := by decide +kernel
theorem dL_law_1754 : decode cL_law 1754 = .ok (.iadd, 1) := by decide +kernel
theorem dL_law_1755 : decode cL_law 1755 = .ok (.iaload, 1) := by decide +kernel
theorem dL_law_1756 : decode cL_law 1756 = .ok (.aload_n 0, 1) := by decide +kernel
theorem dL_law_1757 : decode cL_law 1757 = .ok (.iload 4, 2) := by decide +kernel
theorem dL_law_1759 : decode cL_law 1759 = .ok (.iconst 3, 1) := by decide +kernel
theorem dL_law_1760 : decode cL_law 1760 = .ok (.iadd, 1) := by decide +kernel
theorem dL_law_1761 : decode cL_law 1761 = .ok (.iaload, 1) := by decide +kernel
theorem dL_law_1762 : decode cL_law 1762 = .ok (.aload_n 3, 1) := by decide +kernel
theorem dL_law_1763 : decode cL_law 1763 = .ok (.invokestatic 209, 3) := by decide +kernel
theorem dL_law_1766 : decode cL_law 1766 = .ok (.istore 5, 2) := by decide +kernel
theorem dL_law_1768 : decode cL_law 1768 = .ok (.aload_n 2, 1) := by decide +kernel
theorem dL_law_1769 : decode cL_law 1769 = .ok (.aload_n 0, 1) := by decide +kernel
theorem dL_law_1770 : decode cL_law 1770 = .ok (.iload 4, 2) := by decide +kernel
theorem dL_law_1772 : decode cL_law 1772 = .ok (.iconst 1, 1) := by decide +kernel
theorem dL_law_1773 : decode cL_law 1773 = .ok (.iadd, 1) := by decide +kernel
theorem dL_law_1774 : decode cL_law 1774 = .ok (.iaload, 1) := by decide +kernel
theorem dL_law_1775 : decode cL_law 1775 = .ok (.aload_n 0, 1) := by decide +kernel
theorem dL_law_1776 : decode cL_law 1776 = .ok (.iload 4, 2) := by decide +kernel
theorem dL_law_1778 : decode cL_law 1778 = .ok (.iconst 2, 1) := by decide +kernel
theorem dL_law_1779 : decode cL_law 1779 = .ok (.iadd, 1) := by decide +kernel
theorem dL_law_1780 : decode cL_law 1780 = .ok (.iaload, 1) := by decide +kernel
theorem dL_law_1781 : decode cL_law 1781 = .ok (.aload_n 0, 1) := by decide +kernel
theorem dL_law_1782 : decode cL_law 1782 = .ok (.iload 4, 2) := by decide +kernel
theorem dL_law_1784 : decode cL_law 1784 = .ok (.iconst 3, 1) := by decide +kernel
theorem dL_law_1785 : decode cL_law 1785 = .ok (.iadd, 1) := by decide +kernel
theorem dL_law_1786 : decode cL_law 1786 = .ok (.iaload, 1) := by decide +kernel
theorem dL_law_1787 : decode cL_law 1787 = .ok (.invokevirtual 211, 3) := by decide +kernel
theorem dL_law_1790 : decode cL_law 1790 = .ok (.istore 6, 2) := by decide +kernel
theorem dL_law_1792 : decode cL_law 1792 = .ok (.aload_n 2, 1) := by decide +kernel
theorem dL_law_1793 : decode cL_law 1793 = .ok (.invokevirtual 110, 3) := by decide +kernel
theorem dL_law_1796 : decode cL_law 1796 = .ok (.iload 5, 2) := by decide +kernel
theorem dL_law_1798 : decode cL_law 1798 = .ok (.if_icmp .eq 5, 3) := by decide +kernel
theorem dL_law_1801 : decode cL_law 1801 = .ok (.iconst 0, 1) := by decide +kernel
theorem dL_law_1802 : decode cL_law 1802 = .ok (.ireturn, 1) := by decide +kernel
theorem dL_law_1803 : decode cL_law 1803 = .ok (.iload 5, 2) := by decide +kernel
theorem dL_law_1805 : decode cL_law 1805 = .ok (.ifCond .ne 15, 3) := by decide +kernel
theorem dL_law_1808 : decode cL_law 1808 = .ok (.aload_n 3, 1) := by decide +kernel
theorem dL_law_1809 : decode cL_law 1809 = .ok (.iconst 0, 1) := by decide +kernel
theorem dL_law_1810 : decode cL_law 1810 = .ok (.laload, 1) := by decide +kernel
theorem dL_law_1811 : decode cL_law 1811 = .ok (.iload 6, 2) := by decide +kernel
theorem dL_law_1813 : decode cL_law 1813 = .ok (.i2l, 1) := by decide +kernel
theorem dL_law_1814 : decode cL_law 1814 = .ok (.lcmp, 1) := by decide +kernel
theorem dL_law_1815 : decode cL_law 1815 = .ok (.ifCond .eq 5, 3) := by decide +kernel
theorem dL_law_1818 : decode cL_law 1818 = .ok (.iconst 0, 1) := by decide +kernel
theorem dL_law_1819 : decode cL_law 1819 = .ok (.ireturn, 1) := by decide +kernel
theorem dL_law_1820 : decode cL_law 1820 = .ok (.goto 344, 3) := by decide +kernel
theorem dL_law_1823 : decode cL_law 1823 = .ok (.aload_n 1, 1) := by decide +kernel
theorem dL_law_1824 : decode cL_law 1824 = .ok (.aload_n 0, 1) := by decide +kernel
theorem dL_law_1825 : decode cL_law 1825 = .ok (.iload 4, 2) := by decide +kernel
theorem dL_law_1827 : decode cL_law 1827 = .ok (.iconst 1, 1) := by decide +kernel
theorem dL_law_1828 : decode cL_law 1828 = .ok (.iadd, 1) := by decide +kernel
theorem dL_law_1829 : decode cL_law 1829 = .ok (.iaload, 1) := by decide +kernel
theorem dL_law_1830 : decode cL_law 1830 = .ok (.aload_n 0, 1) := by decide +kernel
theorem dL_law_1831 : decode cL_law 1831 = .ok (.iload 4, 2) := by decide +kernel
theorem dL_law_1833 : decode cL_law 1833 = .ok (.iconst 2, 1) := by decide +kernel
theorem dL_law_1834 : decode cL_law 1834 = .ok (.iadd, 1) := by decide +kernel
theorem dL_law_1835 : decode cL_law 1835 = .ok (.iaload, 1) := by decide +kernel
theorem dL_law_1836 : decode cL_law 1836 = .ok (.aload_n 0, 1) := by decide +kernel
theorem dL_law_1837 : decode cL_law 1837 = .ok (.iload 4, 2) := by decide +kernel
theorem dL_law_1839 : decode cL_law 1839 = .ok (.iconst 3, 1) := by decide +kernel
theorem dL_law_1840 : decode cL_law 1840 = .ok (.iadd, 1) := by decide +kernel
theorem dL_law_1841 : decode cL_law 1841 = .ok (.iaload, 1) := by decide +kernel
theorem dL_law_1842 : decode cL_law 1842 = .ok (.aload_n 3, 1) := by decide +kernel
theorem dL_law_1843 : decode cL_law 1843 = .ok (.invokestatic 212, 3) := by decide +kernel
theorem dL_law_1846 : decode cL_law 1846 = .ok (.istore 5, 2) := by decide +kernel
theorem dL_law_1848 : decode cL_law 1848 = .ok (.aload_n 2, 1) := by decide +kernel
theorem dL_law_1849 : decode cL_law 1849 = .ok (.aload_n 0, 1) := by decide +kernel
theorem dL_law_1850 : decode cL_law 1850 = .ok (.iload 4, 2) := by decide +kernel
theorem dL_law_1852 : decode cL_law 1852 = .ok (.iconst 1, 1) := by decide +kernel
theorem dL_law_1853 : decode cL_law 1853 = .ok (.iadd, 1) := by decide +kernel
theorem dL_law_1854 : decode cL_law 1854 = .ok (.iaload, 1) := by decide +kernel
theorem dL_law_1855 : decode cL_law 1855 = .ok (.aload_n 0, 1) := by decide +kernel
theorem dL_law_1856 : decode cL_law 1856 = .ok (.iload 4, 2) := by decide +kernel
theorem dL_law_1858 : decode cL_law 1858 = .ok (.iconst 2, 1) := by decide +kernel
theorem dL_law_1859 : decode cL_law 1859 = .ok (.iadd, 1) := by decide +kernel
theorem dL_law_1860 : decode cL_law 1860 = .ok (.iaload, 1) := by decide +kernel
theorem dL_law_1861 : decode cL_law 1861 = .ok (.aload_n 0, 1) := by decide +kernel
theorem dL_law_1862 : decode cL_law 1862 = .ok (.iload 4, 2) := by decide +kernel
theorem dL_law_1864 : decode cL_law 1864 = .ok (.iconst 3, 1) := by decide +kernel
theorem dL_law_1865 : decode cL_law 1865 = .ok (.iadd, 1) := by decide +kernel
theorem dL_law_1866 : decode cL_law 1866 = .ok (.iaload, 1) := by decide +kernel
theorem dL_law_1867 : decode cL_law 1867 = .ok (.invokevirtual 214, 3) := by decide +kernel
theorem dL_law_1870 : decode cL_law 1870 = .ok (.istore 6, 2) := by decide +kernel
theorem dL_law_1872 : decode cL_law 1872 = .ok (.aload_n 2, 1) := by decide +kernel
theorem dL_law_1873 : decode cL_law 1873 = .ok (.invokevirtual 110, 3) := by decide +kernel
theorem dL_law_1876 : decode cL_law 1876 = .ok (.iload 5, 2) := by decide +kernel
theorem dL_law_1878 : decode cL_law 1878 = .ok (.if_icmp .eq 5, 3) := by decide +kernel
theorem dL_law_1881 : decode cL_law 1881 = .ok (.iconst 0, 1) := by decide +kernel
theorem dL_law_1882 : decode cL_law 1882 = .ok (.ireturn, 1) := by decide +kernel
theorem dL_law_1883 : decode cL_law 1883 = .ok (.iload 5, 2) := by decide +kernel
theorem dL_law_1885 : decode cL_law 1885 = .ok (.ifCond .ne 15, 3) := by decide +kernel
theorem dL_law_1888 : decode cL_law 1888 = .ok (.aload_n 3, 1) := by decide +kernel
theorem dL_law_1889 : decode cL_law 1889 = .ok (.iconst 0, 1) := by decide +kernel
theorem dL_law_1890 : decode cL_law 1890 = .ok (.laload, 1) := by decide +kernel
theorem dL_law_1891 : decode cL_law 1891 = .ok (.iload 6, 2) := by decide +kernel
theorem dL_law_1893 : decode cL_law 1893 = .ok (.i2l, 1) := by decide +kernel
theorem dL_law_1894 : decode cL_law 1894 = .ok (.lcmp, 1) := by decide +kernel
theorem dL_law_1895 : decode cL_law 1895 = .ok (.ifCond .eq 5, 3) := by decide +kernel
theorem dL_law_1898 : decode cL_law 1898 = .ok (.iconst 0, 1) := by decide +kernel
theorem dL_law_1899 : decode cL_law 1899 = .ok (.ireturn, 1) := by decide +kernel
theorem dL_law_1900 : decode cL_law 1900 = .ok (.goto 264, 3) := by decide +kernel
theorem dL_law_1903 : decode cL_law 1903 = .ok (.aload_n 1, 1) := by decide +kernel
theorem dL_law_1904 : decode cL_law 1904 = .ok (.invokevirtual 215, 3) := by decide +kernel
theorem dL_law_1907 : decode cL_law 1907 = .ok (.aload_n 2, 1) := by decide +kernel
theorem dL_law_1908 : decode cL_law 1908 = .ok (.invokevirtual 218, 3) := by decide +kernel
theorem dL_law_1911 : decode cL_law 1911 = .ok (.if_icmp .eq 253, 3) := by decide +kernel
theorem dL_law_1914 : decode cL_law 1914 = .ok (.iconst 0, 1) := by decide +kernel
theorem dL_law_1915 : decode cL_law 1915 = .ok (.ireturn, 1) := by decide +kernel
theorem dL_law_1916 : decode cL_law 1916 = .ok (.aload_n 1, 1) := by decide +kernel
theorem dL_law_1917 : decode cL_law 1917 = .ok (.aload_n 0, 1) := by decide +kernel
theorem dL_law_1918 : decode cL_law 1918 = .ok (.iload 4, 2) := by decide +kernel
theorem dL_law_1920 : decode cL_law 1920 = .ok (.iconst 1, 1) := by decide +kernel
theorem dL_law_1921 : decode cL_law 1921 = .ok (.iadd, 1) := by decide +kernel
theorem dL_law_1922 : decode cL_law 1922 = .ok (.iaload, 1) := by decide +kernel
theorem dL_law_1923 : decode cL_law 1923 = .ok (.aload_n 3, 1) := by decide +kernel
theorem dL_law_1924 : decode cL_law 1924 = .ok (.invokestatic 219, 3) := by decide +kernel
theorem dL_law_1927 : decode cL_law 1927 = .ok (.istore 5, 2) := by decide +kernel
theorem dL_law_1929 : decode cL_law 1929 = .ok (.aload_n 2, 1) := by decide +kernel
theorem dL_law_1930 : decode cL_law 1930 = .ok (.aload_n 0, 1) := by decide +kernel
theorem dL_law_1931 : decode cL_law 1931 = .ok (.iload 4, 2) := by decide +kernel
theorem dL_law_1933 : decode cL_law 1933 = .ok (.iconst 1, 1) := by decide +kernel
theorem dL_law_1934 : decode cL_law 1934 = .ok (.iadd, 1) := by decide +kernel
theorem dL_law_1935 : decode cL_law 1935 = .ok (.iaload, 1) := by decide +kernel
theorem dL_law_1936 : decode cL_law 1936 = .ok (.invokevirtual 221, 3) := by decide +kernel
theorem dL_law_1939 : decode cL_law 1939 = .ok (.istore 6, 2) := by decide +kernel
theorem dL_law_1941 : decode cL_law 1941 = .ok (.aload_n 2, 1) := by decide +kernel
theorem dL_law_1942 : decode cL_law 1942 = .ok (.invokevirtual 110, 3) := by decide +kernel
theorem dL_law_1945 : decode cL_law 1945 = .ok (.iload 5, 2) := by decide +kernel
theorem dL_law_1947 : decode cL_law 1947 = .ok (.if_icmp .eq 5, 3) := by decide +kernel
theorem dL_law_1950 : decode cL_law 1950 = .ok (.iconst 0, 1) := by decide +kernel
theorem dL_law_1951 : decode cL_law 1951 = .ok (.ireturn, 1) := by decide +kernel
theorem dL_law_1952 : decode cL_law 1952 = .ok (.iload 5, 2) := by decide +kernel
theorem dL_law_1954 : decode cL_law 1954 = .ok (.ifCond .ne 15, 3) := by decide +kernel
theorem dL_law_1957 : decode cL_law 1957 = .ok (.aload_n 3, 1) := by decide +kernel
theorem dL_law_1958 : decode cL_law 1958 = .ok (.iconst 0, 1) := by decide +kernel
theorem dL_law_1959 : decode cL_law 1959 = .ok (.laload, 1) := by decide +kernel
theorem dL_law_1960 : decode cL_law 1960 = .ok (.iload 6, 2) := by decide +kernel
theorem dL_law_1962 : decode cL_law 1962 = .ok (.i2l, 1) := by decide +kernel
theorem dL_law_1963 : decode cL_law 1963 = .ok (.lcmp, 1) := by decide +kernel
theorem dL_law_1964 : decode cL_law 1964 = .ok (.ifCond .eq 5, 3) := by decide +kernel
theorem dL_law_1967 : decode cL_law 1967 = .ok (.iconst 0, 1) := by decide +kernel
theorem dL_law_1968 : decode cL_law 1968 = .ok (.ireturn, 1) := by decide +kernel
theorem dL_law_1969 : decode cL_law 1969 = .ok (.goto 195, 3) := by decide +kernel
theorem dL_law_1972 : decode cL_law 1972 = .ok (.aload_n 1, 1) := by decide +kernel
theorem dL_law_1973 : decode cL_law 1973 = .ok (.aload_n 0, 1) := by decide +kernel
theorem dL_law_1974 : decode cL_law 1974 = .ok (.iload 4, 2) := by decide +kernel
theorem dL_law_1976 : decode cL_law 1976 = .ok (.iconst 1, 1) := by decide +kernel
theorem dL_law_1977 : decode cL_law 1977 = .ok (.iadd, 1) := by decide +kernel
theorem dL_law_1978 : decode cL_law 1978 = .ok (.iaload, 1) := by decide +kernel
theorem dL_law_1979 : decode cL_law 1979 = .ok (.aload_n 3, 1) := by decide +kernel
theorem dL_law_1980 : decode cL_law 1980 = .ok (.invokestatic 222, 3) := by decide +kernel
theorem dL_law_1983 : decode cL_law 1983 = .ok (.istore 5, 2) := by decide +kernel
theorem dL_law_1985 : decode cL_law 1985 = .ok (.aload_n 2, 1) := by decide +kernel
theorem dL_law_1986 : decode cL_law 1986 = .ok (.aload_n 0, 1) := by decide +kernel
theorem dL_law_1987 : decode cL_law 1987 = .ok (.iload 4, 2) := by decide +kernel
theorem dL_law_1989 : decode cL_law 1989 = .ok (.iconst 1, 1) := by decide +kernel
theorem dL_law_1990 : decode cL_law 1990 = .ok (.iadd, 1) := by decide +kernel
theorem dL_law_1991 : decode cL_law 1991 = .ok (.iaload, 1) := by decide +kernel
theorem dL_law_1992 : decode cL_law 1992 = .ok (.invokevirtual 224, 3) := by decide +kernel
theorem dL_law_1995 : decode cL_law 1995 = .ok (.istore 6, 2) := by decide +kernel
theorem dL_law_1997 : decode cL_law 1997 = .ok (.aload_n 2, 1) := by decide +kernel
theorem dL_law_1998 : decode cL_law 1998 = .ok (.invokevirtual 110, 3) := by decide +kernel
theorem dL_law_2001 : decode cL_law 2001 = .ok (.iload 5, 2) := by decide +kernel
theorem dL_law_2003 : decode cL_law 2003 = .ok (.if_icmp .eq 5, 3) := by decide +kernel
theorem dL_law_2006 : decode cL_law 2006 = .ok (.iconst 0, 1) := by decide +kernel
theorem dL_law_2007 : decode cL_law 2007 = .ok (.ireturn, 1) := by decide +kernel
theorem dL_law_2008 : decode cL_law 2008 = .ok (.iload 5, 2) := by decide +kernel
theorem dL_law_2010 : decode cL_law 2010 = .ok (.ifCond .ne 15, 3) := by decide +kernel
theorem dL_law_2013 : decode cL_law 2013 = .ok (.aload_n 3, 1) := by decide +kernel
theorem dL_law_2014 : decode cL_law 2014 = .ok (.iconst 0, 1) := by decide +kernel
theorem dL_law_2015 : decode cL_law 2015 = .ok (.laload, 1) := by decide +kernel
theorem dL_law_2016 : decode cL_law 2016 = .ok (.iload 6, 2) := by decide +kernel
theorem dL_law_2018 : decode cL_law 2018 = .ok (.i2l, 1) := by decide +kernel
theorem dL_law_2019 : decode cL_law 2019 = .ok (.lcmp, 1) := by decide +kernel
theorem dL_law_2020 : decode cL_law 2020 = .ok (.ifCond .eq 5, 3) := by decide +kernel
theorem dL_law_2023 : decode cL_law 2023 = .ok (.iconst 0, 1) := by decide +kernel
theorem dL_law_2024 : decode cL_law 2024 = .ok (.ireturn, 1) := by decide +kernel
theorem dL_law_2025 : decode cL_law 2025 = .ok (.goto 139, 3) := by decide +kernel
theorem dL_law_2028 : decode cL_law 2028 = .ok (.aload_n 1, 1) := by decide +kernel
theorem dL_law_2029 : decode cL_law 2029 = .ok (.aload_n 0, 1) := by decide +kernel
theorem dL_law_2030 : decode cL_law 2030 = .ok (.iload 4, 2) := by decide +kernel
theorem dL_law_2032 : decode cL_law 2032 = .ok (.iconst 1, 1) := by decide +kernel
theorem dL_law_2033 : decode cL_law 2033 = .ok (.iadd, 1) := by decide +kernel
theorem dL_law_2034 : decode cL_law 2034 = .ok (.iaload, 1) := by decide +kernel
theorem dL_law_2035 : decode cL_law 2035 = .ok (.aload_n 3, 1) := by decide +kernel
theorem dL_law_2036 : decode cL_law 2036 = .ok (.invokestatic 225, 3) := by decide +kernel
theorem dL_law_2039 : decode cL_law 2039 = .ok (.istore 5, 2) := by decide +kernel
theorem dL_law_2041 : decode cL_law 2041 = .ok (.aload_n 2, 1) := by decide +kernel
theorem dL_law_2042 : decode cL_law 2042 = .ok (.aload_n 0, 1) := by decide +kernel
theorem dL_law_2043 : decode cL_law 2043 = .ok (.iload 4, 2) := by decide +kernel
theorem dL_law_2045 : decode cL_law 2045 = .ok (.iconst 1, 1) := by decide +kernel
theorem dL_law_2046 : decode cL_law 2046 = .ok (.iadd, 1) := by decide +kernel
theorem dL_law_2047 : decode cL_law 2047 = .ok (.iaload, 1) := by decide +kernel
theorem dL_law_2048 : decode cL_law 2048 = .ok (.invokevirtual 227, 3) := by decide +kernel
theorem dL_law_2051 : decode cL_law 2051 = .ok (.istore 6, 2) := by decide +kernel
theorem dL_law_2053 : decode cL_law 2053 = .ok (.aload_n 2, 1) := by decide +kernel
theorem dL_law_2054 : decode cL_law 2054 = .ok (.invokevirtual 110, 3) := by decide +kernel
theorem dL_law_2057 : decode cL_law 2057 = .ok (.iload 5, 2) := by decide +kernel
theorem dL_law_2059 : decode cL_law 2059 = .ok (.if_icmp .eq 5, 3) := by decide +kernel
theorem dL_law_2062 : decode cL_law 2062 = .ok (.iconst 0, 1) := by decide +kernel
theorem dL_law_2063 : decode cL_law 2063 = .ok (.ireturn, 1) := by decide +kernel
theorem dL_law_2064 : decode cL_law 2064 = .ok (.iload 5, 2) := by decide +kernel
theorem dL_law_2066 : decode cL_law 2066 = .ok (.ifCond .ne 15, 3) := by decide +kernel
theorem dL_law_2069 : decode cL_law 2069 = .ok (.aload_n 3, 1) := by decide +kernel
theorem dL_law_2070 : decode cL_law 2070 = .ok (.iconst 0, 1) := by decide +kernel
theorem dL_law_2071 : decode cL_law 2071 = .ok (.laload, 1) := by decide +kernel
theorem dL_law_2072 : decode cL_law 2072 = .ok (.iload 6, 2) := by decide +kernel
theorem dL_law_2074 : decode cL_law 2074 = .ok (.i2l, 1) := by decide +kernel
theorem dL_law_2075 : decode cL_law 2075 = .ok (.lcmp, 1) := by decide +kernel
theorem dL_law_2076 : decode cL_law 2076 = .ok (.ifCond .eq 5, 3) := by decide +kernel
theorem dL_law_2079 : decode cL_law 2079 = .ok (.iconst 0, 1) := by decide +kernel
theorem dL_law_2080 : decode cL_law 2080 = .ok (.ireturn, 1) := by decide +kernel
theorem dL_law_2081 : decode cL_law 2081 = .ok (.goto 83, 3) := by decide +kernel
theorem dL_law_2084 : decode cL_law 2084 = .ok (.aload_n 1, 1) := by decide +kernel
theorem dL_law_2085 : decode cL_law 2085 = .ok (.aload_n 0, 1) := by decide +kernel
theorem dL_law_2086 : decode cL_law 2086 = .ok (.iload 4, 2) := by decide +kernel
theorem dL_law_2088 : decode cL_law 2088 = .ok (.iconst 1, 1) := by decide +kernel
theorem dL_law_2089 : decode cL_law 2089 = .ok (.iadd, 1) := by decide +kernel
theorem dL_law_2090 : decode cL_law 2090 = .ok (.iaload, 1) := by decide +kernel
theorem dL_law_2091 : decode cL_law 2091 = .ok (.aload_n 3, 1) := by decide +kernel
theorem dL_law_2092 : decode cL_law 2092 = .ok (.invokestatic 228, 3) := by decide +kernel
theorem dL_law_2095 : decode cL_law 2095 = .ok (.istore 5, 2) := by decide +kernel
theorem dL_law_2097 : decode cL_law 2097 = .ok (.aload_n 2, 1) := by decide +kernel
theorem dL_law_2098 : decode cL_law 2098 = .ok (.aload_n 0, 1) := by decide +kernel
theorem dL_law_2099 : decode cL_law 2099 = .ok (.iload 4, 2) := by decide +kernel
theorem dL_law_2101 : decode cL_law 2101 = .ok (.iconst 1, 1) := by decide +kernel
theorem dL_law_2102 : decode cL_law 2102 = .ok (.iadd, 1) := by decide +kernel
theorem dL_law_2103 : decode cL_law 2103 = .ok (.iaload, 1) := by decide +kernel
theorem dL_law_2104 : decode cL_law 2104 = .ok (.invokevirtual 230, 3) := by decide +kernel
theorem dL_law_2107 : decode cL_law 2107 = .ok (.istore 6, 2) := by decide +kernel
theorem dL_law_2109 : decode cL_law 2109 = .ok (.aload_n 2, 1) := by decide +kernel
theorem dL_law_2110 : decode cL_law 2110 = .ok (.invokevirtual 110, 3) := by decide +kernel
theorem dL_law_2113 : decode cL_law 2113 = .ok (.iload 5, 2) := by decide +kernel
theorem dL_law_2115 : decode cL_law 2115 = .ok (.if_icmp .eq 5, 3) := by decide +kernel
theorem dL_law_2118 : decode cL_law 2118 = .ok (.iconst 0, 1) := by decide +kernel
theorem dL_law_2119 : decode cL_law 2119 = .ok (.ireturn, 1) := by decide +kernel
theorem dL_law_2120 : decode cL_law 2120 = .ok (.iload 5, 2) := by decide +kernel
theorem dL_law_2122 : decode cL_law 2122 = .ok (.ifCond .ne 15, 3) := by decide +kernel
theorem dL_law_2125 : decode cL_law 2125 = .ok (.aload_n 3, 1) := by decide +kernel
theorem dL_law_2126 : decode cL_law 2126 = .ok (.iconst 0, 1) := by decide +kernel
theorem dL_law_2127 : decode cL_law 2127 = .ok (.laload, 1) := by decide +kernel
theorem dL_law_2128 : decode cL_law 2128 = .ok (.iload 6, 2) := by decide +kernel
theorem dL_law_2130 : decode cL_law 2130 = .ok (.i2l, 1) := by decide +kernel
theorem dL_law_2131 : decode cL_law 2131 = .ok (.lcmp, 1) := by decide +kernel
theorem dL_law_2132 : decode cL_law 2132 = .ok (.ifCond .eq 5, 3) := by decide +kernel
theorem dL_law_2135 : decode cL_law 2135 = .ok (.iconst 0, 1) := by decide +kernel
theorem dL_law_2136 : decode cL_law 2136 = .ok (.ireturn, 1) := by decide +kernel
theorem dL_law_2137 : decode cL_law 2137 = .ok (.goto 27, 3) := by decide +kernel
theorem dL_law_2140 : decode cL_law 2140 = .ok (.aload_n 1, 1) := by decide +kernel
theorem dL_law_2141 : decode cL_law 2141 = .ok (.invokevirtual 231, 3) := by decide +kernel
theorem dL_law_2144 : decode cL_law 2144 = .ok (.aload_n 2, 1) := by decide +kernel
theorem dL_law_2145 : decode cL_law 2145 = .ok (.invokevirtual 234, 3) := by decide +kernel
theorem dL_law_2148 : decode cL_law 2148 = .ok (.goto 16, 3) := by decide +kernel
theorem dL_law_2151 : decode cL_law 2151 = .ok (.aload_n 1, 1) := by decide +kernel
theorem dL_law_2152 : decode cL_law 2152 = .ok (.invokevirtual 235, 3) := by decide +kernel
theorem dL_law_2155 : decode cL_law 2155 = .ok (.aload_n 2, 1) := by decide +kernel
theorem dL_law_2156 : decode cL_law 2156 = .ok (.invokevirtual 239, 3) := by decide +kernel
theorem dL_law_2159 : decode cL_law 2159 = .ok (.if_icmp .eq 5, 3) := by decide +kernel
theorem dL_law_2162 : decode cL_law 2162 = .ok (.iconst 0, 1) := by decide +kernel
theorem dL_law_2163 : decode cL_law 2163 = .ok (.ireturn, 1) := by decide +kernel
theorem dL_law_2164 : decode cL_law 2164 = .ok (.iinc 4 6, 3) := by decide +kernel
theorem dL_law_2167 : decode cL_law 2167 = .ok (.goto (-2144), 3) := by decide +kernel
theorem dL_law_2170 : decode cL_law 2170 = .ok (.iconst 1, 1) := by decide +kernel
theorem dL_law_2171 : decode cL_law 2171 = .ok (.ireturn, 1) := by decide +kernel
