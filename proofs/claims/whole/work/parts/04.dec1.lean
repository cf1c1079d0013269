theorem dX12_count_1 : decode cX12_count 1 = .ok (.tableswitch 255 0 18 #[91, 99, 107, 115, 123, 131, 139, 147, 155, 163, 174, 185, 199, 213, 221, 229, 234, 241, 248], 91) := by decide +kernel
theorem dX12_count_92 : decode cX12_count 92 = .ok (.aload_n 0, 1) := by decide +kernel
theorem dX12_count_93 : decode cX12_count 93 = .ok (.getfield 52, 3) := by decide +kernel
theorem dX12_count_96 : decode cX12_count 96 = .ok (.getfield 123, 3) := by decide +kernel
theorem dX12_count_99 : decode cX12_count 99 = .ok (.ireturn, 1) := by decide +kernel
theorem dX12_count_100 : decode cX12_count 100 = .ok (.aload_n 0, 1) := by decide +kernel
theorem dX12_count_101 : decode cX12_count 101 = .ok (.getfield 52, 3) := by decide +kernel
theorem dX12_count_104 : decode cX12_count 104 = .ok (.getfield 126, 3) := by decide +kernel
theorem dX12_count_107 : decode cX12_count 107 = .ok (.ireturn, 1) := by decide +kernel
theorem dX12_count_108 : decode cX12_count 108 = .ok (.aload_n 0, 1) := by decide +kernel
theorem dX12_count_109 : decode cX12_count 109 = .ok (.getfield 52, 3) := by decide +kernel
theorem dX12_count_112 : decode cX12_count 112 = .ok (.getfield 129, 3) := by decide +kernel
theorem dX12_count_115 : decode cX12_count 115 = .ok (.ireturn, 1) := by decide +kernel
theorem dX12_count_116 : decode cX12_count 116 = .ok (.aload_n 0, 1) := by decide +kernel
theorem dX12_count_117 : decode cX12_count 117 = .ok (.getfield 52, 3) := by decide +kernel
theorem dX12_count_120 : decode cX12_count 120 = .ok (.getfield 132, 3) := by decide +kernel
theorem dX12_count_123 : decode cX12_count 123 = .ok (.ireturn, 1) := by decide +kernel
theorem dX12_count_124 : decode cX12_count 124 = .ok (.aload_n 0, 1) := by decide +kernel
theorem dX12_count_125 : decode cX12_count 125 = .ok (.getfield 52, 3) := by decide +kernel
theorem dX12_count_128 : decode cX12_count 128 = .ok (.getfield 135, 3) := by decide +kernel
theorem dX12_count_131 : decode cX12_count 131 = .ok (.ireturn, 1) := by decide +kernel
theorem dX12_count_132 : decode cX12_count 132 = .ok (.aload_n 0, 1) := by decide +kernel
theorem dX12_count_133 : decode cX12_count 133 = .ok (.getfield 52, 3) := by decide +kernel
theorem dX12_count_136 : decode cX12_count 136 = .ok (.getfield 138, 3) := by decide +kernel
theorem dX12_count_139 : decode cX12_count 139 = .ok (.ireturn, 1) := by decide +kernel
theorem dX12_count_140 : decode cX12_count 140 = .ok (.aload_n 0, 1) := by decide +kernel
theorem dX12_count_141 : decode cX12_count 141 = .ok (.getfield 52, 3) := by decide +kernel
theorem dX12_count_144 : decode cX12_count 144 = .ok (.getfield 141, 3) := by decide +kernel
theorem dX12_count_147 : decode cX12_count 147 = .ok (.ireturn, 1) := by decide +kernel
theorem dX12_count_148 : decode cX12_count 148 = .ok (.aload_n 0, 1) := by decide +kernel
theorem dX12_count_149 : decode cX12_count 149 = .ok (.getfield 52, 3) := by decide +kernel
theorem dX12_count_152 : decode cX12_count 152 = .ok (.getfield 144, 3) := by decide +kernel
theorem dX12_count_155 : decode cX12_count 155 = .ok (.ireturn, 1) := by decide +kernel
theorem dX12_count_156 : decode cX12_count 156 = .ok (.aload_n 0, 1) := by decide +kernel
theorem dX12_count_157 : decode cX12_count 157 = .ok (.getfield 52, 3) := by decide +kernel
theorem dX12_count_160 : decode cX12_count 160 = .ok (.getfield 147, 3) := by decide +kernel
theorem dX12_count_163 : decode cX12_count 163 = .ok (.ireturn, 1) := by decide +kernel
theorem dX12_count_164 : decode cX12_count 164 = .ok (.aload_n 0, 1) := by decide +kernel
theorem dX12_count_165 : decode cX12_count 165 = .ok (.getfield 36, 3) := by decide +kernel
theorem dX12_count_168 : decode cX12_count 168 = .ok (.getfield 111, 3) := by decide +kernel
theorem dX12_count_171 : decode cX12_count 171 = .ok (.getfield 150, 3) := by decide +kernel
theorem dX12_count_174 : decode cX12_count 174 = .ok (.ireturn, 1) := by decide +kernel
theorem dX12_count_175 : decode cX12_count 175 = .ok (.aload_n 0, 1) := by decide +kernel
theorem dX12_count_176 : decode cX12_count 176 = .ok (.getfield 36, 3) := by decide +kernel
theorem dX12_count_179 : decode cX12_count 179 = .ok (.getfield 111, 3) := by decide +kernel
theorem dX12_count_182 : decode cX12_count 182 = .ok (.getfield 155, 3) := by decide +kernel
theorem dX12_count_185 : decode cX12_count 185 = .ok (.ireturn, 1) := by decide +kernel
theorem dX12_count_186 : decode cX12_count 186 = .ok (.aload_n 0, 1) := by decide +kernel
theorem dX12_count_187 : decode cX12_count 187 = .ok (.getfield 36, 3) := by decide +kernel
theorem dX12_count_190 : decode cX12_count 190 = .ok (.getfield 111, 3) := by decide +kernel
theorem dX12_count_193 : decode cX12_count 193 = .ok (.getfield 158, 3) := by decide +kernel
theorem dX12_count_196 : decode cX12_count 196 = .ok (.getfield 162, 3) := by decide +kernel
theorem dX12_count_199 : decode cX12_count 199 = .ok (.ireturn, 1) := by decide +kernel
theorem dX12_count_200 : decode cX12_count 200 = .ok (.aload_n 0, 1) := by decide +kernel
theorem dX12_count_201 : decode cX12_count 201 = .ok (.getfield 36, 3) := by decide +kernel
theorem dX12_count_204 : decode cX12_count 204 = .ok (.getfield 111, 3) := by decide +kernel
theorem dX12_count_207 : decode cX12_count 207 = .ok (.getfield 165, 3) := by decide +kernel
theorem dX12_count_210 : decode cX12_count 210 = .ok (.getfield 162, 3) := by decide +kernel
theorem dX12_count_213 : decode cX12_count 213 = .ok (.ireturn, 1) := by decide +kernel
theorem dX12_count_214 : decode cX12_count 214 = .ok (.aload_n 0, 1) := by decide +kernel
theorem dX12_count_215 : decode cX12_count 215 = .ok (.getfield 62, 3) := by decide +kernel
theorem dX12_count_218 : decode cX12_count 218 = .ok (.getfield 119, 3) := by decide +kernel
theorem dX12_count_221 : decode cX12_count 221 = .ok (.ireturn, 1) := by decide +kernel
theorem dX12_count_222 : decode cX12_count 222 = .ok (.aload_n 0, 1) := by decide +kernel
theorem dX12_count_223 : decode cX12_count 223 = .ok (.getfield 69, 3) := by decide +kernel
theorem dX12_count_226 : decode cX12_count 226 = .ok (.getfield 122, 3) := by decide +kernel
theorem dX12_count_229 : decode cX12_count 229 = .ok (.ireturn, 1) := by decide +kernel
theorem dX12_count_230 : decode cX12_count 230 = .ok (.aload_n 0, 1) := by decide +kernel
theorem dX12_count_231 : decode cX12_count 231 = .ok (.getfield 13, 3) := by decide +kernel
theorem dX12_count_234 : decode cX12_count 234 = .ok (.ireturn, 1) := by decide +kernel
theorem dX12_count_235 : decode cX12_count 235 = .ok (.aload_n 0, 1) := by decide +kernel
theorem dX12_count_236 : decode cX12_count 236 = .ok (.getfield 20, 3) := by decide +kernel
theorem dX12_count_239 : decode cX12_count 239 = .ok (.iconst 0, 1) := by decide +kernel
theorem dX12_count_240 : decode cX12_count 240 = .ok (.iaload, 1) := by decide +kernel
theorem dX12_count_241 : decode cX12_count 241 = .ok (.ireturn, 1) := by decide +kernel
theorem dX12_count_242 : decode cX12_count 242 = .ok (.aload_n 0, 1) := by decide +kernel
theorem dX12_count_243 : decode cX12_count 243 = .ok (.getfield 20, 3) := by decide +kernel
theorem dX12_count_246 : decode cX12_count 246 = .ok (.iconst 1, 1) := by decide +kernel
theorem dX12_count_247 : decode cX12_count 247 = .ok (.iaload, 1) := by decide +kernel
theorem dX12_count_248 : decode cX12_count 248 = .ok (.ireturn, 1) := by decide +kernel
theorem dX12_count_249 : decode cX12_count 249 = .ok (.aload_n 0, 1) := by decide +kernel
theorem dX12_count_250 : decode cX12_count 250 = .ok (.getfield 20, 3) := by decide +kernel
theorem dX12_count_253 : decode cX12_count 253 = .ok (.iconst 2, 1) := by decide +kernel
theorem dX12_count_254 : decode cX12_count 254 = .ok (.iaload, 1) := by decide +kernel
theorem dX12_count_255 : decode cX12_count 255 = .ok (.ireturn, 1) := by decide +kernel
theorem dX12_count_256 : decode cX12_count 256 = .ok (.new 168, 3) := by decide +kernel
theorem dX12_count_259 : decode cX12_count 259 = .ok (.dup, 1) := by decide +kernel
theorem dX12_count_260 : decode cX12_count 260 = .ok (.ldc 170, 2) := by decide +kernel
theorem dX12_count_262 : decode cX12_count 262 = .ok (.invokespecial 172, 3) := by decide +kernel
theorem dX12_count_265 : decode cX12_count 265 = .ok (.athrow, 1) := by decide +kernel
theorem dX12_deed_0 : decode cX12_deed 0 = .ok (.aload_n 0, 1) := by decide +kernel
theorem dX12_deed_1 : decode cX12_deed 1 = .ok (.iload_n 1, 1) := by decide +kernel
theorem dX12_deed_2 : decode cX12_deed 2 = .ok (.invokevirtual 173, 3) := by decide +kernel
theorem dX12_deed_5 : decode cX12_deed 5 = .ok (.aload_n 0, 1) := by decide +kernel
theorem dX12_deed_6 : decode cX12_deed 6 = .ok (.getfield 36, 3) := by decide +kernel
theorem dX12_deed_9 : decode cX12_deed 9 = .ok (.getfield 111, 3) := by decide +kernel
theorem dX12_deed_12 : decode cX12_deed 12 = .ok (.astore_n 3, 1) := by decide +kernel
theorem dX12_deed_13 : decode cX12_deed 13 = .ok (.iload_n 2, 1) := by decide +kernel
theorem dX12_deed_14 : decode cX12_deed 14 = .ok (.tableswitch 84 0 4 #[34, 41, 48, 55, 62], 34) := by decide +kernel
theorem dX12_deed_48 : decode cX12_deed 48 = .ok (.aload_n 3, 1) := by decide +kernel
theorem dX12_deed_49 : decode cX12_deed 49 = .ok (.getfield 176, 3) := by decide +kernel
theorem dX12_deed_52 : decode cX12_deed 52 = .ok (.iload_n 1, 1) := by decide +kernel
theorem dX12_deed_53 : decode cX12_deed 53 = .ok (.iaload, 1) := by decide +kernel
theorem dX12_deed_54 : decode cX12_deed 54 = .ok (.ireturn, 1) := by decide +kernel
theorem dX12_deed_55 : decode cX12_deed 55 = .ok (.aload_n 3, 1) := by decide +kernel
theorem dX12_deed_56 : decode cX12_deed 56 = .ok (.getfield 179, 3) := by decide +kernel
theorem dX12_deed_59 : decode cX12_deed 59 = .ok (.iload_n 1, 1) := by decide +kernel
theorem dX12_deed_60 : decode cX12_deed 60 = .ok (.iaload, 1) := by decide +kernel
theorem dX12_deed_61 : decode cX12_deed 61 = .ok (.ireturn, 1) := by decide +kernel
theorem dX12_deed_62 : decode cX12_deed 62 = .ok (.aload_n 3, 1) := by decide +kernel
theorem dX12_deed_63 : decode cX12_deed 63 = .ok (.getfield 182, 3) := by decide +kernel
theorem dX12_deed_66 : decode cX12_deed 66 = .ok (.iload_n 1, 1) := by decide +kernel
theorem dX12_deed_67 : decode cX12_deed 67 = .ok (.iaload, 1) := by decide +kernel
theorem dX12_deed_68 : decode cX12_deed 68 = .ok (.ireturn, 1) := by decide +kernel
theorem dX12_deed_69 : decode cX12_deed 69 = .ok (.aload_n 3, 1) := by decide +kernel
theorem dX12_deed_70 : decode cX12_deed 70 = .ok (.getfield 185, 3) := by decide +kernel
theorem dX12_deed_73 : decode cX12_deed 73 = .ok (.iload_n 1, 1) := by decide +kernel
theorem dX12_deed_74 : decode cX12_deed 74 = .ok (.iaload, 1) := by decide +kernel
theorem dX12_deed_75 : decode cX12_deed 75 = .ok (.ireturn, 1) := by decide +kernel
theorem dX12_deed_76 : decode cX12_deed 76 = .ok (.aload_n 3, 1) := by decide +kernel
theorem dX12_deed_77 : decode cX12_deed 77 = .ok (.getfield 176, 3) := by decide +kernel
theorem dX12_deed_80 : decode cX12_deed 80 = .ok (.iload_n 1, 1) := by decide +kernel
theorem dX12_deed_81 : decode cX12_deed 81 = .ok (.iaload, 1) := by decide +kernel
theorem dX12_deed_82 : decode cX12_deed 82 = .ok (.aload_n 0, 1) := by decide +kernel
theorem dX12_deed_83 : decode cX12_deed 83 = .ok (.getfield 52, 3) := by decide +kernel
theorem dX12_deed_86 : decode cX12_deed 86 = .ok (.getfield 123, 3) := by decide +kernel
theorem dX12_deed_89 : decode cX12_deed 89 = .ok (.if_icmp .gt 7, 3) := by decide +kernel
theorem dX12_deed_92 : decode cX12_deed 92 = .ok (.iconst 1, 1) := by decide +kernel
theorem dX12_deed_93 : decode cX12_deed 93 = .ok (.goto 4, 3) := by decide +kernel
theorem dX12_deed_96 : decode cX12_deed 96 = .ok (.iconst 0, 1) := by decide +kernel
theorem dX12_deed_97 : decode cX12_deed 97 = .ok (.ireturn, 1) := by decide +kernel
theorem dX12_deed_98 : decode cX12_deed 98 = .ok (.new 168, 3) := by decide +kernel
theorem dX12_deed_101 : decode cX12_deed 101 = .ok (.dup, 1) := by decide +kernel
theorem dX12_deed_102 : decode cX12_deed 102 = .ok (.ldc 170, 2) := by decide +kernel
theorem dX12_deed_104 : decode cX12_deed 104 = .ok (.invokespecial 172, 3) := by decide +kernel
theorem dX12_deed_107 : decode cX12_deed 107 = .ok (.athrow, 1) := by decide +kernel
theorem dX12_brother_0 : decode cX12_brother 0 = .ok (.aload_n 0, 1) := by decide +kernel
theorem dX12_brother_1 : decode cX12_brother 1 = .ok (.iload_n 1, 1) := by decide +kernel
theorem dX12_brother_2 : decode cX12_brother 2 = .ok (.invokevirtual 188, 3) := by decide +kernel
theorem dX12_brother_5 : decode cX12_brother 5 = .ok (.iload_n 2, 1) := by decide +kernel
theorem dX12_brother_6 : decode cX12_brother 6 = .ok (.tableswitch 117 0 5 #[38, 48, 58, 71, 84, 104], 38) := by decide +kernel
theorem dX12_brother_44 : decode cX12_brother 44 = .ok (.aload_n 0, 1) := by decide +kernel
theorem dX12_brother_45 : decode cX12_brother 45 = .ok (.getfield 52, 3) := by decide +kernel
theorem dX12_brother_48 : decode cX12_brother 48 = .ok (.getfield 191, 3) := by decide +kernel
theorem dX12_brother_51 : decode cX12_brother 51 = .ok (.iload_n 1, 1) := by decide +kernel
theorem dX12_brother_52 : decode cX12_brother 52 = .ok (.iaload, 1) := by decide +kernel
theorem dX12_brother_53 : decode cX12_brother 53 = .ok (.ireturn, 1) := by decide +kernel
theorem dX12_brother_54 : decode cX12_brother 54 = .ok (.aload_n 0, 1) := by decide +kernel
theorem dX12_brother_55 : decode cX12_brother 55 = .ok (.getfield 52, 3) := by decide +kernel
theorem dX12_brother_58 : decode cX12_brother 58 = .ok (.getfield 192, 3) := by decide +kernel
theorem dX12_brother_61 : decode cX12_brother 61 = .ok (.iload_n 1, 1) := by decide +kernel
theorem dX12_brother_62 : decode cX12_brother 62 = .ok (.iaload, 1) := by decide +kernel
theorem dX12_brother_63 : decode cX12_brother 63 = .ok (.ireturn, 1) := by decide +kernel
theorem dX12_brother_64 : decode cX12_brother 64 = .ok (.aload_n 0, 1) := by decide +kernel
theorem dX12_brother_65 : decode cX12_brother 65 = .ok (.getfield 36, 3) := by decide +kernel
theorem dX12_brother_68 : decode cX12_brother 68 = .ok (.getfield 111, 3) := by decide +kernel
theorem dX12_brother_71 : decode cX12_brother 71 = .ok (.getfield 195, 3) := by decide +kernel
theorem dX12_brother_74 : decode cX12_brother 74 = .ok (.iload_n 1, 1) := by decide +kernel
theorem dX12_brother_75 : decode cX12_brother 75 = .ok (.iaload, 1) := by decide +kernel
theorem dX12_brother_76 : decode cX12_brother 76 = .ok (.ireturn, 1) := by decide +kernel
theorem dX12_brother_77 : decode cX12_brother 77 = .ok (.aload_n 0, 1) := by decide +kernel
theorem dX12_brother_78 : decode cX12_brother 78 = .ok (.getfield 36, 3) := by decide +kernel
theorem dX12_brother_81 : decode cX12_brother 81 = .ok (.aload_n 0, 1) := by decide +kernel
theorem dX12_brother_82 : decode cX12_brother 82 = .ok (.getfield 52, 3) := by decide +kernel
theorem dX12_brother_85 : decode cX12_brother 85 = .ok (.iload_n 1, 1) := by decide +kernel
theorem dX12_brother_86 : decode cX12_brother 86 = .ok (.invokevirtual 198, 3) := by decide +kernel
theorem dX12_brother_89 : decode cX12_brother 89 = .ok (.ireturn, 1) := by decide +kernel
theorem dX12_brother_90 : decode cX12_brother 90 = .ok (.aload_n 0, 1) := by decide +kernel
theorem dX12_brother_91 : decode cX12_brother 91 = .ok (.getfield 36, 3) := by decide +kernel
theorem dX12_brother_94 : decode cX12_brother 94 = .ok (.aload_n 0, 1) := by decide +kernel
theorem dX12_brother_95 : decode cX12_brother 95 = .ok (.getfield 36, 3) := by decide +kernel
theorem dX12_brother_98 : decode cX12_brother 98 = .ok (.aload_n 0, 1) := by decide +kernel
theorem dX12_brother_99 : decode cX12_brother 99 = .ok (.getfield 52, 3) := by decide +kernel
theorem dX12_brother_102 : decode cX12_brother 102 = .ok (.iload_n 1, 1) := by decide +kernel
theorem dX12_brother_103 : decode cX12_brother 103 = .ok (.invokevirtual 198, 3) := by decide +kernel
theorem dX12_brother_106 : decode cX12_brother 106 = .ok (.invokevirtual 202, 3) := by decide +kernel
theorem dX12_brother_109 : decode cX12_brother 109 = .ok (.ireturn, 1) := by decide +kernel
theorem dX12_brother_110 : decode cX12_brother 110 = .ok (.aload_n 0, 1) := by decide +kernel
theorem dX12_brother_111 : decode cX12_brother 111 = .ok (.getfield 36, 3) := by decide +kernel
theorem dX12_brother_114 : decode cX12_brother 114 = .ok (.aload_n 0, 1) := by decide +kernel
theorem dX12_brother_115 : decode cX12_brother 115 = .ok (.getfield 52, 3) := by decide +kernel
theorem dX12_brother_118 : decode cX12_brother 118 = .ok (.iload_n 1, 1) := by decide +kernel
theorem dX12_brother_119 : decode cX12_brother 119 = .ok (.invokevirtual 205, 3) := by decide +kernel
theorem dX12_brother_122 : decode cX12_brother 122 = .ok (.ireturn, 1) := by decide +kernel
theorem dX12_brother_123 : decode cX12_brother 123 = .ok (.new 168, 3) := by decide +kernel
theorem dX12_brother_126 : decode cX12_brother 126 = .ok (.dup, 1) := by decide +kernel
theorem dX12_brother_127 : decode cX12_brother 127 = .ok (.ldc 170, 2) := by decide +kernel
theorem dX12_brother_129 : decode cX12_brother 129 = .ok (.invokespecial 172, 3) := by decide +kernel
theorem dX12_brother_132 : decode cX12_brother 132 = .ok (.athrow, 1) := by decide +kernel
theorem dX12_way_0 : decode cX12_way 0 = .ok (.aload_n 0, 1) := by decide +kernel
theorem dX12_way_1 : decode cX12_way 1 = .ok (.iload_n 1, 1) := by decide +kernel
theorem dX12_way_2 : decode cX12_way 2 = .ok (.invokevirtual 188, 3) := by decide +kernel
theorem dX12_way_5 : decode cX12_way 5 = .ok (.aload_n 0, 1) := by decide +kernel
theorem dX12_way_6 : decode cX12_way 6 = .ok (.iload_n 1, 1) := by decide +kernel
theorem dX12_way_7 : decode cX12_way 7 = .ok (.iload_n 2, 1) := by decide +kernel
theorem dX12_way_8 : decode cX12_way 8 = .ok (.invokevirtual 208, 3) := by decide +kernel
theorem dX12_way_11 : decode cX12_way 11 = .ok (.ifCond .ne 13, 3) := by decide +kernel
theorem dX12_way_14 : decode cX12_way 14 = .ok (.new 168, 3) := by decide +kernel
theorem dX12_way_17 : decode cX12_way 17 = .ok (.dup, 1) := by decide +kernel
theorem dX12_way_18 : decode cX12_way 18 = .ok (.ldc 212, 2) := by decide +kernel
theorem dX12_way_20 : decode cX12_way 20 = .ok (.invokespecial 172, 3) := by decide +kernel
theorem dX12_way_23 : decode cX12_way 23 = .ok (.athrow, 1) := by decide +kernel
theorem dX12_way_24 : decode cX12_way 24 = .ok (.aload_n 0, 1) := by decide +kernel
theorem dX12_way_25 : decode cX12_way 25 = .ok (.getfield 52, 3) := by decide +kernel
theorem dX12_way_28 : decode cX12_way 28 = .ok (.getfield 214, 3) := by decide +kernel
theorem dX12_way_31 : decode cX12_way 31 = .ok (.iload_n 1, 1) := by decide +kernel
theorem dX12_way_32 : decode cX12_way 32 = .ok (.bipush 6, 2) := by decide +kernel
theorem dX12_way_34 : decode cX12_way 34 = .ok (.imul, 1) := by decide +kernel
theorem dX12_way_35 : decode cX12_way 35 = .ok (.iload_n 2, 1) := by decide +kernel
theorem dX12_way_36 : decode cX12_way 36 = .ok (.iadd, 1) := by decide +kernel
theorem dX12_way_37 : decode cX12_way 37 = .ok (.iaload, 1) := by decide +kernel
theorem dX12_way_38 : decode cX12_way 38 = .ok (.ireturn, 1) := by decide +kernel
theorem dX12_friend_0 : decode cX12_friend 0 = .ok (.aload_n 0, 1) := by decide +kernel
theorem dX12_friend_1 : decode cX12_friend 1 = .ok (.iload_n 1, 1) := by decide +kernel
theorem dX12_friend_2 : decode cX12_friend 2 = .ok (.invokevirtual 217, 3) := by decide +kernel
theorem dX12_friend_5 : decode cX12_friend 5 = .ok (.iload_n 2, 1) := by decide +kernel
theorem dX12_friend_6 : decode cX12_friend 6 = .ok (.tableswitch 102 0 4 #[34, 44, 57, 74, 88], 34) := by decide +kernel
theorem dX12_friend_40 : decode cX12_friend 40 = .ok (.aload_n 0, 1) := by decide +kernel
theorem dX12_friend_41 : decode cX12_friend 41 = .ok (.getfield 52, 3) := by decide +kernel
theorem dX12_friend_44 : decode cX12_friend 44 = .ok (.getfield 220, 3) := by decide +kernel
theorem dX12_friend_47 : decode cX12_friend 47 = .ok (.iload_n 1, 1) := by decide +kernel
theorem dX12_friend_48 : decode cX12_friend 48 = .ok (.iaload, 1) := by decide +kernel
theorem dX12_friend_49 : decode cX12_friend 49 = .ok (.ireturn, 1) := by decide +kernel
theorem dX12_friend_50 : decode cX12_friend 50 = .ok (.aload_n 0, 1) := by decide +kernel
theorem dX12_friend_51 : decode cX12_friend 51 = .ok (.getfield 36, 3) := by decide +kernel
theorem dX12_friend_54 : decode cX12_friend 54 = .ok (.getfield 111, 3) := by decide +kernel
theorem dX12_friend_57 : decode cX12_friend 57 = .ok (.getfield 223, 3) := by decide +kernel
theorem dX12_friend_60 : decode cX12_friend 60 = .ok (.iload_n 1, 1) := by decide +kernel
theorem dX12_friend_61 : decode cX12_friend 61 = .ok (.iaload, 1) := by decide +kernel
theorem dX12_friend_62 : decode cX12_friend 62 = .ok (.ireturn, 1) := by decide +kernel
theorem dX12_friend_63 : decode cX12_friend 63 = .ok (.aload_n 0, 1) := by decide +kernel
theorem dX12_friend_64 : decode cX12_friend 64 = .ok (.getfield 36, 3) := by decide +kernel
theorem dX12_friend_67 : decode cX12_friend 67 = .ok (.aload_n 0, 1) := by decide +kernel
theorem dX12_friend_68 : decode cX12_friend 68 = .ok (.getfield 52, 3) := by decide +kernel
theorem dX12_friend_71 : decode cX12_friend 71 = .ok (.iconst 1, 1) := by decide +kernel
theorem dX12_friend_72 : decode cX12_friend 72 = .ok (.invokevirtual 198, 3) := by decide +kernel
theorem dX12_friend_75 : decode cX12_friend 75 = .ok (.iload_n 1, 1) := by decide +kernel
theorem dX12_friend_76 : decode cX12_friend 76 = .ok (.ishr, 1) := by decide +kernel
theorem dX12_friend_77 : decode cX12_friend 77 = .ok (.iconst 1, 1) := by decide +kernel
theorem dX12_friend_78 : decode cX12_friend 78 = .ok (.iand, 1) := by decide +kernel
theorem dX12_friend_79 : decode cX12_friend 79 = .ok (.ireturn, 1) := by decide +kernel
theorem dX12_friend_80 : decode cX12_friend 80 = .ok (.aload_n 0, 1) := by decide +kernel
theorem dX12_friend_81 : decode cX12_friend 81 = .ok (.getfield 36, 3) := by decide +kernel
theorem dX12_friend_84 : decode cX12_friend 84 = .ok (.aload_n 0, 1) := by decide +kernel
theorem dX12_friend_85 : decode cX12_friend 85 = .ok (.getfield 52, 3) := by decide +kernel
theorem dX12_friend_88 : decode cX12_friend 88 = .ok (.iload_n 1, 1) := by decide +kernel
theorem dX12_friend_89 : decode cX12_friend 89 = .ok (.iconst 0, 1) := by decide +kernel
theorem dX12_friend_90 : decode cX12_friend 90 = .ok (.invokevirtual 226, 3) := by decide +kernel
theorem dX12_friend_93 : decode cX12_friend 93 = .ok (.ireturn, 1) := by decide +kernel
theorem dX12_friend_94 : decode cX12_friend 94 = .ok (.aload_n 0, 1) := by decide +kernel
theorem dX12_friend_95 : decode cX12_friend 95 = .ok (.getfield 36, 3) := by decide +kernel
theorem dX12_friend_98 : decode cX12_friend 98 = .ok (.aload_n 0, 1) := by decide +kernel
theorem dX12_friend_99 : decode cX12_friend 99 = .ok (.getfield 52, 3) := by decide +kernel
theorem dX12_friend_102 : decode cX12_friend 102 = .ok (.iload_n 1, 1) := by decide +kernel
theorem dX12_friend_103 : decode cX12_friend 103 = .ok (.iconst 1, 1) := by decide +kernel
theorem dX12_friend_104 : decode cX12_friend 104 = .ok (.invokevirtual 226, 3) := by decide +kernel
theorem dX12_friend_107 : decode cX12_friend 107 = .ok (.ireturn, 1) := by decide +kernel
theorem dX12_friend_108 : decode cX12_friend 108 = .ok (.new 168, 3) := by decide +kernel
theorem dX12_friend_111 : decode cX12_friend 111 = .ok (.dup, 1) := by decide +kernel
theorem dX12_friend_112 : decode cX12_friend 112 = .ok (.ldc 170, 2) := by decide +kernel
theorem dX12_friend_114 : decode cX12_friend 114 = .ok (.invokespecial 172, 3) := by decide +kernel
theorem dX12_friend_117 : decode cX12_friend 117 = .ok (.athrow, 1) := by decide +kernel
theorem dX12_needDeed_0 : decode cX12_needDeed 0 = .ok (.iload_n 1, 1) := by decide +kernel
theorem dX12_needDeed_1 : decode cX12_needDeed 1 = .ok (.ifCond .lt 17, 3) := by decide +kernel
theorem dX12_needDeed_4 : decode cX12_needDeed 4 = .ok (.iload_n 1, 1) := by decide +kernel
theorem dX12_needDeed_5 : decode cX12_needDeed 5 = .ok (.aload_n 0, 1) := by decide +kernel
theorem dX12_needDeed_6 : decode cX12_needDeed 6 = .ok (.getfield 36, 3) := by decide +kernel
theorem dX12_needDeed_9 : decode cX12_needDeed 9 = .ok (.getfield 111, 3) := by decide +kernel
theorem dX12_needDeed_12 : decode cX12_needDeed 12 = .ok (.getfield 150, 3) := by decide +kernel
theorem dX12_needDeed_15 : decode cX12_needDeed 15 = .ok (.if_icmp .lt 13, 3) := by decide +kernel
theorem dX12_needDeed_18 : decode cX12_needDeed 18 = .ok (.new 168, 3) := by decide +kernel
theorem dX12_needDeed_21 : decode cX12_needDeed 21 = .ok (.dup, 1) := by decide +kernel
theorem dX12_needDeed_22 : decode cX12_needDeed 22 = .ok (.ldc 230, 2) := by decide +kernel
theorem dX12_needDeed_24 : decode cX12_needDeed 24 = .ok (.invokespecial 172, 3) := by decide +kernel
theorem dX12_needDeed_27 : decode cX12_needDeed 27 = .ok (.athrow, 1) := by decide +kernel
theorem dX12_needDeed_28 : decode cX12_needDeed 28 = .ok (.return_, 1) := by decide +kernel
theorem dX12_needBrother_0 : decode cX12_needBrother 0 = .ok (.iload_n 1, 1) := by decide +kernel
theorem dX12_needBrother_1 : decode cX12_needBrother 1 = .ok (.ifCond .eq 18, 3) := by decide +kernel
theorem dX12_needBrother_4 : decode cX12_needBrother 4 = .ok (.iload_n 1, 1) := by decide +kernel
theorem dX12_needBrother_5 : decode cX12_needBrother 5 = .ok (.iconst 1, 1) := by decide +kernel
theorem dX12_needBrother_6 : decode cX12_needBrother 6 = .ok (.if_icmp .eq 13, 3) := by decide +kernel
theorem dX12_needBrother_9 : decode cX12_needBrother 9 = .ok (.new 168, 3) := by decide +kernel
theorem dX12_needBrother_12 : decode cX12_needBrother 12 = .ok (.dup, 1) := by decide +kernel
theorem dX12_needBrother_13 : decode cX12_needBrother 13 = .ok (.ldc 232, 2) := by decide +kernel
theorem dX12_needBrother_15 : decode cX12_needBrother 15 = .ok (.invokespecial 172, 3) := by decide +kernel
theorem dX12_needBrother_18 : decode cX12_needBrother 18 = .ok (.athrow, 1) := by decide +kernel
theorem dX12_needBrother_19 : decode cX12_needBrother 19 = .ok (.return_, 1) := by decide +kernel
theorem dX12_needFriend_0 : decode cX12_needFriend 0 = .ok (.iload_n 1, 1) := by decide +kernel
theorem dX12_needFriend_1 : decode cX12_needFriend 1 = .ok (.ifCond .lt 17, 3) := by decide +kernel
theorem dX12_needFriend_4 : decode cX12_needFriend 4 = .ok (.iload_n 1, 1) := by decide +kernel
theorem dX12_needFriend_5 : decode cX12_needFriend 5 = .ok (.aload_n 0, 1) := by decide +kernel
theorem dX12_needFriend_6 : decode cX12_needFriend 6 = .ok (.getfield 36, 3) := by decide +kernel
theorem dX12_needFriend_9 : decode cX12_needFriend 9 = .ok (.getfield 111, 3) := by decide +kernel
theorem dX12_needFriend_12 : decode cX12_needFriend 12 = .ok (.getfield 155, 3) := by decide +kernel
theorem dX12_needFriend_15 : decode cX12_needFriend 15 = .ok (.if_icmp .lt 13, 3) := by decide +kernel
theorem dX12_needFriend_18 : decode cX12_needFriend 18 = .ok (.new 168, 3) := by decide +kernel
theorem dX12_needFriend_21 : decode cX12_needFriend 21 = .ok (.dup, 1) := by decide +kernel
theorem dX12_needFriend_22 : decode cX12_needFriend 22 = .ok (.ldc 234, 2) := by decide +kernel
theorem dX12_needFriend_24 : decode cX12_needFriend 24 = .ok (.invokespecial 172, 3) := by decide +kernel
theorem dX12_needFriend_27 : decode cX12_needFriend 27 = .ok (.athrow, 1) := by decide +kernel
theorem dX12_needFriend_28 : decode cX12_needFriend 28 = .ok (.return_, 1) := by decide +kernel
theorem dX12_needWhat_0 : decode cX12_needWhat 0 = .ok (.iload_n 1, 1) := by decide +kernel
theorem dX12_needWhat_1 : decode cX12_needWhat 1 = .ok (.ifCond .lt 8, 3) := by decide +kernel
theorem dX12_needWhat_4 : decode cX12_needWhat 4 = .ok (.iload_n 1, 1) := by decide +kernel
theorem dX12_needWhat_5 : decode cX12_needWhat 5 = .ok (.iload_n 2, 1) := by decide +kernel
theorem dX12_needWhat_6 : decode cX12_needWhat 6 = .ok (.if_icmp .le 13, 3) := by decide +kernel
theorem dX12_needWhat_9 : decode cX12_needWhat 9 = .ok (.new 168, 3) := by decide +kernel
theorem dX12_needWhat_12 : decode cX12_needWhat 12 = .ok (.dup, 1) := by decide +kernel
theorem dX12_needWhat_13 : decode cX12_needWhat 13 = .ok (.ldc 170, 2) := by decide +kernel
theorem dX12_needWhat_15 : decode cX12_needWhat 15 = .ok (.invokespecial 172, 3) := by decide +kernel
theorem dX12_needWhat_18 : decode cX12_needWhat 18 = .ok (.athrow, 1) := by decide +kernel
theorem dX12_needWhat_19 : decode cX12_needWhat 19 = .ok (.return_, 1) := by decide +kernel
theorem dX12_needWithin_0 : decode cX12_needWithin 0 = .ok (.iload_n 1, 1) := by decide +kernel
theorem dX12_needWithin_1 : decode cX12_needWithin 1 = .ok (.iload_n 2, 1) := by decide +kernel
theorem dX12_needWithin_2 : decode cX12_needWithin 2 = .ok (.if_icmp .lt 8, 3) := by decide +kernel
theorem dX12_needWithin_5 : decode cX12_needWithin 5 = .ok (.iload_n 1, 1) := by decide +kernel
theorem dX12_needWithin_6 : decode cX12_needWithin 6 = .ok (.iload_n 3, 1) := by decide +kernel
theorem dX12_needWithin_7 : decode cX12_needWithin 7 = .ok (.if_icmp .le 13, 3) := by decide +kernel
theorem dX12_needWithin_10 : decode cX12_needWithin 10 = .ok (.new 93, 3) := by decide +kernel
theorem dX12_needWithin_13 : decode cX12_needWithin 13 = .ok (.dup, 1) := by decide +kernel
theorem dX12_needWithin_14 : decode cX12_needWithin 14 = .ok (.ldc 236, 2) := by decide +kernel
theorem dX12_needWithin_16 : decode cX12_needWithin 16 = .ok (.invokespecial 97, 3) := by decide +kernel
theorem dX12_needWithin_19 : decode cX12_needWithin 19 = .ok (.athrow, 1) := by decide +kernel
theorem dX12_needWithin_20 : decode cX12_needWithin 20 = .ok (.return_, 1) := by decide +kernel
theorem dX12_hasPlace_0 : decode cX12_hasPlace 0 = .ok (.iload_n 2, 1) := by decide +kernel
theorem dX12_hasPlace_1 : decode cX12_hasPlace 1 = .ok (.ifCond .lt 23, 3) := by decide +kernel
theorem dX12_hasPlace_4 : decode cX12_hasPlace 4 = .ok (.iload_n 2, 1) := by decide +kernel
theorem dX12_hasPlace_5 : decode cX12_hasPlace 5 = .ok (.aload_n 0, 1) := by decide +kernel
theorem dX12_hasPlace_6 : decode cX12_hasPlace 6 = .ok (.getfield 36, 3) := by decide +kernel
theorem dX12_hasPlace_9 : decode cX12_hasPlace 9 = .ok (.getfield 111, 3) := by decide +kernel
theorem dX12_hasPlace_12 : decode cX12_hasPlace 12 = .ok (.getfield 195, 3) := by decide +kernel
theorem dX12_hasPlace_15 : decode cX12_hasPlace 15 = .ok (.iload_n 1, 1) := by decide +kernel
theorem dX12_hasPlace_16 : decode cX12_hasPlace 16 = .ok (.iaload, 1) := by decide +kernel
theorem dX12_hasPlace_17 : decode cX12_hasPlace 17 = .ok (.if_icmp .ge 7, 3) := by decide +kernel
theorem dX12_hasPlace_20 : decode cX12_hasPlace 20 = .ok (.iconst 1, 1) := by decide +kernel
theorem dX12_hasPlace_21 : decode cX12_hasPlace 21 = .ok (.goto 4, 3) := by decide +kernel
theorem dX12_hasPlace_24 : decode cX12_hasPlace 24 = .ok (.iconst 0, 1) := by decide +kernel
theorem dX12_hasPlace_25 : decode cX12_hasPlace 25 = .ok (.ireturn, 1) := by decide +kernel
theorem dX12_years_0 : decode cX12_years 0 = .ok (.iload_n 1, 1) := by decide +kernel
theorem dX12_years_1 : decode cX12_years 1 = .ok (.iconst 1, 1) := by decide +kernel
theorem dX12_years_2 : decode cX12_years 2 = .ok (.if_icmp .lt 24, 3) := by decide +kernel
theorem dX12_years_5 : decode cX12_years 5 = .ok (.iload_n 1, 1) := by decide +kernel
theorem dX12_years_6 : decode cX12_years 6 = .ok (.bipush 20, 2) := by decide +kernel
theorem dX12_years_8 : decode cX12_years 8 = .ok (.if_icmp .gt 18, 3) := by decide +kernel
theorem dX12_years_11 : decode cX12_years 11 = .ok (.aload_n 0, 1) := by decide +kernel
theorem dX12_years_12 : decode cX12_years 12 = .ok (.getfield 52, 3) := by decide +kernel
theorem dX12_years_15 : decode cX12_years 15 = .ok (.getfield 132, 3) := by decide +kernel
theorem dX12_years_18 : decode cX12_years 18 = .ok (.iload_n 1, 1) := by decide +kernel
theorem dX12_years_19 : decode cX12_years 19 = .ok (.iadd, 1) := by decide +kernel
theorem dX12_years_20 : decode cX12_years 20 = .ok (.sipush 999, 3) := by decide +kernel
theorem dX12_years_23 : decode cX12_years 23 = .ok (.if_icmp .le 9, 3) := by decide +kernel
theorem dX12_years_26 : decode cX12_years 26 = .ok (.aload_n 0, 1) := by decide +kernel
theorem dX12_years_27 : decode cX12_years 27 = .ok (.iconst 1, 1) := by decide +kernel
theorem dX12_years_28 : decode cX12_years 28 = .ok (.invokevirtual 238, 3) := by decide +kernel
theorem dX12_years_31 : decode cX12_years 31 = .ok (.ireturn, 1) := by decide +kernel
theorem dX12_years_32 : decode cX12_years 32 = .ok (.aload_n 0, 1) := by decide +kernel
theorem dX12_years_33 : decode cX12_years 33 = .ok (.getfield 62, 3) := by decide +kernel
theorem dX12_years_36 : decode cX12_years 36 = .ok (.aload_n 0, 1) := by decide +kernel
theorem dX12_years_37 : decode cX12_years 37 = .ok (.getfield 52, 3) := by decide +kernel
theorem dX12_years_40 : decode cX12_years 40 = .ok (.invokevirtual 241, 3) := by decide +kernel
theorem dX12_years_43 : decode cX12_years 43 = .ok (.aload_n 0, 1) := by decide +kernel
theorem dX12_years_44 : decode cX12_years 44 = .ok (.getfield 36, 3) := by decide +kernel
theorem dX12_years_47 : decode cX12_years 47 = .ok (.aload_n 0, 1) := by decide +kernel
theorem dX12_years_48 : decode cX12_years 48 = .ok (.getfield 52, 3) := by decide +kernel
theorem dX12_years_51 : decode cX12_years 51 = .ok (.iload_n 1, 1) := by decide +kernel
theorem dX12_years_52 : decode cX12_years 52 = .ok (.invokevirtual 244, 3) := by decide +kernel
theorem dX12_years_55 : decode cX12_years 55 = .ok (.aload_n 0, 1) := by decide +kernel
theorem dX12_years_56 : decode cX12_years 56 = .ok (.getfield 52, 3) := by decide +kernel
theorem dX12_years_59 : decode cX12_years 59 = .ok (.getfield 132, 3) := by decide +kernel
theorem dX12_years_62 : decode cX12_years 62 = .ok (.ireturn, 1) := by decide +kernel
theorem dX12_change_0 : decode cX12_change 0 = .ok (.aload_n 0, 1) := by decide +kernel
theorem dX12_change_1 : decode cX12_change 1 = .ok (.iload_n 1, 1) := by decide +kernel
theorem dX12_change_2 : decode cX12_change 2 = .ok (.invokevirtual 188, 3) := by decide +kernel
theorem dX12_change_5 : decode cX12_change 5 = .ok (.aload_n 0, 1) := by decide +kernel
theorem dX12_change_6 : decode cX12_change 6 = .ok (.iload_n 3, 1) := by decide +kernel
theorem dX12_change_7 : decode cX12_change 7 = .ok (.invokevirtual 173, 3) := by decide +kernel
theorem dX12_change_10 : decode cX12_change 10 = .ok (.aload_n 0, 1) := by decide +kernel
theorem dX12_change_11 : decode cX12_change 11 = .ok (.iload_n 1, 1) := by decide +kernel
theorem dX12_change_12 : decode cX12_change 12 = .ok (.iload_n 2, 1) := by decide +kernel
theorem dX12_change_13 : decode cX12_change 13 = .ok (.invokevirtual 208, 3) := by decide +kernel
theorem dX12_change_16 : decode cX12_change 16 = .ok (.ifCond .ne 9, 3) := by decide +kernel
theorem dX12_change_19 : decode cX12_change 19 = .ok (.aload_n 0, 1) := by decide +kernel
theorem dX12_change_20 : decode cX12_change 20 = .ok (.iconst 1, 1) := by decide +kernel
theorem dX12_change_21 : decode cX12_change 21 = .ok (.invokevirtual 238, 3) := by decide +kernel
theorem dX12_change_24 : decode cX12_change 24 = .ok (.ireturn, 1) := by decide +kernel
theorem dX12_change_25 : decode cX12_change 25 = .ok (.aload_n 0, 1) := by decide +kernel
theorem dX12_change_26 : decode cX12_change 26 = .ok (.getfield 62, 3) := by decide +kernel
theorem dX12_change_29 : decode cX12_change 29 = .ok (.aload_n 0, 1) := by decide +kernel
theorem dX12_change_30 : decode cX12_change 30 = .ok (.getfield 52, 3) := by decide +kernel
theorem dX12_change_33 : decode cX12_change 33 = .ok (.invokevirtual 241, 3) := by decide +kernel
theorem dX12_change_36 : decode cX12_change 36 = .ok (.iload_n 1, 1) := by decide +kernel
theorem dX12_change_37 : decode cX12_change 37 = .ok (.bipush 6, 2) := by decide +kernel
theorem dX12_change_39 : decode cX12_change 39 = .ok (.imul, 1) := by decide +kernel
theorem dX12_change_40 : decode cX12_change 40 = .ok (.iload_n 2, 1) := by decide +kernel
theorem dX12_change_41 : decode cX12_change 41 = .ok (.iadd, 1) := by decide +kernel
theorem dX12_change_42 : decode cX12_change 42 = .ok (.istore 4, 2) := by decide +kernel
theorem dX12_change_44 : decode cX12_change 44 = .ok (.aload_n 0, 1) := by decide +kernel
theorem dX12_change_45 : decode cX12_change 45 = .ok (.getfield 52, 3) := by decide +kernel
theorem dX12_change_48 : decode cX12_change 48 = .ok (.getfield 214, 3) := by decide +kernel
theorem dX12_change_51 : decode cX12_change 51 = .ok (.iload 4, 2) := by decide +kernel
theorem dX12_change_53 : decode cX12_change 53 = .ok (.iaload, 1) := by decide +kernel
theorem dX12_change_54 : decode cX12_change 54 = .ok (.istore 5, 2) := by decide +kernel
theorem dX12_change_56 : decode cX12_change 56 = .ok (.aload_n 0, 1) := by decide +kernel
theorem dX12_change_57 : decode cX12_change 57 = .ok (.getfield 52, 3) := by decide +kernel
theorem dX12_change_60 : decode cX12_change 60 = .ok (.getfield 214, 3) := by decide +kernel
theorem dX12_change_63 : decode cX12_change 63 = .ok (.iload 4, 2) := by decide +kernel
theorem dX12_change_65 : decode cX12_change 65 = .ok (.iload_n 3, 1) := by decide +kernel
theorem dX12_change_66 : decode cX12_change 66 = .ok (.iastore, 1) := by decide +kernel
theorem dX12_change_67 : decode cX12_change 67 = .ok (.iload 5, 2) := by decide +kernel
theorem dX12_change_69 : decode cX12_change 69 = .ok (.ireturn, 1) := by decide +kernel
theorem dX12_term_0 : decode cX12_term 0 = .ok (.iload_n 1, 1) := by decide +kernel
theorem dX12_term_1 : decode cX12_term 1 = .ok (.iconst 1, 1) := by decide +kernel
theorem dX12_term_2 : decode cX12_term 2 = .ok (.if_icmp .lt 8, 3) := by decide +kernel
theorem dX12_term_5 : decode cX12_term 5 = .ok (.iload_n 1, 1) := by decide +kernel
theorem dX12_term_6 : decode cX12_term 6 = .ok (.iconst 5, 1) := by decide +kernel
theorem dX12_term_7 : decode cX12_term 7 = .ok (.if_icmp .le 9, 3) := by decide +kernel
theorem dX12_term_10 : decode cX12_term 10 = .ok (.aload_n 0, 1) := by decide +kernel
theorem dX12_term_11 : decode cX12_term 11 = .ok (.iconst 1, 1) := by decide +kernel
theorem dX12_term_12 : decode cX12_term 12 = .ok (.invokevirtual 238, 3) := by decide +kernel
theorem dX12_term_15 : decode cX12_term 15 = .ok (.ireturn, 1) := by decide +kernel
theorem dX12_term_16 : decode cX12_term 16 = .ok (.aload_n 0, 1) := by decide +kernel
theorem dX12_term_17 : decode cX12_term 17 = .ok (.getfield 62, 3) := by decide +kernel
theorem dX12_term_20 : decode cX12_term 20 = .ok (.aload_n 0, 1) := by decide +kernel
theorem dX12_term_21 : decode cX12_term 21 = .ok (.getfield 52, 3) := by decide +kernel
theorem dX12_term_24 : decode cX12_term 24 = .ok (.invokevirtual 241, 3) := by decide +kernel
theorem dX12_term_27 : decode cX12_term 27 = .ok (.aload_n 0, 1) := by decide +kernel
theorem dX12_term_28 : decode cX12_term 28 = .ok (.getfield 52, 3) := by decide +kernel
theorem dX12_term_31 : decode cX12_term 31 = .ok (.getfield 141, 3) := by decide +kernel
theorem dX12_term_34 : decode cX12_term 34 = .ok (.istore_n 2, 1) := by decide +kernel
theorem dX12_term_35 : decode cX12_term 35 = .ok (.aload_n 0, 1) := by decide +kernel
theorem dX12_term_36 : decode cX12_term 36 = .ok (.getfield 52, 3) := by decide +kernel
theorem dX12_term_39 : decode cX12_term 39 = .ok (.iload_n 1, 1) := by decide +kernel
theorem dX12_term_40 : decode cX12_term 40 = .ok (.putfield 141, 3) := by decide +kernel
theorem dX12_term_43 : decode cX12_term 43 = .ok (.iload_n 2, 1) := by decide +kernel
theorem dX12_term_44 : decode cX12_term 44 = .ok (.ireturn, 1) := by decide +kernel
theorem dX12_loan_0 : decode cX12_loan 0 = .ok (.iload_n 1, 1) := by decide +kernel
theorem dX12_loan_1 : decode cX12_loan 1 = .ok (.iconst 1, 1) := by decide +kernel
theorem dX12_loan_2 : decode cX12_loan 2 = .ok (.if_icmp .lt 9, 3) := by decide +kernel
theorem dX12_loan_5 : decode cX12_loan 5 = .ok (.iload_n 1, 1) := by decide +kernel
theorem dX12_loan_6 : decode cX12_loan 6 = .ok (.bipush 99, 2) := by decide +kernel
theorem dX12_loan_8 : decode cX12_loan 8 = .ok (.if_icmp .le 9, 3) := by decide +kernel
theorem dX12_loan_11 : decode cX12_loan 11 = .ok (.aload_n 0, 1) := by decide +kernel
theorem dX12_loan_12 : decode cX12_loan 12 = .ok (.iconst 1, 1) := by decide +kernel
theorem dX12_loan_13 : decode cX12_loan 13 = .ok (.invokevirtual 238, 3) := by decide +kernel
theorem dX12_loan_16 : decode cX12_loan 16 = .ok (.ireturn, 1) := by decide +kernel
theorem dX12_loan_17 : decode cX12_loan 17 = .ok (.aload_n 0, 1) := by decide +kernel
theorem dX12_loan_18 : decode cX12_loan 18 = .ok (.getfield 62, 3) := by decide +kernel
theorem dX12_loan_21 : decode cX12_loan 21 = .ok (.aload_n 0, 1) := by decide +kernel
theorem dX12_loan_22 : decode cX12_loan 22 = .ok (.getfield 52, 3) := by decide +kernel
theorem dX12_loan_25 : decode cX12_loan 25 = .ok (.invokevirtual 241, 3) := by decide +kernel
theorem dX12_loan_28 : decode cX12_loan 28 = .ok (.aload_n 0, 1) := by decide +kernel
theorem dX12_loan_29 : decode cX12_loan 29 = .ok (.getfield 52, 3) := by decide +kernel
theorem dX12_loan_32 : decode cX12_loan 32 = .ok (.sipush 999, 3) := by decide +kernel
theorem dX12_loan_35 : decode cX12_loan 35 = .ok (.aload_n 0, 1) := by decide +kernel
theorem dX12_loan_36 : decode cX12_loan 36 = .ok (.getfield 52, 3) := by decide +kernel
theorem dX12_loan_39 : decode cX12_loan 39 = .ok (.getfield 123, 3) := by decide +kernel
theorem dX12_loan_42 : decode cX12_loan 42 = .ok (.iload_n 1, 1) := by decide +kernel
theorem dX12_loan_43 : decode cX12_loan 43 = .ok (.iadd, 1) := by decide +kernel
theorem dX12_loan_44 : decode cX12_loan 44 = .ok (.invokestatic 248, 3) := by decide +kernel
theorem dX12_loan_47 : decode cX12_loan 47 = .ok (.putfield 123, 3) := by decide +kernel
theorem dX12_loan_50 : decode cX12_loan 50 = .ok (.aload_n 0, 1) := by decide +kernel
theorem dX12_loan_51 : decode cX12_loan 51 = .ok (.getfield 52, 3) := by decide +kernel
theorem dX12_loan_54 : decode cX12_loan 54 = .ok (.sipush 999, 3) := by decide +kernel
theorem dX12_loan_57 : decode cX12_loan 57 = .ok (.aload_n 0, 1) := by decide +kernel
theorem dX12_loan_58 : decode cX12_loan 58 = .ok (.getfield 52, 3) := by decide +kernel
theorem dX12_loan_61 : decode cX12_loan 61 = .ok (.getfield 129, 3) := by decide +kernel
theorem dX12_loan_64 : decode cX12_loan 64 = .ok (.iload_n 1, 1) := by decide +kernel
theorem dX12_loan_65 : decode cX12_loan 65 = .ok (.iadd, 1) := by decide +kernel
theorem dX12_loan_66 : decode cX12_loan 66 = .ok (.invokestatic 248, 3) := by decide +kernel
theorem dX12_loan_69 : decode cX12_loan 69 = .ok (.putfield 129, 3) := by decide +kernel
theorem dX12_loan_72 : decode cX12_loan 72 = .ok (.aload_n 0, 1) := by decide +kernel
theorem dX12_loan_73 : decode cX12_loan 73 = .ok (.getfield 52, 3) := by decide +kernel
theorem dX12_loan_76 : decode cX12_loan 76 = .ok (.getfield 123, 3) := by decide +kernel
theorem dX12_loan_79 : decode cX12_loan 79 = .ok (.ireturn, 1) := by decide +kernel
theorem dX12_gift_0 : decode cX12_gift 0 = .ok (.aload_n 0, 1) := by decide +kernel
theorem dX12_gift_1 : decode cX12_gift 1 = .ok (.iload_n 1, 1) := by decide +kernel
theorem dX12_gift_2 : decode cX12_gift 2 = .ok (.invokevirtual 217, 3) := by decide +kernel
theorem dX12_gift_5 : decode cX12_gift 5 = .ok (.iload_n 2, 1) := by decide +kernel
theorem dX12_gift_6 : decode cX12_gift 6 = .ok (.iconst 1, 1) := by decide +kernel
theorem dX12_gift_7 : decode cX12_gift 7 = .ok (.if_icmp .lt 20, 3) := by decide +kernel
theorem dX12_gift_10 : decode cX12_gift 10 = .ok (.iload_n 2, 1) := by decide +kernel
theorem dX12_gift_11 : decode cX12_gift 11 = .ok (.bipush 9, 2) := by decide +kernel
theorem dX12_gift_13 : decode cX12_gift 13 = .ok (.if_icmp .gt 14, 3) := by decide +kernel
theorem dX12_gift_16 : decode cX12_gift 16 = .ok (.iload_n 2, 1) := by decide +kernel
theorem dX12_gift_17 : decode cX12_gift 17 = .ok (.aload_n 0, 1) := by decide +kernel
theorem dX12_gift_18 : decode cX12_gift 18 = .ok (.getfield 52, 3) := by decide +kernel
theorem dX12_gift_21 : decode cX12_gift 21 = .ok (.getfield 123, 3) := by decide +kernel
theorem dX12_gift_24 : decode cX12_gift 24 = .ok (.if_icmp .le 9, 3) := by decide +kernel
theorem dX12_gift_27 : decode cX12_gift 27 = .ok (.aload_n 0, 1) := by decide +kernel
theorem dX12_gift_28 : decode cX12_gift 28 = .ok (.iconst 1, 1) := by decide +kernel
theorem dX12_gift_29 : decode cX12_gift 29 = .ok (.invokevirtual 238, 3) := by decide +kernel
theorem dX12_gift_32 : decode cX12_gift 32 = .ok (.ireturn, 1) := by decide +kernel
theorem dX12_gift_33 : decode cX12_gift 33 = .ok (.aload_n 0, 1) := by decide +kernel
theorem dX12_gift_34 : decode cX12_gift 34 = .ok (.getfield 62, 3) := by decide +kernel
theorem dX12_gift_37 : decode cX12_gift 37 = .ok (.aload_n 0, 1) := by decide +kernel
theorem dX12_gift_38 : decode cX12_gift 38 = .ok (.getfield 52, 3) := by decide +kernel
theorem dX12_gift_41 : decode cX12_gift 41 = .ok (.invokevirtual 241, 3) := by decide +kernel
theorem dX12_gift_44 : decode cX12_gift 44 = .ok (.aload_n 0, 1) := by decide +kernel
theorem dX12_gift_45 : decode cX12_gift 45 = .ok (.getfield 52, 3) := by decide +kernel
theorem dX12_gift_48 : decode cX12_gift 48 = .ok (.dup, 1) := by decide +kernel
theorem dX12_gift_49 : decode cX12_gift 49 = .ok (.getfield 123, 3) := by decide +kernel
theorem dX12_gift_52 : decode cX12_gift 52 = .ok (.iload_n 2, 1) := by decide +kernel
theorem dX12_gift_53 : decode cX12_gift 53 = .ok (.isub, 1) := by decide +kernel
theorem dX12_gift_54 : decode cX12_gift 54 = .ok (.putfield 123, 3) := by decide +kernel
theorem dX12_gift_57 : decode cX12_gift 57 = .ok (.aload_n 0, 1) := by decide +kernel
theorem dX12_gift_58 : decode cX12_gift 58 = .ok (.getfield 52, 3) := by decide +kernel
theorem dX12_gift_61 : decode cX12_gift 61 = .ok (.getfield 220, 3) := by decide +kernel
theorem dX12_gift_64 : decode cX12_gift 64 = .ok (.iload_n 1, 1) := by decide +kernel
theorem dX12_gift_65 : decode cX12_gift 65 = .ok (.iaload, 1) := by decide +kernel
theorem dX12_gift_66 : decode cX12_gift 66 = .ok (.aload_n 0, 1) := by decide +kernel
theorem dX12_gift_67 : decode cX12_gift 67 = .ok (.getfield 52, 3) := by decide +kernel
theorem dX12_gift_70 : decode cX12_gift 70 = .ok (.getfield 135, 3) := by decide +kernel
theorem dX12_gift_73 : decode cX12_gift 73 = .ok (.iconst 1, 1) := by decide +kernel
theorem dX12_gift_74 : decode cX12_gift 74 = .ok (.if_icmp .ne 7, 3) := by decide +kernel
theorem dX12_gift_77 : decode cX12_gift 77 = .ok (.iload_n 2, 1) := by decide +kernel
theorem dX12_gift_78 : decode cX12_gift 78 = .ok (.goto 5, 3) := by decide +kernel
theorem dX12_gift_81 : decode cX12_gift 81 = .ok (.iload_n 2, 1) := by decide +kernel
theorem dX12_gift_82 : decode cX12_gift 82 = .ok (.ineg, 1) := by decide +kernel
theorem dX12_gift_83 : decode cX12_gift 83 = .ok (.iadd, 1) := by decide +kernel
theorem dX12_gift_84 : decode cX12_gift 84 = .ok (.istore_n 3, 1) := by decide +kernel
theorem dX12_gift_85 : decode cX12_gift 85 = .ok (.aload_n 0, 1) := by decide +kernel
theorem dX12_gift_86 : decode cX12_gift 86 = .ok (.getfield 52, 3) := by decide +kernel
theorem dX12_gift_89 : decode cX12_gift 89 = .ok (.getfield 220, 3) := by decide +kernel
theorem dX12_gift_92 : decode cX12_gift 92 = .ok (.iload_n 1, 1) := by decide +kernel
theorem dX12_gift_93 : decode cX12_gift 93 = .ok (.bipush (-9), 2) := by decide +kernel
theorem dX12_gift_95 : decode cX12_gift 95 = .ok (.bipush 9, 2) := by decide +kernel
theorem dX12_gift_97 : decode cX12_gift 97 = .ok (.iload_n 3, 1) := by decide +kernel
theorem dX12_gift_98 : decode cX12_gift 98 = .ok (.invokestatic 248, 3) := by decide +kernel
theorem dX12_gift_101 : decode cX12_gift 101 = .ok (.invokestatic 254, 3) := by decide +kernel
theorem dX12_gift_104 : decode cX12_gift 104 = .ok (.iastore, 1) := by decide +kernel
theorem dX12_gift_105 : decode cX12_gift 105 = .ok (.aload_n 0, 1) := by decide +kernel
theorem dX12_gift_106 : decode cX12_gift 106 = .ok (.getfield 52, 3) := by decide +kernel
theorem dX12_gift_109 : decode cX12_gift 109 = .ok (.getfield 220, 3) := by decide +kernel
theorem dX12_gift_112 : decode cX12_gift 112 = .ok (.iload_n 1, 1) := by decide +kernel
theorem dX12_gift_113 : decode cX12_gift 113 = .ok (.iaload, 1) := by decide +kernel
theorem dX12_gift_114 : decode cX12_gift 114 = .ok (.ireturn, 1) := by decide +kernel
theorem dX12_undo_0 : decode cX12_undo 0 = .ok (.aload_n 0, 1) := by decide +kernel
theorem dX12_undo_1 : decode cX12_undo 1 = .ok (.getfield 62, 3) := by decide +kernel
theorem dX12_undo_4 : decode cX12_undo 4 = .ok (.aload_n 0, 1) := by decide +kernel
theorem dX12_undo_5 : decode cX12_undo 5 = .ok (.getfield 52, 3) := by decide +kernel
theorem dX12_undo_8 : decode cX12_undo 8 = .ok (.invokevirtual 257, 3) := by decide +kernel
theorem dX12_undo_11 : decode cX12_undo 11 = .ok (.ifCond .eq 13, 3) := by decide +kernel
theorem dX12_undo_14 : decode cX12_undo 14 = .ok (.aload_n 0, 1) := by decide +kernel
theorem dX12_undo_15 : decode cX12_undo 15 = .ok (.getfield 62, 3) := by decide +kernel
theorem dX12_undo_18 : decode cX12_undo 18 = .ok (.getfield 119, 3) := by decide +kernel
theorem dX12_undo_21 : decode cX12_undo 21 = .ok (.goto 4, 3) := by decide +kernel
theorem dX12_undo_24 : decode cX12_undo 24 = .ok (.iconst (-1), 1) := by decide +kernel
theorem dX12_undo_25 : decode cX12_undo 25 = .ok (.ireturn, 1) := by decide +kernel
theorem dX12_refuse_0 : decode cX12_refuse 0 = .ok (.aload_n 0, 1) := by decide +kernel
theorem dX12_refuse_1 : decode cX12_refuse 1 = .ok (.getfield 20, 3) := by decide +kernel
theorem dX12_refuse_4 : decode cX12_refuse 4 = .ok (.iload_n 1, 1) := by decide +kernel
theorem dX12_refuse_5 : decode cX12_refuse 5 = .ok (.dup2, 1) := by decide +kernel
theorem dX12_refuse_6 : decode cX12_refuse 6 = .ok (.iaload, 1) := by decide +kernel
theorem dX12_refuse_7 : decode cX12_refuse 7 = .ok (.iconst 1, 1) := by decide +kernel
theorem dX12_refuse_8 : decode cX12_refuse 8 = .ok (.iadd, 1) := by decide +kernel
theorem dX12_refuse_9 : decode cX12_refuse 9 = .ok (.iastore, 1) := by decide +kernel
theorem dX12_refuse_10 : decode cX12_refuse 10 = .ok (.iconst (-1), 1) := by decide +kernel
theorem dX12_refuse_11 : decode cX12_refuse 11 = .ok (.ireturn, 1) := by decide +kernel
theorem dX12_then_0 : decode cX12_then 0 = .ok (.aload_n 0, 1) := by decide +kernel
theorem dX12_then_1 : decode cX12_then 1 = .ok (.iload_n 2, 1) := by decide +kernel
theorem dX12_then_2 : decode cX12_then 2 = .ok (.bipush 6, 2) := by decide +kernel
theorem dX12_then_4 : decode cX12_then 4 = .ok (.invokevirtual 261, 3) := by decide +kernel
theorem dX12_then_7 : decode cX12_then 7 = .ok (.aload_n 0, 1) := by decide +kernel
theorem dX12_then_8 : decode cX12_then 8 = .ok (.iload_n 1, 1) := by decide +kernel
theorem dX12_then_9 : decode cX12_then 9 = .ok (.iconst 0, 1) := by decide +kernel
theorem dX12_then_10 : decode cX12_then 10 = .ok (.bipush 60, 2) := by decide +kernel
theorem dX12_then_12 : decode cX12_then 12 = .ok (.invokevirtual 265, 3) := by decide +kernel
theorem dX12_then_15 : decode cX12_then 15 = .ok (.aload_n 0, 1) := by decide +kernel
theorem dX12_then_16 : decode cX12_then 16 = .ok (.getfield 56, 3) := by decide +kernel
theorem dX12_then_19 : decode cX12_then 19 = .ok (.aload_n 0, 1) := by decide +kernel
theorem dX12_then_20 : decode cX12_then 20 = .ok (.getfield 52, 3) := by decide +kernel
theorem dX12_then_23 : decode cX12_then 23 = .ok (.invokevirtual 115, 3) := by decide +kernel
theorem dX12_then_26 : decode cX12_then 26 = .ok (.aload_n 0, 1) := by decide +kernel
theorem dX12_then_27 : decode cX12_then 27 = .ok (.getfield 36, 3) := by decide +kernel
theorem dX12_then_30 : decode cX12_then 30 = .ok (.aload_n 0, 1) := by decide +kernel
theorem dX12_then_31 : decode cX12_then 31 = .ok (.getfield 56, 3) := by decide +kernel
theorem dX12_then_34 : decode cX12_then 34 = .ok (.iload_n 1, 1) := by decide +kernel
theorem dX12_then_35 : decode cX12_then 35 = .ok (.invokevirtual 244, 3) := by decide +kernel
theorem dX12_then_38 : decode cX12_then 38 = .ok (.iload_n 2, 1) := by decide +kernel
theorem dX12_then_39 : decode cX12_then 39 = .ok (.tableswitch 89 0 5 #[37, 45, 53, 61, 71, 81], 37) := by decide +kernel
theorem dX12_then_76 : decode cX12_then 76 = .ok (.aload_n 0, 1) := by decide +kernel
theorem dX12_then_77 : decode cX12_then 77 = .ok (.getfield 56, 3) := by decide +kernel
theorem dX12_then_80 : decode cX12_then 80 = .ok (.getfield 123, 3) := by decide +kernel
theorem dX12_then_83 : decode cX12_then 83 = .ok (.ireturn, 1) := by decide +kernel
theorem dX12_then_84 : decode cX12_then 84 = .ok (.aload_n 0, 1) := by decide +kernel
theorem dX12_then_85 : decode cX12_then 85 = .ok (.getfield 56, 3) := by decide +kernel
theorem dX12_then_88 : decode cX12_then 88 = .ok (.getfield 126, 3) := by decide +kernel
theorem dX12_then_91 : decode cX12_then 91 = .ok (.ireturn, 1) := by decide +kernel
theorem dX12_then_92 : decode cX12_then 92 = .ok (.aload_n 0, 1) := by decide +kernel
theorem dX12_then_93 : decode cX12_then 93 = .ok (.getfield 56, 3) := by decide +kernel
theorem dX12_then_96 : decode cX12_then 96 = .ok (.getfield 129, 3) := by decide +kernel
theorem dX12_then_99 : decode cX12_then 99 = .ok (.ireturn, 1) := by decide +kernel
theorem dX12_then_100 : decode cX12_then 100 = .ok (.aload_n 0, 1) := by decide +kernel
theorem dX12_then_101 : decode cX12_then 101 = .ok (.getfield 56, 3) := by decide +kernel
theorem dX12_then_104 : decode cX12_then 104 = .ok (.getfield 191, 3) := by decide +kernel
theorem dX12_then_107 : decode cX12_then 107 = .ok (.iconst 0, 1) := by decide +kernel
theorem dX12_then_108 : decode cX12_then 108 = .ok (.iaload, 1) := by decide +kernel
theorem dX12_then_109 : decode cX12_then 109 = .ok (.ireturn, 1) := by decide +kernel
theorem dX12_then_110 : decode cX12_then 110 = .ok (.aload_n 0, 1) := by decide +kernel
theorem dX12_then_111 : decode cX12_then 111 = .ok (.getfield 56, 3) := by decide +kernel
theorem dX12_then_114 : decode cX12_then 114 = .ok (.getfield 191, 3) := by decide +kernel
theorem dX12_then_117 : decode cX12_then 117 = .ok (.iconst 1, 1) := by decide +kernel
theorem dX12_then_118 : decode cX12_then 118 = .ok (.iaload, 1) := by decide +kernel
theorem dX12_then_119 : decode cX12_then 119 = .ok (.ireturn, 1) := by decide +kernel
theorem dX12_then_120 : decode cX12_then 120 = .ok (.aload_n 0, 1) := by decide +kernel
theorem dX12_then_121 : decode cX12_then 121 = .ok (.getfield 56, 3) := by decide +kernel
theorem dX12_then_124 : decode cX12_then 124 = .ok (.getfield 135, 3) := by decide +kernel
theorem dX12_then_127 : decode cX12_then 127 = .ok (.ireturn, 1) := by decide +kernel
theorem dX12_then_128 : decode cX12_then 128 = .ok (.aload_n 0, 1) := by decide +kernel
theorem dX12_then_129 : decode cX12_then 129 = .ok (.getfield 56, 3) := by decide +kernel
theorem dX12_then_132 : decode cX12_then 132 = .ok (.getfield 144, 3) := by decide +kernel
theorem dX12_then_135 : decode cX12_then 135 = .ok (.ireturn, 1) := by decide +kernel
theorem dX12_stays_0 : decode cX12_stays 0 = .ok (.aload_n 0, 1) := by decide +kernel
theorem dX12_stays_1 : decode cX12_stays 1 = .ok (.iload_n 1, 1) := by decide +kernel
theorem dX12_stays_2 : decode cX12_stays 2 = .ok (.iconst 1, 1) := by decide +kernel
theorem dX12_stays_3 : decode cX12_stays 3 = .ok (.invokevirtual 261, 3) := by decide +kernel
theorem dX12_stays_6 : decode cX12_stays 6 = .ok (.aload_n 0, 1) := by decide +kernel
theorem dX12_stays_7 : decode cX12_stays 7 = .ok (.getfield 56, 3) := by decide +kernel
theorem dX12_stays_10 : decode cX12_stays 10 = .ok (.aload_n 0, 1) := by decide +kernel
theorem dX12_stays_11 : decode cX12_stays 11 = .ok (.getfield 52, 3) := by decide +kernel
theorem dX12_stays_14 : decode cX12_stays 14 = .ok (.invokevirtual 115, 3) := by decide +kernel
theorem dX12_stays_17 : decode cX12_stays 17 = .ok (.iconst 1, 1) := by decide +kernel
theorem dX12_stays_18 : decode cX12_stays 18 = .ok (.istore_n 2, 1) := by decide +kernel
theorem dX12_stays_19 : decode cX12_stays 19 = .ok (.iload_n 2, 1) := by decide +kernel
theorem dX12_stays_20 : decode cX12_stays 20 = .ok (.bipush 60, 2) := by decide +kernel
theorem dX12_stays_22 : decode cX12_stays 22 = .ok (.if_icmp .gt 54, 3) := by decide +kernel
theorem dX12_stays_25 : decode cX12_stays 25 = .ok (.aload_n 0, 1) := by decide +kernel
theorem dX12_stays_26 : decode cX12_stays 26 = .ok (.getfield 36, 3) := by decide +kernel
theorem dX12_stays_29 : decode cX12_stays 29 = .ok (.aload_n 0, 1) := by decide +kernel
theorem dX12_stays_30 : decode cX12_stays 30 = .ok (.getfield 56, 3) := by decide +kernel
theorem dX12_stays_33 : decode cX12_stays 33 = .ok (.iconst 1, 1) := by decide +kernel
theorem dX12_stays_34 : decode cX12_stays 34 = .ok (.invokevirtual 244, 3) := by decide +kernel
theorem dX12_stays_37 : decode cX12_stays 37 = .ok (.aload_n 0, 1) := by decide +kernel
theorem dX12_stays_38 : decode cX12_stays 38 = .ok (.getfield 56, 3) := by decide +kernel
theorem dX12_stays_41 : decode cX12_stays 41 = .ok (.getfield 147, 3) := by decide +kernel
theorem dX12_stays_44 : decode cX12_stays 44 = .ok (.aload_n 0, 1) := by decide +kernel
theorem dX12_stays_45 : decode cX12_stays 45 = .ok (.getfield 52, 3) := by decide +kernel
theorem dX12_stays_48 : decode cX12_stays 48 = .ok (.getfield 147, 3) := by decide +kernel
theorem dX12_stays_51 : decode cX12_stays 51 = .ok (.if_icmp .le 19, 3) := by decide +kernel
theorem dX12_stays_54 : decode cX12_stays 54 = .ok (.iload_n 1, 1) := by decide +kernel
theorem dX12_stays_55 : decode cX12_stays 55 = .ok (.ifCond .ne 7, 3) := by decide +kernel
theorem dX12_stays_58 : decode cX12_stays 58 = .ok (.iload_n 2, 1) := by decide +kernel
theorem dX12_stays_59 : decode cX12_stays 59 = .ok (.goto 10, 3) := by decide +kernel
theorem dX12_stays_62 : decode cX12_stays 62 = .ok (.aload_n 0, 1) := by decide +kernel
theorem dX12_stays_63 : decode cX12_stays 63 = .ok (.getfield 56, 3) := by decide +kernel
theorem dX12_stays_66 : decode cX12_stays 66 = .ok (.getfield 135, 3) := by decide +kernel
theorem dX12_stays_69 : decode cX12_stays 69 = .ok (.ireturn, 1) := by decide +kernel
theorem dX12_stays_70 : decode cX12_stays 70 = .ok (.iinc 2 1, 3) := by decide +kernel
theorem dX12_stays_73 : decode cX12_stays 73 = .ok (.goto (-54), 3) := by decide +kernel
theorem dX12_stays_76 : decode cX12_stays 76 = .ok (.iconst (-1), 1) := by decide +kernel
theorem dX12_stays_77 : decode cX12_stays 77 = .ok (.ireturn, 1) := by decide +kernel
theorem dX12_fair_0 : decode cX12_fair 0 = .ok (.iconst 1, 1) := by decide +kernel
theorem dX12_fair_1 : decode cX12_fair 1 = .ok (.istore_n 1, 1) := by decide +kernel
theorem dX12_fair_2 : decode cX12_fair 2 = .ok (.iload_n 1, 1) := by decide +kernel
theorem dX12_fair_3 : decode cX12_fair 3 = .ok (.iconst 5, 1) := by decide +kernel
theorem dX12_fair_4 : decode cX12_fair 4 = .ok (.if_icmp .gt 33, 3) := by decide +kernel
theorem dX12_fair_7 : decode cX12_fair 7 = .ok (.aload_n 0, 1) := by decide +kernel
theorem dX12_fair_8 : decode cX12_fair 8 = .ok (.iload_n 1, 1) := by decide +kernel
theorem dX12_fair_9 : decode cX12_fair 9 = .ok (.invokevirtual 269, 3) := by decide +kernel
theorem dX12_fair_12 : decode cX12_fair 12 = .ok (.aload_n 0, 1) := by decide +kernel
theorem dX12_fair_13 : decode cX12_fair 13 = .ok (.getfield 56, 3) := by decide +kernel
theorem dX12_fair_16 : decode cX12_fair 16 = .ok (.getfield 147, 3) := by decide +kernel
theorem dX12_fair_19 : decode cX12_fair 19 = .ok (.aload_n 0, 1) := by decide +kernel
theorem dX12_fair_20 : decode cX12_fair 20 = .ok (.getfield 52, 3) := by decide +kernel
theorem dX12_fair_23 : decode cX12_fair 23 = .ok (.getfield 147, 3) := by decide +kernel
theorem dX12_fair_26 : decode cX12_fair 26 = .ok (.if_icmp .ne 5, 3) := by decide +kernel
theorem dX12_fair_29 : decode cX12_fair 29 = .ok (.iload_n 1, 1) := by decide +kernel
theorem dX12_fair_30 : decode cX12_fair 30 = .ok (.ireturn, 1) := by decide +kernel
theorem dX12_fair_31 : decode cX12_fair 31 = .ok (.iinc 1 1, 3) := by decide +kernel
theorem dX12_fair_34 : decode cX12_fair 34 = .ok (.goto (-32), 3) := by decide +kernel
theorem dX12_fair_37 : decode cX12_fair 37 = .ok (.iconst (-1), 1) := by decide +kernel
theorem dX12_fair_38 : decode cX12_fair 38 = .ok (.ireturn, 1) := by decide +kernel
theorem dX12_least_0 : decode cX12_least 0 = .ok (.iconst 1, 1) := by decide +kernel
theorem dX12_least_1 : decode cX12_least 1 = .ok (.istore_n 1, 1) := by decide +kernel
theorem dX12_least_2 : decode cX12_least 2 = .ok (.iconst 0, 1) := by decide +kernel
theorem dX12_least_3 : decode cX12_least 3 = .ok (.istore_n 2, 1) := by decide +kernel
theorem dX12_least_4 : decode cX12_least 4 = .ok (.iconst 1, 1) := by decide +kernel
theorem dX12_least_5 : decode cX12_least 5 = .ok (.istore_n 3, 1) := by decide +kernel
theorem dX12_least_6 : decode cX12_least 6 = .ok (.iload_n 3, 1) := by decide +kernel
theorem dX12_least_7 : decode cX12_least 7 = .ok (.iconst 5, 1) := by decide +kernel
theorem dX12_least_8 : decode cX12_least 8 = .ok (.if_icmp .gt 40, 3) := by decide +kernel
theorem dX12_least_11 : decode cX12_least 11 = .ok (.aload_n 0, 1) := by decide +kernel
theorem dX12_least_12 : decode cX12_least 12 = .ok (.iload_n 3, 1) := by decide +kernel
theorem dX12_least_13 : decode cX12_least 13 = .ok (.invokevirtual 269, 3) := by decide +kernel
theorem dX12_least_16 : decode cX12_least 16 = .ok (.iload_n 3, 1) := by decide +kernel
theorem dX12_least_17 : decode cX12_least 17 = .ok (.iconst 1, 1) := by decide +kernel
theorem dX12_least_18 : decode cX12_least 18 = .ok (.if_icmp .eq 14, 3) := by decide +kernel
theorem dX12_least_21 : decode cX12_least 21 = .ok (.aload_n 0, 1) := by decide +kernel
theorem dX12_least_22 : decode cX12_least 22 = .ok (.getfield 56, 3) := by decide +kernel
theorem dX12_least_25 : decode cX12_least 25 = .ok (.getfield 144, 3) := by decide +kernel
theorem dX12_least_28 : decode cX12_least 28 = .ok (.iload_n 2, 1) := by decide +kernel
theorem dX12_least_29 : decode cX12_least 29 = .ok (.if_icmp .ge 13, 3) := by decide +kernel
theorem dX12_least_32 : decode cX12_least 32 = .ok (.iload_n 3, 1) := by decide +kernel
theorem dX12_least_33 : decode cX12_least 33 = .ok (.istore_n 1, 1) := by decide +kernel
theorem dX12_least_34 : decode cX12_least 34 = .ok (.aload_n 0, 1) := by decide +kernel
theorem dX12_least_35 : decode cX12_least 35 = .ok (.getfield 56, 3) := by decide +kernel
theorem dX12_least_38 : decode cX12_least 38 = .ok (.getfield 144, 3) := by decide +kernel
theorem dX12_least_41 : decode cX12_least 41 = .ok (.istore_n 2, 1) := by decide +kernel
theorem dX12_least_42 : decode cX12_least 42 = .ok (.iinc 3 1, 3) := by decide +kernel
theorem dX12_least_45 : decode cX12_least 45 = .ok (.goto (-39), 3) := by decide +kernel
theorem dX12_least_48 : decode cX12_least 48 = .ok (.iload_n 1, 1) := by decide +kernel
theorem dX12_least_49 : decode cX12_least 49 = .ok (.ireturn, 1) := by decide +kernel
theorem dX12_passWithTerm_0 : decode cX12_passWithTerm 0 = .ok (.aload_n 0, 1) := by decide +kernel
theorem dX12_passWithTerm_1 : decode cX12_passWithTerm 1 = .ok (.getfield 56, 3) := by decide +kernel
theorem dX12_passWithTerm_4 : decode cX12_passWithTerm 4 = .ok (.aload_n 0, 1) := by decide +kernel
theorem dX12_passWithTerm_5 : decode cX12_passWithTerm 5 = .ok (.getfield 52, 3) := by decide +kernel
theorem dX12_passWithTerm_8 : decode cX12_passWithTerm 8 = .ok (.invokevirtual 115, 3) := by decide +kernel
theorem dX12_passWithTerm_11 : decode cX12_passWithTerm 11 = .ok (.aload_n 0, 1) := by decide +kernel
theorem dX12_passWithTerm_12 : decode cX12_passWithTerm 12 = .ok (.getfield 56, 3) := by decide +kernel
theorem dX12_passWithTerm_15 : decode cX12_passWithTerm 15 = .ok (.iload_n 1, 1) := by decide +kernel
theorem dX12_passWithTerm_16 : decode cX12_passWithTerm 16 = .ok (.putfield 141, 3) := by decide +kernel
theorem dX12_passWithTerm_19 : decode cX12_passWithTerm 19 = .ok (.aload_n 0, 1) := by decide +kernel
theorem dX12_passWithTerm_20 : decode cX12_passWithTerm 20 = .ok (.getfield 36, 3) := by decide +kernel
theorem dX12_passWithTerm_23 : decode cX12_passWithTerm 23 = .ok (.aload_n 0, 1) := by decide +kernel
theorem dX12_passWithTerm_24 : decode cX12_passWithTerm 24 = .ok (.getfield 56, 3) := by decide +kernel
theorem dX12_passWithTerm_27 : decode cX12_passWithTerm 27 = .ok (.bipush 30, 2) := by decide +kernel
theorem dX12_passWithTerm_29 : decode cX12_passWithTerm 29 = .ok (.invokevirtual 244, 3) := by decide +kernel
theorem dX12_passWithTerm_32 : decode cX12_passWithTerm 32 = .ok (.return_, 1) := by decide +kernel
theorem dX12_cost_0 : decode cX12_cost 0 = .ok (.aload_n 0, 1) := by decide +kernel
theorem dX12_cost_1 : decode cX12_cost 1 = .ok (.iload_n 1, 1) := by decide +kernel
theorem dX12_cost_2 : decode cX12_cost 2 = .ok (.iconst 1, 1) := by decide +kernel
theorem dX12_cost_3 : decode cX12_cost 3 = .ok (.bipush 60, 2) := by decide +kernel
theorem dX12_cost_5 : decode cX12_cost 5 = .ok (.invokevirtual 265, 3) := by decide +kernel
theorem dX12_cost_8 : decode cX12_cost 8 = .ok (.aload_n 0, 1) := by decide +kernel
theorem dX12_cost_9 : decode cX12_cost 9 = .ok (.getfield 56, 3) := by decide +kernel
theorem dX12_cost_12 : decode cX12_cost 12 = .ok (.aload_n 0, 1) := by decide +kernel
theorem dX12_cost_13 : decode cX12_cost 13 = .ok (.getfield 52, 3) := by decide +kernel
theorem dX12_cost_16 : decode cX12_cost 16 = .ok (.invokevirtual 115, 3) := by decide +kernel
theorem dX12_cost_19 : decode cX12_cost 19 = .ok (.aload_n 0, 1) := by decide +kernel
theorem dX12_cost_20 : decode cX12_cost 20 = .ok (.getfield 36, 3) := by decide +kernel
theorem dX12_cost_23 : decode cX12_cost 23 = .ok (.aload_n 0, 1) := by decide +kernel
theorem dX12_cost_24 : decode cX12_cost 24 = .ok (.getfield 56, 3) := by decide +kernel
theorem dX12_cost_27 : decode cX12_cost 27 = .ok (.iload_n 1, 1) := by decide +kernel
theorem dX12_cost_28 : decode cX12_cost 28 = .ok (.invokevirtual 244, 3) := by decide +kernel
theorem dX12_cost_31 : decode cX12_cost 31 = .ok (.aload_n 0, 1) := by decide +kernel
theorem dX12_cost_32 : decode cX12_cost 32 = .ok (.getfield 56, 3) := by decide +kernel
theorem dX12_cost_35 : decode cX12_cost 35 = .ok (.invokevirtual 272, 3) := by decide +kernel
theorem dX12_cost_38 : decode cX12_cost 38 = .ok (.istore_n 2, 1) := by decide +kernel
theorem dX12_cost_39 : decode cX12_cost 39 = .ok (.aload_n 0, 1) := by decide +kernel
theorem dX12_cost_40 : decode cX12_cost 40 = .ok (.getfield 56, 3) := by decide +kernel
theorem dX12_cost_43 : decode cX12_cost 43 = .ok (.aload_n 0, 1) := by decide +kernel
theorem dX12_cost_44 : decode cX12_cost 44 = .ok (.getfield 52, 3) := by decide +kernel
theorem dX12_cost_47 : decode cX12_cost 47 = .ok (.invokevirtual 115, 3) := by decide +kernel
theorem dX12_cost_50 : decode cX12_cost 50 = .ok (.iconst 0, 1) := by decide +kernel
theorem dX12_cost_51 : decode cX12_cost 51 = .ok (.istore_n 3, 1) := by decide +kernel
theorem dX12_cost_52 : decode cX12_cost 52 = .ok (.iload_n 3, 1) := by decide +kernel
theorem dX12_cost_53 : decode cX12_cost 53 = .ok (.iload_n 1, 1) := by decide +kernel
theorem dX12_cost_54 : decode cX12_cost 54 = .ok (.if_icmp .ge 20, 3) := by decide +kernel
theorem dX12_cost_57 : decode cX12_cost 57 = .ok (.aload_n 0, 1) := by decide +kernel
theorem dX12_cost_58 : decode cX12_cost 58 = .ok (.getfield 36, 3) := by decide +kernel
theorem dX12_cost_61 : decode cX12_cost 61 = .ok (.aload_n 0, 1) := by decide +kernel
theorem dX12_cost_62 : decode cX12_cost 62 = .ok (.getfield 56, 3) := by decide +kernel
theorem dX12_cost_65 : decode cX12_cost 65 = .ok (.invokevirtual 276, 3) := by decide +kernel
theorem dX12_cost_68 : decode cX12_cost 68 = .ok (.iinc 3 1, 3) := by decide +kernel
theorem dX12_cost_71 : decode cX12_cost 71 = .ok (.goto (-19), 3) := by decide +kernel
theorem dX12_cost_74 : decode cX12_cost 74 = .ok (.aload_n 0, 1) := by decide +kernel
theorem dX12_cost_75 : decode cX12_cost 75 = .ok (.getfield 56, 3) := by decide +kernel
theorem dX12_cost_78 : decode cX12_cost 78 = .ok (.invokevirtual 272, 3) := by decide +kernel
theorem dX12_cost_81 : decode cX12_cost 81 = .ok (.iload_n 2, 1) := by decide +kernel
theorem dX12_cost_82 : decode cX12_cost 82 = .ok (.isub, 1) := by decide +kernel
theorem dX12_cost_83 : decode cX12_cost 83 = .ok (.ireturn, 1) := by decide +kernel
theorem dX12_plan_0 : decode cX12_plan 0 = .ok (.aload_n 0, 1) := by decide +kernel
theorem dX12_plan_1 : decode cX12_plan 1 = .ok (.iload_n 2, 1) := by decide +kernel
theorem dX12_plan_2 : decode cX12_plan 2 = .ok (.iconst 1, 1) := by decide +kernel
theorem dX12_plan_3 : decode cX12_plan 3 = .ok (.invokevirtual 261, 3) := by decide +kernel
theorem dX12_plan_6 : decode cX12_plan 6 = .ok (.aload_n 0, 1) := by decide +kernel
theorem dX12_plan_7 : decode cX12_plan 7 = .ok (.iload_n 1, 1) := by decide +kernel
theorem dX12_plan_8 : decode cX12_plan 8 = .ok (.iconst 1, 1) := by decide +kernel
theorem dX12_plan_9 : decode cX12_plan 9 = .ok (.iconst 4, 1) := by decide +kernel
theorem dX12_plan_10 : decode cX12_plan 10 = .ok (.invokevirtual 265, 3) := by decide +kernel
theorem dX12_plan_13 : decode cX12_plan 13 = .ok (.aload_n 0, 1) := by decide +kernel
theorem dX12_plan_14 : decode cX12_plan 14 = .ok (.getfield 45, 3) := by decide +kernel
theorem dX12_plan_17 : decode cX12_plan 17 = .ok (.aload_n 0, 1) := by decide +kernel
theorem dX12_plan_18 : decode cX12_plan 18 = .ok (.getfield 52, 3) := by decide +kernel
theorem dX12_plan_21 : decode cX12_plan 21 = .ok (.iload_n 1, 1) := by decide +kernel
theorem dX12_plan_22 : decode cX12_plan 22 = .ok (.invokevirtual 279, 3) := by decide +kernel
theorem dX12_plan_25 : decode cX12_plan 25 = .ok (.istore_n 3, 1) := by decide +kernel
theorem dX12_plan_26 : decode cX12_plan 26 = .ok (.iload_n 2, 1) := by decide +kernel
theorem dX12_plan_27 : decode cX12_plan 27 = .ok (.ifCond .ne 7, 3) := by decide +kernel
theorem dX12_plan_30 : decode cX12_plan 30 = .ok (.iload_n 3, 1) := by decide +kernel
theorem dX12_plan_31 : decode cX12_plan 31 = .ok (.goto 10, 3) := by decide +kernel
theorem dX12_plan_34 : decode cX12_plan 34 = .ok (.aload_n 0, 1) := by decide +kernel
theorem dX12_plan_35 : decode cX12_plan 35 = .ok (.getfield 45, 3) := by decide +kernel
theorem dX12_plan_38 : decode cX12_plan 38 = .ok (.getfield 282, 3) := by decide +kernel
theorem dX12_plan_41 : decode cX12_plan 41 = .ok (.ireturn, 1) := by decide +kernel
theorem dX12_wins_0 : decode cX12_wins 0 = .ok (.aload_n 0, 1) := by decide +kernel
theorem dX12_wins_1 : decode cX12_wins 1 = .ok (.iload_n 1, 1) := by decide +kernel
theorem dX12_wins_2 : decode cX12_wins 2 = .ok (.invokevirtual 285, 3) := by decide +kernel
theorem dX12_wins_5 : decode cX12_wins 5 = .ok (.aload_n 0, 1) := by decide +kernel
theorem dX12_wins_6 : decode cX12_wins 6 = .ok (.iload_n 2, 1) := by decide +kernel
theorem dX12_wins_7 : decode cX12_wins 7 = .ok (.invokevirtual 288, 3) := by decide +kernel
theorem dX12_wins_10 : decode cX12_wins 10 = .ok (.aload_n 0, 1) := by decide +kernel
theorem dX12_wins_11 : decode cX12_wins 11 = .ok (.iload_n 1, 1) := by decide +kernel
theorem dX12_wins_12 : decode cX12_wins 12 = .ok (.iload_n 2, 1) := by decide +kernel
theorem dX12_wins_13 : decode cX12_wins 13 = .ok (.invokevirtual 291, 3) := by decide +kernel
theorem dX12_wins_16 : decode cX12_wins 16 = .ok (.aload_n 0, 1) := by decide +kernel
theorem dX12_wins_17 : decode cX12_wins 17 = .ok (.getfield 36, 3) := by decide +kernel
theorem dX12_wins_20 : decode cX12_wins 20 = .ok (.getfield 111, 3) := by decide +kernel
theorem dX12_wins_23 : decode cX12_wins 23 = .ok (.getfield 165, 3) := by decide +kernel
theorem dX12_wins_26 : decode cX12_wins 26 = .ok (.getfield 294, 3) := by decide +kernel
theorem dX12_wins_29 : decode cX12_wins 29 = .ok (.iload_n 2, 1) := by decide +kernel
theorem dX12_wins_30 : decode cX12_wins 30 = .ok (.iaload, 1) := by decide +kernel
theorem dX12_wins_31 : decode cX12_wins 31 = .ok (.if_icmp .le 7, 3) := by decide +kernel
theorem dX12_wins_34 : decode cX12_wins 34 = .ok (.iconst 1, 1) := by decide +kernel
theorem dX12_wins_35 : decode cX12_wins 35 = .ok (.goto 4, 3) := by decide +kernel
theorem dX12_wins_38 : decode cX12_wins 38 = .ok (.iconst 0, 1) := by decide +kernel
theorem dX12_wins_39 : decode cX12_wins 39 = .ok (.ireturn, 1) := by decide +kernel
theorem dX12_assault_0 : decode cX12_assault 0 = .ok (.iconst 1, 1) := by decide +kernel
theorem dX12_assault_1 : decode cX12_assault 1 = .ok (.aload_n 0, 1) := by decide +kernel
theorem dX12_assault_2 : decode cX12_assault 2 = .ok (.getfield 36, 3) := by decide +kernel
theorem dX12_assault_5 : decode cX12_assault 5 = .ok (.getfield 111, 3) := by decide +kernel
theorem dX12_assault_8 : decode cX12_assault 8 = .ok (.getfield 165, 3) := by decide +kernel
theorem dX12_assault_11 : decode cX12_assault 11 = .ok (.getfield 162, 3) := by decide +kernel
theorem dX12_assault_14 : decode cX12_assault 14 = .ok (.ishl, 1) := by decide +kernel
theorem dX12_assault_15 : decode cX12_assault 15 = .ok (.iconst 1, 1) := by decide +kernel
theorem dX12_assault_16 : decode cX12_assault 16 = .ok (.isub, 1) := by decide +kernel
theorem dX12_assault_17 : decode cX12_assault 17 = .ok (.istore_n 2, 1) := by decide +kernel
theorem dX12_assault_18 : decode cX12_assault 18 = .ok (.iload_n 1, 1) := by decide +kernel
theorem dX12_assault_19 : decode cX12_assault 19 = .ok (.iconst (-1), 1) := by decide +kernel
theorem dX12_assault_20 : decode cX12_assault 20 = .ok (.if_icmp .ne 15, 3) := by decide +kernel
theorem dX12_assault_23 : decode cX12_assault 23 = .ok (.aload_n 0, 1) := by decide +kernel
theorem dX12_assault_24 : decode cX12_assault 24 = .ok (.iconst 0, 1) := by decide +kernel
theorem dX12_assault_25 : decode cX12_assault 25 = .ok (.invokevirtual 297, 3) := by decide +kernel
theorem dX12_assault_28 : decode cX12_assault 28 = .ok (.aload_n 0, 1) := by decide +kernel
theorem dX12_assault_29 : decode cX12_assault 29 = .ok (.getfield 86, 3) := by decide +kernel
theorem dX12_assault_32 : decode cX12_assault 32 = .ok (.iload_n 2, 1) := by decide +kernel
theorem dX12_assault_33 : decode cX12_assault 33 = .ok (.iaload, 1) := by decide +kernel
theorem dX12_assault_34 : decode cX12_assault 34 = .ok (.ireturn, 1) := by decide +kernel
theorem dX12_assault_35 : decode cX12_assault 35 = .ok (.aload_n 0, 1) := by decide +kernel
theorem dX12_assault_36 : decode cX12_assault 36 = .ok (.iload_n 1, 1) := by decide +kernel
theorem dX12_assault_37 : decode cX12_assault 37 = .ok (.invokevirtual 285, 3) := by decide +kernel
theorem dX12_assault_40 : decode cX12_assault 40 = .ok (.iconst (-1), 1) := by decide +kernel
theorem dX12_assault_41 : decode cX12_assault 41 = .ok (.istore_n 3, 1) := by decide +kernel
theorem dX12_assault_42 : decode cX12_assault 42 = .ok (.iconst 0, 1) := by decide +kernel
theorem dX12_assault_43 : decode cX12_assault 43 = .ok (.istore 4, 2) := by decide +kernel
theorem dX12_assault_45 : decode cX12_assault 45 = .ok (.iload 4, 2) := by decide +kernel
theorem dX12_assault_47 : decode cX12_assault 47 = .ok (.iload_n 1, 1) := by decide +kernel
theorem dX12_assault_48 : decode cX12_assault 48 = .ok (.if_icmp .gt 38, 3) := by decide +kernel
theorem dX12_assault_51 : decode cX12_assault 51 = .ok (.aload_n 0, 1) := by decide +kernel
theorem dX12_assault_52 : decode cX12_assault 52 = .ok (.iload 4, 2) := by decide +kernel
theorem dX12_assault_54 : decode cX12_assault 54 = .ok (.iconst 1, 1) := by decide +kernel
theorem dX12_assault_55 : decode cX12_assault 55 = .ok (.iadd, 1) := by decide +kernel
theorem dX12_assault_56 : decode cX12_assault 56 = .ok (.invokevirtual 297, 3) := by decide +kernel
theorem dX12_assault_59 : decode cX12_assault 59 = .ok (.aload_n 0, 1) := by decide +kernel
theorem dX12_assault_60 : decode cX12_assault 60 = .ok (.iload 4, 2) := by decide +kernel
theorem dX12_assault_62 : decode cX12_assault 62 = .ok (.iload_n 2, 1) := by decide +kernel
theorem dX12_assault_63 : decode cX12_assault 63 = .ok (.invokevirtual 300, 3) := by decide +kernel
theorem dX12_assault_66 : decode cX12_assault 66 = .ok (.istore_n 3, 1) := by decide +kernel
theorem dX12_assault_67 : decode cX12_assault 67 = .ok (.iload_n 3, 1) := by decide +kernel
theorem dX12_assault_68 : decode cX12_assault 68 = .ok (.iconst (-1), 1) := by decide +kernel
theorem dX12_assault_69 : decode cX12_assault 69 = .ok (.if_icmp .eq 11, 3) := by decide +kernel
theorem dX12_assault_72 : decode cX12_assault 72 = .ok (.iload_n 2, 1) := by decide +kernel
theorem dX12_assault_73 : decode cX12_assault 73 = .ok (.iconst 1, 1) := by decide +kernel
theorem dX12_assault_74 : decode cX12_assault 74 = .ok (.iload_n 3, 1) := by decide +kernel
theorem dX12_assault_75 : decode cX12_assault 75 = .ok (.ishl, 1) := by decide +kernel
theorem dX12_assault_76 : decode cX12_assault 76 = .ok (.iconst (-1), 1) := by decide +kernel
theorem dX12_assault_77 : decode cX12_assault 77 = .ok (.ixor, 1) := by decide +kernel
theorem dX12_assault_78 : decode cX12_assault 78 = .ok (.iand, 1) := by decide +kernel
theorem dX12_assault_79 : decode cX12_assault 79 = .ok (.istore_n 2, 1) := by decide +kernel
theorem dX12_assault_80 : decode cX12_assault 80 = .ok (.iinc 4 1, 3) := by decide +kernel
theorem dX12_assault_83 : decode cX12_assault 83 = .ok (.goto (-38), 3) := by decide +kernel
theorem dX12_assault_86 : decode cX12_assault 86 = .ok (.iload_n 3, 1) := by decide +kernel
theorem dX12_assault_87 : decode cX12_assault 87 = .ok (.ireturn, 1) := by decide +kernel
theorem dX12_fillReach_0 : decode cX12_fillReach 0 = .ok (.aload_n 0, 1) := by decide +kernel
theorem dX12_fillReach_1 : decode cX12_fillReach 1 = .ok (.getfield 36, 3) := by decide +kernel
theorem dX12_fillReach_4 : decode cX12_fillReach 4 = .ok (.getfield 111, 3) := by decide +kernel
theorem dX12_fillReach_7 : decode cX12_fillReach 7 = .ok (.getfield 165, 3) := by decide +kernel
theorem dX12_fillReach_10 : decode cX12_fillReach 10 = .ok (.getfield 162, 3) := by decide +kernel
theorem dX12_fillReach_13 : decode cX12_fillReach 13 = .ok (.istore_n 2, 1) := by decide +kernel
theorem dX12_fillReach_14 : decode cX12_fillReach 14 = .ok (.iconst 0, 1) := by decide +kernel
theorem dX12_fillReach_15 : decode cX12_fillReach 15 = .ok (.istore_n 3, 1) := by decide +kernel
theorem dX12_fillReach_16 : decode cX12_fillReach 16 = .ok (.iload_n 3, 1) := by decide +kernel
theorem dX12_fillReach_17 : decode cX12_fillReach 17 = .ok (.aload_n 0, 1) := by decide +kernel
theorem dX12_fillReach_18 : decode cX12_fillReach 18 = .ok (.getfield 86, 3) := by decide +kernel
theorem dX12_fillReach_21 : decode cX12_fillReach 21 = .ok (.arraylength, 1) := by decide +kernel
theorem dX12_fillReach_22 : decode cX12_fillReach 22 = .ok (.if_icmp .ge 16, 3) := by decide +kernel
theorem dX12_fillReach_25 : decode cX12_fillReach 25 = .ok (.aload_n 0, 1) := by decide +kernel
theorem dX12_fillReach_26 : decode cX12_fillReach 26 = .ok (.getfield 86, 3) := by decide +kernel
theorem dX12_fillReach_29 : decode cX12_fillReach 29 = .ok (.iload_n 3, 1) := by decide +kernel
theorem dX12_fillReach_30 : decode cX12_fillReach 30 = .ok (.iconst 0, 1) := by decide +kernel
theorem dX12_fillReach_31 : decode cX12_fillReach 31 = .ok (.iastore, 1) := by decide +kernel
theorem dX12_fillReach_32 : decode cX12_fillReach 32 = .ok (.iinc 3 1, 3) := by decide +kernel
theorem dX12_fillReach_35 : decode cX12_fillReach 35 = .ok (.goto (-19), 3) := by decide +kernel
theorem dX12_fillReach_38 : decode cX12_fillReach 38 = .ok (.aload_n 0, 1) := by decide +kernel
theorem dX12_fillReach_39 : decode cX12_fillReach 39 = .ok (.getfield 36, 3) := by decide +kernel
theorem dX12_fillReach_42 : decode cX12_fillReach 42 = .ok (.getfield 111, 3) := by decide +kernel
theorem dX12_fillReach_45 : decode cX12_fillReach 45 = .ok (.getfield 158, 3) := by decide +kernel
theorem dX12_fillReach_48 : decode cX12_fillReach 48 = .ok (.getfield 162, 3) := by decide +kernel
theorem dX12_fillReach_51 : decode cX12_fillReach 51 = .ok (.iconst 1, 1) := by decide +kernel
theorem dX12_fillReach_52 : decode cX12_fillReach 52 = .ok (.isub, 1) := by decide +kernel
theorem dX12_fillReach_53 : decode cX12_fillReach 53 = .ok (.istore_n 3, 1) := by decide +kernel
theorem dX12_fillReach_54 : decode cX12_fillReach 54 = .ok (.iload_n 3, 1) := by decide +kernel
theorem dX12_fillReach_55 : decode cX12_fillReach 55 = .ok (.iload_n 1, 1) := by decide +kernel
theorem dX12_fillReach_56 : decode cX12_fillReach 56 = .ok (.if_icmp .lt 107, 3) := by decide +kernel
theorem dX12_fillReach_59 : decode cX12_fillReach 59 = .ok (.aload_n 0, 1) := by decide +kernel
theorem dX12_fillReach_60 : decode cX12_fillReach 60 = .ok (.iload_n 3, 1) := by decide +kernel
theorem dX12_fillReach_61 : decode cX12_fillReach 61 = .ok (.invokevirtual 303, 3) := by decide +kernel
theorem dX12_fillReach_64 : decode cX12_fillReach 64 = .ok (.istore 4, 2) := by decide +kernel
theorem dX12_fillReach_66 : decode cX12_fillReach 66 = .ok (.iconst 1, 1) := by decide +kernel
theorem dX12_fillReach_67 : decode cX12_fillReach 67 = .ok (.iload_n 2, 1) := by decide +kernel
theorem dX12_fillReach_68 : decode cX12_fillReach 68 = .ok (.ishl, 1) := by decide +kernel
theorem dX12_fillReach_69 : decode cX12_fillReach 69 = .ok (.iconst 1, 1) := by decide +kernel
theorem dX12_fillReach_70 : decode cX12_fillReach 70 = .ok (.isub, 1) := by decide +kernel
theorem dX12_fillReach_71 : decode cX12_fillReach 71 = .ok (.istore 5, 2) := by decide +kernel
theorem dX12_fillReach_73 : decode cX12_fillReach 73 = .ok (.iload 5, 2) := by decide +kernel
theorem dX12_fillReach_75 : decode cX12_fillReach 75 = .ok (.ifCond .le 82, 3) := by decide +kernel
theorem dX12_fillReach_78 : decode cX12_fillReach 78 = .ok (.iconst 0, 1) := by decide +kernel
theorem dX12_fillReach_79 : decode cX12_fillReach 79 = .ok (.istore 6, 2) := by decide +kernel
theorem dX12_fillReach_81 : decode cX12_fillReach 81 = .ok (.iload 6, 2) := by decide +kernel
theorem dX12_fillReach_83 : decode cX12_fillReach 83 = .ok (.iload_n 2, 1) := by decide +kernel
theorem dX12_fillReach_84 : decode cX12_fillReach 84 = .ok (.if_icmp .ge 67, 3) := by decide +kernel
theorem dX12_fillReach_87 : decode cX12_fillReach 87 = .ok (.iconst 1, 1) := by decide +kernel
theorem dX12_fillReach_88 : decode cX12_fillReach 88 = .ok (.iload 6, 2) := by decide +kernel
theorem dX12_fillReach_90 : decode cX12_fillReach 90 = .ok (.ishl, 1) := by decide +kernel
theorem dX12_fillReach_91 : decode cX12_fillReach 91 = .ok (.istore 7, 2) := by decide +kernel
theorem dX12_fillReach_93 : decode cX12_fillReach 93 = .ok (.iload 5, 2) := by decide +kernel
theorem dX12_fillReach_95 : decode cX12_fillReach 95 = .ok (.iload 4, 2) := by decide +kernel
theorem dX12_fillReach_97 : decode cX12_fillReach 97 = .ok (.iand, 1) := by decide +kernel
theorem dX12_fillReach_98 : decode cX12_fillReach 98 = .ok (.iload 7, 2) := by decide +kernel
theorem dX12_fillReach_100 : decode cX12_fillReach 100 = .ok (.iand, 1) := by decide +kernel
theorem dX12_fillReach_101 : decode cX12_fillReach 101 = .ok (.ifCond .eq 44, 3) := by decide +kernel
theorem dX12_fillReach_104 : decode cX12_fillReach 104 = .ok (.aload_n 0, 1) := by decide +kernel
theorem dX12_fillReach_105 : decode cX12_fillReach 105 = .ok (.getfield 86, 3) := by decide +kernel
theorem dX12_fillReach_108 : decode cX12_fillReach 108 = .ok (.iload 5, 2) := by decide +kernel
theorem dX12_fillReach_110 : decode cX12_fillReach 110 = .ok (.iload 7, 2) := by decide +kernel
theorem dX12_fillReach_112 : decode cX12_fillReach 112 = .ok (.ixor, 1) := by decide +kernel
theorem dX12_fillReach_113 : decode cX12_fillReach 113 = .ok (.iaload, 1) := by decide +kernel
theorem dX12_fillReach_114 : decode cX12_fillReach 114 = .ok (.iconst 1, 1) := by decide +kernel
theorem dX12_fillReach_115 : decode cX12_fillReach 115 = .ok (.iadd, 1) := by decide +kernel
theorem dX12_fillReach_116 : decode cX12_fillReach 116 = .ok (.aload_n 0, 1) := by decide +kernel
theorem dX12_fillReach_117 : decode cX12_fillReach 117 = .ok (.getfield 86, 3) := by decide +kernel
theorem dX12_fillReach_120 : decode cX12_fillReach 120 = .ok (.iload 5, 2) := by decide +kernel
theorem dX12_fillReach_122 : decode cX12_fillReach 122 = .ok (.iaload, 1) := by decide +kernel
theorem dX12_fillReach_123 : decode cX12_fillReach 123 = .ok (.if_icmp .le 22, 3) := by decide +kernel
theorem dX12_fillReach_126 : decode cX12_fillReach 126 = .ok (.aload_n 0, 1) := by decide +kernel
theorem dX12_fillReach_127 : decode cX12_fillReach 127 = .ok (.getfield 86, 3) := by decide +kernel
theorem dX12_fillReach_130 : decode cX12_fillReach 130 = .ok (.iload 5, 2) := by decide +kernel
theorem dX12_fillReach_132 : decode cX12_fillReach 132 = .ok (.aload_n 0, 1) := by decide +kernel
theorem dX12_fillReach_133 : decode cX12_fillReach 133 = .ok (.getfield 86, 3) := by decide +kernel
theorem dX12_fillReach_136 : decode cX12_fillReach 136 = .ok (.iload 5, 2) := by decide +kernel
theorem dX12_fillReach_138 : decode cX12_fillReach 138 = .ok (.iload 7, 2) := by decide +kernel
theorem dX12_fillReach_140 : decode cX12_fillReach 140 = .ok (.ixor, 1) := by decide +kernel
theorem dX12_fillReach_141 : decode cX12_fillReach 141 = .ok (.iaload, 1) := by decide +kernel
theorem dX12_fillReach_142 : decode cX12_fillReach 142 = .ok (.iconst 1, 1) := by decide +kernel
theorem dX12_fillReach_143 : decode cX12_fillReach 143 = .ok (.iadd, 1) := by decide +kernel
theorem dX12_fillReach_144 : decode cX12_fillReach 144 = .ok (.iastore, 1) := by decide +kernel
theorem dX12_fillReach_145 : decode cX12_fillReach 145 = .ok (.iinc 6 1, 3) := by decide +kernel
theorem dX12_fillReach_148 : decode cX12_fillReach 148 = .ok (.goto (-67), 3) := by decide +kernel
theorem dX12_fillReach_151 : decode cX12_fillReach 151 = .ok (.iinc 5 (-1), 3) := by decide +kernel
theorem dX12_fillReach_154 : decode cX12_fillReach 154 = .ok (.goto (-81), 3) := by decide +kernel
theorem dX12_fillReach_157 : decode cX12_fillReach 157 = .ok (.iinc 3 (-1), 3) := by decide +kernel
theorem dX12_fillReach_160 : decode cX12_fillReach 160 = .ok (.goto (-106), 3) := by decide +kernel
theorem dX12_fillReach_163 : decode cX12_fillReach 163 = .ok (.return_, 1) := by decide +kernel
theorem dX12_bestGate_0 : decode cX12_bestGate 0 = .ok (.aload_n 0, 1) := by decide +kernel
theorem dX12_bestGate_1 : decode cX12_bestGate 1 = .ok (.iload_n 1, 1) := by decide +kernel
theorem dX12_bestGate_2 : decode cX12_bestGate 2 = .ok (.invokevirtual 303, 3) := by decide +kernel
theorem dX12_bestGate_5 : decode cX12_bestGate 5 = .ok (.iload_n 2, 1) := by decide +kernel
theorem dX12_bestGate_6 : decode cX12_bestGate 6 = .ok (.iand, 1) := by decide +kernel
theorem dX12_bestGate_7 : decode cX12_bestGate 7 = .ok (.istore_n 3, 1) := by decide +kernel
theorem dX12_bestGate_8 : decode cX12_bestGate 8 = .ok (.iconst (-1), 1) := by decide +kernel
theorem dX12_bestGate_9 : decode cX12_bestGate 9 = .ok (.istore 4, 2) := by decide +kernel
theorem dX12_bestGate_11 : decode cX12_bestGate 11 = .ok (.iconst 0, 1) := by decide +kernel
theorem dX12_bestGate_12 : decode cX12_bestGate 12 = .ok (.istore 5, 2) := by decide +kernel
theorem dX12_bestGate_14 : decode cX12_bestGate 14 = .ok (.iconst 0, 1) := by decide +kernel
theorem dX12_bestGate_15 : decode cX12_bestGate 15 = .ok (.istore 6, 2) := by decide +kernel
theorem dX12_bestGate_17 : decode cX12_bestGate 17 = .ok (.iload 6, 2) := by decide +kernel
theorem dX12_bestGate_19 : decode cX12_bestGate 19 = .ok (.bipush 7, 2) := by decide +kernel
theorem dX12_bestGate_21 : decode cX12_bestGate 21 = .ok (.if_icmp .ge 55, 3) := by decide +kernel
theorem dX12_bestGate_24 : decode cX12_bestGate 24 = .ok (.iconst 1, 1) := by decide +kernel
theorem dX12_bestGate_25 : decode cX12_bestGate 25 = .ok (.iload 6, 2) := by decide +kernel
theorem dX12_bestGate_27 : decode cX12_bestGate 27 = .ok (.ishl, 1) := by decide +kernel
theorem dX12_bestGate_28 : decode cX12_bestGate 28 = .ok (.istore 7, 2) := by decide +kernel
theorem dX12_bestGate_30 : decode cX12_bestGate 30 = .ok (.iload_n 3, 1) := by decide +kernel
theorem dX12_bestGate_31 : decode cX12_bestGate 31 = .ok (.iload 7, 2) := by decide +kernel
theorem dX12_bestGate_33 : decode cX12_bestGate 33 = .ok (.iand, 1) := by decide +kernel
theorem dX12_bestGate_34 : decode cX12_bestGate 34 = .ok (.ifCond .eq 36, 3) := by decide +kernel
theorem dX12_bestGate_37 : decode cX12_bestGate 37 = .ok (.aload_n 0, 1) := by decide +kernel
theorem dX12_bestGate_38 : decode cX12_bestGate 38 = .ok (.getfield 86, 3) := by decide +kernel
theorem dX12_bestGate_41 : decode cX12_bestGate 41 = .ok (.iload_n 2, 1) := by decide +kernel
theorem dX12_bestGate_42 : decode cX12_bestGate 42 = .ok (.iload 7, 2) := by decide +kernel
theorem dX12_bestGate_44 : decode cX12_bestGate 44 = .ok (.ixor, 1) := by decide +kernel
theorem dX12_bestGate_45 : decode cX12_bestGate 45 = .ok (.iaload, 1) := by decide +kernel
theorem dX12_bestGate_46 : decode cX12_bestGate 46 = .ok (.iconst 1, 1) := by decide +kernel
theorem dX12_bestGate_47 : decode cX12_bestGate 47 = .ok (.iadd, 1) := by decide +kernel
theorem dX12_bestGate_48 : decode cX12_bestGate 48 = .ok (.iload 5, 2) := by decide +kernel
theorem dX12_bestGate_50 : decode cX12_bestGate 50 = .ok (.if_icmp .le 20, 3) := by decide +kernel
theorem dX12_bestGate_53 : decode cX12_bestGate 53 = .ok (.aload_n 0, 1) := by decide +kernel
theorem dX12_bestGate_54 : decode cX12_bestGate 54 = .ok (.getfield 86, 3) := by decide +kernel
theorem dX12_bestGate_57 : decode cX12_bestGate 57 = .ok (.iload_n 2, 1) := by decide +kernel
theorem dX12_bestGate_58 : decode cX12_bestGate 58 = .ok (.iload 7, 2) := by decide +kernel
theorem dX12_bestGate_60 : decode cX12_bestGate 60 = .ok (.ixor, 1) := by decide +kernel
theorem dX12_bestGate_61 : decode cX12_bestGate 61 = .ok (.iaload, 1) := by decide +kernel
theorem dX12_bestGate_62 : decode cX12_bestGate 62 = .ok (.iconst 1, 1) := by decide +kernel
theorem dX12_bestGate_63 : decode cX12_bestGate 63 = .ok (.iadd, 1) := by decide +kernel
theorem dX12_bestGate_64 : decode cX12_bestGate 64 = .ok (.istore 5, 2) := by decide +kernel
theorem dX12_bestGate_66 : decode cX12_bestGate 66 = .ok (.iload 6, 2) := by decide +kernel
theorem dX12_bestGate_68 : decode cX12_bestGate 68 = .ok (.istore 4, 2) := by decide +kernel
theorem dX12_bestGate_70 : decode cX12_bestGate 70 = .ok (.iinc 6 1, 3) := by decide +kernel
theorem dX12_bestGate_73 : decode cX12_bestGate 73 = .ok (.goto (-56), 3) := by decide +kernel
theorem dX12_bestGate_76 : decode cX12_bestGate 76 = .ok (.aload_n 0, 1) := by decide +kernel
theorem dX12_bestGate_77 : decode cX12_bestGate 77 = .ok (.getfield 86, 3) := by decide +kernel
theorem dX12_bestGate_80 : decode cX12_bestGate 80 = .ok (.iload_n 2, 1) := by decide +kernel
theorem dX12_bestGate_81 : decode cX12_bestGate 81 = .ok (.iaload, 1) := by decide +kernel
theorem dX12_bestGate_82 : decode cX12_bestGate 82 = .ok (.iload 5, 2) := by decide +kernel
theorem dX12_bestGate_84 : decode cX12_bestGate 84 = .ok (.if_icmp .le 7, 3) := by decide +kernel
theorem dX12_bestGate_87 : decode cX12_bestGate 87 = .ok (.iconst (-1), 1) := by decide +kernel
theorem dX12_bestGate_88 : decode cX12_bestGate 88 = .ok (.goto 5, 3) := by decide +kernel
theorem dX12_bestGate_91 : decode cX12_bestGate 91 = .ok (.iload 4, 2) := by decide +kernel
theorem dX12_bestGate_93 : decode cX12_bestGate 93 = .ok (.ireturn, 1) := by decide +kernel
theorem dX12_bought_0 : decode cX12_bought 0 = .ok (.aload_n 0, 1) := by decide +kernel
theorem dX12_bought_1 : decode cX12_bought 1 = .ok (.iload_n 1, 1) := by decide +kernel
theorem dX12_bought_2 : decode cX12_bought 2 = .ok (.iconst 1, 1) := by decide +kernel
theorem dX12_bought_3 : decode cX12_bought 3 = .ok (.invokevirtual 261, 3) := by decide +kernel
theorem dX12_bought_6 : decode cX12_bought 6 = .ok (.iconst 0, 1) := by decide +kernel
theorem dX12_bought_7 : decode cX12_bought 7 = .ok (.istore_n 2, 1) := by decide +kernel
theorem dX12_bought_8 : decode cX12_bought 8 = .ok (.iconst 0, 1) := by decide +kernel
theorem dX12_bought_9 : decode cX12_bought 9 = .ok (.istore_n 3, 1) := by decide +kernel
theorem dX12_bought_10 : decode cX12_bought 10 = .ok (.iconst 0, 1) := by decide +kernel
theorem dX12_bought_11 : decode cX12_bought 11 = .ok (.istore 4, 2) := by decide +kernel
theorem dX12_bought_13 : decode cX12_bought 13 = .ok (.iload 4, 2) := by decide +kernel
theorem dX12_bought_15 : decode cX12_bought 15 = .ok (.iconst 1, 1) := by decide +kernel
theorem dX12_bought_16 : decode cX12_bought 16 = .ok (.aload_n 0, 1) := by decide +kernel
theorem dX12_bought_17 : decode cX12_bought 17 = .ok (.getfield 36, 3) := by decide +kernel
theorem dX12_bought_20 : decode cX12_bought 20 = .ok (.getfield 111, 3) := by decide +kernel
theorem dX12_bought_23 : decode cX12_bought 23 = .ok (.getfield 165, 3) := by decide +kernel
theorem dX12_bought_26 : decode cX12_bought 26 = .ok (.getfield 162, 3) := by decide +kernel
theorem dX12_bought_29 : decode cX12_bought 29 = .ok (.ishl, 1) := by decide +kernel
theorem dX12_bought_30 : decode cX12_bought 30 = .ok (.if_icmp .ge 98, 3) := by decide +kernel
theorem dX12_bought_33 : decode cX12_bought 33 = .ok (.iconst 0, 1) := by decide +kernel
theorem dX12_bought_34 : decode cX12_bought 34 = .ok (.istore 5, 2) := by decide +kernel
theorem dX12_bought_36 : decode cX12_bought 36 = .ok (.iconst 0, 1) := by decide +kernel
theorem dX12_bought_37 : decode cX12_bought 37 = .ok (.istore 6, 2) := by decide +kernel
theorem dX12_bought_39 : decode cX12_bought 39 = .ok (.iload 6, 2) := by decide +kernel
theorem dX12_bought_41 : decode cX12_bought 41 = .ok (.aload_n 0, 1) := by decide +kernel
theorem dX12_bought_42 : decode cX12_bought 42 = .ok (.getfield 36, 3) := by decide +kernel
theorem dX12_bought_45 : decode cX12_bought 45 = .ok (.getfield 111, 3) := by decide +kernel
theorem dX12_bought_48 : decode cX12_bought 48 = .ok (.getfield 158, 3) := by decide +kernel
theorem dX12_bought_51 : decode cX12_bought 51 = .ok (.getfield 162, 3) := by decide +kernel
theorem dX12_bought_54 : decode cX12_bought 54 = .ok (.if_icmp .ge 32, 3) := by decide +kernel
theorem dX12_bought_57 : decode cX12_bought 57 = .ok (.aload_n 0, 1) := by decide +kernel
theorem dX12_bought_58 : decode cX12_bought 58 = .ok (.iload 6, 2) := by decide +kernel
theorem dX12_bought_60 : decode cX12_bought 60 = .ok (.invokevirtual 303, 3) := by decide +kernel
theorem dX12_bought_63 : decode cX12_bought 63 = .ok (.iload 4, 2) := by decide +kernel
theorem dX12_bought_65 : decode cX12_bought 65 = .ok (.iconst (-1), 1) := by decide +kernel
theorem dX12_bought_66 : decode cX12_bought 66 = .ok (.ixor, 1) := by decide +kernel
theorem dX12_bought_67 : decode cX12_bought 67 = .ok (.iand, 1) := by decide +kernel
theorem dX12_bought_68 : decode cX12_bought 68 = .ok (.ifCond .eq 12, 3) := by decide +kernel
theorem dX12_bought_71 : decode cX12_bought 71 = .ok (.iload 5, 2) := by decide +kernel
theorem dX12_bought_73 : decode cX12_bought 73 = .ok (.iconst 1, 1) := by decide +kernel
theorem dX12_bought_74 : decode cX12_bought 74 = .ok (.iload 6, 2) := by decide +kernel
theorem dX12_bought_76 : decode cX12_bought 76 = .ok (.ishl, 1) := by decide +kernel
theorem dX12_bought_77 : decode cX12_bought 77 = .ok (.ior, 1) := by decide +kernel
theorem dX12_bought_78 : decode cX12_bought 78 = .ok (.istore 5, 2) := by decide +kernel
theorem dX12_bought_80 : decode cX12_bought 80 = .ok (.iinc 6 1, 3) := by decide +kernel
theorem dX12_bought_83 : decode cX12_bought 83 = .ok (.goto (-44), 3) := by decide +kernel
theorem dX12_bought_86 : decode cX12_bought 86 = .ok (.iload 4, 2) := by decide +kernel
theorem dX12_bought_88 : decode cX12_bought 88 = .ok (.invokestatic 306, 3) := by decide +kernel
theorem dX12_bought_91 : decode cX12_bought 91 = .ok (.iload 5, 2) := by decide +kernel
theorem dX12_bought_93 : decode cX12_bought 93 = .ok (.invokestatic 306, 3) := by decide +kernel
theorem dX12_bought_96 : decode cX12_bought 96 = .ok (.iadd, 1) := by decide +kernel
theorem dX12_bought_97 : decode cX12_bought 97 = .ok (.istore 6, 2) := by decide +kernel
theorem dX12_bought_99 : decode cX12_bought 99 = .ok (.iload 4, 2) := by decide +kernel
theorem dX12_bought_101 : decode cX12_bought 101 = .ok (.ifCond .eq 9, 3) := by decide +kernel
theorem dX12_bought_104 : decode cX12_bought 104 = .ok (.iload 6, 2) := by decide +kernel
theorem dX12_bought_106 : decode cX12_bought 106 = .ok (.iload_n 2, 1) := by decide +kernel
theorem dX12_bought_107 : decode cX12_bought 107 = .ok (.if_icmp .ge 15, 3) := by decide +kernel
theorem dX12_bought_110 : decode cX12_bought 110 = .ok (.iload 6, 2) := by decide +kernel
theorem dX12_bought_112 : decode cX12_bought 112 = .ok (.istore_n 2, 1) := by decide +kernel
theorem dX12_bought_113 : decode cX12_bought 113 = .ok (.iload 4, 2) := by decide +kernel
theorem dX12_bought_115 : decode cX12_bought 115 = .ok (.bipush 7, 2) := by decide +kernel
theorem dX12_bought_117 : decode cX12_bought 117 = .ok (.ishl, 1) := by decide +kernel
theorem dX12_bought_118 : decode cX12_bought 118 = .ok (.iload 5, 2) := by decide +kernel
theorem dX12_bought_120 : decode cX12_bought 120 = .ok (.ior, 1) := by decide +kernel
theorem dX12_bought_121 : decode cX12_bought 121 = .ok (.istore_n 3, 1) := by decide +kernel
theorem dX12_bought_122 : decode cX12_bought 122 = .ok (.iinc 4 1, 3) := by decide +kernel
theorem dX12_bought_125 : decode cX12_bought 125 = .ok (.goto (-112), 3) := by decide +kernel
theorem dX12_bought_128 : decode cX12_bought 128 = .ok (.iload_n 1, 1) := by decide +kernel
theorem dX12_bought_129 : decode cX12_bought 129 = .ok (.ifCond .ne 7, 3) := by decide +kernel
theorem dX12_bought_132 : decode cX12_bought 132 = .ok (.iload_n 2, 1) := by decide +kernel
theorem dX12_bought_133 : decode cX12_bought 133 = .ok (.goto 4, 3) := by decide +kernel
theorem dX12_bought_136 : decode cX12_bought 136 = .ok (.iload_n 3, 1) := by decide +kernel
theorem dX12_bought_137 : decode cX12_bought 137 = .ok (.ireturn, 1) := by decide +kernel
theorem dX12_guarded_0 : decode cX12_guarded 0 = .ok (.aload_n 0, 1) := by decide +kernel
theorem dX12_guarded_1 : decode cX12_guarded 1 = .ok (.iload_n 1, 1) := by decide +kernel
theorem dX12_guarded_2 : decode cX12_guarded 2 = .ok (.invokevirtual 288, 3) := by decide +kernel
theorem dX12_guarded_5 : decode cX12_guarded 5 = .ok (.iconst 0, 1) := by decide +kernel
theorem dX12_guarded_6 : decode cX12_guarded 6 = .ok (.istore_n 2, 1) := by decide +kernel
theorem dX12_guarded_7 : decode cX12_guarded 7 = .ok (.iconst 0, 1) := by decide +kernel
theorem dX12_guarded_8 : decode cX12_guarded 8 = .ok (.istore_n 3, 1) := by decide +kernel
theorem dX12_guarded_9 : decode cX12_guarded 9 = .ok (.iload_n 3, 1) := by decide +kernel
theorem dX12_guarded_10 : decode cX12_guarded 10 = .ok (.aload_n 0, 1) := by decide +kernel
theorem dX12_guarded_11 : decode cX12_guarded 11 = .ok (.getfield 36, 3) := by decide +kernel
theorem dX12_guarded_14 : decode cX12_guarded 14 = .ok (.getfield 111, 3) := by decide +kernel
theorem dX12_guarded_17 : decode cX12_guarded 17 = .ok (.getfield 158, 3) := by decide +kernel
theorem dX12_guarded_20 : decode cX12_guarded 20 = .ok (.getfield 162, 3) := by decide +kernel
theorem dX12_guarded_23 : decode cX12_guarded 23 = .ok (.if_icmp .ge 20, 3) := by decide +kernel
theorem dX12_guarded_26 : decode cX12_guarded 26 = .ok (.iload_n 2, 1) := by decide +kernel
theorem dX12_guarded_27 : decode cX12_guarded 27 = .ok (.aload_n 0, 1) := by decide +kernel
theorem dX12_guarded_28 : decode cX12_guarded 28 = .ok (.iload_n 3, 1) := by decide +kernel
theorem dX12_guarded_29 : decode cX12_guarded 29 = .ok (.iload_n 1, 1) := by decide +kernel
theorem dX12_guarded_30 : decode cX12_guarded 30 = .ok (.invokevirtual 291, 3) := by decide +kernel
theorem dX12_guarded_33 : decode cX12_guarded 33 = .ok (.invokestatic 254, 3) := by decide +kernel
theorem dX12_guarded_36 : decode cX12_guarded 36 = .ok (.istore_n 2, 1) := by decide +kernel
theorem dX12_guarded_37 : decode cX12_guarded 37 = .ok (.iinc 3 1, 3) := by decide +kernel
theorem dX12_guarded_40 : decode cX12_guarded 40 = .ok (.goto (-31), 3) := by decide +kernel
theorem dX12_guarded_43 : decode cX12_guarded 43 = .ok (.iload_n 2, 1) := by decide +kernel
theorem dX12_guarded_44 : decode cX12_guarded 44 = .ok (.ireturn, 1) := by decide +kernel
theorem dX12_edge_0 : decode cX12_edge 0 = .ok (.aload_n 0, 1) := by decide +kernel
theorem dX12_edge_1 : decode cX12_edge 1 = .ok (.getfield 36, 3) := by decide +kernel
theorem dX12_edge_4 : decode cX12_edge 4 = .ok (.getfield 111, 3) := by decide +kernel
theorem dX12_edge_7 : decode cX12_edge 7 = .ok (.getfield 158, 3) := by decide +kernel
theorem dX12_edge_10 : decode cX12_edge 10 = .ok (.astore_n 3, 1) := by decide +kernel
theorem dX12_edge_11 : decode cX12_edge 11 = .ok (.aload_n 3, 1) := by decide +kernel
theorem dX12_edge_12 : decode cX12_edge 12 = .ok (.getfield 311, 3) := by decide +kernel
theorem dX12_edge_15 : decode cX12_edge 15 = .ok (.iload_n 1, 1) := by decide +kernel
theorem dX12_edge_16 : decode cX12_edge 16 = .ok (.iaload, 1) := by decide +kernel
theorem dX12_edge_17 : decode cX12_edge 17 = .ok (.aload_n 0, 1) := by decide +kernel
theorem dX12_edge_18 : decode cX12_edge 18 = .ok (.getfield 36, 3) := by decide +kernel
theorem dX12_edge_21 : decode cX12_edge 21 = .ok (.getfield 111, 3) := by decide +kernel
theorem dX12_edge_24 : decode cX12_edge 24 = .ok (.getfield 165, 3) := by decide +kernel
theorem dX12_edge_27 : decode cX12_edge 27 = .ok (.getfield 311, 3) := by decide +kernel
theorem dX12_edge_30 : decode cX12_edge 30 = .ok (.iload_n 2, 1) := by decide +kernel
theorem dX12_edge_31 : decode cX12_edge 31 = .ok (.iaload, 1) := by decide +kernel
theorem dX12_edge_32 : decode cX12_edge 32 = .ok (.if_icmp .ne 7, 3) := by decide +kernel
theorem dX12_edge_35 : decode cX12_edge 35 = .ok (.iconst 1, 1) := by decide +kernel
theorem dX12_edge_36 : decode cX12_edge 36 = .ok (.goto 4, 3) := by decide +kernel
theorem dX12_edge_39 : decode cX12_edge 39 = .ok (.iconst 0, 1) := by decide +kernel
theorem dX12_edge_40 : decode cX12_edge 40 = .ok (.istore 4, 2) := by decide +kernel
theorem dX12_edge_42 : decode cX12_edge 42 = .ok (.aload_n 3, 1) := by decide +kernel
theorem dX12_edge_43 : decode cX12_edge 43 = .ok (.getfield 294, 3) := by decide +kernel
theorem dX12_edge_46 : decode cX12_edge 46 = .ok (.iload_n 1, 1) := by decide +kernel
theorem dX12_edge_47 : decode cX12_edge 47 = .ok (.iaload, 1) := by decide +kernel
theorem dX12_edge_48 : decode cX12_edge 48 = .ok (.iload 4, 2) := by decide +kernel
theorem dX12_edge_50 : decode cX12_edge 50 = .ok (.ifCond .eq 7, 3) := by decide +kernel
theorem dX12_edge_53 : decode cX12_edge 53 = .ok (.iconst 5, 1) := by decide +kernel
theorem dX12_edge_54 : decode cX12_edge 54 = .ok (.goto 4, 3) := by decide +kernel
theorem dX12_edge_57 : decode cX12_edge 57 = .ok (.iconst 0, 1) := by decide +kernel
theorem dX12_edge_58 : decode cX12_edge 58 = .ok (.iadd, 1) := by decide +kernel
theorem dX12_edge_59 : decode cX12_edge 59 = .ok (.aload_n 0, 1) := by decide +kernel
theorem dX12_edge_60 : decode cX12_edge 60 = .ok (.getfield 52, 3) := by decide +kernel
theorem dX12_edge_63 : decode cX12_edge 63 = .ok (.getfield 126, 3) := by decide +kernel
theorem dX12_edge_66 : decode cX12_edge 66 = .ok (.bipush 10, 2) := by decide +kernel
theorem dX12_edge_68 : decode cX12_edge 68 = .ok (.idiv, 1) := by decide +kernel
theorem dX12_edge_69 : decode cX12_edge 69 = .ok (.isub, 1) := by decide +kernel
theorem dX12_edge_70 : decode cX12_edge 70 = .ok (.ireturn, 1) := by decide +kernel
theorem dX12_beatenBy_0 : decode cX12_beatenBy 0 = .ok (.iconst 0, 1) := by decide +kernel
theorem dX12_beatenBy_1 : decode cX12_beatenBy 1 = .ok (.istore_n 2, 1) := by decide +kernel
theorem dX12_beatenBy_2 : decode cX12_beatenBy 2 = .ok (.iconst 0, 1) := by decide +kernel
theorem dX12_beatenBy_3 : decode cX12_beatenBy 3 = .ok (.istore_n 3, 1) := by decide +kernel
theorem dX12_beatenBy_4 : decode cX12_beatenBy 4 = .ok (.iload_n 3, 1) := by decide +kernel
theorem dX12_beatenBy_5 : decode cX12_beatenBy 5 = .ok (.aload_n 0, 1) := by decide +kernel
theorem dX12_beatenBy_6 : decode cX12_beatenBy 6 = .ok (.getfield 36, 3) := by decide +kernel
theorem dX12_beatenBy_9 : decode cX12_beatenBy 9 = .ok (.getfield 111, 3) := by decide +kernel
theorem dX12_beatenBy_12 : decode cX12_beatenBy 12 = .ok (.getfield 165, 3) := by decide +kernel
theorem dX12_beatenBy_15 : decode cX12_beatenBy 15 = .ok (.getfield 162, 3) := by decide +kernel
theorem dX12_beatenBy_18 : decode cX12_beatenBy 18 = .ok (.if_icmp .ge 39, 3) := by decide +kernel
theorem dX12_beatenBy_21 : decode cX12_beatenBy 21 = .ok (.aload_n 0, 1) := by decide +kernel
theorem dX12_beatenBy_22 : decode cX12_beatenBy 22 = .ok (.iload_n 1, 1) := by decide +kernel
theorem dX12_beatenBy_23 : decode cX12_beatenBy 23 = .ok (.iload_n 3, 1) := by decide +kernel
theorem dX12_beatenBy_24 : decode cX12_beatenBy 24 = .ok (.invokevirtual 291, 3) := by decide +kernel
theorem dX12_beatenBy_27 : decode cX12_beatenBy 27 = .ok (.aload_n 0, 1) := by decide +kernel
theorem dX12_beatenBy_28 : decode cX12_beatenBy 28 = .ok (.getfield 36, 3) := by decide +kernel
theorem dX12_beatenBy_31 : decode cX12_beatenBy 31 = .ok (.getfield 111, 3) := by decide +kernel
theorem dX12_beatenBy_34 : decode cX12_beatenBy 34 = .ok (.getfield 165, 3) := by decide +kernel
theorem dX12_beatenBy_37 : decode cX12_beatenBy 37 = .ok (.getfield 294, 3) := by decide +kernel
theorem dX12_beatenBy_40 : decode cX12_beatenBy 40 = .ok (.iload_n 3, 1) := by decide +kernel
theorem dX12_beatenBy_41 : decode cX12_beatenBy 41 = .ok (.iaload, 1) := by decide +kernel
theorem dX12_beatenBy_42 : decode cX12_beatenBy 42 = .ok (.if_icmp .le 9, 3) := by decide +kernel
theorem dX12_beatenBy_45 : decode cX12_beatenBy 45 = .ok (.iload_n 2, 1) := by decide +kernel
theorem dX12_beatenBy_46 : decode cX12_beatenBy 46 = .ok (.iconst 1, 1) := by decide +kernel
theorem dX12_beatenBy_47 : decode cX12_beatenBy 47 = .ok (.iload_n 3, 1) := by decide +kernel
theorem dX12_beatenBy_48 : decode cX12_beatenBy 48 = .ok (.ishl, 1) := by decide +kernel
theorem dX12_beatenBy_49 : decode cX12_beatenBy 49 = .ok (.ior, 1) := by decide +kernel
theorem dX12_beatenBy_50 : decode cX12_beatenBy 50 = .ok (.istore_n 2, 1) := by decide +kernel
theorem dX12_beatenBy_51 : decode cX12_beatenBy 51 = .ok (.iinc 3 1, 3) := by decide +kernel
theorem dX12_beatenBy_54 : decode cX12_beatenBy 54 = .ok (.goto (-50), 3) := by decide +kernel
theorem dX12_beatenBy_57 : decode cX12_beatenBy 57 = .ok (.iload_n 2, 1) := by decide +kernel
theorem dX12_beatenBy_58 : decode cX12_beatenBy 58 = .ok (.ireturn, 1) := by decide +kernel
theorem dX12_needChampion_0 : decode cX12_needChampion 0 = .ok (.iload_n 1, 1) := by decide +kernel
theorem dX12_needChampion_1 : decode cX12_needChampion 1 = .ok (.ifCond .lt 20, 3) := by decide +kernel
theorem dX12_needChampion_4 : decode cX12_needChampion 4 = .ok (.iload_n 1, 1) := by decide +kernel
theorem dX12_needChampion_5 : decode cX12_needChampion 5 = .ok (.aload_n 0, 1) := by decide +kernel
theorem dX12_needChampion_6 : decode cX12_needChampion 6 = .ok (.getfield 36, 3) := by decide +kernel
theorem dX12_needChampion_9 : decode cX12_needChampion 9 = .ok (.getfield 111, 3) := by decide +kernel
theorem dX12_needChampion_12 : decode cX12_needChampion 12 = .ok (.getfield 158, 3) := by decide +kernel
theorem dX12_needChampion_15 : decode cX12_needChampion 15 = .ok (.getfield 162, 3) := by decide +kernel
theorem dX12_needChampion_18 : decode cX12_needChampion 18 = .ok (.if_icmp .lt 14, 3) := by decide +kernel
theorem dX12_needChampion_21 : decode cX12_needChampion 21 = .ok (.new 168, 3) := by decide +kernel
theorem dX12_needChampion_24 : decode cX12_needChampion 24 = .ok (.dup, 1) := by decide +kernel
theorem dX12_needChampion_25 : decode cX12_needChampion 25 = .ok (.ldc_w 314, 3) := by decide +kernel
theorem dX12_needChampion_28 : decode cX12_needChampion 28 = .ok (.invokespecial 172, 3) := by decide +kernel
theorem dX12_needChampion_31 : decode cX12_needChampion 31 = .ok (.athrow, 1) := by decide +kernel
theorem dX12_needChampion_32 : decode cX12_needChampion 32 = .ok (.return_, 1) := by decide +kernel
theorem dX12_needGate_0 : decode cX12_needGate 0 = .ok (.iload_n 1, 1) := by decide +kernel
theorem dX12_needGate_1 : decode cX12_needGate 1 = .ok (.ifCond .lt 20, 3) := by decide +kernel
theorem dX12_needGate_4 : decode cX12_needGate 4 = .ok (.iload_n 1, 1) := by decide +kernel
theorem dX12_needGate_5 : decode cX12_needGate 5 = .ok (.aload_n 0, 1) := by decide +kernel
theorem dX12_needGate_6 : decode cX12_needGate 6 = .ok (.getfield 36, 3) := by decide +kernel
theorem dX12_needGate_9 : decode cX12_needGate 9 = .ok (.getfield 111, 3) := by decide +kernel
theorem dX12_needGate_12 : decode cX12_needGate 12 = .ok (.getfield 165, 3) := by decide +kernel
theorem dX12_needGate_15 : decode cX12_needGate 15 = .ok (.getfield 162, 3) := by decide +kernel
theorem dX12_needGate_18 : decode cX12_needGate 18 = .ok (.if_icmp .lt 14, 3) := by decide +kernel
theorem dX12_needGate_21 : decode cX12_needGate 21 = .ok (.new 168, 3) := by decide +kernel
theorem dX12_needGate_24 : decode cX12_needGate 24 = .ok (.dup, 1) := by decide +kernel
theorem dX12_needGate_25 : decode cX12_needGate 25 = .ok (.ldc_w 316, 3) := by decide +kernel
theorem dX12_needGate_28 : decode cX12_needGate 28 = .ok (.invokespecial 172, 3) := by decide +kernel
theorem dX12_needGate_31 : decode cX12_needGate 31 = .ok (.athrow, 1) := by decide +kernel
theorem dX12_needGate_32 : decode cX12_needGate 32 = .ok (.return_, 1) := by decide +kernel
theorem dX12_odds_0 : decode cX12_odds 0 = .ok (.aload_n 0, 1) := by decide +kernel
theorem dX12_odds_1 : decode cX12_odds 1 = .ok (.iload_n 1, 1) := by decide +kernel
theorem dX12_odds_2 : decode cX12_odds 2 = .ok (.invokevirtual 188, 3) := by decide +kernel
theorem dX12_odds_5 : decode cX12_odds 5 = .ok (.aload_n 0, 1) := by decide +kernel
theorem dX12_odds_6 : decode cX12_odds 6 = .ok (.iload_n 2, 1) := by decide +kernel
theorem dX12_odds_7 : decode cX12_odds 7 = .ok (.iconst 1, 1) := by decide +kernel
theorem dX12_odds_8 : decode cX12_odds 8 = .ok (.bipush 9, 2) := by decide +kernel
theorem dX12_odds_10 : decode cX12_odds 10 = .ok (.invokevirtual 265, 3) := by decide +kernel
theorem dX12_odds_13 : decode cX12_odds 13 = .ok (.aload_n 0, 1) := by decide +kernel
theorem dX12_odds_14 : decode cX12_odds 14 = .ok (.iload_n 3, 1) := by decide +kernel
theorem dX12_odds_15 : decode cX12_odds 15 = .ok (.iconst 0, 1) := by decide +kernel
theorem dX12_odds_16 : decode cX12_odds 16 = .ok (.bipush 54, 2) := by decide +kernel
theorem dX12_odds_18 : decode cX12_odds 18 = .ok (.invokevirtual 265, 3) := by decide +kernel
theorem dX12_odds_21 : decode cX12_odds 21 = .ok (.aload_n 0, 1) := by decide +kernel
theorem dX12_odds_22 : decode cX12_odds 22 = .ok (.getfield 36, 3) := by decide +kernel
theorem dX12_odds_25 : decode cX12_odds 25 = .ok (.aload_n 0, 1) := by decide +kernel
theorem dX12_odds_26 : decode cX12_odds 26 = .ok (.getfield 52, 3) := by decide +kernel
theorem dX12_odds_29 : decode cX12_odds 29 = .ok (.iload_n 1, 1) := by decide +kernel
theorem dX12_odds_30 : decode cX12_odds 30 = .ok (.invokevirtual 198, 3) := by decide +kernel
theorem dX12_odds_33 : decode cX12_odds 33 = .ok (.istore 4, 2) := by decide +kernel
theorem dX12_odds_35 : decode cX12_odds 35 = .ok (.iconst 0, 1) := by decide +kernel
theorem dX12_odds_36 : decode cX12_odds 36 = .ok (.istore 5, 2) := by decide +kernel
theorem dX12_odds_38 : decode cX12_odds 38 = .ok (.iconst 0, 1) := by decide +kernel
theorem dX12_odds_39 : decode cX12_odds 39 = .ok (.istore 6, 2) := by decide +kernel
theorem dX12_odds_41 : decode cX12_odds 41 = .ok (.iload 6, 2) := by decide +kernel
theorem dX12_odds_43 : decode cX12_odds 43 = .ok (.bipush 64, 2) := by decide +kernel
theorem dX12_odds_45 : decode cX12_odds 45 = .ok (.if_icmp .ge 46, 3) := by decide +kernel
theorem dX12_odds_48 : decode cX12_odds 48 = .ok (.iload 6, 2) := by decide +kernel
theorem dX12_odds_50 : decode cX12_odds 50 = .ok (.iload 4, 2) := by decide +kernel
theorem dX12_odds_52 : decode cX12_odds 52 = .ok (.iconst (-1), 1) := by decide +kernel
theorem dX12_odds_53 : decode cX12_odds 53 = .ok (.ixor, 1) := by decide +kernel
theorem dX12_odds_54 : decode cX12_odds 54 = .ok (.iand, 1) := by decide +kernel
theorem dX12_odds_55 : decode cX12_odds 55 = .ok (.ifCond .ne 30, 3) := by decide +kernel
theorem dX12_odds_58 : decode cX12_odds 58 = .ok (.aload_n 0, 1) := by decide +kernel
theorem dX12_odds_59 : decode cX12_odds 59 = .ok (.getfield 36, 3) := by decide +kernel
theorem dX12_odds_62 : decode cX12_odds 62 = .ok (.iload 6, 2) := by decide +kernel
theorem dX12_odds_64 : decode cX12_odds 64 = .ok (.invokevirtual 202, 3) := by decide +kernel
theorem dX12_odds_67 : decode cX12_odds 67 = .ok (.iload_n 3, 1) := by decide +kernel
theorem dX12_odds_68 : decode cX12_odds 68 = .ok (.if_icmp .lt 17, 3) := by decide +kernel
theorem dX12_odds_71 : decode cX12_odds 71 = .ok (.iload 5, 2) := by decide +kernel
theorem dX12_odds_73 : decode cX12_odds 73 = .ok (.aload_n 0, 1) := by decide +kernel
theorem dX12_odds_74 : decode cX12_odds 74 = .ok (.iload 4, 2) := by decide +kernel
theorem dX12_odds_76 : decode cX12_odds 76 = .ok (.iload 6, 2) := by decide +kernel
theorem dX12_odds_78 : decode cX12_odds 78 = .ok (.iload_n 2, 1) := by decide +kernel
theorem dX12_odds_79 : decode cX12_odds 79 = .ok (.invokevirtual 318, 3) := by decide +kernel
theorem dX12_odds_82 : decode cX12_odds 82 = .ok (.iadd, 1) := by decide +kernel
theorem dX12_odds_83 : decode cX12_odds 83 = .ok (.istore 5, 2) := by decide +kernel
theorem dX12_odds_85 : decode cX12_odds 85 = .ok (.iinc 6 1, 3) := by decide +kernel
theorem dX12_odds_88 : decode cX12_odds 88 = .ok (.goto (-47), 3) := by decide +kernel
theorem dX12_odds_91 : decode cX12_odds 91 = .ok (.iload 5, 2) := by decide +kernel
theorem dX12_odds_93 : decode cX12_odds 93 = .ok (.ireturn, 1) := by decide +kernel
theorem dX12_chances_0 : decode cX12_chances 0 = .ok (.iconst 1, 1) := by decide +kernel
theorem dX12_chances_1 : decode cX12_chances 1 = .ok (.istore 4, 2) := by decide +kernel
theorem dX12_chances_3 : decode cX12_chances 3 = .ok (.iconst 0, 1) := by decide +kernel
theorem dX12_chances_4 : decode cX12_chances 4 = .ok (.istore 5, 2) := by decide +kernel
theorem dX12_chances_6 : decode cX12_chances 6 = .ok (.iload 5, 2) := by decide +kernel
theorem dX12_chances_8 : decode cX12_chances 8 = .ok (.bipush 6, 2) := by decide +kernel
theorem dX12_chances_10 : decode cX12_chances 10 = .ok (.if_icmp .ge 40, 3) := by decide +kernel
theorem dX12_chances_13 : decode cX12_chances 13 = .ok (.iload_n 1, 1) := by decide +kernel
theorem dX12_chances_14 : decode cX12_chances 14 = .ok (.iload 5, 2) := by decide +kernel
theorem dX12_chances_16 : decode cX12_chances 16 = .ok (.ishr, 1) := by decide +kernel
theorem dX12_chances_17 : decode cX12_chances 17 = .ok (.iconst 1, 1) := by decide +kernel
theorem dX12_chances_18 : decode cX12_chances 18 = .ok (.iand, 1) := by decide +kernel
theorem dX12_chances_19 : decode cX12_chances 19 = .ok (.ifCond .eq 25, 3) := by decide +kernel
theorem dX12_chances_22 : decode cX12_chances 22 = .ok (.iload 4, 2) := by decide +kernel
theorem dX12_chances_24 : decode cX12_chances 24 = .ok (.iload_n 2, 1) := by decide +kernel
theorem dX12_chances_25 : decode cX12_chances 25 = .ok (.iload 5, 2) := by decide +kernel
theorem dX12_chances_27 : decode cX12_chances 27 = .ok (.ishr, 1) := by decide +kernel
theorem dX12_chances_28 : decode cX12_chances 28 = .ok (.iconst 1, 1) := by decide +kernel
theorem dX12_chances_29 : decode cX12_chances 29 = .ok (.iand, 1) := by decide +kernel
theorem dX12_chances_30 : decode cX12_chances 30 = .ok (.ifCond .eq 7, 3) := by decide +kernel
theorem dX12_chances_33 : decode cX12_chances 33 = .ok (.iload_n 3, 1) := by decide +kernel
theorem dX12_chances_34 : decode cX12_chances 34 = .ok (.goto 7, 3) := by decide +kernel
theorem dX12_chances_37 : decode cX12_chances 37 = .ok (.bipush 10, 2) := by decide +kernel
theorem dX12_chances_39 : decode cX12_chances 39 = .ok (.iload_n 3, 1) := by decide +kernel
theorem dX12_chances_40 : decode cX12_chances 40 = .ok (.isub, 1) := by decide +kernel
theorem dX12_chances_41 : decode cX12_chances 41 = .ok (.imul, 1) := by decide +kernel
theorem dX12_chances_42 : decode cX12_chances 42 = .ok (.istore 4, 2) := by decide +kernel
theorem dX12_chances_44 : decode cX12_chances 44 = .ok (.iinc 5 1, 3) := by decide +kernel
theorem dX12_chances_47 : decode cX12_chances 47 = .ok (.goto (-41), 3) := by decide +kernel
theorem dX12_chances_50 : decode cX12_chances 50 = .ok (.iload 4, 2) := by decide +kernel
theorem dX12_chances_52 : decode cX12_chances 52 = .ok (.ireturn, 1) := by decide +kernel
theorem dX12_moved_0 : decode cX12_moved 0 = .ok (.aload_n 0, 1) := by decide +kernel
theorem dX12_moved_1 : decode cX12_moved 1 = .ok (.iload_n 1, 1) := by decide +kernel
theorem dX12_moved_2 : decode cX12_moved 2 = .ok (.invokevirtual 188, 3) := by decide +kernel
theorem dX12_moved_5 : decode cX12_moved 5 = .ok (.aload_n 0, 1) := by decide +kernel
theorem dX12_moved_6 : decode cX12_moved 6 = .ok (.iload_n 2, 1) := by decide +kernel
theorem dX12_moved_7 : decode cX12_moved 7 = .ok (.iconst 1, 1) := by decide +kernel
theorem dX12_moved_8 : decode cX12_moved 8 = .ok (.bipush 99, 2) := by decide +kernel
theorem dX12_moved_10 : decode cX12_moved 10 = .ok (.invokevirtual 265, 3) := by decide +kernel
theorem dX12_moved_13 : decode cX12_moved 13 = .ok (.aload_n 0, 1) := by decide +kernel
theorem dX12_moved_14 : decode cX12_moved 14 = .ok (.getfield 56, 3) := by decide +kernel
theorem dX12_moved_17 : decode cX12_moved 17 = .ok (.aload_n 0, 1) := by decide +kernel
theorem dX12_moved_18 : decode cX12_moved 18 = .ok (.getfield 52, 3) := by decide +kernel
theorem dX12_moved_21 : decode cX12_moved 21 = .ok (.invokevirtual 115, 3) := by decide +kernel
theorem dX12_moved_24 : decode cX12_moved 24 = .ok (.aload_n 0, 1) := by decide +kernel
theorem dX12_moved_25 : decode cX12_moved 25 = .ok (.getfield 56, 3) := by decide +kernel
theorem dX12_moved_28 : decode cX12_moved 28 = .ok (.getfield 191, 3) := by decide +kernel
theorem dX12_moved_31 : decode cX12_moved 31 = .ok (.iload_n 1, 1) := by decide +kernel
theorem dX12_moved_32 : decode cX12_moved 32 = .ok (.dup2, 1) := by decide +kernel
theorem dX12_moved_33 : decode cX12_moved 33 = .ok (.iaload, 1) := by decide +kernel
theorem dX12_moved_34 : decode cX12_moved 34 = .ok (.iload_n 2, 1) := by decide +kernel
theorem dX12_moved_35 : decode cX12_moved 35 = .ok (.iadd, 1) := by decide +kernel
theorem dX12_moved_36 : decode cX12_moved 36 = .ok (.iastore, 1) := by decide +kernel
theorem dX12_moved_37 : decode cX12_moved 37 = .ok (.aload_n 0, 1) := by decide +kernel
theorem dX12_moved_38 : decode cX12_moved 38 = .ok (.getfield 36, 3) := by decide +kernel
theorem dX12_moved_41 : decode cX12_moved 41 = .ok (.aload_n 0, 1) := by decide +kernel
theorem dX12_moved_42 : decode cX12_moved 42 = .ok (.getfield 56, 3) := by decide +kernel
theorem dX12_moved_45 : decode cX12_moved 45 = .ok (.iload_n 1, 1) := by decide +kernel
theorem dX12_moved_46 : decode cX12_moved 46 = .ok (.invokevirtual 198, 3) := by decide +kernel
theorem dX12_moved_49 : decode cX12_moved 49 = .ok (.aload_n 0, 1) := by decide +kernel
theorem dX12_moved_50 : decode cX12_moved 50 = .ok (.getfield 36, 3) := by decide +kernel
theorem dX12_moved_53 : decode cX12_moved 53 = .ok (.aload_n 0, 1) := by decide +kernel
theorem dX12_moved_54 : decode cX12_moved 54 = .ok (.getfield 52, 3) := by decide +kernel
theorem dX12_moved_57 : decode cX12_moved 57 = .ok (.iload_n 1, 1) := by decide +kernel
theorem dX12_moved_58 : decode cX12_moved 58 = .ok (.invokevirtual 198, 3) := by decide +kernel
theorem dX12_moved_61 : decode cX12_moved 61 = .ok (.iconst (-1), 1) := by decide +kernel
theorem dX12_moved_62 : decode cX12_moved 62 = .ok (.ixor, 1) := by decide +kernel
theorem dX12_moved_63 : decode cX12_moved 63 = .ok (.iand, 1) := by decide +kernel
theorem dX12_moved_64 : decode cX12_moved 64 = .ok (.ireturn, 1) := by decide +kernel
theorem dX12_parties_0 : decode cX12_parties 0 = .ok (.aload_n 0, 1) := by decide +kernel
theorem dX12_parties_1 : decode cX12_parties 1 = .ok (.iload_n 1, 1) := by decide +kernel
theorem dX12_parties_2 : decode cX12_parties 2 = .ok (.iconst 1, 1) := by decide +kernel
theorem dX12_parties_3 : decode cX12_parties 3 = .ok (.invokevirtual 261, 3) := by decide +kernel
theorem dX12_parties_6 : decode cX12_parties 6 = .ok (.iconst 0, 1) := by decide +kernel
theorem dX12_parties_7 : decode cX12_parties 7 = .ok (.istore_n 2, 1) := by decide +kernel
theorem dX12_parties_8 : decode cX12_parties 8 = .ok (.iconst (-1), 1) := by decide +kernel
theorem dX12_parties_9 : decode cX12_parties 9 = .ok (.istore_n 3, 1) := by decide +kernel
theorem dX12_parties_10 : decode cX12_parties 10 = .ok (.iconst 0, 1) := by decide +kernel
theorem dX12_parties_11 : decode cX12_parties 11 = .ok (.istore 4, 2) := by decide +kernel
theorem dX12_parties_13 : decode cX12_parties 13 = .ok (.iload 4, 2) := by decide +kernel
theorem dX12_parties_15 : decode cX12_parties 15 = .ok (.iconst 1, 1) := by decide +kernel
theorem dX12_parties_16 : decode cX12_parties 16 = .ok (.aload_n 0, 1) := by decide +kernel
theorem dX12_parties_17 : decode cX12_parties 17 = .ok (.getfield 36, 3) := by decide +kernel
theorem dX12_parties_20 : decode cX12_parties 20 = .ok (.getfield 111, 3) := by decide +kernel
theorem dX12_parties_23 : decode cX12_parties 23 = .ok (.getfield 155, 3) := by decide +kernel
theorem dX12_parties_26 : decode cX12_parties 26 = .ok (.ishl, 1) := by decide +kernel
theorem dX12_parties_27 : decode cX12_parties 27 = .ok (.if_icmp .ge 29, 3) := by decide +kernel
theorem dX12_parties_30 : decode cX12_parties 30 = .ok (.aload_n 0, 1) := by decide +kernel
theorem dX12_parties_31 : decode cX12_parties 31 = .ok (.iload 4, 2) := by decide +kernel
theorem dX12_parties_33 : decode cX12_parties 33 = .ok (.invokevirtual 322, 3) := by decide +kernel
theorem dX12_parties_36 : decode cX12_parties 36 = .ok (.ifCond .eq 14, 3) := by decide +kernel
theorem dX12_parties_39 : decode cX12_parties 39 = .ok (.iinc 2 1, 3) := by decide +kernel
theorem dX12_parties_42 : decode cX12_parties 42 = .ok (.iload_n 3, 1) := by decide +kernel
theorem dX12_parties_43 : decode cX12_parties 43 = .ok (.iconst (-1), 1) := by decide +kernel
theorem dX12_parties_44 : decode cX12_parties 44 = .ok (.if_icmp .ne 6, 3) := by decide +kernel
theorem dX12_parties_47 : decode cX12_parties 47 = .ok (.iload 4, 2) := by decide +kernel
theorem dX12_parties_49 : decode cX12_parties 49 = .ok (.istore_n 3, 1) := by decide +kernel
theorem dX12_parties_50 : decode cX12_parties 50 = .ok (.iinc 4 1, 3) := by decide +kernel
theorem dX12_parties_53 : decode cX12_parties 53 = .ok (.goto (-40), 3) := by decide +kernel
theorem dX12_parties_56 : decode cX12_parties 56 = .ok (.iload_n 1, 1) := by decide +kernel
theorem dX12_parties_57 : decode cX12_parties 57 = .ok (.ifCond .ne 7, 3) := by decide +kernel
theorem dX12_parties_60 : decode cX12_parties 60 = .ok (.iload_n 2, 1) := by decide +kernel
theorem dX12_parties_61 : decode cX12_parties 61 = .ok (.goto 4, 3) := by decide +kernel
theorem dX12_parties_64 : decode cX12_parties 64 = .ok (.iload_n 3, 1) := by decide +kernel
theorem dX12_parties_65 : decode cX12_parties 65 = .ok (.ireturn, 1) := by decide +kernel
theorem dX12_rests_0 : decode cX12_rests 0 = .ok (.aload_n 0, 1) := by decide +kernel
theorem dX12_rests_1 : decode cX12_rests 1 = .ok (.getfield 36, 3) := by decide +kernel
theorem dX12_rests_4 : decode cX12_rests 4 = .ok (.getfield 111, 3) := by decide +kernel
theorem dX12_rests_7 : decode cX12_rests 7 = .ok (.getfield 155, 3) := by decide +kernel
theorem dX12_rests_10 : decode cX12_rests 10 = .ok (.istore_n 2, 1) := by decide +kernel
theorem dX12_rests_11 : decode cX12_rests 11 = .ok (.iload_n 1, 1) := by decide +kernel
theorem dX12_rests_12 : decode cX12_rests 12 = .ok (.invokestatic 306, 3) := by decide +kernel
theorem dX12_rests_15 : decode cX12_rests 15 = .ok (.istore_n 3, 1) := by decide +kernel
theorem dX12_rests_16 : decode cX12_rests 16 = .ok (.iconst 0, 1) := by decide +kernel
theorem dX12_rests_17 : decode cX12_rests 17 = .ok (.istore 4, 2) := by decide +kernel
theorem dX12_rests_19 : decode cX12_rests 19 = .ok (.iload 4, 2) := by decide +kernel
theorem dX12_rests_21 : decode cX12_rests 21 = .ok (.iload_n 2, 1) := by decide +kernel
theorem dX12_rests_22 : decode cX12_rests 22 = .ok (.if_icmp .ge 91, 3) := by decide +kernel
theorem dX12_rests_25 : decode cX12_rests 25 = .ok (.iload_n 1, 1) := by decide +kernel
theorem dX12_rests_26 : decode cX12_rests 26 = .ok (.iload 4, 2) := by decide +kernel
theorem dX12_rests_28 : decode cX12_rests 28 = .ok (.ishr, 1) := by decide +kernel
theorem dX12_rests_29 : decode cX12_rests 29 = .ok (.iconst 1, 1) := by decide +kernel
theorem dX12_rests_30 : decode cX12_rests 30 = .ok (.iand, 1) := by decide +kernel
theorem dX12_rests_31 : decode cX12_rests 31 = .ok (.ifCond .eq 7, 3) := by decide +kernel
theorem dX12_rests_34 : decode cX12_rests 34 = .ok (.iconst 1, 1) := by decide +kernel
theorem dX12_rests_35 : decode cX12_rests 35 = .ok (.goto 4, 3) := by decide +kernel
theorem dX12_rests_38 : decode cX12_rests 38 = .ok (.iconst 0, 1) := by decide +kernel
theorem dX12_rests_39 : decode cX12_rests 39 = .ok (.istore 5, 2) := by decide +kernel
theorem dX12_rests_41 : decode cX12_rests 41 = .ok (.iload 5, 2) := by decide +kernel
theorem dX12_rests_43 : decode cX12_rests 43 = .ok (.ifCond .eq 7, 3) := by decide +kernel
theorem dX12_rests_46 : decode cX12_rests 46 = .ok (.iload_n 3, 1) := by decide +kernel
theorem dX12_rests_47 : decode cX12_rests 47 = .ok (.goto 6, 3) := by decide +kernel
theorem dX12_rests_50 : decode cX12_rests 50 = .ok (.iload_n 2, 1) := by decide +kernel
theorem dX12_rests_51 : decode cX12_rests 51 = .ok (.iload_n 3, 1) := by decide +kernel
theorem dX12_rests_52 : decode cX12_rests 52 = .ok (.isub, 1) := by decide +kernel
theorem dX12_rests_53 : decode cX12_rests 53 = .ok (.istore 6, 2) := by decide +kernel
theorem dX12_rests_55 : decode cX12_rests 55 = .ok (.iload 5, 2) := by decide +kernel
theorem dX12_rests_57 : decode cX12_rests 57 = .ok (.ifCond .eq 16, 3) := by decide +kernel
theorem dX12_rests_60 : decode cX12_rests 60 = .ok (.aload_n 0, 1) := by decide +kernel
theorem dX12_rests_61 : decode cX12_rests 61 = .ok (.getfield 52, 3) := by decide +kernel
theorem dX12_rests_64 : decode cX12_rests 64 = .ok (.getfield 220, 3) := by decide +kernel
theorem dX12_rests_67 : decode cX12_rests 67 = .ok (.iload 4, 2) := by decide +kernel
theorem dX12_rests_69 : decode cX12_rests 69 = .ok (.iaload, 1) := by decide +kernel
theorem dX12_rests_70 : decode cX12_rests 70 = .ok (.goto 14, 3) := by decide +kernel
theorem dX12_rests_73 : decode cX12_rests 73 = .ok (.aload_n 0, 1) := by decide +kernel
theorem dX12_rests_74 : decode cX12_rests 74 = .ok (.getfield 52, 3) := by decide +kernel
theorem dX12_rests_77 : decode cX12_rests 77 = .ok (.getfield 220, 3) := by decide +kernel
theorem dX12_rests_80 : decode cX12_rests 80 = .ok (.iload 4, 2) := by decide +kernel
theorem dX12_rests_82 : decode cX12_rests 82 = .ok (.iaload, 1) := by decide +kernel
theorem dX12_rests_83 : decode cX12_rests 83 = .ok (.ineg, 1) := by decide +kernel
theorem dX12_rests_84 : decode cX12_rests 84 = .ok (.istore 7, 2) := by decide +kernel
theorem dX12_rests_86 : decode cX12_rests 86 = .ok (.iload 7, 2) := by decide +kernel
theorem dX12_rests_88 : decode cX12_rests 88 = .ok (.iconst 2, 1) := by decide +kernel
theorem dX12_rests_89 : decode cX12_rests 89 = .ok (.iload 6, 2) := by decide +kernel
theorem dX12_rests_91 : decode cX12_rests 91 = .ok (.iconst 1, 1) := by decide +kernel
theorem dX12_rests_92 : decode cX12_rests 92 = .ok (.isub, 1) := by decide +kernel
theorem dX12_rests_93 : decode cX12_rests 93 = .ok (.imul, 1) := by decide +kernel
theorem dX12_rests_94 : decode cX12_rests 94 = .ok (.iadd, 1) := by decide +kernel
theorem dX12_rests_95 : decode cX12_rests 95 = .ok (.iconst 2, 1) := by decide +kernel
theorem dX12_rests_96 : decode cX12_rests 96 = .ok (.iload_n 2, 1) := by decide +kernel
theorem dX12_rests_97 : decode cX12_rests 97 = .ok (.iload 6, 2) := by decide +kernel
theorem dX12_rests_99 : decode cX12_rests 99 = .ok (.isub, 1) := by decide +kernel
theorem dX12_rests_100 : decode cX12_rests 100 = .ok (.imul, 1) := by decide +kernel
theorem dX12_rests_101 : decode cX12_rests 101 = .ok (.isub, 1) := by decide +kernel
theorem dX12_rests_102 : decode cX12_rests 102 = .ok (.ifCond .ge 5, 3) := by decide +kernel
theorem dX12_rests_105 : decode cX12_rests 105 = .ok (.iconst 0, 1) := by decide +kernel
theorem dX12_rests_106 : decode cX12_rests 106 = .ok (.ireturn, 1) := by decide +kernel
theorem dX12_rests_107 : decode cX12_rests 107 = .ok (.iinc 4 1, 3) := by decide +kernel
theorem dX12_rests_110 : decode cX12_rests 110 = .ok (.goto (-91), 3) := by decide +kernel
theorem dX12_rests_113 : decode cX12_rests 113 = .ok (.iconst 1, 1) := by decide +kernel
theorem dX12_rests_114 : decode cX12_rests 114 = .ok (.ireturn, 1) := by decide +kernel
theorem dX12_see_0 : decode cX12_see 0 = .ok (.iload_n 1, 1) := by decide +kernel
theorem dX12_see_1 : decode cX12_see 1 = .ok (.iconst 1, 1) := by decide +kernel
theorem dX12_see_2 : decode cX12_see 2 = .ok (.if_icmp .lt 32, 3) := by decide +kernel
theorem dX12_see_5 : decode cX12_see 5 = .ok (.iload_n 1, 1) := by decide +kernel
theorem dX12_see_6 : decode cX12_see 6 = .ok (.bipush 30, 2) := by decide +kernel
theorem dX12_see_8 : decode cX12_see 8 = .ok (.if_icmp .gt 26, 3) := by decide +kernel
theorem dX12_see_11 : decode cX12_see 11 = .ok (.iload_n 2, 1) := by decide +kernel
theorem dX12_see_12 : decode cX12_see 12 = .ok (.ifCond .lt 22, 3) := by decide +kernel
theorem dX12_see_15 : decode cX12_see 15 = .ok (.iload_n 2, 1) := by decide +kernel
theorem dX12_see_16 : decode cX12_see 16 = .ok (.sipush 999, 3) := by decide +kernel
theorem dX12_see_19 : decode cX12_see 19 = .ok (.if_icmp .gt 15, 3) := by decide +kernel
theorem dX12_see_22 : decode cX12_see 22 = .ok (.aload_n 0, 1) := by decide +kernel
theorem dX12_see_23 : decode cX12_see 23 = .ok (.getfield 69, 3) := by decide +kernel
theorem dX12_see_26 : decode cX12_see 26 = .ok (.iload_n 1, 1) := by decide +kernel
theorem dX12_see_27 : decode cX12_see 27 = .ok (.iload_n 2, 1) := by decide +kernel
theorem dX12_see_28 : decode cX12_see 28 = .ok (.invokevirtual 326, 3) := by decide +kernel
theorem dX12_see_31 : decode cX12_see 31 = .ok (.ifCond .ne 9, 3) := by decide +kernel
theorem dX12_see_34 : decode cX12_see 34 = .ok (.aload_n 0, 1) := by decide +kernel
theorem dX12_see_35 : decode cX12_see 35 = .ok (.iconst 2, 1) := by decide +kernel
theorem dX12_see_36 : decode cX12_see 36 = .ok (.invokevirtual 238, 3) := by decide +kernel
theorem dX12_see_39 : decode cX12_see 39 = .ok (.ireturn, 1) := by decide +kernel
theorem dX12_see_40 : decode cX12_see 40 = .ok (.aload_n 0, 1) := by decide +kernel
theorem dX12_see_41 : decode cX12_see 41 = .ok (.getfield 69, 3) := by decide +kernel
theorem dX12_see_44 : decode cX12_see 44 = .ok (.getfield 122, 3) := by decide +kernel
theorem dX12_see_47 : decode cX12_see 47 = .ok (.ireturn, 1) := by decide +kernel
theorem dX12_forget_0 : decode cX12_forget 0 = .ok (.aload_n 0, 1) := by decide +kernel
theorem dX12_forget_1 : decode cX12_forget 1 = .ok (.getfield 69, 3) := by decide +kernel
theorem dX12_forget_4 : decode cX12_forget 4 = .ok (.iconst 0, 1) := by decide +kernel
theorem dX12_forget_5 : decode cX12_forget 5 = .ok (.putfield 122, 3) := by decide +kernel
theorem dX12_forget_8 : decode cX12_forget 8 = .ok (.return_, 1) := by decide +kernel
theorem dX12_another_0 : decode cX12_another 0 = .ok (.aload_n 0, 1) := by decide +kernel
theorem dX12_another_1 : decode cX12_another 1 = .ok (.iload_n 1, 1) := by decide +kernel
theorem dX12_another_2 : decode cX12_another 2 = .ok (.iconst 2, 1) := by decide +kernel
theorem dX12_another_3 : decode cX12_another 3 = .ok (.invokevirtual 261, 3) := by decide +kernel
theorem dX12_another_6 : decode cX12_another 6 = .ok (.aload_n 0, 1) := by decide +kernel
theorem dX12_another_7 : decode cX12_another 7 = .ok (.getfield 69, 3) := by decide +kernel
theorem dX12_another_10 : decode cX12_another 10 = .ok (.invokevirtual 329, 3) := by decide +kernel
theorem dX12_another_13 : decode cX12_another 13 = .ok (.istore_n 2, 1) := by decide +kernel
theorem dX12_another_14 : decode cX12_another 14 = .ok (.iload_n 1, 1) := by decide +kernel
theorem dX12_another_15 : decode cX12_another 15 = .ok (.iconst 2, 1) := by decide +kernel
theorem dX12_another_16 : decode cX12_another 16 = .ok (.if_icmp .ne 30, 3) := by decide +kernel
theorem dX12_another_19 : decode cX12_another 19 = .ok (.aload_n 0, 1) := by decide +kernel
theorem dX12_another_20 : decode cX12_another 20 = .ok (.getfield 45, 3) := by decide +kernel
theorem dX12_another_23 : decode cX12_another 23 = .ok (.aload_n 0, 1) := by decide +kernel
theorem dX12_another_24 : decode cX12_another 24 = .ok (.getfield 52, 3) := by decide +kernel
theorem dX12_another_27 : decode cX12_another 27 = .ok (.aload_n 0, 1) := by decide +kernel
theorem dX12_another_28 : decode cX12_another 28 = .ok (.getfield 69, 3) := by decide +kernel
theorem dX12_another_31 : decode cX12_another 31 = .ok (.iconst 0, 1) := by decide +kernel
theorem dX12_another_32 : decode cX12_another 32 = .ok (.iconst (-1), 1) := by decide +kernel
theorem dX12_another_33 : decode cX12_another 33 = .ok (.iload_n 2, 1) := by decide +kernel
theorem dX12_another_34 : decode cX12_another 34 = .ok (.invokevirtual 332, 3) := by decide +kernel
theorem dX12_another_37 : decode cX12_another 37 = .ok (.ifCond .eq 7, 3) := by decide +kernel
theorem dX12_another_40 : decode cX12_another 40 = .ok (.iconst 1, 1) := by decide +kernel
theorem dX12_another_41 : decode cX12_another 41 = .ok (.goto 4, 3) := by decide +kernel
theorem dX12_another_44 : decode cX12_another 44 = .ok (.iconst 0, 1) := by decide +kernel
theorem dX12_another_45 : decode cX12_another 45 = .ok (.ireturn, 1) := by decide +kernel
theorem dX12_another_46 : decode cX12_another 46 = .ok (.iconst 0, 1) := by decide +kernel
theorem dX12_another_47 : decode cX12_another 47 = .ok (.istore_n 3, 1) := by decide +kernel
theorem dX12_another_48 : decode cX12_another 48 = .ok (.iconst 1, 1) := by decide +kernel
theorem dX12_another_49 : decode cX12_another 49 = .ok (.istore 4, 2) := by decide +kernel
theorem dX12_another_51 : decode cX12_another 51 = .ok (.iload 4, 2) := by decide +kernel
theorem dX12_another_53 : decode cX12_another 53 = .ok (.bipush 12, 2) := by decide +kernel
theorem dX12_another_55 : decode cX12_another 55 = .ok (.if_icmp .gt 73, 3) := by decide +kernel
theorem dX12_another_58 : decode cX12_another 58 = .ok (.iconst 0, 1) := by decide +kernel
theorem dX12_another_59 : decode cX12_another 59 = .ok (.istore 5, 2) := by decide +kernel
theorem dX12_another_61 : decode cX12_another 61 = .ok (.iload 5, 2) := by decide +kernel
theorem dX12_another_63 : decode cX12_another 63 = .ok (.aload_n 0, 1) := by decide +kernel
theorem dX12_another_64 : decode cX12_another 64 = .ok (.getfield 36, 3) := by decide +kernel
theorem dX12_another_67 : decode cX12_another 67 = .ok (.getfield 111, 3) := by decide +kernel
theorem dX12_another_70 : decode cX12_another 70 = .ok (.getfield 150, 3) := by decide +kernel
theorem dX12_another_73 : decode cX12_another 73 = .ok (.if_icmp .ge 49, 3) := by decide +kernel
theorem dX12_another_76 : decode cX12_another 76 = .ok (.aload_n 0, 1) := by decide +kernel
theorem dX12_another_77 : decode cX12_another 77 = .ok (.getfield 45, 3) := by decide +kernel
theorem dX12_another_80 : decode cX12_another 80 = .ok (.aload_n 0, 1) := by decide +kernel
theorem dX12_another_81 : decode cX12_another 81 = .ok (.getfield 52, 3) := by decide +kernel
theorem dX12_another_84 : decode cX12_another 84 = .ok (.aload_n 0, 1) := by decide +kernel
theorem dX12_another_85 : decode cX12_another 85 = .ok (.getfield 69, 3) := by decide +kernel
theorem dX12_another_88 : decode cX12_another 88 = .ok (.iload 4, 2) := by decide +kernel
theorem dX12_another_90 : decode cX12_another 90 = .ok (.iload 5, 2) := by decide +kernel
theorem dX12_another_92 : decode cX12_another 92 = .ok (.iload_n 2, 1) := by decide +kernel
theorem dX12_another_93 : decode cX12_another 93 = .ok (.invokevirtual 332, 3) := by decide +kernel
theorem dX12_another_96 : decode cX12_another 96 = .ok (.ifCond .eq 20, 3) := by decide +kernel
theorem dX12_another_99 : decode cX12_another 99 = .ok (.iload_n 1, 1) := by decide +kernel
theorem dX12_another_100 : decode cX12_another 100 = .ok (.iconst 1, 1) := by decide +kernel
theorem dX12_another_101 : decode cX12_another 101 = .ok (.if_icmp .ne 12, 3) := by decide +kernel
theorem dX12_another_104 : decode cX12_another 104 = .ok (.bipush 10, 2) := by decide +kernel
theorem dX12_another_106 : decode cX12_another 106 = .ok (.iload 4, 2) := by decide +kernel
theorem dX12_another_108 : decode cX12_another 108 = .ok (.imul, 1) := by decide +kernel
theorem dX12_another_109 : decode cX12_another 109 = .ok (.iload 5, 2) := by decide +kernel
theorem dX12_another_111 : decode cX12_another 111 = .ok (.iadd, 1) := by decide +kernel
theorem dX12_another_112 : decode cX12_another 112 = .ok (.ireturn, 1) := by decide +kernel
theorem dX12_another_113 : decode cX12_another 113 = .ok (.iinc 3 1, 3) := by decide +kernel
theorem dX12_another_116 : decode cX12_another 116 = .ok (.iinc 5 1, 3) := by decide +kernel
theorem dX12_another_119 : decode cX12_another 119 = .ok (.goto (-58), 3) := by decide +kernel
theorem dX12_another_122 : decode cX12_another 122 = .ok (.iinc 4 1, 3) := by decide +kernel
theorem dX12_another_125 : decode cX12_another 125 = .ok (.goto (-74), 3) := by decide +kernel
theorem dX12_another_128 : decode cX12_another 128 = .ok (.iload_n 1, 1) := by decide +kernel
theorem dX12_another_129 : decode cX12_another 129 = .ok (.ifCond .ne 7, 3) := by decide +kernel
theorem dX12_another_132 : decode cX12_another 132 = .ok (.iload_n 3, 1) := by decide +kernel
theorem dX12_another_133 : decode cX12_another 133 = .ok (.goto 4, 3) := by decide +kernel
theorem dX12_another_136 : decode cX12_another 136 = .ok (.iconst (-1), 1) := by decide +kernel
theorem dX12_another_137 : decode cX12_another 137 = .ok (.ireturn, 1) := by decide +kernel
theorem dX12_next_0 : decode cX12_next 0 = .ok (.aload_n 0, 1) := by decide +kernel
theorem dX12_next_1 : decode cX12_next 1 = .ok (.iload_n 1, 1) := by decide +kernel
theorem dX12_next_2 : decode cX12_next 2 = .ok (.iconst 1, 1) := by decide +kernel
theorem dX12_next_3 : decode cX12_next 3 = .ok (.invokevirtual 261, 3) := by decide +kernel
theorem dX12_next_6 : decode cX12_next 6 = .ok (.aload_n 0, 1) := by decide +kernel
theorem dX12_next_7 : decode cX12_next 7 = .ok (.getfield 45, 3) := by decide +kernel
theorem dX12_next_10 : decode cX12_next 10 = .ok (.aload_n 0, 1) := by decide +kernel
theorem dX12_next_11 : decode cX12_next 11 = .ok (.getfield 52, 3) := by decide +kernel
theorem dX12_next_14 : decode cX12_next 14 = .ok (.aload_n 0, 1) := by decide +kernel
theorem dX12_next_15 : decode cX12_next 15 = .ok (.getfield 69, 3) := by decide +kernel
theorem dX12_next_18 : decode cX12_next 18 = .ok (.invokevirtual 336, 3) := by decide +kernel
theorem dX12_next_21 : decode cX12_next 21 = .ok (.iconst (-1), 1) := by decide +kernel
theorem dX12_next_22 : decode cX12_next 22 = .ok (.istore_n 2, 1) := by decide +kernel
theorem dX12_next_23 : decode cX12_next 23 = .ok (.iconst 0, 1) := by decide +kernel
theorem dX12_next_24 : decode cX12_next 24 = .ok (.istore_n 3, 1) := by decide +kernel
theorem dX12_next_25 : decode cX12_next 25 = .ok (.iconst 1, 1) := by decide +kernel
theorem dX12_next_26 : decode cX12_next 26 = .ok (.istore 4, 2) := by decide +kernel
theorem dX12_next_28 : decode cX12_next 28 = .ok (.iload 4, 2) := by decide +kernel
theorem dX12_next_30 : decode cX12_next 30 = .ok (.bipush 30, 2) := by decide +kernel
theorem dX12_next_32 : decode cX12_next 32 = .ok (.if_icmp .gt 41, 3) := by decide +kernel
theorem dX12_next_35 : decode cX12_next 35 = .ok (.aload_n 0, 1) := by decide +kernel
theorem dX12_next_36 : decode cX12_next 36 = .ok (.getfield 45, 3) := by decide +kernel
theorem dX12_next_39 : decode cX12_next 39 = .ok (.getfield 340, 3) := by decide +kernel
theorem dX12_next_42 : decode cX12_next 42 = .ok (.iload 4, 2) := by decide +kernel
theorem dX12_next_44 : decode cX12_next 44 = .ok (.iconst 1, 1) := by decide +kernel
theorem dX12_next_45 : decode cX12_next 45 = .ok (.isub, 1) := by decide +kernel
theorem dX12_next_46 : decode cX12_next 46 = .ok (.iaload, 1) := by decide +kernel
theorem dX12_next_47 : decode cX12_next 47 = .ok (.iload_n 3, 1) := by decide +kernel
theorem dX12_next_48 : decode cX12_next 48 = .ok (.if_icmp .le 19, 3) := by decide +kernel
theorem dX12_next_51 : decode cX12_next 51 = .ok (.aload_n 0, 1) := by decide +kernel
theorem dX12_next_52 : decode cX12_next 52 = .ok (.getfield 45, 3) := by decide +kernel
theorem dX12_next_55 : decode cX12_next 55 = .ok (.getfield 340, 3) := by decide +kernel
theorem dX12_next_58 : decode cX12_next 58 = .ok (.iload 4, 2) := by decide +kernel
theorem dX12_next_60 : decode cX12_next 60 = .ok (.iconst 1, 1) := by decide +kernel
theorem dX12_next_61 : decode cX12_next 61 = .ok (.isub, 1) := by decide +kernel
theorem dX12_next_62 : decode cX12_next 62 = .ok (.iaload, 1) := by decide +kernel
theorem dX12_next_63 : decode cX12_next 63 = .ok (.istore_n 3, 1) := by decide +kernel
theorem dX12_next_64 : decode cX12_next 64 = .ok (.iload 4, 2) := by decide +kernel
theorem dX12_next_66 : decode cX12_next 66 = .ok (.istore_n 2, 1) := by decide +kernel
theorem dX12_next_67 : decode cX12_next 67 = .ok (.iinc 4 1, 3) := by decide +kernel
theorem dX12_next_70 : decode cX12_next 70 = .ok (.goto (-42), 3) := by decide +kernel
theorem dX12_next_73 : decode cX12_next 73 = .ok (.iload_n 1, 1) := by decide +kernel
theorem dX12_next_74 : decode cX12_next 74 = .ok (.ifCond .ne 7, 3) := by decide +kernel
theorem dX12_next_77 : decode cX12_next 77 = .ok (.iload_n 2, 1) := by decide +kernel
theorem dX12_next_78 : decode cX12_next 78 = .ok (.goto 4, 3) := by decide +kernel
theorem dX12_next_81 : decode cX12_next 81 = .ok (.iload_n 3, 1) := by decide +kernel
theorem dX12_next_82 : decode cX12_next 82 = .ok (.ireturn, 1) := by decide +kernel
theorem dX12_game_0 : decode cX12_game 0 = .ok (.aload_n 0, 1) := by decide +kernel
theorem dX12_game_1 : decode cX12_game 1 = .ok (.iload_n 1, 1) := by decide +kernel
theorem dX12_game_2 : decode cX12_game 2 = .ok (.invokevirtual 173, 3) := by decide +kernel
theorem dX12_game_5 : decode cX12_game 5 = .ok (.aload_n 0, 1) := by decide +kernel
theorem dX12_game_6 : decode cX12_game 6 = .ok (.iload_n 2, 1) := by decide +kernel
theorem dX12_game_7 : decode cX12_game 7 = .ok (.invokevirtual 173, 3) := by decide +kernel
theorem dX12_game_10 : decode cX12_game 10 = .ok (.aload_n 0, 1) := by decide +kernel
theorem dX12_game_11 : decode cX12_game 11 = .ok (.iload_n 3, 1) := by decide +kernel
theorem dX12_game_12 : decode cX12_game 12 = .ok (.iconst 1, 1) := by decide +kernel
theorem dX12_game_13 : decode cX12_game 13 = .ok (.invokevirtual 261, 3) := by decide +kernel
theorem dX12_game_16 : decode cX12_game 16 = .ok (.iload_n 1, 1) := by decide +kernel
theorem dX12_game_17 : decode cX12_game 17 = .ok (.iload_n 2, 1) := by decide +kernel
theorem dX12_game_18 : decode cX12_game 18 = .ok (.if_icmp .ne 14, 3) := by decide +kernel
theorem dX12_game_21 : decode cX12_game 21 = .ok (.new 93, 3) := by decide +kernel
theorem dX12_game_24 : decode cX12_game 24 = .ok (.dup, 1) := by decide +kernel
theorem dX12_game_25 : decode cX12_game 25 = .ok (.ldc_w 343, 3) := by decide +kernel
theorem dX12_game_28 : decode cX12_game 28 = .ok (.invokespecial 97, 3) := by decide +kernel
theorem dX12_game_31 : decode cX12_game 31 = .ok (.athrow, 1) := by decide +kernel
theorem dX12_game_32 : decode cX12_game 32 = .ok (.aload_n 0, 1) := by decide +kernel
theorem dX12_game_33 : decode cX12_game 33 = .ok (.getfield 45, 3) := by decide +kernel
theorem dX12_game_36 : decode cX12_game 36 = .ok (.aload_n 0, 1) := by decide +kernel
theorem dX12_game_37 : decode cX12_game 37 = .ok (.getfield 52, 3) := by decide +kernel
theorem dX12_game_40 : decode cX12_game 40 = .ok (.iload_n 1, 1) := by decide +kernel
theorem dX12_game_41 : decode cX12_game 41 = .ok (.iload_n 2, 1) := by decide +kernel
theorem dX12_game_42 : decode cX12_game 42 = .ok (.invokevirtual 345, 3) := by decide +kernel
theorem dX12_game_45 : decode cX12_game 45 = .ok (.iconst 0, 1) := by decide +kernel
theorem dX12_game_46 : decode cX12_game 46 = .ok (.istore 4, 2) := by decide +kernel
theorem dX12_game_48 : decode cX12_game 48 = .ok (.iconst (-1), 1) := by decide +kernel
theorem dX12_game_49 : decode cX12_game 49 = .ok (.istore 5, 2) := by decide +kernel
theorem dX12_game_51 : decode cX12_game 51 = .ok (.iconst 0, 1) := by decide +kernel
theorem dX12_game_52 : decode cX12_game 52 = .ok (.istore 6, 2) := by decide +kernel
theorem dX12_game_54 : decode cX12_game 54 = .ok (.iload 6, 2) := by decide +kernel
theorem dX12_game_56 : decode cX12_game 56 = .ok (.iconst 4, 1) := by decide +kernel
theorem dX12_game_57 : decode cX12_game 57 = .ok (.if_icmp .ge 44, 3) := by decide +kernel
theorem dX12_game_60 : decode cX12_game 60 = .ok (.aload_n 0, 1) := by decide +kernel
theorem dX12_game_61 : decode cX12_game 61 = .ok (.getfield 45, 3) := by decide +kernel
theorem dX12_game_64 : decode cX12_game 64 = .ok (.iload 6, 2) := by decide +kernel
theorem dX12_game_66 : decode cX12_game 66 = .ok (.invokevirtual 349, 3) := by decide +kernel
theorem dX12_game_69 : decode cX12_game 69 = .ok (.ifCond .eq 26, 3) := by decide +kernel
theorem dX12_game_72 : decode cX12_game 72 = .ok (.iinc 4 1, 3) := by decide +kernel
theorem dX12_game_75 : decode cX12_game 75 = .ok (.iload 5, 2) := by decide +kernel
theorem dX12_game_77 : decode cX12_game 77 = .ok (.iconst (-1), 1) := by decide +kernel
theorem dX12_game_78 : decode cX12_game 78 = .ok (.if_icmp .ne 17, 3) := by decide +kernel
theorem dX12_game_81 : decode cX12_game 81 = .ok (.bipush 10, 2) := by decide +kernel
theorem dX12_game_83 : decode cX12_game 83 = .ok (.iload 6, 2) := by decide +kernel
theorem dX12_game_85 : decode cX12_game 85 = .ok (.iconst 1, 1) := by decide +kernel
theorem dX12_game_86 : decode cX12_game 86 = .ok (.ishr, 1) := by decide +kernel
theorem dX12_game_87 : decode cX12_game 87 = .ok (.imul, 1) := by decide +kernel
theorem dX12_game_88 : decode cX12_game 88 = .ok (.iload 6, 2) := by decide +kernel
theorem dX12_game_90 : decode cX12_game 90 = .ok (.iconst 1, 1) := by decide +kernel
theorem dX12_game_91 : decode cX12_game 91 = .ok (.iand, 1) := by decide +kernel
theorem dX12_game_92 : decode cX12_game 92 = .ok (.iadd, 1) := by decide +kernel
theorem dX12_game_93 : decode cX12_game 93 = .ok (.istore 5, 2) := by decide +kernel
theorem dX12_game_95 : decode cX12_game 95 = .ok (.iinc 6 1, 3) := by decide +kernel
theorem dX12_game_98 : decode cX12_game 98 = .ok (.goto (-44), 3) := by decide +kernel
theorem dX12_game_101 : decode cX12_game 101 = .ok (.iload_n 3, 1) := by decide +kernel
theorem dX12_game_102 : decode cX12_game 102 = .ok (.ifCond .ne 8, 3) := by decide +kernel
theorem dX12_game_105 : decode cX12_game 105 = .ok (.iload 4, 2) := by decide +kernel
theorem dX12_game_107 : decode cX12_game 107 = .ok (.goto 5, 3) := by decide +kernel
theorem dX12_game_110 : decode cX12_game 110 = .ok (.iload 5, 2) := by decide +kernel
theorem dX12_game_112 : decode cX12_game 112 = .ok (.ireturn, 1) := by decide +kernel
theorem dX12_cities_0 : decode cX12_cities 0 = .ok (.aload_n 0, 1) := by decide +kernel
theorem dX12_cities_1 : decode cX12_cities 1 = .ok (.iload_n 3, 1) := by decide +kernel
theorem dX12_cities_2 : decode cX12_cities 2 = .ok (.iconst 2, 1) := by decide +kernel
theorem dX12_cities_3 : decode cX12_cities 3 = .ok (.invokevirtual 261, 3) := by decide +kernel
theorem dX12_cities_6 : decode cX12_cities 6 = .ok (.aload_n 0, 1) := by decide +kernel
theorem dX12_cities_7 : decode cX12_cities 7 = .ok (.iload_n 2, 1) := by decide +kernel
theorem dX12_cities_8 : decode cX12_cities 8 = .ok (.iconst 0, 1) := by decide +kernel
theorem dX12_cities_9 : decode cX12_cities 9 = .ok (.bipush 60, 2) := by decide +kernel
theorem dX12_cities_11 : decode cX12_cities 11 = .ok (.invokevirtual 265, 3) := by decide +kernel
theorem dX12_cities_14 : decode cX12_cities 14 = .ok (.aload_n 0, 1) := by decide +kernel
theorem dX12_cities_15 : decode cX12_cities 15 = .ok (.getfield 56, 3) := by decide +kernel
theorem dX12_cities_18 : decode cX12_cities 18 = .ok (.aload_n 0, 1) := by decide +kernel
theorem dX12_cities_19 : decode cX12_cities 19 = .ok (.getfield 52, 3) := by decide +kernel
theorem dX12_cities_22 : decode cX12_cities 22 = .ok (.invokevirtual 115, 3) := by decide +kernel
theorem dX12_cities_25 : decode cX12_cities 25 = .ok (.iload_n 1, 1) := by decide +kernel
theorem dX12_cities_26 : decode cX12_cities 26 = .ok (.istore 4, 2) := by decide +kernel
theorem dX12_cities_28 : decode cX12_cities 28 = .ok (.iconst 0, 1) := by decide +kernel
theorem dX12_cities_29 : decode cX12_cities 29 = .ok (.istore 5, 2) := by decide +kernel
theorem dX12_cities_31 : decode cX12_cities 31 = .ok (.iload 5, 2) := by decide +kernel
theorem dX12_cities_33 : decode cX12_cities 33 = .ok (.iload_n 2, 1) := by decide +kernel
theorem dX12_cities_34 : decode cX12_cities 34 = .ok (.if_icmp .ge 91, 3) := by decide +kernel
theorem dX12_cities_37 : decode cX12_cities 37 = .ok (.iload 4, 2) := by decide +kernel
theorem dX12_cities_39 : decode cX12_cities 39 = .ok (.invokestatic 352, 3) := by decide +kernel
theorem dX12_cities_42 : decode cX12_cities 42 = .ok (.istore 4, 2) := by decide +kernel
theorem dX12_cities_44 : decode cX12_cities 44 = .ok (.iload 4, 2) := by decide +kernel
theorem dX12_cities_46 : decode cX12_cities 46 = .ok (.bipush 16, 2) := by decide +kernel
theorem dX12_cities_48 : decode cX12_cities 48 = .ok (.iushr, 1) := by decide +kernel
theorem dX12_cities_49 : decode cX12_cities 49 = .ok (.sipush 32767, 3) := by decide +kernel
theorem dX12_cities_52 : decode cX12_cities 52 = .ok (.iand, 1) := by decide +kernel
theorem dX12_cities_53 : decode cX12_cities 53 = .ok (.bipush 60, 2) := by decide +kernel
theorem dX12_cities_55 : decode cX12_cities 55 = .ok (.irem, 1) := by decide +kernel
theorem dX12_cities_56 : decode cX12_cities 56 = .ok (.istore 6, 2) := by decide +kernel
theorem dX12_cities_58 : decode cX12_cities 58 = .ok (.iload 4, 2) := by decide +kernel
theorem dX12_cities_60 : decode cX12_cities 60 = .ok (.invokestatic 352, 3) := by decide +kernel
theorem dX12_cities_63 : decode cX12_cities 63 = .ok (.istore 4, 2) := by decide +kernel
theorem dX12_cities_65 : decode cX12_cities 65 = .ok (.iload 4, 2) := by decide +kernel
theorem dX12_cities_67 : decode cX12_cities 67 = .ok (.bipush 16, 2) := by decide +kernel
theorem dX12_cities_69 : decode cX12_cities 69 = .ok (.iushr, 1) := by decide +kernel
theorem dX12_cities_70 : decode cX12_cities 70 = .ok (.sipush 32767, 3) := by decide +kernel
theorem dX12_cities_73 : decode cX12_cities 73 = .ok (.iand, 1) := by decide +kernel
theorem dX12_cities_74 : decode cX12_cities 74 = .ok (.bipush 9, 2) := by decide +kernel
theorem dX12_cities_76 : decode cX12_cities 76 = .ok (.irem, 1) := by decide +kernel
theorem dX12_cities_77 : decode cX12_cities 77 = .ok (.ifCond .ne 10, 3) := by decide +kernel
theorem dX12_cities_80 : decode cX12_cities 80 = .ok (.aload_n 0, 1) := by decide +kernel
theorem dX12_cities_81 : decode cX12_cities 81 = .ok (.getfield 56, 3) := by decide +kernel
theorem dX12_cities_84 : decode cX12_cities 84 = .ok (.invokevirtual 355, 3) := by decide +kernel
theorem dX12_cities_87 : decode cX12_cities 87 = .ok (.aload_n 0, 1) := by decide +kernel
theorem dX12_cities_88 : decode cX12_cities 88 = .ok (.getfield 36, 3) := by decide +kernel
theorem dX12_cities_91 : decode cX12_cities 91 = .ok (.aload_n 0, 1) := by decide +kernel
theorem dX12_cities_92 : decode cX12_cities 92 = .ok (.getfield 56, 3) := by decide +kernel
theorem dX12_cities_95 : decode cX12_cities 95 = .ok (.iload 6, 2) := by decide +kernel
theorem dX12_cities_97 : decode cX12_cities 97 = .ok (.aload_n 0, 1) := by decide +kernel
theorem dX12_cities_98 : decode cX12_cities 98 = .ok (.getfield 36, 3) := by decide +kernel
theorem dX12_cities_101 : decode cX12_cities 101 = .ok (.aload_n 0, 1) := by decide +kernel
theorem dX12_cities_102 : decode cX12_cities 102 = .ok (.getfield 56, 3) := by decide +kernel
theorem dX12_cities_105 : decode cX12_cities 105 = .ok (.aload_n 0, 1) := by decide +kernel
theorem dX12_cities_106 : decode cX12_cities 106 = .ok (.getfield 56, 3) := by decide +kernel
theorem dX12_cities_109 : decode cX12_cities 109 = .ok (.getfield 135, 3) := by decide +kernel
theorem dX12_cities_112 : decode cX12_cities 112 = .ok (.invokevirtual 205, 3) := by decide +kernel
theorem dX12_cities_115 : decode cX12_cities 115 = .ok (.invokevirtual 358, 3) := by decide +kernel
theorem dX12_cities_118 : decode cX12_cities 118 = .ok (.pop, 1) := by decide +kernel
theorem dX12_cities_119 : decode cX12_cities 119 = .ok (.iinc 5 1, 3) := by decide +kernel
theorem dX12_cities_122 : decode cX12_cities 122 = .ok (.goto (-91), 3) := by decide +kernel
theorem dX12_cities_125 : decode cX12_cities 125 = .ok (.iload_n 3, 1) := by decide +kernel
theorem dX12_cities_126 : decode cX12_cities 126 = .ok (.lookupswitch 42 #[(0, 26), (1, 34)], 26) := by decide +kernel
theorem dX12_cities_152 : decode cX12_cities 152 = .ok (.aload_n 0, 1) := by decide +kernel
theorem dX12_cities_153 : decode cX12_cities 153 = .ok (.getfield 56, 3) := by decide +kernel
theorem dX12_cities_156 : decode cX12_cities 156 = .ok (.getfield 123, 3) := by decide +kernel
theorem dX12_cities_159 : decode cX12_cities 159 = .ok (.ireturn, 1) := by decide +kernel
theorem dX12_cities_160 : decode cX12_cities 160 = .ok (.aload_n 0, 1) := by decide +kernel
theorem dX12_cities_161 : decode cX12_cities 161 = .ok (.getfield 56, 3) := by decide +kernel
theorem dX12_cities_164 : decode cX12_cities 164 = .ok (.getfield 129, 3) := by decide +kernel
theorem dX12_cities_167 : decode cX12_cities 167 = .ok (.ireturn, 1) := by decide +kernel
theorem dX12_cities_168 : decode cX12_cities 168 = .ok (.aload_n 0, 1) := by decide +kernel
theorem dX12_cities_169 : decode cX12_cities 169 = .ok (.getfield 56, 3) := by decide +kernel
theorem dX12_cities_172 : decode cX12_cities 172 = .ok (.getfield 191, 3) := by decide +kernel
theorem dX12_cities_175 : decode cX12_cities 175 = .ok (.iconst 0, 1) := by decide +kernel
theorem dX12_cities_176 : decode cX12_cities 176 = .ok (.iaload, 1) := by decide +kernel
theorem dX12_cities_177 : decode cX12_cities 177 = .ok (.aload_n 0, 1) := by decide +kernel
theorem dX12_cities_178 : decode cX12_cities 178 = .ok (.getfield 56, 3) := by decide +kernel
theorem dX12_cities_181 : decode cX12_cities 181 = .ok (.getfield 191, 3) := by decide +kernel
theorem dX12_cities_184 : decode cX12_cities 184 = .ok (.iconst 1, 1) := by decide +kernel
theorem dX12_cities_185 : decode cX12_cities 185 = .ok (.iaload, 1) := by decide +kernel
theorem dX12_cities_186 : decode cX12_cities 186 = .ok (.isub, 1) := by decide +kernel
theorem dX12_cities_187 : decode cX12_cities 187 = .ok (.ireturn, 1) := by decide +kernel
theorem dX12_followingSeed_0 : decode cX12_followingSeed 0 = .ok (.iload_n 0, 1) := by decide +kernel
theorem dX12_followingSeed_1 : decode cX12_followingSeed 1 = .ok (.ldc_w 362, 3) := by decide +kernel
theorem dX12_followingSeed_4 : decode cX12_followingSeed 4 = .ok (.imul, 1) := by decide +kernel
theorem dX12_followingSeed_5 : decode cX12_followingSeed 5 = .ok (.sipush 12345, 3) := by decide +kernel
theorem dX12_followingSeed_8 : decode cX12_followingSeed 8 = .ok (.iadd, 1) := by decide +kernel
theorem dX12_followingSeed_9 : decode cX12_followingSeed 9 = .ok (.ireturn, 1) := by decide +kernel
theorem dX12_ruin_0 : decode cX12_ruin 0 = .ok (.aload_n 0, 1) := by decide +kernel
theorem dX12_ruin_1 : decode cX12_ruin 1 = .ok (.getfield 56, 3) := by decide +kernel
theorem dX12_ruin_4 : decode cX12_ruin 4 = .ok (.aload_n 0, 1) := by decide +kernel
theorem dX12_ruin_5 : decode cX12_ruin 5 = .ok (.getfield 52, 3) := by decide +kernel
theorem dX12_ruin_8 : decode cX12_ruin 8 = .ok (.invokevirtual 115, 3) := by decide +kernel
theorem dX12_ruin_11 : decode cX12_ruin 11 = .ok (.iconst 0, 1) := by decide +kernel
theorem dX12_ruin_12 : decode cX12_ruin 12 = .ok (.istore_n 1, 1) := by decide +kernel
theorem dX12_ruin_13 : decode cX12_ruin 13 = .ok (.iload_n 1, 1) := by decide +kernel
theorem dX12_ruin_14 : decode cX12_ruin 14 = .ok (.bipush 60, 2) := by decide +kernel
theorem dX12_ruin_16 : decode cX12_ruin 16 = .ok (.if_icmp .gt 40, 3) := by decide +kernel
theorem dX12_ruin_19 : decode cX12_ruin 19 = .ok (.aload_n 0, 1) := by decide +kernel
theorem dX12_ruin_20 : decode cX12_ruin 20 = .ok (.getfield 56, 3) := by decide +kernel
theorem dX12_ruin_23 : decode cX12_ruin 23 = .ok (.getfield 129, 3) := by decide +kernel
theorem dX12_ruin_26 : decode cX12_ruin 26 = .ok (.aload_n 0, 1) := by decide +kernel
theorem dX12_ruin_27 : decode cX12_ruin 27 = .ok (.getfield 56, 3) := by decide +kernel
theorem dX12_ruin_30 : decode cX12_ruin 30 = .ok (.getfield 123, 3) := by decide +kernel
theorem dX12_ruin_33 : decode cX12_ruin 33 = .ok (.if_icmp .le 5, 3) := by decide +kernel
theorem dX12_ruin_36 : decode cX12_ruin 36 = .ok (.iload_n 1, 1) := by decide +kernel
theorem dX12_ruin_37 : decode cX12_ruin 37 = .ok (.ireturn, 1) := by decide +kernel
theorem dX12_ruin_38 : decode cX12_ruin 38 = .ok (.aload_n 0, 1) := by decide +kernel
theorem dX12_ruin_39 : decode cX12_ruin 39 = .ok (.getfield 36, 3) := by decide +kernel
theorem dX12_ruin_42 : decode cX12_ruin 42 = .ok (.aload_n 0, 1) := by decide +kernel
theorem dX12_ruin_43 : decode cX12_ruin 43 = .ok (.getfield 56, 3) := by decide +kernel
theorem dX12_ruin_46 : decode cX12_ruin 46 = .ok (.iconst 1, 1) := by decide +kernel
theorem dX12_ruin_47 : decode cX12_ruin 47 = .ok (.invokevirtual 244, 3) := by decide +kernel
theorem dX12_ruin_50 : decode cX12_ruin 50 = .ok (.iinc 1 1, 3) := by decide +kernel
theorem dX12_ruin_53 : decode cX12_ruin 53 = .ok (.goto (-40), 3) := by decide +kernel
theorem dX12_ruin_56 : decode cX12_ruin 56 = .ok (.iconst (-1), 1) := by decide +kernel
theorem dX12_ruin_57 : decode cX12_ruin 57 = .ok (.ireturn, 1) := by decide +kernel
theorem dX12_highest_0 : decode cX12_highest 0 = .ok (.aload_n 0, 1) := by decide +kernel
theorem dX12_highest_1 : decode cX12_highest 1 = .ok (.iload_n 1, 1) := by decide +kernel
theorem dX12_highest_2 : decode cX12_highest 2 = .ok (.iconst 1, 1) := by decide +kernel
theorem dX12_highest_3 : decode cX12_highest 3 = .ok (.invokevirtual 261, 3) := by decide +kernel
theorem dX12_highest_6 : decode cX12_highest 6 = .ok (.aload_n 0, 1) := by decide +kernel
theorem dX12_highest_7 : decode cX12_highest 7 = .ok (.getfield 56, 3) := by decide +kernel
theorem dX12_highest_10 : decode cX12_highest 10 = .ok (.aload_n 0, 1) := by decide +kernel
theorem dX12_highest_11 : decode cX12_highest 11 = .ok (.getfield 52, 3) := by decide +kernel
theorem dX12_highest_14 : decode cX12_highest 14 = .ok (.invokevirtual 115, 3) := by decide +kernel
theorem dX12_highest_17 : decode cX12_highest 17 = .ok (.iconst 0, 1) := by decide +kernel
theorem dX12_highest_18 : decode cX12_highest 18 = .ok (.istore_n 2, 1) := by decide +kernel
theorem dX12_highest_19 : decode cX12_highest 19 = .ok (.aload_n 0, 1) := by decide +kernel
theorem dX12_highest_20 : decode cX12_highest 20 = .ok (.getfield 56, 3) := by decide +kernel
theorem dX12_highest_23 : decode cX12_highest 23 = .ok (.getfield 126, 3) := by decide +kernel
theorem dX12_highest_26 : decode cX12_highest 26 = .ok (.istore_n 3, 1) := by decide +kernel
theorem dX12_highest_27 : decode cX12_highest 27 = .ok (.iconst 1, 1) := by decide +kernel
theorem dX12_highest_28 : decode cX12_highest 28 = .ok (.istore 4, 2) := by decide +kernel
theorem dX12_highest_30 : decode cX12_highest 30 = .ok (.iload 4, 2) := by decide +kernel
theorem dX12_highest_32 : decode cX12_highest 32 = .ok (.bipush 60, 2) := by decide +kernel
theorem dX12_highest_34 : decode cX12_highest 34 = .ok (.if_icmp .gt 43, 3) := by decide +kernel
theorem dX12_highest_37 : decode cX12_highest 37 = .ok (.aload_n 0, 1) := by decide +kernel
theorem dX12_highest_38 : decode cX12_highest 38 = .ok (.getfield 36, 3) := by decide +kernel
theorem dX12_highest_41 : decode cX12_highest 41 = .ok (.aload_n 0, 1) := by decide +kernel
theorem dX12_highest_42 : decode cX12_highest 42 = .ok (.getfield 56, 3) := by decide +kernel
theorem dX12_highest_45 : decode cX12_highest 45 = .ok (.iconst 1, 1) := by decide +kernel
theorem dX12_highest_46 : decode cX12_highest 46 = .ok (.invokevirtual 244, 3) := by decide +kernel
theorem dX12_highest_49 : decode cX12_highest 49 = .ok (.aload_n 0, 1) := by decide +kernel
theorem dX12_highest_50 : decode cX12_highest 50 = .ok (.getfield 56, 3) := by decide +kernel
theorem dX12_highest_53 : decode cX12_highest 53 = .ok (.getfield 126, 3) := by decide +kernel
theorem dX12_highest_56 : decode cX12_highest 56 = .ok (.iload_n 3, 1) := by decide +kernel
theorem dX12_highest_57 : decode cX12_highest 57 = .ok (.if_icmp .le 14, 3) := by decide +kernel
theorem dX12_highest_60 : decode cX12_highest 60 = .ok (.iload 4, 2) := by decide +kernel
theorem dX12_highest_62 : decode cX12_highest 62 = .ok (.istore_n 2, 1) := by decide +kernel
theorem dX12_highest_63 : decode cX12_highest 63 = .ok (.aload_n 0, 1) := by decide +kernel
theorem dX12_highest_64 : decode cX12_highest 64 = .ok (.getfield 56, 3) := by decide +kernel
theorem dX12_highest_67 : decode cX12_highest 67 = .ok (.getfield 126, 3) := by decide +kernel
theorem dX12_highest_70 : decode cX12_highest 70 = .ok (.istore_n 3, 1) := by decide +kernel
theorem dX12_highest_71 : decode cX12_highest 71 = .ok (.iinc 4 1, 3) := by decide +kernel
theorem dX12_highest_74 : decode cX12_highest 74 = .ok (.goto (-44), 3) := by decide +kernel
theorem dX12_highest_77 : decode cX12_highest 77 = .ok (.iload_n 1, 1) := by decide +kernel
theorem dX12_highest_78 : decode cX12_highest 78 = .ok (.ifCond .ne 7, 3) := by decide +kernel
theorem dX12_highest_81 : decode cX12_highest 81 = .ok (.iload_n 2, 1) := by decide +kernel
theorem dX12_highest_82 : decode cX12_highest 82 = .ok (.goto 4, 3) := by decide +kernel
theorem dX12_highest_85 : decode cX12_highest 85 = .ok (.iload_n 3, 1) := by decide +kernel
theorem dX12_highest_86 : decode cX12_highest 86 = .ok (.ireturn, 1) := by decide +kernel
theorem dX12_better_0 : decode cX12_better 0 = .ok (.aload_n 0, 1) := by decide +kernel
theorem dX12_better_1 : decode cX12_better 1 = .ok (.iload_n 1, 1) := by decide +kernel
theorem dX12_better_2 : decode cX12_better 2 = .ok (.iconst 1, 1) := by decide +kernel
theorem dX12_better_3 : decode cX12_better 3 = .ok (.invokevirtual 261, 3) := by decide +kernel
theorem dX12_better_6 : decode cX12_better 6 = .ok (.aload_n 0, 1) := by decide +kernel
theorem dX12_better_7 : decode cX12_better 7 = .ok (.getfield 56, 3) := by decide +kernel
theorem dX12_better_10 : decode cX12_better 10 = .ok (.aload_n 0, 1) := by decide +kernel
theorem dX12_better_11 : decode cX12_better 11 = .ok (.getfield 52, 3) := by decide +kernel
theorem dX12_better_14 : decode cX12_better 14 = .ok (.invokevirtual 115, 3) := by decide +kernel
theorem dX12_better_17 : decode cX12_better 17 = .ok (.iconst 0, 1) := by decide +kernel
theorem dX12_better_18 : decode cX12_better 18 = .ok (.istore_n 2, 1) := by decide +kernel
theorem dX12_better_19 : decode cX12_better 19 = .ok (.iconst 0, 1) := by decide +kernel
theorem dX12_better_20 : decode cX12_better 20 = .ok (.istore_n 3, 1) := by decide +kernel
theorem dX12_better_21 : decode cX12_better 21 = .ok (.iload_n 3, 1) := by decide +kernel
theorem dX12_better_22 : decode cX12_better 22 = .ok (.bipush 60, 2) := by decide +kernel
theorem dX12_better_24 : decode cX12_better 24 = .ok (.if_icmp .ge 67, 3) := by decide +kernel
theorem dX12_better_27 : decode cX12_better 27 = .ok (.aload_n 0, 1) := by decide +kernel
theorem dX12_better_28 : decode cX12_better 28 = .ok (.getfield 56, 3) := by decide +kernel
theorem dX12_better_31 : decode cX12_better 31 = .ok (.getfield 135, 3) := by decide +kernel
theorem dX12_better_34 : decode cX12_better 34 = .ok (.istore 4, 2) := by decide +kernel
theorem dX12_better_36 : decode cX12_better 36 = .ok (.aload_n 0, 1) := by decide +kernel
theorem dX12_better_37 : decode cX12_better 37 = .ok (.getfield 56, 3) := by decide +kernel
theorem dX12_better_40 : decode cX12_better 40 = .ok (.invokevirtual 272, 3) := by decide +kernel
theorem dX12_better_43 : decode cX12_better 43 = .ok (.istore 5, 2) := by decide +kernel
theorem dX12_better_45 : decode cX12_better 45 = .ok (.aload_n 0, 1) := by decide +kernel
theorem dX12_better_46 : decode cX12_better 46 = .ok (.getfield 36, 3) := by decide +kernel
theorem dX12_better_49 : decode cX12_better 49 = .ok (.aload_n 0, 1) := by decide +kernel
theorem dX12_better_50 : decode cX12_better 50 = .ok (.getfield 56, 3) := by decide +kernel
theorem dX12_better_53 : decode cX12_better 53 = .ok (.iconst 1, 1) := by decide +kernel
theorem dX12_better_54 : decode cX12_better 54 = .ok (.invokevirtual 244, 3) := by decide +kernel
theorem dX12_better_57 : decode cX12_better 57 = .ok (.aload_n 0, 1) := by decide +kernel
theorem dX12_better_58 : decode cX12_better 58 = .ok (.getfield 56, 3) := by decide +kernel
theorem dX12_better_61 : decode cX12_better 61 = .ok (.invokevirtual 272, 3) := by decide +kernel
theorem dX12_better_64 : decode cX12_better 64 = .ok (.iload 5, 2) := by decide +kernel
theorem dX12_better_66 : decode cX12_better 66 = .ok (.isub, 1) := by decide +kernel
theorem dX12_better_67 : decode cX12_better 67 = .ok (.istore 6, 2) := by decide +kernel
theorem dX12_better_69 : decode cX12_better 69 = .ok (.iload_n 2, 1) := by decide +kernel
theorem dX12_better_70 : decode cX12_better 70 = .ok (.iload 4, 2) := by decide +kernel
theorem dX12_better_72 : decode cX12_better 72 = .ok (.ifCond .ne 8, 3) := by decide +kernel
theorem dX12_better_75 : decode cX12_better 75 = .ok (.iload 6, 2) := by decide +kernel
theorem dX12_better_77 : decode cX12_better 77 = .ok (.goto 6, 3) := by decide +kernel
theorem dX12_better_80 : decode cX12_better 80 = .ok (.iload 6, 2) := by decide +kernel
theorem dX12_better_82 : decode cX12_better 82 = .ok (.ineg, 1) := by decide +kernel
theorem dX12_better_83 : decode cX12_better 83 = .ok (.iadd, 1) := by decide +kernel
theorem dX12_better_84 : decode cX12_better 84 = .ok (.istore_n 2, 1) := by decide +kernel
theorem dX12_better_85 : decode cX12_better 85 = .ok (.iinc 3 1, 3) := by decide +kernel
theorem dX12_better_88 : decode cX12_better 88 = .ok (.goto (-67), 3) := by decide +kernel
theorem dX12_better_91 : decode cX12_better 91 = .ok (.iload_n 1, 1) := by decide +kernel
theorem dX12_better_92 : decode cX12_better 92 = .ok (.ifCond .ne 13, 3) := by decide +kernel
theorem dX12_better_95 : decode cX12_better 95 = .ok (.iload_n 2, 1) := by decide +kernel
theorem dX12_better_96 : decode cX12_better 96 = .ok (.ifCond .ge 7, 3) := by decide +kernel
theorem dX12_better_99 : decode cX12_better 99 = .ok (.iconst 1, 1) := by decide +kernel
theorem dX12_better_100 : decode cX12_better 100 = .ok (.goto 4, 3) := by decide +kernel
theorem dX12_better_103 : decode cX12_better 103 = .ok (.iconst 0, 1) := by decide +kernel
theorem dX12_better_104 : decode cX12_better 104 = .ok (.ireturn, 1) := by decide +kernel
theorem dX12_better_105 : decode cX12_better 105 = .ok (.iload_n 2, 1) := by decide +kernel
theorem dX12_better_106 : decode cX12_better 106 = .ok (.invokestatic 363, 3) := by decide +kernel
theorem dX12_better_109 : decode cX12_better 109 = .ok (.ireturn, 1) := by decide +kernel
theorem dX12_swap_0 : decode cX12_swap 0 = .ok (.aload_n 0, 1) := by decide +kernel
theorem dX12_swap_1 : decode cX12_swap 1 = .ok (.iload_n 1, 1) := by decide +kernel
theorem dX12_swap_2 : decode cX12_swap 2 = .ok (.invokevirtual 188, 3) := by decide +kernel
theorem dX12_swap_5 : decode cX12_swap 5 = .ok (.aload_n 0, 1) := by decide +kernel
theorem dX12_swap_6 : decode cX12_swap 6 = .ok (.getfield 36, 3) := by decide +kernel
theorem dX12_swap_9 : decode cX12_swap 9 = .ok (.getfield 111, 3) := by decide +kernel
theorem dX12_swap_12 : decode cX12_swap 12 = .ok (.getfield 195, 3) := by decide +kernel
theorem dX12_swap_15 : decode cX12_swap 15 = .ok (.iload_n 1, 1) := by decide +kernel
theorem dX12_swap_16 : decode cX12_swap 16 = .ok (.iaload, 1) := by decide +kernel
theorem dX12_swap_17 : decode cX12_swap 17 = .ok (.istore_n 2, 1) := by decide +kernel
theorem dX12_swap_18 : decode cX12_swap 18 = .ok (.aload_n 0, 1) := by decide +kernel
theorem dX12_swap_19 : decode cX12_swap 19 = .ok (.iload_n 1, 1) := by decide +kernel
theorem dX12_swap_20 : decode cX12_swap 20 = .ok (.iconst 0, 1) := by decide +kernel
theorem dX12_swap_21 : decode cX12_swap 21 = .ok (.iconst 0, 1) := by decide +kernel
theorem dX12_swap_22 : decode cX12_swap 22 = .ok (.invokevirtual 366, 3) := by decide +kernel
theorem dX12_swap_25 : decode cX12_swap 25 = .ok (.istore_n 3, 1) := by decide +kernel
theorem dX12_swap_26 : decode cX12_swap 26 = .ok (.iconst (-1), 1) := by decide +kernel
theorem dX12_swap_27 : decode cX12_swap 27 = .ok (.istore 4, 2) := by decide +kernel
theorem dX12_swap_29 : decode cX12_swap 29 = .ok (.iconst 0, 1) := by decide +kernel
theorem dX12_swap_30 : decode cX12_swap 30 = .ok (.istore 5, 2) := by decide +kernel
theorem dX12_swap_32 : decode cX12_swap 32 = .ok (.iload 5, 2) := by decide +kernel
theorem dX12_swap_34 : decode cX12_swap 34 = .ok (.iload_n 2, 1) := by decide +kernel
theorem dX12_swap_35 : decode cX12_swap 35 = .ok (.if_icmp .ge 57, 3) := by decide +kernel
theorem dX12_swap_38 : decode cX12_swap 38 = .ok (.iload 5, 2) := by decide +kernel
theorem dX12_swap_40 : decode cX12_swap 40 = .ok (.iconst 1, 1) := by decide +kernel
theorem dX12_swap_41 : decode cX12_swap 41 = .ok (.iadd, 1) := by decide +kernel
theorem dX12_swap_42 : decode cX12_swap 42 = .ok (.istore 6, 2) := by decide +kernel
theorem dX12_swap_44 : decode cX12_swap 44 = .ok (.iload 6, 2) := by decide +kernel
theorem dX12_swap_46 : decode cX12_swap 46 = .ok (.iload_n 2, 1) := by decide +kernel
theorem dX12_swap_47 : decode cX12_swap 47 = .ok (.if_icmp .ge 39, 3) := by decide +kernel
theorem dX12_swap_50 : decode cX12_swap 50 = .ok (.aload_n 0, 1) := by decide +kernel
theorem dX12_swap_51 : decode cX12_swap 51 = .ok (.iload_n 1, 1) := by decide +kernel
theorem dX12_swap_52 : decode cX12_swap 52 = .ok (.iload 5, 2) := by decide +kernel
theorem dX12_swap_54 : decode cX12_swap 54 = .ok (.iload 6, 2) := by decide +kernel
theorem dX12_swap_56 : decode cX12_swap 56 = .ok (.invokevirtual 366, 3) := by decide +kernel
theorem dX12_swap_59 : decode cX12_swap 59 = .ok (.istore 7, 2) := by decide +kernel
theorem dX12_swap_61 : decode cX12_swap 61 = .ok (.iload 7, 2) := by decide +kernel
theorem dX12_swap_63 : decode cX12_swap 63 = .ok (.iload_n 3, 1) := by decide +kernel
theorem dX12_swap_64 : decode cX12_swap 64 = .ok (.if_icmp .le 16, 3) := by decide +kernel
theorem dX12_swap_67 : decode cX12_swap 67 = .ok (.iload 7, 2) := by decide +kernel
theorem dX12_swap_69 : decode cX12_swap 69 = .ok (.istore_n 3, 1) := by decide +kernel
theorem dX12_swap_70 : decode cX12_swap 70 = .ok (.bipush 10, 2) := by decide +kernel
theorem dX12_swap_72 : decode cX12_swap 72 = .ok (.iload 5, 2) := by decide +kernel
theorem dX12_swap_74 : decode cX12_swap 74 = .ok (.imul, 1) := by decide +kernel
theorem dX12_swap_75 : decode cX12_swap 75 = .ok (.iload 6, 2) := by decide +kernel
theorem dX12_swap_77 : decode cX12_swap 77 = .ok (.iadd, 1) := by decide +kernel
theorem dX12_swap_78 : decode cX12_swap 78 = .ok (.istore 4, 2) := by decide +kernel
theorem dX12_swap_80 : decode cX12_swap 80 = .ok (.iinc 6 1, 3) := by decide +kernel
theorem dX12_swap_83 : decode cX12_swap 83 = .ok (.goto (-39), 3) := by decide +kernel
theorem dX12_swap_86 : decode cX12_swap 86 = .ok (.iinc 5 1, 3) := by decide +kernel
theorem dX12_swap_89 : decode cX12_swap 89 = .ok (.goto (-57), 3) := by decide +kernel
theorem dX12_swap_92 : decode cX12_swap 92 = .ok (.iload 4, 2) := by decide +kernel
theorem dX12_swap_94 : decode cX12_swap 94 = .ok (.ireturn, 1) := by decide +kernel
theorem dX12_gloryWithSwap_0 : decode cX12_gloryWithSwap 0 = .ok (.aload_n 0, 1) := by decide +kernel
theorem dX12_gloryWithSwap_1 : decode cX12_gloryWithSwap 1 = .ok (.getfield 56, 3) := by decide +kernel
theorem dX12_gloryWithSwap_4 : decode cX12_gloryWithSwap 4 = .ok (.aload_n 0, 1) := by decide +kernel
theorem dX12_gloryWithSwap_5 : decode cX12_gloryWithSwap 5 = .ok (.getfield 52, 3) := by decide +kernel
theorem dX12_gloryWithSwap_8 : decode cX12_gloryWithSwap 8 = .ok (.invokevirtual 115, 3) := by decide +kernel
theorem dX12_gloryWithSwap_11 : decode cX12_gloryWithSwap 11 = .ok (.iload_n 1, 1) := by decide +kernel
theorem dX12_gloryWithSwap_12 : decode cX12_gloryWithSwap 12 = .ok (.bipush 6, 2) := by decide +kernel
theorem dX12_gloryWithSwap_14 : decode cX12_gloryWithSwap 14 = .ok (.imul, 1) := by decide +kernel
theorem dX12_gloryWithSwap_15 : decode cX12_gloryWithSwap 15 = .ok (.istore 4, 2) := by decide +kernel
theorem dX12_gloryWithSwap_17 : decode cX12_gloryWithSwap 17 = .ok (.aload_n 0, 1) := by decide +kernel
theorem dX12_gloryWithSwap_18 : decode cX12_gloryWithSwap 18 = .ok (.getfield 56, 3) := by decide +kernel
theorem dX12_gloryWithSwap_21 : decode cX12_gloryWithSwap 21 = .ok (.getfield 214, 3) := by decide +kernel
theorem dX12_gloryWithSwap_24 : decode cX12_gloryWithSwap 24 = .ok (.iload 4, 2) := by decide +kernel
theorem dX12_gloryWithSwap_26 : decode cX12_gloryWithSwap 26 = .ok (.iload_n 2, 1) := by decide +kernel
theorem dX12_gloryWithSwap_27 : decode cX12_gloryWithSwap 27 = .ok (.iadd, 1) := by decide +kernel
theorem dX12_gloryWithSwap_28 : decode cX12_gloryWithSwap 28 = .ok (.aload_n 0, 1) := by decide +kernel
theorem dX12_gloryWithSwap_29 : decode cX12_gloryWithSwap 29 = .ok (.getfield 52, 3) := by decide +kernel
theorem dX12_gloryWithSwap_32 : decode cX12_gloryWithSwap 32 = .ok (.getfield 214, 3) := by decide +kernel
theorem dX12_gloryWithSwap_35 : decode cX12_gloryWithSwap 35 = .ok (.iload 4, 2) := by decide +kernel
theorem dX12_gloryWithSwap_37 : decode cX12_gloryWithSwap 37 = .ok (.iload_n 3, 1) := by decide +kernel
theorem dX12_gloryWithSwap_38 : decode cX12_gloryWithSwap 38 = .ok (.iadd, 1) := by decide +kernel
theorem dX12_gloryWithSwap_39 : decode cX12_gloryWithSwap 39 = .ok (.iaload, 1) := by decide +kernel
theorem dX12_gloryWithSwap_40 : decode cX12_gloryWithSwap 40 = .ok (.iastore, 1) := by decide +kernel
theorem dX12_gloryWithSwap_41 : decode cX12_gloryWithSwap 41 = .ok (.aload_n 0, 1) := by decide +kernel
theorem dX12_gloryWithSwap_42 : decode cX12_gloryWithSwap 42 = .ok (.getfield 56, 3) := by decide +kernel
theorem dX12_gloryWithSwap_45 : decode cX12_gloryWithSwap 45 = .ok (.getfield 214, 3) := by decide +kernel
theorem dX12_gloryWithSwap_48 : decode cX12_gloryWithSwap 48 = .ok (.iload 4, 2) := by decide +kernel
theorem dX12_gloryWithSwap_50 : decode cX12_gloryWithSwap 50 = .ok (.iload_n 3, 1) := by decide +kernel
theorem dX12_gloryWithSwap_51 : decode cX12_gloryWithSwap 51 = .ok (.iadd, 1) := by decide +kernel
theorem dX12_gloryWithSwap_52 : decode cX12_gloryWithSwap 52 = .ok (.aload_n 0, 1) := by decide +kernel
theorem dX12_gloryWithSwap_53 : decode cX12_gloryWithSwap 53 = .ok (.getfield 52, 3) := by decide +kernel
theorem dX12_gloryWithSwap_56 : decode cX12_gloryWithSwap 56 = .ok (.getfield 214, 3) := by decide +kernel
theorem dX12_gloryWithSwap_59 : decode cX12_gloryWithSwap 59 = .ok (.iload 4, 2) := by decide +kernel
theorem dX12_gloryWithSwap_61 : decode cX12_gloryWithSwap 61 = .ok (.iload_n 2, 1) := by decide +kernel
theorem dX12_gloryWithSwap_62 : decode cX12_gloryWithSwap 62 = .ok (.iadd, 1) := by decide +kernel
theorem dX12_gloryWithSwap_63 : decode cX12_gloryWithSwap 63 = .ok (.iaload, 1) := by decide +kernel
theorem dX12_gloryWithSwap_64 : decode cX12_gloryWithSwap 64 = .ok (.iastore, 1) := by decide +kernel
theorem dX12_gloryWithSwap_65 : decode cX12_gloryWithSwap 65 = .ok (.aload_n 0, 1) := by decide +kernel
theorem dX12_gloryWithSwap_66 : decode cX12_gloryWithSwap 66 = .ok (.getfield 36, 3) := by decide +kernel
theorem dX12_gloryWithSwap_69 : decode cX12_gloryWithSwap 69 = .ok (.aload_n 0, 1) := by decide +kernel
theorem dX12_gloryWithSwap_70 : decode cX12_gloryWithSwap 70 = .ok (.getfield 56, 3) := by decide +kernel
theorem dX12_gloryWithSwap_73 : decode cX12_gloryWithSwap 73 = .ok (.bipush 30, 2) := by decide +kernel
theorem dX12_gloryWithSwap_75 : decode cX12_gloryWithSwap 75 = .ok (.invokevirtual 244, 3) := by decide +kernel
theorem dX12_gloryWithSwap_78 : decode cX12_gloryWithSwap 78 = .ok (.aload_n 0, 1) := by decide +kernel
theorem dX12_gloryWithSwap_79 : decode cX12_gloryWithSwap 79 = .ok (.getfield 56, 3) := by decide +kernel
theorem dX12_gloryWithSwap_82 : decode cX12_gloryWithSwap 82 = .ok (.getfield 191, 3) := by decide +kernel
theorem dX12_gloryWithSwap_85 : decode cX12_gloryWithSwap 85 = .ok (.iload_n 1, 1) := by decide +kernel
theorem dX12_gloryWithSwap_86 : decode cX12_gloryWithSwap 86 = .ok (.iaload, 1) := by decide +kernel
theorem dX12_gloryWithSwap_87 : decode cX12_gloryWithSwap 87 = .ok (.ireturn, 1) := by decide +kernel
theorem dX12_image_0 : decode cX12_image 0 = .ok (.aload_n 0, 1) := by decide +kernel
theorem dX12_image_1 : decode cX12_image 1 = .ok (.getfield 52, 3) := by decide +kernel
theorem dX12_image_4 : decode cX12_image 4 = .ok (.aload_n 0, 1) := by decide +kernel
theorem dX12_image_5 : decode cX12_image 5 = .ok (.getfield 77, 3) := by decide +kernel
theorem dX12_image_8 : decode cX12_image 8 = .ok (.iconst 0, 1) := by decide +kernel
theorem dX12_image_9 : decode cX12_image 9 = .ok (.invokevirtual 369, 3) := by decide +kernel
theorem dX12_image_12 : decode cX12_image 12 = .ok (.aload_n 0, 1) := by decide +kernel
theorem dX12_image_13 : decode cX12_image 13 = .ok (.getfield 80, 3) := by decide +kernel
theorem dX12_image_16 : decode cX12_image 16 = .ok (.aload_n 0, 1) := by decide +kernel
theorem dX12_image_17 : decode cX12_image 17 = .ok (.getfield 62, 3) := by decide +kernel
theorem dX12_image_20 : decode cX12_image 20 = .ok (.invokevirtual 373, 3) := by decide +kernel
theorem dX12_image_23 : decode cX12_image 23 = .ok (.aload_n 0, 1) := by decide +kernel
theorem dX12_image_24 : decode cX12_image 24 = .ok (.getfield 83, 3) := by decide +kernel
theorem dX12_image_27 : decode cX12_image 27 = .ok (.aload_n 0, 1) := by decide +kernel
theorem dX12_image_28 : decode cX12_image 28 = .ok (.getfield 69, 3) := by decide +kernel
theorem dX12_image_31 : decode cX12_image 31 = .ok (.invokevirtual 376, 3) := by decide +kernel
theorem dX12_image_34 : decode cX12_image 34 = .ok (.aload_n 0, 1) := by decide +kernel
theorem dX12_image_35 : decode cX12_image 35 = .ok (.iconst 1, 1) := by decide +kernel
theorem dX12_image_36 : decode cX12_image 36 = .ok (.putfield 73, 3) := by decide +kernel
theorem dX12_image_39 : decode cX12_image 39 = .ok (.return_, 1) := by decide +kernel
theorem dX12_restore_0 : decode cX12_restore 0 = .ok (.aload_n 0, 1) := by decide +kernel
theorem dX12_restore_1 : decode cX12_restore 1 = .ok (.getfield 73, 3) := by decide +kernel
theorem dX12_restore_4 : decode cX12_restore 4 = .ok (.ifCond .ne 5, 3) := by decide +kernel
theorem dX12_restore_7 : decode cX12_restore 7 = .ok (.iconst 0, 1) := by decide +kernel
theorem dX12_restore_8 : decode cX12_restore 8 = .ok (.ireturn, 1) := by decide +kernel
theorem dX12_restore_9 : decode cX12_restore 9 = .ok (.aload_n 0, 1) := by decide +kernel
theorem dX12_restore_10 : decode cX12_restore 10 = .ok (.getfield 52, 3) := by decide +kernel
theorem dX12_restore_13 : decode cX12_restore 13 = .ok (.aload_n 0, 1) := by decide +kernel
theorem dX12_restore_14 : decode cX12_restore 14 = .ok (.getfield 77, 3) := by decide +kernel
theorem dX12_restore_17 : decode cX12_restore 17 = .ok (.iconst 0, 1) := by decide +kernel
theorem dX12_restore_18 : decode cX12_restore 18 = .ok (.invokevirtual 379, 3) := by decide +kernel
theorem dX12_restore_21 : decode cX12_restore 21 = .ok (.aload_n 0, 1) := by decide +kernel
theorem dX12_restore_22 : decode cX12_restore 22 = .ok (.getfield 62, 3) := by decide +kernel
theorem dX12_restore_25 : decode cX12_restore 25 = .ok (.aload_n 0, 1) := by decide +kernel
theorem dX12_restore_26 : decode cX12_restore 26 = .ok (.getfield 80, 3) := by decide +kernel
theorem dX12_restore_29 : decode cX12_restore 29 = .ok (.invokevirtual 373, 3) := by decide +kernel
theorem dX12_restore_32 : decode cX12_restore 32 = .ok (.aload_n 0, 1) := by decide +kernel
theorem dX12_restore_33 : decode cX12_restore 33 = .ok (.getfield 69, 3) := by decide +kernel
theorem dX12_restore_36 : decode cX12_restore 36 = .ok (.aload_n 0, 1) := by decide +kernel
theorem dX12_restore_37 : decode cX12_restore 37 = .ok (.getfield 83, 3) := by decide +kernel
theorem dX12_restore_40 : decode cX12_restore 40 = .ok (.invokevirtual 376, 3) := by decide +kernel
theorem dX12_restore_43 : decode cX12_restore 43 = .ok (.iconst 1, 1) := by decide +kernel
theorem dX12_restore_44 : decode cX12_restore 44 = .ok (.ireturn, 1) := by decide +kernel
theorem dX13_init_0 : decode cX13_init 0 = .ok (.aload_n 0, 1) := by decide +kernel
theorem dX13_init_1 : decode cX13_init 1 = .ok (.invokespecial 1, 3) := by decide +kernel
theorem dX13_init_4 : decode cX13_init 4 = .ok (.aload_n 0, 1) := by decide +kernel
theorem dX13_init_5 : decode cX13_init 5 = .ok (.iconst (-1), 1) := by decide +kernel
theorem dX13_init_6 : decode cX13_init 6 = .ok (.putfield 9, 3) := by decide +kernel
theorem dX13_init_9 : decode cX13_init 9 = .ok (.aload_n 0, 1) := by decide +kernel
theorem dX13_init_10 : decode cX13_init 10 = .ok (.iconst (-1), 1) := by decide +kernel
theorem dX13_init_11 : decode cX13_init 11 = .ok (.putfield 13, 3) := by decide +kernel
theorem dX13_init_14 : decode cX13_init 14 = .ok (.aload_n 0, 1) := by decide +kernel
theorem dX13_init_15 : decode cX13_init 15 = .ok (.bipush 7, 2) := by decide +kernel
theorem dX13_init_17 : decode cX13_init 17 = .ok (.newarray .int, 2) := by decide +kernel
theorem dX13_init_19 : decode cX13_init 19 = .ok (.putfield 16, 3) := by decide +kernel
theorem dX13_init_22 : decode cX13_init 22 = .ok (.aload_n 0, 1) := by decide +kernel
theorem dX13_init_23 : decode cX13_init 23 = .ok (.bipush 7, 2) := by decide +kernel
theorem dX13_init_25 : decode cX13_init 25 = .ok (.newarray .int, 2) := by decide +kernel
theorem dX13_init_27 : decode cX13_init 27 = .ok (.putfield 20, 3) := by decide +kernel
theorem dX13_init_30 : decode cX13_init 30 = .ok (.aload_n 0, 1) := by decide +kernel
theorem dX13_init_31 : decode cX13_init 31 = .ok (.bipush 7, 2) := by decide +kernel
theorem dX13_init_33 : decode cX13_init 33 = .ok (.newarray .int, 2) := by decide +kernel
theorem dX13_init_35 : decode cX13_init 35 = .ok (.putfield 23, 3) := by decide +kernel
theorem dX13_init_38 : decode cX13_init 38 = .ok (.aload_n 0, 1) := by decide +kernel
theorem dX13_init_39 : decode cX13_init 39 = .ok (.bipush 7, 2) := by decide +kernel
theorem dX13_init_41 : decode cX13_init 41 = .ok (.newarray .int, 2) := by decide +kernel
theorem dX13_init_43 : decode cX13_init 43 = .ok (.putfield 26, 3) := by decide +kernel
theorem dX13_init_46 : decode cX13_init 46 = .ok (.aload_n 0, 1) := by decide +kernel
theorem dX13_init_47 : decode cX13_init 47 = .ok (.iconst 2, 1) := by decide +kernel
theorem dX13_init_48 : decode cX13_init 48 = .ok (.newarray .int, 2) := by decide +kernel
theorem dX13_init_50 : decode cX13_init 50 = .ok (.putfield 29, 3) := by decide +kernel
theorem dX13_init_53 : decode cX13_init 53 = .ok (.aload_n 0, 1) := by decide +kernel
theorem dX13_init_54 : decode cX13_init 54 = .ok (.bipush 10, 2) := by decide +kernel
theorem dX13_init_56 : decode cX13_init 56 = .ok (.newarray .int, 2) := by decide +kernel
theorem dX13_init_58 : decode cX13_init 58 = .ok (.putfield 32, 3) := by decide +kernel
theorem dX13_init_61 : decode cX13_init 61 = .ok (.aload_n 0, 1) := by decide +kernel
theorem dX13_init_62 : decode cX13_init 62 = .ok (.bipush 6, 2) := by decide +kernel
theorem dX13_init_64 : decode cX13_init 64 = .ok (.newarray .int, 2) := by decide +kernel
theorem dX13_init_66 : decode cX13_init 66 = .ok (.putfield 35, 3) := by decide +kernel
theorem dX13_init_69 : decode cX13_init 69 = .ok (.aload_n 0, 1) := by decide +kernel
theorem dX13_init_70 : decode cX13_init 70 = .ok (.bipush 7, 2) := by decide +kernel
theorem dX13_init_72 : decode cX13_init 72 = .ok (.newarray .int, 2) := by decide +kernel
theorem dX13_init_74 : decode cX13_init 74 = .ok (.putfield 38, 3) := by decide +kernel
theorem dX13_init_77 : decode cX13_init 77 = .ok (.aload_n 0, 1) := by decide +kernel
theorem dX13_init_78 : decode cX13_init 78 = .ok (.bipush 7, 2) := by decide +kernel
theorem dX13_init_80 : decode cX13_init 80 = .ok (.newarray .int, 2) := by decide +kernel
theorem dX13_init_82 : decode cX13_init 82 = .ok (.putfield 41, 3) := by decide +kernel
theorem dX13_init_85 : decode cX13_init 85 = .ok (.aload_n 0, 1) := by decide +kernel
theorem dX13_init_86 : decode cX13_init 86 = .ok (.bipush 7, 2) := by decide +kernel
theorem dX13_init_88 : decode cX13_init 88 = .ok (.newarray .int, 2) := by decide +kernel
theorem dX13_init_90 : decode cX13_init 90 = .ok (.putfield 44, 3) := by decide +kernel
theorem dX13_init_93 : decode cX13_init 93 = .ok (.aload_n 0, 1) := by decide +kernel
theorem dX13_init_94 : decode cX13_init 94 = .ok (.bipush 7, 2) := by decide +kernel
theorem dX13_init_96 : decode cX13_init 96 = .ok (.newarray .int, 2) := by decide +kernel
theorem dX13_init_98 : decode cX13_init 98 = .ok (.putfield 47, 3) := by decide +kernel
theorem dX13_init_101 : decode cX13_init 101 = .ok (.aload_n 0, 1) := by decide +kernel
theorem dX13_init_102 : decode cX13_init 102 = .ok (.sipush 1400, 3) := by decide +kernel
theorem dX13_init_105 : decode cX13_init 105 = .ok (.newarray .int, 2) := by decide +kernel
theorem dX13_init_107 : decode cX13_init 107 = .ok (.putfield 50, 3) := by decide +kernel
theorem dX13_init_110 : decode cX13_init 110 = .ok (.aload_n 0, 1) := by decide +kernel
theorem dX13_init_111 : decode cX13_init 111 = .ok (.sipush 700, 3) := by decide +kernel
theorem dX13_init_114 : decode cX13_init 114 = .ok (.newarray .int, 2) := by decide +kernel
theorem dX13_init_116 : decode cX13_init 116 = .ok (.putfield 53, 3) := by decide +kernel
theorem dX13_init_119 : decode cX13_init 119 = .ok (.aload_n 0, 1) := by decide +kernel
theorem dX13_init_120 : decode cX13_init 120 = .ok (.iconst (-1), 1) := by decide +kernel
theorem dX13_init_121 : decode cX13_init 121 = .ok (.putfield 56, 3) := by decide +kernel
theorem dX13_init_124 : decode cX13_init 124 = .ok (.aload_n 0, 1) := by decide +kernel
theorem dX13_init_125 : decode cX13_init 125 = .ok (.iconst 3, 1) := by decide +kernel
theorem dX13_init_126 : decode cX13_init 126 = .ok (.newarray .int, 2) := by decide +kernel
theorem dX13_init_128 : decode cX13_init 128 = .ok (.putfield 59, 3) := by decide +kernel
theorem dX13_init_131 : decode cX13_init 131 = .ok (.aload_n 0, 1) := by decide +kernel
theorem dX13_init_132 : decode cX13_init 132 = .ok (.bipush 7, 2) := by decide +kernel
theorem dX13_init_134 : decode cX13_init 134 = .ok (.newarray .int, 2) := by decide +kernel
theorem dX13_init_136 : decode cX13_init 136 = .ok (.putfield 62, 3) := by decide +kernel
theorem dX13_init_139 : decode cX13_init 139 = .ok (.aload_n 0, 1) := by decide +kernel
theorem dX13_init_140 : decode cX13_init 140 = .ok (.bipush 7, 2) := by decide +kernel
theorem dX13_init_142 : decode cX13_init 142 = .ok (.newarray .int, 2) := by decide +kernel
theorem dX13_init_144 : decode cX13_init 144 = .ok (.putfield 65, 3) := by decide +kernel
theorem dX13_init_147 : decode cX13_init 147 = .ok (.aload_n 0, 1) := by decide +kernel
theorem dX13_init_148 : decode cX13_init 148 = .ok (.bipush 7, 2) := by decide +kernel
theorem dX13_init_150 : decode cX13_init 150 = .ok (.newarray .int, 2) := by decide +kernel
theorem dX13_init_152 : decode cX13_init 152 = .ok (.putfield 68, 3) := by decide +kernel
theorem dX13_init_155 : decode cX13_init 155 = .ok (.aload_n 0, 1) := by decide +kernel
theorem dX13_init_156 : decode cX13_init 156 = .ok (.bipush 7, 2) := by decide +kernel
theorem dX13_init_158 : decode cX13_init 158 = .ok (.newarray .int, 2) := by decide +kernel
theorem dX13_init_160 : decode cX13_init 160 = .ok (.putfield 71, 3) := by decide +kernel
theorem dX13_init_163 : decode cX13_init 163 = .ok (.aload_n 0, 1) := by decide +kernel
theorem dX13_init_164 : decode cX13_init 164 = .ok (.iconst 2, 1) := by decide +kernel
theorem dX13_init_165 : decode cX13_init 165 = .ok (.newarray .int, 2) := by decide +kernel
theorem dX13_init_167 : decode cX13_init 167 = .ok (.putfield 74, 3) := by decide +kernel
theorem dX13_init_170 : decode cX13_init 170 = .ok (.aload_n 0, 1) := by decide +kernel
theorem dX13_init_171 : decode cX13_init 171 = .ok (.bipush 10, 2) := by decide +kernel
theorem dX13_init_173 : decode cX13_init 173 = .ok (.newarray .int, 2) := by decide +kernel
theorem dX13_init_175 : decode cX13_init 175 = .ok (.putfield 77, 3) := by decide +kernel
theorem dX13_init_178 : decode cX13_init 178 = .ok (.aload_n 0, 1) := by decide +kernel
theorem dX13_init_179 : decode cX13_init 179 = .ok (.bipush 6, 2) := by decide +kernel
theorem dX13_init_181 : decode cX13_init 181 = .ok (.newarray .int, 2) := by decide +kernel
theorem dX13_init_183 : decode cX13_init 183 = .ok (.putfield 80, 3) := by decide +kernel
theorem dX13_init_186 : decode cX13_init 186 = .ok (.aload_n 0, 1) := by decide +kernel
theorem dX13_init_187 : decode cX13_init 187 = .ok (.bipush 7, 2) := by decide +kernel
theorem dX13_init_189 : decode cX13_init 189 = .ok (.newarray .int, 2) := by decide +kernel
theorem dX13_init_191 : decode cX13_init 191 = .ok (.putfield 83, 3) := by decide +kernel
theorem dX13_init_194 : decode cX13_init 194 = .ok (.aload_n 0, 1) := by decide +kernel
theorem dX13_init_195 : decode cX13_init 195 = .ok (.bipush 7, 2) := by decide +kernel
theorem dX13_init_197 : decode cX13_init 197 = .ok (.newarray .int, 2) := by decide +kernel
theorem dX13_init_199 : decode cX13_init 199 = .ok (.putfield 86, 3) := by decide +kernel
theorem dX13_init_202 : decode cX13_init 202 = .ok (.aload_n 0, 1) := by decide +kernel
theorem dX13_init_203 : decode cX13_init 203 = .ok (.bipush 7, 2) := by decide +kernel
theorem dX13_init_205 : decode cX13_init 205 = .ok (.newarray .int, 2) := by decide +kernel
theorem dX13_init_207 : decode cX13_init 207 = .ok (.putfield 89, 3) := by decide +kernel
theorem dX13_init_210 : decode cX13_init 210 = .ok (.aload_n 0, 1) := by decide +kernel
theorem dX13_init_211 : decode cX13_init 211 = .ok (.bipush 7, 2) := by decide +kernel
theorem dX13_init_213 : decode cX13_init 213 = .ok (.newarray .int, 2) := by decide +kernel
theorem dX13_init_215 : decode cX13_init 215 = .ok (.putfield 92, 3) := by decide +kernel
theorem dX13_init_218 : decode cX13_init 218 = .ok (.aload_n 0, 1) := by decide +kernel
theorem dX13_init_219 : decode cX13_init 219 = .ok (.bipush 31, 2) := by decide +kernel
theorem dX13_init_221 : decode cX13_init 221 = .ok (.newarray .int, 2) := by decide +kernel
theorem dX13_init_223 : decode cX13_init 223 = .ok (.putfield 95, 3) := by decide +kernel
theorem dX13_init_226 : decode cX13_init 226 = .ok (.aload_n 0, 1) := by decide +kernel
theorem dX13_init_227 : decode cX13_init 227 = .ok (.sipush 1400, 3) := by decide +kernel
theorem dX13_init_230 : decode cX13_init 230 = .ok (.newarray .int, 2) := by decide +kernel
theorem dX13_init_232 : decode cX13_init 232 = .ok (.putfield 98, 3) := by decide +kernel
theorem dX13_init_235 : decode cX13_init 235 = .ok (.aload_n 0, 1) := by decide +kernel
theorem dX13_init_236 : decode cX13_init 236 = .ok (.sipush 950, 3) := by decide +kernel
theorem dX13_init_239 : decode cX13_init 239 = .ok (.newarray .int, 2) := by decide +kernel
theorem dX13_init_241 : decode cX13_init 241 = .ok (.putfield 101, 3) := by decide +kernel
theorem dX13_init_244 : decode cX13_init 244 = .ok (.aload_n 0, 1) := by decide +kernel
theorem dX13_init_245 : decode cX13_init 245 = .ok (.bipush 9, 2) := by decide +kernel
theorem dX13_init_247 : decode cX13_init 247 = .ok (.newarray .boolean, 2) := by decide +kernel
theorem dX13_init_249 : decode cX13_init 249 = .ok (.putfield 104, 3) := by decide +kernel
theorem dX13_init_252 : decode cX13_init 252 = .ok (.aload_n 0, 1) := by decide +kernel
theorem dX13_init_253 : decode cX13_init 253 = .ok (.sipush 186, 3) := by decide +kernel
theorem dX13_init_256 : decode cX13_init 256 = .ok (.newarray .int, 2) := by decide +kernel
theorem dX13_init_258 : decode cX13_init 258 = .ok (.putfield 108, 3) := by decide +kernel
theorem dX13_init_261 : decode cX13_init 261 = .ok (.aload_n 0, 1) := by decide +kernel
theorem dX13_init_262 : decode cX13_init 262 = .ok (.sipush 1240, 3) := by decide +kernel
theorem dX13_init_265 : decode cX13_init 265 = .ok (.newarray .int, 2) := by decide +kernel
theorem dX13_init_267 : decode cX13_init 267 = .ok (.putfield 111, 3) := by decide +kernel
theorem dX13_init_270 : decode cX13_init 270 = .ok (.aload_n 0, 1) := by decide +kernel
theorem dX13_init_271 : decode cX13_init 271 = .ok (.bipush 8, 2) := by decide +kernel
theorem dX13_init_273 : decode cX13_init 273 = .ok (.newarray .int, 2) := by decide +kernel
theorem dX13_init_275 : decode cX13_init 275 = .ok (.putfield 114, 3) := by decide +kernel
theorem dX13_init_278 : decode cX13_init 278 = .ok (.aload_n 0, 1) := by decide +kernel
theorem dX13_init_279 : decode cX13_init 279 = .ok (.sipush 950, 3) := by decide +kernel
theorem dX13_init_282 : decode cX13_init 282 = .ok (.newarray .int, 2) := by decide +kernel
theorem dX13_init_284 : decode cX13_init 284 = .ok (.putfield 117, 3) := by decide +kernel
theorem dX13_init_287 : decode cX13_init 287 = .ok (.aload_n 0, 1) := by decide +kernel
theorem dX13_init_288 : decode cX13_init 288 = .ok (.sipush 1024, 3) := by decide +kernel
theorem dX13_init_291 : decode cX13_init 291 = .ok (.newarray .int, 2) := by decide +kernel
theorem dX13_init_293 : decode cX13_init 293 = .ok (.putfield 120, 3) := by decide +kernel
theorem dX13_init_296 : decode cX13_init 296 = .ok (.aload_n 0, 1) := by decide +kernel
theorem dX13_init_297 : decode cX13_init 297 = .ok (.bipush 16, 2) := by decide +kernel
theorem dX13_init_299 : decode cX13_init 299 = .ok (.newarray .int, 2) := by decide +kernel
theorem dX13_init_301 : decode cX13_init 301 = .ok (.putfield 123, 3) := by decide +kernel
theorem dX13_init_304 : decode cX13_init 304 = .ok (.aload_n 0, 1) := by decide +kernel
theorem dX13_init_305 : decode cX13_init 305 = .ok (.bipush 30, 2) := by decide +kernel
theorem dX13_init_307 : decode cX13_init 307 = .ok (.newarray .int, 2) := by decide +kernel
theorem dX13_init_309 : decode cX13_init 309 = .ok (.putfield 126, 3) := by decide +kernel
theorem dX13_init_312 : decode cX13_init 312 = .ok (.aload_n 0, 1) := by decide +kernel
theorem dX13_init_313 : decode cX13_init 313 = .ok (.sipush 2520, 3) := by decide +kernel
theorem dX13_init_316 : decode cX13_init 316 = .ok (.newarray .int, 2) := by decide +kernel
theorem dX13_init_318 : decode cX13_init 318 = .ok (.putfield 129, 3) := by decide +kernel
theorem dX13_init_321 : decode cX13_init 321 = .ok (.aload_n 0, 1) := by decide +kernel
theorem dX13_init_322 : decode cX13_init 322 = .ok (.bipush 31, 2) := by decide +kernel
theorem dX13_init_324 : decode cX13_init 324 = .ok (.newarray .int, 2) := by decide +kernel
theorem dX13_init_326 : decode cX13_init 326 = .ok (.putfield 132, 3) := by decide +kernel
theorem dX13_init_329 : decode cX13_init 329 = .ok (.aload_n 0, 1) := by decide +kernel
theorem dX13_init_330 : decode cX13_init 330 = .ok (.sipush 1240, 3) := by decide +kernel
theorem dX13_init_333 : decode cX13_init 333 = .ok (.newarray .int, 2) := by decide +kernel
theorem dX13_init_335 : decode cX13_init 335 = .ok (.putfield 135, 3) := by decide +kernel
theorem dX13_init_338 : decode cX13_init 338 = .ok (.aload_n 0, 1) := by decide +kernel
theorem dX13_init_339 : decode cX13_init 339 = .ok (.bipush 16, 2) := by decide +kernel
theorem dX13_init_341 : decode cX13_init 341 = .ok (.newarray .int, 2) := by decide +kernel
theorem dX13_init_343 : decode cX13_init 343 = .ok (.putfield 138, 3) := by decide +kernel
theorem dX13_init_346 : decode cX13_init 346 = .ok (.aload_n 0, 1) := by decide +kernel
theorem dX13_init_347 : decode cX13_init 347 = .ok (.getfield 108, 3) := by decide +kernel
theorem dX13_init_350 : decode cX13_init 350 = .ok (.iconst 0, 1) := by decide +kernel
theorem dX13_init_351 : decode cX13_init 351 = .ok (.bipush 50, 2) := by decide +kernel
theorem dX13_init_353 : decode cX13_init 353 = .ok (.iastore, 1) := by decide +kernel
theorem dX13_init_354 : decode cX13_init 354 = .ok (.aload_n 0, 1) := by decide +kernel
theorem dX13_init_355 : decode cX13_init 355 = .ok (.getfield 108, 3) := by decide +kernel
theorem dX13_init_358 : decode cX13_init 358 = .ok (.iconst 1, 1) := by decide +kernel
theorem dX13_init_359 : decode cX13_init 359 = .ok (.bipush 20, 2) := by decide +kernel
theorem dX13_init_361 : decode cX13_init 361 = .ok (.iastore, 1) := by decide +kernel
theorem dX13_init_362 : decode cX13_init 362 = .ok (.aload_n 0, 1) := by decide +kernel
theorem dX13_init_363 : decode cX13_init 363 = .ok (.getfield 108, 3) := by decide +kernel
theorem dX13_init_366 : decode cX13_init 366 = .ok (.bipush 12, 2) := by decide +kernel
theorem dX13_init_368 : decode cX13_init 368 = .ok (.iconst 1, 1) := by decide +kernel
theorem dX13_init_369 : decode cX13_init 369 = .ok (.iastore, 1) := by decide +kernel
theorem dX13_init_370 : decode cX13_init 370 = .ok (.return_, 1) := by decide +kernel
theorem dX13_thrown_0 : decode cX13_thrown 0 = .ok (.aload_n 0, 1) := by decide +kernel
theorem dX13_thrown_1 : decode cX13_thrown 1 = .ok (.getfield 141, 3) := by decide +kernel
theorem dX13_thrown_4 : decode cX13_thrown 4 = .ok (.ireturn, 1) := by decide +kernel
theorem dX13_right_0 : decode cX13_right 0 = .ok (.aload_n 0, 1) := by decide +kernel
theorem dX13_right_1 : decode cX13_right 1 = .ok (.getfield 141, 3) := by decide +kernel
theorem dX13_right_4 : decode cX13_right 4 = .ok (.ifCond .ne 12, 3) := by decide +kernel
theorem dX13_right_7 : decode cX13_right 7 = .ok (.iload_n 1, 1) := by decide +kernel
theorem dX13_right_8 : decode cX13_right 8 = .ok (.ifCond .ne 8, 3) := by decide +kernel
theorem dX13_right_11 : decode cX13_right 11 = .ok (.aload_n 0, 1) := by decide +kernel
theorem dX13_right_12 : decode cX13_right 12 = .ok (.iload_n 2, 1) := by decide +kernel
theorem dX13_right_13 : decode cX13_right 13 = .ok (.putfield 141, 3) := by decide +kernel
theorem dX13_right_16 : decode cX13_right 16 = .ok (.aload_n 0, 1) := by decide +kernel
theorem dX13_right_17 : decode cX13_right 17 = .ok (.getfield 141, 3) := by decide +kernel
theorem dX13_right_20 : decode cX13_right 20 = .ok (.ifCond .ne 7, 3) := by decide +kernel
theorem dX13_right_23 : decode cX13_right 23 = .ok (.iconst 1, 1) := by decide +kernel
theorem dX13_right_24 : decode cX13_right 24 = .ok (.goto 4, 3) := by decide +kernel
theorem dX13_right_27 : decode cX13_right 27 = .ok (.iconst 0, 1) := by decide +kernel
theorem dX13_right_28 : decode cX13_right 28 = .ok (.ireturn, 1) := by decide +kernel
theorem dX13_within_0 : decode cX13_within 0 = .ok (.iload_n 0, 1) := by decide +kernel
theorem dX13_within_1 : decode cX13_within 1 = .ok (.iload_n 1, 1) := by decide +kernel
theorem dX13_within_2 : decode cX13_within 2 = .ok (.if_icmp .lt 12, 3) := by decide +kernel
theorem dX13_within_5 : decode cX13_within 5 = .ok (.iload_n 0, 1) := by decide +kernel
theorem dX13_within_6 : decode cX13_within 6 = .ok (.iload_n 2, 1) := by decide +kernel
theorem dX13_within_7 : decode cX13_within 7 = .ok (.if_icmp .gt 7, 3) := by decide +kernel
theorem dX13_within_10 : decode cX13_within 10 = .ok (.iconst 1, 1) := by decide +kernel
theorem dX13_within_11 : decode cX13_within 11 = .ok (.goto 4, 3) := by decide +kernel
theorem dX13_within_14 : decode cX13_within 14 = .ok (.iconst 0, 1) := by decide +kernel
theorem dX13_within_15 : decode cX13_within 15 = .ok (.ireturn, 1) := by decide +kernel
theorem dX13_kept_0 : decode cX13_kept 0 = .ok (.iload_n 0, 1) := by decide +kernel
theorem dX13_kept_1 : decode cX13_kept 1 = .ok (.iload_n 1, 1) := by decide +kernel
theorem dX13_kept_2 : decode cX13_kept 2 = .ok (.if_icmp .ge 7, 3) := by decide +kernel
theorem dX13_kept_5 : decode cX13_kept 5 = .ok (.iload_n 1, 1) := by decide +kernel
theorem dX13_kept_6 : decode cX13_kept 6 = .ok (.goto 13, 3) := by decide +kernel
theorem dX13_kept_9 : decode cX13_kept 9 = .ok (.iload_n 0, 1) := by decide +kernel
theorem dX13_kept_10 : decode cX13_kept 10 = .ok (.iload_n 2, 1) := by decide +kernel
theorem dX13_kept_11 : decode cX13_kept 11 = .ok (.if_icmp .le 7, 3) := by decide +kernel
theorem dX13_kept_14 : decode cX13_kept 14 = .ok (.iload_n 2, 1) := by decide +kernel
theorem dX13_kept_15 : decode cX13_kept 15 = .ok (.goto 4, 3) := by decide +kernel
theorem dX13_kept_18 : decode cX13_kept 18 = .ok (.iload_n 0, 1) := by decide +kernel
theorem dX13_kept_19 : decode cX13_kept 19 = .ok (.ireturn, 1) := by decide +kernel
theorem dX13_copies_0 : decode cX13_copies 0 = .ok (.iconst 0, 1) := by decide +kernel
theorem dX13_copies_1 : decode cX13_copies 1 = .ok (.istore_n 3, 1) := by decide +kernel
theorem dX13_copies_2 : decode cX13_copies 2 = .ok (.iload_n 3, 1) := by decide +kernel
theorem dX13_copies_3 : decode cX13_copies 3 = .ok (.aload_n 1, 1) := by decide +kernel
theorem dX13_copies_4 : decode cX13_copies 4 = .ok (.arraylength, 1) := by decide +kernel
theorem dX13_copies_5 : decode cX13_copies 5 = .ok (.if_icmp .ge 15, 3) := by decide +kernel
theorem dX13_copies_8 : decode cX13_copies 8 = .ok (.aload_n 2, 1) := by decide +kernel
theorem dX13_copies_9 : decode cX13_copies 9 = .ok (.iload_n 3, 1) := by decide +kernel
theorem dX13_copies_10 : decode cX13_copies 10 = .ok (.aload_n 1, 1) := by decide +kernel
theorem dX13_copies_11 : decode cX13_copies 11 = .ok (.iload_n 3, 1) := by decide +kernel
theorem dX13_copies_12 : decode cX13_copies 12 = .ok (.iaload, 1) := by decide +kernel
theorem dX13_copies_13 : decode cX13_copies 13 = .ok (.iastore, 1) := by decide +kernel
theorem dX13_copies_14 : decode cX13_copies 14 = .ok (.iinc 3 1, 3) := by decide +kernel
theorem dX13_copies_17 : decode cX13_copies 17 = .ok (.goto (-15), 3) := by decide +kernel
theorem dX13_copies_20 : decode cX13_copies 20 = .ok (.return_, 1) := by decide +kernel
theorem dX13_bits_0 : decode cX13_bits 0 = .ok (.iconst 0, 1) := by decide +kernel
theorem dX13_bits_1 : decode cX13_bits 1 = .ok (.istore_n 1, 1) := by decide +kernel
theorem dX13_bits_2 : decode cX13_bits 2 = .ok (.iconst 0, 1) := by decide +kernel
theorem dX13_bits_3 : decode cX13_bits 3 = .ok (.istore_n 2, 1) := by decide +kernel
theorem dX13_bits_4 : decode cX13_bits 4 = .ok (.iload_n 2, 1) := by decide +kernel
theorem dX13_bits_5 : decode cX13_bits 5 = .ok (.bipush 14, 2) := by decide +kernel
theorem dX13_bits_7 : decode cX13_bits 7 = .ok (.if_icmp .ge 17, 3) := by decide +kernel
theorem dX13_bits_10 : decode cX13_bits 10 = .ok (.iload_n 1, 1) := by decide +kernel
theorem dX13_bits_11 : decode cX13_bits 11 = .ok (.iload_n 0, 1) := by decide +kernel
theorem dX13_bits_12 : decode cX13_bits 12 = .ok (.iload_n 2, 1) := by decide +kernel
theorem dX13_bits_13 : decode cX13_bits 13 = .ok (.ishr, 1) := by decide +kernel
theorem dX13_bits_14 : decode cX13_bits 14 = .ok (.iconst 1, 1) := by decide +kernel
theorem dX13_bits_15 : decode cX13_bits 15 = .ok (.iand, 1) := by decide +kernel
theorem dX13_bits_16 : decode cX13_bits 16 = .ok (.iadd, 1) := by decide +kernel
theorem dX13_bits_17 : decode cX13_bits 17 = .ok (.istore_n 1, 1) := by decide +kernel
theorem dX13_bits_18 : decode cX13_bits 18 = .ok (.iinc 2 1, 3) := by decide +kernel
theorem dX13_bits_21 : decode cX13_bits 21 = .ok (.goto (-17), 3) := by decide +kernel
theorem dX13_bits_24 : decode cX13_bits 24 = .ok (.iload_n 1, 1) := by decide +kernel
theorem dX13_bits_25 : decode cX13_bits 25 = .ok (.ireturn, 1) := by decide +kernel
theorem dX13_feed_0 : decode cX13_feed 0 = .ok (.aload_n 0, 1) := by decide +kernel
theorem dX13_feed_1 : decode cX13_feed 1 = .ok (.iconst 0, 1) := by decide +kernel
theorem dX13_feed_2 : decode cX13_feed 2 = .ok (.putfield 141, 3) := by decide +kernel
theorem dX13_feed_5 : decode cX13_feed 5 = .ok (.aload_n 0, 1) := by decide +kernel
theorem dX13_feed_6 : decode cX13_feed 6 = .ok (.getfield 144, 3) := by decide +kernel
theorem dX13_feed_9 : decode cX13_feed 9 = .ok (.bipush 20, 2) := by decide +kernel
theorem dX13_feed_11 : decode cX13_feed 11 = .ok (.iadd, 1) := by decide +kernel
theorem dX13_feed_12 : decode cX13_feed 12 = .ok (.sipush 700, 3) := by decide +kernel
theorem dX13_feed_15 : decode cX13_feed 15 = .ok (.if_icmp .le 5, 3) := by decide +kernel
theorem dX13_feed_18 : decode cX13_feed 18 = .ok (.iconst (-1), 1) := by decide +kernel
theorem dX13_feed_19 : decode cX13_feed 19 = .ok (.ireturn, 1) := by decide +kernel
theorem dX13_feed_20 : decode cX13_feed 20 = .ok (.aload_n 0, 1) := by decide +kernel
theorem dX13_feed_21 : decode cX13_feed 21 = .ok (.iload_n 1, 1) := by decide +kernel
theorem dX13_feed_22 : decode cX13_feed 22 = .ok (.invokevirtual 147, 3) := by decide +kernel
theorem dX13_feed_25 : decode cX13_feed 25 = .ok (.aload_n 0, 1) := by decide +kernel
theorem dX13_feed_26 : decode cX13_feed 26 = .ok (.iload_n 2, 1) := by decide +kernel
theorem dX13_feed_27 : decode cX13_feed 27 = .ok (.invokevirtual 147, 3) := by decide +kernel
theorem dX13_feed_30 : decode cX13_feed 30 = .ok (.aload_n 0, 1) := by decide +kernel
theorem dX13_feed_31 : decode cX13_feed 31 = .ok (.iload_n 3, 1) := by decide +kernel
theorem dX13_feed_32 : decode cX13_feed 32 = .ok (.invokevirtual 147, 3) := by decide +kernel
theorem dX13_feed_35 : decode cX13_feed 35 = .ok (.aload_n 0, 1) := by decide +kernel
theorem dX13_feed_36 : decode cX13_feed 36 = .ok (.iload 4, 2) := by decide +kernel
theorem dX13_feed_38 : decode cX13_feed 38 = .ok (.invokevirtual 147, 3) := by decide +kernel
theorem dX13_feed_41 : decode cX13_feed 41 = .ok (.aload_n 0, 1) := by decide +kernel
theorem dX13_feed_42 : decode cX13_feed 42 = .ok (.iload 5, 2) := by decide +kernel
theorem dX13_feed_44 : decode cX13_feed 44 = .ok (.invokevirtual 147, 3) := by decide +kernel
theorem dX13_feed_47 : decode cX13_feed 47 = .ok (.aload_n 0, 1) := by decide +kernel
theorem dX13_feed_48 : decode cX13_feed 48 = .ok (.getfield 144, 3) := by decide +kernel
theorem dX13_feed_51 : decode cX13_feed 51 = .ok (.ireturn, 1) := by decide +kernel
theorem dX13_lays_0 : decode cX13_lays 0 = .ok (.bipush 24, 2) := by decide +kernel
theorem dX13_lays_2 : decode cX13_lays 2 = .ok (.istore_n 2, 1) := by decide +kernel
theorem dX13_lays_3 : decode cX13_lays 3 = .ok (.iload_n 2, 1) := by decide +kernel
theorem dX13_lays_4 : decode cX13_lays 4 = .ok (.ifCond .lt 35, 3) := by decide +kernel
theorem dX13_lays_7 : decode cX13_lays 7 = .ok (.aload_n 0, 1) := by decide +kernel
theorem dX13_lays_8 : decode cX13_lays 8 = .ok (.getfield 53, 3) := by decide +kernel
theorem dX13_lays_11 : decode cX13_lays 11 = .ok (.aload_n 0, 1) := by decide +kernel
theorem dX13_lays_12 : decode cX13_lays 12 = .ok (.getfield 144, 3) := by decide +kernel
theorem dX13_lays_15 : decode cX13_lays 15 = .ok (.iload_n 1, 1) := by decide +kernel
theorem dX13_lays_16 : decode cX13_lays 16 = .ok (.iload_n 2, 1) := by decide +kernel
theorem dX13_lays_17 : decode cX13_lays 17 = .ok (.ishr, 1) := by decide +kernel
theorem dX13_lays_18 : decode cX13_lays 18 = .ok (.sipush 255, 3) := by decide +kernel
theorem dX13_lays_21 : decode cX13_lays 21 = .ok (.iand, 1) := by decide +kernel
theorem dX13_lays_22 : decode cX13_lays 22 = .ok (.iastore, 1) := by decide +kernel
theorem dX13_lays_23 : decode cX13_lays 23 = .ok (.aload_n 0, 1) := by decide +kernel
theorem dX13_lays_24 : decode cX13_lays 24 = .ok (.dup, 1) := by decide +kernel
theorem dX13_lays_25 : decode cX13_lays 25 = .ok (.getfield 144, 3) := by decide +kernel
theorem dX13_lays_28 : decode cX13_lays 28 = .ok (.iconst 1, 1) := by decide +kernel
theorem dX13_lays_29 : decode cX13_lays 29 = .ok (.iadd, 1) := by decide +kernel
theorem dX13_lays_30 : decode cX13_lays 30 = .ok (.putfield 144, 3) := by decide +kernel
theorem dX13_lays_33 : decode cX13_lays 33 = .ok (.iinc 2 (-8), 3) := by decide +kernel
theorem dX13_lays_36 : decode cX13_lays 36 = .ok (.goto (-33), 3) := by decide +kernel
theorem dX13_lays_39 : decode cX13_lays 39 = .ok (.return_, 1) := by decide +kernel
theorem dX13_byteAt_0 : decode cX13_byteAt 0 = .ok (.iload_n 1, 1) := by decide +kernel
theorem dX13_byteAt_1 : decode cX13_byteAt 1 = .ok (.aload_n 0, 1) := by decide +kernel
theorem dX13_byteAt_2 : decode cX13_byteAt 2 = .ok (.getfield 151, 3) := by decide +kernel
theorem dX13_byteAt_5 : decode cX13_byteAt 5 = .ok (.if_icmp .ge 12, 3) := by decide +kernel
theorem dX13_byteAt_8 : decode cX13_byteAt 8 = .ok (.aload_n 0, 1) := by decide +kernel
theorem dX13_byteAt_9 : decode cX13_byteAt 9 = .ok (.getfield 53, 3) := by decide +kernel
theorem dX13_byteAt_12 : decode cX13_byteAt 12 = .ok (.iload_n 1, 1) := by decide +kernel
theorem dX13_byteAt_13 : decode cX13_byteAt 13 = .ok (.iaload, 1) := by decide +kernel
theorem dX13_byteAt_14 : decode cX13_byteAt 14 = .ok (.goto 4, 3) := by decide +kernel
theorem dX13_byteAt_17 : decode cX13_byteAt 17 = .ok (.iconst 0, 1) := by decide +kernel
theorem dX13_byteAt_18 : decode cX13_byteAt 18 = .ok (.ireturn, 1) := by decide +kernel
theorem dX13_isLetter_0 : decode cX13_isLetter 0 = .ok (.iload_n 0, 1) := by decide +kernel
theorem dX13_isLetter_1 : decode cX13_isLetter 1 = .ok (.bipush 97, 2) := by decide +kernel
theorem dX13_isLetter_3 : decode cX13_isLetter 3 = .ok (.if_icmp .lt 13, 3) := by decide +kernel
theorem dX13_isLetter_6 : decode cX13_isLetter 6 = .ok (.iload_n 0, 1) := by decide +kernel
theorem dX13_isLetter_7 : decode cX13_isLetter 7 = .ok (.bipush 122, 2) := by decide +kernel
theorem dX13_isLetter_9 : decode cX13_isLetter 9 = .ok (.if_icmp .gt 7, 3) := by decide +kernel
theorem dX13_isLetter_12 : decode cX13_isLetter 12 = .ok (.iconst 1, 1) := by decide +kernel
theorem dX13_isLetter_13 : decode cX13_isLetter 13 = .ok (.goto 4, 3) := by decide +kernel
theorem dX13_isLetter_16 : decode cX13_isLetter 16 = .ok (.iconst 0, 1) := by decide +kernel
theorem dX13_isLetter_17 : decode cX13_isLetter 17 = .ok (.ireturn, 1) := by decide +kernel
theorem dX13_isDigit_0 : decode cX13_isDigit 0 = .ok (.iload_n 0, 1) := by decide +kernel
theorem dX13_isDigit_1 : decode cX13_isDigit 1 = .ok (.bipush 48, 2) := by decide +kernel
theorem dX13_isDigit_3 : decode cX13_isDigit 3 = .ok (.if_icmp .lt 13, 3) := by decide +kernel
theorem dX13_isDigit_6 : decode cX13_isDigit 6 = .ok (.iload_n 0, 1) := by decide +kernel
theorem dX13_isDigit_7 : decode cX13_isDigit 7 = .ok (.bipush 57, 2) := by decide +kernel
theorem dX13_isDigit_9 : decode cX13_isDigit 9 = .ok (.if_icmp .gt 7, 3) := by decide +kernel
theorem dX13_isDigit_12 : decode cX13_isDigit 12 = .ok (.iconst 1, 1) := by decide +kernel
theorem dX13_isDigit_13 : decode cX13_isDigit 13 = .ok (.goto 4, 3) := by decide +kernel
theorem dX13_isDigit_16 : decode cX13_isDigit 16 = .ok (.iconst 0, 1) := by decide +kernel
theorem dX13_isDigit_17 : decode cX13_isDigit 17 = .ok (.ireturn, 1) := by decide +kernel
theorem dX13_goes_0 : decode cX13_goes 0 = .ok (.aload_n 0, 1) := by decide +kernel
theorem dX13_goes_1 : decode cX13_goes 1 = .ok (.getfield 154, 3) := by decide +kernel
theorem dX13_goes_4 : decode cX13_goes 4 = .ok (.aload_n 0, 1) := by decide +kernel
theorem dX13_goes_5 : decode cX13_goes 5 = .ok (.getfield 151, 3) := by decide +kernel
theorem dX13_goes_8 : decode cX13_goes 8 = .ok (.if_icmp .ge 42, 3) := by decide +kernel
theorem dX13_goes_11 : decode cX13_goes 11 = .ok (.aload_n 0, 1) := by decide +kernel
theorem dX13_goes_12 : decode cX13_goes 12 = .ok (.aload_n 0, 1) := by decide +kernel
theorem dX13_goes_13 : decode cX13_goes 13 = .ok (.getfield 154, 3) := by decide +kernel
theorem dX13_goes_16 : decode cX13_goes 16 = .ok (.invokevirtual 157, 3) := by decide +kernel
theorem dX13_goes_19 : decode cX13_goes 19 = .ok (.bipush 32, 2) := by decide +kernel
theorem dX13_goes_21 : decode cX13_goes 21 = .ok (.if_icmp .eq 16, 3) := by decide +kernel
theorem dX13_goes_24 : decode cX13_goes 24 = .ok (.aload_n 0, 1) := by decide +kernel
theorem dX13_goes_25 : decode cX13_goes 25 = .ok (.aload_n 0, 1) := by decide +kernel
theorem dX13_goes_26 : decode cX13_goes 26 = .ok (.getfield 154, 3) := by decide +kernel
theorem dX13_goes_29 : decode cX13_goes 29 = .ok (.invokevirtual 157, 3) := by decide +kernel
theorem dX13_goes_32 : decode cX13_goes 32 = .ok (.bipush 10, 2) := by decide +kernel
theorem dX13_goes_34 : decode cX13_goes 34 = .ok (.if_icmp .ne 16, 3) := by decide +kernel
theorem dX13_goes_37 : decode cX13_goes 37 = .ok (.aload_n 0, 1) := by decide +kernel
theorem dX13_goes_38 : decode cX13_goes 38 = .ok (.dup, 1) := by decide +kernel
theorem dX13_goes_39 : decode cX13_goes 39 = .ok (.getfield 154, 3) := by decide +kernel
theorem dX13_goes_42 : decode cX13_goes 42 = .ok (.iconst 1, 1) := by decide +kernel
theorem dX13_goes_43 : decode cX13_goes 43 = .ok (.iadd, 1) := by decide +kernel
theorem dX13_goes_44 : decode cX13_goes 44 = .ok (.putfield 154, 3) := by decide +kernel
theorem dX13_goes_47 : decode cX13_goes 47 = .ok (.goto (-47), 3) := by decide +kernel
theorem dX13_goes_50 : decode cX13_goes 50 = .ok (.aload_n 0, 1) := by decide +kernel
theorem dX13_goes_51 : decode cX13_goes 51 = .ok (.aload_n 0, 1) := by decide +kernel
theorem dX13_goes_52 : decode cX13_goes 52 = .ok (.getfield 154, 3) := by decide +kernel
theorem dX13_goes_55 : decode cX13_goes 55 = .ok (.putfield 161, 3) := by decide +kernel
theorem dX13_goes_58 : decode cX13_goes 58 = .ok (.aload_n 0, 1) := by decide +kernel
theorem dX13_goes_59 : decode cX13_goes 59 = .ok (.lconst 0, 1) := by decide +kernel
theorem dX13_goes_60 : decode cX13_goes 60 = .ok (.putfield 164, 3) := by decide +kernel
theorem dX13_goes_63 : decode cX13_goes 63 = .ok (.aload_n 0, 1) := by decide +kernel
theorem dX13_goes_64 : decode cX13_goes 64 = .ok (.iconst 0, 1) := by decide +kernel
theorem dX13_goes_65 : decode cX13_goes 65 = .ok (.putfield 168, 3) := by decide +kernel
theorem dX13_goes_68 : decode cX13_goes 68 = .ok (.aload_n 0, 1) := by decide +kernel
theorem dX13_goes_69 : decode cX13_goes 69 = .ok (.aload_n 0, 1) := by decide +kernel
theorem dX13_goes_70 : decode cX13_goes 70 = .ok (.getfield 154, 3) := by decide +kernel
theorem dX13_goes_73 : decode cX13_goes 73 = .ok (.invokevirtual 157, 3) := by decide +kernel
theorem dX13_goes_76 : decode cX13_goes 76 = .ok (.istore_n 1, 1) := by decide +kernel
theorem dX13_goes_77 : decode cX13_goes 77 = .ok (.aload_n 0, 1) := by decide +kernel
theorem dX13_goes_78 : decode cX13_goes 78 = .ok (.iload_n 1, 1) := by decide +kernel
theorem dX13_goes_79 : decode cX13_goes 79 = .ok (.putfield 171, 3) := by decide +kernel
theorem dX13_goes_82 : decode cX13_goes 82 = .ok (.aload_n 0, 1) := by decide +kernel
theorem dX13_goes_83 : decode cX13_goes 83 = .ok (.getfield 154, 3) := by decide +kernel
theorem dX13_goes_86 : decode cX13_goes 86 = .ok (.aload_n 0, 1) := by decide +kernel
theorem dX13_goes_87 : decode cX13_goes 87 = .ok (.getfield 151, 3) := by decide +kernel
theorem dX13_goes_90 : decode cX13_goes 90 = .ok (.if_icmp .lt 11, 3) := by decide +kernel
theorem dX13_goes_93 : decode cX13_goes 93 = .ok (.aload_n 0, 1) := by decide +kernel
theorem dX13_goes_94 : decode cX13_goes 94 = .ok (.iconst 0, 1) := by decide +kernel
theorem dX13_goes_95 : decode cX13_goes 95 = .ok (.putfield 174, 3) := by decide +kernel
theorem dX13_goes_98 : decode cX13_goes 98 = .ok (.goto 233, 3) := by decide +kernel
theorem dX13_goes_101 : decode cX13_goes 101 = .ok (.iload_n 1, 1) := by decide +kernel
theorem dX13_goes_102 : decode cX13_goes 102 = .ok (.invokestatic 177, 3) := by decide +kernel
theorem dX13_goes_105 : decode cX13_goes 105 = .ok (.ifCond .eq 75, 3) := by decide +kernel
theorem dX13_goes_108 : decode cX13_goes 108 = .ok (.aload_n 0, 1) := by decide +kernel
theorem dX13_goes_109 : decode cX13_goes 109 = .ok (.aload_n 0, 1) := by decide +kernel
theorem dX13_goes_110 : decode cX13_goes 110 = .ok (.getfield 154, 3) := by decide +kernel
theorem dX13_goes_113 : decode cX13_goes 113 = .ok (.invokevirtual 157, 3) := by decide +kernel
theorem dX13_goes_116 : decode cX13_goes 116 = .ok (.invokestatic 177, 3) := by decide +kernel
theorem dX13_goes_119 : decode cX13_goes 119 = .ok (.ifCond .eq 53, 3) := by decide +kernel
theorem dX13_goes_122 : decode cX13_goes 122 = .ok (.aload_n 0, 1) := by decide +kernel
theorem dX13_goes_123 : decode cX13_goes 123 = .ok (.getfield 154, 3) := by decide +kernel
theorem dX13_goes_126 : decode cX13_goes 126 = .ok (.aload_n 0, 1) := by decide +kernel
theorem dX13_goes_127 : decode cX13_goes 127 = .ok (.getfield 161, 3) := by decide +kernel
theorem dX13_goes_130 : decode cX13_goes 130 = .ok (.isub, 1) := by decide +kernel
theorem dX13_goes_131 : decode cX13_goes 131 = .ok (.bipush 8, 2) := by decide +kernel
theorem dX13_goes_133 : decode cX13_goes 133 = .ok (.if_icmp .ge 26, 3) := by decide +kernel
theorem dX13_goes_136 : decode cX13_goes 136 = .ok (.aload_n 0, 1) := by decide +kernel
theorem dX13_goes_137 : decode cX13_goes 137 = .ok (.aload_n 0, 1) := by decide +kernel
theorem dX13_goes_138 : decode cX13_goes 138 = .ok (.getfield 164, 3) := by decide +kernel
theorem dX13_goes_141 : decode cX13_goes 141 = .ok (.iconst 5, 1) := by decide +kernel
theorem dX13_goes_142 : decode cX13_goes 142 = .ok (.lshl, 1) := by decide +kernel
theorem dX13_goes_143 : decode cX13_goes 143 = .ok (.aload_n 0, 1) := by decide +kernel
theorem dX13_goes_144 : decode cX13_goes 144 = .ok (.aload_n 0, 1) := by decide +kernel
theorem dX13_goes_145 : decode cX13_goes 145 = .ok (.getfield 154, 3) := by decide +kernel
theorem dX13_goes_148 : decode cX13_goes 148 = .ok (.invokevirtual 157, 3) := by decide +kernel
theorem dX13_goes_151 : decode cX13_goes 151 = .ok (.bipush 96, 2) := by decide +kernel
theorem dX13_goes_153 : decode cX13_goes 153 = .ok (.isub, 1) := by decide +kernel
theorem dX13_goes_154 : decode cX13_goes 154 = .ok (.i2l, 1) := by decide +kernel
theorem dX13_goes_155 : decode cX13_goes 155 = .ok (.lor, 1) := by decide +kernel
theorem dX13_goes_156 : decode cX13_goes 156 = .ok (.putfield 164, 3) := by decide +kernel
theorem dX13_goes_159 : decode cX13_goes 159 = .ok (.aload_n 0, 1) := by decide +kernel
theorem dX13_goes_160 : decode cX13_goes 160 = .ok (.dup, 1) := by decide +kernel
theorem dX13_goes_161 : decode cX13_goes 161 = .ok (.getfield 154, 3) := by decide +kernel
theorem dX13_goes_164 : decode cX13_goes 164 = .ok (.iconst 1, 1) := by decide +kernel
theorem dX13_goes_165 : decode cX13_goes 165 = .ok (.iadd, 1) := by decide +kernel
theorem dX13_goes_166 : decode cX13_goes 166 = .ok (.putfield 154, 3) := by decide +kernel
theorem dX13_goes_169 : decode cX13_goes 169 = .ok (.goto (-61), 3) := by decide +kernel
theorem dX13_goes_172 : decode cX13_goes 172 = .ok (.aload_n 0, 1) := by decide +kernel
theorem dX13_goes_173 : decode cX13_goes 173 = .ok (.iconst 1, 1) := by decide +kernel
theorem dX13_goes_174 : decode cX13_goes 174 = .ok (.putfield 174, 3) := by decide +kernel
theorem dX13_goes_177 : decode cX13_goes 177 = .ok (.goto 154, 3) := by decide +kernel
theorem dX13_goes_180 : decode cX13_goes 180 = .ok (.iload_n 1, 1) := by decide +kernel
theorem dX13_goes_181 : decode cX13_goes 181 = .ok (.invokestatic 181, 3) := by decide +kernel
theorem dX13_goes_184 : decode cX13_goes 184 = .ok (.ifCond .eq 74, 3) := by decide +kernel
theorem dX13_goes_187 : decode cX13_goes 187 = .ok (.aload_n 0, 1) := by decide +kernel
theorem dX13_goes_188 : decode cX13_goes 188 = .ok (.aload_n 0, 1) := by decide +kernel
theorem dX13_goes_189 : decode cX13_goes 189 = .ok (.getfield 154, 3) := by decide +kernel
theorem dX13_goes_192 : decode cX13_goes 192 = .ok (.invokevirtual 157, 3) := by decide +kernel
theorem dX13_goes_195 : decode cX13_goes 195 = .ok (.invokestatic 181, 3) := by decide +kernel
theorem dX13_goes_198 : decode cX13_goes 198 = .ok (.ifCond .eq 52, 3) := by decide +kernel
theorem dX13_goes_201 : decode cX13_goes 201 = .ok (.aload_n 0, 1) := by decide +kernel
theorem dX13_goes_202 : decode cX13_goes 202 = .ok (.getfield 154, 3) := by decide +kernel
theorem dX13_goes_205 : decode cX13_goes 205 = .ok (.aload_n 0, 1) := by decide +kernel
theorem dX13_goes_206 : decode cX13_goes 206 = .ok (.getfield 161, 3) := by decide +kernel
theorem dX13_goes_209 : decode cX13_goes 209 = .ok (.isub, 1) := by decide +kernel
theorem dX13_goes_210 : decode cX13_goes 210 = .ok (.iconst 4, 1) := by decide +kernel
theorem dX13_goes_211 : decode cX13_goes 211 = .ok (.if_icmp .ge 26, 3) := by decide +kernel
theorem dX13_goes_214 : decode cX13_goes 214 = .ok (.aload_n 0, 1) := by decide +kernel
theorem dX13_goes_215 : decode cX13_goes 215 = .ok (.bipush 10, 2) := by decide +kernel
theorem dX13_goes_217 : decode cX13_goes 217 = .ok (.aload_n 0, 1) := by decide +kernel
theorem dX13_goes_218 : decode cX13_goes 218 = .ok (.getfield 168, 3) := by decide +kernel
theorem dX13_goes_221 : decode cX13_goes 221 = .ok (.imul, 1) := by decide +kernel
theorem dX13_goes_222 : decode cX13_goes 222 = .ok (.aload_n 0, 1) := by decide +kernel
theorem dX13_goes_223 : decode cX13_goes 223 = .ok (.aload_n 0, 1) := by decide +kernel
theorem dX13_goes_224 : decode cX13_goes 224 = .ok (.getfield 154, 3) := by decide +kernel
theorem dX13_goes_227 : decode cX13_goes 227 = .ok (.invokevirtual 157, 3) := by decide +kernel
theorem dX13_goes_230 : decode cX13_goes 230 = .ok (.iadd, 1) := by decide +kernel
theorem dX13_goes_231 : decode cX13_goes 231 = .ok (.bipush 48, 2) := by decide +kernel
theorem dX13_goes_233 : decode cX13_goes 233 = .ok (.isub, 1) := by decide +kernel
theorem dX13_goes_234 : decode cX13_goes 234 = .ok (.putfield 168, 3) := by decide +kernel
theorem dX13_goes_237 : decode cX13_goes 237 = .ok (.aload_n 0, 1) := by decide +kernel
theorem dX13_goes_238 : decode cX13_goes 238 = .ok (.dup, 1) := by decide +kernel
theorem dX13_goes_239 : decode cX13_goes 239 = .ok (.getfield 154, 3) := by decide +kernel
theorem dX13_goes_242 : decode cX13_goes 242 = .ok (.iconst 1, 1) := by decide +kernel
theorem dX13_goes_243 : decode cX13_goes 243 = .ok (.iadd, 1) := by decide +kernel
theorem dX13_goes_244 : decode cX13_goes 244 = .ok (.putfield 154, 3) := by decide +kernel
theorem dX13_goes_247 : decode cX13_goes 247 = .ok (.goto (-60), 3) := by decide +kernel
theorem dX13_goes_250 : decode cX13_goes 250 = .ok (.aload_n 0, 1) := by decide +kernel
theorem dX13_goes_251 : decode cX13_goes 251 = .ok (.iconst 2, 1) := by decide +kernel
theorem dX13_goes_252 : decode cX13_goes 252 = .ok (.putfield 174, 3) := by decide +kernel
theorem dX13_goes_255 : decode cX13_goes 255 = .ok (.goto 76, 3) := by decide +kernel
theorem dX13_goes_258 : decode cX13_goes 258 = .ok (.aload_n 0, 1) := by decide +kernel
theorem dX13_goes_259 : decode cX13_goes 259 = .ok (.dup, 1) := by decide +kernel
theorem dX13_goes_260 : decode cX13_goes 260 = .ok (.getfield 154, 3) := by decide +kernel
theorem dX13_goes_263 : decode cX13_goes 263 = .ok (.iconst 1, 1) := by decide +kernel
theorem dX13_goes_264 : decode cX13_goes 264 = .ok (.iadd, 1) := by decide +kernel
theorem dX13_goes_265 : decode cX13_goes 265 = .ok (.putfield 154, 3) := by decide +kernel
theorem dX13_goes_268 : decode cX13_goes 268 = .ok (.aload_n 0, 1) := by decide +kernel
theorem dX13_goes_269 : decode cX13_goes 269 = .ok (.iload_n 1, 1) := by decide +kernel
theorem dX13_goes_270 : decode cX13_goes 270 = .ok (.bipush 59, 2) := by decide +kernel
theorem dX13_goes_272 : decode cX13_goes 272 = .ok (.if_icmp .eq 51, 3) := by decide +kernel
theorem dX13_goes_275 : decode cX13_goes 275 = .ok (.iload_n 1, 1) := by decide +kernel
theorem dX13_goes_276 : decode cX13_goes 276 = .ok (.bipush 40, 2) := by decide +kernel
theorem dX13_goes_278 : decode cX13_goes 278 = .ok (.if_icmp .eq 45, 3) := by decide +kernel
theorem dX13_goes_281 : decode cX13_goes 281 = .ok (.iload_n 1, 1) := by decide +kernel
theorem dX13_goes_282 : decode cX13_goes 282 = .ok (.bipush 41, 2) := by decide +kernel
theorem dX13_goes_284 : decode cX13_goes 284 = .ok (.if_icmp .eq 39, 3) := by decide +kernel
theorem dX13_goes_287 : decode cX13_goes 287 = .ok (.iload_n 1, 1) := by decide +kernel
theorem dX13_goes_288 : decode cX13_goes 288 = .ok (.bipush 43, 2) := by decide +kernel
theorem dX13_goes_290 : decode cX13_goes 290 = .ok (.if_icmp .eq 33, 3) := by decide +kernel
theorem dX13_goes_293 : decode cX13_goes 293 = .ok (.iload_n 1, 1) := by decide +kernel
theorem dX13_goes_294 : decode cX13_goes 294 = .ok (.bipush 45, 2) := by decide +kernel
theorem dX13_goes_296 : decode cX13_goes 296 = .ok (.if_icmp .eq 27, 3) := by decide +kernel
theorem dX13_goes_299 : decode cX13_goes 299 = .ok (.iload_n 1, 1) := by decide +kernel
theorem dX13_goes_300 : decode cX13_goes 300 = .ok (.bipush 42, 2) := by decide +kernel
theorem dX13_goes_302 : decode cX13_goes 302 = .ok (.if_icmp .eq 21, 3) := by decide +kernel
theorem dX13_goes_305 : decode cX13_goes 305 = .ok (.iload_n 1, 1) := by decide +kernel
theorem dX13_goes_306 : decode cX13_goes 306 = .ok (.bipush 47, 2) := by decide +kernel
theorem dX13_goes_308 : decode cX13_goes 308 = .ok (.if_icmp .eq 15, 3) := by decide +kernel
theorem dX13_goes_311 : decode cX13_goes 311 = .ok (.iload_n 1, 1) := by decide +kernel
theorem dX13_goes_312 : decode cX13_goes 312 = .ok (.bipush 60, 2) := by decide +kernel
theorem dX13_goes_314 : decode cX13_goes 314 = .ok (.if_icmp .eq 9, 3) := by decide +kernel
theorem dX13_goes_317 : decode cX13_goes 317 = .ok (.iload_n 1, 1) := by decide +kernel
theorem dX13_goes_318 : decode cX13_goes 318 = .ok (.bipush 61, 2) := by decide +kernel
theorem dX13_goes_320 : decode cX13_goes 320 = .ok (.if_icmp .ne 7, 3) := by decide +kernel
theorem dX13_goes_323 : decode cX13_goes 323 = .ok (.iconst 3, 1) := by decide +kernel
theorem dX13_goes_324 : decode cX13_goes 324 = .ok (.goto 4, 3) := by decide +kernel
theorem dX13_goes_327 : decode cX13_goes 327 = .ok (.iconst 4, 1) := by decide +kernel
theorem dX13_goes_328 : decode cX13_goes 328 = .ok (.putfield 174, 3) := by decide +kernel
theorem dX13_goes_331 : decode cX13_goes 331 = .ok (.aload_n 0, 1) := by decide +kernel
theorem dX13_goes_332 : decode cX13_goes 332 = .ok (.aload_n 0, 1) := by decide +kernel
theorem dX13_goes_333 : decode cX13_goes 333 = .ok (.getfield 154, 3) := by decide +kernel
theorem dX13_goes_336 : decode cX13_goes 336 = .ok (.aload_n 0, 1) := by decide +kernel
theorem dX13_goes_337 : decode cX13_goes 337 = .ok (.getfield 161, 3) := by decide +kernel
theorem dX13_goes_340 : decode cX13_goes 340 = .ok (.isub, 1) := by decide +kernel
theorem dX13_goes_341 : decode cX13_goes 341 = .ok (.putfield 184, 3) := by decide +kernel
theorem dX13_goes_344 : decode cX13_goes 344 = .ok (.return_, 1) := by decide +kernel
theorem dX13_spelled_0 : decode cX13_spelled 0 = .ok (.iload_n 0, 1) := by decide +kernel
theorem dX13_spelled_1 : decode cX13_spelled 1 = .ok (.i2l, 1) := by decide +kernel
theorem dX13_spelled_2 : decode cX13_spelled 2 = .ok (.ldc2_w 187, 3) := by decide +kernel
theorem dX13_spelled_5 : decode cX13_spelled 5 = .ok (.lsub, 1) := by decide +kernel
theorem dX13_spelled_6 : decode cX13_spelled 6 = .ok (.iconst 5, 1) := by decide +kernel
theorem dX13_spelled_7 : decode cX13_spelled 7 = .ok (.lshl, 1) := by decide +kernel
theorem dX13_spelled_8 : decode cX13_spelled 8 = .ok (.iload_n 1, 1) := by decide +kernel
theorem dX13_spelled_9 : decode cX13_spelled 9 = .ok (.bipush 96, 2) := by decide +kernel
theorem dX13_spelled_11 : decode cX13_spelled 11 = .ok (.isub, 1) := by decide +kernel
theorem dX13_spelled_12 : decode cX13_spelled 12 = .ok (.i2l, 1) := by decide +kernel
theorem dX13_spelled_13 : decode cX13_spelled 13 = .ok (.lor, 1) := by decide +kernel
theorem dX13_spelled_14 : decode cX13_spelled 14 = .ok (.lstore 8, 2) := by decide +kernel
theorem dX13_spelled_16 : decode cX13_spelled 16 = .ok (.iload_n 2, 1) := by decide +kernel
theorem dX13_spelled_17 : decode cX13_spelled 17 = .ok (.ifCond .eq 15, 3) := by decide +kernel
theorem dX13_spelled_20 : decode cX13_spelled 20 = .ok (.lload 8, 2) := by decide +kernel
theorem dX13_spelled_22 : decode cX13_spelled 22 = .ok (.iconst 5, 1) := by decide +kernel
theorem dX13_spelled_23 : decode cX13_spelled 23 = .ok (.lshl, 1) := by decide +kernel
theorem dX13_spelled_24 : decode cX13_spelled 24 = .ok (.iload_n 2, 1) := by decide +kernel
theorem dX13_spelled_25 : decode cX13_spelled 25 = .ok (.bipush 96, 2) := by decide +kernel
theorem dX13_spelled_27 : decode cX13_spelled 27 = .ok (.isub, 1) := by decide +kernel
theorem dX13_spelled_28 : decode cX13_spelled 28 = .ok (.i2l, 1) := by decide +kernel
theorem dX13_spelled_29 : decode cX13_spelled 29 = .ok (.lor, 1) := by decide +kernel
theorem dX13_spelled_30 : decode cX13_spelled 30 = .ok (.lstore 8, 2) := by decide +kernel
theorem dX13_spelled_32 : decode cX13_spelled 32 = .ok (.iload_n 3, 1) := by decide +kernel
theorem dX13_spelled_33 : decode cX13_spelled 33 = .ok (.ifCond .eq 15, 3) := by decide +kernel
theorem dX13_spelled_36 : decode cX13_spelled 36 = .ok (.lload 8, 2) := by decide +kernel
theorem dX13_spelled_38 : decode cX13_spelled 38 = .ok (.iconst 5, 1) := by decide +kernel
theorem dX13_spelled_39 : decode cX13_spelled 39 = .ok (.lshl, 1) := by decide +kernel
theorem dX13_spelled_40 : decode cX13_spelled 40 = .ok (.iload_n 3, 1) := by decide +kernel
theorem dX13_spelled_41 : decode cX13_spelled 41 = .ok (.bipush 96, 2) := by decide +kernel
theorem dX13_spelled_43 : decode cX13_spelled 43 = .ok (.isub, 1) := by decide +kernel
theorem dX13_spelled_44 : decode cX13_spelled 44 = .ok (.i2l, 1) := by decide +kernel
theorem dX13_spelled_45 : decode cX13_spelled 45 = .ok (.lor, 1) := by decide +kernel
theorem dX13_spelled_46 : decode cX13_spelled 46 = .ok (.lstore 8, 2) := by decide +kernel
theorem dX13_spelled_48 : decode cX13_spelled 48 = .ok (.iload 4, 2) := by decide +kernel
theorem dX13_spelled_50 : decode cX13_spelled 50 = .ok (.ifCond .eq 16, 3) := by decide +kernel
theorem dX13_spelled_53 : decode cX13_spelled 53 = .ok (.lload 8, 2) := by decide +kernel
theorem dX13_spelled_55 : decode cX13_spelled 55 = .ok (.iconst 5, 1) := by decide +kernel
theorem dX13_spelled_56 : decode cX13_spelled 56 = .ok (.lshl, 1) := by decide +kernel
theorem dX13_spelled_57 : decode cX13_spelled 57 = .ok (.iload 4, 2) := by decide +kernel
theorem dX13_spelled_59 : decode cX13_spelled 59 = .ok (.bipush 96, 2) := by decide +kernel
theorem dX13_spelled_61 : decode cX13_spelled 61 = .ok (.isub, 1) := by decide +kernel
theorem dX13_spelled_62 : decode cX13_spelled 62 = .ok (.i2l, 1) := by decide +kernel
theorem dX13_spelled_63 : decode cX13_spelled 63 = .ok (.lor, 1) := by decide +kernel
theorem dX13_spelled_64 : decode cX13_spelled 64 = .ok (.lstore 8, 2) := by decide +kernel
theorem dX13_spelled_66 : decode cX13_spelled 66 = .ok (.iload 5, 2) := by decide +kernel
theorem dX13_spelled_68 : decode cX13_spelled 68 = .ok (.ifCond .eq 16, 3) := by decide +kernel
theorem dX13_spelled_71 : decode cX13_spelled 71 = .ok (.lload 8, 2) := by decide +kernel
theorem dX13_spelled_73 : decode cX13_spelled 73 = .ok (.iconst 5, 1) := by decide +kernel
theorem dX13_spelled_74 : decode cX13_spelled 74 = .ok (.lshl, 1) := by decide +kernel
theorem dX13_spelled_75 : decode cX13_spelled 75 = .ok (.iload 5, 2) := by decide +kernel
theorem dX13_spelled_77 : decode cX13_spelled 77 = .ok (.bipush 96, 2) := by decide +kernel
theorem dX13_spelled_79 : decode cX13_spelled 79 = .ok (.isub, 1) := by decide +kernel
theorem dX13_spelled_80 : decode cX13_spelled 80 = .ok (.i2l, 1) := by decide +kernel
theorem dX13_spelled_81 : decode cX13_spelled 81 = .ok (.lor, 1) := by decide +kernel
theorem dX13_spelled_82 : decode cX13_spelled 82 = .ok (.lstore 8, 2) := by decide +kernel
theorem dX13_spelled_84 : decode cX13_spelled 84 = .ok (.iload 6, 2) := by decide +kernel
theorem dX13_spelled_86 : decode cX13_spelled 86 = .ok (.ifCond .eq 16, 3) := by decide +kernel
theorem dX13_spelled_89 : decode cX13_spelled 89 = .ok (.lload 8, 2) := by decide +kernel
theorem dX13_spelled_91 : decode cX13_spelled 91 = .ok (.iconst 5, 1) := by decide +kernel
theorem dX13_spelled_92 : decode cX13_spelled 92 = .ok (.lshl, 1) := by decide +kernel
theorem dX13_spelled_93 : decode cX13_spelled 93 = .ok (.iload 6, 2) := by decide +kernel
theorem dX13_spelled_95 : decode cX13_spelled 95 = .ok (.bipush 96, 2) := by decide +kernel
theorem dX13_spelled_97 : decode cX13_spelled 97 = .ok (.isub, 1) := by decide +kernel
theorem dX13_spelled_98 : decode cX13_spelled 98 = .ok (.i2l, 1) := by decide +kernel
theorem dX13_spelled_99 : decode cX13_spelled 99 = .ok (.lor, 1) := by decide +kernel
theorem dX13_spelled_100 : decode cX13_spelled 100 = .ok (.lstore 8, 2) := by decide +kernel
theorem dX13_spelled_102 : decode cX13_spelled 102 = .ok (.iload 7, 2) := by decide +kernel
theorem dX13_spelled_104 : decode cX13_spelled 104 = .ok (.ifCond .eq 16, 3) := by decide +kernel
theorem dX13_spelled_107 : decode cX13_spelled 107 = .ok (.lload 8, 2) := by decide +kernel
theorem dX13_spelled_109 : decode cX13_spelled 109 = .ok (.iconst 5, 1) := by decide +kernel
theorem dX13_spelled_110 : decode cX13_spelled 110 = .ok (.lshl, 1) := by decide +kernel
theorem dX13_spelled_111 : decode cX13_spelled 111 = .ok (.iload 7, 2) := by decide +kernel
theorem dX13_spelled_113 : decode cX13_spelled 113 = .ok (.bipush 96, 2) := by decide +kernel
theorem dX13_spelled_115 : decode cX13_spelled 115 = .ok (.isub, 1) := by decide +kernel
theorem dX13_spelled_116 : decode cX13_spelled 116 = .ok (.i2l, 1) := by decide +kernel
theorem dX13_spelled_117 : decode cX13_spelled 117 = .ok (.lor, 1) := by decide +kernel
theorem dX13_spelled_118 : decode cX13_spelled 118 = .ok (.lstore 8, 2) := by decide +kernel
theorem dX13_spelled_120 : decode cX13_spelled 120 = .ok (.lload 8, 2) := by decide +kernel
theorem dX13_spelled_122 : decode cX13_spelled 122 = .ok (.lreturn, 1) := by decide +kernel
theorem dX13_letters_0 : decode cX13_letters 0 = .ok (.iload_n 0, 1) := by decide +kernel
theorem dX13_letters_1 : decode cX13_letters 1 = .ok (.tableswitch 451 0 20 #[99, 116, 132, 147, 164, 180, 197, 214, 230, 246, 262, 279, 298, 318, 334, 352, 372, 388, 405, 422, 437], 99) := by decide +kernel
theorem dX13_letters_100 : decode cX13_letters 100 = .ok (.bipush 119, 2) := by decide +kernel
theorem dX13_letters_102 : decode cX13_letters 102 = .ok (.bipush 97, 2) := by decide +kernel
theorem dX13_letters_104 : decode cX13_letters 104 = .ok (.bipush 108, 2) := by decide +kernel
theorem dX13_letters_106 : decode cX13_letters 106 = .ok (.bipush 108, 2) := by decide +kernel
theorem dX13_letters_108 : decode cX13_letters 108 = .ok (.bipush 115, 2) := by decide +kernel
theorem dX13_letters_110 : decode cX13_letters 110 = .ok (.iconst 0, 1) := by decide +kernel
theorem dX13_letters_111 : decode cX13_letters 111 = .ok (.iconst 0, 1) := by decide +kernel
theorem dX13_letters_112 : decode cX13_letters 112 = .ok (.iconst 0, 1) := by decide +kernel
theorem dX13_letters_113 : decode cX13_letters 113 = .ok (.invokestatic 189, 3) := by decide +kernel
theorem dX13_letters_116 : decode cX13_letters 116 = .ok (.lreturn, 1) := by decide +kernel
theorem dX13_letters_117 : decode cX13_letters 117 = .ok (.bipush 121, 2) := by decide +kernel
theorem dX13_letters_119 : decode cX13_letters 119 = .ok (.bipush 101, 2) := by decide +kernel
theorem dX13_letters_121 : decode cX13_letters 121 = .ok (.bipush 97, 2) := by decide +kernel
theorem dX13_letters_123 : decode cX13_letters 123 = .ok (.bipush 114, 2) := by decide +kernel
theorem dX13_letters_125 : decode cX13_letters 125 = .ok (.iconst 0, 1) := by decide +kernel
theorem dX13_letters_126 : decode cX13_letters 126 = .ok (.iconst 0, 1) := by decide +kernel
theorem dX13_letters_127 : decode cX13_letters 127 = .ok (.iconst 0, 1) := by decide +kernel
theorem dX13_letters_128 : decode cX13_letters 128 = .ok (.iconst 0, 1) := by decide +kernel
theorem dX13_letters_129 : decode cX13_letters 129 = .ok (.invokestatic 189, 3) := by decide +kernel
theorem dX13_letters_132 : decode cX13_letters 132 = .ok (.lreturn, 1) := by decide +kernel
theorem dX13_letters_133 : decode cX13_letters 133 = .ok (.bipush 109, 2) := by decide +kernel
theorem dX13_letters_135 : decode cX13_letters 135 = .ok (.bipush 101, 2) := by decide +kernel
theorem dX13_letters_137 : decode cX13_letters 137 = .ok (.bipush 110, 2) := by decide +kernel
theorem dX13_letters_139 : decode cX13_letters 139 = .ok (.iconst 0, 1) := by decide +kernel
theorem dX13_letters_140 : decode cX13_letters 140 = .ok (.iconst 0, 1) := by decide +kernel
theorem dX13_letters_141 : decode cX13_letters 141 = .ok (.iconst 0, 1) := by decide +kernel
theorem dX13_letters_142 : decode cX13_letters 142 = .ok (.iconst 0, 1) := by decide +kernel
theorem dX13_letters_143 : decode cX13_letters 143 = .ok (.iconst 0, 1) := by decide +kernel
theorem dX13_letters_144 : decode cX13_letters 144 = .ok (.invokestatic 189, 3) := by decide +kernel
theorem dX13_letters_147 : decode cX13_letters 147 = .ok (.lreturn, 1) := by decide +kernel
theorem dX13_letters_148 : decode cX13_letters 148 = .ok (.bipush 115, 2) := by decide +kernel
theorem dX13_letters_150 : decode cX13_letters 150 = .ok (.bipush 116, 2) := by decide +kernel
theorem dX13_letters_152 : decode cX13_letters 152 = .ok (.bipush 111, 2) := by decide +kernel
theorem dX13_letters_154 : decode cX13_letters 154 = .ok (.bipush 114, 2) := by decide +kernel
theorem dX13_letters_156 : decode cX13_letters 156 = .ok (.bipush 101, 2) := by decide +kernel
theorem dX13_letters_158 : decode cX13_letters 158 = .ok (.iconst 0, 1) := by decide +kernel
theorem dX13_letters_159 : decode cX13_letters 159 = .ok (.iconst 0, 1) := by decide +kernel
theorem dX13_letters_160 : decode cX13_letters 160 = .ok (.iconst 0, 1) := by decide +kernel
theorem dX13_letters_161 : decode cX13_letters 161 = .ok (.invokestatic 189, 3) := by decide +kernel
theorem dX13_letters_164 : decode cX13_letters 164 = .ok (.lreturn, 1) := by decide +kernel
theorem dX13_letters_165 : decode cX13_letters 165 = .ok (.bipush 100, 2) := by decide +kernel
theorem dX13_letters_167 : decode cX13_letters 167 = .ok (.bipush 101, 2) := by decide +kernel
theorem dX13_letters_169 : decode cX13_letters 169 = .ok (.bipush 98, 2) := by decide +kernel
theorem dX13_letters_171 : decode cX13_letters 171 = .ok (.bipush 116, 2) := by decide +kernel
theorem dX13_letters_173 : decode cX13_letters 173 = .ok (.iconst 0, 1) := by decide +kernel
theorem dX13_letters_174 : decode cX13_letters 174 = .ok (.iconst 0, 1) := by decide +kernel
theorem dX13_letters_175 : decode cX13_letters 175 = .ok (.iconst 0, 1) := by decide +kernel
theorem dX13_letters_176 : decode cX13_letters 176 = .ok (.iconst 0, 1) := by decide +kernel
theorem dX13_letters_177 : decode cX13_letters 177 = .ok (.invokestatic 189, 3) := by decide +kernel
theorem dX13_letters_180 : decode cX13_letters 180 = .ok (.lreturn, 1) := by decide +kernel
theorem dX13_letters_181 : decode cX13_letters 181 = .ok (.bipush 103, 2) := by decide +kernel
theorem dX13_letters_183 : decode cX13_letters 183 = .ok (.bipush 108, 2) := by decide +kernel
theorem dX13_letters_185 : decode cX13_letters 185 = .ok (.bipush 111, 2) := by decide +kernel
theorem dX13_letters_187 : decode cX13_letters 187 = .ok (.bipush 114, 2) := by decide +kernel
theorem dX13_letters_189 : decode cX13_letters 189 = .ok (.bipush 121, 2) := by decide +kernel
theorem dX13_letters_191 : decode cX13_letters 191 = .ok (.iconst 0, 1) := by decide +kernel
theorem dX13_letters_192 : decode cX13_letters 192 = .ok (.iconst 0, 1) := by decide +kernel
theorem dX13_letters_193 : decode cX13_letters 193 = .ok (.iconst 0, 1) := by decide +kernel
theorem dX13_letters_194 : decode cX13_letters 194 = .ok (.invokestatic 189, 3) := by decide +kernel
theorem dX13_letters_197 : decode cX13_letters 197 = .ok (.lreturn, 1) := by decide +kernel
theorem dX13_letters_198 : decode cX13_letters 198 = .ok (.bipush 114, 2) := by decide +kernel
theorem dX13_letters_200 : decode cX13_letters 200 = .ok (.bipush 117, 2) := by decide +kernel
theorem dX13_letters_202 : decode cX13_letters 202 = .ok (.bipush 108, 2) := by decide +kernel
theorem dX13_letters_204 : decode cX13_letters 204 = .ok (.bipush 101, 2) := by decide +kernel
theorem dX13_letters_206 : decode cX13_letters 206 = .ok (.bipush 115, 2) := by decide +kernel
theorem dX13_letters_208 : decode cX13_letters 208 = .ok (.iconst 0, 1) := by decide +kernel
theorem dX13_letters_209 : decode cX13_letters 209 = .ok (.iconst 0, 1) := by decide +kernel
theorem dX13_letters_210 : decode cX13_letters 210 = .ok (.iconst 0, 1) := by decide +kernel
theorem dX13_letters_211 : decode cX13_letters 211 = .ok (.invokestatic 189, 3) := by decide +kernel
theorem dX13_letters_214 : decode cX13_letters 214 = .ok (.lreturn, 1) := by decide +kernel
theorem dX13_letters_215 : decode cX13_letters 215 = .ok (.bipush 108, 2) := by decide +kernel
theorem dX13_letters_217 : decode cX13_letters 217 = .ok (.bipush 101, 2) := by decide +kernel
theorem dX13_letters_219 : decode cX13_letters 219 = .ok (.bipush 97, 2) := by decide +kernel
theorem dX13_letters_221 : decode cX13_letters 221 = .ok (.bipush 110, 2) := by decide +kernel
theorem dX13_letters_223 : decode cX13_letters 223 = .ok (.iconst 0, 1) := by decide +kernel
theorem dX13_letters_224 : decode cX13_letters 224 = .ok (.iconst 0, 1) := by decide +kernel
theorem dX13_letters_225 : decode cX13_letters 225 = .ok (.iconst 0, 1) := by decide +kernel
theorem dX13_letters_226 : decode cX13_letters 226 = .ok (.iconst 0, 1) := by decide +kernel
theorem dX13_letters_227 : decode cX13_letters 227 = .ok (.invokestatic 189, 3) := by decide +kernel
theorem dX13_letters_230 : decode cX13_letters 230 = .ok (.lreturn, 1) := by decide +kernel
theorem dX13_letters_231 : decode cX13_letters 231 = .ok (.bipush 99, 2) := by decide +kernel
theorem dX13_letters_233 : decode cX13_letters 233 = .ok (.bipush 105, 2) := by decide +kernel
theorem dX13_letters_235 : decode cX13_letters 235 = .ok (.bipush 116, 2) := by decide +kernel
theorem dX13_letters_237 : decode cX13_letters 237 = .ok (.bipush 121, 2) := by decide +kernel
theorem dX13_letters_239 : decode cX13_letters 239 = .ok (.iconst 0, 1) := by decide +kernel
theorem dX13_letters_240 : decode cX13_letters 240 = .ok (.iconst 0, 1) := by decide +kernel
theorem dX13_letters_241 : decode cX13_letters 241 = .ok (.iconst 0, 1) := by decide +kernel
theorem dX13_letters_242 : decode cX13_letters 242 = .ok (.iconst 0, 1) := by decide +kernel
theorem dX13_letters_243 : decode cX13_letters 243 = .ok (.invokestatic 189, 3) := by decide +kernel
theorem dX13_letters_246 : decode cX13_letters 246 = .ok (.lreturn, 1) := by decide +kernel
theorem dX13_letters_247 : decode cX13_letters 247 = .ok (.bipush 100, 2) := by decide +kernel
theorem dX13_letters_249 : decode cX13_letters 249 = .ok (.bipush 101, 2) := by decide +kernel
theorem dX13_letters_251 : decode cX13_letters 251 = .ok (.bipush 101, 2) := by decide +kernel
theorem dX13_letters_253 : decode cX13_letters 253 = .ok (.bipush 100, 2) := by decide +kernel
theorem dX13_letters_255 : decode cX13_letters 255 = .ok (.iconst 0, 1) := by decide +kernel
theorem dX13_letters_256 : decode cX13_letters 256 = .ok (.iconst 0, 1) := by decide +kernel
theorem dX13_letters_257 : decode cX13_letters 257 = .ok (.iconst 0, 1) := by decide +kernel
theorem dX13_letters_258 : decode cX13_letters 258 = .ok (.iconst 0, 1) := by decide +kernel
theorem dX13_letters_259 : decode cX13_letters 259 = .ok (.invokestatic 189, 3) := by decide +kernel
theorem dX13_letters_262 : decode cX13_letters 262 = .ok (.lreturn, 1) := by decide +kernel
theorem dX13_letters_263 : decode cX13_letters 263 = .ok (.bipush 101, 2) := by decide +kernel
theorem dX13_letters_265 : decode cX13_letters 265 = .ok (.bipush 108, 2) := by decide +kernel
theorem dX13_letters_267 : decode cX13_letters 267 = .ok (.bipush 100, 2) := by decide +kernel
theorem dX13_letters_269 : decode cX13_letters 269 = .ok (.bipush 101, 2) := by decide +kernel
theorem dX13_letters_271 : decode cX13_letters 271 = .ok (.bipush 114, 2) := by decide +kernel
theorem dX13_letters_273 : decode cX13_letters 273 = .ok (.iconst 0, 1) := by decide +kernel
theorem dX13_letters_274 : decode cX13_letters 274 = .ok (.iconst 0, 1) := by decide +kernel
theorem dX13_letters_275 : decode cX13_letters 275 = .ok (.iconst 0, 1) := by decide +kernel
theorem dX13_letters_276 : decode cX13_letters 276 = .ok (.invokestatic 189, 3) := by decide +kernel
theorem dX13_letters_279 : decode cX13_letters 279 = .ok (.lreturn, 1) := by decide +kernel
theorem dX13_letters_280 : decode cX13_letters 280 = .ok (.bipush 121, 2) := by decide +kernel
theorem dX13_letters_282 : decode cX13_letters 282 = .ok (.bipush 111, 2) := by decide +kernel
theorem dX13_letters_284 : decode cX13_letters 284 = .ok (.bipush 117, 2) := by decide +kernel
theorem dX13_letters_286 : decode cX13_letters 286 = .ok (.bipush 110, 2) := by decide +kernel
theorem dX13_letters_288 : decode cX13_letters 288 = .ok (.bipush 103, 2) := by decide +kernel
theorem dX13_letters_290 : decode cX13_letters 290 = .ok (.bipush 101, 2) := by decide +kernel
theorem dX13_letters_292 : decode cX13_letters 292 = .ok (.bipush 114, 2) := by decide +kernel
theorem dX13_letters_294 : decode cX13_letters 294 = .ok (.iconst 0, 1) := by decide +kernel
theorem dX13_letters_295 : decode cX13_letters 295 = .ok (.invokestatic 189, 3) := by decide +kernel
theorem dX13_letters_298 : decode cX13_letters 298 = .ok (.lreturn, 1) := by decide +kernel
theorem dX13_letters_299 : decode cX13_letters 299 = .ok (.bipush 104, 2) := by decide +kernel
theorem dX13_letters_301 : decode cX13_letters 301 = .ok (.bipush 97, 2) := by decide +kernel
theorem dX13_letters_303 : decode cX13_letters 303 = .ok (.bipush 114, 2) := by decide +kernel
theorem dX13_letters_305 : decode cX13_letters 305 = .ok (.bipush 118, 2) := by decide +kernel
theorem dX13_letters_307 : decode cX13_letters 307 = .ok (.bipush 101, 2) := by decide +kernel
theorem dX13_letters_309 : decode cX13_letters 309 = .ok (.bipush 115, 2) := by decide +kernel
theorem dX13_letters_311 : decode cX13_letters 311 = .ok (.bipush 116, 2) := by decide +kernel
theorem dX13_letters_313 : decode cX13_letters 313 = .ok (.bipush 115, 2) := by decide +kernel
theorem dX13_letters_315 : decode cX13_letters 315 = .ok (.invokestatic 189, 3) := by decide +kernel
theorem dX13_letters_318 : decode cX13_letters 318 = .ok (.lreturn, 1) := by decide +kernel
theorem dX13_letters_319 : decode cX13_letters 319 = .ok (.bipush 116, 2) := by decide +kernel
theorem dX13_letters_321 : decode cX13_letters 321 = .ok (.bipush 101, 2) := by decide +kernel
theorem dX13_letters_323 : decode cX13_letters 323 = .ok (.bipush 114, 2) := by decide +kernel
theorem dX13_letters_325 : decode cX13_letters 325 = .ok (.bipush 109, 2) := by decide +kernel
theorem dX13_letters_327 : decode cX13_letters 327 = .ok (.iconst 0, 1) := by decide +kernel
theorem dX13_letters_328 : decode cX13_letters 328 = .ok (.iconst 0, 1) := by decide +kernel
theorem dX13_letters_329 : decode cX13_letters 329 = .ok (.iconst 0, 1) := by decide +kernel
theorem dX13_letters_330 : decode cX13_letters 330 = .ok (.iconst 0, 1) := by decide +kernel
theorem dX13_letters_331 : decode cX13_letters 331 = .ok (.invokestatic 189, 3) := by decide +kernel
theorem dX13_letters_334 : decode cX13_letters 334 = .ok (.lreturn, 1) := by decide +kernel
theorem dX13_letters_335 : decode cX13_letters 335 = .ok (.bipush 102, 2) := by decide +kernel
theorem dX13_letters_337 : decode cX13_letters 337 = .ok (.bipush 114, 2) := by decide +kernel
theorem dX13_letters_339 : decode cX13_letters 339 = .ok (.bipush 105, 2) := by decide +kernel
theorem dX13_letters_341 : decode cX13_letters 341 = .ok (.bipush 101, 2) := by decide +kernel
theorem dX13_letters_343 : decode cX13_letters 343 = .ok (.bipush 110, 2) := by decide +kernel
theorem dX13_letters_345 : decode cX13_letters 345 = .ok (.bipush 100, 2) := by decide +kernel
theorem dX13_letters_347 : decode cX13_letters 347 = .ok (.iconst 0, 1) := by decide +kernel
theorem dX13_letters_348 : decode cX13_letters 348 = .ok (.iconst 0, 1) := by decide +kernel
theorem dX13_letters_349 : decode cX13_letters 349 = .ok (.invokestatic 189, 3) := by decide +kernel
theorem dX13_letters_352 : decode cX13_letters 352 = .ok (.lreturn, 1) := by decide +kernel
theorem dX13_letters_353 : decode cX13_letters 353 = .ok (.bipush 99, 2) := by decide +kernel
theorem dX13_letters_355 : decode cX13_letters 355 = .ok (.bipush 104, 2) := by decide +kernel
theorem dX13_letters_357 : decode cX13_letters 357 = .ok (.bipush 97, 2) := by decide +kernel
theorem dX13_letters_359 : decode cX13_letters 359 = .ok (.bipush 109, 2) := by decide +kernel
theorem dX13_letters_361 : decode cX13_letters 361 = .ok (.bipush 112, 2) := by decide +kernel
theorem dX13_letters_363 : decode cX13_letters 363 = .ok (.bipush 105, 2) := by decide +kernel
theorem dX13_letters_365 : decode cX13_letters 365 = .ok (.bipush 111, 2) := by decide +kernel
theorem dX13_letters_367 : decode cX13_letters 367 = .ok (.bipush 110, 2) := by decide +kernel
theorem dX13_letters_369 : decode cX13_letters 369 = .ok (.invokestatic 189, 3) := by decide +kernel
theorem dX13_letters_372 : decode cX13_letters 372 = .ok (.lreturn, 1) := by decide +kernel
theorem dX13_letters_373 : decode cX13_letters 373 = .ok (.bipush 103, 2) := by decide +kernel
theorem dX13_letters_375 : decode cX13_letters 375 = .ok (.bipush 97, 2) := by decide +kernel
theorem dX13_letters_377 : decode cX13_letters 377 = .ok (.bipush 116, 2) := by decide +kernel
theorem dX13_letters_379 : decode cX13_letters 379 = .ok (.bipush 101, 2) := by decide +kernel
theorem dX13_letters_381 : decode cX13_letters 381 = .ok (.iconst 0, 1) := by decide +kernel
theorem dX13_letters_382 : decode cX13_letters 382 = .ok (.iconst 0, 1) := by decide +kernel
theorem dX13_letters_383 : decode cX13_letters 383 = .ok (.iconst 0, 1) := by decide +kernel
theorem dX13_letters_384 : decode cX13_letters 384 = .ok (.iconst 0, 1) := by decide +kernel
theorem dX13_letters_385 : decode cX13_letters 385 = .ok (.invokestatic 189, 3) := by decide +kernel
theorem dX13_letters_388 : decode cX13_letters 388 = .ok (.lreturn, 1) := by decide +kernel
theorem dX13_letters_389 : decode cX13_letters 389 = .ok (.bipush 115, 2) := by decide +kernel
theorem dX13_letters_391 : decode cX13_letters 391 = .ok (.bipush 116, 2) := by decide +kernel
theorem dX13_letters_393 : decode cX13_letters 393 = .ok (.bipush 97, 2) := by decide +kernel
theorem dX13_letters_395 : decode cX13_letters 395 = .ok (.bipush 121, 2) := by decide +kernel
theorem dX13_letters_397 : decode cX13_letters 397 = .ok (.bipush 115, 2) := by decide +kernel
theorem dX13_letters_399 : decode cX13_letters 399 = .ok (.iconst 0, 1) := by decide +kernel
theorem dX13_letters_400 : decode cX13_letters 400 = .ok (.iconst 0, 1) := by decide +kernel
theorem dX13_letters_401 : decode cX13_letters 401 = .ok (.iconst 0, 1) := by decide +kernel
theorem dX13_letters_402 : decode cX13_letters 402 = .ok (.invokestatic 189, 3) := by decide +kernel
theorem dX13_letters_405 : decode cX13_letters 405 = .ok (.lreturn, 1) := by decide +kernel
theorem dX13_letters_406 : decode cX13_letters 406 = .ok (.bipush 108, 2) := by decide +kernel
theorem dX13_letters_408 : decode cX13_letters 408 = .ok (.bipush 105, 2) := by decide +kernel
theorem dX13_letters_410 : decode cX13_letters 410 = .ok (.bipush 107, 2) := by decide +kernel
theorem dX13_letters_412 : decode cX13_letters 412 = .ok (.bipush 101, 2) := by decide +kernel
theorem dX13_letters_414 : decode cX13_letters 414 = .ok (.bipush 115, 2) := by decide +kernel
theorem dX13_letters_416 : decode cX13_letters 416 = .ok (.iconst 0, 1) := by decide +kernel
theorem dX13_letters_417 : decode cX13_letters 417 = .ok (.iconst 0, 1) := by decide +kernel
theorem dX13_letters_418 : decode cX13_letters 418 = .ok (.iconst 0, 1) := by decide +kernel
theorem dX13_letters_419 : decode cX13_letters 419 = .ok (.invokestatic 189, 3) := by decide +kernel
theorem dX13_letters_422 : decode cX13_letters 422 = .ok (.lreturn, 1) := by decide +kernel
theorem dX13_letters_423 : decode cX13_letters 423 = .ok (.bipush 97, 2) := by decide +kernel
theorem dX13_letters_425 : decode cX13_letters 425 = .ok (.bipush 110, 2) := by decide +kernel
theorem dX13_letters_427 : decode cX13_letters 427 = .ok (.bipush 100, 2) := by decide +kernel
theorem dX13_letters_429 : decode cX13_letters 429 = .ok (.iconst 0, 1) := by decide +kernel
theorem dX13_letters_430 : decode cX13_letters 430 = .ok (.iconst 0, 1) := by decide +kernel
theorem dX13_letters_431 : decode cX13_letters 431 = .ok (.iconst 0, 1) := by decide +kernel
theorem dX13_letters_432 : decode cX13_letters 432 = .ok (.iconst 0, 1) := by decide +kernel
theorem dX13_letters_433 : decode cX13_letters 433 = .ok (.iconst 0, 1) := by decide +kernel
theorem dX13_letters_434 : decode cX13_letters 434 = .ok (.invokestatic 189, 3) := by decide +kernel
theorem dX13_letters_437 : decode cX13_letters 437 = .ok (.lreturn, 1) := by decide +kernel
theorem dX13_letters_438 : decode cX13_letters 438 = .ok (.bipush 111, 2) := by decide +kernel
theorem dX13_letters_440 : decode cX13_letters 440 = .ok (.bipush 114, 2) := by decide +kernel
theorem dX13_letters_442 : decode cX13_letters 442 = .ok (.iconst 0, 1) := by decide +kernel
theorem dX13_letters_443 : decode cX13_letters 443 = .ok (.iconst 0, 1) := by decide +kernel
theorem dX13_letters_444 : decode cX13_letters 444 = .ok (.iconst 0, 1) := by decide +kernel
theorem dX13_letters_445 : decode cX13_letters 445 = .ok (.iconst 0, 1) := by decide +kernel
theorem dX13_letters_446 : decode cX13_letters 446 = .ok (.iconst 0, 1) := by decide +kernel
theorem dX13_letters_447 : decode cX13_letters 447 = .ok (.iconst 0, 1) := by decide +kernel
theorem dX13_letters_448 : decode cX13_letters 448 = .ok (.invokestatic 189, 3) := by decide +kernel
theorem dX13_letters_451 : decode cX13_letters 451 = .ok (.lreturn, 1) := by decide +kernel
theorem dX13_letters_452 : decode cX13_letters 452 = .ok (.bipush 110, 2) := by decide +kernel
theorem dX13_letters_454 : decode cX13_letters 454 = .ok (.bipush 111, 2) := by decide +kernel
theorem dX13_letters_456 : decode cX13_letters 456 = .ok (.bipush 116, 2) := by decide +kernel
theorem dX13_letters_458 : decode cX13_letters 458 = .ok (.iconst 0, 1) := by decide +kernel
theorem dX13_letters_459 : decode cX13_letters 459 = .ok (.iconst 0, 1) := by decide +kernel
theorem dX13_letters_460 : decode cX13_letters 460 = .ok (.iconst 0, 1) := by decide +kernel
theorem dX13_letters_461 : decode cX13_letters 461 = .ok (.iconst 0, 1) := by decide +kernel
theorem dX13_letters_462 : decode cX13_letters 462 = .ok (.iconst 0, 1) := by decide +kernel
theorem dX13_letters_463 : decode cX13_letters 463 = .ok (.invokestatic 189, 3) := by decide +kernel
theorem dX13_letters_466 : decode cX13_letters 466 = .ok (.lreturn, 1) := by decide +kernel
theorem dX13_knownWord_0 : decode cX13_knownWord 0 = .ok (.aload_n 0, 1) := by decide +kernel
theorem dX13_knownWord_1 : decode cX13_knownWord 1 = .ok (.getfield 174, 3) := by decide +kernel
theorem dX13_knownWord_4 : decode cX13_knownWord 4 = .ok (.iconst 1, 1) := by decide +kernel
theorem dX13_knownWord_5 : decode cX13_knownWord 5 = .ok (.if_icmp .ne 12, 3) := by decide +kernel
theorem dX13_knownWord_8 : decode cX13_knownWord 8 = .ok (.aload_n 0, 1) := by decide +kernel
theorem dX13_knownWord_9 : decode cX13_knownWord 9 = .ok (.getfield 184, 3) := by decide +kernel
theorem dX13_knownWord_12 : decode cX13_knownWord 12 = .ok (.bipush 8, 2) := by decide +kernel
theorem dX13_knownWord_14 : decode cX13_knownWord 14 = .ok (.if_icmp .le 5, 3) := by decide +kernel
theorem dX13_knownWord_17 : decode cX13_knownWord 17 = .ok (.iconst (-1), 1) := by decide +kernel
theorem dX13_knownWord_18 : decode cX13_knownWord 18 = .ok (.ireturn, 1) := by decide +kernel
theorem dX13_knownWord_19 : decode cX13_knownWord 19 = .ok (.iconst 0, 1) := by decide +kernel
theorem dX13_knownWord_20 : decode cX13_knownWord 20 = .ok (.istore_n 1, 1) := by decide +kernel
theorem dX13_knownWord_21 : decode cX13_knownWord 21 = .ok (.iload_n 1, 1) := by decide +kernel
theorem dX13_knownWord_22 : decode cX13_knownWord 22 = .ok (.bipush 22, 2) := by decide +kernel
theorem dX13_knownWord_24 : decode cX13_knownWord 24 = .ok (.if_icmp .ge 23, 3) := by decide +kernel
theorem dX13_knownWord_27 : decode cX13_knownWord 27 = .ok (.iload_n 1, 1) := by decide +kernel
theorem dX13_knownWord_28 : decode cX13_knownWord 28 = .ok (.invokestatic 193, 3) := by decide +kernel
theorem dX13_knownWord_31 : decode cX13_knownWord 31 = .ok (.aload_n 0, 1) := by decide +kernel
theorem dX13_knownWord_32 : decode cX13_knownWord 32 = .ok (.getfield 164, 3) := by decide +kernel
theorem dX13_knownWord_35 : decode cX13_knownWord 35 = .ok (.lcmp, 1) := by decide +kernel
theorem dX13_knownWord_36 : decode cX13_knownWord 36 = .ok (.ifCond .ne 5, 3) := by decide +kernel
theorem dX13_knownWord_39 : decode cX13_knownWord 39 = .ok (.iload_n 1, 1) := by decide +kernel
theorem dX13_knownWord_40 : decode cX13_knownWord 40 = .ok (.ireturn, 1) := by decide +kernel
theorem dX13_knownWord_41 : decode cX13_knownWord 41 = .ok (.iinc 1 1, 3) := by decide +kernel
theorem dX13_knownWord_44 : decode cX13_knownWord 44 = .ok (.goto (-23), 3) := by decide +kernel
theorem dX13_knownWord_47 : decode cX13_knownWord 47 = .ok (.iconst (-1), 1) := by decide +kernel
theorem dX13_knownWord_48 : decode cX13_knownWord 48 = .ok (.ireturn, 1) := by decide +kernel
theorem dX13_wrong_0 : decode cX13_wrong 0 = .ok (.aload_n 0, 1) := by decide +kernel
theorem dX13_wrong_1 : decode cX13_wrong 1 = .ok (.getfield 197, 3) := by decide +kernel
theorem dX13_wrong_4 : decode cX13_wrong 4 = .ok (.ifCond .eq 4, 3) := by decide +kernel
theorem dX13_wrong_7 : decode cX13_wrong 7 = .ok (.return_, 1) := by decide +kernel
theorem dX13_wrong_8 : decode cX13_wrong 8 = .ok (.aload_n 0, 1) := by decide +kernel
theorem dX13_wrong_9 : decode cX13_wrong 9 = .ok (.iload_n 1, 1) := by decide +kernel
theorem dX13_wrong_10 : decode cX13_wrong 10 = .ok (.putfield 197, 3) := by decide +kernel
theorem dX13_wrong_13 : decode cX13_wrong 13 = .ok (.aload_n 0, 1) := by decide +kernel
theorem dX13_wrong_14 : decode cX13_wrong 14 = .ok (.aload_n 0, 1) := by decide +kernel
theorem dX13_wrong_15 : decode cX13_wrong 15 = .ok (.getfield 161, 3) := by decide +kernel
theorem dX13_wrong_18 : decode cX13_wrong 18 = .ok (.putfield 56, 3) := by decide +kernel
theorem dX13_wrong_21 : decode cX13_wrong 21 = .ok (.return_, 1) := by decide +kernel
theorem dX13_isGood_0 : decode cX13_isGood 0 = .ok (.aload_n 0, 1) := by decide +kernel
theorem dX13_isGood_1 : decode cX13_isGood 1 = .ok (.getfield 197, 3) := by decide +kernel
theorem dX13_isGood_4 : decode cX13_isGood 4 = .ok (.ifCond .ne 7, 3) := by decide +kernel
theorem dX13_isGood_7 : decode cX13_isGood 7 = .ok (.iconst 1, 1) := by decide +kernel
theorem dX13_isGood_8 : decode cX13_isGood 8 = .ok (.goto 4, 3) := by decide +kernel
theorem dX13_isGood_11 : decode cX13_isGood 11 = .ok (.iconst 0, 1) := by decide +kernel
theorem dX13_isGood_12 : decode cX13_isGood 12 = .ok (.ireturn, 1) := by decide +kernel
theorem dX13_isSign_0 : decode cX13_isSign 0 = .ok (.aload_n 0, 1) := by decide +kernel
theorem dX13_isSign_1 : decode cX13_isSign 1 = .ok (.getfield 174, 3) := by decide +kernel
theorem dX13_isSign_4 : decode cX13_isSign 4 = .ok (.iconst 3, 1) := by decide +kernel
theorem dX13_isSign_5 : decode cX13_isSign 5 = .ok (.if_icmp .ne 15, 3) := by decide +kernel
theorem dX13_isSign_8 : decode cX13_isSign 8 = .ok (.aload_n 0, 1) := by decide +kernel
theorem dX13_isSign_9 : decode cX13_isSign 9 = .ok (.getfield 171, 3) := by decide +kernel
theorem dX13_isSign_12 : decode cX13_isSign 12 = .ok (.iload_n 1, 1) := by decide +kernel
theorem dX13_isSign_13 : decode cX13_isSign 13 = .ok (.if_icmp .ne 7, 3) := by decide +kernel
theorem dX13_isSign_16 : decode cX13_isSign 16 = .ok (.iconst 1, 1) := by decide +kernel
theorem dX13_isSign_17 : decode cX13_isSign 17 = .ok (.goto 4, 3) := by decide +kernel
theorem dX13_isSign_20 : decode cX13_isSign 20 = .ok (.iconst 0, 1) := by decide +kernel
theorem dX13_isSign_21 : decode cX13_isSign 21 = .ok (.ireturn, 1) := by decide +kernel
theorem dX13_need_0 : decode cX13_need 0 = .ok (.aload_n 0, 1) := by decide +kernel
theorem dX13_need_1 : decode cX13_need 1 = .ok (.invokevirtual 200, 3) := by decide +kernel
theorem dX13_need_4 : decode cX13_need 4 = .ok (.ifCond .ne 4, 3) := by decide +kernel
theorem dX13_need_7 : decode cX13_need 7 = .ok (.return_, 1) := by decide +kernel
theorem dX13_need_8 : decode cX13_need 8 = .ok (.iload_n 1, 1) := by decide +kernel
theorem dX13_need_9 : decode cX13_need 9 = .ok (.ifCond .eq 10, 3) := by decide +kernel
theorem dX13_need_12 : decode cX13_need 12 = .ok (.aload_n 0, 1) := by decide +kernel
theorem dX13_need_13 : decode cX13_need 13 = .ok (.invokevirtual 204, 3) := by decide +kernel
theorem dX13_need_16 : decode cX13_need 16 = .ok (.goto 8, 3) := by decide +kernel
theorem dX13_need_19 : decode cX13_need 19 = .ok (.aload_n 0, 1) := by decide +kernel
theorem dX13_need_20 : decode cX13_need 20 = .ok (.iconst 1, 1) := by decide +kernel
theorem dX13_need_21 : decode cX13_need 21 = .ok (.invokevirtual 207, 3) := by decide +kernel
theorem dX13_need_24 : decode cX13_need 24 = .ok (.return_, 1) := by decide +kernel
theorem dX13_number_0 : decode cX13_number 0 = .ok (.aload_n 0, 1) := by decide +kernel
theorem dX13_number_1 : decode cX13_number 1 = .ok (.invokevirtual 200, 3) := by decide +kernel
theorem dX13_number_4 : decode cX13_number 4 = .ok (.ifCond .ne 5, 3) := by decide +kernel
theorem dX13_number_7 : decode cX13_number 7 = .ok (.iconst 0, 1) := by decide +kernel
theorem dX13_number_8 : decode cX13_number 8 = .ok (.ireturn, 1) := by decide +kernel
theorem dX13_number_9 : decode cX13_number 9 = .ok (.aload_n 0, 1) := by decide +kernel
theorem dX13_number_10 : decode cX13_number 10 = .ok (.getfield 174, 3) := by decide +kernel
theorem dX13_number_13 : decode cX13_number 13 = .ok (.iconst 2, 1) := by decide +kernel
theorem dX13_number_14 : decode cX13_number 14 = .ok (.if_icmp .eq 11, 3) := by decide +kernel
theorem dX13_number_17 : decode cX13_number 17 = .ok (.aload_n 0, 1) := by decide +kernel
theorem dX13_number_18 : decode cX13_number 18 = .ok (.iconst 1, 1) := by decide +kernel
theorem dX13_number_19 : decode cX13_number 19 = .ok (.invokevirtual 207, 3) := by decide +kernel
theorem dX13_number_22 : decode cX13_number 22 = .ok (.goto 32, 3) := by decide +kernel
theorem dX13_number_25 : decode cX13_number 25 = .ok (.aload_n 0, 1) := by decide +kernel
theorem dX13_number_26 : decode cX13_number 26 = .ok (.getfield 184, 3) := by decide +kernel
theorem dX13_number_29 : decode cX13_number 29 = .ok (.iconst 4, 1) := by decide +kernel
theorem dX13_number_30 : decode cX13_number 30 = .ok (.if_icmp .gt 19, 3) := by decide +kernel
theorem dX13_number_33 : decode cX13_number 33 = .ok (.aload_n 0, 1) := by decide +kernel
theorem dX13_number_34 : decode cX13_number 34 = .ok (.getfield 168, 3) := by decide +kernel
theorem dX13_number_37 : decode cX13_number 37 = .ok (.iload_n 1, 1) := by decide +kernel
theorem dX13_number_38 : decode cX13_number 38 = .ok (.if_icmp .lt 11, 3) := by decide +kernel
theorem dX13_number_41 : decode cX13_number 41 = .ok (.aload_n 0, 1) := by decide +kernel
theorem dX13_number_42 : decode cX13_number 42 = .ok (.getfield 168, 3) := by decide +kernel
theorem dX13_number_45 : decode cX13_number 45 = .ok (.iload_n 2, 1) := by decide +kernel
theorem dX13_number_46 : decode cX13_number 46 = .ok (.if_icmp .le 8, 3) := by decide +kernel
theorem dX13_number_49 : decode cX13_number 49 = .ok (.aload_n 0, 1) := by decide +kernel
theorem dX13_number_50 : decode cX13_number 50 = .ok (.iconst 2, 1) := by decide +kernel
theorem dX13_number_51 : decode cX13_number 51 = .ok (.invokevirtual 207, 3) := by decide +kernel
theorem dX13_number_54 : decode cX13_number 54 = .ok (.aload_n 0, 1) := by decide +kernel
theorem dX13_number_55 : decode cX13_number 55 = .ok (.getfield 168, 3) := by decide +kernel
theorem dX13_number_58 : decode cX13_number 58 = .ok (.istore_n 3, 1) := by decide +kernel
theorem dX13_number_59 : decode cX13_number 59 = .ok (.aload_n 0, 1) := by decide +kernel
theorem dX13_number_60 : decode cX13_number 60 = .ok (.invokevirtual 200, 3) := by decide +kernel
theorem dX13_number_63 : decode cX13_number 63 = .ok (.ifCond .eq 7, 3) := by decide +kernel
theorem dX13_number_66 : decode cX13_number 66 = .ok (.aload_n 0, 1) := by decide +kernel
theorem dX13_number_67 : decode cX13_number 67 = .ok (.invokevirtual 204, 3) := by decide +kernel
theorem dX13_number_70 : decode cX13_number 70 = .ok (.iload_n 3, 1) := by decide +kernel
theorem dX13_number_71 : decode cX13_number 71 = .ok (.ireturn, 1) := by decide +kernel
theorem dX13_signed_0 : decode cX13_signed 0 = .ok (.aload_n 0, 1) := by decide +kernel
theorem dX13_signed_1 : decode cX13_signed 1 = .ok (.bipush 45, 2) := by decide +kernel
theorem dX13_signed_3 : decode cX13_signed 3 = .ok (.invokevirtual 210, 3) := by decide +kernel
theorem dX13_signed_6 : decode cX13_signed 6 = .ok (.istore_n 2, 1) := by decide +kernel
theorem dX13_signed_7 : decode cX13_signed 7 = .ok (.aload_n 0, 1) := by decide +kernel
theorem dX13_signed_8 : decode cX13_signed 8 = .ok (.invokevirtual 200, 3) := by decide +kernel
theorem dX13_signed_11 : decode cX13_signed 11 = .ok (.ifCond .eq 11, 3) := by decide +kernel
theorem dX13_signed_14 : decode cX13_signed 14 = .ok (.iload_n 2, 1) := by decide +kernel
theorem dX13_signed_15 : decode cX13_signed 15 = .ok (.ifCond .eq 7, 3) := by decide +kernel
theorem dX13_signed_18 : decode cX13_signed 18 = .ok (.aload_n 0, 1) := by decide +kernel
theorem dX13_signed_19 : decode cX13_signed 19 = .ok (.invokevirtual 204, 3) := by decide +kernel
theorem dX13_signed_22 : decode cX13_signed 22 = .ok (.aload_n 0, 1) := by decide +kernel
theorem dX13_signed_23 : decode cX13_signed 23 = .ok (.iconst 0, 1) := by decide +kernel
theorem dX13_signed_24 : decode cX13_signed 24 = .ok (.iload_n 1, 1) := by decide +kernel
theorem dX13_signed_25 : decode cX13_signed 25 = .ok (.invokevirtual 213, 3) := by decide +kernel
theorem dX13_signed_28 : decode cX13_signed 28 = .ok (.istore_n 3, 1) := by decide +kernel
theorem dX13_signed_29 : decode cX13_signed 29 = .ok (.iload_n 2, 1) := by decide +kernel
theorem dX13_signed_30 : decode cX13_signed 30 = .ok (.ifCond .eq 9, 3) := by decide +kernel
theorem dX13_signed_33 : decode cX13_signed 33 = .ok (.iconst 0, 1) := by decide +kernel
theorem dX13_signed_34 : decode cX13_signed 34 = .ok (.iload_n 3, 1) := by decide +kernel
theorem dX13_signed_35 : decode cX13_signed 35 = .ok (.isub, 1) := by decide +kernel
theorem dX13_signed_36 : decode cX13_signed 36 = .ok (.goto 4, 3) := by decide +kernel
theorem dX13_signed_39 : decode cX13_signed 39 = .ok (.iload_n 3, 1) := by decide +kernel
theorem dX13_signed_40 : decode cX13_signed 40 = .ok (.ireturn, 1) := by decide +kernel
theorem dX13_among_0 : decode cX13_among 0 = .ok (.aload_n 0, 1) := by decide +kernel
theorem dX13_among_1 : decode cX13_among 1 = .ok (.invokevirtual 200, 3) := by decide +kernel
theorem dX13_among_4 : decode cX13_among 4 = .ok (.ifCond .ne 5, 3) := by decide +kernel
theorem dX13_among_7 : decode cX13_among 7 = .ok (.iconst 0, 1) := by decide +kernel
theorem dX13_among_8 : decode cX13_among 8 = .ok (.ireturn, 1) := by decide +kernel
theorem dX13_among_9 : decode cX13_among 9 = .ok (.aload_n 0, 1) := by decide +kernel
theorem dX13_among_10 : decode cX13_among 10 = .ok (.getfield 174, 3) := by decide +kernel
theorem dX13_among_13 : decode cX13_among 13 = .ok (.iconst 2, 1) := by decide +kernel
theorem dX13_among_14 : decode cX13_among 14 = .ok (.if_icmp .eq 11, 3) := by decide +kernel
theorem dX13_among_17 : decode cX13_among 17 = .ok (.aload_n 0, 1) := by decide +kernel
theorem dX13_among_18 : decode cX13_among 18 = .ok (.iconst 1, 1) := by decide +kernel
theorem dX13_among_19 : decode cX13_among 19 = .ok (.invokevirtual 207, 3) := by decide +kernel
theorem dX13_among_22 : decode cX13_among 22 = .ok (.goto 32, 3) := by decide +kernel
theorem dX13_among_25 : decode cX13_among 25 = .ok (.aload_n 0, 1) := by decide +kernel
theorem dX13_among_26 : decode cX13_among 26 = .ok (.getfield 184, 3) := by decide +kernel
theorem dX13_among_29 : decode cX13_among 29 = .ok (.iconst 4, 1) := by decide +kernel
theorem dX13_among_30 : decode cX13_among 30 = .ok (.if_icmp .le 11, 3) := by decide +kernel
theorem dX13_among_33 : decode cX13_among 33 = .ok (.aload_n 0, 1) := by decide +kernel
theorem dX13_among_34 : decode cX13_among 34 = .ok (.iconst 2, 1) := by decide +kernel
theorem dX13_among_35 : decode cX13_among 35 = .ok (.invokevirtual 207, 3) := by decide +kernel
theorem dX13_among_38 : decode cX13_among 38 = .ok (.goto 16, 3) := by decide +kernel
theorem dX13_among_41 : decode cX13_among 41 = .ok (.aload_n 0, 1) := by decide +kernel
theorem dX13_among_42 : decode cX13_among 42 = .ok (.getfield 168, 3) := by decide +kernel
theorem dX13_among_45 : decode cX13_among 45 = .ok (.iload_n 1, 1) := by decide +kernel
theorem dX13_among_46 : decode cX13_among 46 = .ok (.if_icmp .lt 8, 3) := by decide +kernel
theorem dX13_among_49 : decode cX13_among 49 = .ok (.aload_n 0, 1) := by decide +kernel
theorem dX13_among_50 : decode cX13_among 50 = .ok (.iconst 3, 1) := by decide +kernel
theorem dX13_among_51 : decode cX13_among 51 = .ok (.invokevirtual 207, 3) := by decide +kernel
theorem dX13_among_54 : decode cX13_among 54 = .ok (.aload_n 0, 1) := by decide +kernel
theorem dX13_among_55 : decode cX13_among 55 = .ok (.getfield 168, 3) := by decide +kernel
theorem dX13_among_58 : decode cX13_among 58 = .ok (.istore_n 2, 1) := by decide +kernel
theorem dX13_among_59 : decode cX13_among 59 = .ok (.aload_n 0, 1) := by decide +kernel
theorem dX13_among_60 : decode cX13_among 60 = .ok (.invokevirtual 200, 3) := by decide +kernel
theorem dX13_among_63 : decode cX13_among 63 = .ok (.ifCond .eq 7, 3) := by decide +kernel
theorem dX13_among_66 : decode cX13_among 66 = .ok (.aload_n 0, 1) := by decide +kernel
theorem dX13_among_67 : decode cX13_among 67 = .ok (.invokevirtual 204, 3) := by decide +kernel
theorem dX13_among_70 : decode cX13_among 70 = .ok (.iload_n 2, 1) := by decide +kernel
theorem dX13_among_71 : decode cX13_among 71 = .ok (.ireturn, 1) := by decide +kernel
theorem dX13_puts_0 : decode cX13_puts 0 = .ok (.aload_n 0, 1) := by decide +kernel
theorem dX13_puts_1 : decode cX13_puts 1 = .ok (.getfield 98, 3) := by decide +kernel
theorem dX13_puts_4 : decode cX13_puts 4 = .ok (.aload_n 0, 1) := by decide +kernel
theorem dX13_puts_5 : decode cX13_puts 5 = .ok (.getfield 217, 3) := by decide +kernel
theorem dX13_puts_8 : decode cX13_puts 8 = .ok (.iload_n 1, 1) := by decide +kernel
theorem dX13_puts_9 : decode cX13_puts 9 = .ok (.iastore, 1) := by decide +kernel
theorem dX13_puts_10 : decode cX13_puts 10 = .ok (.aload_n 0, 1) := by decide +kernel
theorem dX13_puts_11 : decode cX13_puts 11 = .ok (.dup, 1) := by decide +kernel
theorem dX13_puts_12 : decode cX13_puts 12 = .ok (.getfield 217, 3) := by decide +kernel
theorem dX13_puts_15 : decode cX13_puts 15 = .ok (.iconst 1, 1) := by decide +kernel
theorem dX13_puts_16 : decode cX13_puts 16 = .ok (.iadd, 1) := by decide +kernel
theorem dX13_puts_17 : decode cX13_puts 17 = .ok (.putfield 217, 3) := by decide +kernel
theorem dX13_puts_20 : decode cX13_puts 20 = .ok (.return_, 1) := by decide +kernel
theorem dX13_isOpen_0 : decode cX13_isOpen 0 = .ok (.iload_n 0, 1) := by decide +kernel
theorem dX13_isOpen_1 : decode cX13_isOpen 1 = .ok (.bipush 14, 2) := by decide +kernel
theorem dX13_isOpen_3 : decode cX13_isOpen 3 = .ok (.if_icmp .lt 7, 3) := by decide +kernel
theorem dX13_isOpen_6 : decode cX13_isOpen 6 = .ok (.iconst 1, 1) := by decide +kernel
theorem dX13_isOpen_7 : decode cX13_isOpen 7 = .ok (.goto 4, 3) := by decide +kernel
theorem dX13_isOpen_10 : decode cX13_isOpen 10 = .ok (.iconst 0, 1) := by decide +kernel
theorem dX13_isOpen_11 : decode cX13_isOpen 11 = .ok (.ireturn, 1) := by decide +kernel
theorem dX13_strength_0 : decode cX13_strength 0 = .ok (.iload_n 0, 1) := by decide +kernel
theorem dX13_strength_1 : decode cX13_strength 1 = .ok (.iconst 5, 1) := by decide +kernel
theorem dX13_strength_2 : decode cX13_strength 2 = .ok (.if_icmp .ne 7, 3) := by decide +kernel
theorem dX13_strength_5 : decode cX13_strength 5 = .ok (.iconst 1, 1) := by decide +kernel
theorem dX13_strength_6 : decode cX13_strength 6 = .ok (.goto 55, 3) := by decide +kernel
theorem dX13_strength_9 : decode cX13_strength 9 = .ok (.iload_n 0, 1) := by decide +kernel
theorem dX13_strength_10 : decode cX13_strength 10 = .ok (.iconst 4, 1) := by decide +kernel
theorem dX13_strength_11 : decode cX13_strength 11 = .ok (.if_icmp .ne 7, 3) := by decide +kernel
theorem dX13_strength_14 : decode cX13_strength 14 = .ok (.iconst 2, 1) := by decide +kernel
theorem dX13_strength_15 : decode cX13_strength 15 = .ok (.goto 46, 3) := by decide +kernel
theorem dX13_strength_18 : decode cX13_strength 18 = .ok (.iload_n 0, 1) := by decide +kernel
theorem dX13_strength_19 : decode cX13_strength 19 = .ok (.iconst 3, 1) := by decide +kernel
theorem dX13_strength_20 : decode cX13_strength 20 = .ok (.if_icmp .ne 7, 3) := by decide +kernel
theorem dX13_strength_23 : decode cX13_strength 23 = .ok (.iconst 3, 1) := by decide +kernel
theorem dX13_strength_24 : decode cX13_strength 24 = .ok (.goto 37, 3) := by decide +kernel
theorem dX13_strength_27 : decode cX13_strength 27 = .ok (.iload_n 0, 1) := by decide +kernel
theorem dX13_strength_28 : decode cX13_strength 28 = .ok (.bipush 6, 2) := by decide +kernel
theorem dX13_strength_30 : decode cX13_strength 30 = .ok (.if_icmp .eq 9, 3) := by decide +kernel
theorem dX13_strength_33 : decode cX13_strength 33 = .ok (.iload_n 0, 1) := by decide +kernel
theorem dX13_strength_34 : decode cX13_strength 34 = .ok (.bipush 7, 2) := by decide +kernel
theorem dX13_strength_36 : decode cX13_strength 36 = .ok (.if_icmp .ne 7, 3) := by decide +kernel
theorem dX13_strength_39 : decode cX13_strength 39 = .ok (.iconst 4, 1) := by decide +kernel
theorem dX13_strength_40 : decode cX13_strength 40 = .ok (.goto 21, 3) := by decide +kernel
theorem dX13_strength_43 : decode cX13_strength 43 = .ok (.iload_n 0, 1) := by decide +kernel
theorem dX13_strength_44 : decode cX13_strength 44 = .ok (.bipush 8, 2) := by decide +kernel
theorem dX13_strength_46 : decode cX13_strength 46 = .ok (.if_icmp .eq 9, 3) := by decide +kernel
theorem dX13_strength_49 : decode cX13_strength 49 = .ok (.iload_n 0, 1) := by decide +kernel
theorem dX13_strength_50 : decode cX13_strength 50 = .ok (.bipush 9, 2) := by decide +kernel
theorem dX13_strength_52 : decode cX13_strength 52 = .ok (.if_icmp .ne 7, 3) := by decide +kernel
theorem dX13_strength_55 : decode cX13_strength 55 = .ok (.iconst 5, 1) := by decide +kernel
theorem dX13_strength_56 : decode cX13_strength 56 = .ok (.goto 5, 3) := by decide +kernel
theorem dX13_strength_59 : decode cX13_strength 59 = .ok (.bipush 6, 2) := by decide +kernel
theorem dX13_strength_61 : decode cX13_strength 61 = .ok (.ireturn, 1) := by decide +kernel
theorem dX13_drops_0 : decode cX13_drops 0 = .ok (.aload_n 0, 1) := by decide +kernel
theorem dX13_drops_1 : decode cX13_drops 1 = .ok (.getfield 220, 3) := by decide +kernel
theorem dX13_drops_4 : decode cX13_drops 4 = .ok (.ifCond .le 64, 3) := by decide +kernel
theorem dX13_drops_7 : decode cX13_drops 7 = .ok (.aload_n 0, 1) := by decide +kernel
theorem dX13_drops_8 : decode cX13_drops 8 = .ok (.getfield 101, 3) := by decide +kernel
theorem dX13_drops_11 : decode cX13_drops 11 = .ok (.aload_n 0, 1) := by decide +kernel
theorem dX13_drops_12 : decode cX13_drops 12 = .ok (.getfield 220, 3) := by decide +kernel
theorem dX13_drops_15 : decode cX13_drops 15 = .ok (.iconst 1, 1) := by decide +kernel
theorem dX13_drops_16 : decode cX13_drops 16 = .ok (.isub, 1) := by decide +kernel
theorem dX13_drops_17 : decode cX13_drops 17 = .ok (.iaload, 1) := by decide +kernel
theorem dX13_drops_18 : decode cX13_drops 18 = .ok (.invokestatic 223, 3) := by decide +kernel
theorem dX13_drops_21 : decode cX13_drops 21 = .ok (.ifCond .ne 47, 3) := by decide +kernel
theorem dX13_drops_24 : decode cX13_drops 24 = .ok (.aload_n 0, 1) := by decide +kernel
theorem dX13_drops_25 : decode cX13_drops 25 = .ok (.getfield 101, 3) := by decide +kernel
theorem dX13_drops_28 : decode cX13_drops 28 = .ok (.aload_n 0, 1) := by decide +kernel
theorem dX13_drops_29 : decode cX13_drops 29 = .ok (.getfield 220, 3) := by decide +kernel
theorem dX13_drops_32 : decode cX13_drops 32 = .ok (.iconst 1, 1) := by decide +kernel
theorem dX13_drops_33 : decode cX13_drops 33 = .ok (.isub, 1) := by decide +kernel
theorem dX13_drops_34 : decode cX13_drops 34 = .ok (.iaload, 1) := by decide +kernel
theorem dX13_drops_35 : decode cX13_drops 35 = .ok (.invokestatic 226, 3) := by decide +kernel
theorem dX13_drops_38 : decode cX13_drops 38 = .ok (.iload_n 1, 1) := by decide +kernel
theorem dX13_drops_39 : decode cX13_drops 39 = .ok (.if_icmp .lt 29, 3) := by decide +kernel
theorem dX13_drops_42 : decode cX13_drops 42 = .ok (.aload_n 0, 1) := by decide +kernel
theorem dX13_drops_43 : decode cX13_drops 43 = .ok (.dup, 1) := by decide +kernel
theorem dX13_drops_44 : decode cX13_drops 44 = .ok (.getfield 220, 3) := by decide +kernel
theorem dX13_drops_47 : decode cX13_drops 47 = .ok (.iconst 1, 1) := by decide +kernel
theorem dX13_drops_48 : decode cX13_drops 48 = .ok (.isub, 1) := by decide +kernel
theorem dX13_drops_49 : decode cX13_drops 49 = .ok (.putfield 220, 3) := by decide +kernel
theorem dX13_drops_52 : decode cX13_drops 52 = .ok (.aload_n 0, 1) := by decide +kernel
theorem dX13_drops_53 : decode cX13_drops 53 = .ok (.aload_n 0, 1) := by decide +kernel
theorem dX13_drops_54 : decode cX13_drops 54 = .ok (.getfield 101, 3) := by decide +kernel
theorem dX13_drops_57 : decode cX13_drops 57 = .ok (.aload_n 0, 1) := by decide +kernel
theorem dX13_drops_58 : decode cX13_drops 58 = .ok (.getfield 220, 3) := by decide +kernel
theorem dX13_drops_61 : decode cX13_drops 61 = .ok (.iaload, 1) := by decide +kernel
theorem dX13_drops_62 : decode cX13_drops 62 = .ok (.invokevirtual 229, 3) := by decide +kernel
theorem dX13_drops_65 : decode cX13_drops 65 = .ok (.goto (-65), 3) := by decide +kernel
theorem dX13_drops_68 : decode cX13_drops 68 = .ok (.return_, 1) := by decide +kernel
theorem dX13_waitsFor_0 : decode cX13_waitsFor 0 = .ok (.aload_n 0, 1) := by decide +kernel
theorem dX13_waitsFor_1 : decode cX13_waitsFor 1 = .ok (.getfield 101, 3) := by decide +kernel
theorem dX13_waitsFor_4 : decode cX13_waitsFor 4 = .ok (.aload_n 0, 1) := by decide +kernel
theorem dX13_waitsFor_5 : decode cX13_waitsFor 5 = .ok (.getfield 220, 3) := by decide +kernel
theorem dX13_waitsFor_8 : decode cX13_waitsFor 8 = .ok (.iload_n 1, 1) := by decide +kernel
theorem dX13_waitsFor_9 : decode cX13_waitsFor 9 = .ok (.iastore, 1) := by decide +kernel
theorem dX13_waitsFor_10 : decode cX13_waitsFor 10 = .ok (.aload_n 0, 1) := by decide +kernel
theorem dX13_waitsFor_11 : decode cX13_waitsFor 11 = .ok (.dup, 1) := by decide +kernel
theorem dX13_waitsFor_12 : decode cX13_waitsFor 12 = .ok (.getfield 220, 3) := by decide +kernel
theorem dX13_waitsFor_15 : decode cX13_waitsFor 15 = .ok (.iconst 1, 1) := by decide +kernel
theorem dX13_waitsFor_16 : decode cX13_waitsFor 16 = .ok (.iadd, 1) := by decide +kernel
theorem dX13_waitsFor_17 : decode cX13_waitsFor 17 = .ok (.putfield 220, 3) := by decide +kernel
theorem dX13_waitsFor_20 : decode cX13_waitsFor 20 = .ok (.return_, 1) := by decide +kernel
theorem dX13_part_0 : decode cX13_part 0 = .ok (.aload_n 0, 1) := by decide +kernel
theorem dX13_part_1 : decode cX13_part 1 = .ok (.invokevirtual 200, 3) := by decide +kernel
theorem dX13_part_4 : decode cX13_part 4 = .ok (.ifCond .ne 4, 3) := by decide +kernel
theorem dX13_part_7 : decode cX13_part 7 = .ok (.return_, 1) := by decide +kernel
theorem dX13_part_8 : decode cX13_part 8 = .ok (.aload_n 0, 1) := by decide +kernel
theorem dX13_part_9 : decode cX13_part 9 = .ok (.getfield 174, 3) := by decide +kernel
theorem dX13_part_12 : decode cX13_part 12 = .ok (.iconst 2, 1) := by decide +kernel
theorem dX13_part_13 : decode cX13_part 13 = .ok (.if_icmp .ne 32, 3) := by decide +kernel
theorem dX13_part_16 : decode cX13_part 16 = .ok (.aload_n 0, 1) := by decide +kernel
theorem dX13_part_17 : decode cX13_part 17 = .ok (.getfield 184, 3) := by decide +kernel
theorem dX13_part_20 : decode cX13_part 20 = .ok (.iconst 4, 1) := by decide +kernel
theorem dX13_part_21 : decode cX13_part 21 = .ok (.if_icmp .le 8, 3) := by decide +kernel
theorem dX13_part_24 : decode cX13_part 24 = .ok (.aload_n 0, 1) := by decide +kernel
theorem dX13_part_25 : decode cX13_part 25 = .ok (.iconst 2, 1) := by decide +kernel
theorem dX13_part_26 : decode cX13_part 26 = .ok (.invokevirtual 207, 3) := by decide +kernel
theorem dX13_part_29 : decode cX13_part 29 = .ok (.aload_n 0, 1) := by decide +kernel
theorem dX13_part_30 : decode cX13_part 30 = .ok (.iconst 1, 1) := by decide +kernel
theorem dX13_part_31 : decode cX13_part 31 = .ok (.invokevirtual 229, 3) := by decide +kernel
theorem dX13_part_34 : decode cX13_part 34 = .ok (.aload_n 0, 1) := by decide +kernel
theorem dX13_part_35 : decode cX13_part 35 = .ok (.aload_n 0, 1) := by decide +kernel
theorem dX13_part_36 : decode cX13_part 36 = .ok (.getfield 168, 3) := by decide +kernel
theorem dX13_part_39 : decode cX13_part 39 = .ok (.invokevirtual 229, 3) := by decide +kernel
theorem dX13_part_42 : decode cX13_part 42 = .ok (.goto 55, 3) := by decide +kernel
theorem dX13_part_45 : decode cX13_part 45 = .ok (.aload_n 0, 1) := by decide +kernel
theorem dX13_part_46 : decode cX13_part 46 = .ok (.getfield 174, 3) := by decide +kernel
theorem dX13_part_49 : decode cX13_part 49 = .ok (.iconst 1, 1) := by decide +kernel
theorem dX13_part_50 : decode cX13_part 50 = .ok (.if_icmp .ne 42, 3) := by decide +kernel
theorem dX13_part_53 : decode cX13_part 53 = .ok (.aload_n 0, 1) := by decide +kernel
theorem dX13_part_54 : decode cX13_part 54 = .ok (.invokevirtual 232, 3) := by decide +kernel
theorem dX13_part_57 : decode cX13_part 57 = .ok (.istore_n 1, 1) := by decide +kernel
theorem dX13_part_58 : decode cX13_part 58 = .ok (.iload_n 1, 1) := by decide +kernel
theorem dX13_part_59 : decode cX13_part 59 = .ok (.aload_n 0, 1) := by decide +kernel
theorem dX13_part_60 : decode cX13_part 60 = .ok (.getfield 236, 3) := by decide +kernel
theorem dX13_part_63 : decode cX13_part 63 = .ok (.if_icmp .lt 11, 3) := by decide +kernel
theorem dX13_part_66 : decode cX13_part 66 = .ok (.iload_n 1, 1) := by decide +kernel
theorem dX13_part_67 : decode cX13_part 67 = .ok (.aload_n 0, 1) := by decide +kernel
theorem dX13_part_68 : decode cX13_part 68 = .ok (.getfield 239, 3) := by decide +kernel
theorem dX13_part_71 : decode cX13_part 71 = .ok (.if_icmp .le 8, 3) := by decide +kernel
theorem dX13_part_74 : decode cX13_part 74 = .ok (.aload_n 0, 1) := by decide +kernel
theorem dX13_part_75 : decode cX13_part 75 = .ok (.iconst 3, 1) := by decide +kernel
theorem dX13_part_76 : decode cX13_part 76 = .ok (.invokevirtual 207, 3) := by decide +kernel
theorem dX13_part_79 : decode cX13_part 79 = .ok (.aload_n 0, 1) := by decide +kernel
theorem dX13_part_80 : decode cX13_part 80 = .ok (.iconst 2, 1) := by decide +kernel
theorem dX13_part_81 : decode cX13_part 81 = .ok (.invokevirtual 229, 3) := by decide +kernel
theorem dX13_part_84 : decode cX13_part 84 = .ok (.aload_n 0, 1) := by decide +kernel
theorem dX13_part_85 : decode cX13_part 85 = .ok (.iload_n 1, 1) := by decide +kernel
theorem dX13_part_86 : decode cX13_part 86 = .ok (.invokevirtual 229, 3) := by decide +kernel
theorem dX13_part_89 : decode cX13_part 89 = .ok (.goto 8, 3) := by decide +kernel
theorem dX13_part_92 : decode cX13_part 92 = .ok (.aload_n 0, 1) := by decide +kernel
theorem dX13_part_93 : decode cX13_part 93 = .ok (.iconst 1, 1) := by decide +kernel
theorem dX13_part_94 : decode cX13_part 94 = .ok (.invokevirtual 207, 3) := by decide +kernel
theorem dX13_part_97 : decode cX13_part 97 = .ok (.aload_n 0, 1) := by decide +kernel
theorem dX13_part_98 : decode cX13_part 98 = .ok (.invokevirtual 200, 3) := by decide +kernel
theorem dX13_part_101 : decode cX13_part 101 = .ok (.ifCond .eq 7, 3) := by decide +kernel
theorem dX13_part_104 : decode cX13_part 104 = .ok (.aload_n 0, 1) := by decide +kernel
theorem dX13_part_105 : decode cX13_part 105 = .ok (.invokevirtual 204, 3) := by decide +kernel
theorem dX13_part_108 : decode cX13_part 108 = .ok (.return_, 1) := by decide +kernel
theorem dX13_deeper_0 : decode cX13_deeper 0 = .ok (.aload_n 0, 1) := by decide +kernel
theorem dX13_deeper_1 : decode cX13_deeper 1 = .ok (.getfield 242, 3) := by decide +kernel
theorem dX13_deeper_4 : decode cX13_deeper 4 = .ok (.bipush 6, 2) := by decide +kernel
theorem dX13_deeper_6 : decode cX13_deeper 6 = .ok (.if_icmp .ge 24, 3) := by decide +kernel
theorem dX13_deeper_9 : decode cX13_deeper 9 = .ok (.aload_n 0, 1) := by decide +kernel
theorem dX13_deeper_10 : decode cX13_deeper 10 = .ok (.dup, 1) := by decide +kernel
theorem dX13_deeper_11 : decode cX13_deeper 11 = .ok (.getfield 242, 3) := by decide +kernel
theorem dX13_deeper_14 : decode cX13_deeper 14 = .ok (.iconst 1, 1) := by decide +kernel
theorem dX13_deeper_15 : decode cX13_deeper 15 = .ok (.iadd, 1) := by decide +kernel
theorem dX13_deeper_16 : decode cX13_deeper 16 = .ok (.putfield 242, 3) := by decide +kernel
theorem dX13_deeper_19 : decode cX13_deeper 19 = .ok (.aload_n 0, 1) := by decide +kernel
theorem dX13_deeper_20 : decode cX13_deeper 20 = .ok (.getfield 104, 3) := by decide +kernel
theorem dX13_deeper_23 : decode cX13_deeper 23 = .ok (.aload_n 0, 1) := by decide +kernel
theorem dX13_deeper_24 : decode cX13_deeper 24 = .ok (.getfield 242, 3) := by decide +kernel
theorem dX13_deeper_27 : decode cX13_deeper 27 = .ok (.iconst 0, 1) := by decide +kernel
theorem dX13_deeper_28 : decode cX13_deeper 28 = .ok (.bastore, 1) := by decide +kernel
theorem dX13_deeper_29 : decode cX13_deeper 29 = .ok (.return_, 1) := by decide +kernel
theorem dX13_deeper_30 : decode cX13_deeper 30 = .ok (.aload_n 0, 1) := by decide +kernel
theorem dX13_deeper_31 : decode cX13_deeper 31 = .ok (.aload_n 0, 1) := by decide +kernel
theorem dX13_deeper_32 : decode cX13_deeper 32 = .ok (.getfield 174, 3) := by decide +kernel
theorem dX13_deeper_35 : decode cX13_deeper 35 = .ok (.iconst 2, 1) := by decide +kernel
theorem dX13_deeper_36 : decode cX13_deeper 36 = .ok (.if_icmp .eq 20, 3) := by decide +kernel
theorem dX13_deeper_39 : decode cX13_deeper 39 = .ok (.aload_n 0, 1) := by decide +kernel
theorem dX13_deeper_40 : decode cX13_deeper 40 = .ok (.getfield 174, 3) := by decide +kernel
theorem dX13_deeper_43 : decode cX13_deeper 43 = .ok (.iconst 1, 1) := by decide +kernel
theorem dX13_deeper_44 : decode cX13_deeper 44 = .ok (.if_icmp .eq 12, 3) := by decide +kernel
theorem dX13_deeper_47 : decode cX13_deeper 47 = .ok (.aload_n 0, 1) := by decide +kernel
theorem dX13_deeper_48 : decode cX13_deeper 48 = .ok (.bipush 40, 2) := by decide +kernel
theorem dX13_deeper_50 : decode cX13_deeper 50 = .ok (.invokevirtual 210, 3) := by decide +kernel
theorem dX13_deeper_53 : decode cX13_deeper 53 = .ok (.ifCond .eq 7, 3) := by decide +kernel
theorem dX13_deeper_56 : decode cX13_deeper 56 = .ok (.iconst 2, 1) := by decide +kernel
theorem dX13_deeper_57 : decode cX13_deeper 57 = .ok (.goto 4, 3) := by decide +kernel
theorem dX13_deeper_60 : decode cX13_deeper 60 = .ok (.iconst 1, 1) := by decide +kernel
theorem dX13_deeper_61 : decode cX13_deeper 61 = .ok (.invokevirtual 207, 3) := by decide +kernel
theorem dX13_deeper_64 : decode cX13_deeper 64 = .ok (.return_, 1) := by decide +kernel
theorem dX13_operand_0 : decode cX13_operand 0 = .ok (.iload_n 1, 1) := by decide +kernel
theorem dX13_operand_1 : decode cX13_operand 1 = .ok (.istore_n 2, 1) := by decide +kernel
theorem dX13_operand_2 : decode cX13_operand 2 = .ok (.iconst 1, 1) := by decide +kernel
theorem dX13_operand_3 : decode cX13_operand 3 = .ok (.istore_n 3, 1) := by decide +kernel
theorem dX13_operand_4 : decode cX13_operand 4 = .ok (.iload_n 3, 1) := by decide +kernel
theorem dX13_operand_5 : decode cX13_operand 5 = .ok (.ifCond .eq 115, 3) := by decide +kernel
theorem dX13_operand_8 : decode cX13_operand 8 = .ok (.aload_n 0, 1) := by decide +kernel
theorem dX13_operand_9 : decode cX13_operand 9 = .ok (.invokevirtual 200, 3) := by decide +kernel
theorem dX13_operand_12 : decode cX13_operand 12 = .ok (.ifCond .eq 108, 3) := by decide +kernel
theorem dX13_operand_15 : decode cX13_operand 15 = .ok (.iconst 0, 1) := by decide +kernel
theorem dX13_operand_16 : decode cX13_operand 16 = .ok (.istore 4, 2) := by decide +kernel
theorem dX13_operand_18 : decode cX13_operand 18 = .ok (.aload_n 0, 1) := by decide +kernel
theorem dX13_operand_19 : decode cX13_operand 19 = .ok (.invokevirtual 200, 3) := by decide +kernel
theorem dX13_operand_22 : decode cX13_operand 22 = .ok (.ifCond .eq 53, 3) := by decide +kernel
theorem dX13_operand_25 : decode cX13_operand 25 = .ok (.iload_n 2, 1) := by decide +kernel
theorem dX13_operand_26 : decode cX13_operand 26 = .ok (.ifCond .eq 49, 3) := by decide +kernel
theorem dX13_operand_29 : decode cX13_operand 29 = .ok (.aload_n 0, 1) := by decide +kernel
theorem dX13_operand_30 : decode cX13_operand 30 = .ok (.invokevirtual 232, 3) := by decide +kernel
theorem dX13_operand_33 : decode cX13_operand 33 = .ok (.bipush 21, 2) := by decide +kernel
theorem dX13_operand_35 : decode cX13_operand 35 = .ok (.if_icmp .ne 40, 3) := by decide +kernel
theorem dX13_operand_38 : decode cX13_operand 38 = .ok (.iload 4, 2) := by decide +kernel
theorem dX13_operand_40 : decode cX13_operand 40 = .ok (.bipush 6, 2) := by decide +kernel
theorem dX13_operand_42 : decode cX13_operand 42 = .ok (.if_icmp .ne 8, 3) := by decide +kernel
theorem dX13_operand_45 : decode cX13_operand 45 = .ok (.aload_n 0, 1) := by decide +kernel
theorem dX13_operand_46 : decode cX13_operand 46 = .ok (.iconst 2, 1) := by decide +kernel
theorem dX13_operand_47 : decode cX13_operand 47 = .ok (.invokevirtual 207, 3) := by decide +kernel
theorem dX13_operand_50 : decode cX13_operand 50 = .ok (.iinc 4 1, 3) := by decide +kernel
theorem dX13_operand_53 : decode cX13_operand 53 = .ok (.aload_n 0, 1) := by decide +kernel
theorem dX13_operand_54 : decode cX13_operand 54 = .ok (.invokevirtual 200, 3) := by decide +kernel
theorem dX13_operand_57 : decode cX13_operand 57 = .ok (.ifCond .ne 6, 3) := by decide +kernel
theorem dX13_operand_60 : decode cX13_operand 60 = .ok (.goto (-42), 3) := by decide +kernel
theorem dX13_operand_63 : decode cX13_operand 63 = .ok (.aload_n 0, 1) := by decide +kernel
theorem dX13_operand_64 : decode cX13_operand 64 = .ok (.iconst 3, 1) := by decide +kernel
theorem dX13_operand_65 : decode cX13_operand 65 = .ok (.invokevirtual 245, 3) := by decide +kernel
theorem dX13_operand_68 : decode cX13_operand 68 = .ok (.aload_n 0, 1) := by decide +kernel
theorem dX13_operand_69 : decode cX13_operand 69 = .ok (.invokevirtual 204, 3) := by decide +kernel
theorem dX13_operand_72 : decode cX13_operand 72 = .ok (.goto (-54), 3) := by decide +kernel
theorem dX13_operand_75 : decode cX13_operand 75 = .ok (.aload_n 0, 1) := by decide +kernel
theorem dX13_operand_76 : decode cX13_operand 76 = .ok (.invokevirtual 200, 3) := by decide +kernel
theorem dX13_operand_79 : decode cX13_operand 79 = .ok (.ifCond .eq 16, 3) := by decide +kernel
theorem dX13_operand_82 : decode cX13_operand 82 = .ok (.aload_n 0, 1) := by decide +kernel
theorem dX13_operand_83 : decode cX13_operand 83 = .ok (.bipush 40, 2) := by decide +kernel
theorem dX13_operand_85 : decode cX13_operand 85 = .ok (.invokevirtual 210, 3) := by decide +kernel
theorem dX13_operand_88 : decode cX13_operand 88 = .ok (.ifCond .eq 7, 3) := by decide +kernel
theorem dX13_operand_91 : decode cX13_operand 91 = .ok (.iconst 1, 1) := by decide +kernel
theorem dX13_operand_92 : decode cX13_operand 92 = .ok (.goto 4, 3) := by decide +kernel
theorem dX13_operand_95 : decode cX13_operand 95 = .ok (.iconst 0, 1) := by decide +kernel
theorem dX13_operand_96 : decode cX13_operand 96 = .ok (.istore_n 3, 1) := by decide +kernel
theorem dX13_operand_97 : decode cX13_operand 97 = .ok (.iload_n 3, 1) := by decide +kernel
theorem dX13_operand_98 : decode cX13_operand 98 = .ok (.ifCond .eq 19, 3) := by decide +kernel
theorem dX13_operand_101 : decode cX13_operand 101 = .ok (.aload_n 0, 1) := by decide +kernel
theorem dX13_operand_102 : decode cX13_operand 102 = .ok (.bipush 14, 2) := by decide +kernel
theorem dX13_operand_104 : decode cX13_operand 104 = .ok (.invokevirtual 245, 3) := by decide +kernel
theorem dX13_operand_107 : decode cX13_operand 107 = .ok (.aload_n 0, 1) := by decide +kernel
theorem dX13_operand_108 : decode cX13_operand 108 = .ok (.invokevirtual 204, 3) := by decide +kernel
theorem dX13_operand_111 : decode cX13_operand 111 = .ok (.aload_n 0, 1) := by decide +kernel
theorem dX13_operand_112 : decode cX13_operand 112 = .ok (.invokevirtual 248, 3) := by decide +kernel
theorem dX13_operand_115 : decode cX13_operand 115 = .ok (.iconst 1, 1) := by decide +kernel
theorem dX13_operand_116 : decode cX13_operand 116 = .ok (.istore_n 2, 1) := by decide +kernel
theorem dX13_operand_117 : decode cX13_operand 117 = .ok (.goto (-113), 3) := by decide +kernel
theorem dX13_operand_120 : decode cX13_operand 120 = .ok (.aload_n 0, 1) := by decide +kernel
theorem dX13_operand_121 : decode cX13_operand 121 = .ok (.invokevirtual 251, 3) := by decide +kernel
theorem dX13_operand_124 : decode cX13_operand 124 = .ok (.return_, 1) := by decide +kernel
theorem dX13_isOpened_0 : decode cX13_isOpened 0 = .ok (.aload_n 0, 1) := by decide +kernel
theorem dX13_isOpened_1 : decode cX13_isOpened 1 = .ok (.getfield 220, 3) := by decide +kernel
theorem dX13_isOpened_4 : decode cX13_isOpened 4 = .ok (.iconst 1, 1) := by decide +kernel
theorem dX13_isOpened_5 : decode cX13_isOpened 5 = .ok (.isub, 1) := by decide +kernel
theorem dX13_isOpened_6 : decode cX13_isOpened 6 = .ok (.istore_n 1, 1) := by decide +kernel
theorem dX13_isOpened_7 : decode cX13_isOpened 7 = .ok (.iload_n 1, 1) := by decide +kernel
theorem dX13_isOpened_8 : decode cX13_isOpened 8 = .ok (.ifCond .lt 21, 3) := by decide +kernel
theorem dX13_isOpened_11 : decode cX13_isOpened 11 = .ok (.aload_n 0, 1) := by decide +kernel
theorem dX13_isOpened_12 : decode cX13_isOpened 12 = .ok (.getfield 101, 3) := by decide +kernel
theorem dX13_isOpened_15 : decode cX13_isOpened 15 = .ok (.iload_n 1, 1) := by decide +kernel
theorem dX13_isOpened_16 : decode cX13_isOpened 16 = .ok (.iaload, 1) := by decide +kernel
theorem dX13_isOpened_17 : decode cX13_isOpened 17 = .ok (.invokestatic 223, 3) := by decide +kernel
theorem dX13_isOpened_20 : decode cX13_isOpened 20 = .ok (.ifCond .ne 9, 3) := by decide +kernel
theorem dX13_isOpened_23 : decode cX13_isOpened 23 = .ok (.iinc 1 (-1), 3) := by decide +kernel
theorem dX13_isOpened_26 : decode cX13_isOpened 26 = .ok (.goto (-19), 3) := by decide +kernel
theorem dX13_isOpened_29 : decode cX13_isOpened 29 = .ok (.iload_n 1, 1) := by decide +kernel
theorem dX13_isOpened_30 : decode cX13_isOpened 30 = .ok (.ifCond .lt 7, 3) := by decide +kernel
theorem dX13_isOpened_33 : decode cX13_isOpened 33 = .ok (.iconst 1, 1) := by decide +kernel
theorem dX13_isOpened_34 : decode cX13_isOpened 34 = .ok (.goto 4, 3) := by decide +kernel
theorem dX13_isOpened_37 : decode cX13_isOpened 37 = .ok (.iconst 0, 1) := by decide +kernel
theorem dX13_isOpened_38 : decode cX13_isOpened 38 = .ok (.ireturn, 1) := by decide +kernel
theorem dX13_closes_0 : decode cX13_closes 0 = .ok (.aload_n 0, 1) := by decide +kernel
theorem dX13_closes_1 : decode cX13_closes 1 = .ok (.iconst 0, 1) := by decide +kernel
theorem dX13_closes_2 : decode cX13_closes 2 = .ok (.invokevirtual 254, 3) := by decide +kernel
theorem dX13_closes_5 : decode cX13_closes 5 = .ok (.aload_n 0, 1) := by decide +kernel
theorem dX13_closes_6 : decode cX13_closes 6 = .ok (.dup, 1) := by decide +kernel
theorem dX13_closes_7 : decode cX13_closes 7 = .ok (.getfield 220, 3) := by decide +kernel
theorem dX13_closes_10 : decode cX13_closes 10 = .ok (.iconst 1, 1) := by decide +kernel
theorem dX13_closes_11 : decode cX13_closes 11 = .ok (.isub, 1) := by decide +kernel
theorem dX13_closes_12 : decode cX13_closes 12 = .ok (.putfield 220, 3) := by decide +kernel
theorem dX13_closes_15 : decode cX13_closes 15 = .ok (.aload_n 0, 1) := by decide +kernel
theorem dX13_closes_16 : decode cX13_closes 16 = .ok (.dup, 1) := by decide +kernel
theorem dX13_closes_17 : decode cX13_closes 17 = .ok (.getfield 242, 3) := by decide +kernel
theorem dX13_closes_20 : decode cX13_closes 20 = .ok (.iconst 1, 1) := by decide +kernel
theorem dX13_closes_21 : decode cX13_closes 21 = .ok (.isub, 1) := by decide +kernel
theorem dX13_closes_22 : decode cX13_closes 22 = .ok (.putfield 242, 3) := by decide +kernel
theorem dX13_closes_25 : decode cX13_closes 25 = .ok (.aload_n 0, 1) := by decide +kernel
theorem dX13_closes_26 : decode cX13_closes 26 = .ok (.invokevirtual 204, 3) := by decide +kernel
theorem dX13_closes_29 : decode cX13_closes 29 = .ok (.return_, 1) := by decide +kernel
theorem dX13_expression_0 : decode cX13_expression 0 = .ok (.aload_n 0, 1) := by decide +kernel
theorem dX13_expression_1 : decode cX13_expression 1 = .ok (.invokevirtual 200, 3) := by decide +kernel
theorem dX13_expression_4 : decode cX13_expression 4 = .ok (.ifCond .ne 4, 3) := by decide +kernel
theorem dX13_expression_7 : decode cX13_expression 7 = .ok (.return_, 1) := by decide +kernel
theorem dX13_expression_8 : decode cX13_expression 8 = .ok (.aload_n 0, 1) := by decide +kernel
theorem dX13_expression_9 : decode cX13_expression 9 = .ok (.iload_n 1, 1) := by decide +kernel
theorem dX13_expression_10 : decode cX13_expression 10 = .ok (.putfield 236, 3) := by decide +kernel
theorem dX13_expression_13 : decode cX13_expression 13 = .ok (.aload_n 0, 1) := by decide +kernel
theorem dX13_expression_14 : decode cX13_expression 14 = .ok (.iload_n 2, 1) := by decide +kernel
theorem dX13_expression_15 : decode cX13_expression 15 = .ok (.putfield 239, 3) := by decide +kernel
theorem dX13_expression_18 : decode cX13_expression 18 = .ok (.aload_n 0, 1) := by decide +kernel
theorem dX13_expression_19 : decode cX13_expression 19 = .ok (.iconst 0, 1) := by decide +kernel
theorem dX13_expression_20 : decode cX13_expression 20 = .ok (.putfield 220, 3) := by decide +kernel
theorem dX13_expression_23 : decode cX13_expression 23 = .ok (.aload_n 0, 1) := by decide +kernel
theorem dX13_expression_24 : decode cX13_expression 24 = .ok (.iconst 0, 1) := by decide +kernel
theorem dX13_expression_25 : decode cX13_expression 25 = .ok (.putfield 242, 3) := by decide +kernel
theorem dX13_expression_28 : decode cX13_expression 28 = .ok (.aload_n 0, 1) := by decide +kernel
theorem dX13_expression_29 : decode cX13_expression 29 = .ok (.invokevirtual 248, 3) := by decide +kernel
theorem dX13_expression_32 : decode cX13_expression 32 = .ok (.aload_n 0, 1) := by decide +kernel
theorem dX13_expression_33 : decode cX13_expression 33 = .ok (.iconst 1, 1) := by decide +kernel
theorem dX13_expression_34 : decode cX13_expression 34 = .ok (.invokevirtual 257, 3) := by decide +kernel
theorem dX13_expression_37 : decode cX13_expression 37 = .ok (.iconst 1, 1) := by decide +kernel
theorem dX13_expression_38 : decode cX13_expression 38 = .ok (.istore_n 3, 1) := by decide +kernel
theorem dX13_expression_39 : decode cX13_expression 39 = .ok (.iload_n 3, 1) := by decide +kernel
theorem dX13_expression_40 : decode cX13_expression 40 = .ok (.ifCond .eq 300, 3) := by decide +kernel
theorem dX13_expression_43 : decode cX13_expression 43 = .ok (.aload_n 0, 1) := by decide +kernel
theorem dX13_expression_44 : decode cX13_expression 44 = .ok (.invokevirtual 200, 3) := by decide +kernel
theorem dX13_expression_47 : decode cX13_expression 47 = .ok (.ifCond .eq 293, 3) := by decide +kernel
theorem dX13_expression_50 : decode cX13_expression 50 = .ok (.aload_n 0, 1) := by decide +kernel
theorem dX13_expression_51 : decode cX13_expression 51 = .ok (.invokevirtual 232, 3) := by decide +kernel
theorem dX13_expression_54 : decode cX13_expression 54 = .ok (.istore 4, 2) := by decide +kernel
theorem dX13_expression_56 : decode cX13_expression 56 = .ok (.iload 4, 2) := by decide +kernel
theorem dX13_expression_58 : decode cX13_expression 58 = .ok (.bipush 19, 2) := by decide +kernel
theorem dX13_expression_60 : decode cX13_expression 60 = .ok (.if_icmp .eq 10, 3) := by decide +kernel
theorem dX13_expression_63 : decode cX13_expression 63 = .ok (.iload 4, 2) := by decide +kernel
theorem dX13_expression_65 : decode cX13_expression 65 = .ok (.bipush 20, 2) := by decide +kernel
theorem dX13_expression_67 : decode cX13_expression 67 = .ok (.if_icmp .ne 57, 3) := by decide +kernel
theorem dX13_expression_70 : decode cX13_expression 70 = .ok (.aload_n 0, 1) := by decide +kernel
theorem dX13_expression_71 : decode cX13_expression 71 = .ok (.iload 4, 2) := by decide +kernel
theorem dX13_expression_73 : decode cX13_expression 73 = .ok (.bipush 19, 2) := by decide +kernel
theorem dX13_expression_75 : decode cX13_expression 75 = .ok (.if_icmp .ne 7, 3) := by decide +kernel
theorem dX13_expression_78 : decode cX13_expression 78 = .ok (.iconst 2, 1) := by decide +kernel
theorem dX13_expression_79 : decode cX13_expression 79 = .ok (.goto 4, 3) := by decide +kernel
theorem dX13_expression_82 : decode cX13_expression 82 = .ok (.iconst 1, 1) := by decide +kernel
theorem dX13_expression_83 : decode cX13_expression 83 = .ok (.invokevirtual 254, 3) := by decide +kernel
theorem dX13_expression_86 : decode cX13_expression 86 = .ok (.aload_n 0, 1) := by decide +kernel
theorem dX13_expression_87 : decode cX13_expression 87 = .ok (.iload 4, 2) := by decide +kernel
theorem dX13_expression_89 : decode cX13_expression 89 = .ok (.bipush 19, 2) := by decide +kernel
theorem dX13_expression_91 : decode cX13_expression 91 = .ok (.if_icmp .ne 7, 3) := by decide +kernel
theorem dX13_expression_94 : decode cX13_expression 94 = .ok (.iconst 4, 1) := by decide +kernel
theorem dX13_expression_95 : decode cX13_expression 95 = .ok (.goto 4, 3) := by decide +kernel
theorem dX13_expression_98 : decode cX13_expression 98 = .ok (.iconst 5, 1) := by decide +kernel
theorem dX13_expression_99 : decode cX13_expression 99 = .ok (.invokevirtual 245, 3) := by decide +kernel
theorem dX13_expression_102 : decode cX13_expression 102 = .ok (.aload_n 0, 1) := by decide +kernel
theorem dX13_expression_103 : decode cX13_expression 103 = .ok (.getfield 104, 3) := by decide +kernel
theorem dX13_expression_106 : decode cX13_expression 106 = .ok (.aload_n 0, 1) := by decide +kernel
theorem dX13_expression_107 : decode cX13_expression 107 = .ok (.getfield 242, 3) := by decide +kernel
theorem dX13_expression_110 : decode cX13_expression 110 = .ok (.iconst 0, 1) := by decide +kernel
theorem dX13_expression_111 : decode cX13_expression 111 = .ok (.bastore, 1) := by decide +kernel
theorem dX13_expression_112 : decode cX13_expression 112 = .ok (.aload_n 0, 1) := by decide +kernel
theorem dX13_expression_113 : decode cX13_expression 113 = .ok (.invokevirtual 204, 3) := by decide +kernel
theorem dX13_expression_116 : decode cX13_expression 116 = .ok (.aload_n 0, 1) := by decide +kernel
theorem dX13_expression_117 : decode cX13_expression 117 = .ok (.iconst 1, 1) := by decide +kernel
theorem dX13_expression_118 : decode cX13_expression 118 = .ok (.invokevirtual 257, 3) := by decide +kernel
theorem dX13_expression_121 : decode cX13_expression 121 = .ok (.goto 216, 3) := by decide +kernel
theorem dX13_expression_124 : decode cX13_expression 124 = .ok (.aload_n 0, 1) := by decide +kernel
theorem dX13_expression_125 : decode cX13_expression 125 = .ok (.bipush 60, 2) := by decide +kernel
theorem dX13_expression_127 : decode cX13_expression 127 = .ok (.invokevirtual 210, 3) := by decide +kernel
theorem dX13_expression_130 : decode cX13_expression 130 = .ok (.ifCond .ne 12, 3) := by decide +kernel
theorem dX13_expression_133 : decode cX13_expression 133 = .ok (.aload_n 0, 1) := by decide +kernel
theorem dX13_expression_134 : decode cX13_expression 134 = .ok (.bipush 61, 2) := by decide +kernel
theorem dX13_expression_136 : decode cX13_expression 136 = .ok (.invokevirtual 210, 3) := by decide +kernel
theorem dX13_expression_139 : decode cX13_expression 139 = .ok (.ifCond .eq 62, 3) := by decide +kernel
theorem dX13_expression_142 : decode cX13_expression 142 = .ok (.aload_n 0, 1) := by decide +kernel
theorem dX13_expression_143 : decode cX13_expression 143 = .ok (.getfield 104, 3) := by decide +kernel
theorem dX13_expression_146 : decode cX13_expression 146 = .ok (.aload_n 0, 1) := by decide +kernel
theorem dX13_expression_147 : decode cX13_expression 147 = .ok (.getfield 242, 3) := by decide +kernel
theorem dX13_expression_150 : decode cX13_expression 150 = .ok (.baload, 1) := by decide +kernel
theorem dX13_expression_151 : decode cX13_expression 151 = .ok (.ifCond .ne 50, 3) := by decide +kernel
theorem dX13_expression_154 : decode cX13_expression 154 = .ok (.aload_n 0, 1) := by decide +kernel
theorem dX13_expression_155 : decode cX13_expression 155 = .ok (.iconst 4, 1) := by decide +kernel
theorem dX13_expression_156 : decode cX13_expression 156 = .ok (.invokevirtual 254, 3) := by decide +kernel
theorem dX13_expression_159 : decode cX13_expression 159 = .ok (.aload_n 0, 1) := by decide +kernel
theorem dX13_expression_160 : decode cX13_expression 160 = .ok (.aload_n 0, 1) := by decide +kernel
theorem dX13_expression_161 : decode cX13_expression 161 = .ok (.bipush 60, 2) := by decide +kernel
theorem dX13_expression_163 : decode cX13_expression 163 = .ok (.invokevirtual 210, 3) := by decide +kernel
theorem dX13_expression_166 : decode cX13_expression 166 = .ok (.ifCond .eq 8, 3) := by decide +kernel
theorem dX13_expression_169 : decode cX13_expression 169 = .ok (.bipush 6, 2) := by decide +kernel
theorem dX13_expression_171 : decode cX13_expression 171 = .ok (.goto 5, 3) := by decide +kernel
theorem dX13_expression_174 : decode cX13_expression 174 = .ok (.bipush 7, 2) := by decide +kernel
theorem dX13_expression_176 : decode cX13_expression 176 = .ok (.invokevirtual 245, 3) := by decide +kernel
theorem dX13_expression_179 : decode cX13_expression 179 = .ok (.aload_n 0, 1) := by decide +kernel
theorem dX13_expression_180 : decode cX13_expression 180 = .ok (.getfield 104, 3) := by decide +kernel
theorem dX13_expression_183 : decode cX13_expression 183 = .ok (.aload_n 0, 1) := by decide +kernel
theorem dX13_expression_184 : decode cX13_expression 184 = .ok (.getfield 242, 3) := by decide +kernel
theorem dX13_expression_187 : decode cX13_expression 187 = .ok (.iconst 1, 1) := by decide +kernel
theorem dX13_expression_188 : decode cX13_expression 188 = .ok (.bastore, 1) := by decide +kernel
theorem dX13_expression_189 : decode cX13_expression 189 = .ok (.aload_n 0, 1) := by decide +kernel
theorem dX13_expression_190 : decode cX13_expression 190 = .ok (.invokevirtual 204, 3) := by decide +kernel
theorem dX13_expression_193 : decode cX13_expression 193 = .ok (.aload_n 0, 1) := by decide +kernel
theorem dX13_expression_194 : decode cX13_expression 194 = .ok (.iconst 0, 1) := by decide +kernel
theorem dX13_expression_195 : decode cX13_expression 195 = .ok (.invokevirtual 257, 3) := by decide +kernel
theorem dX13_expression_198 : decode cX13_expression 198 = .ok (.goto 139, 3) := by decide +kernel
theorem dX13_expression_201 : decode cX13_expression 201 = .ok (.aload_n 0, 1) := by decide +kernel
theorem dX13_expression_202 : decode cX13_expression 202 = .ok (.bipush 43, 2) := by decide +kernel
theorem dX13_expression_204 : decode cX13_expression 204 = .ok (.invokevirtual 210, 3) := by decide +kernel
theorem dX13_expression_207 : decode cX13_expression 207 = .ok (.ifCond .ne 12, 3) := by decide +kernel
theorem dX13_expression_210 : decode cX13_expression 210 = .ok (.aload_n 0, 1) := by decide +kernel
theorem dX13_expression_211 : decode cX13_expression 211 = .ok (.bipush 45, 2) := by decide +kernel
theorem dX13_expression_213 : decode cX13_expression 213 = .ok (.invokevirtual 210, 3) := by decide +kernel
theorem dX13_expression_216 : decode cX13_expression 216 = .ok (.ifCond .eq 40, 3) := by decide +kernel
theorem dX13_expression_219 : decode cX13_expression 219 = .ok (.aload_n 0, 1) := by decide +kernel
theorem dX13_expression_220 : decode cX13_expression 220 = .ok (.iconst 5, 1) := by decide +kernel
theorem dX13_expression_221 : decode cX13_expression 221 = .ok (.invokevirtual 254, 3) := by decide +kernel
theorem dX13_expression_224 : decode cX13_expression 224 = .ok (.aload_n 0, 1) := by decide +kernel
theorem dX13_expression_225 : decode cX13_expression 225 = .ok (.aload_n 0, 1) := by decide +kernel
theorem dX13_expression_226 : decode cX13_expression 226 = .ok (.bipush 43, 2) := by decide +kernel
theorem dX13_expression_228 : decode cX13_expression 228 = .ok (.invokevirtual 210, 3) := by decide +kernel
theorem dX13_expression_231 : decode cX13_expression 231 = .ok (.ifCond .eq 8, 3) := by decide +kernel
theorem dX13_expression_234 : decode cX13_expression 234 = .ok (.bipush 8, 2) := by decide +kernel
theorem dX13_expression_236 : decode cX13_expression 236 = .ok (.goto 5, 3) := by decide +kernel
theorem dX13_expression_239 : decode cX13_expression 239 = .ok (.bipush 9, 2) := by decide +kernel
theorem dX13_expression_241 : decode cX13_expression 241 = .ok (.invokevirtual 245, 3) := by decide +kernel
theorem dX13_expression_244 : decode cX13_expression 244 = .ok (.aload_n 0, 1) := by decide +kernel
theorem dX13_expression_245 : decode cX13_expression 245 = .ok (.invokevirtual 204, 3) := by decide +kernel
theorem dX13_expression_248 : decode cX13_expression 248 = .ok (.aload_n 0, 1) := by decide +kernel
theorem dX13_expression_249 : decode cX13_expression 249 = .ok (.iconst 0, 1) := by decide +kernel
theorem dX13_expression_250 : decode cX13_expression 250 = .ok (.invokevirtual 257, 3) := by decide +kernel
theorem dX13_expression_253 : decode cX13_expression 253 = .ok (.goto 84, 3) := by decide +kernel
theorem dX13_expression_256 : decode cX13_expression 256 = .ok (.aload_n 0, 1) := by decide +kernel
theorem dX13_expression_257 : decode cX13_expression 257 = .ok (.bipush 42, 2) := by decide +kernel
theorem dX13_expression_259 : decode cX13_expression 259 = .ok (.invokevirtual 210, 3) := by decide +kernel
theorem dX13_expression_262 : decode cX13_expression 262 = .ok (.ifCond .ne 12, 3) := by decide +kernel
theorem dX13_expression_265 : decode cX13_expression 265 = .ok (.aload_n 0, 1) := by decide +kernel
theorem dX13_expression_266 : decode cX13_expression 266 = .ok (.bipush 47, 2) := by decide +kernel
theorem dX13_expression_268 : decode cX13_expression 268 = .ok (.invokevirtual 210, 3) := by decide +kernel
theorem dX13_expression_271 : decode cX13_expression 271 = .ok (.ifCond .eq 41, 3) := by decide +kernel
theorem dX13_expression_274 : decode cX13_expression 274 = .ok (.aload_n 0, 1) := by decide +kernel
theorem dX13_expression_275 : decode cX13_expression 275 = .ok (.bipush 6, 2) := by decide +kernel
theorem dX13_expression_277 : decode cX13_expression 277 = .ok (.invokevirtual 254, 3) := by decide +kernel
theorem dX13_expression_280 : decode cX13_expression 280 = .ok (.aload_n 0, 1) := by decide +kernel
theorem dX13_expression_281 : decode cX13_expression 281 = .ok (.aload_n 0, 1) := by decide +kernel
theorem dX13_expression_282 : decode cX13_expression 282 = .ok (.bipush 42, 2) := by decide +kernel
theorem dX13_expression_284 : decode cX13_expression 284 = .ok (.invokevirtual 210, 3) := by decide +kernel
theorem dX13_expression_287 : decode cX13_expression 287 = .ok (.ifCond .eq 8, 3) := by decide +kernel
theorem dX13_expression_290 : decode cX13_expression 290 = .ok (.bipush 10, 2) := by decide +kernel
theorem dX13_expression_292 : decode cX13_expression 292 = .ok (.goto 5, 3) := by decide +kernel
theorem dX13_expression_295 : decode cX13_expression 295 = .ok (.bipush 11, 2) := by decide +kernel
theorem dX13_expression_297 : decode cX13_expression 297 = .ok (.invokevirtual 245, 3) := by decide +kernel
theorem dX13_expression_300 : decode cX13_expression 300 = .ok (.aload_n 0, 1) := by decide +kernel
theorem dX13_expression_301 : decode cX13_expression 301 = .ok (.invokevirtual 204, 3) := by decide +kernel
theorem dX13_expression_304 : decode cX13_expression 304 = .ok (.aload_n 0, 1) := by decide +kernel
theorem dX13_expression_305 : decode cX13_expression 305 = .ok (.iconst 0, 1) := by decide +kernel
theorem dX13_expression_306 : decode cX13_expression 306 = .ok (.invokevirtual 257, 3) := by decide +kernel
theorem dX13_expression_309 : decode cX13_expression 309 = .ok (.goto 28, 3) := by decide +kernel
theorem dX13_expression_312 : decode cX13_expression 312 = .ok (.aload_n 0, 1) := by decide +kernel
theorem dX13_expression_313 : decode cX13_expression 313 = .ok (.bipush 41, 2) := by decide +kernel
theorem dX13_expression_315 : decode cX13_expression 315 = .ok (.invokevirtual 210, 3) := by decide +kernel
theorem dX13_expression_318 : decode cX13_expression 318 = .ok (.ifCond .eq 17, 3) := by decide +kernel
theorem dX13_expression_321 : decode cX13_expression 321 = .ok (.aload_n 0, 1) := by decide +kernel
theorem dX13_expression_322 : decode cX13_expression 322 = .ok (.invokevirtual 261, 3) := by decide +kernel
theorem dX13_expression_325 : decode cX13_expression 325 = .ok (.ifCond .eq 10, 3) := by decide +kernel
theorem dX13_expression_328 : decode cX13_expression 328 = .ok (.aload_n 0, 1) := by decide +kernel
theorem dX13_expression_329 : decode cX13_expression 329 = .ok (.invokevirtual 264, 3) := by decide +kernel
theorem dX13_expression_332 : decode cX13_expression 332 = .ok (.goto 5, 3) := by decide +kernel
theorem dX13_expression_335 : decode cX13_expression 335 = .ok (.iconst 0, 1) := by decide +kernel
theorem dX13_expression_336 : decode cX13_expression 336 = .ok (.istore_n 3, 1) := by decide +kernel
theorem dX13_expression_337 : decode cX13_expression 337 = .ok (.goto (-298), 3) := by decide +kernel
theorem dX13_expression_340 : decode cX13_expression 340 = .ok (.aload_n 0, 1) := by decide +kernel
theorem dX13_expression_341 : decode cX13_expression 341 = .ok (.invokevirtual 200, 3) := by decide +kernel
theorem dX13_expression_344 : decode cX13_expression 344 = .ok (.ifCond .eq 16, 3) := by decide +kernel
theorem dX13_expression_347 : decode cX13_expression 347 = .ok (.aload_n 0, 1) := by decide +kernel
theorem dX13_expression_348 : decode cX13_expression 348 = .ok (.getfield 242, 3) := by decide +kernel
theorem dX13_expression_351 : decode cX13_expression 351 = .ok (.iconst 1, 1) := by decide +kernel
theorem dX13_expression_352 : decode cX13_expression 352 = .ok (.if_icmp .le 8, 3) := by decide +kernel
theorem dX13_expression_355 : decode cX13_expression 355 = .ok (.aload_n 0, 1) := by decide +kernel
theorem dX13_expression_356 : decode cX13_expression 356 = .ok (.iconst 1, 1) := by decide +kernel
theorem dX13_expression_357 : decode cX13_expression 357 = .ok (.invokevirtual 207, 3) := by decide +kernel
theorem dX13_expression_360 : decode cX13_expression 360 = .ok (.aload_n 0, 1) := by decide +kernel
theorem dX13_expression_361 : decode cX13_expression 361 = .ok (.iconst 0, 1) := by decide +kernel
theorem dX13_expression_362 : decode cX13_expression 362 = .ok (.invokevirtual 254, 3) := by decide +kernel
theorem dX13_expression_365 : decode cX13_expression 365 = .ok (.aload_n 0, 1) := by decide +kernel
theorem dX13_expression_366 : decode cX13_expression 366 = .ok (.iconst 0, 1) := by decide +kernel
theorem dX13_expression_367 : decode cX13_expression 367 = .ok (.invokevirtual 229, 3) := by decide +kernel
theorem dX13_expression_370 : decode cX13_expression 370 = .ok (.return_, 1) := by decide +kernel
theorem dX13_readsCity_0 : decode cX13_readsCity 0 = .ok (.aload_n 0, 1) := by decide +kernel
theorem dX13_readsCity_1 : decode cX13_readsCity 1 = .ok (.getfield 267, 3) := by decide +kernel
theorem dX13_readsCity_4 : decode cX13_readsCity 4 = .ok (.ifCond .eq 8, 3) := by decide +kernel
theorem dX13_readsCity_7 : decode cX13_readsCity 7 = .ok (.aload_n 0, 1) := by decide +kernel
theorem dX13_readsCity_8 : decode cX13_readsCity 8 = .ok (.iconst 5, 1) := by decide +kernel
theorem dX13_readsCity_9 : decode cX13_readsCity 9 = .ok (.invokevirtual 207, 3) := by decide +kernel
theorem dX13_readsCity_12 : decode cX13_readsCity 12 = .ok (.aload_n 0, 1) := by decide +kernel
theorem dX13_readsCity_13 : decode cX13_readsCity 13 = .ok (.invokevirtual 200, 3) := by decide +kernel
theorem dX13_readsCity_16 : decode cX13_readsCity 16 = .ok (.ifCond .ne 4, 3) := by decide +kernel
theorem dX13_readsCity_19 : decode cX13_readsCity 19 = .ok (.return_, 1) := by decide +kernel
theorem dX13_readsCity_20 : decode cX13_readsCity 20 = .ok (.aload_n 0, 1) := by decide +kernel
theorem dX13_readsCity_21 : decode cX13_readsCity 21 = .ok (.iconst 1, 1) := by decide +kernel
theorem dX13_readsCity_22 : decode cX13_readsCity 22 = .ok (.putfield 267, 3) := by decide +kernel
theorem dX13_readsCity_25 : decode cX13_readsCity 25 = .ok (.aload_n 0, 1) := by decide +kernel
theorem dX13_readsCity_26 : decode cX13_readsCity 26 = .ok (.invokevirtual 204, 3) := by decide +kernel
