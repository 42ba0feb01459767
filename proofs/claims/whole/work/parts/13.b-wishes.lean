-- printed by wip/gen/p10c.py: Wishes, Acts, Tapes
theorem dX8_movers_0 : decode cX8_movers 0 = .ok (.iconst 0, 1) := by decide +kernel
theorem dX8_movers_1 : decode cX8_movers 1 = .ok (.istore_n 2, 1) := by decide +kernel
theorem dX8_movers_2 : decode cX8_movers 2 = .ok (.iconst 0, 1) := by decide +kernel
theorem dX8_movers_3 : decode cX8_movers 3 = .ok (.istore_n 3, 1) := by decide +kernel
theorem dX8_movers_4 : decode cX8_movers 4 = .ok (.iload_n 3, 1) := by decide +kernel
theorem dX8_movers_5 : decode cX8_movers 5 = .ok (.aload_n 0, 1) := by decide +kernel
theorem dX8_movers_6 : decode cX8_movers 6 = .ok (.getfield 15, 3) := by decide +kernel
theorem dX8_movers_9 : decode cX8_movers 9 = .ok (.getfield 47, 3) := by decide +kernel
theorem dX8_movers_12 : decode cX8_movers 12 = .ok (.if_icmp .ge 37, 3) := by decide +kernel
theorem dX8_movers_15 : decode cX8_movers 15 = .ok (.aload_n 0, 1) := by decide +kernel
theorem dX8_movers_16 : decode cX8_movers 16 = .ok (.getfield 15, 3) := by decide +kernel
theorem dX8_movers_19 : decode cX8_movers 19 = .ok (.iload_n 3, 1) := by decide +kernel
theorem dX8_movers_20 : decode cX8_movers 20 = .ok (.iload_n 1, 1) := by decide +kernel
theorem dX8_movers_21 : decode cX8_movers 21 = .ok (.invokestatic 88, 3) := by decide +kernel
theorem dX8_movers_24 : decode cX8_movers 24 = .ok (.aload_n 0, 1) := by decide +kernel
theorem dX8_movers_25 : decode cX8_movers 25 = .ok (.getfield 15, 3) := by decide +kernel
theorem dX8_movers_28 : decode cX8_movers 28 = .ok (.getfield 31, 3) := by decide +kernel
theorem dX8_movers_31 : decode cX8_movers 31 = .ok (.invokevirtual 92, 3) := by decide +kernel
theorem dX8_movers_34 : decode cX8_movers 34 = .ok (.ifCond .ne 9, 3) := by decide +kernel
theorem dX8_movers_37 : decode cX8_movers 37 = .ok (.iload_n 2, 1) := by decide +kernel
theorem dX8_movers_38 : decode cX8_movers 38 = .ok (.iconst 1, 1) := by decide +kernel
theorem dX8_movers_39 : decode cX8_movers 39 = .ok (.iload_n 3, 1) := by decide +kernel
theorem dX8_movers_40 : decode cX8_movers 40 = .ok (.ishl, 1) := by decide +kernel
theorem dX8_movers_41 : decode cX8_movers 41 = .ok (.ior, 1) := by decide +kernel
theorem dX8_movers_42 : decode cX8_movers 42 = .ok (.istore_n 2, 1) := by decide +kernel
theorem dX8_movers_43 : decode cX8_movers 43 = .ok (.iinc 3 1, 3) := by decide +kernel
theorem dX8_movers_46 : decode cX8_movers 46 = .ok (.goto (-42), 3) := by decide +kernel
theorem dX8_movers_49 : decode cX8_movers 49 = .ok (.iload_n 2, 1) := by decide +kernel
theorem dX8_movers_50 : decode cX8_movers 50 = .ok (.ireturn, 1) := by decide +kernel
theorem dX8_firstBreach_0 : decode cX8_firstBreach 0 = .ok (.aload_n 0, 1) := by decide +kernel
theorem dX8_firstBreach_1 : decode cX8_firstBreach 1 = .ok (.getfield 27, 3) := by decide +kernel
theorem dX8_firstBreach_4 : decode cX8_firstBreach 4 = .ok (.iload_n 1, 1) := by decide +kernel
theorem dX8_firstBreach_5 : decode cX8_firstBreach 5 = .ok (.aload_n 0, 1) := by decide +kernel
theorem dX8_firstBreach_6 : decode cX8_firstBreach 6 = .ok (.getfield 15, 3) := by decide +kernel
theorem dX8_firstBreach_9 : decode cX8_firstBreach 9 = .ok (.getfield 31, 3) := by decide +kernel
theorem dX8_firstBreach_12 : decode cX8_firstBreach 12 = .ok (.iconst 0, 1) := by decide +kernel
theorem dX8_firstBreach_13 : decode cX8_firstBreach 13 = .ok (.iconst (-1), 1) := by decide +kernel
theorem dX8_firstBreach_14 : decode cX8_firstBreach 14 = .ok (.iconst (-1), 1) := by decide +kernel
theorem dX8_firstBreach_15 : decode cX8_firstBreach 15 = .ok (.invokevirtual 37, 3) := by decide +kernel
theorem dX8_firstBreach_18 : decode cX8_firstBreach 18 = .ok (.aload_n 0, 1) := by decide +kernel
theorem dX8_firstBreach_19 : decode cX8_firstBreach 19 = .ok (.getfield 27, 3) := by decide +kernel
theorem dX8_firstBreach_22 : decode cX8_firstBreach 22 = .ok (.getfield 43, 3) := by decide +kernel
theorem dX8_firstBreach_25 : decode cX8_firstBreach 25 = .ok (.lstore_n 2, 1) := by decide +kernel
theorem dX8_firstBreach_26 : decode cX8_firstBreach 26 = .ok (.iconst 0, 1) := by decide +kernel
theorem dX8_firstBreach_27 : decode cX8_firstBreach 27 = .ok (.istore 4, 2) := by decide +kernel
theorem dX8_firstBreach_29 : decode cX8_firstBreach 29 = .ok (.iconst 0, 1) := by decide +kernel
theorem dX8_firstBreach_30 : decode cX8_firstBreach 30 = .ok (.istore 5, 2) := by decide +kernel
theorem dX8_firstBreach_32 : decode cX8_firstBreach 32 = .ok (.iload 5, 2) := by decide +kernel
theorem dX8_firstBreach_34 : decode cX8_firstBreach 34 = .ok (.aload_n 0, 1) := by decide +kernel
theorem dX8_firstBreach_35 : decode cX8_firstBreach 35 = .ok (.getfield 15, 3) := by decide +kernel
theorem dX8_firstBreach_38 : decode cX8_firstBreach 38 = .ok (.getfield 47, 3) := by decide +kernel
theorem dX8_firstBreach_41 : decode cX8_firstBreach 41 = .ok (.if_icmp .ge 56, 3) := by decide +kernel
theorem dX8_firstBreach_44 : decode cX8_firstBreach 44 = .ok (.aload_n 0, 1) := by decide +kernel
theorem dX8_firstBreach_45 : decode cX8_firstBreach 45 = .ok (.getfield 9, 3) := by decide +kernel
theorem dX8_firstBreach_48 : decode cX8_firstBreach 48 = .ok (.iload 5, 2) := by decide +kernel
theorem dX8_firstBreach_50 : decode cX8_firstBreach 50 = .ok (.aload_n 0, 1) := by decide +kernel
theorem dX8_firstBreach_51 : decode cX8_firstBreach 51 = .ok (.getfield 27, 3) := by decide +kernel
theorem dX8_firstBreach_54 : decode cX8_firstBreach 54 = .ok (.getfield 50, 3) := by decide +kernel
theorem dX8_firstBreach_57 : decode cX8_firstBreach 57 = .ok (.iload 5, 2) := by decide +kernel
theorem dX8_firstBreach_59 : decode cX8_firstBreach 59 = .ok (.laload, 1) := by decide +kernel
theorem dX8_firstBreach_60 : decode cX8_firstBreach 60 = .ok (.lastore, 1) := by decide +kernel
theorem dX8_firstBreach_61 : decode cX8_firstBreach 61 = .ok (.aload_n 0, 1) := by decide +kernel
theorem dX8_firstBreach_62 : decode cX8_firstBreach 62 = .ok (.getfield 23, 3) := by decide +kernel
theorem dX8_firstBreach_65 : decode cX8_firstBreach 65 = .ok (.getfield 53, 3) := by decide +kernel
theorem dX8_firstBreach_68 : decode cX8_firstBreach 68 = .ok (.iload 5, 2) := by decide +kernel
theorem dX8_firstBreach_70 : decode cX8_firstBreach 70 = .ok (.bipush 8, 2) := by decide +kernel
theorem dX8_firstBreach_72 : decode cX8_firstBreach 72 = .ok (.imul, 1) := by decide +kernel
theorem dX8_firstBreach_73 : decode cX8_firstBreach 73 = .ok (.iload 5, 2) := by decide +kernel
theorem dX8_firstBreach_75 : decode cX8_firstBreach 75 = .ok (.iadd, 1) := by decide +kernel
theorem dX8_firstBreach_76 : decode cX8_firstBreach 76 = .ok (.iaload, 1) := by decide +kernel
theorem dX8_firstBreach_77 : decode cX8_firstBreach 77 = .ok (.bipush 10, 2) := by decide +kernel
theorem dX8_firstBreach_79 : decode cX8_firstBreach 79 = .ok (.if_icmp .ne 12, 3) := by decide +kernel
theorem dX8_firstBreach_82 : decode cX8_firstBreach 82 = .ok (.iload 4, 2) := by decide +kernel
theorem dX8_firstBreach_84 : decode cX8_firstBreach 84 = .ok (.iconst 1, 1) := by decide +kernel
theorem dX8_firstBreach_85 : decode cX8_firstBreach 85 = .ok (.iload 5, 2) := by decide +kernel
theorem dX8_firstBreach_87 : decode cX8_firstBreach 87 = .ok (.ishl, 1) := by decide +kernel
theorem dX8_firstBreach_88 : decode cX8_firstBreach 88 = .ok (.ior, 1) := by decide +kernel
theorem dX8_firstBreach_89 : decode cX8_firstBreach 89 = .ok (.istore 4, 2) := by decide +kernel
theorem dX8_firstBreach_91 : decode cX8_firstBreach 91 = .ok (.iinc 5 1, 3) := by decide +kernel
theorem dX8_firstBreach_94 : decode cX8_firstBreach 94 = .ok (.goto (-62), 3) := by decide +kernel
theorem dX8_firstBreach_97 : decode cX8_firstBreach 97 = .ok (.iconst 0, 1) := by decide +kernel
theorem dX8_firstBreach_98 : decode cX8_firstBreach 98 = .ok (.istore 5, 2) := by decide +kernel
theorem dX8_firstBreach_100 : decode cX8_firstBreach 100 = .ok (.iload 5, 2) := by decide +kernel
theorem dX8_firstBreach_102 : decode cX8_firstBreach 102 = .ok (.aload_n 0, 1) := by decide +kernel
theorem dX8_firstBreach_103 : decode cX8_firstBreach 103 = .ok (.getfield 15, 3) := by decide +kernel
theorem dX8_firstBreach_106 : decode cX8_firstBreach 106 = .ok (.getfield 47, 3) := by decide +kernel
theorem dX8_firstBreach_109 : decode cX8_firstBreach 109 = .ok (.if_icmp .ge 143, 3) := by decide +kernel
theorem dX8_firstBreach_112 : decode cX8_firstBreach 112 = .ok (.iload 4, 2) := by decide +kernel
theorem dX8_firstBreach_114 : decode cX8_firstBreach 114 = .ok (.iload 5, 2) := by decide +kernel
theorem dX8_firstBreach_116 : decode cX8_firstBreach 116 = .ok (.ishr, 1) := by decide +kernel
theorem dX8_firstBreach_117 : decode cX8_firstBreach 117 = .ok (.iconst 1, 1) := by decide +kernel
theorem dX8_firstBreach_118 : decode cX8_firstBreach 118 = .ok (.iand, 1) := by decide +kernel
theorem dX8_firstBreach_119 : decode cX8_firstBreach 119 = .ok (.ifCond .ne 7, 3) := by decide +kernel
theorem dX8_firstBreach_122 : decode cX8_firstBreach 122 = .ok (.iconst 0, 1) := by decide +kernel
theorem dX8_firstBreach_123 : decode cX8_firstBreach 123 = .ok (.goto 12, 3) := by decide +kernel
theorem dX8_firstBreach_126 : decode cX8_firstBreach 126 = .ok (.iload 4, 2) := by decide +kernel
theorem dX8_firstBreach_128 : decode cX8_firstBreach 128 = .ok (.iconst 1, 1) := by decide +kernel
theorem dX8_firstBreach_129 : decode cX8_firstBreach 129 = .ok (.iload 5, 2) := by decide +kernel
theorem dX8_firstBreach_131 : decode cX8_firstBreach 131 = .ok (.ishl, 1) := by decide +kernel
theorem dX8_firstBreach_132 : decode cX8_firstBreach 132 = .ok (.iconst (-1), 1) := by decide +kernel
theorem dX8_firstBreach_133 : decode cX8_firstBreach 133 = .ok (.ixor, 1) := by decide +kernel
theorem dX8_firstBreach_134 : decode cX8_firstBreach 134 = .ok (.iand, 1) := by decide +kernel
theorem dX8_firstBreach_135 : decode cX8_firstBreach 135 = .ok (.istore 6, 2) := by decide +kernel
theorem dX8_firstBreach_137 : decode cX8_firstBreach 137 = .ok (.iconst 0, 1) := by decide +kernel
theorem dX8_firstBreach_138 : decode cX8_firstBreach 138 = .ok (.istore 7, 2) := by decide +kernel
theorem dX8_firstBreach_140 : decode cX8_firstBreach 140 = .ok (.iload 7, 2) := by decide +kernel
theorem dX8_firstBreach_142 : decode cX8_firstBreach 142 = .ok (.aload_n 0, 1) := by decide +kernel
theorem dX8_firstBreach_143 : decode cX8_firstBreach 143 = .ok (.getfield 15, 3) := by decide +kernel
theorem dX8_firstBreach_146 : decode cX8_firstBreach 146 = .ok (.getfield 47, 3) := by decide +kernel
theorem dX8_firstBreach_149 : decode cX8_firstBreach 149 = .ok (.if_icmp .ge 97, 3) := by decide +kernel
theorem dX8_firstBreach_152 : decode cX8_firstBreach 152 = .ok (.iload 6, 2) := by decide +kernel
theorem dX8_firstBreach_154 : decode cX8_firstBreach 154 = .ok (.iload 7, 2) := by decide +kernel
theorem dX8_firstBreach_156 : decode cX8_firstBreach 156 = .ok (.ishr, 1) := by decide +kernel
theorem dX8_firstBreach_157 : decode cX8_firstBreach 157 = .ok (.iconst 1, 1) := by decide +kernel
theorem dX8_firstBreach_158 : decode cX8_firstBreach 158 = .ok (.iand, 1) := by decide +kernel
theorem dX8_firstBreach_159 : decode cX8_firstBreach 159 = .ok (.ifCond .eq 81, 3) := by decide +kernel
theorem dX8_firstBreach_162 : decode cX8_firstBreach 162 = .ok (.aload_n 0, 1) := by decide +kernel
theorem dX8_firstBreach_163 : decode cX8_firstBreach 163 = .ok (.getfield 19, 3) := by decide +kernel
theorem dX8_firstBreach_166 : decode cX8_firstBreach 166 = .ok (.iload 5, 2) := by decide +kernel
theorem dX8_firstBreach_168 : decode cX8_firstBreach 168 = .ok (.iload 7, 2) := by decide +kernel
theorem dX8_firstBreach_170 : decode cX8_firstBreach 170 = .ok (.iload_n 1, 1) := by decide +kernel
theorem dX8_firstBreach_171 : decode cX8_firstBreach 171 = .ok (.invokevirtual 59, 3) := by decide +kernel
theorem dX8_firstBreach_174 : decode cX8_firstBreach 174 = .ok (.ifCond .eq 6, 3) := by decide +kernel
theorem dX8_firstBreach_177 : decode cX8_firstBreach 177 = .ok (.goto 63, 3) := by decide +kernel
theorem dX8_firstBreach_180 : decode cX8_firstBreach 180 = .ok (.aload_n 0, 1) := by decide +kernel
theorem dX8_firstBreach_181 : decode cX8_firstBreach 181 = .ok (.getfield 27, 3) := by decide +kernel
theorem dX8_firstBreach_184 : decode cX8_firstBreach 184 = .ok (.iload_n 1, 1) := by decide +kernel
theorem dX8_firstBreach_185 : decode cX8_firstBreach 185 = .ok (.aload_n 0, 1) := by decide +kernel
theorem dX8_firstBreach_186 : decode cX8_firstBreach 186 = .ok (.getfield 15, 3) := by decide +kernel
theorem dX8_firstBreach_189 : decode cX8_firstBreach 189 = .ok (.getfield 31, 3) := by decide +kernel
theorem dX8_firstBreach_192 : decode cX8_firstBreach 192 = .ok (.iconst 0, 1) := by decide +kernel
theorem dX8_firstBreach_193 : decode cX8_firstBreach 193 = .ok (.iload 5, 2) := by decide +kernel
theorem dX8_firstBreach_195 : decode cX8_firstBreach 195 = .ok (.iload 7, 2) := by decide +kernel
theorem dX8_firstBreach_197 : decode cX8_firstBreach 197 = .ok (.invokevirtual 37, 3) := by decide +kernel
theorem dX8_firstBreach_200 : decode cX8_firstBreach 200 = .ok (.aload_n 0, 1) := by decide +kernel
theorem dX8_firstBreach_201 : decode cX8_firstBreach 201 = .ok (.getfield 27, 3) := by decide +kernel
theorem dX8_firstBreach_204 : decode cX8_firstBreach 204 = .ok (.getfield 50, 3) := by decide +kernel
theorem dX8_firstBreach_207 : decode cX8_firstBreach 207 = .ok (.iload 7, 2) := by decide +kernel
theorem dX8_firstBreach_209 : decode cX8_firstBreach 209 = .ok (.laload, 1) := by decide +kernel
theorem dX8_firstBreach_210 : decode cX8_firstBreach 210 = .ok (.lload_n 2, 1) := by decide +kernel
theorem dX8_firstBreach_211 : decode cX8_firstBreach 211 = .ok (.lmul, 1) := by decide +kernel
theorem dX8_firstBreach_212 : decode cX8_firstBreach 212 = .ok (.aload_n 0, 1) := by decide +kernel
theorem dX8_firstBreach_213 : decode cX8_firstBreach 213 = .ok (.getfield 9, 3) := by decide +kernel
theorem dX8_firstBreach_216 : decode cX8_firstBreach 216 = .ok (.iload 7, 2) := by decide +kernel
theorem dX8_firstBreach_218 : decode cX8_firstBreach 218 = .ok (.laload, 1) := by decide +kernel
theorem dX8_firstBreach_219 : decode cX8_firstBreach 219 = .ok (.aload_n 0, 1) := by decide +kernel
theorem dX8_firstBreach_220 : decode cX8_firstBreach 220 = .ok (.getfield 27, 3) := by decide +kernel
theorem dX8_firstBreach_223 : decode cX8_firstBreach 223 = .ok (.getfield 43, 3) := by decide +kernel
theorem dX8_firstBreach_226 : decode cX8_firstBreach 226 = .ok (.lmul, 1) := by decide +kernel
theorem dX8_firstBreach_227 : decode cX8_firstBreach 227 = .ok (.lcmp, 1) := by decide +kernel
theorem dX8_firstBreach_228 : decode cX8_firstBreach 228 = .ok (.ifCond .ge 12, 3) := by decide +kernel
theorem dX8_firstBreach_231 : decode cX8_firstBreach 231 = .ok (.bipush 10, 2) := by decide +kernel
theorem dX8_firstBreach_233 : decode cX8_firstBreach 233 = .ok (.iload 5, 2) := by decide +kernel
theorem dX8_firstBreach_235 : decode cX8_firstBreach 235 = .ok (.imul, 1) := by decide +kernel
theorem dX8_firstBreach_236 : decode cX8_firstBreach 236 = .ok (.iload 7, 2) := by decide +kernel
theorem dX8_firstBreach_238 : decode cX8_firstBreach 238 = .ok (.iadd, 1) := by decide +kernel
theorem dX8_firstBreach_239 : decode cX8_firstBreach 239 = .ok (.ireturn, 1) := by decide +kernel
theorem dX8_firstBreach_240 : decode cX8_firstBreach 240 = .ok (.iinc 7 1, 3) := by decide +kernel
theorem dX8_firstBreach_243 : decode cX8_firstBreach 243 = .ok (.goto (-103), 3) := by decide +kernel
theorem dX8_firstBreach_246 : decode cX8_firstBreach 246 = .ok (.iinc 5 1, 3) := by decide +kernel
theorem dX8_firstBreach_249 : decode cX8_firstBreach 249 = .ok (.goto (-149), 3) := by decide +kernel
theorem dX8_firstBreach_252 : decode cX8_firstBreach 252 = .ok (.bipush (-5), 2) := by decide +kernel
theorem dX8_firstBreach_254 : decode cX8_firstBreach 254 = .ok (.ireturn, 1) := by decide +kernel
theorem dX8_firstWish_0 : decode cX8_firstWish 0 = .ok (.aload_n 0, 1) := by decide +kernel
theorem dX8_firstWish_1 : decode cX8_firstWish 1 = .ok (.getfield 27, 3) := by decide +kernel
theorem dX8_firstWish_4 : decode cX8_firstWish 4 = .ok (.iload_n 1, 1) := by decide +kernel
theorem dX8_firstWish_5 : decode cX8_firstWish 5 = .ok (.iconst 0, 1) := by decide +kernel
theorem dX8_firstWish_6 : decode cX8_firstWish 6 = .ok (.iconst (-1), 1) := by decide +kernel
theorem dX8_firstWish_7 : decode cX8_firstWish 7 = .ok (.iconst (-1), 1) := by decide +kernel
theorem dX8_firstWish_8 : decode cX8_firstWish 8 = .ok (.invokevirtual 65, 3) := by decide +kernel
theorem dX8_firstWish_11 : decode cX8_firstWish 11 = .ok (.lstore_n 2, 1) := by decide +kernel
theorem dX8_firstWish_12 : decode cX8_firstWish 12 = .ok (.iconst 0, 1) := by decide +kernel
theorem dX8_firstWish_13 : decode cX8_firstWish 13 = .ok (.istore 4, 2) := by decide +kernel
theorem dX8_firstWish_15 : decode cX8_firstWish 15 = .ok (.iload 4, 2) := by decide +kernel
theorem dX8_firstWish_17 : decode cX8_firstWish 17 = .ok (.aload_n 0, 1) := by decide +kernel
theorem dX8_firstWish_18 : decode cX8_firstWish 18 = .ok (.getfield 15, 3) := by decide +kernel
theorem dX8_firstWish_21 : decode cX8_firstWish 21 = .ok (.getfield 47, 3) := by decide +kernel
theorem dX8_firstWish_24 : decode cX8_firstWish 24 = .ok (.if_icmp .ge 106, 3) := by decide +kernel
theorem dX8_firstWish_27 : decode cX8_firstWish 27 = .ok (.aload_n 0, 1) := by decide +kernel
theorem dX8_firstWish_28 : decode cX8_firstWish 28 = .ok (.getfield 27, 3) := by decide +kernel
theorem dX8_firstWish_31 : decode cX8_firstWish 31 = .ok (.iload_n 1, 1) := by decide +kernel
theorem dX8_firstWish_32 : decode cX8_firstWish 32 = .ok (.iconst 1, 1) := by decide +kernel
theorem dX8_firstWish_33 : decode cX8_firstWish 33 = .ok (.iload 4, 2) := by decide +kernel
theorem dX8_firstWish_35 : decode cX8_firstWish 35 = .ok (.ishl, 1) := by decide +kernel
theorem dX8_firstWish_36 : decode cX8_firstWish 36 = .ok (.iconst (-1), 1) := by decide +kernel
theorem dX8_firstWish_37 : decode cX8_firstWish 37 = .ok (.iconst (-1), 1) := by decide +kernel
theorem dX8_firstWish_38 : decode cX8_firstWish 38 = .ok (.invokevirtual 65, 3) := by decide +kernel
theorem dX8_firstWish_41 : decode cX8_firstWish 41 = .ok (.lload_n 2, 1) := by decide +kernel
theorem dX8_firstWish_42 : decode cX8_firstWish 42 = .ok (.lcmp, 1) := by decide +kernel
theorem dX8_firstWish_43 : decode cX8_firstWish 43 = .ok (.ifCond .le 9, 3) := by decide +kernel
theorem dX8_firstWish_46 : decode cX8_firstWish 46 = .ok (.bipush 10, 2) := by decide +kernel
theorem dX8_firstWish_48 : decode cX8_firstWish 48 = .ok (.iload 4, 2) := by decide +kernel
theorem dX8_firstWish_50 : decode cX8_firstWish 50 = .ok (.imul, 1) := by decide +kernel
theorem dX8_firstWish_51 : decode cX8_firstWish 51 = .ok (.ireturn, 1) := by decide +kernel
theorem dX8_firstWish_52 : decode cX8_firstWish 52 = .ok (.iconst 0, 1) := by decide +kernel
theorem dX8_firstWish_53 : decode cX8_firstWish 53 = .ok (.istore 5, 2) := by decide +kernel
theorem dX8_firstWish_55 : decode cX8_firstWish 55 = .ok (.iload 5, 2) := by decide +kernel
theorem dX8_firstWish_57 : decode cX8_firstWish 57 = .ok (.aload_n 0, 1) := by decide +kernel
theorem dX8_firstWish_58 : decode cX8_firstWish 58 = .ok (.getfield 15, 3) := by decide +kernel
theorem dX8_firstWish_61 : decode cX8_firstWish 61 = .ok (.getfield 47, 3) := by decide +kernel
theorem dX8_firstWish_64 : decode cX8_firstWish 64 = .ok (.if_icmp .ge 60, 3) := by decide +kernel
theorem dX8_firstWish_67 : decode cX8_firstWish 67 = .ok (.iload 5, 2) := by decide +kernel
theorem dX8_firstWish_69 : decode cX8_firstWish 69 = .ok (.iload 4, 2) := by decide +kernel
theorem dX8_firstWish_71 : decode cX8_firstWish 71 = .ok (.if_icmp .eq 47, 3) := by decide +kernel
theorem dX8_firstWish_74 : decode cX8_firstWish 74 = .ok (.aload_n 0, 1) := by decide +kernel
theorem dX8_firstWish_75 : decode cX8_firstWish 75 = .ok (.getfield 19, 3) := by decide +kernel
theorem dX8_firstWish_78 : decode cX8_firstWish 78 = .ok (.iload 4, 2) := by decide +kernel
theorem dX8_firstWish_80 : decode cX8_firstWish 80 = .ok (.iload 5, 2) := by decide +kernel
theorem dX8_firstWish_82 : decode cX8_firstWish 82 = .ok (.iload_n 1, 1) := by decide +kernel
theorem dX8_firstWish_83 : decode cX8_firstWish 83 = .ok (.invokevirtual 59, 3) := by decide +kernel
theorem dX8_firstWish_86 : decode cX8_firstWish 86 = .ok (.ifCond .ne 32, 3) := by decide +kernel
theorem dX8_firstWish_89 : decode cX8_firstWish 89 = .ok (.aload_n 0, 1) := by decide +kernel
theorem dX8_firstWish_90 : decode cX8_firstWish 90 = .ok (.getfield 27, 3) := by decide +kernel
theorem dX8_firstWish_93 : decode cX8_firstWish 93 = .ok (.iload_n 1, 1) := by decide +kernel
theorem dX8_firstWish_94 : decode cX8_firstWish 94 = .ok (.iconst 0, 1) := by decide +kernel
theorem dX8_firstWish_95 : decode cX8_firstWish 95 = .ok (.iload 4, 2) := by decide +kernel
theorem dX8_firstWish_97 : decode cX8_firstWish 97 = .ok (.iload 5, 2) := by decide +kernel
theorem dX8_firstWish_99 : decode cX8_firstWish 99 = .ok (.invokevirtual 65, 3) := by decide +kernel
theorem dX8_firstWish_102 : decode cX8_firstWish 102 = .ok (.lload_n 2, 1) := by decide +kernel
theorem dX8_firstWish_103 : decode cX8_firstWish 103 = .ok (.lcmp, 1) := by decide +kernel
theorem dX8_firstWish_104 : decode cX8_firstWish 104 = .ok (.ifCond .le 14, 3) := by decide +kernel
theorem dX8_firstWish_107 : decode cX8_firstWish 107 = .ok (.bipush 10, 2) := by decide +kernel
theorem dX8_firstWish_109 : decode cX8_firstWish 109 = .ok (.iload 4, 2) := by decide +kernel
theorem dX8_firstWish_111 : decode cX8_firstWish 111 = .ok (.imul, 1) := by decide +kernel
theorem dX8_firstWish_112 : decode cX8_firstWish 112 = .ok (.iload 5, 2) := by decide +kernel
theorem dX8_firstWish_114 : decode cX8_firstWish 114 = .ok (.iadd, 1) := by decide +kernel
theorem dX8_firstWish_115 : decode cX8_firstWish 115 = .ok (.iconst 1, 1) := by decide +kernel
theorem dX8_firstWish_116 : decode cX8_firstWish 116 = .ok (.iadd, 1) := by decide +kernel
theorem dX8_firstWish_117 : decode cX8_firstWish 117 = .ok (.ireturn, 1) := by decide +kernel
theorem dX8_firstWish_118 : decode cX8_firstWish 118 = .ok (.iinc 5 1, 3) := by decide +kernel
theorem dX8_firstWish_121 : decode cX8_firstWish 121 = .ok (.goto (-66), 3) := by decide +kernel
theorem dX8_firstWish_124 : decode cX8_firstWish 124 = .ok (.iinc 4 1, 3) := by decide +kernel
theorem dX8_firstWish_127 : decode cX8_firstWish 127 = .ok (.goto (-112), 3) := by decide +kernel
theorem dX8_firstWish_130 : decode cX8_firstWish 130 = .ok (.bipush (-5), 2) := by decide +kernel
theorem dX8_firstWish_132 : decode cX8_firstWish 132 = .ok (.ireturn, 1) := by decide +kernel
theorem dX8_bestMending_0 : decode cX8_bestMending 0 = .ok (.bipush (-5), 2) := by decide +kernel
theorem dX8_bestMending_2 : decode cX8_bestMending 2 = .ok (.istore 4, 2) := by decide +kernel
theorem dX8_bestMending_4 : decode cX8_bestMending 4 = .ok (.iconst 0, 1) := by decide +kernel
theorem dX8_bestMending_5 : decode cX8_bestMending 5 = .ok (.istore 5, 2) := by decide +kernel
theorem dX8_bestMending_7 : decode cX8_bestMending 7 = .ok (.ldc2_w 69, 3) := by decide +kernel
theorem dX8_bestMending_10 : decode cX8_bestMending 10 = .ok (.lstore 6, 2) := by decide +kernel
theorem dX8_bestMending_12 : decode cX8_bestMending 12 = .ok (.aload_n 0, 1) := by decide +kernel
theorem dX8_bestMending_13 : decode cX8_bestMending 13 = .ok (.iload_n 1, 1) := by decide +kernel
theorem dX8_bestMending_14 : decode cX8_bestMending 14 = .ok (.invokevirtual 71, 3) := by decide +kernel
theorem dX8_bestMending_17 : decode cX8_bestMending 17 = .ok (.istore 8, 2) := by decide +kernel
theorem dX8_bestMending_19 : decode cX8_bestMending 19 = .ok (.iconst 0, 1) := by decide +kernel
theorem dX8_bestMending_20 : decode cX8_bestMending 20 = .ok (.istore 9, 2) := by decide +kernel
theorem dX8_bestMending_22 : decode cX8_bestMending 22 = .ok (.iload 9, 2) := by decide +kernel
theorem dX8_bestMending_24 : decode cX8_bestMending 24 = .ok (.iload 8, 2) := by decide +kernel
theorem dX8_bestMending_26 : decode cX8_bestMending 26 = .ok (.if_icmp .gt 123, 3) := by decide +kernel
theorem dX8_bestMending_29 : decode cX8_bestMending 29 = .ok (.iload 9, 2) := by decide +kernel
theorem dX8_bestMending_31 : decode cX8_bestMending 31 = .ok (.invokestatic 75, 3) := by decide +kernel
theorem dX8_bestMending_34 : decode cX8_bestMending 34 = .ok (.istore 10, 2) := by decide +kernel
theorem dX8_bestMending_36 : decode cX8_bestMending 36 = .ok (.iload 9, 2) := by decide +kernel
theorem dX8_bestMending_38 : decode cX8_bestMending 38 = .ok (.iload 8, 2) := by decide +kernel
theorem dX8_bestMending_40 : decode cX8_bestMending 40 = .ok (.iconst (-1), 1) := by decide +kernel
theorem dX8_bestMending_41 : decode cX8_bestMending 41 = .ok (.ixor, 1) := by decide +kernel
theorem dX8_bestMending_42 : decode cX8_bestMending 42 = .ok (.iand, 1) := by decide +kernel
theorem dX8_bestMending_43 : decode cX8_bestMending 43 = .ok (.ifCond .ne 100, 3) := by decide +kernel
theorem dX8_bestMending_46 : decode cX8_bestMending 46 = .ok (.iload 10, 2) := by decide +kernel
theorem dX8_bestMending_48 : decode cX8_bestMending 48 = .ok (.iload_n 3, 1) := by decide +kernel
theorem dX8_bestMending_49 : decode cX8_bestMending 49 = .ok (.if_icmp .le 6, 3) := by decide +kernel
theorem dX8_bestMending_52 : decode cX8_bestMending 52 = .ok (.goto 91, 3) := by decide +kernel
theorem dX8_bestMending_55 : decode cX8_bestMending 55 = .ok (.aload_n 0, 1) := by decide +kernel
theorem dX8_bestMending_56 : decode cX8_bestMending 56 = .ok (.getfield 27, 3) := by decide +kernel
theorem dX8_bestMending_59 : decode cX8_bestMending 59 = .ok (.iload_n 1, 1) := by decide +kernel
theorem dX8_bestMending_60 : decode cX8_bestMending 60 = .ok (.aload_n 0, 1) := by decide +kernel
theorem dX8_bestMending_61 : decode cX8_bestMending 61 = .ok (.getfield 15, 3) := by decide +kernel
theorem dX8_bestMending_64 : decode cX8_bestMending 64 = .ok (.getfield 31, 3) := by decide +kernel
theorem dX8_bestMending_67 : decode cX8_bestMending 67 = .ok (.iload 9, 2) := by decide +kernel
theorem dX8_bestMending_69 : decode cX8_bestMending 69 = .ok (.iconst (-1), 1) := by decide +kernel
theorem dX8_bestMending_70 : decode cX8_bestMending 70 = .ok (.iconst (-1), 1) := by decide +kernel
theorem dX8_bestMending_71 : decode cX8_bestMending 71 = .ok (.invokevirtual 37, 3) := by decide +kernel
theorem dX8_bestMending_74 : decode cX8_bestMending 74 = .ok (.aload_n 0, 1) := by decide +kernel
theorem dX8_bestMending_75 : decode cX8_bestMending 75 = .ok (.getfield 27, 3) := by decide +kernel
theorem dX8_bestMending_78 : decode cX8_bestMending 78 = .ok (.invokevirtual 80, 3) := by decide +kernel
theorem dX8_bestMending_81 : decode cX8_bestMending 81 = .ok (.iload_n 2, 1) := by decide +kernel
theorem dX8_bestMending_82 : decode cX8_bestMending 82 = .ok (.i2l, 1) := by decide +kernel
theorem dX8_bestMending_83 : decode cX8_bestMending 83 = .ok (.aload_n 0, 1) := by decide +kernel
theorem dX8_bestMending_84 : decode cX8_bestMending 84 = .ok (.getfield 27, 3) := by decide +kernel
theorem dX8_bestMending_87 : decode cX8_bestMending 87 = .ok (.getfield 43, 3) := by decide +kernel
theorem dX8_bestMending_90 : decode cX8_bestMending 90 = .ok (.lmul, 1) := by decide +kernel
theorem dX8_bestMending_91 : decode cX8_bestMending 91 = .ok (.lcmp, 1) := by decide +kernel
theorem dX8_bestMending_92 : decode cX8_bestMending 92 = .ok (.ifCond .le 6, 3) := by decide +kernel
theorem dX8_bestMending_95 : decode cX8_bestMending 95 = .ok (.goto 48, 3) := by decide +kernel
theorem dX8_bestMending_98 : decode cX8_bestMending 98 = .ok (.aload_n 0, 1) := by decide +kernel
theorem dX8_bestMending_99 : decode cX8_bestMending 99 = .ok (.getfield 27, 3) := by decide +kernel
theorem dX8_bestMending_102 : decode cX8_bestMending 102 = .ok (.iload_n 1, 1) := by decide +kernel
theorem dX8_bestMending_103 : decode cX8_bestMending 103 = .ok (.invokevirtual 84, 3) := by decide +kernel
theorem dX8_bestMending_106 : decode cX8_bestMending 106 = .ok (.lstore 11, 2) := by decide +kernel
theorem dX8_bestMending_108 : decode cX8_bestMending 108 = .ok (.lload 11, 2) := by decide +kernel
theorem dX8_bestMending_110 : decode cX8_bestMending 110 = .ok (.lload 6, 2) := by decide +kernel
theorem dX8_bestMending_112 : decode cX8_bestMending 112 = .ok (.lcmp, 1) := by decide +kernel
theorem dX8_bestMending_113 : decode cX8_bestMending 113 = .ok (.ifCond .gt 18, 3) := by decide +kernel
theorem dX8_bestMending_116 : decode cX8_bestMending 116 = .ok (.lload 11, 2) := by decide +kernel
theorem dX8_bestMending_118 : decode cX8_bestMending 118 = .ok (.lload 6, 2) := by decide +kernel
theorem dX8_bestMending_120 : decode cX8_bestMending 120 = .ok (.lcmp, 1) := by decide +kernel
theorem dX8_bestMending_121 : decode cX8_bestMending 121 = .ok (.ifCond .ne 22, 3) := by decide +kernel
theorem dX8_bestMending_124 : decode cX8_bestMending 124 = .ok (.iload 10, 2) := by decide +kernel
theorem dX8_bestMending_126 : decode cX8_bestMending 126 = .ok (.iload 5, 2) := by decide +kernel
theorem dX8_bestMending_128 : decode cX8_bestMending 128 = .ok (.if_icmp .ge 15, 3) := by decide +kernel
theorem dX8_bestMending_131 : decode cX8_bestMending 131 = .ok (.iload 9, 2) := by decide +kernel
theorem dX8_bestMending_133 : decode cX8_bestMending 133 = .ok (.istore 4, 2) := by decide +kernel
theorem dX8_bestMending_135 : decode cX8_bestMending 135 = .ok (.iload 10, 2) := by decide +kernel
theorem dX8_bestMending_137 : decode cX8_bestMending 137 = .ok (.istore 5, 2) := by decide +kernel
theorem dX8_bestMending_139 : decode cX8_bestMending 139 = .ok (.lload 11, 2) := by decide +kernel
theorem dX8_bestMending_141 : decode cX8_bestMending 141 = .ok (.lstore 6, 2) := by decide +kernel
theorem dX8_bestMending_143 : decode cX8_bestMending 143 = .ok (.iinc 9 1, 3) := by decide +kernel
theorem dX8_bestMending_146 : decode cX8_bestMending 146 = .ok (.goto (-124), 3) := by decide +kernel
theorem dX8_bestMending_149 : decode cX8_bestMending 149 = .ok (.iload 4, 2) := by decide +kernel
theorem dX8_bestMending_151 : decode cX8_bestMending 151 = .ok (.ireturn, 1) := by decide +kernel
theorem dX8_decidedAt_0 : decode cX8_decidedAt 0 = .ok (.aload_n 0, 1) := by decide +kernel
theorem dX8_decidedAt_1 : decode cX8_decidedAt 1 = .ok (.getfield 23, 3) := by decide +kernel
theorem dX8_decidedAt_4 : decode cX8_decidedAt 4 = .ok (.iload_n 1, 1) := by decide +kernel
theorem dX8_decidedAt_5 : decode cX8_decidedAt 5 = .ok (.iload_n 2, 1) := by decide +kernel
theorem dX8_decidedAt_6 : decode cX8_decidedAt 6 = .ok (.iconst 0, 1) := by decide +kernel
theorem dX8_decidedAt_7 : decode cX8_decidedAt 7 = .ok (.iconst (-1), 1) := by decide +kernel
theorem dX8_decidedAt_8 : decode cX8_decidedAt 8 = .ok (.iconst (-1), 1) := by decide +kernel
theorem dX8_decidedAt_9 : decode cX8_decidedAt 9 = .ok (.invokevirtual 102, 3) := by decide +kernel
theorem dX8_decidedAt_12 : decode cX8_decidedAt 12 = .ok (.aload_n 0, 1) := by decide +kernel
theorem dX8_decidedAt_13 : decode cX8_decidedAt 13 = .ok (.getfield 27, 3) := by decide +kernel
theorem dX8_decidedAt_16 : decode cX8_decidedAt 16 = .ok (.invokevirtual 105, 3) := by decide +kernel
theorem dX8_decidedAt_19 : decode cX8_decidedAt 19 = .ok (.aload_n 0, 1) := by decide +kernel
theorem dX8_decidedAt_20 : decode cX8_decidedAt 20 = .ok (.getfield 27, 3) := by decide +kernel
theorem dX8_decidedAt_23 : decode cX8_decidedAt 23 = .ok (.aload_n 0, 1) := by decide +kernel
theorem dX8_decidedAt_24 : decode cX8_decidedAt 24 = .ok (.getfield 27, 3) := by decide +kernel
theorem dX8_decidedAt_27 : decode cX8_decidedAt 27 = .ok (.aload_n 0, 1) := by decide +kernel
theorem dX8_decidedAt_28 : decode cX8_decidedAt 28 = .ok (.getfield 15, 3) := by decide +kernel
theorem dX8_decidedAt_31 : decode cX8_decidedAt 31 = .ok (.getfield 108, 3) := by decide +kernel
theorem dX8_decidedAt_34 : decode cX8_decidedAt 34 = .ok (.iload_n 1, 1) := by decide +kernel
theorem dX8_decidedAt_35 : decode cX8_decidedAt 35 = .ok (.iaload, 1) := by decide +kernel
theorem dX8_decidedAt_36 : decode cX8_decidedAt 36 = .ok (.invokevirtual 111, 3) := by decide +kernel
theorem dX8_decidedAt_39 : decode cX8_decidedAt 39 = .ok (.invokevirtual 114, 3) := by decide +kernel
theorem dX8_decidedAt_42 : decode cX8_decidedAt 42 = .ok (.ireturn, 1) := by decide +kernel
theorem dX8_lastOtherwise_0 : decode cX8_lastOtherwise 0 = .ok (.aload_n 0, 1) := by decide +kernel
theorem dX8_lastOtherwise_1 : decode cX8_lastOtherwise 1 = .ok (.iload_n 1, 1) := by decide +kernel
theorem dX8_lastOtherwise_2 : decode cX8_lastOtherwise 2 = .ok (.aload_n 0, 1) := by decide +kernel
theorem dX8_lastOtherwise_3 : decode cX8_lastOtherwise 3 = .ok (.getfield 15, 3) := by decide +kernel
theorem dX8_lastOtherwise_6 : decode cX8_lastOtherwise 6 = .ok (.getfield 31, 3) := by decide +kernel
theorem dX8_lastOtherwise_9 : decode cX8_lastOtherwise 9 = .ok (.invokevirtual 96, 3) := by decide +kernel
theorem dX8_lastOtherwise_12 : decode cX8_lastOtherwise 12 = .ok (.istore_n 2, 1) := by decide +kernel
theorem dX8_lastOtherwise_13 : decode cX8_lastOtherwise 13 = .ok (.aload_n 0, 1) := by decide +kernel
theorem dX8_lastOtherwise_14 : decode cX8_lastOtherwise 14 = .ok (.getfield 15, 3) := by decide +kernel
theorem dX8_lastOtherwise_17 : decode cX8_lastOtherwise 17 = .ok (.iload_n 1, 1) := by decide +kernel
theorem dX8_lastOtherwise_18 : decode cX8_lastOtherwise 18 = .ok (.aload_n 0, 1) := by decide +kernel
theorem dX8_lastOtherwise_19 : decode cX8_lastOtherwise 19 = .ok (.getfield 15, 3) := by decide +kernel
theorem dX8_lastOtherwise_22 : decode cX8_lastOtherwise 22 = .ok (.getfield 31, 3) := by decide +kernel
theorem dX8_lastOtherwise_25 : decode cX8_lastOtherwise 25 = .ok (.invokevirtual 99, 3) := by decide +kernel
theorem dX8_lastOtherwise_28 : decode cX8_lastOtherwise 28 = .ok (.istore_n 3, 1) := by decide +kernel
theorem dX8_lastOtherwise_29 : decode cX8_lastOtherwise 29 = .ok (.bipush 99, 2) := by decide +kernel
theorem dX8_lastOtherwise_31 : decode cX8_lastOtherwise 31 = .ok (.istore 4, 2) := by decide +kernel
theorem dX8_lastOtherwise_33 : decode cX8_lastOtherwise 33 = .ok (.iload 4, 2) := by decide +kernel
theorem dX8_lastOtherwise_35 : decode cX8_lastOtherwise 35 = .ok (.aload_n 0, 1) := by decide +kernel
theorem dX8_lastOtherwise_36 : decode cX8_lastOtherwise 36 = .ok (.getfield 15, 3) := by decide +kernel
theorem dX8_lastOtherwise_39 : decode cX8_lastOtherwise 39 = .ok (.getfield 31, 3) := by decide +kernel
theorem dX8_lastOtherwise_42 : decode cX8_lastOtherwise 42 = .ok (.if_icmp .le 47, 3) := by decide +kernel
theorem dX8_lastOtherwise_45 : decode cX8_lastOtherwise 45 = .ok (.aload_n 0, 1) := by decide +kernel
theorem dX8_lastOtherwise_46 : decode cX8_lastOtherwise 46 = .ok (.getfield 15, 3) := by decide +kernel
theorem dX8_lastOtherwise_49 : decode cX8_lastOtherwise 49 = .ok (.iload_n 1, 1) := by decide +kernel
theorem dX8_lastOtherwise_50 : decode cX8_lastOtherwise 50 = .ok (.iload 4, 2) := by decide +kernel
theorem dX8_lastOtherwise_52 : decode cX8_lastOtherwise 52 = .ok (.invokevirtual 99, 3) := by decide +kernel
theorem dX8_lastOtherwise_55 : decode cX8_lastOtherwise 55 = .ok (.istore 5, 2) := by decide +kernel
theorem dX8_lastOtherwise_57 : decode cX8_lastOtherwise 57 = .ok (.iload 5, 2) := by decide +kernel
theorem dX8_lastOtherwise_59 : decode cX8_lastOtherwise 59 = .ok (.iload_n 3, 1) := by decide +kernel
theorem dX8_lastOtherwise_60 : decode cX8_lastOtherwise 60 = .ok (.if_icmp .ne 6, 3) := by decide +kernel
theorem dX8_lastOtherwise_63 : decode cX8_lastOtherwise 63 = .ok (.goto 20, 3) := by decide +kernel
theorem dX8_lastOtherwise_66 : decode cX8_lastOtherwise 66 = .ok (.iload 5, 2) := by decide +kernel
theorem dX8_lastOtherwise_68 : decode cX8_lastOtherwise 68 = .ok (.istore_n 3, 1) := by decide +kernel
theorem dX8_lastOtherwise_69 : decode cX8_lastOtherwise 69 = .ok (.aload_n 0, 1) := by decide +kernel
theorem dX8_lastOtherwise_70 : decode cX8_lastOtherwise 70 = .ok (.iload_n 1, 1) := by decide +kernel
theorem dX8_lastOtherwise_71 : decode cX8_lastOtherwise 71 = .ok (.iload 4, 2) := by decide +kernel
theorem dX8_lastOtherwise_73 : decode cX8_lastOtherwise 73 = .ok (.invokevirtual 96, 3) := by decide +kernel
theorem dX8_lastOtherwise_76 : decode cX8_lastOtherwise 76 = .ok (.iload_n 2, 1) := by decide +kernel
theorem dX8_lastOtherwise_77 : decode cX8_lastOtherwise 77 = .ok (.if_icmp .eq 6, 3) := by decide +kernel
theorem dX8_lastOtherwise_80 : decode cX8_lastOtherwise 80 = .ok (.iload 4, 2) := by decide +kernel
theorem dX8_lastOtherwise_82 : decode cX8_lastOtherwise 82 = .ok (.ireturn, 1) := by decide +kernel
theorem dX8_lastOtherwise_83 : decode cX8_lastOtherwise 83 = .ok (.iinc 4 (-1), 3) := by decide +kernel
theorem dX8_lastOtherwise_86 : decode cX8_lastOtherwise 86 = .ok (.goto (-53), 3) := by decide +kernel
theorem dX8_lastOtherwise_89 : decode cX8_lastOtherwise 89 = .ok (.bipush (-5), 2) := by decide +kernel
theorem dX8_lastOtherwise_91 : decode cX8_lastOtherwise 91 = .ok (.ireturn, 1) := by decide +kernel
theorem dX8_fewestToWin_0 : decode cX8_fewestToWin 0 = .ok (.bipush (-5), 2) := by decide +kernel
theorem dX8_fewestToWin_2 : decode cX8_fewestToWin 2 = .ok (.istore_n 2, 1) := by decide +kernel
theorem dX8_fewestToWin_3 : decode cX8_fewestToWin 3 = .ok (.bipush 9, 2) := by decide +kernel
theorem dX8_fewestToWin_5 : decode cX8_fewestToWin 5 = .ok (.istore_n 3, 1) := by decide +kernel
theorem dX8_fewestToWin_6 : decode cX8_fewestToWin 6 = .ok (.aload_n 0, 1) := by decide +kernel
theorem dX8_fewestToWin_7 : decode cX8_fewestToWin 7 = .ok (.getfield 15, 3) := by decide +kernel
theorem dX8_fewestToWin_10 : decode cX8_fewestToWin 10 = .ok (.getfield 108, 3) := by decide +kernel
theorem dX8_fewestToWin_13 : decode cX8_fewestToWin 13 = .ok (.iload_n 1, 1) := by decide +kernel
theorem dX8_fewestToWin_14 : decode cX8_fewestToWin 14 = .ok (.iaload, 1) := by decide +kernel
theorem dX8_fewestToWin_15 : decode cX8_fewestToWin 15 = .ok (.istore 4, 2) := by decide +kernel
theorem dX8_fewestToWin_17 : decode cX8_fewestToWin 17 = .ok (.iconst 1, 1) := by decide +kernel
theorem dX8_fewestToWin_18 : decode cX8_fewestToWin 18 = .ok (.aload_n 0, 1) := by decide +kernel
theorem dX8_fewestToWin_19 : decode cX8_fewestToWin 19 = .ok (.getfield 15, 3) := by decide +kernel
theorem dX8_fewestToWin_22 : decode cX8_fewestToWin 22 = .ok (.getfield 47, 3) := by decide +kernel
theorem dX8_fewestToWin_25 : decode cX8_fewestToWin 25 = .ok (.ishl, 1) := by decide +kernel
theorem dX8_fewestToWin_26 : decode cX8_fewestToWin 26 = .ok (.iconst 1, 1) := by decide +kernel
theorem dX8_fewestToWin_27 : decode cX8_fewestToWin 27 = .ok (.isub, 1) := by decide +kernel
theorem dX8_fewestToWin_28 : decode cX8_fewestToWin 28 = .ok (.iload 4, 2) := by decide +kernel
theorem dX8_fewestToWin_30 : decode cX8_fewestToWin 30 = .ok (.iconst (-1), 1) := by decide +kernel
theorem dX8_fewestToWin_31 : decode cX8_fewestToWin 31 = .ok (.ixor, 1) := by decide +kernel
theorem dX8_fewestToWin_32 : decode cX8_fewestToWin 32 = .ok (.iand, 1) := by decide +kernel
theorem dX8_fewestToWin_33 : decode cX8_fewestToWin 33 = .ok (.istore 5, 2) := by decide +kernel
theorem dX8_fewestToWin_35 : decode cX8_fewestToWin 35 = .ok (.iconst 0, 1) := by decide +kernel
theorem dX8_fewestToWin_36 : decode cX8_fewestToWin 36 = .ok (.istore 6, 2) := by decide +kernel
theorem dX8_fewestToWin_38 : decode cX8_fewestToWin 38 = .ok (.iload 6, 2) := by decide +kernel
theorem dX8_fewestToWin_40 : decode cX8_fewestToWin 40 = .ok (.iload 5, 2) := by decide +kernel
theorem dX8_fewestToWin_42 : decode cX8_fewestToWin 42 = .ok (.if_icmp .gt 82, 3) := by decide +kernel
theorem dX8_fewestToWin_45 : decode cX8_fewestToWin 45 = .ok (.iload 6, 2) := by decide +kernel
theorem dX8_fewestToWin_47 : decode cX8_fewestToWin 47 = .ok (.invokestatic 75, 3) := by decide +kernel
theorem dX8_fewestToWin_50 : decode cX8_fewestToWin 50 = .ok (.istore 7, 2) := by decide +kernel
theorem dX8_fewestToWin_52 : decode cX8_fewestToWin 52 = .ok (.iload 6, 2) := by decide +kernel
theorem dX8_fewestToWin_54 : decode cX8_fewestToWin 54 = .ok (.iload 5, 2) := by decide +kernel
theorem dX8_fewestToWin_56 : decode cX8_fewestToWin 56 = .ok (.iconst (-1), 1) := by decide +kernel
theorem dX8_fewestToWin_57 : decode cX8_fewestToWin 57 = .ok (.ixor, 1) := by decide +kernel
theorem dX8_fewestToWin_58 : decode cX8_fewestToWin 58 = .ok (.iand, 1) := by decide +kernel
theorem dX8_fewestToWin_59 : decode cX8_fewestToWin 59 = .ok (.ifCond .ne 59, 3) := by decide +kernel
theorem dX8_fewestToWin_62 : decode cX8_fewestToWin 62 = .ok (.iload 7, 2) := by decide +kernel
theorem dX8_fewestToWin_64 : decode cX8_fewestToWin 64 = .ok (.iload_n 3, 1) := by decide +kernel
theorem dX8_fewestToWin_65 : decode cX8_fewestToWin 65 = .ok (.if_icmp .lt 6, 3) := by decide +kernel
theorem dX8_fewestToWin_68 : decode cX8_fewestToWin 68 = .ok (.goto 50, 3) := by decide +kernel
theorem dX8_fewestToWin_71 : decode cX8_fewestToWin 71 = .ok (.aload_n 0, 1) := by decide +kernel
theorem dX8_fewestToWin_72 : decode cX8_fewestToWin 72 = .ok (.getfield 27, 3) := by decide +kernel
theorem dX8_fewestToWin_75 : decode cX8_fewestToWin 75 = .ok (.iload_n 1, 1) := by decide +kernel
theorem dX8_fewestToWin_76 : decode cX8_fewestToWin 76 = .ok (.aload_n 0, 1) := by decide +kernel
theorem dX8_fewestToWin_77 : decode cX8_fewestToWin 77 = .ok (.getfield 15, 3) := by decide +kernel
theorem dX8_fewestToWin_80 : decode cX8_fewestToWin 80 = .ok (.getfield 31, 3) := by decide +kernel
theorem dX8_fewestToWin_83 : decode cX8_fewestToWin 83 = .ok (.iload 6, 2) := by decide +kernel
theorem dX8_fewestToWin_85 : decode cX8_fewestToWin 85 = .ok (.iconst (-1), 1) := by decide +kernel
theorem dX8_fewestToWin_86 : decode cX8_fewestToWin 86 = .ok (.iconst (-1), 1) := by decide +kernel
theorem dX8_fewestToWin_87 : decode cX8_fewestToWin 87 = .ok (.invokevirtual 37, 3) := by decide +kernel
theorem dX8_fewestToWin_90 : decode cX8_fewestToWin 90 = .ok (.aload_n 0, 1) := by decide +kernel
theorem dX8_fewestToWin_91 : decode cX8_fewestToWin 91 = .ok (.getfield 27, 3) := by decide +kernel
theorem dX8_fewestToWin_94 : decode cX8_fewestToWin 94 = .ok (.aload_n 0, 1) := by decide +kernel
theorem dX8_fewestToWin_95 : decode cX8_fewestToWin 95 = .ok (.getfield 27, 3) := by decide +kernel
theorem dX8_fewestToWin_98 : decode cX8_fewestToWin 98 = .ok (.iload 4, 2) := by decide +kernel
theorem dX8_fewestToWin_100 : decode cX8_fewestToWin 100 = .ok (.iload 6, 2) := by decide +kernel
theorem dX8_fewestToWin_102 : decode cX8_fewestToWin 102 = .ok (.ior, 1) := by decide +kernel
theorem dX8_fewestToWin_103 : decode cX8_fewestToWin 103 = .ok (.invokevirtual 111, 3) := by decide +kernel
theorem dX8_fewestToWin_106 : decode cX8_fewestToWin 106 = .ok (.invokevirtual 114, 3) := by decide +kernel
theorem dX8_fewestToWin_109 : decode cX8_fewestToWin 109 = .ok (.ifCond .eq 9, 3) := by decide +kernel
theorem dX8_fewestToWin_112 : decode cX8_fewestToWin 112 = .ok (.iload 6, 2) := by decide +kernel
theorem dX8_fewestToWin_114 : decode cX8_fewestToWin 114 = .ok (.istore_n 2, 1) := by decide +kernel
theorem dX8_fewestToWin_115 : decode cX8_fewestToWin 115 = .ok (.iload 7, 2) := by decide +kernel
theorem dX8_fewestToWin_117 : decode cX8_fewestToWin 117 = .ok (.istore_n 3, 1) := by decide +kernel
theorem dX8_fewestToWin_118 : decode cX8_fewestToWin 118 = .ok (.iinc 6 1, 3) := by decide +kernel
theorem dX8_fewestToWin_121 : decode cX8_fewestToWin 121 = .ok (.goto (-83), 3) := by decide +kernel
theorem dX8_fewestToWin_124 : decode cX8_fewestToWin 124 = .ok (.iload_n 2, 1) := by decide +kernel
theorem dX8_fewestToWin_125 : decode cX8_fewestToWin 125 = .ok (.ireturn, 1) := by decide +kernel
theorem dX0_clear_0 : decode cX0_clear 0 = .ok (.aload_n 0, 1) := by decide +kernel
theorem dX0_clear_1 : decode cX0_clear 1 = .ok (.iconst 0, 1) := by decide +kernel
theorem dX0_clear_2 : decode cX0_clear 2 = .ok (.putfield 15, 3) := by decide +kernel
theorem dX0_clear_5 : decode cX0_clear 5 = .ok (.return_, 1) := by decide +kernel
theorem dX0_kept_0 : decode cX0_kept 0 = .ok (.aload_n 0, 1) := by decide +kernel
theorem dX0_kept_1 : decode cX0_kept 1 = .ok (.getfield 15, 3) := by decide +kernel
theorem dX0_kept_4 : decode cX0_kept 4 = .ok (.bipush 20, 2) := by decide +kernel
theorem dX0_kept_6 : decode cX0_kept 6 = .ok (.invokestatic 19, 3) := by decide +kernel
theorem dX0_kept_9 : decode cX0_kept 9 = .ok (.ireturn, 1) := by decide +kernel
theorem dX0_begin_0 : decode cX0_begin 0 = .ok (.aload_n 0, 1) := by decide +kernel
theorem dX0_begin_1 : decode cX0_begin 1 = .ok (.getfield 15, 3) := by decide +kernel
theorem dX0_begin_4 : decode cX0_begin 4 = .ok (.bipush 20, 2) := by decide +kernel
theorem dX0_begin_6 : decode cX0_begin 6 = .ok (.if_icmp .ge 13, 3) := by decide +kernel
theorem dX0_begin_9 : decode cX0_begin 9 = .ok (.aload_n 0, 1) := by decide +kernel
theorem dX0_begin_10 : decode cX0_begin 10 = .ok (.getfield 11, 3) := by decide +kernel
theorem dX0_begin_13 : decode cX0_begin 13 = .ok (.aload_n 0, 1) := by decide +kernel
theorem dX0_begin_14 : decode cX0_begin 14 = .ok (.getfield 15, 3) := by decide +kernel
theorem dX0_begin_17 : decode cX0_begin 17 = .ok (.iload_n 1, 1) := by decide +kernel
theorem dX0_begin_18 : decode cX0_begin 18 = .ok (.iastore, 1) := by decide +kernel
theorem dX0_begin_19 : decode cX0_begin 19 = .ok (.aload_n 0, 1) := by decide +kernel
theorem dX0_begin_20 : decode cX0_begin 20 = .ok (.dup, 1) := by decide +kernel
theorem dX0_begin_21 : decode cX0_begin 21 = .ok (.getfield 15, 3) := by decide +kernel
theorem dX0_begin_24 : decode cX0_begin 24 = .ok (.iconst 1, 1) := by decide +kernel
theorem dX0_begin_25 : decode cX0_begin 25 = .ok (.iadd, 1) := by decide +kernel
theorem dX0_begin_26 : decode cX0_begin 26 = .ok (.putfield 15, 3) := by decide +kernel
theorem dX0_begin_29 : decode cX0_begin 29 = .ok (.return_, 1) := by decide +kernel
theorem dX0_gives_0 : decode cX0_gives 0 = .ok (.iload_n 1, 1) := by decide +kernel
theorem dX0_gives_1 : decode cX0_gives 1 = .ok (.istore_n 2, 1) := by decide +kernel
theorem dX0_gives_2 : decode cX0_gives 2 = .ok (.aload_n 0, 1) := by decide +kernel
theorem dX0_gives_3 : decode cX0_gives 3 = .ok (.getfield 25, 3) := by decide +kernel
theorem dX0_gives_6 : decode cX0_gives 6 = .ok (.iconst 4, 1) := by decide +kernel
theorem dX0_gives_7 : decode cX0_gives 7 = .ok (.if_icmp .ne 9, 3) := by decide +kernel
theorem dX0_gives_10 : decode cX0_gives 10 = .ok (.aload_n 0, 1) := by decide +kernel
theorem dX0_gives_11 : decode cX0_gives 11 = .ok (.bipush 51, 2) := by decide +kernel
theorem dX0_gives_13 : decode cX0_gives 13 = .ok (.invokevirtual 44, 3) := by decide +kernel
theorem dX0_gives_16 : decode cX0_gives 16 = .ok (.aload_n 0, 1) := by decide +kernel
theorem dX0_gives_17 : decode cX0_gives 17 = .ok (.getfield 25, 3) := by decide +kernel
theorem dX0_gives_20 : decode cX0_gives 20 = .ok (.iconst 2, 1) := by decide +kernel
theorem dX0_gives_21 : decode cX0_gives 21 = .ok (.if_icmp .lt 13, 3) := by decide +kernel
theorem dX0_gives_24 : decode cX0_gives 24 = .ok (.aload_n 0, 1) := by decide +kernel
theorem dX0_gives_25 : decode cX0_gives 25 = .ok (.bipush 30, 2) := by decide +kernel
theorem dX0_gives_27 : decode cX0_gives 27 = .ok (.invokevirtual 44, 3) := by decide +kernel
theorem dX0_gives_30 : decode cX0_gives 30 = .ok (.iload_n 1, 1) := by decide +kernel
theorem dX0_gives_31 : decode cX0_gives 31 = .ok (.iconst 2, 1) := by decide +kernel
theorem dX0_gives_32 : decode cX0_gives 32 = .ok (.imul, 1) := by decide +kernel
theorem dX0_gives_33 : decode cX0_gives 33 = .ok (.istore_n 2, 1) := by decide +kernel
theorem dX0_gives_34 : decode cX0_gives 34 = .ok (.aload_n 0, 1) := by decide +kernel
theorem dX0_gives_35 : decode cX0_gives 35 = .ok (.bipush 10, 2) := by decide +kernel
theorem dX0_gives_37 : decode cX0_gives 37 = .ok (.invokevirtual 44, 3) := by decide +kernel
theorem dX0_gives_40 : decode cX0_gives 40 = .ok (.iload_n 2, 1) := by decide +kernel
theorem dX0_gives_41 : decode cX0_gives 41 = .ok (.aload_n 0, 1) := by decide +kernel
theorem dX0_gives_42 : decode cX0_gives 42 = .ok (.getfield 28, 3) := by decide +kernel
theorem dX0_gives_45 : decode cX0_gives 45 = .ok (.iadd, 1) := by decide +kernel
theorem dX0_gives_46 : decode cX0_gives 46 = .ok (.istore_n 3, 1) := by decide +kernel
theorem dX0_gives_47 : decode cX0_gives 47 = .ok (.aload_n 0, 1) := by decide +kernel
theorem dX0_gives_48 : decode cX0_gives 48 = .ok (.getfield 25, 3) := by decide +kernel
theorem dX0_gives_51 : decode cX0_gives 51 = .ok (.iconst 4, 1) := by decide +kernel
theorem dX0_gives_52 : decode cX0_gives 52 = .ok (.if_icmp .ne 12, 3) := by decide +kernel
theorem dX0_gives_55 : decode cX0_gives 55 = .ok (.iload_n 3, 1) := by decide +kernel
theorem dX0_gives_56 : decode cX0_gives 56 = .ok (.aload_n 0, 1) := by decide +kernel
theorem dX0_gives_57 : decode cX0_gives 57 = .ok (.getfield 31, 3) := by decide +kernel
theorem dX0_gives_60 : decode cX0_gives 60 = .ok (.ixor, 1) := by decide +kernel
theorem dX0_gives_61 : decode cX0_gives 61 = .ok (.goto 4, 3) := by decide +kernel
theorem dX0_gives_64 : decode cX0_gives 64 = .ok (.iload_n 3, 1) := by decide +kernel
theorem dX0_gives_65 : decode cX0_gives 65 = .ok (.ireturn, 1) := by decide +kernel
theorem dX0_holds_0 : decode cX0_holds 0 = .ok (.aload_n 0, 1) := by decide +kernel
theorem dX0_holds_1 : decode cX0_holds 1 = .ok (.getfield 25, 3) := by decide +kernel
theorem dX0_holds_4 : decode cX0_holds 4 = .ok (.iconst 3, 1) := by decide +kernel
theorem dX0_holds_5 : decode cX0_holds 5 = .ok (.if_icmp .ne 9, 3) := by decide +kernel
theorem dX0_holds_8 : decode cX0_holds 8 = .ok (.aload_n 0, 1) := by decide +kernel
theorem dX0_holds_9 : decode cX0_holds 9 = .ok (.bipush 40, 2) := by decide +kernel
theorem dX0_holds_11 : decode cX0_holds 11 = .ok (.invokevirtual 44, 3) := by decide +kernel
theorem dX0_holds_14 : decode cX0_holds 14 = .ok (.aload_n 0, 1) := by decide +kernel
theorem dX0_holds_15 : decode cX0_holds 15 = .ok (.getfield 25, 3) := by decide +kernel
theorem dX0_holds_18 : decode cX0_holds 18 = .ok (.iconst 2, 1) := by decide +kernel
theorem dX0_holds_19 : decode cX0_holds 19 = .ok (.if_icmp .lt 9, 3) := by decide +kernel
theorem dX0_holds_22 : decode cX0_holds 22 = .ok (.aload_n 0, 1) := by decide +kernel
theorem dX0_holds_23 : decode cX0_holds 23 = .ok (.bipush 31, 2) := by decide +kernel
theorem dX0_holds_25 : decode cX0_holds 25 = .ok (.invokevirtual 44, 3) := by decide +kernel
theorem dX0_holds_28 : decode cX0_holds 28 = .ok (.aload_n 0, 1) := by decide +kernel
theorem dX0_holds_29 : decode cX0_holds 29 = .ok (.bipush 11, 2) := by decide +kernel
theorem dX0_holds_31 : decode cX0_holds 31 = .ok (.invokevirtual 44, 3) := by decide +kernel
theorem dX0_holds_34 : decode cX0_holds 34 = .ok (.aload_n 0, 1) := by decide +kernel
theorem dX0_holds_35 : decode cX0_holds 35 = .ok (.iload_n 1, 1) := by decide +kernel
theorem dX0_holds_36 : decode cX0_holds 36 = .ok (.invokevirtual 34, 3) := by decide +kernel
theorem dX0_holds_39 : decode cX0_holds 39 = .ok (.aload_n 0, 1) := by decide +kernel
theorem dX0_holds_40 : decode cX0_holds 40 = .ok (.getfield 31, 3) := by decide +kernel
theorem dX0_holds_43 : decode cX0_holds 43 = .ok (.isub, 1) := by decide +kernel
theorem dX0_holds_44 : decode cX0_holds 44 = .ok (.istore_n 2, 1) := by decide +kernel
theorem dX0_holds_45 : decode cX0_holds 45 = .ok (.aload_n 0, 1) := by decide +kernel
theorem dX0_holds_46 : decode cX0_holds 46 = .ok (.getfield 25, 3) := by decide +kernel
theorem dX0_holds_49 : decode cX0_holds 49 = .ok (.iconst 2, 1) := by decide +kernel
theorem dX0_holds_50 : decode cX0_holds 50 = .ok (.if_icmp .lt 6, 3) := by decide +kernel
theorem dX0_holds_53 : decode cX0_holds 53 = .ok (.iload_n 2, 1) := by decide +kernel
theorem dX0_holds_54 : decode cX0_holds 54 = .ok (.ineg, 1) := by decide +kernel
theorem dX0_holds_55 : decode cX0_holds 55 = .ok (.istore_n 2, 1) := by decide +kernel
theorem dX0_holds_56 : decode cX0_holds 56 = .ok (.aload_n 0, 1) := by decide +kernel
theorem dX0_holds_57 : decode cX0_holds 57 = .ok (.getfield 25, 3) := by decide +kernel
theorem dX0_holds_60 : decode cX0_holds 60 = .ok (.iconst 3, 1) := by decide +kernel
theorem dX0_holds_61 : decode cX0_holds 61 = .ok (.if_icmp .ne 13, 3) := by decide +kernel
theorem dX0_holds_64 : decode cX0_holds 64 = .ok (.iload_n 2, 1) := by decide +kernel
theorem dX0_holds_65 : decode cX0_holds 65 = .ok (.aload_n 0, 1) := by decide +kernel
theorem dX0_holds_66 : decode cX0_holds 66 = .ok (.iconst 1, 1) := by decide +kernel
theorem dX0_holds_67 : decode cX0_holds 67 = .ok (.invokevirtual 34, 3) := by decide +kernel
theorem dX0_holds_70 : decode cX0_holds 70 = .ok (.iadd, 1) := by decide +kernel
theorem dX0_holds_71 : decode cX0_holds 71 = .ok (.goto 4, 3) := by decide +kernel
theorem dX0_holds_74 : decode cX0_holds 74 = .ok (.iload_n 2, 1) := by decide +kernel
theorem dX0_holds_75 : decode cX0_holds 75 = .ok (.ireturn, 1) := by decide +kernel
theorem dX0_tellsAsHand_0 : decode cX0_tellsAsHand 0 = .ok (.aload_n 0, 1) := by decide +kernel
theorem dX0_tellsAsHand_1 : decode cX0_tellsAsHand 1 = .ok (.bipush 12, 2) := by decide +kernel
theorem dX0_tellsAsHand_3 : decode cX0_tellsAsHand 3 = .ok (.invokevirtual 44, 3) := by decide +kernel
theorem dX0_tellsAsHand_6 : decode cX0_tellsAsHand 6 = .ok (.aload_n 0, 1) := by decide +kernel
theorem dX0_tellsAsHand_7 : decode cX0_tellsAsHand 7 = .ok (.iload_n 1, 1) := by decide +kernel
theorem dX0_tellsAsHand_8 : decode cX0_tellsAsHand 8 = .ok (.invokevirtual 38, 3) := by decide +kernel
theorem dX0_tellsAsHand_11 : decode cX0_tellsAsHand 11 = .ok (.iconst 2, 1) := by decide +kernel
theorem dX0_tellsAsHand_12 : decode cX0_tellsAsHand 12 = .ok (.imul, 1) := by decide +kernel
theorem dX0_tellsAsHand_13 : decode cX0_tellsAsHand 13 = .ok (.ireturn, 1) := by decide +kernel
theorem dX0_tells_0 : decode cX0_tells 0 = .ok (.aload_n 0, 1) := by decide +kernel
theorem dX0_tells_1 : decode cX0_tells 1 = .ok (.getfield 25, 3) := by decide +kernel
theorem dX0_tells_4 : decode cX0_tells 4 = .ok (.tableswitch 88 1 5 #[73, 88, 88, 56, 36], 36) := by decide +kernel
theorem dX0_tells_40 : decode cX0_tells 40 = .ok (.aload_n 0, 1) := by decide +kernel
theorem dX0_tells_41 : decode cX0_tells 41 = .ok (.bipush 60, 2) := by decide +kernel
theorem dX0_tells_43 : decode cX0_tells 43 = .ok (.invokevirtual 44, 3) := by decide +kernel
theorem dX0_tells_46 : decode cX0_tells 46 = .ok (.aload_n 0, 1) := by decide +kernel
theorem dX0_tells_47 : decode cX0_tells 47 = .ok (.iload_n 1, 1) := by decide +kernel
theorem dX0_tells_48 : decode cX0_tells 48 = .ok (.invokevirtual 38, 3) := by decide +kernel
theorem dX0_tells_51 : decode cX0_tells 51 = .ok (.istore_n 2, 1) := by decide +kernel
theorem dX0_tells_52 : decode cX0_tells 52 = .ok (.iload_n 2, 1) := by decide +kernel
theorem dX0_tells_53 : decode cX0_tells 53 = .ok (.aload_n 0, 1) := by decide +kernel
theorem dX0_tells_54 : decode cX0_tells 54 = .ok (.iload_n 1, 1) := by decide +kernel
theorem dX0_tells_55 : decode cX0_tells 55 = .ok (.invokevirtual 48, 3) := by decide +kernel
theorem dX0_tells_58 : decode cX0_tells 58 = .ok (.isub, 1) := by decide +kernel
theorem dX0_tells_59 : decode cX0_tells 59 = .ok (.ireturn, 1) := by decide +kernel
theorem dX0_tells_60 : decode cX0_tells 60 = .ok (.aload_n 0, 1) := by decide +kernel
theorem dX0_tells_61 : decode cX0_tells 61 = .ok (.bipush 50, 2) := by decide +kernel
theorem dX0_tells_63 : decode cX0_tells 63 = .ok (.invokevirtual 44, 3) := by decide +kernel
theorem dX0_tells_66 : decode cX0_tells 66 = .ok (.aload_n 0, 1) := by decide +kernel
theorem dX0_tells_67 : decode cX0_tells 67 = .ok (.iload_n 1, 1) := by decide +kernel
theorem dX0_tells_68 : decode cX0_tells 68 = .ok (.aload_n 0, 1) := by decide +kernel
theorem dX0_tells_69 : decode cX0_tells 69 = .ok (.getfield 28, 3) := by decide +kernel
theorem dX0_tells_72 : decode cX0_tells 72 = .ok (.isub, 1) := by decide +kernel
theorem dX0_tells_73 : decode cX0_tells 73 = .ok (.invokevirtual 48, 3) := by decide +kernel
theorem dX0_tells_76 : decode cX0_tells 76 = .ok (.ireturn, 1) := by decide +kernel
theorem dX0_tells_77 : decode cX0_tells 77 = .ok (.aload_n 0, 1) := by decide +kernel
theorem dX0_tells_78 : decode cX0_tells 78 = .ok (.bipush 20, 2) := by decide +kernel
theorem dX0_tells_80 : decode cX0_tells 80 = .ok (.invokevirtual 44, 3) := by decide +kernel
theorem dX0_tells_83 : decode cX0_tells 83 = .ok (.aload_n 0, 1) := by decide +kernel
theorem dX0_tells_84 : decode cX0_tells 84 = .ok (.iload_n 1, 1) := by decide +kernel
theorem dX0_tells_85 : decode cX0_tells 85 = .ok (.invokevirtual 48, 3) := by decide +kernel
theorem dX0_tells_88 : decode cX0_tells 88 = .ok (.bipush 7, 2) := by decide +kernel
theorem dX0_tells_90 : decode cX0_tells 90 = .ok (.ixor, 1) := by decide +kernel
theorem dX0_tells_91 : decode cX0_tells 91 = .ok (.ireturn, 1) := by decide +kernel
theorem dX0_tells_92 : decode cX0_tells 92 = .ok (.aload_n 0, 1) := by decide +kernel
theorem dX0_tells_93 : decode cX0_tells 93 = .ok (.iload_n 1, 1) := by decide +kernel
theorem dX0_tells_94 : decode cX0_tells 94 = .ok (.invokevirtual 48, 3) := by decide +kernel
theorem dX0_tells_97 : decode cX0_tells 97 = .ok (.ireturn, 1) := by decide +kernel
theorem dX0_run_0 : decode cX0_run 0 = .ok (.aload_n 0, 1) := by decide +kernel
theorem dX0_run_1 : decode cX0_run 1 = .ok (.iload_n 1, 1) := by decide +kernel
theorem dX0_run_2 : decode cX0_run 2 = .ok (.putfield 25, 3) := by decide +kernel
theorem dX0_run_5 : decode cX0_run 5 = .ok (.aload_n 0, 1) := by decide +kernel
theorem dX0_run_6 : decode cX0_run 6 = .ok (.iload_n 2, 1) := by decide +kernel
theorem dX0_run_7 : decode cX0_run 7 = .ok (.putfield 28, 3) := by decide +kernel
theorem dX0_run_10 : decode cX0_run 10 = .ok (.aload_n 0, 1) := by decide +kernel
theorem dX0_run_11 : decode cX0_run 11 = .ok (.iload_n 3, 1) := by decide +kernel
theorem dX0_run_12 : decode cX0_run 12 = .ok (.putfield 31, 3) := by decide +kernel
theorem dX0_run_15 : decode cX0_run 15 = .ok (.iload 4, 2) := by decide +kernel
theorem dX0_run_17 : decode cX0_run 17 = .ok (.lookupswitch 41 #[(0, 27), (1, 34)], 27) := by decide +kernel
theorem dX0_run_44 : decode cX0_run 44 = .ok (.aload_n 0, 1) := by decide +kernel
theorem dX0_run_45 : decode cX0_run 45 = .ok (.iload 5, 2) := by decide +kernel
theorem dX0_run_47 : decode cX0_run 47 = .ok (.invokevirtual 34, 3) := by decide +kernel
theorem dX0_run_50 : decode cX0_run 50 = .ok (.ireturn, 1) := by decide +kernel
theorem dX0_run_51 : decode cX0_run 51 = .ok (.aload_n 0, 1) := by decide +kernel
theorem dX0_run_52 : decode cX0_run 52 = .ok (.iload 5, 2) := by decide +kernel
theorem dX0_run_54 : decode cX0_run 54 = .ok (.invokevirtual 38, 3) := by decide +kernel
theorem dX0_run_57 : decode cX0_run 57 = .ok (.ireturn, 1) := by decide +kernel
theorem dX0_run_58 : decode cX0_run 58 = .ok (.aload_n 0, 1) := by decide +kernel
theorem dX0_run_59 : decode cX0_run 59 = .ok (.iload 5, 2) := by decide +kernel
theorem dX0_run_61 : decode cX0_run 61 = .ok (.invokevirtual 41, 3) := by decide +kernel
theorem dX0_run_64 : decode cX0_run 64 = .ok (.ireturn, 1) := by decide +kernel
theorem dX7_exists_0 : decode cX7_exists 0 = .ok (.iload_n 1, 1) := by decide +kernel
theorem dX7_exists_1 : decode cX7_exists 1 = .ok (.ifCond .lt 13, 3) := by decide +kernel
theorem dX7_exists_4 : decode cX7_exists 4 = .ok (.iload_n 1, 1) := by decide +kernel
theorem dX7_exists_5 : decode cX7_exists 5 = .ok (.bipush 6, 2) := by decide +kernel
theorem dX7_exists_7 : decode cX7_exists 7 = .ok (.if_icmp .ge 7, 3) := by decide +kernel
theorem dX7_exists_10 : decode cX7_exists 10 = .ok (.iconst 1, 1) := by decide +kernel
theorem dX7_exists_11 : decode cX7_exists 11 = .ok (.goto 4, 3) := by decide +kernel
theorem dX7_exists_14 : decode cX7_exists 14 = .ok (.iconst 0, 1) := by decide +kernel
theorem dX7_exists_15 : decode cX7_exists 15 = .ok (.ireturn, 1) := by decide +kernel
theorem dX7_reset_0 : decode cX7_reset 0 = .ok (.aload_n 0, 1) := by decide +kernel
theorem dX7_reset_1 : decode cX7_reset 1 = .ok (.getfield 9, 3) := by decide +kernel
theorem dX7_reset_4 : decode cX7_reset 4 = .ok (.iload_n 1, 1) := by decide +kernel
theorem dX7_reset_5 : decode cX7_reset 5 = .ok (.iload_n 2, 1) := by decide +kernel
theorem dX7_reset_6 : decode cX7_reset 6 = .ok (.iastore, 1) := by decide +kernel
theorem dX7_reset_7 : decode cX7_reset 7 = .ok (.aload_n 0, 1) := by decide +kernel
theorem dX7_reset_8 : decode cX7_reset 8 = .ok (.getfield 13, 3) := by decide +kernel
theorem dX7_reset_11 : decode cX7_reset 11 = .ok (.iload_n 1, 1) := by decide +kernel
theorem dX7_reset_12 : decode cX7_reset 12 = .ok (.iload_n 3, 1) := by decide +kernel
theorem dX7_reset_13 : decode cX7_reset 13 = .ok (.iastore, 1) := by decide +kernel
theorem dX7_reset_14 : decode cX7_reset 14 = .ok (.iconst 0, 1) := by decide +kernel
theorem dX7_reset_15 : decode cX7_reset 15 = .ok (.istore 4, 2) := by decide +kernel
theorem dX7_reset_17 : decode cX7_reset 17 = .ok (.iload 4, 2) := by decide +kernel
theorem dX7_reset_19 : decode cX7_reset 19 = .ok (.iload_n 3, 1) := by decide +kernel
theorem dX7_reset_20 : decode cX7_reset 20 = .ok (.if_icmp .ge 29, 3) := by decide +kernel
theorem dX7_reset_23 : decode cX7_reset 23 = .ok (.iload 4, 2) := by decide +kernel
theorem dX7_reset_25 : decode cX7_reset 25 = .ok (.bipush 60, 2) := by decide +kernel
theorem dX7_reset_27 : decode cX7_reset 27 = .ok (.if_icmp .ge 22, 3) := by decide +kernel
theorem dX7_reset_30 : decode cX7_reset 30 = .ok (.aload_n 0, 1) := by decide +kernel
theorem dX7_reset_31 : decode cX7_reset 31 = .ok (.getfield 16, 3) := by decide +kernel
theorem dX7_reset_34 : decode cX7_reset 34 = .ok (.iload_n 1, 1) := by decide +kernel
theorem dX7_reset_35 : decode cX7_reset 35 = .ok (.bipush 60, 2) := by decide +kernel
theorem dX7_reset_37 : decode cX7_reset 37 = .ok (.imul, 1) := by decide +kernel
theorem dX7_reset_38 : decode cX7_reset 38 = .ok (.iload 4, 2) := by decide +kernel
theorem dX7_reset_40 : decode cX7_reset 40 = .ok (.iadd, 1) := by decide +kernel
theorem dX7_reset_41 : decode cX7_reset 41 = .ok (.lconst 0, 1) := by decide +kernel
theorem dX7_reset_42 : decode cX7_reset 42 = .ok (.lastore, 1) := by decide +kernel
theorem dX7_reset_43 : decode cX7_reset 43 = .ok (.iinc 4 1, 3) := by decide +kernel
theorem dX7_reset_46 : decode cX7_reset 46 = .ok (.goto (-29), 3) := by decide +kernel
theorem dX7_reset_49 : decode cX7_reset 49 = .ok (.return_, 1) := by decide +kernel
theorem dX7_get_0 : decode cX7_get 0 = .ok (.aload_n 0, 1) := by decide +kernel
theorem dX7_get_1 : decode cX7_get 1 = .ok (.getfield 16, 3) := by decide +kernel
theorem dX7_get_4 : decode cX7_get 4 = .ok (.iload_n 1, 1) := by decide +kernel
theorem dX7_get_5 : decode cX7_get 5 = .ok (.bipush 60, 2) := by decide +kernel
theorem dX7_get_7 : decode cX7_get 7 = .ok (.imul, 1) := by decide +kernel
theorem dX7_get_8 : decode cX7_get 8 = .ok (.iload_n 2, 1) := by decide +kernel
theorem dX7_get_9 : decode cX7_get 9 = .ok (.iadd, 1) := by decide +kernel
theorem dX7_get_10 : decode cX7_get 10 = .ok (.laload, 1) := by decide +kernel
theorem dX7_get_11 : decode cX7_get 11 = .ok (.lreturn, 1) := by decide +kernel
theorem dX7_narrow_0 : decode cX7_narrow 0 = .ok (.iload_n 0, 1) := by decide +kernel
theorem dX7_narrow_1 : decode cX7_narrow 1 = .ok (.tableswitch 61 0 4 #[35, 40, 45, 61, 49], 35) := by decide +kernel
theorem dX7_narrow_36 : decode cX7_narrow 36 = .ok (.lload_n 1, 1) := by decide +kernel
theorem dX7_narrow_37 : decode cX7_narrow 37 = .ok (.l2i, 1) := by decide +kernel
theorem dX7_narrow_38 : decode cX7_narrow 38 = .ok (.i2b, 1) := by decide +kernel
theorem dX7_narrow_39 : decode cX7_narrow 39 = .ok (.i2l, 1) := by decide +kernel
theorem dX7_narrow_40 : decode cX7_narrow 40 = .ok (.lreturn, 1) := by decide +kernel
theorem dX7_narrow_41 : decode cX7_narrow 41 = .ok (.lload_n 1, 1) := by decide +kernel
theorem dX7_narrow_42 : decode cX7_narrow 42 = .ok (.l2i, 1) := by decide +kernel
theorem dX7_narrow_43 : decode cX7_narrow 43 = .ok (.i2s, 1) := by decide +kernel
theorem dX7_narrow_44 : decode cX7_narrow 44 = .ok (.i2l, 1) := by decide +kernel
theorem dX7_narrow_45 : decode cX7_narrow 45 = .ok (.lreturn, 1) := by decide +kernel
theorem dX7_narrow_46 : decode cX7_narrow 46 = .ok (.lload_n 1, 1) := by decide +kernel
theorem dX7_narrow_47 : decode cX7_narrow 47 = .ok (.l2i, 1) := by decide +kernel
theorem dX7_narrow_48 : decode cX7_narrow 48 = .ok (.i2l, 1) := by decide +kernel
theorem dX7_narrow_49 : decode cX7_narrow 49 = .ok (.lreturn, 1) := by decide +kernel
theorem dX7_narrow_50 : decode cX7_narrow 50 = .ok (.lload_n 1, 1) := by decide +kernel
theorem dX7_narrow_51 : decode cX7_narrow 51 = .ok (.lconst 0, 1) := by decide +kernel
theorem dX7_narrow_52 : decode cX7_narrow 52 = .ok (.lcmp, 1) := by decide +kernel
theorem dX7_narrow_53 : decode cX7_narrow 53 = .ok (.ifCond .eq 7, 3) := by decide +kernel
theorem dX7_narrow_56 : decode cX7_narrow 56 = .ok (.lconst 1, 1) := by decide +kernel
theorem dX7_narrow_57 : decode cX7_narrow 57 = .ok (.goto 4, 3) := by decide +kernel
theorem dX7_narrow_60 : decode cX7_narrow 60 = .ok (.lconst 0, 1) := by decide +kernel
theorem dX7_narrow_61 : decode cX7_narrow 61 = .ok (.lreturn, 1) := by decide +kernel
theorem dX7_narrow_62 : decode cX7_narrow 62 = .ok (.lload_n 1, 1) := by decide +kernel
theorem dX7_narrow_63 : decode cX7_narrow 63 = .ok (.lreturn, 1) := by decide +kernel
theorem dX7_put_0 : decode cX7_put 0 = .ok (.aload_n 0, 1) := by decide +kernel
theorem dX7_put_1 : decode cX7_put 1 = .ok (.getfield 16, 3) := by decide +kernel
theorem dX7_put_4 : decode cX7_put 4 = .ok (.iload_n 1, 1) := by decide +kernel
theorem dX7_put_5 : decode cX7_put 5 = .ok (.bipush 60, 2) := by decide +kernel
theorem dX7_put_7 : decode cX7_put 7 = .ok (.imul, 1) := by decide +kernel
theorem dX7_put_8 : decode cX7_put 8 = .ok (.iload_n 2, 1) := by decide +kernel
theorem dX7_put_9 : decode cX7_put 9 = .ok (.iadd, 1) := by decide +kernel
theorem dX7_put_10 : decode cX7_put 10 = .ok (.aload_n 0, 1) := by decide +kernel
theorem dX7_put_11 : decode cX7_put 11 = .ok (.getfield 9, 3) := by decide +kernel
theorem dX7_put_14 : decode cX7_put 14 = .ok (.iload_n 1, 1) := by decide +kernel
theorem dX7_put_15 : decode cX7_put 15 = .ok (.iaload, 1) := by decide +kernel
theorem dX7_put_16 : decode cX7_put 16 = .ok (.lload_n 3, 1) := by decide +kernel
theorem dX7_put_17 : decode cX7_put 17 = .ok (.invokestatic 26, 3) := by decide +kernel
theorem dX7_put_20 : decode cX7_put 20 = .ok (.lastore, 1) := by decide +kernel
theorem dX7_put_21 : decode cX7_put 21 = .ok (.return_, 1) := by decide +kernel
theorem dX7_holds_0 : decode cX7_holds 0 = .ok (.iload_n 2, 1) := by decide +kernel
theorem dX7_holds_1 : decode cX7_holds 1 = .ok (.ifCond .lt 27, 3) := by decide +kernel
theorem dX7_holds_4 : decode cX7_holds 4 = .ok (.iload_n 3, 1) := by decide +kernel
theorem dX7_holds_5 : decode cX7_holds 5 = .ok (.ifCond .lt 23, 3) := by decide +kernel
theorem dX7_holds_8 : decode cX7_holds 8 = .ok (.iload_n 2, 1) := by decide +kernel
theorem dX7_holds_9 : decode cX7_holds 9 = .ok (.i2l, 1) := by decide +kernel
theorem dX7_holds_10 : decode cX7_holds 10 = .ok (.iload_n 3, 1) := by decide +kernel
theorem dX7_holds_11 : decode cX7_holds 11 = .ok (.i2l, 1) := by decide +kernel
theorem dX7_holds_12 : decode cX7_holds 12 = .ok (.ladd, 1) := by decide +kernel
theorem dX7_holds_13 : decode cX7_holds 13 = .ok (.aload_n 0, 1) := by decide +kernel
theorem dX7_holds_14 : decode cX7_holds 14 = .ok (.getfield 13, 3) := by decide +kernel
theorem dX7_holds_17 : decode cX7_holds 17 = .ok (.iload_n 1, 1) := by decide +kernel
theorem dX7_holds_18 : decode cX7_holds 18 = .ok (.iaload, 1) := by decide +kernel
theorem dX7_holds_19 : decode cX7_holds 19 = .ok (.i2l, 1) := by decide +kernel
theorem dX7_holds_20 : decode cX7_holds 20 = .ok (.lcmp, 1) := by decide +kernel
theorem dX7_holds_21 : decode cX7_holds 21 = .ok (.ifCond .gt 7, 3) := by decide +kernel
theorem dX7_holds_24 : decode cX7_holds 24 = .ok (.iconst 1, 1) := by decide +kernel
theorem dX7_holds_25 : decode cX7_holds 25 = .ok (.goto 4, 3) := by decide +kernel
theorem dX7_holds_28 : decode cX7_holds 28 = .ok (.iconst 0, 1) := by decide +kernel
theorem dX7_holds_29 : decode cX7_holds 29 = .ok (.ireturn, 1) := by decide +kernel
theorem dX7_copy_0 : decode cX7_copy 0 = .ok (.aload_n 0, 1) := by decide +kernel
theorem dX7_copy_1 : decode cX7_copy 1 = .ok (.getfield 16, 3) := by decide +kernel
theorem dX7_copy_4 : decode cX7_copy 4 = .ok (.iload_n 1, 1) := by decide +kernel
theorem dX7_copy_5 : decode cX7_copy 5 = .ok (.bipush 60, 2) := by decide +kernel
theorem dX7_copy_7 : decode cX7_copy 7 = .ok (.imul, 1) := by decide +kernel
theorem dX7_copy_8 : decode cX7_copy 8 = .ok (.iload_n 2, 1) := by decide +kernel
theorem dX7_copy_9 : decode cX7_copy 9 = .ok (.iadd, 1) := by decide +kernel
theorem dX7_copy_10 : decode cX7_copy 10 = .ok (.aload_n 0, 1) := by decide +kernel
theorem dX7_copy_11 : decode cX7_copy 11 = .ok (.getfield 16, 3) := by decide +kernel
theorem dX7_copy_14 : decode cX7_copy 14 = .ok (.iload_n 3, 1) := by decide +kernel
theorem dX7_copy_15 : decode cX7_copy 15 = .ok (.bipush 60, 2) := by decide +kernel
theorem dX7_copy_17 : decode cX7_copy 17 = .ok (.imul, 1) := by decide +kernel
theorem dX7_copy_18 : decode cX7_copy 18 = .ok (.iload 4, 2) := by decide +kernel
theorem dX7_copy_20 : decode cX7_copy 20 = .ok (.iadd, 1) := by decide +kernel
theorem dX7_copy_21 : decode cX7_copy 21 = .ok (.iload 5, 2) := by decide +kernel
theorem dX7_copy_23 : decode cX7_copy 23 = .ok (.invokestatic 30, 3) := by decide +kernel
theorem dX7_copy_26 : decode cX7_copy 26 = .ok (.return_, 1) := by decide +kernel
def L_X8_movers_4 (l : Launch) (e : hv_Ev)  (Φ : Int32 → hv_S → Prop) (x1 : Int32) (x2 : Int32) (x3 : Int32) (σ : hv_S) : Prop := hv_TW l (hv_e1 e) (hv_rm 1) 0 0 m_X8_movers hv_no (hv_ZI (hv_e1 e) Φ) 4 [(0, .ref 35), (1, .int x1), (2, .int x2), (3, .int x3)] [] σ
set_option maxHeartbeats 4000000 in
set_option maxRecDepth 100000 in
theorem B_X8_movers_4 {l : Launch} {e : hv_Ev}  (x1 : Int32) (x2 : Int32) (x3 : Int32) {σ : hv_S} {Φ : Int32 → hv_S → Prop} (h : (((σ.1 1 7) ≤ x3 → Φ x2 σ) ∧ (¬ (σ.1 1 7) ≤ x3 → hv_CI l (hv_e1 e) 0 m_X9_cell [.int x3, .int x1] σ (fun v2 s1 => hv_CI l (hv_e1 e) 0 m_X2_isSelf [.ref 1, .int v2, .int (s1.1 1 8)] s1 (fun v5 s4 => ((v5 ≠ 0 → L_X8_movers_4 l e Φ x1 x2 (x3 + 1) s4) ∧ (v5 = 0 → L_X8_movers_4 l e Φ x1 (x2 ||| ((1 : Int32) <<< (x3 &&& 31))) (x3 + 1) s4))))))) : L_X8_movers_4 l e Φ x1 x2 x3 σ := by
  show hv_TW l (hv_e1 e) (hv_rm 1) 0 0 m_X8_movers hv_no (hv_ZI (hv_e1 e) Φ) 4 [(0, .ref 35), (1, .int x1), (2, .int x2), (3, .int x3)] [] σ
  refine T_iload_n dX8_movers_4 rfl 3 rfl ?_
  refine T_aload_n dX8_movers_5 rfl 0 rfl ?_
  refine T_get (v := .ref 1) dX8_movers_6 fl_X8_15 hp_35 hs_35 rfl rfl ?_
  refine T_get (v := .int (σ.1 1 7)) dX8_movers_9 fl_X8_47 hp_1 hs_1 rfl rfl ?_
  refine T_icmp_ge (tgt := 49) dX8_movers_12 (by decide) (fun c7 => ?_) (fun c7 => ?_)
  · refine T_iload_n dX8_movers_49 rfl 2 rfl ?_
    exact T_iret dX8_movers_50 rfl (h.1 c7)
  · refine T_aload_n dX8_movers_15 rfl 0 rfl ?_
    refine T_get (v := .ref 1) dX8_movers_16 fl_X8_15 hp_35 hs_35 rfl rfl ?_
    refine T_iload_n dX8_movers_19 rfl 3 rfl ?_
    refine T_iload_n dX8_movers_20 rfl 1 rfl ?_
    refine T_SI (As := [.int x3, .int x1]) dX8_movers_21 ms_X8_88 rfl (Nat.le_of_ble_eq_true rfl) (hv_ok1 rfl) rfl (h.2 c7) (fun v2 s1 h3 => ?_)
    refine T_aload_n dX8_movers_24 rfl 0 rfl ?_
    refine T_get (v := .ref 1) dX8_movers_25 fl_X8_15 hp_35 hs_35 rfl rfl ?_
    refine T_get (v := .int (s1.1 1 8)) dX8_movers_28 fl_X8_31 hp_1 hs_1 rfl rfl ?_
    refine T_VI (As := [.int v2, .int (s1.1 1 8)]) dX8_movers_31 mv_X8_92 hp_1 hs_1 rfl (Nat.le_of_ble_eq_true rfl) (hv_ok1 rfl) rfl h3 (fun v5 s4 h6 => ?_)
    refine T_if_ne (tgt := 43) dX8_movers_34 (by decide) (fun c8 => ?_) (fun c8 => ?_)
    · refine T_iinc (v := (x3 + 1)) dX8_movers_43 3 rfl rfl (by decide) rfl ?_
      refine T_goto (tgt := 4) dX8_movers_46 (by decide) ?_
      exact T_sub [1, 2, 3, 0] rfl (h6.1 c8)
    · refine T_iload_n dX8_movers_37 rfl 2 rfl ?_
      refine T_iconst (v := 1) dX8_movers_38 (by decide) ?_
      refine T_iload_n dX8_movers_39 rfl 3 rfl ?_
      refine T_ishl dX8_movers_40 ?_
      refine T_ior dX8_movers_41 ?_
      refine T_istore_n dX8_movers_42 rfl (by decide) rfl ?_
      refine T_iinc (v := (x3 + 1)) dX8_movers_43 3 rfl rfl (by decide) rfl ?_
      refine T_goto (tgt := 4) dX8_movers_46 (by decide) ?_
      exact T_sub [2, 3, 1, 0] rfl (h6.2 c8)
set_option maxHeartbeats 4000000 in
set_option maxRecDepth 100000 in
theorem B_X8_movers {l : Launch} {e : hv_Ev}  (x1 : Int32) {σ : hv_S} {Φ : Int32 → hv_S → Prop} (h : L_X8_movers_4 l e Φ x1 0 0 σ) : hv_CI l (hv_e1 e) 1 m_X8_movers [.ref 35, .int x1] σ Φ := by
  refine hv_entI (by decide) (Nat.le_of_ble_eq_true rfl) ?_
  show hv_TW l (hv_e1 e) (hv_rm 1) 0 0 m_X8_movers hv_no (hv_ZI (hv_e1 e) Φ) 0 [(0, .ref 35), (1, .int x1)] [] σ
  refine T_iconst (v := 0) dX8_movers_0 (by decide) ?_
  refine T_istore_n dX8_movers_1 rfl (by decide) rfl ?_
  refine T_iconst (v := 0) dX8_movers_2 (by decide) ?_
  refine T_istore_n dX8_movers_3 rfl (by decide) rfl ?_
  exact T_sub [2, 3, 1, 0] rfl h

def L_X8_firstBreach_32 (l : Launch) (e : hv_Ev)  (Φ : Int32 → hv_S → Prop) (x1 : Int32) (y2 : Int64) (x4 : Int32) (x5 : Int32) (σ : hv_S) : Prop := hv_TW l (hv_e1 e) (hv_rm 6) 0 0 m_X8_firstBreach hv_no (hv_ZI (hv_e1 e) Φ) 32 [(0, .ref 35), (1, .int x1), (2, .long y2), (4, .int x4), (5, .int x5)] [] σ
def L_X8_firstBreach_100 (l : Launch) (e : hv_Ev)  (Φ : Int32 → hv_S → Prop) (x1 : Int32) (y2 : Int64) (x4 : Int32) (x5 : Int32) (σ : hv_S) : Prop := hv_TW l (hv_e1 e) (hv_rm 6) 0 0 m_X8_firstBreach hv_no (hv_ZI (hv_e1 e) Φ) 100 [(0, .ref 35), (1, .int x1), (2, .long y2), (4, .int x4), (5, .int x5)] [] σ
def L_X8_firstBreach_140 (l : Launch) (e : hv_Ev)  (Φ : Int32 → hv_S → Prop) (x1 : Int32) (y2 : Int64) (x4 : Int32) (x5 : Int32) (x6 : Int32) (x7 : Int32) (σ : hv_S) : Prop := hv_TW l (hv_e1 e) (hv_rm 6) 0 0 m_X8_firstBreach hv_no (hv_ZI (hv_e1 e) Φ) 140 [(0, .ref 35), (1, .int x1), (2, .long y2), (4, .int x4), (5, .int x5), (6, .int x6), (7, .int x7)] [] σ
set_option maxHeartbeats 4000000 in
set_option maxRecDepth 100000 in
theorem B_X8_firstBreach_140 {l : Launch} {e : hv_Ev}  (x1 : Int32) (y2 : Int64) (x4 : Int32) (x5 : Int32) (x6 : Int32) (x7 : Int32) {σ : hv_S} {Φ : Int32 → hv_S → Prop} (h : (((σ.1 1 7) ≤ x7 → L_X8_firstBreach_100 l e Φ x1 y2 x4 (x5 + 1) σ) ∧ (¬ (σ.1 1 7) ≤ x7 → ((((x6 >>> (x7 &&& 31)) &&& 1) = 0 → L_X8_firstBreach_140 l e Φ x1 y2 x4 x5 x6 (x7 + 1) σ) ∧ (¬ ((x6 >>> (x7 &&& 31)) &&& 1) = 0 → hv_CI l (hv_e1 e) 1 m_X3_bars [.ref 15, .int x5, .int x7, .int x1] σ (fun v9 s8 => ((v9 = 0 → hv_CV l (hv_e1 e) 5 m_X6_reckon [.ref 21, .int x1, .int (s8.1 1 8), .int 0, .int x5, .int x7] s8 (fun s11 => (vp_in x7 8 ∧ (vp_in x7 8 ∧ ((((s11.2.1 36 x7.toNatClampNeg) * (s11.2.1 21 6)) ≤ ((s11.2.1 32 x7.toNatClampNeg) * y2) → L_X8_firstBreach_140 l e Φ x1 y2 x4 x5 x6 (x7 + 1) s11) ∧ (¬ ((s11.2.1 36 x7.toNatClampNeg) * (s11.2.1 21 6)) ≤ ((s11.2.1 32 x7.toNatClampNeg) * y2) → Φ ((10 * x5) + x7) s11)))))) ∧ (¬ v9 = 0 → L_X8_firstBreach_140 l e Φ x1 y2 x4 x5 x6 (x7 + 1) s8)))))))) : L_X8_firstBreach_140 l e Φ x1 y2 x4 x5 x6 x7 σ := by
  show hv_TW l (hv_e1 e) (hv_rm 6) 0 0 m_X8_firstBreach hv_no (hv_ZI (hv_e1 e) Φ) 140 [(0, .ref 35), (1, .int x1), (2, .long y2), (4, .int x4), (5, .int x5), (6, .int x6), (7, .int x7)] [] σ
  refine T_iload dX8_firstBreach_140 6 rfl ?_
  refine T_aload_n dX8_firstBreach_142 rfl 0 rfl ?_
  refine T_get (v := .ref 1) dX8_firstBreach_143 fl_X8_15 hp_35 hs_35 rfl rfl ?_
  refine T_get (v := .int (σ.1 1 7)) dX8_firstBreach_146 fl_X8_47 hp_1 hs_1 rfl rfl ?_
  refine T_icmp_ge (tgt := 246) dX8_firstBreach_149 (by decide) (fun c14 => ?_) (fun c14 => ?_)
  · refine T_iinc (v := (x5 + 1)) dX8_firstBreach_246 4 rfl rfl (by decide) rfl ?_
    refine T_goto (tgt := 100) dX8_firstBreach_249 (by decide) ?_
    exact T_sub [1, 2, 3, 4, 0] rfl (h.1 c14)
  · refine T_iload dX8_firstBreach_152 5 rfl ?_
    refine T_iload dX8_firstBreach_154 6 rfl ?_
    refine T_ishr dX8_firstBreach_156 ?_
    refine T_iconst (v := 1) dX8_firstBreach_157 (by decide) ?_
    refine T_iand dX8_firstBreach_158 ?_
    refine T_if_eq (tgt := 240) dX8_firstBreach_159 (by decide) (fun c15 => ?_) (fun c15 => ?_)
    · refine T_iinc (v := (x7 + 1)) dX8_firstBreach_240 6 rfl rfl (by decide) rfl ?_
      refine T_goto (tgt := 140) dX8_firstBreach_243 (by decide) ?_
      exact T_sub [1, 2, 3, 4, 5, 6, 0] rfl ((h.2 c14).1 c15)
    · refine T_aload_n dX8_firstBreach_162 rfl 0 rfl ?_
      refine T_get (v := .ref 15) dX8_firstBreach_163 fl_X8_19 hp_35 hs_35 rfl rfl ?_
      refine T_iload dX8_firstBreach_166 4 rfl ?_
      refine T_iload dX8_firstBreach_168 6 rfl ?_
      refine T_iload_n dX8_firstBreach_170 rfl 1 rfl ?_
      refine T_VI (As := [.int x5, .int x7, .int x1]) dX8_firstBreach_171 mv_X8_59 hp_15 hs_15 rfl (Nat.le_of_ble_eq_true rfl) (hv_ok1 rfl) rfl ((h.2 c14).2 c15) (fun v9 s8 h10 => ?_)
      refine T_if_eq (tgt := 180) dX8_firstBreach_174 (by decide) (fun c16 => ?_) (fun c16 => ?_)
      · refine T_aload_n dX8_firstBreach_180 rfl 0 rfl ?_
        refine T_get (v := .ref 21) dX8_firstBreach_181 fl_X8_27 hp_35 hs_35 rfl rfl ?_
        refine T_iload_n dX8_firstBreach_184 rfl 1 rfl ?_
        refine T_aload_n dX8_firstBreach_185 rfl 0 rfl ?_
        refine T_get (v := .ref 1) dX8_firstBreach_186 fl_X8_15 hp_35 hs_35 rfl rfl ?_
        refine T_get (v := .int (s8.1 1 8)) dX8_firstBreach_189 fl_X8_31 hp_1 hs_1 rfl rfl ?_
        refine T_iconst (v := 0) dX8_firstBreach_192 (by decide) ?_
        refine T_iload dX8_firstBreach_193 4 rfl ?_
        refine T_iload dX8_firstBreach_195 6 rfl ?_
        refine T_VV (As := [.int x1, .int (s8.1 1 8), .int 0, .int x5, .int x7]) dX8_firstBreach_197 mv_X8_37 hp_21 hs_21 rfl (Nat.le_of_ble_eq_true rfl) (hv_ok1 rfl) rfl (h10.1 c16) (fun s11 h13 => ?_)
        refine T_aload_n dX8_firstBreach_200 rfl 0 rfl ?_
        refine T_get (v := .ref 21) dX8_firstBreach_201 fl_X8_27 hp_35 hs_35 rfl rfl ?_
        refine T_get (v := .ref 32) dX8_firstBreach_204 fl_X8_50 hp_21 hs_21 rfl rfl ?_
        refine T_iload dX8_firstBreach_207 6 rfl ?_
        refine T_lald dX8_firstBreach_209 hp_32 hs_32 h13.1 ?_
        refine T_lload_n dX8_firstBreach_210 rfl 2 rfl ?_
        refine T_lmul dX8_firstBreach_211 ?_
        refine T_aload_n dX8_firstBreach_212 rfl 0 rfl ?_
        refine T_get (v := .ref 36) dX8_firstBreach_213 fl_X8_9 hp_35 hs_35 rfl rfl ?_
        refine T_iload dX8_firstBreach_216 6 rfl ?_
        refine T_lald dX8_firstBreach_218 hp_36 hs_36 h13.2.1 ?_
        refine T_aload_n dX8_firstBreach_219 rfl 0 rfl ?_
        refine T_get (v := .ref 21) dX8_firstBreach_220 fl_X8_27 hp_35 hs_35 rfl rfl ?_
        refine T_get (v := .long (s11.2.1 21 6)) dX8_firstBreach_223 fl_X8_43 hp_21 hs_21 rfl rfl ?_
        refine T_lmul dX8_firstBreach_226 ?_
        refine T_lc_ge (tgt := 240) dX8_firstBreach_227 dX8_firstBreach_228 (by decide) (fun c17 => ?_) (fun c17 => ?_)
        · refine T_iinc (v := (x7 + 1)) dX8_firstBreach_240 6 rfl rfl (by decide) rfl ?_
          refine T_goto (tgt := 140) dX8_firstBreach_243 (by decide) ?_
          exact T_sub [1, 2, 3, 4, 5, 6, 0] rfl (h13.2.2.1 c17)
        · refine T_bipush (v := 10) dX8_firstBreach_231 (by decide) ?_
          refine T_iload dX8_firstBreach_233 4 rfl ?_
          refine T_imul dX8_firstBreach_235 ?_
          refine T_iload dX8_firstBreach_236 6 rfl ?_
          refine T_iadd dX8_firstBreach_238 ?_
          exact T_iret dX8_firstBreach_239 rfl (h13.2.2.2 c17)
      · refine T_goto (tgt := 240) dX8_firstBreach_177 (by decide) ?_
        refine T_iinc (v := (x7 + 1)) dX8_firstBreach_240 6 rfl rfl (by decide) rfl ?_
        refine T_goto (tgt := 140) dX8_firstBreach_243 (by decide) ?_
        exact T_sub [1, 2, 3, 4, 5, 6, 0] rfl (h10.2 c16)
set_option maxHeartbeats 4000000 in
set_option maxRecDepth 100000 in
theorem B_X8_firstBreach_100 {l : Launch} {e : hv_Ev}  (x1 : Int32) (y2 : Int64) (x4 : Int32) (x5 : Int32) {σ : hv_S} {Φ : Int32 → hv_S → Prop} (h : (((σ.1 1 7) ≤ x5 → Φ (-5) σ) ∧ (¬ (σ.1 1 7) ≤ x5 → ((((x4 >>> (x5 &&& 31)) &&& 1) ≠ 0 → L_X8_firstBreach_140 l e Φ x1 y2 x4 x5 (x4 &&& (((1 : Int32) <<< (x5 &&& 31)) ^^^ (-1))) 0 σ) ∧ (((x4 >>> (x5 &&& 31)) &&& 1) = 0 → L_X8_firstBreach_140 l e Φ x1 y2 x4 x5 0 0 σ))))) : L_X8_firstBreach_100 l e Φ x1 y2 x4 x5 σ := by
  show hv_TW l (hv_e1 e) (hv_rm 6) 0 0 m_X8_firstBreach hv_no (hv_ZI (hv_e1 e) Φ) 100 [(0, .ref 35), (1, .int x1), (2, .long y2), (4, .int x4), (5, .int x5)] [] σ
  refine T_iload dX8_firstBreach_100 4 rfl ?_
  refine T_aload_n dX8_firstBreach_102 rfl 0 rfl ?_
  refine T_get (v := .ref 1) dX8_firstBreach_103 fl_X8_15 hp_35 hs_35 rfl rfl ?_
  refine T_get (v := .int (σ.1 1 7)) dX8_firstBreach_106 fl_X8_47 hp_1 hs_1 rfl rfl ?_
  refine T_icmp_ge (tgt := 252) dX8_firstBreach_109 (by decide) (fun c6 => ?_) (fun c6 => ?_)
  · refine T_bipush (v := (-5)) dX8_firstBreach_252 (by decide) ?_
    exact T_iret dX8_firstBreach_254 rfl (h.1 c6)
  · refine T_iload dX8_firstBreach_112 3 rfl ?_
    refine T_iload dX8_firstBreach_114 4 rfl ?_
    refine T_ishr dX8_firstBreach_116 ?_
    refine T_iconst (v := 1) dX8_firstBreach_117 (by decide) ?_
    refine T_iand dX8_firstBreach_118 ?_
    refine T_if_ne (tgt := 126) dX8_firstBreach_119 (by decide) (fun c7 => ?_) (fun c7 => ?_)
    · refine T_iload dX8_firstBreach_126 3 rfl ?_
      refine T_iconst (v := 1) dX8_firstBreach_128 (by decide) ?_
      refine T_iload dX8_firstBreach_129 4 rfl ?_
      refine T_ishl dX8_firstBreach_131 ?_
      refine T_iconst (v := (-1)) dX8_firstBreach_132 (by decide) ?_
      refine T_ixor dX8_firstBreach_133 ?_
      refine T_iand dX8_firstBreach_134 ?_
      refine T_istore dX8_firstBreach_135 (by decide) rfl ?_
      refine T_iconst (v := 0) dX8_firstBreach_137 (by decide) ?_
      refine T_istore dX8_firstBreach_138 (by decide) rfl ?_
      exact T_sub [2, 3, 4, 5, 6, 1, 0] rfl ((h.2 c6).1 c7)
    · refine T_iconst (v := 0) dX8_firstBreach_122 (by decide) ?_
      refine T_goto (tgt := 135) dX8_firstBreach_123 (by decide) ?_
      refine T_istore dX8_firstBreach_135 (by decide) rfl ?_
      refine T_iconst (v := 0) dX8_firstBreach_137 (by decide) ?_
      refine T_istore dX8_firstBreach_138 (by decide) rfl ?_
      exact T_sub [2, 3, 4, 5, 6, 1, 0] rfl ((h.2 c6).2 c7)
set_option maxHeartbeats 4000000 in
set_option maxRecDepth 100000 in
theorem B_X8_firstBreach_32 {l : Launch} {e : hv_Ev}  (x1 : Int32) (y2 : Int64) (x4 : Int32) (x5 : Int32) {σ : hv_S} {Φ : Int32 → hv_S → Prop} (h : (((σ.1 1 7) ≤ x5 → L_X8_firstBreach_100 l e Φ x1 y2 x4 0 σ) ∧ (¬ (σ.1 1 7) ≤ x5 → (vp_in x5 8 ∧ (vp_in x5 8 ∧ (vp_in ((x5 * 8) + x5) 64 ∧ (((σ.1 19 (((x5 * 8) + x5).toNatClampNeg)) ≠ 10 → L_X8_firstBreach_32 l e Φ x1 y2 x4 (x5 + 1) (hv_ul σ 36 x5.toNatClampNeg (σ.2.1 32 x5.toNatClampNeg))) ∧ ((σ.1 19 (((x5 * 8) + x5).toNatClampNeg)) = 10 → L_X8_firstBreach_32 l e Φ x1 y2 (x4 ||| ((1 : Int32) <<< (x5 &&& 31))) (x5 + 1) (hv_ul σ 36 x5.toNatClampNeg (σ.2.1 32 x5.toNatClampNeg)))))))))) : L_X8_firstBreach_32 l e Φ x1 y2 x4 x5 σ := by
  show hv_TW l (hv_e1 e) (hv_rm 6) 0 0 m_X8_firstBreach hv_no (hv_ZI (hv_e1 e) Φ) 32 [(0, .ref 35), (1, .int x1), (2, .long y2), (4, .int x4), (5, .int x5)] [] σ
  refine T_iload dX8_firstBreach_32 4 rfl ?_
  refine T_aload_n dX8_firstBreach_34 rfl 0 rfl ?_
  refine T_get (v := .ref 1) dX8_firstBreach_35 fl_X8_15 hp_35 hs_35 rfl rfl ?_
  refine T_get (v := .int (σ.1 1 7)) dX8_firstBreach_38 fl_X8_47 hp_1 hs_1 rfl rfl ?_
  refine T_icmp_ge (tgt := 97) dX8_firstBreach_41 (by decide) (fun c4 => ?_) (fun c4 => ?_)
  · refine T_iconst (v := 0) dX8_firstBreach_97 (by decide) ?_
    refine T_istore dX8_firstBreach_98 (by decide) rfl ?_
    exact T_sub [1, 2, 3, 4, 0] rfl (h.1 c4)
  · refine T_aload_n dX8_firstBreach_44 rfl 0 rfl ?_
    refine T_get (v := .ref 36) dX8_firstBreach_45 fl_X8_9 hp_35 hs_35 rfl rfl ?_
    refine T_iload dX8_firstBreach_48 4 rfl ?_
    refine T_aload_n dX8_firstBreach_50 rfl 0 rfl ?_
    refine T_get (v := .ref 21) dX8_firstBreach_51 fl_X8_27 hp_35 hs_35 rfl rfl ?_
    refine T_get (v := .ref 32) dX8_firstBreach_54 fl_X8_50 hp_21 hs_21 rfl rfl ?_
    refine T_iload dX8_firstBreach_57 4 rfl ?_
    refine T_lald dX8_firstBreach_59 hp_32 hs_32 (h.2 c4).1 ?_
    refine T_last dX8_firstBreach_60 hp_36 hs_36 (h.2 c4).2.1 ?_
    refine T_aload_n dX8_firstBreach_61 rfl 0 rfl ?_
    refine T_get (v := .ref 18) dX8_firstBreach_62 fl_X8_23 hp_35 hs_35 rfl rfl ?_
    refine T_get (v := .ref 19) dX8_firstBreach_65 fl_X8_53 hp_18 hs_18 rfl rfl ?_
    refine T_iload dX8_firstBreach_68 4 rfl ?_
    refine T_bipush (v := 8) dX8_firstBreach_70 (by decide) ?_
    refine T_imul dX8_firstBreach_72 ?_
    refine T_iload dX8_firstBreach_73 4 rfl ?_
    refine T_iadd dX8_firstBreach_75 ?_
    refine T_iald dX8_firstBreach_76 hp_19 hs_19 (h.2 c4).2.2.1 ?_
    refine T_bipush (v := 10) dX8_firstBreach_77 (by decide) ?_
    refine T_icmp_ne (tgt := 91) dX8_firstBreach_79 (by decide) (fun c5 => ?_) (fun c5 => ?_)
    · refine T_iinc (v := (x5 + 1)) dX8_firstBreach_91 4 rfl rfl (by decide) rfl ?_
      refine T_goto (tgt := 32) dX8_firstBreach_94 (by decide) ?_
      exact T_sub [1, 2, 3, 4, 0] rfl ((h.2 c4).2.2.2.1 c5)
    · refine T_iload dX8_firstBreach_82 3 rfl ?_
      refine T_iconst (v := 1) dX8_firstBreach_84 (by decide) ?_
      refine T_iload dX8_firstBreach_85 4 rfl ?_
      refine T_ishl dX8_firstBreach_87 ?_
      refine T_ior dX8_firstBreach_88 ?_
      refine T_istore dX8_firstBreach_89 (by decide) rfl ?_
      refine T_iinc (v := (x5 + 1)) dX8_firstBreach_91 4 rfl rfl (by decide) rfl ?_
      refine T_goto (tgt := 32) dX8_firstBreach_94 (by decide) ?_
      exact T_sub [2, 3, 4, 1, 0] rfl ((h.2 c4).2.2.2.2 c5)
set_option maxHeartbeats 4000000 in
set_option maxRecDepth 100000 in
theorem B_X8_firstBreach {l : Launch} {e : hv_Ev}  (x1 : Int32) {σ : hv_S} {Φ : Int32 → hv_S → Prop} (h : hv_CV l (hv_e1 e) 5 m_X6_reckon [.ref 21, .int x1, .int (σ.1 1 8), .int 0, .int (-1), .int (-1)] σ (fun s1 => L_X8_firstBreach_32 l e Φ x1 (s1.2.1 21 6) 0 0 s1)) : hv_CI l (hv_e1 e) 6 m_X8_firstBreach [.ref 35, .int x1] σ Φ := by
  refine hv_entI (by decide) (Nat.le_of_ble_eq_true rfl) ?_
  show hv_TW l (hv_e1 e) (hv_rm 6) 0 0 m_X8_firstBreach hv_no (hv_ZI (hv_e1 e) Φ) 0 [(0, .ref 35), (1, .int x1)] [] σ
  refine T_aload_n dX8_firstBreach_0 rfl 0 rfl ?_
  refine T_get (v := .ref 21) dX8_firstBreach_1 fl_X8_27 hp_35 hs_35 rfl rfl ?_
  refine T_iload_n dX8_firstBreach_4 rfl 1 rfl ?_
  refine T_aload_n dX8_firstBreach_5 rfl 0 rfl ?_
  refine T_get (v := .ref 1) dX8_firstBreach_6 fl_X8_15 hp_35 hs_35 rfl rfl ?_
  refine T_get (v := .int (σ.1 1 8)) dX8_firstBreach_9 fl_X8_31 hp_1 hs_1 rfl rfl ?_
  refine T_iconst (v := 0) dX8_firstBreach_12 (by decide) ?_
  refine T_iconst (v := (-1)) dX8_firstBreach_13 (by decide) ?_
  refine T_iconst (v := (-1)) dX8_firstBreach_14 (by decide) ?_
  refine T_VV (As := [.int x1, .int (σ.1 1 8), .int 0, .int (-1), .int (-1)]) dX8_firstBreach_15 mv_X8_37 hp_21 hs_21 rfl (Nat.le_of_ble_eq_true rfl) (hv_ok1 rfl) rfl h (fun s1 h3 => ?_)
  refine T_aload_n dX8_firstBreach_18 rfl 0 rfl ?_
  refine T_get (v := .ref 21) dX8_firstBreach_19 fl_X8_27 hp_35 hs_35 rfl rfl ?_
  refine T_get (v := .long (s1.2.1 21 6)) dX8_firstBreach_22 fl_X8_43 hp_21 hs_21 rfl rfl ?_
  refine T_lstore_n dX8_firstBreach_25 rfl (by decide) rfl ?_
  refine T_iconst (v := 0) dX8_firstBreach_26 (by decide) ?_
  refine T_istore dX8_firstBreach_27 (by decide) rfl ?_
  refine T_iconst (v := 0) dX8_firstBreach_29 (by decide) ?_
  refine T_istore dX8_firstBreach_30 (by decide) rfl ?_
  exact T_sub [3, 4, 2, 1, 0] rfl h3

def L_X8_firstWish_15 (l : Launch) (e : hv_Ev)  (Φ : Int32 → hv_S → Prop) (x1 : Int32) (y2 : Int64) (x4 : Int32) (σ : hv_S) : Prop := hv_TW l (hv_e1 e) (hv_rm 6) 0 0 m_X8_firstWish hv_no (hv_ZI (hv_e1 e) Φ) 15 [(0, .ref 35), (1, .int x1), (2, .long y2), (4, .int x4)] [] σ
def L_X8_firstWish_55 (l : Launch) (e : hv_Ev)  (Φ : Int32 → hv_S → Prop) (x1 : Int32) (y2 : Int64) (x4 : Int32) (x5 : Int32) (σ : hv_S) : Prop := hv_TW l (hv_e1 e) (hv_rm 6) 0 0 m_X8_firstWish hv_no (hv_ZI (hv_e1 e) Φ) 55 [(0, .ref 35), (1, .int x1), (2, .long y2), (4, .int x4), (5, .int x5)] [] σ
set_option maxHeartbeats 4000000 in
set_option maxRecDepth 100000 in
theorem B_X8_firstWish_55 {l : Launch} {e : hv_Ev}  (x1 : Int32) (y2 : Int64) (x4 : Int32) (x5 : Int32) {σ : hv_S} {Φ : Int32 → hv_S → Prop} (h : (((σ.1 1 7) ≤ x5 → L_X8_firstWish_15 l e Φ x1 y2 (x4 + 1) σ) ∧ (¬ (σ.1 1 7) ≤ x5 → ((x5 = x4 → L_X8_firstWish_55 l e Φ x1 y2 x4 (x5 + 1) σ) ∧ (¬ x5 = x4 → hv_CI l (hv_e1 e) 1 m_X3_bars [.ref 15, .int x4, .int x5, .int x1] σ (fun v10 s9 => ((v10 ≠ 0 → L_X8_firstWish_55 l e Φ x1 y2 x4 (x5 + 1) s9) ∧ (v10 = 0 → hv_CL l (hv_e1 e) 5 m_X6_chanceIf [.ref 21, .int x1, .int 0, .int x4, .int x5] s9 (fun v13 s12 => ((v13 ≤ y2 → L_X8_firstWish_55 l e Φ x1 y2 x4 (x5 + 1) s12) ∧ (¬ v13 ≤ y2 → Φ (((10 * x4) + x5) + 1) s12))))))))))) : L_X8_firstWish_55 l e Φ x1 y2 x4 x5 σ := by
  show hv_TW l (hv_e1 e) (hv_rm 6) 0 0 m_X8_firstWish hv_no (hv_ZI (hv_e1 e) Φ) 55 [(0, .ref 35), (1, .int x1), (2, .long y2), (4, .int x4), (5, .int x5)] [] σ
  refine T_iload dX8_firstWish_55 4 rfl ?_
  refine T_aload_n dX8_firstWish_57 rfl 0 rfl ?_
  refine T_get (v := .ref 1) dX8_firstWish_58 fl_X8_15 hp_35 hs_35 rfl rfl ?_
  refine T_get (v := .int (σ.1 1 7)) dX8_firstWish_61 fl_X8_47 hp_1 hs_1 rfl rfl ?_
  refine T_icmp_ge (tgt := 124) dX8_firstWish_64 (by decide) (fun c15 => ?_) (fun c15 => ?_)
  · refine T_iinc (v := (x4 + 1)) dX8_firstWish_124 3 rfl rfl (by decide) rfl ?_
    refine T_goto (tgt := 15) dX8_firstWish_127 (by decide) ?_
    exact T_sub [1, 2, 3, 0] rfl (h.1 c15)
  · refine T_iload dX8_firstWish_67 4 rfl ?_
    refine T_iload dX8_firstWish_69 3 rfl ?_
    refine T_icmp_eq (tgt := 118) dX8_firstWish_71 (by decide) (fun c16 => ?_) (fun c16 => ?_)
    · refine T_iinc (v := (x5 + 1)) dX8_firstWish_118 4 rfl rfl (by decide) rfl ?_
      refine T_goto (tgt := 55) dX8_firstWish_121 (by decide) ?_
      exact T_sub [1, 2, 3, 4, 0] rfl ((h.2 c15).1 c16)
    · refine T_aload_n dX8_firstWish_74 rfl 0 rfl ?_
      refine T_get (v := .ref 15) dX8_firstWish_75 fl_X8_19 hp_35 hs_35 rfl rfl ?_
      refine T_iload dX8_firstWish_78 3 rfl ?_
      refine T_iload dX8_firstWish_80 4 rfl ?_
      refine T_iload_n dX8_firstWish_82 rfl 1 rfl ?_
      refine T_VI (As := [.int x4, .int x5, .int x1]) dX8_firstWish_83 mv_X8_59 hp_15 hs_15 rfl (Nat.le_of_ble_eq_true rfl) (hv_ok1 rfl) rfl ((h.2 c15).2 c16) (fun v10 s9 h11 => ?_)
      refine T_if_ne (tgt := 118) dX8_firstWish_86 (by decide) (fun c17 => ?_) (fun c17 => ?_)
      · refine T_iinc (v := (x5 + 1)) dX8_firstWish_118 4 rfl rfl (by decide) rfl ?_
        refine T_goto (tgt := 55) dX8_firstWish_121 (by decide) ?_
        exact T_sub [1, 2, 3, 4, 0] rfl (h11.1 c17)
      · refine T_aload_n dX8_firstWish_89 rfl 0 rfl ?_
        refine T_get (v := .ref 21) dX8_firstWish_90 fl_X8_27 hp_35 hs_35 rfl rfl ?_
        refine T_iload_n dX8_firstWish_93 rfl 1 rfl ?_
        refine T_iconst (v := 0) dX8_firstWish_94 (by decide) ?_
        refine T_iload dX8_firstWish_95 3 rfl ?_
        refine T_iload dX8_firstWish_97 4 rfl ?_
        refine T_VL (As := [.int x1, .int 0, .int x4, .int x5]) dX8_firstWish_99 mv_X8_65 hp_21 hs_21 rfl (Nat.le_of_ble_eq_true rfl) (hv_ok1 rfl) rfl (h11.2 c17) (fun v13 s12 h14 => ?_)
        refine T_lload_n dX8_firstWish_102 rfl 2 rfl ?_
        refine T_lc_le (tgt := 118) dX8_firstWish_103 dX8_firstWish_104 (by decide) (fun c18 => ?_) (fun c18 => ?_)
        · refine T_iinc (v := (x5 + 1)) dX8_firstWish_118 4 rfl rfl (by decide) rfl ?_
          refine T_goto (tgt := 55) dX8_firstWish_121 (by decide) ?_
          exact T_sub [1, 2, 3, 4, 0] rfl (h14.1 c18)
        · refine T_bipush (v := 10) dX8_firstWish_107 (by decide) ?_
          refine T_iload dX8_firstWish_109 3 rfl ?_
          refine T_imul dX8_firstWish_111 ?_
          refine T_iload dX8_firstWish_112 4 rfl ?_
          refine T_iadd dX8_firstWish_114 ?_
          refine T_iconst (v := 1) dX8_firstWish_115 (by decide) ?_
          refine T_iadd dX8_firstWish_116 ?_
          exact T_iret dX8_firstWish_117 rfl (h14.2 c18)
set_option maxHeartbeats 4000000 in
set_option maxRecDepth 100000 in
theorem B_X8_firstWish_15 {l : Launch} {e : hv_Ev}  (x1 : Int32) (y2 : Int64) (x4 : Int32) {σ : hv_S} {Φ : Int32 → hv_S → Prop} (h : (((σ.1 1 7) ≤ x4 → Φ (-5) σ) ∧ (¬ (σ.1 1 7) ≤ x4 → hv_CL l (hv_e1 e) 5 m_X6_chanceIf [.ref 21, .int x1, .int ((1 : Int32) <<< (x4 &&& 31)), .int (-1), .int (-1)] σ (fun v5 s4 => ((v5 ≤ y2 → L_X8_firstWish_55 l e Φ x1 y2 x4 0 s4) ∧ (¬ v5 ≤ y2 → Φ (10 * x4) s4)))))) : L_X8_firstWish_15 l e Φ x1 y2 x4 σ := by
  show hv_TW l (hv_e1 e) (hv_rm 6) 0 0 m_X8_firstWish hv_no (hv_ZI (hv_e1 e) Φ) 15 [(0, .ref 35), (1, .int x1), (2, .long y2), (4, .int x4)] [] σ
  refine T_iload dX8_firstWish_15 3 rfl ?_
  refine T_aload_n dX8_firstWish_17 rfl 0 rfl ?_
  refine T_get (v := .ref 1) dX8_firstWish_18 fl_X8_15 hp_35 hs_35 rfl rfl ?_
  refine T_get (v := .int (σ.1 1 7)) dX8_firstWish_21 fl_X8_47 hp_1 hs_1 rfl rfl ?_
  refine T_icmp_ge (tgt := 130) dX8_firstWish_24 (by decide) (fun c7 => ?_) (fun c7 => ?_)
  · refine T_bipush (v := (-5)) dX8_firstWish_130 (by decide) ?_
    exact T_iret dX8_firstWish_132 rfl (h.1 c7)
  · refine T_aload_n dX8_firstWish_27 rfl 0 rfl ?_
    refine T_get (v := .ref 21) dX8_firstWish_28 fl_X8_27 hp_35 hs_35 rfl rfl ?_
    refine T_iload_n dX8_firstWish_31 rfl 1 rfl ?_
    refine T_iconst (v := 1) dX8_firstWish_32 (by decide) ?_
    refine T_iload dX8_firstWish_33 3 rfl ?_
    refine T_ishl dX8_firstWish_35 ?_
    refine T_iconst (v := (-1)) dX8_firstWish_36 (by decide) ?_
    refine T_iconst (v := (-1)) dX8_firstWish_37 (by decide) ?_
    refine T_VL (As := [.int x1, .int ((1 : Int32) <<< (x4 &&& 31)), .int (-1), .int (-1)]) dX8_firstWish_38 mv_X8_65 hp_21 hs_21 rfl (Nat.le_of_ble_eq_true rfl) (hv_ok1 rfl) rfl (h.2 c7) (fun v5 s4 h6 => ?_)
    refine T_lload_n dX8_firstWish_41 rfl 2 rfl ?_
    refine T_lc_le (tgt := 52) dX8_firstWish_42 dX8_firstWish_43 (by decide) (fun c8 => ?_) (fun c8 => ?_)
    · refine T_iconst (v := 0) dX8_firstWish_52 (by decide) ?_
      refine T_istore dX8_firstWish_53 (by decide) rfl ?_
      exact T_sub [1, 2, 3, 4, 0] rfl (h6.1 c8)
    · refine T_bipush (v := 10) dX8_firstWish_46 (by decide) ?_
      refine T_iload dX8_firstWish_48 3 rfl ?_
      refine T_imul dX8_firstWish_50 ?_
      exact T_iret dX8_firstWish_51 rfl (h6.2 c8)
set_option maxHeartbeats 4000000 in
set_option maxRecDepth 100000 in
theorem B_X8_firstWish {l : Launch} {e : hv_Ev}  (x1 : Int32) {σ : hv_S} {Φ : Int32 → hv_S → Prop} (h : hv_CL l (hv_e1 e) 5 m_X6_chanceIf [.ref 21, .int x1, .int 0, .int (-1), .int (-1)] σ (fun v2 s1 => L_X8_firstWish_15 l e Φ x1 v2 0 s1)) : hv_CI l (hv_e1 e) 6 m_X8_firstWish [.ref 35, .int x1] σ Φ := by
  refine hv_entI (by decide) (Nat.le_of_ble_eq_true rfl) ?_
  show hv_TW l (hv_e1 e) (hv_rm 6) 0 0 m_X8_firstWish hv_no (hv_ZI (hv_e1 e) Φ) 0 [(0, .ref 35), (1, .int x1)] [] σ
  refine T_aload_n dX8_firstWish_0 rfl 0 rfl ?_
  refine T_get (v := .ref 21) dX8_firstWish_1 fl_X8_27 hp_35 hs_35 rfl rfl ?_
  refine T_iload_n dX8_firstWish_4 rfl 1 rfl ?_
  refine T_iconst (v := 0) dX8_firstWish_5 (by decide) ?_
  refine T_iconst (v := (-1)) dX8_firstWish_6 (by decide) ?_
  refine T_iconst (v := (-1)) dX8_firstWish_7 (by decide) ?_
  refine T_VL (As := [.int x1, .int 0, .int (-1), .int (-1)]) dX8_firstWish_8 mv_X8_65 hp_21 hs_21 rfl (Nat.le_of_ble_eq_true rfl) (hv_ok1 rfl) rfl h (fun v2 s1 h3 => ?_)
  refine T_lstore_n dX8_firstWish_11 rfl (by decide) rfl ?_
  refine T_iconst (v := 0) dX8_firstWish_12 (by decide) ?_
  refine T_istore dX8_firstWish_13 (by decide) rfl ?_
  exact T_sub [2, 3, 1, 0] rfl h3

def L_X8_bestMending_22 (l : Launch) (e : hv_Ev)  (Φ : Int32 → hv_S → Prop) (x1 : Int32) (x2 : Int32) (x3 : Int32) (x4 : Int32) (x5 : Int32) (y6 : Int64) (x8 : Int32) (x9 : Int32) (σ : hv_S) : Prop := hv_TW l (hv_e1 e) (hv_rm 6) 0 0 m_X8_bestMending hv_no (hv_ZI (hv_e1 e) Φ) 22 [(0, .ref 35), (1, .int x1), (2, .int x2), (3, .int x3), (4, .int x4), (5, .int x5), (6, .long y6), (8, .int x8), (9, .int x9)] [] σ
set_option maxHeartbeats 4000000 in
set_option maxRecDepth 100000 in
theorem B_X8_bestMending_22 {l : Launch} {e : hv_Ev}  (x1 : Int32) (x2 : Int32) (x3 : Int32) (x4 : Int32) (x5 : Int32) (y6 : Int64) (x8 : Int32) (x9 : Int32) {σ : hv_S} {Φ : Int32 → hv_S → Prop} (h : ((x8 < x9 → Φ x4 σ) ∧ (¬ x8 < x9 → hv_CI l (hv_e1 e) 0 m_J6_bitCount_0f7a4 [.int x9] σ (fun v5 s4 => (((x9 &&& (x8 ^^^ (-1))) ≠ 0 → L_X8_bestMending_22 l e Φ x1 x2 x3 x4 x5 y6 x8 (x9 + 1) s4) ∧ ((x9 &&& (x8 ^^^ (-1))) = 0 → ((v5 ≤ x3 → hv_CV l (hv_e1 e) 5 m_X6_reckon [.ref 21, .int x1, .int (s4.1 1 8), .int x9, .int (-1), .int (-1)] s4 (fun s7 => hv_CL l (hv_e1 e) 1 m_X6_highest [.ref 21] s7 (fun v11 s10 => ((v11 ≤ (x2.toInt64 * (s10.2.1 21 6)) → hv_CL l (hv_e1 e) 1 m_X6_chance [.ref 21, .int x1] s10 (fun v14 s13 => ((y6 < v14 → L_X8_bestMending_22 l e Φ x1 x2 x3 x9 v5 v14 x8 (x9 + 1) s13) ∧ (¬ y6 < v14 → ((v14 ≠ y6 → L_X8_bestMending_22 l e Φ x1 x2 x3 x4 x5 y6 x8 (x9 + 1) s13) ∧ (v14 = y6 → ((x5 ≤ v5 → L_X8_bestMending_22 l e Φ x1 x2 x3 x4 x5 y6 x8 (x9 + 1) s13) ∧ (¬ x5 ≤ v5 → L_X8_bestMending_22 l e Φ x1 x2 x3 x9 v5 v14 x8 (x9 + 1) s13)))))))) ∧ (¬ v11 ≤ (x2.toInt64 * (s10.2.1 21 6)) → L_X8_bestMending_22 l e Φ x1 x2 x3 x4 x5 y6 x8 (x9 + 1) s10))))) ∧ (¬ v5 ≤ x3 → L_X8_bestMending_22 l e Φ x1 x2 x3 x4 x5 y6 x8 (x9 + 1) s4)))))))) : L_X8_bestMending_22 l e Φ x1 x2 x3 x4 x5 y6 x8 x9 σ := by
  show hv_TW l (hv_e1 e) (hv_rm 6) 0 0 m_X8_bestMending hv_no (hv_ZI (hv_e1 e) Φ) 22 [(0, .ref 35), (1, .int x1), (2, .int x2), (3, .int x3), (4, .int x4), (5, .int x5), (6, .long y6), (8, .int x8), (9, .int x9)] [] σ
  refine T_iload dX8_bestMending_22 8 rfl ?_
  refine T_iload dX8_bestMending_24 7 rfl ?_
  refine T_icmp_gt (tgt := 149) dX8_bestMending_26 (by decide) (fun c16 => ?_) (fun c16 => ?_)
  · refine T_iload dX8_bestMending_149 4 rfl ?_
    exact T_iret dX8_bestMending_151 rfl (h.1 c16)
  · refine T_iload dX8_bestMending_29 8 rfl ?_
    refine T_SI (As := [.int x9]) dX8_bestMending_31 ms_X8_75 rfl (Nat.le_of_ble_eq_true rfl) (hv_ok1 rfl) rfl (h.2 c16) (fun v5 s4 h6 => ?_)
    refine T_istore dX8_bestMending_34 (by decide) rfl ?_
    refine T_iload dX8_bestMending_36 9 rfl ?_
    refine T_iload dX8_bestMending_38 8 rfl ?_
    refine T_iconst (v := (-1)) dX8_bestMending_40 (by decide) ?_
    refine T_ixor dX8_bestMending_41 ?_
    refine T_iand dX8_bestMending_42 ?_
    refine T_if_ne (tgt := 143) dX8_bestMending_43 (by decide) (fun c17 => ?_) (fun c17 => ?_)
    · refine T_iinc (v := (x9 + 1)) dX8_bestMending_143 9 rfl rfl (by decide) rfl ?_
      refine T_goto (tgt := 22) dX8_bestMending_146 (by decide) ?_
      exact T_sub [2, 3, 4, 5, 6, 7, 8, 9, 0] rfl (h6.1 c17)
    · refine T_iload dX8_bestMending_46 0 rfl ?_
      refine T_iload_n dX8_bestMending_48 rfl 4 rfl ?_
      refine T_icmp_le (tgt := 55) dX8_bestMending_49 (by decide) (fun c18 => ?_) (fun c18 => ?_)
      · refine T_aload_n dX8_bestMending_55 rfl 1 rfl ?_
        refine T_get (v := .ref 21) dX8_bestMending_56 fl_X8_27 hp_35 hs_35 rfl rfl ?_
        refine T_iload_n dX8_bestMending_59 rfl 2 rfl ?_
        refine T_aload_n dX8_bestMending_60 rfl 1 rfl ?_
        refine T_get (v := .ref 1) dX8_bestMending_61 fl_X8_15 hp_35 hs_35 rfl rfl ?_
        refine T_get (v := .int (s4.1 1 8)) dX8_bestMending_64 fl_X8_31 hp_1 hs_1 rfl rfl ?_
        refine T_iload dX8_bestMending_67 9 rfl ?_
        refine T_iconst (v := (-1)) dX8_bestMending_69 (by decide) ?_
        refine T_iconst (v := (-1)) dX8_bestMending_70 (by decide) ?_
        refine T_VV (As := [.int x1, .int (s4.1 1 8), .int x9, .int (-1), .int (-1)]) dX8_bestMending_71 mv_X8_37 hp_21 hs_21 rfl (Nat.le_of_ble_eq_true rfl) (hv_ok1 rfl) rfl ((h6.2 c17).1 c18) (fun s7 h9 => ?_)
        refine T_aload_n dX8_bestMending_74 rfl 1 rfl ?_
        refine T_get (v := .ref 21) dX8_bestMending_75 fl_X8_27 hp_35 hs_35 rfl rfl ?_
        refine T_VL (As := []) dX8_bestMending_78 mv_X8_80 hp_21 hs_21 rfl (Nat.le_of_ble_eq_true rfl) (hv_ok1 rfl) rfl h9 (fun v11 s10 h12 => ?_)
        refine T_iload_n dX8_bestMending_81 rfl 3 rfl ?_
        refine T_i2l dX8_bestMending_82 ?_
        refine T_aload_n dX8_bestMending_83 rfl 1 rfl ?_
        refine T_get (v := .ref 21) dX8_bestMending_84 fl_X8_27 hp_35 hs_35 rfl rfl ?_
        refine T_get (v := .long (s10.2.1 21 6)) dX8_bestMending_87 fl_X8_43 hp_21 hs_21 rfl rfl ?_
        refine T_lmul dX8_bestMending_90 ?_
        refine T_lc_le (tgt := 98) dX8_bestMending_91 dX8_bestMending_92 (by decide) (fun c19 => ?_) (fun c19 => ?_)
        · refine T_aload_n dX8_bestMending_98 rfl 1 rfl ?_
          refine T_get (v := .ref 21) dX8_bestMending_99 fl_X8_27 hp_35 hs_35 rfl rfl ?_
          refine T_iload_n dX8_bestMending_102 rfl 2 rfl ?_
          refine T_VL (As := [.int x1]) dX8_bestMending_103 mv_X8_84 hp_21 hs_21 rfl (Nat.le_of_ble_eq_true rfl) (hv_ok1 rfl) rfl (h12.1 c19) (fun v14 s13 h15 => ?_)
          refine T_lstore dX8_bestMending_106 (by decide) rfl ?_
          refine T_lload dX8_bestMending_108 0 rfl ?_
          refine T_lload dX8_bestMending_110 8 rfl ?_
          refine T_lc_gt (tgt := 131) dX8_bestMending_112 dX8_bestMending_113 (by decide) (fun c20 => ?_) (fun c20 => ?_)
          · refine T_iload dX8_bestMending_131 10 rfl ?_
            refine T_istore dX8_bestMending_133 (by decide) rfl ?_
            refine T_iload dX8_bestMending_135 2 rfl ?_
            refine T_istore dX8_bestMending_137 (by decide) rfl ?_
            refine T_lload dX8_bestMending_139 2 rfl ?_
            refine T_lstore dX8_bestMending_141 (by decide) rfl ?_
            refine T_iinc (v := (x9 + 1)) dX8_bestMending_143 10 rfl rfl (by decide) rfl ?_
            refine T_goto (tgt := 22) dX8_bestMending_146 (by decide) ?_
            exact T_sub [6, 7, 8, 9, 3, 2, 1, 10, 0] rfl (h15.1 c20)
          · refine T_lload dX8_bestMending_116 0 rfl ?_
            refine T_lload dX8_bestMending_118 8 rfl ?_
            refine T_lc_ne (tgt := 143) dX8_bestMending_120 dX8_bestMending_121 (by decide) (fun c21 => ?_) (fun c21 => ?_)
            · refine T_iinc (v := (x9 + 1)) dX8_bestMending_143 10 rfl rfl (by decide) rfl ?_
              refine T_goto (tgt := 22) dX8_bestMending_146 (by decide) ?_
              exact T_sub [3, 4, 5, 6, 7, 8, 9, 10, 0] rfl ((h15.2 c20).1 c21)
            · refine T_iload dX8_bestMending_124 1 rfl ?_
              refine T_iload dX8_bestMending_126 7 rfl ?_
              refine T_icmp_ge (tgt := 143) dX8_bestMending_128 (by decide) (fun c22 => ?_) (fun c22 => ?_)
              · refine T_iinc (v := (x9 + 1)) dX8_bestMending_143 10 rfl rfl (by decide) rfl ?_
                refine T_goto (tgt := 22) dX8_bestMending_146 (by decide) ?_
                exact T_sub [3, 4, 5, 6, 7, 8, 9, 10, 0] rfl (((h15.2 c20).2 c21).1 c22)
              · refine T_iload dX8_bestMending_131 10 rfl ?_
                refine T_istore dX8_bestMending_133 (by decide) rfl ?_
                refine T_iload dX8_bestMending_135 2 rfl ?_
                refine T_istore dX8_bestMending_137 (by decide) rfl ?_
                refine T_lload dX8_bestMending_139 2 rfl ?_
                refine T_lstore dX8_bestMending_141 (by decide) rfl ?_
                refine T_iinc (v := (x9 + 1)) dX8_bestMending_143 10 rfl rfl (by decide) rfl ?_
                refine T_goto (tgt := 22) dX8_bestMending_146 (by decide) ?_
                exact T_sub [6, 7, 8, 9, 3, 2, 1, 10, 0] rfl (((h15.2 c20).2 c21).2 c22)
        · refine T_goto (tgt := 143) dX8_bestMending_95 (by decide) ?_
          refine T_iinc (v := (x9 + 1)) dX8_bestMending_143 9 rfl rfl (by decide) rfl ?_
          refine T_goto (tgt := 22) dX8_bestMending_146 (by decide) ?_
          exact T_sub [2, 3, 4, 5, 6, 7, 8, 9, 0] rfl (h12.2 c19)
      · refine T_goto (tgt := 143) dX8_bestMending_52 (by decide) ?_
        refine T_iinc (v := (x9 + 1)) dX8_bestMending_143 9 rfl rfl (by decide) rfl ?_
        refine T_goto (tgt := 22) dX8_bestMending_146 (by decide) ?_
        exact T_sub [2, 3, 4, 5, 6, 7, 8, 9, 0] rfl ((h6.2 c17).2 c18)
set_option maxHeartbeats 4000000 in
set_option maxRecDepth 100000 in
theorem B_X8_bestMending {l : Launch} {e : hv_Ev}  (x1 : Int32) (x2 : Int32) (x3 : Int32) {σ : hv_S} {Φ : Int32 → hv_S → Prop} (h : hv_CI l (hv_e1 e) 1 m_X8_movers [.ref 35, .int x1] σ (fun v2 s1 => L_X8_bestMending_22 l e Φ x1 x2 x3 (-5) 0 (-1) v2 0 s1)) : hv_CI l (hv_e1 e) 6 m_X8_bestMending [.ref 35, .int x1, .int x2, .int x3] σ Φ := by
  refine hv_entI (by decide) (Nat.le_of_ble_eq_true rfl) ?_
  show hv_TW l (hv_e1 e) (hv_rm 6) 0 0 m_X8_bestMending hv_no (hv_ZI (hv_e1 e) Φ) 0 [(0, .ref 35), (1, .int x1), (2, .int x2), (3, .int x3)] [] σ
  refine T_bipush (v := (-5)) dX8_bestMending_0 (by decide) ?_
  refine T_istore dX8_bestMending_2 (by decide) rfl ?_
  refine T_iconst (v := 0) dX8_bestMending_4 (by decide) ?_
  refine T_istore dX8_bestMending_5 (by decide) rfl ?_
  refine T_ldc2 dX8_bestMending_7 kl_X8_69 ?_
  refine T_lstore dX8_bestMending_10 (by decide) rfl ?_
  refine T_aload_n dX8_bestMending_12 rfl 3 rfl ?_
  refine T_iload_n dX8_bestMending_13 rfl 4 rfl ?_
  refine T_VI (As := [.int x1]) dX8_bestMending_14 mv_X8_71 hp_35 hs_35 rfl (Nat.le_of_ble_eq_true rfl) (hv_ok1 rfl) rfl h (fun v2 s1 h3 => ?_)
  refine T_istore dX8_bestMending_17 (by decide) rfl ?_
  refine T_iconst (v := 0) dX8_bestMending_19 (by decide) ?_
  refine T_istore dX8_bestMending_20 (by decide) rfl ?_
  exact T_sub [5, 6, 7, 8, 4, 3, 2, 1, 0] rfl h3

set_option maxHeartbeats 4000000 in
set_option maxRecDepth 100000 in
theorem B_X8_decidedAt {l : Launch} {e : hv_Ev}  (x1 : Int32) (x2 : Int32) {σ : hv_S} {Φ : Int32 → hv_S → Prop} (h : hv_CV l (hv_e1 e) 4 m_X5_lay [.ref 18, .int x1, .int x2, .int 0, .int (-1), .int (-1)] σ (fun s1 => hv_CV l (hv_e1 e) 2 m_X6_weigh [.ref 21] s1 (fun s4 => (vp_in x1 3 ∧ hv_CL l (hv_e1 e) 0 m_X6_sumOf [.ref 21, .int (s4.1 2 x1.toNatClampNeg)] s4 (fun v8 s7 => hv_CI l (hv_e1 e) 0 m_X6_decides [.ref 21, .long v8] s7 (fun v11 s10 => ((v11 = 0 ∨ v11 = 1) ∧ Φ v11 s10))))))) : hv_CI l (hv_e1 e) 5 m_X8_decidedAt [.ref 35, .int x1, .int x2] σ Φ := by
  refine hv_entI (by decide) (Nat.le_of_ble_eq_true rfl) ?_
  show hv_TW l (hv_e1 e) (hv_rm 5) 0 0 m_X8_decidedAt hv_no (hv_ZI (hv_e1 e) Φ) 0 [(0, .ref 35), (1, .int x1), (2, .int x2)] [] σ
  refine T_aload_n dX8_decidedAt_0 rfl 0 rfl ?_
  refine T_get (v := .ref 18) dX8_decidedAt_1 fl_X8_23 hp_35 hs_35 rfl rfl ?_
  refine T_iload_n dX8_decidedAt_4 rfl 1 rfl ?_
  refine T_iload_n dX8_decidedAt_5 rfl 2 rfl ?_
  refine T_iconst (v := 0) dX8_decidedAt_6 (by decide) ?_
  refine T_iconst (v := (-1)) dX8_decidedAt_7 (by decide) ?_
  refine T_iconst (v := (-1)) dX8_decidedAt_8 (by decide) ?_
  refine T_VV (As := [.int x1, .int x2, .int 0, .int (-1), .int (-1)]) dX8_decidedAt_9 mv_X8_102 hp_18 hs_18 rfl (Nat.le_of_ble_eq_true rfl) (hv_ok1 rfl) rfl h (fun s1 h3 => ?_)
  refine T_aload_n dX8_decidedAt_12 rfl 0 rfl ?_
  refine T_get (v := .ref 21) dX8_decidedAt_13 fl_X8_27 hp_35 hs_35 rfl rfl ?_
  refine T_VV (As := []) dX8_decidedAt_16 mv_X8_105 hp_21 hs_21 rfl (Nat.le_of_ble_eq_true rfl) (hv_ok1 rfl) rfl h3 (fun s4 h6 => ?_)
  refine T_aload_n dX8_decidedAt_19 rfl 0 rfl ?_
  refine T_get (v := .ref 21) dX8_decidedAt_20 fl_X8_27 hp_35 hs_35 rfl rfl ?_
  refine T_aload_n dX8_decidedAt_23 rfl 0 rfl ?_
  refine T_get (v := .ref 21) dX8_decidedAt_24 fl_X8_27 hp_35 hs_35 rfl rfl ?_
  refine T_aload_n dX8_decidedAt_27 rfl 0 rfl ?_
  refine T_get (v := .ref 1) dX8_decidedAt_28 fl_X8_15 hp_35 hs_35 rfl rfl ?_
  refine T_get (v := .ref 2) dX8_decidedAt_31 fl_X8_108 hp_1 hs_1 rfl rfl ?_
  refine T_iload_n dX8_decidedAt_34 rfl 1 rfl ?_
  refine T_iald dX8_decidedAt_35 hp_2 hs_2 h6.1 ?_
  refine T_VL (As := [.int (s4.1 2 x1.toNatClampNeg)]) dX8_decidedAt_36 mv_X8_111 hp_21 hs_21 rfl (Nat.le_of_ble_eq_true rfl) (hv_ok1 rfl) rfl h6.2 (fun v8 s7 h9 => ?_)
  refine T_VI (As := [.long v8]) dX8_decidedAt_39 mv_X8_114 hp_21 hs_21 rfl (Nat.le_of_ble_eq_true rfl) (hv_ok1 rfl) rfl h9 (fun v11 s10 h12 => ?_)
  exact T_zret dX8_decidedAt_42 rfl h12.1 h12.2

def L_X8_lastOtherwise_33 (l : Launch) (e : hv_Ev)  (Φ : Int32 → hv_S → Prop) (x1 : Int32) (x2 : Int32) (x3 : Int32) (x4 : Int32) (σ : hv_S) : Prop := hv_TW l (hv_e1 e) (hv_rm 6) 0 0 m_X8_lastOtherwise hv_no (hv_ZI (hv_e1 e) Φ) 33 [(0, .ref 35), (1, .int x1), (2, .int x2), (3, .int x3), (4, .int x4)] [] σ
set_option maxHeartbeats 4000000 in
set_option maxRecDepth 100000 in
theorem B_X8_lastOtherwise_33 {l : Launch} {e : hv_Ev}  (x1 : Int32) (x2 : Int32) (x3 : Int32) (x4 : Int32) {σ : hv_S} {Φ : Int32 → hv_S → Prop} (h : ((x4 ≤ (σ.1 1 8) → Φ (-5) σ) ∧ (¬ x4 ≤ (σ.1 1 8) → hv_CI l (hv_e1 e) 1 m_X2_takenBackAt [.ref 1, .int x1, .int x4] σ (fun v8 s7 => ((v8 ≠ x3 → hv_CI l (hv_e1 e) 5 m_X8_decidedAt [.ref 35, .int x1, .int x4] s7 (fun v11 s10 => ((v11 = x2 → L_X8_lastOtherwise_33 l e Φ x1 x2 v8 (x4 + (-1)) s10) ∧ (¬ v11 = x2 → Φ x4 s10)))) ∧ (v8 = x3 → L_X8_lastOtherwise_33 l e Φ x1 x2 x3 (x4 + (-1)) s7)))))) : L_X8_lastOtherwise_33 l e Φ x1 x2 x3 x4 σ := by
  show hv_TW l (hv_e1 e) (hv_rm 6) 0 0 m_X8_lastOtherwise hv_no (hv_ZI (hv_e1 e) Φ) 33 [(0, .ref 35), (1, .int x1), (2, .int x2), (3, .int x3), (4, .int x4)] [] σ
  refine T_iload dX8_lastOtherwise_33 4 rfl ?_
  refine T_aload_n dX8_lastOtherwise_35 rfl 0 rfl ?_
  refine T_get (v := .ref 1) dX8_lastOtherwise_36 fl_X8_15 hp_35 hs_35 rfl rfl ?_
  refine T_get (v := .int (σ.1 1 8)) dX8_lastOtherwise_39 fl_X8_31 hp_1 hs_1 rfl rfl ?_
  refine T_icmp_le (tgt := 89) dX8_lastOtherwise_42 (by decide) (fun c13 => ?_) (fun c13 => ?_)
  · refine T_bipush (v := (-5)) dX8_lastOtherwise_89 (by decide) ?_
    exact T_iret dX8_lastOtherwise_91 rfl (h.1 c13)
  · refine T_aload_n dX8_lastOtherwise_45 rfl 0 rfl ?_
    refine T_get (v := .ref 1) dX8_lastOtherwise_46 fl_X8_15 hp_35 hs_35 rfl rfl ?_
    refine T_iload_n dX8_lastOtherwise_49 rfl 1 rfl ?_
    refine T_iload dX8_lastOtherwise_50 4 rfl ?_
    refine T_VI (As := [.int x1, .int x4]) dX8_lastOtherwise_52 mv_X8_99 hp_1 hs_1 rfl (Nat.le_of_ble_eq_true rfl) (hv_ok1 rfl) rfl (h.2 c13) (fun v8 s7 h9 => ?_)
    refine T_istore dX8_lastOtherwise_55 (by decide) rfl ?_
    refine T_iload dX8_lastOtherwise_57 0 rfl ?_
    refine T_iload_n dX8_lastOtherwise_59 rfl 4 rfl ?_
    refine T_icmp_ne (tgt := 66) dX8_lastOtherwise_60 (by decide) (fun c14 => ?_) (fun c14 => ?_)
    · refine T_iload dX8_lastOtherwise_66 0 rfl ?_
      refine T_istore_n dX8_lastOtherwise_68 rfl (by decide) rfl ?_
      refine T_aload_n dX8_lastOtherwise_69 rfl 2 rfl ?_
      refine T_iload_n dX8_lastOtherwise_70 rfl 3 rfl ?_
      refine T_iload dX8_lastOtherwise_71 5 rfl ?_
      refine T_VI (As := [.int x1, .int x4]) dX8_lastOtherwise_73 mv_X8_96 hp_35 hs_35 rfl (Nat.le_of_ble_eq_true rfl) (hv_ok1 rfl) rfl (h9.1 c14) (fun v11 s10 h12 => ?_)
      refine T_iload_n dX8_lastOtherwise_76 rfl 4 rfl ?_
      refine T_icmp_eq (tgt := 83) dX8_lastOtherwise_77 (by decide) (fun c15 => ?_) (fun c15 => ?_)
      · refine T_iinc (v := (x4 + (-1))) dX8_lastOtherwise_83 5 rfl rfl (by decide) rfl ?_
        refine T_goto (tgt := 33) dX8_lastOtherwise_86 (by decide) ?_
        exact T_sub [3, 4, 5, 1, 0] rfl (h12.1 c15)
      · refine T_iload dX8_lastOtherwise_80 5 rfl ?_
        exact T_iret dX8_lastOtherwise_82 rfl (h12.2 c15)
    · refine T_goto (tgt := 83) dX8_lastOtherwise_63 (by decide) ?_
      refine T_iinc (v := (x4 + (-1))) dX8_lastOtherwise_83 5 rfl rfl (by decide) rfl ?_
      refine T_goto (tgt := 33) dX8_lastOtherwise_86 (by decide) ?_
      exact T_sub [2, 3, 4, 5, 0] rfl (h9.2 c14)
set_option maxHeartbeats 4000000 in
set_option maxRecDepth 100000 in
theorem B_X8_lastOtherwise {l : Launch} {e : hv_Ev}  (x1 : Int32) {σ : hv_S} {Φ : Int32 → hv_S → Prop} (h : hv_CI l (hv_e1 e) 5 m_X8_decidedAt [.ref 35, .int x1, .int (σ.1 1 8)] σ (fun v2 s1 => hv_CI l (hv_e1 e) 1 m_X2_takenBackAt [.ref 1, .int x1, .int (s1.1 1 8)] s1 (fun v5 s4 => L_X8_lastOtherwise_33 l e Φ x1 v2 v5 99 s4))) : hv_CI l (hv_e1 e) 6 m_X8_lastOtherwise [.ref 35, .int x1] σ Φ := by
  refine hv_entI (by decide) (Nat.le_of_ble_eq_true rfl) ?_
  show hv_TW l (hv_e1 e) (hv_rm 6) 0 0 m_X8_lastOtherwise hv_no (hv_ZI (hv_e1 e) Φ) 0 [(0, .ref 35), (1, .int x1)] [] σ
  refine T_aload_n dX8_lastOtherwise_0 rfl 0 rfl ?_
  refine T_iload_n dX8_lastOtherwise_1 rfl 1 rfl ?_
  refine T_aload_n dX8_lastOtherwise_2 rfl 0 rfl ?_
  refine T_get (v := .ref 1) dX8_lastOtherwise_3 fl_X8_15 hp_35 hs_35 rfl rfl ?_
  refine T_get (v := .int (σ.1 1 8)) dX8_lastOtherwise_6 fl_X8_31 hp_1 hs_1 rfl rfl ?_
  refine T_VI (As := [.int x1, .int (σ.1 1 8)]) dX8_lastOtherwise_9 mv_X8_96 hp_35 hs_35 rfl (Nat.le_of_ble_eq_true rfl) (hv_ok1 rfl) rfl h (fun v2 s1 h3 => ?_)
  refine T_istore_n dX8_lastOtherwise_12 rfl (by decide) rfl ?_
  refine T_aload_n dX8_lastOtherwise_13 rfl 1 rfl ?_
  refine T_get (v := .ref 1) dX8_lastOtherwise_14 fl_X8_15 hp_35 hs_35 rfl rfl ?_
  refine T_iload_n dX8_lastOtherwise_17 rfl 2 rfl ?_
  refine T_aload_n dX8_lastOtherwise_18 rfl 1 rfl ?_
  refine T_get (v := .ref 1) dX8_lastOtherwise_19 fl_X8_15 hp_35 hs_35 rfl rfl ?_
  refine T_get (v := .int (s1.1 1 8)) dX8_lastOtherwise_22 fl_X8_31 hp_1 hs_1 rfl rfl ?_
  refine T_VI (As := [.int x1, .int (s1.1 1 8)]) dX8_lastOtherwise_25 mv_X8_99 hp_1 hs_1 rfl (Nat.le_of_ble_eq_true rfl) (hv_ok1 rfl) rfl h3 (fun v5 s4 h6 => ?_)
  refine T_istore_n dX8_lastOtherwise_28 rfl (by decide) rfl ?_
  refine T_bipush (v := 99) dX8_lastOtherwise_29 (by decide) ?_
  refine T_istore dX8_lastOtherwise_31 (by decide) rfl ?_
  exact T_sub [3, 4, 2, 1, 0] rfl h6

def L_X8_fewestToWin_38 (l : Launch) (e : hv_Ev)  (Φ : Int32 → hv_S → Prop) (x1 : Int32) (x2 : Int32) (x3 : Int32) (x4 : Int32) (x5 : Int32) (x6 : Int32) (σ : hv_S) : Prop := hv_TW l (hv_e1 e) (hv_rm 6) 0 0 m_X8_fewestToWin hv_no (hv_ZI (hv_e1 e) Φ) 38 [(0, .ref 35), (1, .int x1), (2, .int x2), (3, .int x3), (4, .int x4), (5, .int x5), (6, .int x6)] [] σ
set_option maxHeartbeats 4000000 in
set_option maxRecDepth 100000 in
theorem B_X8_fewestToWin_38 {l : Launch} {e : hv_Ev}  (x1 : Int32) (x2 : Int32) (x3 : Int32) (x4 : Int32) (x5 : Int32) (x6 : Int32) {σ : hv_S} {Φ : Int32 → hv_S → Prop} (h : ((x5 < x6 → Φ x2 σ) ∧ (¬ x5 < x6 → hv_CI l (hv_e1 e) 0 m_J6_bitCount_0f7a4 [.int x6] σ (fun v3 s2 => (((x6 &&& (x5 ^^^ (-1))) ≠ 0 → L_X8_fewestToWin_38 l e Φ x1 x2 x3 x4 x5 (x6 + 1) s2) ∧ ((x6 &&& (x5 ^^^ (-1))) = 0 → ((v3 < x3 → hv_CV l (hv_e1 e) 5 m_X6_reckon [.ref 21, .int x1, .int (s2.1 1 8), .int x6, .int (-1), .int (-1)] s2 (fun s5 => hv_CL l (hv_e1 e) 0 m_X6_sumOf [.ref 21, .int (x4 ||| x6)] s5 (fun v9 s8 => hv_CI l (hv_e1 e) 0 m_X6_decides [.ref 21, .long v9] s8 (fun v12 s11 => ((v12 = 0 → L_X8_fewestToWin_38 l e Φ x1 x2 x3 x4 x5 (x6 + 1) s11) ∧ (¬ v12 = 0 → L_X8_fewestToWin_38 l e Φ x1 x6 v3 x4 x5 (x6 + 1) s11)))))) ∧ (¬ v3 < x3 → L_X8_fewestToWin_38 l e Φ x1 x2 x3 x4 x5 (x6 + 1) s2)))))))) : L_X8_fewestToWin_38 l e Φ x1 x2 x3 x4 x5 x6 σ := by
  show hv_TW l (hv_e1 e) (hv_rm 6) 0 0 m_X8_fewestToWin hv_no (hv_ZI (hv_e1 e) Φ) 38 [(0, .ref 35), (1, .int x1), (2, .int x2), (3, .int x3), (4, .int x4), (5, .int x5), (6, .int x6)] [] σ
  refine T_iload dX8_fewestToWin_38 6 rfl ?_
  refine T_iload dX8_fewestToWin_40 5 rfl ?_
  refine T_icmp_gt (tgt := 124) dX8_fewestToWin_42 (by decide) (fun c14 => ?_) (fun c14 => ?_)
  · refine T_iload_n dX8_fewestToWin_124 rfl 2 rfl ?_
    exact T_iret dX8_fewestToWin_125 rfl (h.1 c14)
  · refine T_iload dX8_fewestToWin_45 6 rfl ?_
    refine T_SI (As := [.int x6]) dX8_fewestToWin_47 ms_X8_75 rfl (Nat.le_of_ble_eq_true rfl) (hv_ok1 rfl) rfl (h.2 c14) (fun v3 s2 h4 => ?_)
    refine T_istore dX8_fewestToWin_50 (by decide) rfl ?_
    refine T_iload dX8_fewestToWin_52 7 rfl ?_
    refine T_iload dX8_fewestToWin_54 6 rfl ?_
    refine T_iconst (v := (-1)) dX8_fewestToWin_56 (by decide) ?_
    refine T_ixor dX8_fewestToWin_57 ?_
    refine T_iand dX8_fewestToWin_58 ?_
    refine T_if_ne (tgt := 118) dX8_fewestToWin_59 (by decide) (fun c15 => ?_) (fun c15 => ?_)
    · refine T_iinc (v := (x6 + 1)) dX8_fewestToWin_118 7 rfl rfl (by decide) rfl ?_
      refine T_goto (tgt := 38) dX8_fewestToWin_121 (by decide) ?_
      exact T_sub [2, 3, 4, 5, 6, 7, 0] rfl (h4.1 c15)
    · refine T_iload dX8_fewestToWin_62 0 rfl ?_
      refine T_iload_n dX8_fewestToWin_64 rfl 4 rfl ?_
      refine T_icmp_lt (tgt := 71) dX8_fewestToWin_65 (by decide) (fun c16 => ?_) (fun c16 => ?_)
      · refine T_aload_n dX8_fewestToWin_71 rfl 1 rfl ?_
        refine T_get (v := .ref 21) dX8_fewestToWin_72 fl_X8_27 hp_35 hs_35 rfl rfl ?_
        refine T_iload_n dX8_fewestToWin_75 rfl 2 rfl ?_
        refine T_aload_n dX8_fewestToWin_76 rfl 1 rfl ?_
        refine T_get (v := .ref 1) dX8_fewestToWin_77 fl_X8_15 hp_35 hs_35 rfl rfl ?_
        refine T_get (v := .int (s2.1 1 8)) dX8_fewestToWin_80 fl_X8_31 hp_1 hs_1 rfl rfl ?_
        refine T_iload dX8_fewestToWin_83 7 rfl ?_
        refine T_iconst (v := (-1)) dX8_fewestToWin_85 (by decide) ?_
        refine T_iconst (v := (-1)) dX8_fewestToWin_86 (by decide) ?_
        refine T_VV (As := [.int x1, .int (s2.1 1 8), .int x6, .int (-1), .int (-1)]) dX8_fewestToWin_87 mv_X8_37 hp_21 hs_21 rfl (Nat.le_of_ble_eq_true rfl) (hv_ok1 rfl) rfl ((h4.2 c15).1 c16) (fun s5 h7 => ?_)
        refine T_aload_n dX8_fewestToWin_90 rfl 1 rfl ?_
        refine T_get (v := .ref 21) dX8_fewestToWin_91 fl_X8_27 hp_35 hs_35 rfl rfl ?_
        refine T_aload_n dX8_fewestToWin_94 rfl 1 rfl ?_
        refine T_get (v := .ref 21) dX8_fewestToWin_95 fl_X8_27 hp_35 hs_35 rfl rfl ?_
        refine T_iload dX8_fewestToWin_98 5 rfl ?_
        refine T_iload dX8_fewestToWin_100 7 rfl ?_
        refine T_ior dX8_fewestToWin_102 ?_
        refine T_VL (As := [.int (x4 ||| x6)]) dX8_fewestToWin_103 mv_X8_111 hp_21 hs_21 rfl (Nat.le_of_ble_eq_true rfl) (hv_ok1 rfl) rfl h7 (fun v9 s8 h10 => ?_)
        refine T_VI (As := [.long v9]) dX8_fewestToWin_106 mv_X8_114 hp_21 hs_21 rfl (Nat.le_of_ble_eq_true rfl) (hv_ok1 rfl) rfl h10 (fun v12 s11 h13 => ?_)
        refine T_if_eq (tgt := 118) dX8_fewestToWin_109 (by decide) (fun c17 => ?_) (fun c17 => ?_)
        · refine T_iinc (v := (x6 + 1)) dX8_fewestToWin_118 7 rfl rfl (by decide) rfl ?_
          refine T_goto (tgt := 38) dX8_fewestToWin_121 (by decide) ?_
          exact T_sub [2, 3, 4, 5, 6, 7, 0] rfl (h13.1 c17)
        · refine T_iload dX8_fewestToWin_112 7 rfl ?_
          refine T_istore_n dX8_fewestToWin_114 rfl (by decide) rfl ?_
          refine T_iload dX8_fewestToWin_115 1 rfl ?_
          refine T_istore_n dX8_fewestToWin_117 rfl (by decide) rfl ?_
          refine T_iinc (v := (x6 + 1)) dX8_fewestToWin_118 7 rfl rfl (by decide) rfl ?_
          refine T_goto (tgt := 38) dX8_fewestToWin_121 (by decide) ?_
          exact T_sub [4, 5, 2, 1, 6, 7, 0] rfl (h13.2 c17)
      · refine T_goto (tgt := 118) dX8_fewestToWin_68 (by decide) ?_
        refine T_iinc (v := (x6 + 1)) dX8_fewestToWin_118 7 rfl rfl (by decide) rfl ?_
        refine T_goto (tgt := 38) dX8_fewestToWin_121 (by decide) ?_
        exact T_sub [2, 3, 4, 5, 6, 7, 0] rfl ((h4.2 c15).2 c16)
set_option maxHeartbeats 4000000 in
set_option maxRecDepth 100000 in
theorem B_X8_fewestToWin {l : Launch} {e : hv_Ev}  (x1 : Int32) {σ : hv_S} {Φ : Int32 → hv_S → Prop} (h : (vp_in x1 3 ∧ (∀ z1 : Int32, z1 = ((((1 : Int32) <<< ((σ.1 1 7) &&& 31)) - 1) &&& ((σ.1 2 x1.toNatClampNeg) ^^^ (-1))) → L_X8_fewestToWin_38 l e Φ x1 (-5) 9 (σ.1 2 x1.toNatClampNeg) z1 0 σ))) : hv_CI l (hv_e1 e) 6 m_X8_fewestToWin [.ref 35, .int x1] σ Φ := by
  refine hv_entI (by decide) (Nat.le_of_ble_eq_true rfl) ?_
  show hv_TW l (hv_e1 e) (hv_rm 6) 0 0 m_X8_fewestToWin hv_no (hv_ZI (hv_e1 e) Φ) 0 [(0, .ref 35), (1, .int x1)] [] σ
  refine T_bipush (v := (-5)) dX8_fewestToWin_0 (by decide) ?_
  refine T_istore_n dX8_fewestToWin_2 rfl (by decide) rfl ?_
  refine T_bipush (v := 9) dX8_fewestToWin_3 (by decide) ?_
  refine T_istore_n dX8_fewestToWin_5 rfl (by decide) rfl ?_
  refine T_aload_n dX8_fewestToWin_6 rfl 2 rfl ?_
  refine T_get (v := .ref 1) dX8_fewestToWin_7 fl_X8_15 hp_35 hs_35 rfl rfl ?_
  refine T_get (v := .ref 2) dX8_fewestToWin_10 fl_X8_108 hp_1 hs_1 rfl rfl ?_
  refine T_iload_n dX8_fewestToWin_13 rfl 3 rfl ?_
  refine T_iald dX8_fewestToWin_14 hp_2 hs_2 h.1 ?_
  refine T_istore dX8_fewestToWin_15 (by decide) rfl ?_
  refine T_iconst (v := 1) dX8_fewestToWin_17 (by decide) ?_
  refine T_aload_n dX8_fewestToWin_18 rfl 3 rfl ?_
  refine T_get (v := .ref 1) dX8_fewestToWin_19 fl_X8_15 hp_35 hs_35 rfl rfl ?_
  refine T_get (v := .int (σ.1 1 7)) dX8_fewestToWin_22 fl_X8_47 hp_1 hs_1 rfl rfl ?_
  refine T_ishl dX8_fewestToWin_25 ?_
  refine T_iconst (v := 1) dX8_fewestToWin_26 (by decide) ?_
  refine T_isub dX8_fewestToWin_27 ?_
  refine T_iload dX8_fewestToWin_28 0 rfl ?_
  refine T_iconst (v := (-1)) dX8_fewestToWin_30 (by decide) ?_
  refine T_ixor dX8_fewestToWin_31 ?_
  refine T_iand dX8_fewestToWin_32 ?_
  refine T_topi (fun z1 ez1 => ?_)
  refine T_istore dX8_fewestToWin_33 (by decide) rfl ?_
  refine T_iconst (v := 0) dX8_fewestToWin_35 (by decide) ?_
  refine T_istore dX8_fewestToWin_36 (by decide) rfl ?_
  exact T_sub [5, 6, 4, 3, 2, 1, 0] rfl (h.2 z1 ez1)

set_option maxHeartbeats 4000000 in
set_option maxRecDepth 100000 in
theorem B_X0_clear {l : Launch} {e : hv_Ev}   {σ : hv_S} {Φ : hv_S → Prop} (h : Φ (hv_ui σ 37 1 0)) : hv_CV l (hv_e1 e) 0 m_X0_clear [.ref 37] σ Φ := by
  refine hv_entV (by decide) (Nat.le_of_ble_eq_true rfl) ?_
  show hv_TW l (hv_e1 e) (hv_rm 0) 0 0 m_X0_clear hv_no (hv_ZV (hv_e1 e) Φ) 0 [(0, .ref 37)] [] σ
  refine T_aload_n dX0_clear_0 rfl 0 rfl ?_
  refine T_iconst (v := 0) dX0_clear_1 (by decide) ?_
  refine T_puti dX0_clear_2 fl_X0_15 pf_X0_1 hp_37 hs_37 rfl ?_
  exact T_vret dX0_clear_5 rfl h

set_option maxHeartbeats 4000000 in
set_option maxRecDepth 100000 in
theorem B_X0_kept {l : Launch} {e : hv_Ev}   {σ : hv_S} {Φ : Int32 → hv_S → Prop} (h : Φ (if 20 < (σ.1 37 1) then 20 else (σ.1 37 1)) σ) : hv_CI l (hv_e1 e) 1 m_X0_kept [.ref 37] σ Φ := by
  refine hv_entI (by decide) (Nat.le_of_ble_eq_true rfl) ?_
  show hv_TW l (hv_e1 e) (hv_rm 1) 0 0 m_X0_kept hv_no (hv_ZI (hv_e1 e) Φ) 0 [(0, .ref 37)] [] σ
  refine T_aload_n dX0_kept_0 rfl 0 rfl ?_
  refine T_get (v := .int (σ.1 37 1)) dX0_kept_1 fl_X0_15 hp_37 hs_37 rfl rfl ?_
  refine T_bipush (v := 20) dX0_kept_4 (by decide) ?_
  refine T_mmini dX0_kept_6 mm_X0_19 (hv_mr1 rfl) ?_
  exact T_iret dX0_kept_9 rfl h

set_option maxHeartbeats 4000000 in
set_option maxRecDepth 100000 in
theorem B_X0_begin {l : Launch} {e : hv_Ev}  (x1 : Int32) {σ : hv_S} {Φ : hv_S → Prop} (h : ((20 ≤ (σ.1 37 1) → Φ (hv_ui σ 37 1 ((σ.1 37 1) + 1))) ∧ (¬ 20 ≤ (σ.1 37 1) → (vp_in (σ.1 37 1) 20 ∧ Φ (hv_ui (hv_ui σ 38 ((σ.1 37 1).toNatClampNeg) x1) 37 1 ((σ.1 37 1) + 1)))))) : hv_CV l (hv_e1 e) 0 m_X0_begin [.ref 37, .int x1] σ Φ := by
  refine hv_entV (by decide) (Nat.le_of_ble_eq_true rfl) ?_
  show hv_TW l (hv_e1 e) (hv_rm 0) 0 0 m_X0_begin hv_no (hv_ZV (hv_e1 e) Φ) 0 [(0, .ref 37), (1, .int x1)] [] σ
  refine T_aload_n dX0_begin_0 rfl 0 rfl ?_
  refine T_get (v := .int (σ.1 37 1)) dX0_begin_1 fl_X0_15 hp_37 hs_37 rfl rfl ?_
  refine T_bipush (v := 20) dX0_begin_4 (by decide) ?_
  refine T_icmp_ge (tgt := 19) dX0_begin_6 (by decide) (fun c1 => ?_) (fun c1 => ?_)
  · refine T_aload_n dX0_begin_19 rfl 0 rfl ?_
    refine T_dup dX0_begin_20 rfl ?_
    refine T_get (v := .int (σ.1 37 1)) dX0_begin_21 fl_X0_15 hp_37 hs_37 rfl rfl ?_
    refine T_iconst (v := 1) dX0_begin_24 (by decide) ?_
    refine T_iadd dX0_begin_25 ?_
    refine T_puti dX0_begin_26 fl_X0_15 pf_X0_1 hp_37 hs_37 rfl ?_
    exact T_vret dX0_begin_29 rfl (h.1 c1)
  · refine T_aload_n dX0_begin_9 rfl 0 rfl ?_
    refine T_get (v := .ref 38) dX0_begin_10 fl_X0_11 hp_37 hs_37 rfl rfl ?_
    refine T_aload_n dX0_begin_13 rfl 0 rfl ?_
    refine T_get (v := .int (σ.1 37 1)) dX0_begin_14 fl_X0_15 hp_37 hs_37 rfl rfl ?_
    refine T_iload_n dX0_begin_17 rfl 1 rfl ?_
    refine T_iast dX0_begin_18 hp_38 hs_38 (h.2 c1).1 ?_
    refine T_aload_n dX0_begin_19 rfl 0 rfl ?_
    refine T_dup dX0_begin_20 rfl ?_
    refine T_get (v := .int (σ.1 37 1)) dX0_begin_21 fl_X0_15 hp_37 hs_37 rfl rfl ?_
    refine T_iconst (v := 1) dX0_begin_24 (by decide) ?_
    refine T_iadd dX0_begin_25 ?_
    refine T_puti dX0_begin_26 fl_X0_15 pf_X0_1 hp_37 hs_37 rfl ?_
    exact T_vret dX0_begin_29 rfl ((h.2 c1).2)

def L_X0_gives_34 (l : Launch) (e : hv_Ev)  (Φ : Int32 → hv_S → Prop) (x2 : Int32) (σ : hv_S) : Prop := hv_TW l (hv_e1 e) (hv_rm 1) 0 0 m_X0_gives hv_no (hv_ZI (hv_e1 e) Φ) 34 [(0, .ref 37), (2, .int x2)] [] σ
set_option maxHeartbeats 4000000 in
set_option maxRecDepth 100000 in
theorem B_X0_gives_34 {l : Launch} {e : hv_Ev}  (x2 : Int32) {σ : hv_S} {Φ : Int32 → hv_S → Prop} (h : hv_CV l (hv_e1 e) 0 m_X0_begin [.ref 37, .int 10] σ (fun s13 => (((s13.1 37 2) ≠ 4 → Φ (x2 + (s13.1 37 3)) s13) ∧ ((s13.1 37 2) = 4 → Φ ((x2 + (s13.1 37 3)) ^^^ (s13.1 37 4)) s13)))) : L_X0_gives_34 l e Φ x2 σ := by
  show hv_TW l (hv_e1 e) (hv_rm 1) 0 0 m_X0_gives hv_no (hv_ZI (hv_e1 e) Φ) 34 [(0, .ref 37), (2, .int x2)] [] σ
  refine T_aload_n dX0_gives_34 rfl 0 rfl ?_
  refine T_bipush (v := 10) dX0_gives_35 (by decide) ?_
  refine T_VV (As := [.int 10]) dX0_gives_37 mv_X0_44 hp_37 hs_37 rfl (Nat.le_of_ble_eq_true rfl) (hv_ok1 rfl) rfl h (fun s13 h15 => ?_)
  refine T_iload_n dX0_gives_40 rfl 1 rfl ?_
  refine T_aload_n dX0_gives_41 rfl 0 rfl ?_
  refine T_get (v := .int (s13.1 37 3)) dX0_gives_42 fl_X0_28 hp_37 hs_37 rfl rfl ?_
  refine T_iadd dX0_gives_45 ?_
  refine T_istore_n dX0_gives_46 rfl (by decide) rfl ?_
  refine T_aload_n dX0_gives_47 rfl 1 rfl ?_
  refine T_get (v := .int (s13.1 37 2)) dX0_gives_48 fl_X0_25 hp_37 hs_37 rfl rfl ?_
  refine T_iconst (v := 4) dX0_gives_51 (by decide) ?_
  refine T_icmp_ne (tgt := 64) dX0_gives_52 (by decide) (fun c16 => ?_) (fun c16 => ?_)
  · refine T_iload_n dX0_gives_64 rfl 0 rfl ?_
    exact T_iret dX0_gives_65 rfl (h15.1 c16)
  · refine T_iload_n dX0_gives_55 rfl 0 rfl ?_
    refine T_aload_n dX0_gives_56 rfl 1 rfl ?_
    refine T_get (v := .int (s13.1 37 4)) dX0_gives_57 fl_X0_31 hp_37 hs_37 rfl rfl ?_
    refine T_ixor dX0_gives_60 ?_
    refine T_goto (tgt := 65) dX0_gives_61 (by decide) ?_
    exact T_iret dX0_gives_65 rfl (h15.2 c16)
set_option maxHeartbeats 4000000 in
set_option maxRecDepth 100000 in
theorem B_X0_gives {l : Launch} {e : hv_Ev}  (x1 : Int32) {σ : hv_S} {Φ : Int32 → hv_S → Prop} (h : (((σ.1 37 2) ≠ 4 → (((σ.1 37 2) < 2 → L_X0_gives_34 l e Φ x1 σ) ∧ (¬ (σ.1 37 2) < 2 → hv_CV l (hv_e1 e) 0 m_X0_begin [.ref 37, .int 30] σ (fun s1 => L_X0_gives_34 l e Φ (x1 * 2) s1)))) ∧ ((σ.1 37 2) = 4 → hv_CV l (hv_e1 e) 0 m_X0_begin [.ref 37, .int 51] σ (fun s4 => (((s4.1 37 2) < 2 → L_X0_gives_34 l e Φ x1 s4) ∧ (¬ (s4.1 37 2) < 2 → hv_CV l (hv_e1 e) 0 m_X0_begin [.ref 37, .int 30] s4 (fun s7 => L_X0_gives_34 l e Φ (x1 * 2) s7))))))) : hv_CI l (hv_e1 e) 1 m_X0_gives [.ref 37, .int x1] σ Φ := by
  refine hv_entI (by decide) (Nat.le_of_ble_eq_true rfl) ?_
  show hv_TW l (hv_e1 e) (hv_rm 1) 0 0 m_X0_gives hv_no (hv_ZI (hv_e1 e) Φ) 0 [(0, .ref 37), (1, .int x1)] [] σ
  refine T_iload_n dX0_gives_0 rfl 1 rfl ?_
  refine T_istore_n dX0_gives_1 rfl (by decide) rfl ?_
  refine T_aload_n dX0_gives_2 rfl 1 rfl ?_
  refine T_get (v := .int (σ.1 37 2)) dX0_gives_3 fl_X0_25 hp_37 hs_37 rfl rfl ?_
  refine T_iconst (v := 4) dX0_gives_6 (by decide) ?_
  refine T_icmp_ne (tgt := 16) dX0_gives_7 (by decide) (fun c10 => ?_) (fun c10 => ?_)
  · refine T_aload_n dX0_gives_16 rfl 1 rfl ?_
    refine T_get (v := .int (σ.1 37 2)) dX0_gives_17 fl_X0_25 hp_37 hs_37 rfl rfl ?_
    refine T_iconst (v := 2) dX0_gives_20 (by decide) ?_
    refine T_icmp_lt (tgt := 34) dX0_gives_21 (by decide) (fun c11 => ?_) (fun c11 => ?_)
    · exact T_sub [1, 0] rfl ((h.1 c10).1 c11)
    · refine T_aload_n dX0_gives_24 rfl 1 rfl ?_
      refine T_bipush (v := 30) dX0_gives_25 (by decide) ?_
      refine T_VV (As := [.int 30]) dX0_gives_27 mv_X0_44 hp_37 hs_37 rfl (Nat.le_of_ble_eq_true rfl) (hv_ok1 rfl) rfl ((h.1 c10).2 c11) (fun s1 h3 => ?_)
      refine T_iload_n dX0_gives_30 rfl 2 rfl ?_
      refine T_iconst (v := 2) dX0_gives_31 (by decide) ?_
      refine T_imul dX0_gives_32 ?_
      refine T_istore_n dX0_gives_33 rfl (by decide) rfl ?_
      exact T_sub [1, 0] rfl h3
  · refine T_aload_n dX0_gives_10 rfl 1 rfl ?_
    refine T_bipush (v := 51) dX0_gives_11 (by decide) ?_
    refine T_VV (As := [.int 51]) dX0_gives_13 mv_X0_44 hp_37 hs_37 rfl (Nat.le_of_ble_eq_true rfl) (hv_ok1 rfl) rfl (h.2 c10) (fun s4 h6 => ?_)
    refine T_aload_n dX0_gives_16 rfl 1 rfl ?_
    refine T_get (v := .int (s4.1 37 2)) dX0_gives_17 fl_X0_25 hp_37 hs_37 rfl rfl ?_
    refine T_iconst (v := 2) dX0_gives_20 (by decide) ?_
    refine T_icmp_lt (tgt := 34) dX0_gives_21 (by decide) (fun c12 => ?_) (fun c12 => ?_)
    · exact T_sub [1, 0] rfl (h6.1 c12)
    · refine T_aload_n dX0_gives_24 rfl 1 rfl ?_
      refine T_bipush (v := 30) dX0_gives_25 (by decide) ?_
      refine T_VV (As := [.int 30]) dX0_gives_27 mv_X0_44 hp_37 hs_37 rfl (Nat.le_of_ble_eq_true rfl) (hv_ok1 rfl) rfl (h6.2 c12) (fun s7 h9 => ?_)
      refine T_iload_n dX0_gives_30 rfl 2 rfl ?_
      refine T_iconst (v := 2) dX0_gives_31 (by decide) ?_
      refine T_imul dX0_gives_32 ?_
      refine T_istore_n dX0_gives_33 rfl (by decide) rfl ?_
      exact T_sub [1, 0] rfl h9

def L_X0_holds_28 (l : Launch) (e : hv_Ev)  (Φ : Int32 → hv_S → Prop) (x1 : Int32) (σ : hv_S) : Prop := hv_TW l (hv_e1 e) (hv_rm 2) 0 0 m_X0_holds hv_no (hv_ZI (hv_e1 e) Φ) 28 [(0, .ref 37), (1, .int x1)] [] σ
set_option maxHeartbeats 4000000 in
set_option maxRecDepth 100000 in
theorem B_X0_holds_28 {l : Launch} {e : hv_Ev}  (x1 : Int32) {σ : hv_S} {Φ : Int32 → hv_S → Prop} (h : hv_CV l (hv_e1 e) 0 m_X0_begin [.ref 37, .int 11] σ (fun s13 => hv_CI l (hv_e1 e) 1 m_X0_gives [.ref 37, .int x1] s13 (fun v17 s16 => (((s16.1 37 2) < 2 → (((s16.1 37 2) ≠ 3 → Φ (v17 - (s16.1 37 4)) s16) ∧ ((s16.1 37 2) = 3 → hv_CI l (hv_e1 e) 1 m_X0_gives [.ref 37, .int 1] s16 (fun v20 s19 => Φ ((v17 - (s16.1 37 4)) + v20) s19)))) ∧ (¬ (s16.1 37 2) < 2 → (((s16.1 37 2) ≠ 3 → Φ (-(v17 - (s16.1 37 4))) s16) ∧ ((s16.1 37 2) = 3 → hv_CI l (hv_e1 e) 1 m_X0_gives [.ref 37, .int 1] s16 (fun v23 s22 => Φ ((-(v17 - (s16.1 37 4))) + v23) s22)))))))) : L_X0_holds_28 l e Φ x1 σ := by
  show hv_TW l (hv_e1 e) (hv_rm 2) 0 0 m_X0_holds hv_no (hv_ZI (hv_e1 e) Φ) 28 [(0, .ref 37), (1, .int x1)] [] σ
  refine T_aload_n dX0_holds_28 rfl 0 rfl ?_
  refine T_bipush (v := 11) dX0_holds_29 (by decide) ?_
  refine T_VV (As := [.int 11]) dX0_holds_31 mv_X0_44 hp_37 hs_37 rfl (Nat.le_of_ble_eq_true rfl) (hv_ok1 rfl) rfl h (fun s13 h15 => ?_)
  refine T_aload_n dX0_holds_34 rfl 0 rfl ?_
  refine T_iload_n dX0_holds_35 rfl 1 rfl ?_
  refine T_VI (As := [.int x1]) dX0_holds_36 mv_X0_34 hp_37 hs_37 rfl (Nat.le_of_ble_eq_true rfl) (hv_ok1 rfl) rfl h15 (fun v17 s16 h18 => ?_)
  refine T_aload_n dX0_holds_39 rfl 0 rfl ?_
  refine T_get (v := .int (s16.1 37 4)) dX0_holds_40 fl_X0_31 hp_37 hs_37 rfl rfl ?_
  refine T_isub dX0_holds_43 ?_
  refine T_istore_n dX0_holds_44 rfl (by decide) rfl ?_
  refine T_aload_n dX0_holds_45 rfl 1 rfl ?_
  refine T_get (v := .int (s16.1 37 2)) dX0_holds_46 fl_X0_25 hp_37 hs_37 rfl rfl ?_
  refine T_iconst (v := 2) dX0_holds_49 (by decide) ?_
  refine T_icmp_lt (tgt := 56) dX0_holds_50 (by decide) (fun c25 => ?_) (fun c25 => ?_)
  · refine T_aload_n dX0_holds_56 rfl 1 rfl ?_
    refine T_get (v := .int (s16.1 37 2)) dX0_holds_57 fl_X0_25 hp_37 hs_37 rfl rfl ?_
    refine T_iconst (v := 3) dX0_holds_60 (by decide) ?_
    refine T_icmp_ne (tgt := 74) dX0_holds_61 (by decide) (fun c26 => ?_) (fun c26 => ?_)
    · refine T_iload_n dX0_holds_74 rfl 0 rfl ?_
      exact T_iret dX0_holds_75 rfl ((h18.1 c25).1 c26)
    · refine T_iload_n dX0_holds_64 rfl 0 rfl ?_
      refine T_aload_n dX0_holds_65 rfl 1 rfl ?_
      refine T_iconst (v := 1) dX0_holds_66 (by decide) ?_
      refine T_VI (As := [.int 1]) dX0_holds_67 mv_X0_34 hp_37 hs_37 rfl (Nat.le_of_ble_eq_true rfl) (hv_ok1 rfl) rfl ((h18.1 c25).2 c26) (fun v20 s19 h21 => ?_)
      refine T_iadd dX0_holds_70 ?_
      refine T_goto (tgt := 75) dX0_holds_71 (by decide) ?_
      exact T_iret dX0_holds_75 rfl h21
  · refine T_iload_n dX0_holds_53 rfl 0 rfl ?_
    refine T_ineg dX0_holds_54 ?_
    refine T_istore_n dX0_holds_55 rfl (by decide) rfl ?_
    refine T_aload_n dX0_holds_56 rfl 1 rfl ?_
    refine T_get (v := .int (s16.1 37 2)) dX0_holds_57 fl_X0_25 hp_37 hs_37 rfl rfl ?_
    refine T_iconst (v := 3) dX0_holds_60 (by decide) ?_
    refine T_icmp_ne (tgt := 74) dX0_holds_61 (by decide) (fun c27 => ?_) (fun c27 => ?_)
    · refine T_iload_n dX0_holds_74 rfl 0 rfl ?_
      exact T_iret dX0_holds_75 rfl ((h18.2 c25).1 c27)
    · refine T_iload_n dX0_holds_64 rfl 0 rfl ?_
      refine T_aload_n dX0_holds_65 rfl 1 rfl ?_
      refine T_iconst (v := 1) dX0_holds_66 (by decide) ?_
      refine T_VI (As := [.int 1]) dX0_holds_67 mv_X0_34 hp_37 hs_37 rfl (Nat.le_of_ble_eq_true rfl) (hv_ok1 rfl) rfl ((h18.2 c25).2 c27) (fun v23 s22 h24 => ?_)
      refine T_iadd dX0_holds_70 ?_
      refine T_goto (tgt := 75) dX0_holds_71 (by decide) ?_
      exact T_iret dX0_holds_75 rfl h24
set_option maxHeartbeats 4000000 in
set_option maxRecDepth 100000 in
theorem B_X0_holds {l : Launch} {e : hv_Ev}  (x1 : Int32) {σ : hv_S} {Φ : Int32 → hv_S → Prop} (h : (((σ.1 37 2) ≠ 3 → (((σ.1 37 2) < 2 → L_X0_holds_28 l e Φ x1 σ) ∧ (¬ (σ.1 37 2) < 2 → hv_CV l (hv_e1 e) 0 m_X0_begin [.ref 37, .int 31] σ (fun s1 => L_X0_holds_28 l e Φ x1 s1)))) ∧ ((σ.1 37 2) = 3 → hv_CV l (hv_e1 e) 0 m_X0_begin [.ref 37, .int 40] σ (fun s4 => (((s4.1 37 2) < 2 → L_X0_holds_28 l e Φ x1 s4) ∧ (¬ (s4.1 37 2) < 2 → hv_CV l (hv_e1 e) 0 m_X0_begin [.ref 37, .int 31] s4 (fun s7 => L_X0_holds_28 l e Φ x1 s7))))))) : hv_CI l (hv_e1 e) 2 m_X0_holds [.ref 37, .int x1] σ Φ := by
  refine hv_entI (by decide) (Nat.le_of_ble_eq_true rfl) ?_
  show hv_TW l (hv_e1 e) (hv_rm 2) 0 0 m_X0_holds hv_no (hv_ZI (hv_e1 e) Φ) 0 [(0, .ref 37), (1, .int x1)] [] σ
  refine T_aload_n dX0_holds_0 rfl 0 rfl ?_
  refine T_get (v := .int (σ.1 37 2)) dX0_holds_1 fl_X0_25 hp_37 hs_37 rfl rfl ?_
  refine T_iconst (v := 3) dX0_holds_4 (by decide) ?_
  refine T_icmp_ne (tgt := 14) dX0_holds_5 (by decide) (fun c10 => ?_) (fun c10 => ?_)
  · refine T_aload_n dX0_holds_14 rfl 0 rfl ?_
    refine T_get (v := .int (σ.1 37 2)) dX0_holds_15 fl_X0_25 hp_37 hs_37 rfl rfl ?_
    refine T_iconst (v := 2) dX0_holds_18 (by decide) ?_
    refine T_icmp_lt (tgt := 28) dX0_holds_19 (by decide) (fun c11 => ?_) (fun c11 => ?_)
    · exact T_sub [0, 1] rfl ((h.1 c10).1 c11)
    · refine T_aload_n dX0_holds_22 rfl 0 rfl ?_
      refine T_bipush (v := 31) dX0_holds_23 (by decide) ?_
      refine T_VV (As := [.int 31]) dX0_holds_25 mv_X0_44 hp_37 hs_37 rfl (Nat.le_of_ble_eq_true rfl) (hv_ok1 rfl) rfl ((h.1 c10).2 c11) (fun s1 h3 => ?_)
      exact T_sub [0, 1] rfl h3
  · refine T_aload_n dX0_holds_8 rfl 0 rfl ?_
    refine T_bipush (v := 40) dX0_holds_9 (by decide) ?_
    refine T_VV (As := [.int 40]) dX0_holds_11 mv_X0_44 hp_37 hs_37 rfl (Nat.le_of_ble_eq_true rfl) (hv_ok1 rfl) rfl (h.2 c10) (fun s4 h6 => ?_)
    refine T_aload_n dX0_holds_14 rfl 0 rfl ?_
    refine T_get (v := .int (s4.1 37 2)) dX0_holds_15 fl_X0_25 hp_37 hs_37 rfl rfl ?_
    refine T_iconst (v := 2) dX0_holds_18 (by decide) ?_
    refine T_icmp_lt (tgt := 28) dX0_holds_19 (by decide) (fun c12 => ?_) (fun c12 => ?_)
    · exact T_sub [0, 1] rfl (h6.1 c12)
    · refine T_aload_n dX0_holds_22 rfl 0 rfl ?_
      refine T_bipush (v := 31) dX0_holds_23 (by decide) ?_
      refine T_VV (As := [.int 31]) dX0_holds_25 mv_X0_44 hp_37 hs_37 rfl (Nat.le_of_ble_eq_true rfl) (hv_ok1 rfl) rfl (h6.2 c12) (fun s7 h9 => ?_)
      exact T_sub [0, 1] rfl h9

set_option maxHeartbeats 4000000 in
set_option maxRecDepth 100000 in
theorem B_X0_tellsAsHand {l : Launch} {e : hv_Ev}  (x1 : Int32) {σ : hv_S} {Φ : Int32 → hv_S → Prop} (h : hv_CV l (hv_e1 e) 0 m_X0_begin [.ref 37, .int 12] σ (fun s1 => hv_CI l (hv_e1 e) 2 m_X0_holds [.ref 37, .int x1] s1 (fun v5 s4 => Φ (v5 * 2) s4))) : hv_CI l (hv_e1 e) 3 m_X0_tellsAsHand [.ref 37, .int x1] σ Φ := by
  refine hv_entI (by decide) (Nat.le_of_ble_eq_true rfl) ?_
  show hv_TW l (hv_e1 e) (hv_rm 3) 0 0 m_X0_tellsAsHand hv_no (hv_ZI (hv_e1 e) Φ) 0 [(0, .ref 37), (1, .int x1)] [] σ
  refine T_aload_n dX0_tellsAsHand_0 rfl 0 rfl ?_
  refine T_bipush (v := 12) dX0_tellsAsHand_1 (by decide) ?_
  refine T_VV (As := [.int 12]) dX0_tellsAsHand_3 mv_X0_44 hp_37 hs_37 rfl (Nat.le_of_ble_eq_true rfl) (hv_ok1 rfl) rfl h (fun s1 h3 => ?_)
  refine T_aload_n dX0_tellsAsHand_6 rfl 0 rfl ?_
  refine T_iload_n dX0_tellsAsHand_7 rfl 1 rfl ?_
  refine T_VI (As := [.int x1]) dX0_tellsAsHand_8 mv_X0_38 hp_37 hs_37 rfl (Nat.le_of_ble_eq_true rfl) (hv_ok1 rfl) rfl h3 (fun v5 s4 h6 => ?_)
  refine T_iconst (v := 2) dX0_tellsAsHand_11 (by decide) ?_
  refine T_imul dX0_tellsAsHand_12 ?_
  exact T_iret dX0_tellsAsHand_13 rfl h6

set_option maxHeartbeats 4000000 in
set_option maxRecDepth 100000 in
theorem B_X0_tells {l : Launch} {e : hv_Ev}  (x1 : Int32) {σ : hv_S} {Φ : Int32 → hv_S → Prop} (h : (((σ.1 37 2) = 1 → hv_CV l (hv_e1 e) 0 m_X0_begin [.ref 37, .int 20] σ (fun s1 => hv_CI l (hv_e1 e) 3 m_X0_tellsAsHand [.ref 37, .int x1] s1 (fun v5 s4 => Φ (v5 ^^^ 7) s4))) ∧ ((σ.1 37 2) = 2 → hv_CI l (hv_e1 e) 3 m_X0_tellsAsHand [.ref 37, .int x1] σ (fun v8 s7 => Φ v8 s7)) ∧ ((σ.1 37 2) = 3 → hv_CI l (hv_e1 e) 3 m_X0_tellsAsHand [.ref 37, .int x1] σ (fun v11 s10 => Φ v11 s10)) ∧ ((σ.1 37 2) = 4 → hv_CV l (hv_e1 e) 0 m_X0_begin [.ref 37, .int 50] σ (fun s13 => hv_CI l (hv_e1 e) 3 m_X0_tellsAsHand [.ref 37, .int (x1 - (s13.1 37 3))] s13 (fun v17 s16 => Φ v17 s16))) ∧ ((σ.1 37 2) = 5 → hv_CV l (hv_e1 e) 0 m_X0_begin [.ref 37, .int 60] σ (fun s19 => hv_CI l (hv_e1 e) 2 m_X0_holds [.ref 37, .int x1] s19 (fun v23 s22 => hv_CI l (hv_e1 e) 3 m_X0_tellsAsHand [.ref 37, .int x1] s22 (fun v26 s25 => Φ (v23 - v26) s25)))) ∧ (¬ (σ.1 37 2) = 1 → ¬ (σ.1 37 2) = 2 → ¬ (σ.1 37 2) = 3 → ¬ (σ.1 37 2) = 4 → ¬ (σ.1 37 2) = 5 → hv_CI l (hv_e1 e) 3 m_X0_tellsAsHand [.ref 37, .int x1] σ (fun v29 s28 => Φ v29 s28)))) : hv_CI l (hv_e1 e) 4 m_X0_tells [.ref 37, .int x1] σ Φ := by
  refine hv_entI (by decide) (Nat.le_of_ble_eq_true rfl) ?_
  show hv_TW l (hv_e1 e) (hv_rm 4) 0 0 m_X0_tells hv_no (hv_ZI (hv_e1 e) Φ) 0 [(0, .ref 37), (1, .int x1)] [] σ
  refine T_aload_n dX0_tells_0 rfl 0 rfl ?_
  refine T_get (v := .int (σ.1 37 2)) dX0_tells_1 fl_X0_25 hp_37 hs_37 rfl rfl ?_
  by_cases c31 : (σ.1 37 2) = 1
  · refine T_tableIn (off := 73) (tgt := 77) dX0_tells_4 (by rw [c31]; decide) (by rw [c31]; decide) (by rw [c31]; rfl) (by decide) ?_
    refine T_aload_n dX0_tells_77 rfl 0 rfl ?_
    refine T_bipush (v := 20) dX0_tells_78 (by decide) ?_
    refine T_VV (As := [.int 20]) dX0_tells_80 mv_X0_44 hp_37 hs_37 rfl (Nat.le_of_ble_eq_true rfl) (hv_ok1 rfl) rfl (h.1 c31) (fun s1 h3 => ?_)
    refine T_aload_n dX0_tells_83 rfl 0 rfl ?_
    refine T_iload_n dX0_tells_84 rfl 1 rfl ?_
    refine T_VI (As := [.int x1]) dX0_tells_85 mv_X0_48 hp_37 hs_37 rfl (Nat.le_of_ble_eq_true rfl) (hv_ok1 rfl) rfl h3 (fun v5 s4 h6 => ?_)
    refine T_bipush (v := 7) dX0_tells_88 (by decide) ?_
    refine T_ixor dX0_tells_90 ?_
    exact T_iret dX0_tells_91 rfl h6
  · skip
    by_cases c32 : (σ.1 37 2) = 2
    · refine T_tableIn (off := 88) (tgt := 92) dX0_tells_4 (by rw [c32]; decide) (by rw [c32]; decide) (by rw [c32]; rfl) (by decide) ?_
      refine T_aload_n dX0_tells_92 rfl 0 rfl ?_
      refine T_iload_n dX0_tells_93 rfl 1 rfl ?_
      refine T_VI (As := [.int x1]) dX0_tells_94 mv_X0_48 hp_37 hs_37 rfl (Nat.le_of_ble_eq_true rfl) (hv_ok1 rfl) rfl (h.2.1 c32) (fun v8 s7 h9 => ?_)
      exact T_iret dX0_tells_97 rfl h9
    · skip
      by_cases c33 : (σ.1 37 2) = 3
      · refine T_tableIn (off := 88) (tgt := 92) dX0_tells_4 (by rw [c33]; decide) (by rw [c33]; decide) (by rw [c33]; rfl) (by decide) ?_
        refine T_aload_n dX0_tells_92 rfl 0 rfl ?_
        refine T_iload_n dX0_tells_93 rfl 1 rfl ?_
        refine T_VI (As := [.int x1]) dX0_tells_94 mv_X0_48 hp_37 hs_37 rfl (Nat.le_of_ble_eq_true rfl) (hv_ok1 rfl) rfl (h.2.2.1 c33) (fun v11 s10 h12 => ?_)
        exact T_iret dX0_tells_97 rfl h12
      · skip
        by_cases c34 : (σ.1 37 2) = 4
        · refine T_tableIn (off := 56) (tgt := 60) dX0_tells_4 (by rw [c34]; decide) (by rw [c34]; decide) (by rw [c34]; rfl) (by decide) ?_
          refine T_aload_n dX0_tells_60 rfl 0 rfl ?_
          refine T_bipush (v := 50) dX0_tells_61 (by decide) ?_
          refine T_VV (As := [.int 50]) dX0_tells_63 mv_X0_44 hp_37 hs_37 rfl (Nat.le_of_ble_eq_true rfl) (hv_ok1 rfl) rfl (h.2.2.2.1 c34) (fun s13 h15 => ?_)
          refine T_aload_n dX0_tells_66 rfl 0 rfl ?_
          refine T_iload_n dX0_tells_67 rfl 1 rfl ?_
          refine T_aload_n dX0_tells_68 rfl 0 rfl ?_
          refine T_get (v := .int (s13.1 37 3)) dX0_tells_69 fl_X0_28 hp_37 hs_37 rfl rfl ?_
          refine T_isub dX0_tells_72 ?_
          refine T_VI (As := [.int (x1 - (s13.1 37 3))]) dX0_tells_73 mv_X0_48 hp_37 hs_37 rfl (Nat.le_of_ble_eq_true rfl) (hv_ok1 rfl) rfl h15 (fun v17 s16 h18 => ?_)
          exact T_iret dX0_tells_76 rfl h18
        · skip
          by_cases c35 : (σ.1 37 2) = 5
          · refine T_tableIn (off := 36) (tgt := 40) dX0_tells_4 (by rw [c35]; decide) (by rw [c35]; decide) (by rw [c35]; rfl) (by decide) ?_
            refine T_aload_n dX0_tells_40 rfl 0 rfl ?_
            refine T_bipush (v := 60) dX0_tells_41 (by decide) ?_
            refine T_VV (As := [.int 60]) dX0_tells_43 mv_X0_44 hp_37 hs_37 rfl (Nat.le_of_ble_eq_true rfl) (hv_ok1 rfl) rfl (h.2.2.2.2.1 c35) (fun s19 h21 => ?_)
            refine T_aload_n dX0_tells_46 rfl 0 rfl ?_
            refine T_iload_n dX0_tells_47 rfl 1 rfl ?_
            refine T_VI (As := [.int x1]) dX0_tells_48 mv_X0_38 hp_37 hs_37 rfl (Nat.le_of_ble_eq_true rfl) (hv_ok1 rfl) rfl h21 (fun v23 s22 h24 => ?_)
            refine T_istore_n dX0_tells_51 rfl (by decide) rfl ?_
            refine T_iload_n dX0_tells_52 rfl 0 rfl ?_
            refine T_aload_n dX0_tells_53 rfl 1 rfl ?_
            refine T_iload_n dX0_tells_54 rfl 2 rfl ?_
            refine T_VI (As := [.int x1]) dX0_tells_55 mv_X0_48 hp_37 hs_37 rfl (Nat.le_of_ble_eq_true rfl) (hv_ok1 rfl) rfl h24 (fun v26 s25 h27 => ?_)
            refine T_isub dX0_tells_58 ?_
            exact T_iret dX0_tells_59 rfl h27
          · skip
            refine T_tableOut (tgt := 92) dX0_tells_4 (by have q0 := lv_neT c31 (a := 1) (by decide); have q1 := lv_neT c32 (a := 2) (by decide); have q2 := lv_neT c33 (a := 3) (by decide); have q3 := lv_neT c34 (a := 4) (by decide); have q4 := lv_neT c35 (a := 5) (by decide); omega) (by decide) ?_
            refine T_aload_n dX0_tells_92 rfl 0 rfl ?_
            refine T_iload_n dX0_tells_93 rfl 1 rfl ?_
            refine T_VI (As := [.int x1]) dX0_tells_94 mv_X0_48 hp_37 hs_37 rfl (Nat.le_of_ble_eq_true rfl) (hv_ok1 rfl) rfl (h.2.2.2.2.2 c31 c32 c33 c34 c35) (fun v29 s28 h30 => ?_)
            exact T_iret dX0_tells_97 rfl h30

set_option maxHeartbeats 4000000 in
set_option maxRecDepth 100000 in
theorem B_X0_run {l : Launch} {e : hv_Ev}  (x1 : Int32) (x2 : Int32) (x3 : Int32) (x4 : Int32) (x5 : Int32) {σ : hv_S} {Φ : Int32 → hv_S → Prop} (h : ((x4 = 0 → hv_CI l (hv_e1 e) 1 m_X0_gives [.ref 37, .int x5] (hv_ui (hv_ui (hv_ui σ 37 2 x1) 37 3 x2) 37 4 x3) (fun v2 s1 => Φ v2 s1)) ∧ (x4 = 1 → hv_CI l (hv_e1 e) 2 m_X0_holds [.ref 37, .int x5] (hv_ui (hv_ui (hv_ui σ 37 2 x1) 37 3 x2) 37 4 x3) (fun v5 s4 => Φ v5 s4)) ∧ (¬ x4 = 0 → ¬ x4 = 1 → hv_CI l (hv_e1 e) 4 m_X0_tells [.ref 37, .int x5] (hv_ui (hv_ui (hv_ui σ 37 2 x1) 37 3 x2) 37 4 x3) (fun v8 s7 => Φ v8 s7)))) : hv_CI l (hv_e1 e) 5 m_X0_run [.ref 37, .int x1, .int x2, .int x3, .int x4, .int x5] σ Φ := by
  refine hv_entI (by decide) (Nat.le_of_ble_eq_true rfl) ?_
  show hv_TW l (hv_e1 e) (hv_rm 5) 0 0 m_X0_run hv_no (hv_ZI (hv_e1 e) Φ) 0 [(0, .ref 37), (1, .int x1), (2, .int x2), (3, .int x3), (4, .int x4), (5, .int x5)] [] σ
  refine T_aload_n dX0_run_0 rfl 0 rfl ?_
  refine T_iload_n dX0_run_1 rfl 1 rfl ?_
  refine T_puti dX0_run_2 fl_X0_25 pf_X0_2 hp_37 hs_37 rfl ?_
  refine T_aload_n dX0_run_5 rfl 0 rfl ?_
  refine T_iload_n dX0_run_6 rfl 2 rfl ?_
  refine T_puti dX0_run_7 fl_X0_28 pf_X0_3 hp_37 hs_37 rfl ?_
  refine T_aload_n dX0_run_10 rfl 0 rfl ?_
  refine T_iload_n dX0_run_11 rfl 3 rfl ?_
  refine T_puti dX0_run_12 fl_X0_31 pf_X0_4 hp_37 hs_37 rfl ?_
  refine T_iload dX0_run_15 4 rfl ?_
  by_cases c10 : x4 = 0
  · refine T_lookup (off := 27) (tgt := 44) dX0_run_17 (by decide) (by rw [c10]; decide) (by decide) ?_
    refine T_aload_n dX0_run_44 rfl 0 rfl ?_
    refine T_iload dX0_run_45 5 rfl ?_
    refine T_VI (As := [.int x5]) dX0_run_47 mv_X0_34 hp_37 hs_37 rfl (Nat.le_of_ble_eq_true rfl) (hv_ok1 rfl) rfl (h.1 c10) (fun v2 s1 h3 => ?_)
    exact T_iret dX0_run_50 rfl h3
  · skip
    by_cases c11 : x4 = 1
    · refine T_lookup (off := 34) (tgt := 51) dX0_run_17 (by decide) (by rw [c11]; decide) (by decide) ?_
      refine T_aload_n dX0_run_51 rfl 0 rfl ?_
      refine T_iload dX0_run_52 5 rfl ?_
      refine T_VI (As := [.int x5]) dX0_run_54 mv_X0_38 hp_37 hs_37 rfl (Nat.le_of_ble_eq_true rfl) (hv_ok1 rfl) rfl (h.2.1 c11) (fun v5 s4 h6 => ?_)
      exact T_iret dX0_run_57 rfl h6
    · skip
      refine T_lookup (off := 41) (tgt := 58) dX0_run_17 (by decide) (by show Op.lookupswitch.offset [(0, 27), (1, 34)] _ _ = _; rw [lv_osw c10 (a := 0) (by decide), lv_osw c11 (a := 1) (by decide)]; rfl) (by decide) ?_
      refine T_aload_n dX0_run_58 rfl 0 rfl ?_
      refine T_iload dX0_run_59 5 rfl ?_
      refine T_VI (As := [.int x5]) dX0_run_61 mv_X0_41 hp_37 hs_37 rfl (Nat.le_of_ble_eq_true rfl) (hv_ok1 rfl) rfl (h.2.2 c10 c11) (fun v8 s7 h9 => ?_)
      exact T_iret dX0_run_64 rfl h9

set_option maxHeartbeats 4000000 in
set_option maxRecDepth 100000 in
theorem B_X7_exists {l : Launch} {e : hv_Ev}  (x1 : Int32) {σ : hv_S} {Φ : Int32 → hv_S → Prop} (h : ((x1 < 0 → Φ 0 σ) ∧ (¬ x1 < 0 → ((6 ≤ x1 → Φ 0 σ) ∧ (¬ 6 ≤ x1 → Φ 1 σ))))) : hv_CI l (hv_e1 e) 0 m_X7_exists [.ref 39, .int x1] σ Φ := by
  refine hv_entI (by decide) (Nat.le_of_ble_eq_true rfl) ?_
  show hv_TW l (hv_e1 e) (hv_rm 0) 0 0 m_X7_exists hv_no (hv_ZI (hv_e1 e) Φ) 0 [(0, .ref 39), (1, .int x1)] [] σ
  refine T_iload_n dX7_exists_0 rfl 1 rfl ?_
  refine T_if_lt (tgt := 14) dX7_exists_1 (by decide) (fun c1 => ?_) (fun c1 => ?_)
  · refine T_iconst (v := 0) dX7_exists_14 (by decide) ?_
    exact T_zret dX7_exists_15 rfl (by decide) (h.1 c1)
  · refine T_iload_n dX7_exists_4 rfl 1 rfl ?_
    refine T_bipush (v := 6) dX7_exists_5 (by decide) ?_
    refine T_icmp_ge (tgt := 14) dX7_exists_7 (by decide) (fun c2 => ?_) (fun c2 => ?_)
    · refine T_iconst (v := 0) dX7_exists_14 (by decide) ?_
      exact T_zret dX7_exists_15 rfl (by decide) ((h.2 c1).1 c2)
    · refine T_iconst (v := 1) dX7_exists_10 (by decide) ?_
      refine T_goto (tgt := 15) dX7_exists_11 (by decide) ?_
      exact T_zret dX7_exists_15 rfl (by decide) ((h.2 c1).2 c2)

def L_X7_reset_17 (l : Launch) (e : hv_Ev)  (Φ : hv_S → Prop) (x1 : Int32) (x3 : Int32) (x4 : Int32) (σ : hv_S) : Prop := hv_TW l (hv_e1 e) (hv_rm 0) 0 0 m_X7_reset hv_no (hv_ZV (hv_e1 e) Φ) 17 [(0, .ref 39), (1, .int x1), (3, .int x3), (4, .int x4)] [] σ
set_option maxHeartbeats 4000000 in
set_option maxRecDepth 100000 in
theorem B_X7_reset_17 {l : Launch} {e : hv_Ev}  (x1 : Int32) (x3 : Int32) (x4 : Int32) {σ : hv_S} {Φ : hv_S → Prop} (h : ((x3 ≤ x4 → Φ σ) ∧ (¬ x3 ≤ x4 → ((60 ≤ x4 → Φ σ) ∧ (¬ 60 ≤ x4 → (vp_in ((x1 * 60) + x4) 360 ∧ L_X7_reset_17 l e Φ x1 x3 (x4 + 1) (hv_ul σ 42 (((x1 * 60) + x4).toNatClampNeg) 0))))))) : L_X7_reset_17 l e Φ x1 x3 x4 σ := by
  show hv_TW l (hv_e1 e) (hv_rm 0) 0 0 m_X7_reset hv_no (hv_ZV (hv_e1 e) Φ) 17 [(0, .ref 39), (1, .int x1), (3, .int x3), (4, .int x4)] [] σ
  refine T_iload dX7_reset_17 3 rfl ?_
  refine T_iload_n dX7_reset_19 rfl 2 rfl ?_
  refine T_icmp_ge (tgt := 49) dX7_reset_20 (by decide) (fun c1 => ?_) (fun c1 => ?_)
  · exact T_vret dX7_reset_49 rfl (h.1 c1)
  · refine T_iload dX7_reset_23 3 rfl ?_
    refine T_bipush (v := 60) dX7_reset_25 (by decide) ?_
    refine T_icmp_ge (tgt := 49) dX7_reset_27 (by decide) (fun c2 => ?_) (fun c2 => ?_)
    · exact T_vret dX7_reset_49 rfl ((h.2 c1).1 c2)
    · refine T_aload_n dX7_reset_30 rfl 0 rfl ?_
      refine T_get (v := .ref 42) dX7_reset_31 fl_X7_16 hp_39 hs_39 rfl rfl ?_
      refine T_iload_n dX7_reset_34 rfl 1 rfl ?_
      refine T_bipush (v := 60) dX7_reset_35 (by decide) ?_
      refine T_imul dX7_reset_37 ?_
      refine T_iload dX7_reset_38 3 rfl ?_
      refine T_iadd dX7_reset_40 ?_
      refine T_lconst (v := 0) dX7_reset_41 (by decide) ?_
      refine T_last dX7_reset_42 hp_42 hs_42 ((h.2 c1).2 c2).1 ?_
      refine T_iinc (v := (x4 + 1)) dX7_reset_43 3 rfl rfl (by decide) rfl ?_
      refine T_goto (tgt := 17) dX7_reset_46 (by decide) ?_
      exact T_sub [1, 2, 3, 0] rfl ((h.2 c1).2 c2).2
set_option maxHeartbeats 4000000 in
set_option maxRecDepth 100000 in
theorem B_X7_reset {l : Launch} {e : hv_Ev}  (x1 : Int32) (x2 : Int32) (x3 : Int32) {σ : hv_S} {Φ : hv_S → Prop} (h : (vp_in x1 6 ∧ (vp_in x1 6 ∧ L_X7_reset_17 l e Φ x1 x3 0 (hv_ui (hv_ui σ 40 x1.toNatClampNeg x2) 41 x1.toNatClampNeg x3)))) : hv_CV l (hv_e1 e) 0 m_X7_reset [.ref 39, .int x1, .int x2, .int x3] σ Φ := by
  refine hv_entV (by decide) (Nat.le_of_ble_eq_true rfl) ?_
  show hv_TW l (hv_e1 e) (hv_rm 0) 0 0 m_X7_reset hv_no (hv_ZV (hv_e1 e) Φ) 0 [(0, .ref 39), (1, .int x1), (2, .int x2), (3, .int x3)] [] σ
  refine T_aload_n dX7_reset_0 rfl 0 rfl ?_
  refine T_get (v := .ref 40) dX7_reset_1 fl_X7_9 hp_39 hs_39 rfl rfl ?_
  refine T_iload_n dX7_reset_4 rfl 1 rfl ?_
  refine T_iload_n dX7_reset_5 rfl 2 rfl ?_
  refine T_iast dX7_reset_6 hp_40 hs_40 h.1 ?_
  refine T_aload_n dX7_reset_7 rfl 0 rfl ?_
  refine T_get (v := .ref 41) dX7_reset_8 fl_X7_13 hp_39 hs_39 rfl rfl ?_
  refine T_iload_n dX7_reset_11 rfl 1 rfl ?_
  refine T_iload_n dX7_reset_12 rfl 3 rfl ?_
  refine T_iast dX7_reset_13 hp_41 hs_41 h.2.1 ?_
  refine T_iconst (v := 0) dX7_reset_14 (by decide) ?_
  refine T_istore dX7_reset_15 (by decide) rfl ?_
  exact T_sub [1, 2, 4, 0] rfl h.2.2

set_option maxHeartbeats 4000000 in
set_option maxRecDepth 100000 in
theorem B_X7_get {l : Launch} {e : hv_Ev}  (x1 : Int32) (x2 : Int32) {σ : hv_S} {Φ : Int64 → hv_S → Prop} (h : (vp_in ((x1 * 60) + x2) 360 ∧ Φ (σ.2.1 42 (((x1 * 60) + x2).toNatClampNeg)) σ)) : hv_CL l (hv_e1 e) 0 m_X7_get [.ref 39, .int x1, .int x2] σ Φ := by
  refine hv_entL (by decide) (Nat.le_of_ble_eq_true rfl) ?_
  show hv_TW l (hv_e1 e) (hv_rm 0) 0 0 m_X7_get hv_no (hv_ZL (hv_e1 e) Φ) 0 [(0, .ref 39), (1, .int x1), (2, .int x2)] [] σ
  refine T_aload_n dX7_get_0 rfl 0 rfl ?_
  refine T_get (v := .ref 42) dX7_get_1 fl_X7_16 hp_39 hs_39 rfl rfl ?_
  refine T_iload_n dX7_get_4 rfl 1 rfl ?_
  refine T_bipush (v := 60) dX7_get_5 (by decide) ?_
  refine T_imul dX7_get_7 ?_
  refine T_iload_n dX7_get_8 rfl 2 rfl ?_
  refine T_iadd dX7_get_9 ?_
  refine T_lald dX7_get_10 hp_42 hs_42 h.1 ?_
  exact T_lret dX7_get_11 rfl h.2

set_option maxHeartbeats 4000000 in
set_option maxRecDepth 100000 in
theorem B_X7_narrow {l : Launch} {e : hv_Ev}  (x1 : Int32) (y2 : Int64) {σ : hv_S} {Φ : Int64 → hv_S → Prop} (h : ((x1 = 0 → Φ y2.toInt32.toInt8.toInt32.toInt64 σ) ∧ (x1 = 1 → Φ y2.toInt32.toInt16.toInt32.toInt64 σ) ∧ (x1 = 2 → Φ y2.toInt32.toInt64 σ) ∧ (x1 = 3 → Φ y2 σ) ∧ (x1 = 4 → ((y2 = 0 → Φ 0 σ) ∧ (¬ y2 = 0 → Φ 1 σ))) ∧ (¬ x1 = 0 → ¬ x1 = 1 → ¬ x1 = 2 → ¬ x1 = 3 → ¬ x1 = 4 → Φ y2 σ))) : hv_CL l (hv_e1 e) 0 m_X7_narrow [.int x1, .long y2] σ Φ := by
  refine hv_entL (by decide) (Nat.le_of_ble_eq_true rfl) ?_
  show hv_TW l (hv_e1 e) (hv_rm 0) 0 0 m_X7_narrow hv_no (hv_ZL (hv_e1 e) Φ) 0 [(0, .int x1), (1, .long y2)] [] σ
  refine T_iload_n dX7_narrow_0 rfl 0 rfl ?_
  by_cases c1 : x1 = 0
  · refine T_tableIn (off := 35) (tgt := 36) dX7_narrow_1 (by rw [c1]; decide) (by rw [c1]; decide) (by rw [c1]; rfl) (by decide) ?_
    refine T_lload_n dX7_narrow_36 rfl 1 rfl ?_
    refine T_l2i dX7_narrow_37 ?_
    refine T_i2b dX7_narrow_38 ?_
    refine T_i2l dX7_narrow_39 ?_
    exact T_lret dX7_narrow_40 rfl (h.1 c1)
  · skip
    by_cases c2 : x1 = 1
    · refine T_tableIn (off := 40) (tgt := 41) dX7_narrow_1 (by rw [c2]; decide) (by rw [c2]; decide) (by rw [c2]; rfl) (by decide) ?_
      refine T_lload_n dX7_narrow_41 rfl 1 rfl ?_
      refine T_l2i dX7_narrow_42 ?_
      refine T_i2s dX7_narrow_43 ?_
      refine T_i2l dX7_narrow_44 ?_
      exact T_lret dX7_narrow_45 rfl (h.2.1 c2)
    · skip
      by_cases c3 : x1 = 2
      · refine T_tableIn (off := 45) (tgt := 46) dX7_narrow_1 (by rw [c3]; decide) (by rw [c3]; decide) (by rw [c3]; rfl) (by decide) ?_
        refine T_lload_n dX7_narrow_46 rfl 1 rfl ?_
        refine T_l2i dX7_narrow_47 ?_
        refine T_i2l dX7_narrow_48 ?_
        exact T_lret dX7_narrow_49 rfl (h.2.2.1 c3)
      · skip
        by_cases c4 : x1 = 3
        · refine T_tableIn (off := 61) (tgt := 62) dX7_narrow_1 (by rw [c4]; decide) (by rw [c4]; decide) (by rw [c4]; rfl) (by decide) ?_
          refine T_lload_n dX7_narrow_62 rfl 1 rfl ?_
          exact T_lret dX7_narrow_63 rfl (h.2.2.2.1 c4)
        · skip
          by_cases c5 : x1 = 4
          · refine T_tableIn (off := 49) (tgt := 50) dX7_narrow_1 (by rw [c5]; decide) (by rw [c5]; decide) (by rw [c5]; rfl) (by decide) ?_
            refine T_lload_n dX7_narrow_50 rfl 1 rfl ?_
            refine T_lconst (v := 0) dX7_narrow_51 (by decide) ?_
            refine T_lc_eq (tgt := 60) dX7_narrow_52 dX7_narrow_53 (by decide) (fun c6 => ?_) (fun c6 => ?_)
            · refine T_lconst (v := 0) dX7_narrow_60 (by decide) ?_
              exact T_lret dX7_narrow_61 rfl ((h.2.2.2.2.1 c5).1 c6)
            · refine T_lconst (v := 1) dX7_narrow_56 (by decide) ?_
              refine T_goto (tgt := 61) dX7_narrow_57 (by decide) ?_
              exact T_lret dX7_narrow_61 rfl ((h.2.2.2.2.1 c5).2 c6)
          · skip
            refine T_tableOut (tgt := 62) dX7_narrow_1 (by have q0 := lv_neT c1 (a := 0) (by decide); have q1 := lv_neT c2 (a := 1) (by decide); have q2 := lv_neT c3 (a := 2) (by decide); have q3 := lv_neT c4 (a := 3) (by decide); have q4 := lv_neT c5 (a := 4) (by decide); omega) (by decide) ?_
            refine T_lload_n dX7_narrow_62 rfl 1 rfl ?_
            exact T_lret dX7_narrow_63 rfl (h.2.2.2.2.2 c1 c2 c3 c4 c5)

set_option maxHeartbeats 4000000 in
set_option maxRecDepth 100000 in
theorem B_X7_put {l : Launch} {e : hv_Ev}  (x1 : Int32) (x2 : Int32) (y3 : Int64) {σ : hv_S} {Φ : hv_S → Prop} (h : (vp_in x1 6 ∧ hv_CL l (hv_e1 e) 0 m_X7_narrow [.int (σ.1 40 x1.toNatClampNeg), .long y3] σ (fun v2 s1 => (vp_in ((x1 * 60) + x2) 360 ∧ Φ (hv_ul s1 42 (((x1 * 60) + x2).toNatClampNeg) v2))))) : hv_CV l (hv_e1 e) 1 m_X7_put [.ref 39, .int x1, .int x2, .long y3] σ Φ := by
  refine hv_entV (by decide) (Nat.le_of_ble_eq_true rfl) ?_
  show hv_TW l (hv_e1 e) (hv_rm 1) 0 0 m_X7_put hv_no (hv_ZV (hv_e1 e) Φ) 0 [(0, .ref 39), (1, .int x1), (2, .int x2), (3, .long y3)] [] σ
  refine T_aload_n dX7_put_0 rfl 0 rfl ?_
  refine T_get (v := .ref 42) dX7_put_1 fl_X7_16 hp_39 hs_39 rfl rfl ?_
  refine T_iload_n dX7_put_4 rfl 1 rfl ?_
  refine T_bipush (v := 60) dX7_put_5 (by decide) ?_
  refine T_imul dX7_put_7 ?_
  refine T_iload_n dX7_put_8 rfl 2 rfl ?_
  refine T_iadd dX7_put_9 ?_
  refine T_aload_n dX7_put_10 rfl 0 rfl ?_
  refine T_get (v := .ref 40) dX7_put_11 fl_X7_9 hp_39 hs_39 rfl rfl ?_
  refine T_iload_n dX7_put_14 rfl 1 rfl ?_
  refine T_iald dX7_put_15 hp_40 hs_40 h.1 ?_
  refine T_lload_n dX7_put_16 rfl 3 rfl ?_
  refine T_SL (As := [.int (σ.1 40 x1.toNatClampNeg), .long y3]) dX7_put_17 ms_X7_26 rfl (Nat.le_of_ble_eq_true rfl) (hv_ok1 rfl) rfl h.2 (fun v2 s1 h3 => ?_)
  refine T_last dX7_put_20 hp_42 hs_42 h3.1 ?_
  exact T_vret dX7_put_21 rfl h3.2

set_option maxHeartbeats 4000000 in
set_option maxRecDepth 100000 in
theorem B_X7_holds {l : Launch} {e : hv_Ev}  (x1 : Int32) (x2 : Int32) (x3 : Int32) {σ : hv_S} {Φ : Int32 → hv_S → Prop} (h : ((x2 < 0 → Φ 0 σ) ∧ (¬ x2 < 0 → ((x3 < 0 → Φ 0 σ) ∧ (¬ x3 < 0 → (vp_in x1 6 ∧ (((σ.1 41 x1.toNatClampNeg).toInt64 < (x2.toInt64 + x3.toInt64) → Φ 0 σ) ∧ (¬ (σ.1 41 x1.toNatClampNeg).toInt64 < (x2.toInt64 + x3.toInt64) → Φ 1 σ)))))))) : hv_CI l (hv_e1 e) 0 m_X7_holds [.ref 39, .int x1, .int x2, .int x3] σ Φ := by
  refine hv_entI (by decide) (Nat.le_of_ble_eq_true rfl) ?_
  show hv_TW l (hv_e1 e) (hv_rm 0) 0 0 m_X7_holds hv_no (hv_ZI (hv_e1 e) Φ) 0 [(0, .ref 39), (1, .int x1), (2, .int x2), (3, .int x3)] [] σ
  refine T_iload_n dX7_holds_0 rfl 2 rfl ?_
  refine T_if_lt (tgt := 28) dX7_holds_1 (by decide) (fun c1 => ?_) (fun c1 => ?_)
  · refine T_iconst (v := 0) dX7_holds_28 (by decide) ?_
    exact T_zret dX7_holds_29 rfl (by decide) (h.1 c1)
  · refine T_iload_n dX7_holds_4 rfl 3 rfl ?_
    refine T_if_lt (tgt := 28) dX7_holds_5 (by decide) (fun c2 => ?_) (fun c2 => ?_)
    · refine T_iconst (v := 0) dX7_holds_28 (by decide) ?_
      exact T_zret dX7_holds_29 rfl (by decide) ((h.2 c1).1 c2)
    · refine T_iload_n dX7_holds_8 rfl 2 rfl ?_
      refine T_i2l dX7_holds_9 ?_
      refine T_iload_n dX7_holds_10 rfl 3 rfl ?_
      refine T_i2l dX7_holds_11 ?_
      refine T_ladd dX7_holds_12 ?_
      refine T_aload_n dX7_holds_13 rfl 0 rfl ?_
      refine T_get (v := .ref 41) dX7_holds_14 fl_X7_13 hp_39 hs_39 rfl rfl ?_
      refine T_iload_n dX7_holds_17 rfl 1 rfl ?_
      refine T_iald dX7_holds_18 hp_41 hs_41 ((h.2 c1).2 c2).1 ?_
      refine T_i2l dX7_holds_19 ?_
      refine T_lc_gt (tgt := 28) dX7_holds_20 dX7_holds_21 (by decide) (fun c3 => ?_) (fun c3 => ?_)
      · refine T_iconst (v := 0) dX7_holds_28 (by decide) ?_
        exact T_zret dX7_holds_29 rfl (by decide) (((h.2 c1).2 c2).2.1 c3)
      · refine T_iconst (v := 1) dX7_holds_24 (by decide) ?_
        refine T_goto (tgt := 29) dX7_holds_25 (by decide) ?_
        exact T_zret dX7_holds_29 rfl (by decide) (((h.2 c1).2 c2).2.2 c3)

set_option maxHeartbeats 4000000 in
set_option maxRecDepth 100000 in
theorem B_X7_copy {l : Launch} {e : hv_Ev}  (x1 : Int32) (x2 : Int32) (x3 : Int32) (x4 : Int32) (x5 : Int32) {σ : hv_S} {Φ : hv_S → Prop} (h : ((¬ ((x1 * 60) + x2) < 0 ∧ ¬ ((x3 * 60) + x4) < 0 ∧ ¬ x5 < 0 ∧ ((x1 * 60) + x2).toNatClampNeg + x5.toNatClampNeg ≤ 360 ∧ ((x3 * 60) + x4).toNatClampNeg + x5.toNatClampNeg ≤ 360) ∧ Φ (hv_cp σ 42 ((x1 * 60) + x2) ((x3 * 60) + x4) x5))) : hv_CV l (hv_e1 e) 1 m_X7_copy [.ref 39, .int x1, .int x2, .int x3, .int x4, .int x5] σ Φ := by
  refine hv_entV (by decide) (Nat.le_of_ble_eq_true rfl) ?_
  show hv_TW l (hv_e1 e) (hv_rm 1) 0 0 m_X7_copy hv_no (hv_ZV (hv_e1 e) Φ) 0 [(0, .ref 39), (1, .int x1), (2, .int x2), (3, .int x3), (4, .int x4), (5, .int x5)] [] σ
  refine T_aload_n dX7_copy_0 rfl 0 rfl ?_
  refine T_get (v := .ref 42) dX7_copy_1 fl_X7_16 hp_39 hs_39 rfl rfl ?_
  refine T_iload_n dX7_copy_4 rfl 1 rfl ?_
  refine T_bipush (v := 60) dX7_copy_5 (by decide) ?_
  refine T_imul dX7_copy_7 ?_
  refine T_iload_n dX7_copy_8 rfl 2 rfl ?_
  refine T_iadd dX7_copy_9 ?_
  refine T_aload_n dX7_copy_10 rfl 0 rfl ?_
  refine T_get (v := .ref 42) dX7_copy_11 fl_X7_16 hp_39 hs_39 rfl rfl ?_
  refine T_iload_n dX7_copy_14 rfl 3 rfl ?_
  refine T_bipush (v := 60) dX7_copy_15 (by decide) ?_
  refine T_imul dX7_copy_17 ?_
  refine T_iload dX7_copy_18 4 rfl ?_
  refine T_iadd dX7_copy_20 ?_
  refine T_iload dX7_copy_21 5 rfl ?_
  refine T_acopy dX7_copy_23 (own_acopy) hp_42 hs_42 h.1 ⟨Nat.le_of_ble_eq_true rfl, Nat.le_of_ble_eq_true rfl⟩ ?_
  exact T_vret dX7_copy_26 rfl h.2
