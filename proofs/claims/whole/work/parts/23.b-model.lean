-- printed by wip/gen/p10d.py: the reference, 4
theorem dX10_gives_0 : decode cX10_gives 0 = .ok (.aload_n 0, 1) := by decide +kernel
theorem dX10_gives_1 : decode cX10_gives 1 = .ok (.getfield 16, 3) := by decide +kernel
theorem dX10_gives_4 : decode cX10_gives 4 = .ok (.bipush 8, 2) := by decide +kernel
theorem dX10_gives_6 : decode cX10_gives 6 = .ok (.iload_n 2, 1) := by decide +kernel
theorem dX10_gives_7 : decode cX10_gives 7 = .ok (.imul, 1) := by decide +kernel
theorem dX10_gives_8 : decode cX10_gives 8 = .ok (.iload_n 1, 1) := by decide +kernel
theorem dX10_gives_9 : decode cX10_gives 9 = .ok (.iadd, 1) := by decide +kernel
theorem dX10_gives_10 : decode cX10_gives 10 = .ok (.iaload, 1) := by decide +kernel
theorem dX10_gives_11 : decode cX10_gives 11 = .ok (.istore 4, 2) := by decide +kernel
theorem dX10_gives_13 : decode cX10_gives 13 = .ok (.iload 4, 2) := by decide +kernel
theorem dX10_gives_15 : decode cX10_gives 15 = .ok (.iconst 4, 1) := by decide +kernel
theorem dX10_gives_16 : decode cX10_gives 16 = .ok (.if_icmp .ne 18, 3) := by decide +kernel
theorem dX10_gives_19 : decode cX10_gives 19 = .ok (.aload_n 0, 1) := by decide +kernel
theorem dX10_gives_20 : decode cX10_gives 20 = .ok (.bipush 51, 2) := by decide +kernel
theorem dX10_gives_22 : decode cX10_gives 22 = .ok (.invokevirtual 329, 3) := by decide +kernel
theorem dX10_gives_25 : decode cX10_gives 25 = .ok (.aload_n 0, 1) := by decide +kernel
theorem dX10_gives_26 : decode cX10_gives 26 = .ok (.iload_n 1, 1) := by decide +kernel
theorem dX10_gives_27 : decode cX10_gives 27 = .ok (.iload_n 3, 1) := by decide +kernel
theorem dX10_gives_28 : decode cX10_gives 28 = .ok (.invokevirtual 335, 3) := by decide +kernel
theorem dX10_gives_31 : decode cX10_gives 31 = .ok (.iload_n 2, 1) := by decide +kernel
theorem dX10_gives_32 : decode cX10_gives 32 = .ok (.ixor, 1) := by decide +kernel
theorem dX10_gives_33 : decode cX10_gives 33 = .ok (.ireturn, 1) := by decide +kernel
theorem dX10_gives_34 : decode cX10_gives 34 = .ok (.iload 4, 2) := by decide +kernel
theorem dX10_gives_36 : decode cX10_gives 36 = .ok (.iconst 2, 1) := by decide +kernel
theorem dX10_gives_37 : decode cX10_gives 37 = .ok (.if_icmp .lt 12, 3) := by decide +kernel
theorem dX10_gives_40 : decode cX10_gives 40 = .ok (.aload_n 0, 1) := by decide +kernel
theorem dX10_gives_41 : decode cX10_gives 41 = .ok (.iload_n 1, 1) := by decide +kernel
theorem dX10_gives_42 : decode cX10_gives 42 = .ok (.iload_n 3, 1) := by decide +kernel
theorem dX10_gives_43 : decode cX10_gives 43 = .ok (.invokevirtual 335, 3) := by decide +kernel
theorem dX10_gives_46 : decode cX10_gives 46 = .ok (.goto 9, 3) := by decide +kernel
theorem dX10_gives_49 : decode cX10_gives 49 = .ok (.aload_n 0, 1) := by decide +kernel
theorem dX10_gives_50 : decode cX10_gives 50 = .ok (.iload_n 1, 1) := by decide +kernel
theorem dX10_gives_51 : decode cX10_gives 51 = .ok (.iload_n 3, 1) := by decide +kernel
theorem dX10_gives_52 : decode cX10_gives 52 = .ok (.invokevirtual 332, 3) := by decide +kernel
theorem dX10_gives_55 : decode cX10_gives 55 = .ok (.ireturn, 1) := by decide +kernel
theorem dX10_takesE_0 : decode cX10_takesE 0 = .ok (.aload_n 0, 1) := by decide +kernel
theorem dX10_takesE_1 : decode cX10_takesE 1 = .ok (.iconst 0, 1) := by decide +kernel
theorem dX10_takesE_2 : decode cX10_takesE 2 = .ok (.putfield 94, 3) := by decide +kernel
theorem dX10_takesE_5 : decode cX10_takesE 5 = .ok (.aload_n 0, 1) := by decide +kernel
theorem dX10_takesE_6 : decode cX10_takesE 6 = .ok (.iconst 0, 1) := by decide +kernel
theorem dX10_takesE_7 : decode cX10_takesE 7 = .ok (.putfield 97, 3) := by decide +kernel
theorem dX10_takesE_10 : decode cX10_takesE 10 = .ok (.aload_n 0, 1) := by decide +kernel
theorem dX10_takesE_11 : decode cX10_takesE 11 = .ok (.iconst 0, 1) := by decide +kernel
theorem dX10_takesE_12 : decode cX10_takesE 12 = .ok (.putfield 100, 3) := by decide +kernel
theorem dX10_takesE_15 : decode cX10_takesE 15 = .ok (.iconst 1, 1) := by decide +kernel
theorem dX10_takesE_16 : decode cX10_takesE 16 = .ok (.istore_n 1, 1) := by decide +kernel
theorem dX10_takesE_17 : decode cX10_takesE 17 = .ok (.aload_n 0, 1) := by decide +kernel
theorem dX10_takesE_18 : decode cX10_takesE 18 = .ok (.invokevirtual 186, 3) := by decide +kernel
theorem dX10_takesE_21 : decode cX10_takesE 21 = .ok (.istore_n 2, 1) := by decide +kernel
theorem dX10_takesE_22 : decode cX10_takesE 22 = .ok (.iload_n 1, 1) := by decide +kernel
theorem dX10_takesE_23 : decode cX10_takesE 23 = .ok (.ifCond .eq 82, 3) := by decide +kernel
theorem dX10_takesE_26 : decode cX10_takesE 26 = .ok (.iload_n 2, 1) := by decide +kernel
theorem dX10_takesE_27 : decode cX10_takesE 27 = .ok (.bipush 33, 2) := by decide +kernel
theorem dX10_takesE_29 : decode cX10_takesE 29 = .ok (.if_icmp .eq 9, 3) := by decide +kernel
theorem dX10_takesE_32 : decode cX10_takesE 32 = .ok (.iload_n 2, 1) := by decide +kernel
theorem dX10_takesE_33 : decode cX10_takesE 33 = .ok (.bipush 40, 2) := by decide +kernel
theorem dX10_takesE_35 : decode cX10_takesE 35 = .ok (.if_icmp .ne 56, 3) := by decide +kernel
theorem dX10_takesE_38 : decode cX10_takesE 38 = .ok (.aload_n 0, 1) := by decide +kernel
theorem dX10_takesE_39 : decode cX10_takesE 39 = .ok (.getfield 100, 3) := by decide +kernel
theorem dX10_takesE_42 : decode cX10_takesE 42 = .ok (.iconst 4, 1) := by decide +kernel
theorem dX10_takesE_43 : decode cX10_takesE 43 = .ok (.if_icmp .ne 5, 3) := by decide +kernel
theorem dX10_takesE_46 : decode cX10_takesE 46 = .ok (.iconst 0, 1) := by decide +kernel
theorem dX10_takesE_47 : decode cX10_takesE 47 = .ok (.ireturn, 1) := by decide +kernel
theorem dX10_takesE_48 : decode cX10_takesE 48 = .ok (.aload_n 0, 1) := by decide +kernel
theorem dX10_takesE_49 : decode cX10_takesE 49 = .ok (.dup, 1) := by decide +kernel
theorem dX10_takesE_50 : decode cX10_takesE 50 = .ok (.getfield 100, 3) := by decide +kernel
theorem dX10_takesE_53 : decode cX10_takesE 53 = .ok (.iconst 1, 1) := by decide +kernel
theorem dX10_takesE_54 : decode cX10_takesE 54 = .ok (.iadd, 1) := by decide +kernel
theorem dX10_takesE_55 : decode cX10_takesE 55 = .ok (.putfield 100, 3) := by decide +kernel
theorem dX10_takesE_58 : decode cX10_takesE 58 = .ok (.aload_n 0, 1) := by decide +kernel
theorem dX10_takesE_59 : decode cX10_takesE 59 = .ok (.getfield 88, 3) := by decide +kernel
theorem dX10_takesE_62 : decode cX10_takesE 62 = .ok (.aload_n 0, 1) := by decide +kernel
theorem dX10_takesE_63 : decode cX10_takesE 63 = .ok (.getfield 94, 3) := by decide +kernel
theorem dX10_takesE_66 : decode cX10_takesE 66 = .ok (.iload_n 2, 1) := by decide +kernel
theorem dX10_takesE_67 : decode cX10_takesE 67 = .ok (.iastore, 1) := by decide +kernel
theorem dX10_takesE_68 : decode cX10_takesE 68 = .ok (.aload_n 0, 1) := by decide +kernel
theorem dX10_takesE_69 : decode cX10_takesE 69 = .ok (.dup, 1) := by decide +kernel
theorem dX10_takesE_70 : decode cX10_takesE 70 = .ok (.getfield 94, 3) := by decide +kernel
theorem dX10_takesE_73 : decode cX10_takesE 73 = .ok (.iconst 1, 1) := by decide +kernel
theorem dX10_takesE_74 : decode cX10_takesE 74 = .ok (.iadd, 1) := by decide +kernel
theorem dX10_takesE_75 : decode cX10_takesE 75 = .ok (.putfield 94, 3) := by decide +kernel
theorem dX10_takesE_78 : decode cX10_takesE 78 = .ok (.aload_n 0, 1) := by decide +kernel
theorem dX10_takesE_79 : decode cX10_takesE 79 = .ok (.dup, 1) := by decide +kernel
theorem dX10_takesE_80 : decode cX10_takesE 80 = .ok (.getfield 60, 3) := by decide +kernel
theorem dX10_takesE_83 : decode cX10_takesE 83 = .ok (.iconst 1, 1) := by decide +kernel
theorem dX10_takesE_84 : decode cX10_takesE 84 = .ok (.iadd, 1) := by decide +kernel
theorem dX10_takesE_85 : decode cX10_takesE 85 = .ok (.putfield 60, 3) := by decide +kernel
theorem dX10_takesE_88 : decode cX10_takesE 88 = .ok (.goto (-71), 3) := by decide +kernel
theorem dX10_takesE_91 : decode cX10_takesE 91 = .ok (.aload_n 0, 1) := by decide +kernel
theorem dX10_takesE_92 : decode cX10_takesE 92 = .ok (.invokevirtual 205, 3) := by decide +kernel
theorem dX10_takesE_95 : decode cX10_takesE 95 = .ok (.ifCond .eq 8, 3) := by decide +kernel
theorem dX10_takesE_98 : decode cX10_takesE 98 = .ok (.iconst 0, 1) := by decide +kernel
theorem dX10_takesE_99 : decode cX10_takesE 99 = .ok (.istore_n 1, 1) := by decide +kernel
theorem dX10_takesE_100 : decode cX10_takesE 100 = .ok (.goto (-83), 3) := by decide +kernel
theorem dX10_takesE_103 : decode cX10_takesE 103 = .ok (.iconst 0, 1) := by decide +kernel
theorem dX10_takesE_104 : decode cX10_takesE 104 = .ok (.ireturn, 1) := by decide +kernel
theorem dX10_takesE_105 : decode cX10_takesE 105 = .ok (.iload_n 2, 1) := by decide +kernel
theorem dX10_takesE_106 : decode cX10_takesE 106 = .ok (.bipush 38, 2) := by decide +kernel
theorem dX10_takesE_108 : decode cX10_takesE 108 = .ok (.if_icmp .eq 9, 3) := by decide +kernel
theorem dX10_takesE_111 : decode cX10_takesE 111 = .ok (.iload_n 2, 1) := by decide +kernel
theorem dX10_takesE_112 : decode cX10_takesE 112 = .ok (.bipush 124, 2) := by decide +kernel
theorem dX10_takesE_114 : decode cX10_takesE 114 = .ok (.if_icmp .ne 43, 3) := by decide +kernel
theorem dX10_takesE_117 : decode cX10_takesE 117 = .ok (.aload_n 0, 1) := by decide +kernel
theorem dX10_takesE_118 : decode cX10_takesE 118 = .ok (.iload_n 2, 1) := by decide +kernel
theorem dX10_takesE_119 : decode cX10_takesE 119 = .ok (.invokevirtual 208, 3) := by decide +kernel
theorem dX10_takesE_122 : decode cX10_takesE 122 = .ok (.aload_n 0, 1) := by decide +kernel
theorem dX10_takesE_123 : decode cX10_takesE 123 = .ok (.getfield 88, 3) := by decide +kernel
theorem dX10_takesE_126 : decode cX10_takesE 126 = .ok (.aload_n 0, 1) := by decide +kernel
theorem dX10_takesE_127 : decode cX10_takesE 127 = .ok (.getfield 94, 3) := by decide +kernel
theorem dX10_takesE_130 : decode cX10_takesE 130 = .ok (.iload_n 2, 1) := by decide +kernel
theorem dX10_takesE_131 : decode cX10_takesE 131 = .ok (.iastore, 1) := by decide +kernel
theorem dX10_takesE_132 : decode cX10_takesE 132 = .ok (.aload_n 0, 1) := by decide +kernel
theorem dX10_takesE_133 : decode cX10_takesE 133 = .ok (.dup, 1) := by decide +kernel
theorem dX10_takesE_134 : decode cX10_takesE 134 = .ok (.getfield 94, 3) := by decide +kernel
theorem dX10_takesE_137 : decode cX10_takesE 137 = .ok (.iconst 1, 1) := by decide +kernel
theorem dX10_takesE_138 : decode cX10_takesE 138 = .ok (.iadd, 1) := by decide +kernel
theorem dX10_takesE_139 : decode cX10_takesE 139 = .ok (.putfield 94, 3) := by decide +kernel
theorem dX10_takesE_142 : decode cX10_takesE 142 = .ok (.iconst 1, 1) := by decide +kernel
theorem dX10_takesE_143 : decode cX10_takesE 143 = .ok (.istore_n 1, 1) := by decide +kernel
theorem dX10_takesE_144 : decode cX10_takesE 144 = .ok (.aload_n 0, 1) := by decide +kernel
theorem dX10_takesE_145 : decode cX10_takesE 145 = .ok (.dup, 1) := by decide +kernel
theorem dX10_takesE_146 : decode cX10_takesE 146 = .ok (.getfield 60, 3) := by decide +kernel
theorem dX10_takesE_149 : decode cX10_takesE 149 = .ok (.iconst 1, 1) := by decide +kernel
theorem dX10_takesE_150 : decode cX10_takesE 150 = .ok (.iadd, 1) := by decide +kernel
theorem dX10_takesE_151 : decode cX10_takesE 151 = .ok (.putfield 60, 3) := by decide +kernel
theorem dX10_takesE_154 : decode cX10_takesE 154 = .ok (.goto (-137), 3) := by decide +kernel
theorem dX10_takesE_157 : decode cX10_takesE 157 = .ok (.aload_n 0, 1) := by decide +kernel
theorem dX10_takesE_158 : decode cX10_takesE 158 = .ok (.bipush 124, 2) := by decide +kernel
theorem dX10_takesE_160 : decode cX10_takesE 160 = .ok (.invokevirtual 208, 3) := by decide +kernel
theorem dX10_takesE_163 : decode cX10_takesE 163 = .ok (.aload_n 0, 1) := by decide +kernel
theorem dX10_takesE_164 : decode cX10_takesE 164 = .ok (.getfield 94, 3) := by decide +kernel
theorem dX10_takesE_167 : decode cX10_takesE 167 = .ok (.ifCond .ne 5, 3) := by decide +kernel
theorem dX10_takesE_170 : decode cX10_takesE 170 = .ok (.iconst 1, 1) := by decide +kernel
theorem dX10_takesE_171 : decode cX10_takesE 171 = .ok (.ireturn, 1) := by decide +kernel
theorem dX10_takesE_172 : decode cX10_takesE 172 = .ok (.iload_n 2, 1) := by decide +kernel
theorem dX10_takesE_173 : decode cX10_takesE 173 = .ok (.bipush 41, 2) := by decide +kernel
theorem dX10_takesE_175 : decode cX10_takesE 175 = .ok (.if_icmp .eq 5, 3) := by decide +kernel
theorem dX10_takesE_178 : decode cX10_takesE 178 = .ok (.iconst 0, 1) := by decide +kernel
theorem dX10_takesE_179 : decode cX10_takesE 179 = .ok (.ireturn, 1) := by decide +kernel
theorem dX10_takesE_180 : decode cX10_takesE 180 = .ok (.aload_n 0, 1) := by decide +kernel
theorem dX10_takesE_181 : decode cX10_takesE 181 = .ok (.dup, 1) := by decide +kernel
theorem dX10_takesE_182 : decode cX10_takesE 182 = .ok (.getfield 94, 3) := by decide +kernel
theorem dX10_takesE_185 : decode cX10_takesE 185 = .ok (.iconst 1, 1) := by decide +kernel
theorem dX10_takesE_186 : decode cX10_takesE 186 = .ok (.isub, 1) := by decide +kernel
theorem dX10_takesE_187 : decode cX10_takesE 187 = .ok (.putfield 94, 3) := by decide +kernel
theorem dX10_takesE_190 : decode cX10_takesE 190 = .ok (.aload_n 0, 1) := by decide +kernel
theorem dX10_takesE_191 : decode cX10_takesE 191 = .ok (.dup, 1) := by decide +kernel
theorem dX10_takesE_192 : decode cX10_takesE 192 = .ok (.getfield 100, 3) := by decide +kernel
theorem dX10_takesE_195 : decode cX10_takesE 195 = .ok (.iconst 1, 1) := by decide +kernel
theorem dX10_takesE_196 : decode cX10_takesE 196 = .ok (.isub, 1) := by decide +kernel
theorem dX10_takesE_197 : decode cX10_takesE 197 = .ok (.putfield 100, 3) := by decide +kernel
theorem dX10_takesE_200 : decode cX10_takesE 200 = .ok (.aload_n 0, 1) := by decide +kernel
theorem dX10_takesE_201 : decode cX10_takesE 201 = .ok (.dup, 1) := by decide +kernel
theorem dX10_takesE_202 : decode cX10_takesE 202 = .ok (.getfield 97, 3) := by decide +kernel
theorem dX10_takesE_205 : decode cX10_takesE 205 = .ok (.iconst 1, 1) := by decide +kernel
theorem dX10_takesE_206 : decode cX10_takesE 206 = .ok (.isub, 1) := by decide +kernel
theorem dX10_takesE_207 : decode cX10_takesE 207 = .ok (.putfield 97, 3) := by decide +kernel
theorem dX10_takesE_210 : decode cX10_takesE 210 = .ok (.aload_n 0, 1) := by decide +kernel
theorem dX10_takesE_211 : decode cX10_takesE 211 = .ok (.dup, 1) := by decide +kernel
theorem dX10_takesE_212 : decode cX10_takesE 212 = .ok (.getfield 60, 3) := by decide +kernel
theorem dX10_takesE_215 : decode cX10_takesE 215 = .ok (.iconst 1, 1) := by decide +kernel
theorem dX10_takesE_216 : decode cX10_takesE 216 = .ok (.iadd, 1) := by decide +kernel
theorem dX10_takesE_217 : decode cX10_takesE 217 = .ok (.putfield 60, 3) := by decide +kernel
theorem dX10_takesE_220 : decode cX10_takesE 220 = .ok (.aload_n 0, 1) := by decide +kernel
theorem dX10_takesE_221 : decode cX10_takesE 221 = .ok (.aload_n 0, 1) := by decide +kernel
theorem dX10_takesE_222 : decode cX10_takesE 222 = .ok (.getfield 91, 3) := by decide +kernel
theorem dX10_takesE_225 : decode cX10_takesE 225 = .ok (.aload_n 0, 1) := by decide +kernel
theorem dX10_takesE_226 : decode cX10_takesE 226 = .ok (.getfield 97, 3) := by decide +kernel
theorem dX10_takesE_229 : decode cX10_takesE 229 = .ok (.baload, 1) := by decide +kernel
theorem dX10_takesE_230 : decode cX10_takesE 230 = .ok (.invokevirtual 201, 3) := by decide +kernel
theorem dX10_takesE_233 : decode cX10_takesE 233 = .ok (.goto (-216), 3) := by decide +kernel
theorem dX10_plainHolds_0 : decode cX10_plainHolds 0 = .ok (.aload_n 0, 1) := by decide +kernel
theorem dX10_plainHolds_1 : decode cX10_plainHolds 1 = .ok (.bipush 11, 2) := by decide +kernel
theorem dX10_plainHolds_3 : decode cX10_plainHolds 3 = .ok (.invokevirtual 329, 3) := by decide +kernel
theorem dX10_plainHolds_6 : decode cX10_plainHolds 6 = .ok (.aload_n 0, 1) := by decide +kernel
theorem dX10_plainHolds_7 : decode cX10_plainHolds 7 = .ok (.iload_n 1, 1) := by decide +kernel
theorem dX10_plainHolds_8 : decode cX10_plainHolds 8 = .ok (.iload_n 2, 1) := by decide +kernel
theorem dX10_plainHolds_9 : decode cX10_plainHolds 9 = .ok (.iload_n 3, 1) := by decide +kernel
theorem dX10_plainHolds_10 : decode cX10_plainHolds 10 = .ok (.invokevirtual 338, 3) := by decide +kernel
theorem dX10_plainHolds_13 : decode cX10_plainHolds 13 = .ok (.iload_n 2, 1) := by decide +kernel
theorem dX10_plainHolds_14 : decode cX10_plainHolds 14 = .ok (.isub, 1) := by decide +kernel
theorem dX10_plainHolds_15 : decode cX10_plainHolds 15 = .ok (.ireturn, 1) := by decide +kernel
theorem dX10_takesClause_0 : decode cX10_takesClause 0 = .ok (.aload_n 0, 1) := by decide +kernel
theorem dX10_takesClause_1 : decode cX10_takesClause 1 = .ok (.invokevirtual 186, 3) := by decide +kernel
theorem dX10_takesClause_4 : decode cX10_takesClause 4 = .ok (.lookupswitch 119 #[(98, 36), (99, 83), (110, 114)], 36) := by decide +kernel
theorem dX10_takesClause_40 : decode cX10_takesClause 40 = .ok (.aload_n 0, 1) := by decide +kernel
theorem dX10_takesClause_41 : decode cX10_takesClause 41 = .ok (.sipush 2098, 3) := by decide +kernel
theorem dX10_takesClause_44 : decode cX10_takesClause 44 = .ok (.iconst 3, 1) := by decide +kernel
theorem dX10_takesClause_45 : decode cX10_takesClause 45 = .ok (.invokevirtual 213, 3) := by decide +kernel
theorem dX10_takesClause_48 : decode cX10_takesClause 48 = .ok (.ifCond .eq 10, 3) := by decide +kernel
theorem dX10_takesClause_51 : decode cX10_takesClause 51 = .ok (.aload_n 0, 1) := by decide +kernel
theorem dX10_takesClause_52 : decode cX10_takesClause 52 = .ok (.invokevirtual 217, 3) := by decide +kernel
theorem dX10_takesClause_55 : decode cX10_takesClause 55 = .ok (.ifCond .ne 5, 3) := by decide +kernel
theorem dX10_takesClause_58 : decode cX10_takesClause 58 = .ok (.iconst 0, 1) := by decide +kernel
theorem dX10_takesClause_59 : decode cX10_takesClause 59 = .ok (.ireturn, 1) := by decide +kernel
theorem dX10_takesClause_60 : decode cX10_takesClause 60 = .ok (.aload_n 0, 1) := by decide +kernel
theorem dX10_takesClause_61 : decode cX10_takesClause 61 = .ok (.aload_n 0, 1) := by decide +kernel
theorem dX10_takesClause_62 : decode cX10_takesClause 62 = .ok (.getfield 66, 3) := by decide +kernel
theorem dX10_takesClause_65 : decode cX10_takesClause 65 = .ok (.ifCond .ne 12, 3) := by decide +kernel
theorem dX10_takesClause_68 : decode cX10_takesClause 68 = .ok (.aload_n 0, 1) := by decide +kernel
theorem dX10_takesClause_69 : decode cX10_takesClause 69 = .ok (.getfield 91, 3) := by decide +kernel
theorem dX10_takesClause_72 : decode cX10_takesClause 72 = .ok (.iconst 0, 1) := by decide +kernel
theorem dX10_takesClause_73 : decode cX10_takesClause 73 = .ok (.baload, 1) := by decide +kernel
theorem dX10_takesClause_74 : decode cX10_takesClause 74 = .ok (.ifCond .eq 7, 3) := by decide +kernel
theorem dX10_takesClause_77 : decode cX10_takesClause 77 = .ok (.iconst 1, 1) := by decide +kernel
theorem dX10_takesClause_78 : decode cX10_takesClause 78 = .ok (.goto 4, 3) := by decide +kernel
theorem dX10_takesClause_81 : decode cX10_takesClause 81 = .ok (.iconst 0, 1) := by decide +kernel
theorem dX10_takesClause_82 : decode cX10_takesClause 82 = .ok (.putfield 66, 3) := by decide +kernel
theorem dX10_takesClause_85 : decode cX10_takesClause 85 = .ok (.iconst 1, 1) := by decide +kernel
theorem dX10_takesClause_86 : decode cX10_takesClause 86 = .ok (.ireturn, 1) := by decide +kernel
theorem dX10_takesClause_87 : decode cX10_takesClause 87 = .ok (.aload_n 0, 1) := by decide +kernel
theorem dX10_takesClause_88 : decode cX10_takesClause 88 = .ok (.sipush 3120, 3) := by decide +kernel
theorem dX10_takesClause_91 : decode cX10_takesClause 91 = .ok (.iconst 3, 1) := by decide +kernel
theorem dX10_takesClause_92 : decode cX10_takesClause 92 = .ok (.invokevirtual 213, 3) := by decide +kernel
theorem dX10_takesClause_95 : decode cX10_takesClause 95 = .ok (.ifCond .eq 11, 3) := by decide +kernel
theorem dX10_takesClause_98 : decode cX10_takesClause 98 = .ok (.aload_n 0, 1) := by decide +kernel
theorem dX10_takesClause_99 : decode cX10_takesClause 99 = .ok (.iconst 0, 1) := by decide +kernel
theorem dX10_takesClause_100 : decode cX10_takesClause 100 = .ok (.invokevirtual 197, 3) := by decide +kernel
theorem dX10_takesClause_103 : decode cX10_takesClause 103 = .ok (.ifCond .ne 5, 3) := by decide +kernel
theorem dX10_takesClause_106 : decode cX10_takesClause 106 = .ok (.iconst 0, 1) := by decide +kernel
theorem dX10_takesClause_107 : decode cX10_takesClause 107 = .ok (.ireturn, 1) := by decide +kernel
theorem dX10_takesClause_108 : decode cX10_takesClause 108 = .ok (.aload_n 0, 1) := by decide +kernel
theorem dX10_takesClause_109 : decode cX10_takesClause 109 = .ok (.aload_n 0, 1) := by decide +kernel
theorem dX10_takesClause_110 : decode cX10_takesClause 110 = .ok (.getfield 63, 3) := by decide +kernel
theorem dX10_takesClause_113 : decode cX10_takesClause 113 = .ok (.putfield 103, 3) := by decide +kernel
theorem dX10_takesClause_116 : decode cX10_takesClause 116 = .ok (.iconst 1, 1) := by decide +kernel
theorem dX10_takesClause_117 : decode cX10_takesClause 117 = .ok (.ireturn, 1) := by decide +kernel
theorem dX10_takesClause_118 : decode cX10_takesClause 118 = .ok (.aload_n 0, 1) := by decide +kernel
theorem dX10_takesClause_119 : decode cX10_takesClause 119 = .ok (.invokevirtual 220, 3) := by decide +kernel
theorem dX10_takesClause_122 : decode cX10_takesClause 122 = .ok (.ireturn, 1) := by decide +kernel
theorem dX10_takesClause_123 : decode cX10_takesClause 123 = .ok (.aload_n 0, 1) := by decide +kernel
theorem dX10_takesClause_124 : decode cX10_takesClause 124 = .ok (.ldc 223, 2) := by decide +kernel
theorem dX10_takesClause_126 : decode cX10_takesClause 126 = .ok (.iconst 4, 1) := by decide +kernel
theorem dX10_takesClause_127 : decode cX10_takesClause 127 = .ok (.invokevirtual 213, 3) := by decide +kernel
theorem dX10_takesClause_130 : decode cX10_takesClause 130 = .ok (.ifCond .eq 21, 3) := by decide +kernel
theorem dX10_takesClause_133 : decode cX10_takesClause 133 = .ok (.aload_n 0, 1) := by decide +kernel
theorem dX10_takesClause_134 : decode cX10_takesClause 134 = .ok (.invokevirtual 186, 3) := by decide +kernel
theorem dX10_takesClause_137 : decode cX10_takesClause 137 = .ok (.bipush 108, 2) := by decide +kernel
theorem dX10_takesClause_139 : decode cX10_takesClause 139 = .ok (.if_icmp .eq 14, 3) := by decide +kernel
theorem dX10_takesClause_142 : decode cX10_takesClause 142 = .ok (.aload_n 0, 1) := by decide +kernel
theorem dX10_takesClause_143 : decode cX10_takesClause 143 = .ok (.invokevirtual 186, 3) := by decide +kernel
theorem dX10_takesClause_146 : decode cX10_takesClause 146 = .ok (.bipush 98, 2) := by decide +kernel
theorem dX10_takesClause_148 : decode cX10_takesClause 148 = .ok (.if_icmp .eq 5, 3) := by decide +kernel
theorem dX10_takesClause_151 : decode cX10_takesClause 151 = .ok (.iconst 0, 1) := by decide +kernel
theorem dX10_takesClause_152 : decode cX10_takesClause 152 = .ok (.ireturn, 1) := by decide +kernel
theorem dX10_takesClause_153 : decode cX10_takesClause 153 = .ok (.aload_n 0, 1) := by decide +kernel
theorem dX10_takesClause_154 : decode cX10_takesClause 154 = .ok (.aload_n 0, 1) := by decide +kernel
theorem dX10_takesClause_155 : decode cX10_takesClause 155 = .ok (.invokevirtual 186, 3) := by decide +kernel
theorem dX10_takesClause_158 : decode cX10_takesClause 158 = .ok (.putfield 112, 3) := by decide +kernel
theorem dX10_takesClause_161 : decode cX10_takesClause 161 = .ok (.aload_n 0, 1) := by decide +kernel
theorem dX10_takesClause_162 : decode cX10_takesClause 162 = .ok (.dup, 1) := by decide +kernel
theorem dX10_takesClause_163 : decode cX10_takesClause 163 = .ok (.getfield 60, 3) := by decide +kernel
theorem dX10_takesClause_166 : decode cX10_takesClause 166 = .ok (.iconst 1, 1) := by decide +kernel
theorem dX10_takesClause_167 : decode cX10_takesClause 167 = .ok (.iadd, 1) := by decide +kernel
theorem dX10_takesClause_168 : decode cX10_takesClause 168 = .ok (.putfield 60, 3) := by decide +kernel
theorem dX10_takesClause_171 : decode cX10_takesClause 171 = .ok (.iconst 1, 1) := by decide +kernel
theorem dX10_takesClause_172 : decode cX10_takesClause 172 = .ok (.ireturn, 1) := by decide +kernel
theorem dX10_giveHolds_0 : decode cX10_giveHolds 0 = .ok (.aload_n 0, 1) := by decide +kernel
theorem dX10_giveHolds_1 : decode cX10_giveHolds 1 = .ok (.bipush 31, 2) := by decide +kernel
theorem dX10_giveHolds_3 : decode cX10_giveHolds 3 = .ok (.invokevirtual 329, 3) := by decide +kernel
theorem dX10_giveHolds_6 : decode cX10_giveHolds 6 = .ok (.aload_n 0, 1) := by decide +kernel
theorem dX10_giveHolds_7 : decode cX10_giveHolds 7 = .ok (.iload_n 1, 1) := by decide +kernel
theorem dX10_giveHolds_8 : decode cX10_giveHolds 8 = .ok (.iload_n 2, 1) := by decide +kernel
theorem dX10_giveHolds_9 : decode cX10_giveHolds 9 = .ok (.iload_n 3, 1) := by decide +kernel
theorem dX10_giveHolds_10 : decode cX10_giveHolds 10 = .ok (.invokevirtual 342, 3) := by decide +kernel
theorem dX10_giveHolds_13 : decode cX10_giveHolds 13 = .ok (.ineg, 1) := by decide +kernel
theorem dX10_giveHolds_14 : decode cX10_giveHolds 14 = .ok (.ireturn, 1) := by decide +kernel
theorem dX10_goes_0 : decode cX10_goes 0 = .ok (.aload_n 0, 1) := by decide +kernel
theorem dX10_goes_1 : decode cX10_goes 1 = .ok (.bipush 100, 2) := by decide +kernel
theorem dX10_goes_3 : decode cX10_goes 3 = .ok (.iload_n 1, 1) := by decide +kernel
theorem dX10_goes_4 : decode cX10_goes 4 = .ok (.imul, 1) := by decide +kernel
theorem dX10_goes_5 : decode cX10_goes 5 = .ok (.putfield 54, 3) := by decide +kernel
theorem dX10_goes_8 : decode cX10_goes 8 = .ok (.aload_n 0, 1) := by decide +kernel
theorem dX10_goes_9 : decode cX10_goes 9 = .ok (.aload_n 0, 1) := by decide +kernel
theorem dX10_goes_10 : decode cX10_goes 10 = .ok (.getfield 48, 3) := by decide +kernel
theorem dX10_goes_13 : decode cX10_goes 13 = .ok (.iload_n 1, 1) := by decide +kernel
theorem dX10_goes_14 : decode cX10_goes 14 = .ok (.iaload, 1) := by decide +kernel
theorem dX10_goes_15 : decode cX10_goes 15 = .ok (.putfield 57, 3) := by decide +kernel
theorem dX10_goes_18 : decode cX10_goes 18 = .ok (.aload_n 0, 1) := by decide +kernel
theorem dX10_goes_19 : decode cX10_goes 19 = .ok (.iconst 0, 1) := by decide +kernel
theorem dX10_goes_20 : decode cX10_goes 20 = .ok (.putfield 60, 3) := by decide +kernel
theorem dX10_goes_23 : decode cX10_goes 23 = .ok (.aload_n 0, 1) := by decide +kernel
theorem dX10_goes_24 : decode cX10_goes 24 = .ok (.iconst 0, 1) := by decide +kernel
theorem dX10_goes_25 : decode cX10_goes 25 = .ok (.putfield 66, 3) := by decide +kernel
theorem dX10_goes_28 : decode cX10_goes 28 = .ok (.iconst 0, 1) := by decide +kernel
theorem dX10_goes_29 : decode cX10_goes 29 = .ok (.istore_n 2, 1) := by decide +kernel
theorem dX10_goes_30 : decode cX10_goes 30 = .ok (.aload_n 0, 1) := by decide +kernel
theorem dX10_goes_31 : decode cX10_goes 31 = .ok (.sipush 999, 3) := by decide +kernel
theorem dX10_goes_34 : decode cX10_goes 34 = .ok (.putfield 103, 3) := by decide +kernel
theorem dX10_goes_37 : decode cX10_goes 37 = .ok (.aload_n 0, 1) := by decide +kernel
theorem dX10_goes_38 : decode cX10_goes 38 = .ok (.iconst 1, 1) := by decide +kernel
theorem dX10_goes_39 : decode cX10_goes 39 = .ok (.putfield 106, 3) := by decide +kernel
theorem dX10_goes_42 : decode cX10_goes 42 = .ok (.aload_n 0, 1) := by decide +kernel
theorem dX10_goes_43 : decode cX10_goes 43 = .ok (.iconst 2, 1) := by decide +kernel
theorem dX10_goes_44 : decode cX10_goes 44 = .ok (.putfield 109, 3) := by decide +kernel
theorem dX10_goes_47 : decode cX10_goes 47 = .ok (.aload_n 0, 1) := by decide +kernel
theorem dX10_goes_48 : decode cX10_goes 48 = .ok (.bipush 108, 2) := by decide +kernel
theorem dX10_goes_50 : decode cX10_goes 50 = .ok (.putfield 112, 3) := by decide +kernel
theorem dX10_goes_53 : decode cX10_goes 53 = .ok (.aload_n 0, 1) := by decide +kernel
theorem dX10_goes_54 : decode cX10_goes 54 = .ok (.invokevirtual 224, 3) := by decide +kernel
theorem dX10_goes_57 : decode cX10_goes 57 = .ok (.ifCond .ne 5, 3) := by decide +kernel
theorem dX10_goes_60 : decode cX10_goes 60 = .ok (.iconst 0, 1) := by decide +kernel
theorem dX10_goes_61 : decode cX10_goes 61 = .ok (.ireturn, 1) := by decide +kernel
theorem dX10_goes_62 : decode cX10_goes 62 = .ok (.iinc 2 1, 3) := by decide +kernel
theorem dX10_goes_65 : decode cX10_goes 65 = .ok (.aload_n 0, 1) := by decide +kernel
theorem dX10_goes_66 : decode cX10_goes 66 = .ok (.getfield 60, 3) := by decide +kernel
theorem dX10_goes_69 : decode cX10_goes 69 = .ok (.aload_n 0, 1) := by decide +kernel
theorem dX10_goes_70 : decode cX10_goes 70 = .ok (.getfield 57, 3) := by decide +kernel
theorem dX10_goes_73 : decode cX10_goes 73 = .ok (.if_icmp .ne 5, 3) := by decide +kernel
theorem dX10_goes_76 : decode cX10_goes 76 = .ok (.iconst 1, 1) := by decide +kernel
theorem dX10_goes_77 : decode cX10_goes 77 = .ok (.ireturn, 1) := by decide +kernel
theorem dX10_goes_78 : decode cX10_goes 78 = .ok (.iload_n 2, 1) := by decide +kernel
theorem dX10_goes_79 : decode cX10_goes 79 = .ok (.bipush 6, 2) := by decide +kernel
theorem dX10_goes_81 : decode cX10_goes 81 = .ok (.if_icmp .eq 12, 3) := by decide +kernel
theorem dX10_goes_84 : decode cX10_goes 84 = .ok (.aload_n 0, 1) := by decide +kernel
theorem dX10_goes_85 : decode cX10_goes 85 = .ok (.bipush 59, 2) := by decide +kernel
theorem dX10_goes_87 : decode cX10_goes 87 = .ok (.invokevirtual 190, 3) := by decide +kernel
theorem dX10_goes_90 : decode cX10_goes 90 = .ok (.ifCond .ne (-37), 3) := by decide +kernel
theorem dX10_goes_93 : decode cX10_goes 93 = .ok (.iconst 0, 1) := by decide +kernel
theorem dX10_goes_94 : decode cX10_goes 94 = .ok (.ireturn, 1) := by decide +kernel
theorem dX10_holds_0 : decode cX10_holds 0 = .ok (.aload_n 0, 1) := by decide +kernel
theorem dX10_holds_1 : decode cX10_holds 1 = .ok (.getfield 16, 3) := by decide +kernel
theorem dX10_holds_4 : decode cX10_holds 4 = .ok (.bipush 8, 2) := by decide +kernel
theorem dX10_holds_6 : decode cX10_holds 6 = .ok (.iload_n 2, 1) := by decide +kernel
theorem dX10_holds_7 : decode cX10_holds 7 = .ok (.imul, 1) := by decide +kernel
theorem dX10_holds_8 : decode cX10_holds 8 = .ok (.iload_n 1, 1) := by decide +kernel
theorem dX10_holds_9 : decode cX10_holds 9 = .ok (.iadd, 1) := by decide +kernel
theorem dX10_holds_10 : decode cX10_holds 10 = .ok (.iaload, 1) := by decide +kernel
theorem dX10_holds_11 : decode cX10_holds 11 = .ok (.istore 4, 2) := by decide +kernel
theorem dX10_holds_13 : decode cX10_holds 13 = .ok (.iload 4, 2) := by decide +kernel
theorem dX10_holds_15 : decode cX10_holds 15 = .ok (.iconst 3, 1) := by decide +kernel
theorem dX10_holds_16 : decode cX10_holds 16 = .ok (.if_icmp .ne 29, 3) := by decide +kernel
theorem dX10_holds_19 : decode cX10_holds 19 = .ok (.aload_n 0, 1) := by decide +kernel
theorem dX10_holds_20 : decode cX10_holds 20 = .ok (.bipush 40, 2) := by decide +kernel
theorem dX10_holds_22 : decode cX10_holds 22 = .ok (.invokevirtual 329, 3) := by decide +kernel
theorem dX10_holds_25 : decode cX10_holds 25 = .ok (.aload_n 0, 1) := by decide +kernel
theorem dX10_holds_26 : decode cX10_holds 26 = .ok (.iload_n 1, 1) := by decide +kernel
theorem dX10_holds_27 : decode cX10_holds 27 = .ok (.iload_n 2, 1) := by decide +kernel
theorem dX10_holds_28 : decode cX10_holds 28 = .ok (.iload_n 3, 1) := by decide +kernel
theorem dX10_holds_29 : decode cX10_holds 29 = .ok (.invokevirtual 345, 3) := by decide +kernel
theorem dX10_holds_32 : decode cX10_holds 32 = .ok (.istore 5, 2) := by decide +kernel
theorem dX10_holds_34 : decode cX10_holds 34 = .ok (.iload 5, 2) := by decide +kernel
theorem dX10_holds_36 : decode cX10_holds 36 = .ok (.aload_n 0, 1) := by decide +kernel
theorem dX10_holds_37 : decode cX10_holds 37 = .ok (.iload_n 1, 1) := by decide +kernel
theorem dX10_holds_38 : decode cX10_holds 38 = .ok (.iload_n 2, 1) := by decide +kernel
theorem dX10_holds_39 : decode cX10_holds 39 = .ok (.iconst 1, 1) := by decide +kernel
theorem dX10_holds_40 : decode cX10_holds 40 = .ok (.invokevirtual 338, 3) := by decide +kernel
theorem dX10_holds_43 : decode cX10_holds 43 = .ok (.iadd, 1) := by decide +kernel
theorem dX10_holds_44 : decode cX10_holds 44 = .ok (.ireturn, 1) := by decide +kernel
theorem dX10_holds_45 : decode cX10_holds 45 = .ok (.iload 4, 2) := by decide +kernel
theorem dX10_holds_47 : decode cX10_holds 47 = .ok (.iconst 2, 1) := by decide +kernel
theorem dX10_holds_48 : decode cX10_holds 48 = .ok (.if_icmp .lt 13, 3) := by decide +kernel
theorem dX10_holds_51 : decode cX10_holds 51 = .ok (.aload_n 0, 1) := by decide +kernel
theorem dX10_holds_52 : decode cX10_holds 52 = .ok (.iload_n 1, 1) := by decide +kernel
theorem dX10_holds_53 : decode cX10_holds 53 = .ok (.iload_n 2, 1) := by decide +kernel
theorem dX10_holds_54 : decode cX10_holds 54 = .ok (.iload_n 3, 1) := by decide +kernel
theorem dX10_holds_55 : decode cX10_holds 55 = .ok (.invokevirtual 345, 3) := by decide +kernel
theorem dX10_holds_58 : decode cX10_holds 58 = .ok (.goto 10, 3) := by decide +kernel
theorem dX10_holds_61 : decode cX10_holds 61 = .ok (.aload_n 0, 1) := by decide +kernel
theorem dX10_holds_62 : decode cX10_holds 62 = .ok (.iload_n 1, 1) := by decide +kernel
theorem dX10_holds_63 : decode cX10_holds 63 = .ok (.iload_n 2, 1) := by decide +kernel
theorem dX10_holds_64 : decode cX10_holds 64 = .ok (.iload_n 3, 1) := by decide +kernel
theorem dX10_holds_65 : decode cX10_holds 65 = .ok (.invokevirtual 342, 3) := by decide +kernel
theorem dX10_holds_68 : decode cX10_holds 68 = .ok (.ireturn, 1) := by decide +kernel
theorem dX10_hall_0 : decode cX10_hall 0 = .ok (.aload_n 0, 1) := by decide +kernel
theorem dX10_hall_1 : decode cX10_hall 1 = .ok (.getfield 48, 3) := by decide +kernel
theorem dX10_hall_4 : decode cX10_hall 4 = .ok (.iconst 1, 1) := by decide +kernel
theorem dX10_hall_5 : decode cX10_hall 5 = .ok (.aload_n 0, 1) := by decide +kernel
theorem dX10_hall_6 : decode cX10_hall 6 = .ok (.getfield 42, 3) := by decide +kernel
theorem dX10_hall_9 : decode cX10_hall 9 = .ok (.iastore, 1) := by decide +kernel
theorem dX10_hall_10 : decode cX10_hall 10 = .ok (.aload_n 0, 1) := by decide +kernel
theorem dX10_hall_11 : decode cX10_hall 11 = .ok (.iconst 0, 1) := by decide +kernel
theorem dX10_hall_12 : decode cX10_hall 12 = .ok (.putfield 42, 3) := by decide +kernel
theorem dX10_hall_15 : decode cX10_hall 15 = .ok (.aload_n 0, 1) := by decide +kernel
theorem dX10_hall_16 : decode cX10_hall 16 = .ok (.iconst 1, 1) := by decide +kernel
theorem dX10_hall_17 : decode cX10_hall 17 = .ok (.invokevirtual 227, 3) := by decide +kernel
theorem dX10_hall_20 : decode cX10_hall 20 = .ok (.ifCond .ne 11, 3) := by decide +kernel
theorem dX10_hall_23 : decode cX10_hall 23 = .ok (.bipush (-10), 2) := by decide +kernel
theorem dX10_hall_25 : decode cX10_hall 25 = .ok (.aload_n 0, 1) := by decide +kernel
theorem dX10_hall_26 : decode cX10_hall 26 = .ok (.getfield 60, 3) := by decide +kernel
theorem dX10_hall_29 : decode cX10_hall 29 = .ok (.isub, 1) := by decide +kernel
theorem dX10_hall_30 : decode cX10_hall 30 = .ok (.ireturn, 1) := by decide +kernel
theorem dX10_hall_31 : decode cX10_hall 31 = .ok (.aload_n 0, 1) := by decide +kernel
theorem dX10_hall_32 : decode cX10_hall 32 = .ok (.getfield 48, 3) := by decide +kernel
theorem dX10_hall_35 : decode cX10_hall 35 = .ok (.iconst 0, 1) := by decide +kernel
theorem dX10_hall_36 : decode cX10_hall 36 = .ok (.aload_n 0, 1) := by decide +kernel
theorem dX10_hall_37 : decode cX10_hall 37 = .ok (.getfield 48, 3) := by decide +kernel
theorem dX10_hall_40 : decode cX10_hall 40 = .ok (.iconst 1, 1) := by decide +kernel
theorem dX10_hall_41 : decode cX10_hall 41 = .ok (.iaload, 1) := by decide +kernel
theorem dX10_hall_42 : decode cX10_hall 42 = .ok (.iastore, 1) := by decide +kernel
theorem dX10_hall_43 : decode cX10_hall 43 = .ok (.iconst 0, 1) := by decide +kernel
theorem dX10_hall_44 : decode cX10_hall 44 = .ok (.istore_n 1, 1) := by decide +kernel
theorem dX10_hall_45 : decode cX10_hall 45 = .ok (.iload_n 1, 1) := by decide +kernel
theorem dX10_hall_46 : decode cX10_hall 46 = .ok (.aload_n 0, 1) := by decide +kernel
theorem dX10_hall_47 : decode cX10_hall 47 = .ok (.getfield 48, 3) := by decide +kernel
theorem dX10_hall_50 : decode cX10_hall 50 = .ok (.iconst 1, 1) := by decide +kernel
theorem dX10_hall_51 : decode cX10_hall 51 = .ok (.iaload, 1) := by decide +kernel
theorem dX10_hall_52 : decode cX10_hall 52 = .ok (.if_icmp .ge 24, 3) := by decide +kernel
theorem dX10_hall_55 : decode cX10_hall 55 = .ok (.aload_n 0, 1) := by decide +kernel
theorem dX10_hall_56 : decode cX10_hall 56 = .ok (.getfield 45, 3) := by decide +kernel
theorem dX10_hall_59 : decode cX10_hall 59 = .ok (.iload_n 1, 1) := by decide +kernel
theorem dX10_hall_60 : decode cX10_hall 60 = .ok (.aload_n 0, 1) := by decide +kernel
theorem dX10_hall_61 : decode cX10_hall 61 = .ok (.getfield 45, 3) := by decide +kernel
theorem dX10_hall_64 : decode cX10_hall 64 = .ok (.bipush 100, 2) := by decide +kernel
theorem dX10_hall_66 : decode cX10_hall 66 = .ok (.iload_n 1, 1) := by decide +kernel
theorem dX10_hall_67 : decode cX10_hall 67 = .ok (.iadd, 1) := by decide +kernel
theorem dX10_hall_68 : decode cX10_hall 68 = .ok (.iaload, 1) := by decide +kernel
theorem dX10_hall_69 : decode cX10_hall 69 = .ok (.iastore, 1) := by decide +kernel
theorem dX10_hall_70 : decode cX10_hall 70 = .ok (.iinc 1 1, 3) := by decide +kernel
theorem dX10_hall_73 : decode cX10_hall 73 = .ok (.goto (-28), 3) := by decide +kernel
theorem dX10_hall_76 : decode cX10_hall 76 = .ok (.aload_n 0, 1) := by decide +kernel
theorem dX10_hall_77 : decode cX10_hall 77 = .ok (.aload_n 0, 1) := by decide +kernel
theorem dX10_hall_78 : decode cX10_hall 78 = .ok (.getfield 103, 3) := by decide +kernel
theorem dX10_hall_81 : decode cX10_hall 81 = .ok (.putfield 70, 3) := by decide +kernel
theorem dX10_hall_84 : decode cX10_hall 84 = .ok (.aload_n 0, 1) := by decide +kernel
theorem dX10_hall_85 : decode cX10_hall 85 = .ok (.aload_n 0, 1) := by decide +kernel
theorem dX10_hall_86 : decode cX10_hall 86 = .ok (.getfield 106, 3) := by decide +kernel
theorem dX10_hall_89 : decode cX10_hall 89 = .ok (.putfield 73, 3) := by decide +kernel
theorem dX10_hall_92 : decode cX10_hall 92 = .ok (.aload_n 0, 1) := by decide +kernel
theorem dX10_hall_93 : decode cX10_hall 93 = .ok (.aload_n 0, 1) := by decide +kernel
theorem dX10_hall_94 : decode cX10_hall 94 = .ok (.getfield 109, 3) := by decide +kernel
theorem dX10_hall_97 : decode cX10_hall 97 = .ok (.putfield 76, 3) := by decide +kernel
theorem dX10_hall_100 : decode cX10_hall 100 = .ok (.aload_n 0, 1) := by decide +kernel
theorem dX10_hall_101 : decode cX10_hall 101 = .ok (.aload_n 0, 1) := by decide +kernel
theorem dX10_hall_102 : decode cX10_hall 102 = .ok (.getfield 112, 3) := by decide +kernel
theorem dX10_hall_105 : decode cX10_hall 105 = .ok (.putfield 79, 3) := by decide +kernel
theorem dX10_hall_108 : decode cX10_hall 108 = .ok (.aload_n 0, 1) := by decide +kernel
theorem dX10_hall_109 : decode cX10_hall 109 = .ok (.iconst 0, 1) := by decide +kernel
theorem dX10_hall_110 : decode cX10_hall 110 = .ok (.putfield 85, 3) := by decide +kernel
theorem dX10_hall_113 : decode cX10_hall 113 = .ok (.aload_n 0, 1) := by decide +kernel
theorem dX10_hall_114 : decode cX10_hall 114 = .ok (.dup, 1) := by decide +kernel
theorem dX10_hall_115 : decode cX10_hall 115 = .ok (.getfield 39, 3) := by decide +kernel
theorem dX10_hall_118 : decode cX10_hall 118 = .ok (.iconst 1, 1) := by decide +kernel
theorem dX10_hall_119 : decode cX10_hall 119 = .ok (.iadd, 1) := by decide +kernel
theorem dX10_hall_120 : decode cX10_hall 120 = .ok (.putfield 39, 3) := by decide +kernel
theorem dX10_hall_123 : decode cX10_hall 123 = .ok (.aload_n 0, 1) := by decide +kernel
theorem dX10_hall_124 : decode cX10_hall 124 = .ok (.getfield 39, 3) := by decide +kernel
theorem dX10_hall_127 : decode cX10_hall 127 = .ok (.ireturn, 1) := by decide +kernel
theorem dX10_isBar_0 : decode cX10_isBar 0 = .ok (.aload_n 0, 1) := by decide +kernel
theorem dX10_isBar_1 : decode cX10_isBar 1 = .ok (.getfield 85, 3) := by decide +kernel
theorem dX10_isBar_4 : decode cX10_isBar 4 = .ok (.ifCond .ne 148, 3) := by decide +kernel
theorem dX10_isBar_7 : decode cX10_isBar 7 = .ok (.aload_n 0, 1) := by decide +kernel
theorem dX10_isBar_8 : decode cX10_isBar 8 = .ok (.iconst 1, 1) := by decide +kernel
theorem dX10_isBar_9 : decode cX10_isBar 9 = .ok (.putfield 85, 3) := by decide +kernel
theorem dX10_isBar_12 : decode cX10_isBar 12 = .ok (.iconst 0, 1) := by decide +kernel
theorem dX10_isBar_13 : decode cX10_isBar 13 = .ok (.istore 4, 2) := by decide +kernel
theorem dX10_isBar_15 : decode cX10_isBar 15 = .ok (.iload 4, 2) := by decide +kernel
theorem dX10_isBar_17 : decode cX10_isBar 17 = .ok (.sipush 192, 3) := by decide +kernel
theorem dX10_isBar_20 : decode cX10_isBar 20 = .ok (.if_icmp .ge 132, 3) := by decide +kernel
theorem dX10_isBar_23 : decode cX10_isBar 23 = .ok (.aload_n 0, 1) := by decide +kernel
theorem dX10_isBar_24 : decode cX10_isBar 24 = .ok (.getfield 51, 3) := by decide +kernel
theorem dX10_isBar_27 : decode cX10_isBar 27 = .ok (.iconst 0, 1) := by decide +kernel
theorem dX10_isBar_28 : decode cX10_isBar 28 = .ok (.iload 4, 2) := by decide +kernel
theorem dX10_isBar_30 : decode cX10_isBar 30 = .ok (.bipush 8, 2) := by decide +kernel
theorem dX10_isBar_32 : decode cX10_isBar 32 = .ok (.idiv, 1) := by decide +kernel
theorem dX10_isBar_33 : decode cX10_isBar 33 = .ok (.bipush 8, 2) := by decide +kernel
theorem dX10_isBar_35 : decode cX10_isBar 35 = .ok (.irem, 1) := by decide +kernel
theorem dX10_isBar_36 : decode cX10_isBar 36 = .ok (.iastore, 1) := by decide +kernel
theorem dX10_isBar_37 : decode cX10_isBar 37 = .ok (.aload_n 0, 1) := by decide +kernel
theorem dX10_isBar_38 : decode cX10_isBar 38 = .ok (.getfield 51, 3) := by decide +kernel
theorem dX10_isBar_41 : decode cX10_isBar 41 = .ok (.iconst 1, 1) := by decide +kernel
theorem dX10_isBar_42 : decode cX10_isBar 42 = .ok (.iload 4, 2) := by decide +kernel
theorem dX10_isBar_44 : decode cX10_isBar 44 = .ok (.bipush 8, 2) := by decide +kernel
theorem dX10_isBar_46 : decode cX10_isBar 46 = .ok (.irem, 1) := by decide +kernel
theorem dX10_isBar_47 : decode cX10_isBar 47 = .ok (.iastore, 1) := by decide +kernel
theorem dX10_isBar_48 : decode cX10_isBar 48 = .ok (.aload_n 0, 1) := by decide +kernel
theorem dX10_isBar_49 : decode cX10_isBar 49 = .ok (.getfield 51, 3) := by decide +kernel
theorem dX10_isBar_52 : decode cX10_isBar 52 = .ok (.iconst 2, 1) := by decide +kernel
theorem dX10_isBar_53 : decode cX10_isBar 53 = .ok (.iload 4, 2) := by decide +kernel
theorem dX10_isBar_55 : decode cX10_isBar 55 = .ok (.bipush 64, 2) := by decide +kernel
theorem dX10_isBar_57 : decode cX10_isBar 57 = .ok (.idiv, 1) := by decide +kernel
theorem dX10_isBar_58 : decode cX10_isBar 58 = .ok (.iastore, 1) := by decide +kernel
theorem dX10_isBar_59 : decode cX10_isBar 59 = .ok (.aload_n 0, 1) := by decide +kernel
theorem dX10_isBar_60 : decode cX10_isBar 60 = .ok (.getfield 51, 3) := by decide +kernel
theorem dX10_isBar_63 : decode cX10_isBar 63 = .ok (.iconst 3, 1) := by decide +kernel
theorem dX10_isBar_64 : decode cX10_isBar 64 = .ok (.aload_n 0, 1) := by decide +kernel
theorem dX10_isBar_65 : decode cX10_isBar 65 = .ok (.getfield 32, 3) := by decide +kernel
theorem dX10_isBar_68 : decode cX10_isBar 68 = .ok (.bipush 8, 2) := by decide +kernel
theorem dX10_isBar_70 : decode cX10_isBar 70 = .ok (.iload 4, 2) := by decide +kernel
theorem dX10_isBar_72 : decode cX10_isBar 72 = .ok (.bipush 64, 2) := by decide +kernel
theorem dX10_isBar_74 : decode cX10_isBar 74 = .ok (.idiv, 1) := by decide +kernel
theorem dX10_isBar_75 : decode cX10_isBar 75 = .ok (.imul, 1) := by decide +kernel
theorem dX10_isBar_76 : decode cX10_isBar 76 = .ok (.iload 4, 2) := by decide +kernel
theorem dX10_isBar_78 : decode cX10_isBar 78 = .ok (.bipush 8, 2) := by decide +kernel
theorem dX10_isBar_80 : decode cX10_isBar 80 = .ok (.irem, 1) := by decide +kernel
theorem dX10_isBar_81 : decode cX10_isBar 81 = .ok (.iadd, 1) := by decide +kernel
theorem dX10_isBar_82 : decode cX10_isBar 82 = .ok (.iaload, 1) := by decide +kernel
theorem dX10_isBar_83 : decode cX10_isBar 83 = .ok (.iastore, 1) := by decide +kernel
theorem dX10_isBar_84 : decode cX10_isBar 84 = .ok (.aload_n 0, 1) := by decide +kernel
theorem dX10_isBar_85 : decode cX10_isBar 85 = .ok (.getfield 51, 3) := by decide +kernel
theorem dX10_isBar_88 : decode cX10_isBar 88 = .ok (.iconst 4, 1) := by decide +kernel
theorem dX10_isBar_89 : decode cX10_isBar 89 = .ok (.aload_n 0, 1) := by decide +kernel
theorem dX10_isBar_90 : decode cX10_isBar 90 = .ok (.getfield 32, 3) := by decide +kernel
theorem dX10_isBar_93 : decode cX10_isBar 93 = .ok (.bipush 8, 2) := by decide +kernel
theorem dX10_isBar_95 : decode cX10_isBar 95 = .ok (.iload 4, 2) := by decide +kernel
theorem dX10_isBar_97 : decode cX10_isBar 97 = .ok (.bipush 64, 2) := by decide +kernel
theorem dX10_isBar_99 : decode cX10_isBar 99 = .ok (.idiv, 1) := by decide +kernel
theorem dX10_isBar_100 : decode cX10_isBar 100 = .ok (.imul, 1) := by decide +kernel
theorem dX10_isBar_101 : decode cX10_isBar 101 = .ok (.iload 4, 2) := by decide +kernel
theorem dX10_isBar_103 : decode cX10_isBar 103 = .ok (.bipush 8, 2) := by decide +kernel
theorem dX10_isBar_105 : decode cX10_isBar 105 = .ok (.idiv, 1) := by decide +kernel
theorem dX10_isBar_106 : decode cX10_isBar 106 = .ok (.bipush 8, 2) := by decide +kernel
theorem dX10_isBar_108 : decode cX10_isBar 108 = .ok (.irem, 1) := by decide +kernel
theorem dX10_isBar_109 : decode cX10_isBar 109 = .ok (.iadd, 1) := by decide +kernel
theorem dX10_isBar_110 : decode cX10_isBar 110 = .ok (.iaload, 1) := by decide +kernel
theorem dX10_isBar_111 : decode cX10_isBar 111 = .ok (.iastore, 1) := by decide +kernel
theorem dX10_isBar_112 : decode cX10_isBar 112 = .ok (.aload_n 0, 1) := by decide +kernel
theorem dX10_isBar_113 : decode cX10_isBar 113 = .ok (.getfield 82, 3) := by decide +kernel
theorem dX10_isBar_116 : decode cX10_isBar 116 = .ok (.iload 4, 2) := by decide +kernel
theorem dX10_isBar_118 : decode cX10_isBar 118 = .ok (.aload_n 0, 1) := by decide +kernel
theorem dX10_isBar_119 : decode cX10_isBar 119 = .ok (.getfield 39, 3) := by decide +kernel
theorem dX10_isBar_122 : decode cX10_isBar 122 = .ok (.ifCond .le 22, 3) := by decide +kernel
theorem dX10_isBar_125 : decode cX10_isBar 125 = .ok (.aload_n 0, 1) := by decide +kernel
theorem dX10_isBar_126 : decode cX10_isBar 126 = .ok (.iconst 0, 1) := by decide +kernel
theorem dX10_isBar_127 : decode cX10_isBar 127 = .ok (.invokevirtual 227, 3) := by decide +kernel
theorem dX10_isBar_130 : decode cX10_isBar 130 = .ok (.ifCond .eq 14, 3) := by decide +kernel
theorem dX10_isBar_133 : decode cX10_isBar 133 = .ok (.aload_n 0, 1) := by decide +kernel
theorem dX10_isBar_134 : decode cX10_isBar 134 = .ok (.getfield 66, 3) := by decide +kernel
theorem dX10_isBar_137 : decode cX10_isBar 137 = .ok (.ifCond .eq 7, 3) := by decide +kernel
theorem dX10_isBar_140 : decode cX10_isBar 140 = .ok (.iconst 1, 1) := by decide +kernel
theorem dX10_isBar_141 : decode cX10_isBar 141 = .ok (.goto 4, 3) := by decide +kernel
theorem dX10_isBar_144 : decode cX10_isBar 144 = .ok (.iconst 0, 1) := by decide +kernel
theorem dX10_isBar_145 : decode cX10_isBar 145 = .ok (.bastore, 1) := by decide +kernel
theorem dX10_isBar_146 : decode cX10_isBar 146 = .ok (.iinc 4 1, 3) := by decide +kernel
theorem dX10_isBar_149 : decode cX10_isBar 149 = .ok (.goto (-134), 3) := by decide +kernel
theorem dX10_isBar_152 : decode cX10_isBar 152 = .ok (.aload_n 0, 1) := by decide +kernel
theorem dX10_isBar_153 : decode cX10_isBar 153 = .ok (.getfield 82, 3) := by decide +kernel
theorem dX10_isBar_156 : decode cX10_isBar 156 = .ok (.bipush 64, 2) := by decide +kernel
theorem dX10_isBar_158 : decode cX10_isBar 158 = .ok (.iload_n 3, 1) := by decide +kernel
theorem dX10_isBar_159 : decode cX10_isBar 159 = .ok (.imul, 1) := by decide +kernel
theorem dX10_isBar_160 : decode cX10_isBar 160 = .ok (.bipush 8, 2) := by decide +kernel
theorem dX10_isBar_162 : decode cX10_isBar 162 = .ok (.iload_n 1, 1) := by decide +kernel
theorem dX10_isBar_163 : decode cX10_isBar 163 = .ok (.imul, 1) := by decide +kernel
theorem dX10_isBar_164 : decode cX10_isBar 164 = .ok (.iadd, 1) := by decide +kernel
theorem dX10_isBar_165 : decode cX10_isBar 165 = .ok (.iload_n 2, 1) := by decide +kernel
theorem dX10_isBar_166 : decode cX10_isBar 166 = .ok (.iadd, 1) := by decide +kernel
theorem dX10_isBar_167 : decode cX10_isBar 167 = .ok (.baload, 1) := by decide +kernel
theorem dX10_isBar_168 : decode cX10_isBar 168 = .ok (.ireturn, 1) := by decide +kernel
theorem dX10_plainTells_0 : decode cX10_plainTells 0 = .ok (.aload_n 0, 1) := by decide +kernel
theorem dX10_plainTells_1 : decode cX10_plainTells 1 = .ok (.bipush 12, 2) := by decide +kernel
theorem dX10_plainTells_3 : decode cX10_plainTells 3 = .ok (.invokevirtual 329, 3) := by decide +kernel
theorem dX10_plainTells_6 : decode cX10_plainTells 6 = .ok (.aload_n 0, 1) := by decide +kernel
theorem dX10_plainTells_7 : decode cX10_plainTells 7 = .ok (.iload_n 1, 1) := by decide +kernel
theorem dX10_plainTells_8 : decode cX10_plainTells 8 = .ok (.iload_n 2, 1) := by decide +kernel
theorem dX10_plainTells_9 : decode cX10_plainTells 9 = .ok (.iload_n 3, 1) := by decide +kernel
theorem dX10_plainTells_10 : decode cX10_plainTells 10 = .ok (.invokevirtual 348, 3) := by decide +kernel
theorem dX10_plainTells_13 : decode cX10_plainTells 13 = .ok (.iconst 2, 1) := by decide +kernel
theorem dX10_plainTells_14 : decode cX10_plainTells 14 = .ok (.imul, 1) := by decide +kernel
theorem dX10_plainTells_15 : decode cX10_plainTells 15 = .ok (.ireturn, 1) := by decide +kernel
theorem dX10_barred_0 : decode cX10_barred 0 = .ok (.aload_n 0, 1) := by decide +kernel
theorem dX10_barred_1 : decode cX10_barred 1 = .ok (.iload_n 1, 1) := by decide +kernel
theorem dX10_barred_2 : decode cX10_barred 2 = .ok (.invokevirtual 179, 3) := by decide +kernel
theorem dX10_barred_5 : decode cX10_barred 5 = .ok (.ifCond .eq 19, 3) := by decide +kernel
theorem dX10_barred_8 : decode cX10_barred 8 = .ok (.aload_n 0, 1) := by decide +kernel
theorem dX10_barred_9 : decode cX10_barred 9 = .ok (.iload_n 2, 1) := by decide +kernel
theorem dX10_barred_10 : decode cX10_barred 10 = .ok (.invokevirtual 179, 3) := by decide +kernel
theorem dX10_barred_13 : decode cX10_barred 13 = .ok (.ifCond .eq 11, 3) := by decide +kernel
theorem dX10_barred_16 : decode cX10_barred 16 = .ok (.aload_n 0, 1) := by decide +kernel
theorem dX10_barred_17 : decode cX10_barred 17 = .ok (.iload_n 3, 1) := by decide +kernel
theorem dX10_barred_18 : decode cX10_barred 18 = .ok (.invokevirtual 183, 3) := by decide +kernel
theorem dX10_barred_21 : decode cX10_barred 21 = .ok (.ifCond .ne 5, 3) := by decide +kernel
theorem dX10_barred_24 : decode cX10_barred 24 = .ok (.iconst (-1), 1) := by decide +kernel
theorem dX10_barred_25 : decode cX10_barred 25 = .ok (.ireturn, 1) := by decide +kernel
theorem dX10_barred_26 : decode cX10_barred 26 = .ok (.iload_n 1, 1) := by decide +kernel
theorem dX10_barred_27 : decode cX10_barred 27 = .ok (.iload_n 2, 1) := by decide +kernel
theorem dX10_barred_28 : decode cX10_barred 28 = .ok (.if_icmp .ne 8, 3) := by decide +kernel
theorem dX10_barred_31 : decode cX10_barred 31 = .ok (.bipush (-2), 2) := by decide +kernel
theorem dX10_barred_33 : decode cX10_barred 33 = .ok (.goto 18, 3) := by decide +kernel
theorem dX10_barred_36 : decode cX10_barred 36 = .ok (.aload_n 0, 1) := by decide +kernel
theorem dX10_barred_37 : decode cX10_barred 37 = .ok (.iload_n 1, 1) := by decide +kernel
theorem dX10_barred_38 : decode cX10_barred 38 = .ok (.iload_n 2, 1) := by decide +kernel
theorem dX10_barred_39 : decode cX10_barred 39 = .ok (.iload_n 3, 1) := by decide +kernel
theorem dX10_barred_40 : decode cX10_barred 40 = .ok (.invokevirtual 230, 3) := by decide +kernel
theorem dX10_barred_43 : decode cX10_barred 43 = .ok (.ifCond .eq 7, 3) := by decide +kernel
theorem dX10_barred_46 : decode cX10_barred 46 = .ok (.iconst 1, 1) := by decide +kernel
theorem dX10_barred_47 : decode cX10_barred 47 = .ok (.goto 4, 3) := by decide +kernel
theorem dX10_barred_50 : decode cX10_barred 50 = .ok (.iconst 0, 1) := by decide +kernel
theorem dX10_barred_51 : decode cX10_barred 51 = .ok (.ireturn, 1) := by decide +kernel
theorem dX10_surestOf_0 : decode cX10_surestOf 0 = .ok (.iconst (-1), 1) := by decide +kernel
theorem dX10_surestOf_1 : decode cX10_surestOf 1 = .ok (.istore_n 3, 1) := by decide +kernel
theorem dX10_surestOf_2 : decode cX10_surestOf 2 = .ok (.iconst 0, 1) := by decide +kernel
theorem dX10_surestOf_3 : decode cX10_surestOf 3 = .ok (.istore 4, 2) := by decide +kernel
theorem dX10_surestOf_5 : decode cX10_surestOf 5 = .ok (.iload 4, 2) := by decide +kernel
theorem dX10_surestOf_7 : decode cX10_surestOf 7 = .ok (.aload_n 0, 1) := by decide +kernel
theorem dX10_surestOf_8 : decode cX10_surestOf 8 = .ok (.getfield 7, 3) := by decide +kernel
theorem dX10_surestOf_11 : decode cX10_surestOf 11 = .ok (.if_icmp .ge 59, 3) := by decide +kernel
theorem dX10_surestOf_14 : decode cX10_surestOf 14 = .ok (.iload 4, 2) := by decide +kernel
theorem dX10_surestOf_16 : decode cX10_surestOf 16 = .ok (.iload_n 1, 1) := by decide +kernel
theorem dX10_surestOf_17 : decode cX10_surestOf 17 = .ok (.if_icmp .eq 47, 3) := by decide +kernel
theorem dX10_surestOf_20 : decode cX10_surestOf 20 = .ok (.aload_n 0, 1) := by decide +kernel
theorem dX10_surestOf_21 : decode cX10_surestOf 21 = .ok (.iload_n 1, 1) := by decide +kernel
theorem dX10_surestOf_22 : decode cX10_surestOf 22 = .ok (.iload 4, 2) := by decide +kernel
theorem dX10_surestOf_24 : decode cX10_surestOf 24 = .ok (.iload_n 2, 1) := by decide +kernel
theorem dX10_surestOf_25 : decode cX10_surestOf 25 = .ok (.invokevirtual 230, 3) := by decide +kernel
theorem dX10_surestOf_28 : decode cX10_surestOf 28 = .ok (.ifCond .ne 36, 3) := by decide +kernel
theorem dX10_surestOf_31 : decode cX10_surestOf 31 = .ok (.iload_n 3, 1) := by decide +kernel
theorem dX10_surestOf_32 : decode cX10_surestOf 32 = .ok (.ifCond .lt 29, 3) := by decide +kernel
theorem dX10_surestOf_35 : decode cX10_surestOf 35 = .ok (.aload_n 0, 1) := by decide +kernel
theorem dX10_surestOf_36 : decode cX10_surestOf 36 = .ok (.getfield 32, 3) := by decide +kernel
theorem dX10_surestOf_39 : decode cX10_surestOf 39 = .ok (.bipush 8, 2) := by decide +kernel
theorem dX10_surestOf_41 : decode cX10_surestOf 41 = .ok (.iload_n 2, 1) := by decide +kernel
theorem dX10_surestOf_42 : decode cX10_surestOf 42 = .ok (.imul, 1) := by decide +kernel
theorem dX10_surestOf_43 : decode cX10_surestOf 43 = .ok (.iload 4, 2) := by decide +kernel
theorem dX10_surestOf_45 : decode cX10_surestOf 45 = .ok (.iadd, 1) := by decide +kernel
theorem dX10_surestOf_46 : decode cX10_surestOf 46 = .ok (.iaload, 1) := by decide +kernel
theorem dX10_surestOf_47 : decode cX10_surestOf 47 = .ok (.aload_n 0, 1) := by decide +kernel
theorem dX10_surestOf_48 : decode cX10_surestOf 48 = .ok (.getfield 32, 3) := by decide +kernel
theorem dX10_surestOf_51 : decode cX10_surestOf 51 = .ok (.bipush 8, 2) := by decide +kernel
theorem dX10_surestOf_53 : decode cX10_surestOf 53 = .ok (.iload_n 2, 1) := by decide +kernel
theorem dX10_surestOf_54 : decode cX10_surestOf 54 = .ok (.imul, 1) := by decide +kernel
theorem dX10_surestOf_55 : decode cX10_surestOf 55 = .ok (.iload_n 3, 1) := by decide +kernel
theorem dX10_surestOf_56 : decode cX10_surestOf 56 = .ok (.iadd, 1) := by decide +kernel
theorem dX10_surestOf_57 : decode cX10_surestOf 57 = .ok (.iaload, 1) := by decide +kernel
theorem dX10_surestOf_58 : decode cX10_surestOf 58 = .ok (.if_icmp .le 6, 3) := by decide +kernel
theorem dX10_surestOf_61 : decode cX10_surestOf 61 = .ok (.iload 4, 2) := by decide +kernel
theorem dX10_surestOf_63 : decode cX10_surestOf 63 = .ok (.istore_n 3, 1) := by decide +kernel
theorem dX10_surestOf_64 : decode cX10_surestOf 64 = .ok (.iinc 4 1, 3) := by decide +kernel
theorem dX10_surestOf_67 : decode cX10_surestOf 67 = .ok (.goto (-62), 3) := by decide +kernel
theorem dX10_surestOf_70 : decode cX10_surestOf 70 = .ok (.iload_n 3, 1) := by decide +kernel
theorem dX10_surestOf_71 : decode cX10_surestOf 71 = .ok (.ireturn, 1) := by decide +kernel
theorem dX10_hands_0 : decode cX10_hands 0 = .ok (.iload_n 2, 1) := by decide +kernel
theorem dX10_hands_1 : decode cX10_hands 1 = .ok (.ifCond .lt 13, 3) := by decide +kernel
theorem dX10_hands_4 : decode cX10_hands 4 = .ok (.aload_n 0, 1) := by decide +kernel
theorem dX10_hands_5 : decode cX10_hands 5 = .ok (.iload_n 1, 1) := by decide +kernel
theorem dX10_hands_6 : decode cX10_hands 6 = .ok (.iload_n 2, 1) := by decide +kernel
theorem dX10_hands_7 : decode cX10_hands 7 = .ok (.iload_n 3, 1) := by decide +kernel
theorem dX10_hands_8 : decode cX10_hands 8 = .ok (.invokevirtual 230, 3) := by decide +kernel
theorem dX10_hands_11 : decode cX10_hands 11 = .ok (.ifCond .eq 7, 3) := by decide +kernel
theorem dX10_hands_14 : decode cX10_hands 14 = .ok (.iload_n 1, 1) := by decide +kernel
theorem dX10_hands_15 : decode cX10_hands 15 = .ok (.goto 4, 3) := by decide +kernel
theorem dX10_hands_18 : decode cX10_hands 18 = .ok (.iload_n 2, 1) := by decide +kernel
theorem dX10_hands_19 : decode cX10_hands 19 = .ok (.istore 5, 2) := by decide +kernel
theorem dX10_hands_21 : decode cX10_hands 21 = .ok (.aload_n 0, 1) := by decide +kernel
theorem dX10_hands_22 : decode cX10_hands 22 = .ok (.getfield 115, 3) := by decide +kernel
theorem dX10_hands_25 : decode cX10_hands 25 = .ok (.bipush 8, 2) := by decide +kernel
theorem dX10_hands_27 : decode cX10_hands 27 = .ok (.iload_n 1, 1) := by decide +kernel
theorem dX10_hands_28 : decode cX10_hands 28 = .ok (.imul, 1) := by decide +kernel
theorem dX10_hands_29 : decode cX10_hands 29 = .ok (.iload 5, 2) := by decide +kernel
theorem dX10_hands_31 : decode cX10_hands 31 = .ok (.iadd, 1) := by decide +kernel
theorem dX10_hands_32 : decode cX10_hands 32 = .ok (.dup2, 1) := by decide +kernel
theorem dX10_hands_33 : decode cX10_hands 33 = .ok (.iaload, 1) := by decide +kernel
theorem dX10_hands_34 : decode cX10_hands 34 = .ok (.iload 4, 2) := by decide +kernel
theorem dX10_hands_36 : decode cX10_hands 36 = .ok (.iadd, 1) := by decide +kernel
theorem dX10_hands_37 : decode cX10_hands 37 = .ok (.iastore, 1) := by decide +kernel
theorem dX10_hands_38 : decode cX10_hands 38 = .ok (.return_, 1) := by decide +kernel
theorem dX10_putOrders_0 : decode cX10_putOrders 0 = .ok (.iconst 0, 1) := by decide +kernel
theorem dX10_putOrders_1 : decode cX10_putOrders 1 = .ok (.istore_n 3, 1) := by decide +kernel
theorem dX10_putOrders_2 : decode cX10_putOrders 2 = .ok (.iload_n 3, 1) := by decide +kernel
theorem dX10_putOrders_3 : decode cX10_putOrders 3 = .ok (.aload_n 0, 1) := by decide +kernel
theorem dX10_putOrders_4 : decode cX10_putOrders 4 = .ok (.getfield 7, 3) := by decide +kernel
theorem dX10_putOrders_7 : decode cX10_putOrders 7 = .ok (.if_icmp .ge 113, 3) := by decide +kernel
theorem dX10_putOrders_10 : decode cX10_putOrders 10 = .ok (.aload_n 0, 1) := by decide +kernel
theorem dX10_putOrders_11 : decode cX10_putOrders 11 = .ok (.iload_n 3, 1) := by decide +kernel
theorem dX10_putOrders_12 : decode cX10_putOrders 12 = .ok (.iload_n 2, 1) := by decide +kernel
theorem dX10_putOrders_13 : decode cX10_putOrders 13 = .ok (.invokevirtual 244, 3) := by decide +kernel
theorem dX10_putOrders_16 : decode cX10_putOrders 16 = .ok (.ifCond .ne 6, 3) := by decide +kernel
theorem dX10_putOrders_19 : decode cX10_putOrders 19 = .ok (.goto 95, 3) := by decide +kernel
theorem dX10_putOrders_22 : decode cX10_putOrders 22 = .ok (.aload_n 0, 1) := by decide +kernel
theorem dX10_putOrders_23 : decode cX10_putOrders 23 = .ok (.iload_n 1, 1) := by decide +kernel
theorem dX10_putOrders_24 : decode cX10_putOrders 24 = .ok (.iload_n 3, 1) := by decide +kernel
theorem dX10_putOrders_25 : decode cX10_putOrders 25 = .ok (.invokevirtual 241, 3) := by decide +kernel
theorem dX10_putOrders_28 : decode cX10_putOrders 28 = .ok (.ifCond .eq 17, 3) := by decide +kernel
theorem dX10_putOrders_31 : decode cX10_putOrders 31 = .ok (.aload_n 0, 1) := by decide +kernel
theorem dX10_putOrders_32 : decode cX10_putOrders 32 = .ok (.getfield 26, 3) := by decide +kernel
theorem dX10_putOrders_35 : decode cX10_putOrders 35 = .ok (.bipush 8, 2) := by decide +kernel
theorem dX10_putOrders_37 : decode cX10_putOrders 37 = .ok (.iload_n 2, 1) := by decide +kernel
theorem dX10_putOrders_38 : decode cX10_putOrders 38 = .ok (.imul, 1) := by decide +kernel
theorem dX10_putOrders_39 : decode cX10_putOrders 39 = .ok (.iload_n 3, 1) := by decide +kernel
theorem dX10_putOrders_40 : decode cX10_putOrders 40 = .ok (.iadd, 1) := by decide +kernel
theorem dX10_putOrders_41 : decode cX10_putOrders 41 = .ok (.iaload, 1) := by decide +kernel
theorem dX10_putOrders_42 : decode cX10_putOrders 42 = .ok (.goto 14, 3) := by decide +kernel
theorem dX10_putOrders_45 : decode cX10_putOrders 45 = .ok (.aload_n 0, 1) := by decide +kernel
theorem dX10_putOrders_46 : decode cX10_putOrders 46 = .ok (.getfield 23, 3) := by decide +kernel
theorem dX10_putOrders_49 : decode cX10_putOrders 49 = .ok (.bipush 8, 2) := by decide +kernel
theorem dX10_putOrders_51 : decode cX10_putOrders 51 = .ok (.iload_n 2, 1) := by decide +kernel
theorem dX10_putOrders_52 : decode cX10_putOrders 52 = .ok (.imul, 1) := by decide +kernel
theorem dX10_putOrders_53 : decode cX10_putOrders 53 = .ok (.iload_n 3, 1) := by decide +kernel
theorem dX10_putOrders_54 : decode cX10_putOrders 54 = .ok (.iadd, 1) := by decide +kernel
theorem dX10_putOrders_55 : decode cX10_putOrders 55 = .ok (.iaload, 1) := by decide +kernel
theorem dX10_putOrders_56 : decode cX10_putOrders 56 = .ok (.istore 4, 2) := by decide +kernel
theorem dX10_putOrders_58 : decode cX10_putOrders 58 = .ok (.aload_n 0, 1) := by decide +kernel
theorem dX10_putOrders_59 : decode cX10_putOrders 59 = .ok (.iload_n 3, 1) := by decide +kernel
theorem dX10_putOrders_60 : decode cX10_putOrders 60 = .ok (.iload 4, 2) := by decide +kernel
theorem dX10_putOrders_62 : decode cX10_putOrders 62 = .ok (.iload_n 2, 1) := by decide +kernel
theorem dX10_putOrders_63 : decode cX10_putOrders 63 = .ok (.invokevirtual 230, 3) := by decide +kernel
theorem dX10_putOrders_66 : decode cX10_putOrders 66 = .ok (.ifCond .eq 5, 3) := by decide +kernel
theorem dX10_putOrders_69 : decode cX10_putOrders 69 = .ok (.iconst 0, 1) := by decide +kernel
theorem dX10_putOrders_70 : decode cX10_putOrders 70 = .ok (.ireturn, 1) := by decide +kernel
theorem dX10_putOrders_71 : decode cX10_putOrders 71 = .ok (.iconst 0, 1) := by decide +kernel
theorem dX10_putOrders_72 : decode cX10_putOrders 72 = .ok (.istore 5, 2) := by decide +kernel
theorem dX10_putOrders_74 : decode cX10_putOrders 74 = .ok (.iload 5, 2) := by decide +kernel
theorem dX10_putOrders_76 : decode cX10_putOrders 76 = .ok (.aload_n 0, 1) := by decide +kernel
theorem dX10_putOrders_77 : decode cX10_putOrders 77 = .ok (.getfield 7, 3) := by decide +kernel
theorem dX10_putOrders_80 : decode cX10_putOrders 80 = .ok (.if_icmp .ge 34, 3) := by decide +kernel
theorem dX10_putOrders_83 : decode cX10_putOrders 83 = .ok (.aload_n 0, 1) := by decide +kernel
theorem dX10_putOrders_84 : decode cX10_putOrders 84 = .ok (.getfield 115, 3) := by decide +kernel
theorem dX10_putOrders_87 : decode cX10_putOrders 87 = .ok (.bipush 8, 2) := by decide +kernel
theorem dX10_putOrders_89 : decode cX10_putOrders 89 = .ok (.iload_n 3, 1) := by decide +kernel
theorem dX10_putOrders_90 : decode cX10_putOrders 90 = .ok (.imul, 1) := by decide +kernel
theorem dX10_putOrders_91 : decode cX10_putOrders 91 = .ok (.iload 5, 2) := by decide +kernel
theorem dX10_putOrders_93 : decode cX10_putOrders 93 = .ok (.iadd, 1) := by decide +kernel
theorem dX10_putOrders_94 : decode cX10_putOrders 94 = .ok (.iload 5, 2) := by decide +kernel
theorem dX10_putOrders_96 : decode cX10_putOrders 96 = .ok (.iload 4, 2) := by decide +kernel
theorem dX10_putOrders_98 : decode cX10_putOrders 98 = .ok (.if_icmp .ne 8, 3) := by decide +kernel
theorem dX10_putOrders_101 : decode cX10_putOrders 101 = .ok (.bipush 10, 2) := by decide +kernel
theorem dX10_putOrders_103 : decode cX10_putOrders 103 = .ok (.goto 4, 3) := by decide +kernel
theorem dX10_putOrders_106 : decode cX10_putOrders 106 = .ok (.iconst 0, 1) := by decide +kernel
theorem dX10_putOrders_107 : decode cX10_putOrders 107 = .ok (.iastore, 1) := by decide +kernel
theorem dX10_putOrders_108 : decode cX10_putOrders 108 = .ok (.iinc 5 1, 3) := by decide +kernel
theorem dX10_putOrders_111 : decode cX10_putOrders 111 = .ok (.goto (-37), 3) := by decide +kernel
theorem dX10_putOrders_114 : decode cX10_putOrders 114 = .ok (.iinc 3 1, 3) := by decide +kernel
theorem dX10_putOrders_117 : decode cX10_putOrders 117 = .ok (.goto (-115), 3) := by decide +kernel
theorem dX10_putOrders_120 : decode cX10_putOrders 120 = .ok (.iconst 1, 1) := by decide +kernel
theorem dX10_putOrders_121 : decode cX10_putOrders 121 = .ok (.ireturn, 1) := by decide +kernel
theorem dX10_tells_0 : decode cX10_tells 0 = .ok (.aload_n 0, 1) := by decide +kernel
theorem dX10_tells_1 : decode cX10_tells 1 = .ok (.getfield 16, 3) := by decide +kernel
theorem dX10_tells_4 : decode cX10_tells 4 = .ok (.bipush 8, 2) := by decide +kernel
theorem dX10_tells_6 : decode cX10_tells 6 = .ok (.iload_n 2, 1) := by decide +kernel
theorem dX10_tells_7 : decode cX10_tells 7 = .ok (.imul, 1) := by decide +kernel
theorem dX10_tells_8 : decode cX10_tells 8 = .ok (.iload_n 1, 1) := by decide +kernel
theorem dX10_tells_9 : decode cX10_tells 9 = .ok (.iadd, 1) := by decide +kernel
theorem dX10_tells_10 : decode cX10_tells 10 = .ok (.iaload, 1) := by decide +kernel
theorem dX10_tells_11 : decode cX10_tells 11 = .ok (.tableswitch 92 1 5 #[33, 92, 92, 50, 66], 33) := by decide +kernel
theorem dX10_tells_44 : decode cX10_tells 44 = .ok (.aload_n 0, 1) := by decide +kernel
theorem dX10_tells_45 : decode cX10_tells 45 = .ok (.bipush 20, 2) := by decide +kernel
theorem dX10_tells_47 : decode cX10_tells 47 = .ok (.invokevirtual 329, 3) := by decide +kernel
theorem dX10_tells_50 : decode cX10_tells 50 = .ok (.aload_n 0, 1) := by decide +kernel
theorem dX10_tells_51 : decode cX10_tells 51 = .ok (.iload_n 1, 1) := by decide +kernel
theorem dX10_tells_52 : decode cX10_tells 52 = .ok (.iload_n 2, 1) := by decide +kernel
theorem dX10_tells_53 : decode cX10_tells 53 = .ok (.iload_n 3, 1) := by decide +kernel
theorem dX10_tells_54 : decode cX10_tells 54 = .ok (.invokevirtual 351, 3) := by decide +kernel
theorem dX10_tells_57 : decode cX10_tells 57 = .ok (.bipush 7, 2) := by decide +kernel
theorem dX10_tells_59 : decode cX10_tells 59 = .ok (.ixor, 1) := by decide +kernel
theorem dX10_tells_60 : decode cX10_tells 60 = .ok (.ireturn, 1) := by decide +kernel
theorem dX10_tells_61 : decode cX10_tells 61 = .ok (.aload_n 0, 1) := by decide +kernel
theorem dX10_tells_62 : decode cX10_tells 62 = .ok (.bipush 50, 2) := by decide +kernel
theorem dX10_tells_64 : decode cX10_tells 64 = .ok (.invokevirtual 329, 3) := by decide +kernel
theorem dX10_tells_67 : decode cX10_tells 67 = .ok (.aload_n 0, 1) := by decide +kernel
theorem dX10_tells_68 : decode cX10_tells 68 = .ok (.iload_n 1, 1) := by decide +kernel
theorem dX10_tells_69 : decode cX10_tells 69 = .ok (.iload_n 2, 1) := by decide +kernel
theorem dX10_tells_70 : decode cX10_tells 70 = .ok (.iload_n 3, 1) := by decide +kernel
theorem dX10_tells_71 : decode cX10_tells 71 = .ok (.iload_n 1, 1) := by decide +kernel
theorem dX10_tells_72 : decode cX10_tells 72 = .ok (.isub, 1) := by decide +kernel
theorem dX10_tells_73 : decode cX10_tells 73 = .ok (.invokevirtual 351, 3) := by decide +kernel
theorem dX10_tells_76 : decode cX10_tells 76 = .ok (.ireturn, 1) := by decide +kernel
theorem dX10_tells_77 : decode cX10_tells 77 = .ok (.aload_n 0, 1) := by decide +kernel
theorem dX10_tells_78 : decode cX10_tells 78 = .ok (.bipush 60, 2) := by decide +kernel
theorem dX10_tells_80 : decode cX10_tells 80 = .ok (.invokevirtual 329, 3) := by decide +kernel
theorem dX10_tells_83 : decode cX10_tells 83 = .ok (.aload_n 0, 1) := by decide +kernel
theorem dX10_tells_84 : decode cX10_tells 84 = .ok (.iload_n 1, 1) := by decide +kernel
theorem dX10_tells_85 : decode cX10_tells 85 = .ok (.iload_n 2, 1) := by decide +kernel
theorem dX10_tells_86 : decode cX10_tells 86 = .ok (.iload_n 3, 1) := by decide +kernel
theorem dX10_tells_87 : decode cX10_tells 87 = .ok (.invokevirtual 348, 3) := by decide +kernel
theorem dX10_tells_90 : decode cX10_tells 90 = .ok (.istore 4, 2) := by decide +kernel
theorem dX10_tells_92 : decode cX10_tells 92 = .ok (.iload 4, 2) := by decide +kernel
theorem dX10_tells_94 : decode cX10_tells 94 = .ok (.aload_n 0, 1) := by decide +kernel
theorem dX10_tells_95 : decode cX10_tells 95 = .ok (.iload_n 1, 1) := by decide +kernel
theorem dX10_tells_96 : decode cX10_tells 96 = .ok (.iload_n 2, 1) := by decide +kernel
theorem dX10_tells_97 : decode cX10_tells 97 = .ok (.iload_n 3, 1) := by decide +kernel
theorem dX10_tells_98 : decode cX10_tells 98 = .ok (.invokevirtual 351, 3) := by decide +kernel
theorem dX10_tells_101 : decode cX10_tells 101 = .ok (.isub, 1) := by decide +kernel
theorem dX10_tells_102 : decode cX10_tells 102 = .ok (.ireturn, 1) := by decide +kernel
theorem dX10_tells_103 : decode cX10_tells 103 = .ok (.aload_n 0, 1) := by decide +kernel
theorem dX10_tells_104 : decode cX10_tells 104 = .ok (.iload_n 1, 1) := by decide +kernel
theorem dX10_tells_105 : decode cX10_tells 105 = .ok (.iload_n 2, 1) := by decide +kernel
theorem dX10_tells_106 : decode cX10_tells 106 = .ok (.iload_n 3, 1) := by decide +kernel
theorem dX10_tells_107 : decode cX10_tells 107 = .ok (.invokevirtual 351, 3) := by decide +kernel
theorem dX10_tells_110 : decode cX10_tells 110 = .ok (.ireturn, 1) := by decide +kernel
set_option maxHeartbeats 4000000 in
set_option maxRecDepth 100000 in
theorem B_X10_gives {l : Launch} {e : hv_Ev}  (x1 : Int32) (x2 : Int32) (x3 : Int32) {σ : hv_S} {Φ : Int32 → hv_S → Prop} (h : (vp_in ((8 * x2) + x1) 24 ∧ (((σ.1 61 (((8 * x2) + x1).toNatClampNeg)) ≠ 4 → (((σ.1 61 (((8 * x2) + x1).toNatClampNeg)) < 2 → hv_CI l (hv_e2 e) 1 m_X10_plainGives [.ref 60, .int x1, .int x3] σ (fun v2 s1 => Φ v2 s1)) ∧ (¬ (σ.1 61 (((8 * x2) + x1).toNatClampNeg)) < 2 → hv_CI l (hv_e2 e) 2 m_X10_giveGives [.ref 60, .int x1, .int x3] σ (fun v5 s4 => Φ v5 s4)))) ∧ ((σ.1 61 (((8 * x2) + x1).toNatClampNeg)) = 4 → hv_CV l (hv_e2 e) 0 m_X10_body [.ref 60, .int 51] σ (fun s7 => hv_CI l (hv_e2 e) 2 m_X10_giveGives [.ref 60, .int x1, .int x3] s7 (fun v11 s10 => Φ (v11 ^^^ x2) s10)))))) : hv_CI l (hv_e2 e) 3 m_X10_gives [.ref 60, .int x1, .int x2, .int x3] σ Φ := by
  refine hv_entI (by decide) (Nat.le_of_ble_eq_true rfl) ?_
  show hv_TW l (hv_e2 e) (hv_rm 3) 0 0 m_X10_gives hv_no (hv_ZI (hv_e2 e) Φ) 0 [(0, .ref 60), (1, .int x1), (2, .int x2), (3, .int x3)] [] σ
  refine T_aload_n dX10_gives_0 rfl 0 rfl ?_
  refine T_get (v := .ref 61) dX10_gives_1 fl_X10_16 hp_60 hs_60 rfl rfl ?_
  refine T_bipush (v := 8) dX10_gives_4 (by decide) ?_
  refine T_iload_n dX10_gives_6 rfl 2 rfl ?_
  refine T_imul dX10_gives_7 ?_
  refine T_iload_n dX10_gives_8 rfl 1 rfl ?_
  refine T_iadd dX10_gives_9 ?_
  refine T_iald dX10_gives_10 hp_61 hs_61 h.1 ?_
  refine T_istore dX10_gives_11 (by decide) rfl ?_
  refine T_iload dX10_gives_13 0 rfl ?_
  refine T_iconst (v := 4) dX10_gives_15 (by decide) ?_
  refine T_icmp_ne (tgt := 34) dX10_gives_16 (by decide) (fun c13 => ?_) (fun c13 => ?_)
  · refine T_iload dX10_gives_34 0 rfl ?_
    refine T_iconst (v := 2) dX10_gives_36 (by decide) ?_
    refine T_icmp_lt (tgt := 49) dX10_gives_37 (by decide) (fun c14 => ?_) (fun c14 => ?_)
    · refine T_aload_n dX10_gives_49 rfl 1 rfl ?_
      refine T_iload_n dX10_gives_50 rfl 2 rfl ?_
      refine T_iload_n dX10_gives_51 rfl 4 rfl ?_
      refine T_VI (As := [.int x1, .int x3]) dX10_gives_52 mv_X10_332 hp_60 hs_60 rfl (Nat.le_of_ble_eq_true rfl) (hv_ok1 rfl) rfl ((h.2.1 c13).1 c14) (fun v2 s1 h3 => ?_)
      exact T_iret dX10_gives_55 rfl h3
    · refine T_aload_n dX10_gives_40 rfl 1 rfl ?_
      refine T_iload_n dX10_gives_41 rfl 2 rfl ?_
      refine T_iload_n dX10_gives_42 rfl 4 rfl ?_
      refine T_VI (As := [.int x1, .int x3]) dX10_gives_43 mv_X10_335 hp_60 hs_60 rfl (Nat.le_of_ble_eq_true rfl) (hv_ok1 rfl) rfl ((h.2.1 c13).2 c14) (fun v5 s4 h6 => ?_)
      refine T_goto (tgt := 55) dX10_gives_46 (by decide) ?_
      exact T_iret dX10_gives_55 rfl h6
  · refine T_aload_n dX10_gives_19 rfl 1 rfl ?_
    refine T_bipush (v := 51) dX10_gives_20 (by decide) ?_
    refine T_VV (As := [.int 51]) dX10_gives_22 mv_X10_329 hp_60 hs_60 rfl (Nat.le_of_ble_eq_true rfl) (hv_ok1 rfl) rfl (h.2.2 c13) (fun s7 h9 => ?_)
    refine T_aload_n dX10_gives_25 rfl 1 rfl ?_
    refine T_iload_n dX10_gives_26 rfl 2 rfl ?_
    refine T_iload_n dX10_gives_27 rfl 4 rfl ?_
    refine T_VI (As := [.int x1, .int x3]) dX10_gives_28 mv_X10_335 hp_60 hs_60 rfl (Nat.le_of_ble_eq_true rfl) (hv_ok1 rfl) rfl h9 (fun v11 s10 h12 => ?_)
    refine T_iload_n dX10_gives_31 rfl 3 rfl ?_
    refine T_ixor dX10_gives_32 ?_
    exact T_iret dX10_gives_33 rfl h12

def L_X10_takesE_17 (l : Launch) (e : hv_Ev)  (Φ : Int32 → hv_S → Prop) (x1 : Int32) (σ : hv_S) : Prop := hv_TW l (hv_e2 e) (hv_rm 4) 0 0 m_X10_takesE hv_no (hv_ZI (hv_e2 e) Φ) 17 [(0, .ref 60), (1, .int x1)] [] σ
def L_X10_takesE_117 (l : Launch) (e : hv_Ev)  (Φ : Int32 → hv_S → Prop) (x2 : Int32) (σ : hv_S) : Prop := hv_TW l (hv_e2 e) (hv_rm 4) 0 0 m_X10_takesE hv_no (hv_ZI (hv_e2 e) Φ) 117 [(0, .ref 60), (2, .int x2)] [] σ
def L_X10_takesE_38 (l : Launch) (e : hv_Ev)  (Φ : Int32 → hv_S → Prop) (x1 : Int32) (x2 : Int32) (σ : hv_S) : Prop := hv_TW l (hv_e2 e) (hv_rm 4) 0 0 m_X10_takesE hv_no (hv_ZI (hv_e2 e) Φ) 38 [(0, .ref 60), (1, .int x1), (2, .int x2)] [] σ
set_option maxHeartbeats 4000000 in
set_option maxRecDepth 100000 in
theorem B_X10_takesE_38 {l : Launch} {e : hv_Ev}  (x1 : Int32) (x2 : Int32) {σ : hv_S} {Φ : Int32 → hv_S → Prop} (h : (((σ.1 60 29) ≠ 4 → (vp_in (σ.1 60 27) 101 ∧ L_X10_takesE_17 l e Φ x1 (hv_ui (hv_ui (hv_ui (hv_ui σ 60 29 ((σ.1 60 29) + 1)) 72 ((σ.1 60 27).toNatClampNeg) x2) 60 27 ((σ.1 60 27) + 1)) 60 16 ((σ.1 60 16) + 1)))) ∧ ((σ.1 60 29) = 4 → Φ 0 σ))) : L_X10_takesE_38 l e Φ x1 x2 σ := by
  show hv_TW l (hv_e2 e) (hv_rm 4) 0 0 m_X10_takesE hv_no (hv_ZI (hv_e2 e) Φ) 38 [(0, .ref 60), (1, .int x1), (2, .int x2)] [] σ
  refine T_aload_n dX10_takesE_38 rfl 0 rfl ?_
  refine T_get (v := .int (σ.1 60 29)) dX10_takesE_39 fl_X10_100 hp_60 hs_60 rfl rfl ?_
  refine T_iconst (v := 4) dX10_takesE_42 (by decide) ?_
  refine T_icmp_ne (tgt := 48) dX10_takesE_43 (by decide) (fun c24 => ?_) (fun c24 => ?_)
  · refine T_aload_n dX10_takesE_48 rfl 0 rfl ?_
    refine T_dup dX10_takesE_49 rfl ?_
    refine T_get (v := .int (σ.1 60 29)) dX10_takesE_50 fl_X10_100 hp_60 hs_60 rfl rfl ?_
    refine T_iconst (v := 1) dX10_takesE_53 (by decide) ?_
    refine T_iadd dX10_takesE_54 ?_
    refine T_puti dX10_takesE_55 fl_X10_100 pf_X10_29 hp_60 hs_60 rfl ?_
    refine T_aload_n dX10_takesE_58 rfl 0 rfl ?_
    refine T_get (v := .ref 72) dX10_takesE_59 fl_X10_88 hp_60 hs_60 rfl rfl ?_
    refine T_aload_n dX10_takesE_62 rfl 0 rfl ?_
    refine T_get (v := .int (σ.1 60 27)) dX10_takesE_63 fl_X10_94 hp_60 hs_60 rfl rfl ?_
    refine T_iload_n dX10_takesE_66 rfl 2 rfl ?_
    refine T_iast dX10_takesE_67 hp_72 hs_72 (h.1 c24).1 ?_
    refine T_aload_n dX10_takesE_68 rfl 0 rfl ?_
    refine T_dup dX10_takesE_69 rfl ?_
    refine T_get (v := .int (σ.1 60 27)) dX10_takesE_70 fl_X10_94 hp_60 hs_60 rfl rfl ?_
    refine T_iconst (v := 1) dX10_takesE_73 (by decide) ?_
    refine T_iadd dX10_takesE_74 ?_
    refine T_puti dX10_takesE_75 fl_X10_94 pf_X10_27 hp_60 hs_60 rfl ?_
    refine T_aload_n dX10_takesE_78 rfl 0 rfl ?_
    refine T_dup dX10_takesE_79 rfl ?_
    refine T_get (v := .int (σ.1 60 16)) dX10_takesE_80 fl_X10_60 hp_60 hs_60 rfl rfl ?_
    refine T_iconst (v := 1) dX10_takesE_83 (by decide) ?_
    refine T_iadd dX10_takesE_84 ?_
    refine T_puti dX10_takesE_85 fl_X10_60 pf_X10_16 hp_60 hs_60 rfl ?_
    refine T_goto (tgt := 17) dX10_takesE_88 (by decide) ?_
    exact T_sub [0, 1] rfl (h.1 c24).2
  · refine T_iconst (v := 0) dX10_takesE_46 (by decide) ?_
    exact T_zret dX10_takesE_47 rfl (by decide) (h.2 c24)
set_option maxHeartbeats 4000000 in
set_option maxRecDepth 100000 in
theorem B_X10_takesE_117 {l : Launch} {e : hv_Ev}  (x2 : Int32) {σ : hv_S} {Φ : Int32 → hv_S → Prop} (h : hv_CV l (hv_e2 e) 0 m_X10_settleSigns [.ref 60, .int x2] σ (fun s21 => (vp_in (s21.1 60 27) 101 ∧ L_X10_takesE_17 l e Φ 1 (hv_ui (hv_ui (hv_ui s21 72 ((s21.1 60 27).toNatClampNeg) x2) 60 27 ((s21.1 60 27) + 1)) 60 16 ((s21.1 60 16) + 1))))) : L_X10_takesE_117 l e Φ x2 σ := by
  show hv_TW l (hv_e2 e) (hv_rm 4) 0 0 m_X10_takesE hv_no (hv_ZI (hv_e2 e) Φ) 117 [(0, .ref 60), (2, .int x2)] [] σ
  refine T_aload_n dX10_takesE_117 rfl 0 rfl ?_
  refine T_iload_n dX10_takesE_118 rfl 1 rfl ?_
  refine T_VV (As := [.int x2]) dX10_takesE_119 mv_X10_208 hp_60 hs_60 rfl (Nat.le_of_ble_eq_true rfl) (hv_ok1 rfl) rfl h (fun s21 h23 => ?_)
  refine T_aload_n dX10_takesE_122 rfl 0 rfl ?_
  refine T_get (v := .ref 72) dX10_takesE_123 fl_X10_88 hp_60 hs_60 rfl rfl ?_
  refine T_aload_n dX10_takesE_126 rfl 0 rfl ?_
  refine T_get (v := .int (s21.1 60 27)) dX10_takesE_127 fl_X10_94 hp_60 hs_60 rfl rfl ?_
  refine T_iload_n dX10_takesE_130 rfl 1 rfl ?_
  refine T_iast dX10_takesE_131 hp_72 hs_72 h23.1 ?_
  refine T_aload_n dX10_takesE_132 rfl 0 rfl ?_
  refine T_dup dX10_takesE_133 rfl ?_
  refine T_get (v := .int (s21.1 60 27)) dX10_takesE_134 fl_X10_94 hp_60 hs_60 rfl rfl ?_
  refine T_iconst (v := 1) dX10_takesE_137 (by decide) ?_
  refine T_iadd dX10_takesE_138 ?_
  refine T_puti dX10_takesE_139 fl_X10_94 pf_X10_27 hp_60 hs_60 rfl ?_
  refine T_iconst (v := 1) dX10_takesE_142 (by decide) ?_
  refine T_istore_n dX10_takesE_143 rfl (by decide) rfl ?_
  refine T_aload_n dX10_takesE_144 rfl 1 rfl ?_
  refine T_dup dX10_takesE_145 rfl ?_
  refine T_get (v := .int (s21.1 60 16)) dX10_takesE_146 fl_X10_60 hp_60 hs_60 rfl rfl ?_
  refine T_iconst (v := 1) dX10_takesE_149 (by decide) ?_
  refine T_iadd dX10_takesE_150 ?_
  refine T_puti dX10_takesE_151 fl_X10_60 pf_X10_16 hp_60 hs_60 rfl ?_
  refine T_goto (tgt := 17) dX10_takesE_154 (by decide) ?_
  exact T_sub [1, 0] rfl h23.2
set_option maxHeartbeats 4000000 in
set_option maxRecDepth 100000 in
theorem B_X10_takesE_17 {l : Launch} {e : hv_Ev}  (x1 : Int32) {σ : hv_S} {Φ : Int32 → hv_S → Prop} (h : hv_CI l (hv_e2 e) 0 m_X10_next [.ref 60] σ (fun v2 s1 => ((x1 = 0 → ((v2 = 38 → L_X10_takesE_117 l e Φ v2 s1) ∧ (¬ v2 = 38 → ((v2 ≠ 124 → hv_CV l (hv_e2 e) 0 m_X10_settleSigns [.ref 60, .int 124] s1 (fun s4 => (((s4.1 60 27) ≠ 0 → ((v2 = 41 → (vp_in ((s4.1 60 28) - 1) 101 ∧ hv_CV l (hv_e2 e) 0 m_X10_push [.ref 60, .int (s4.1 73 (((s4.1 60 28) - 1).toNatClampNeg))] (hv_ui (hv_ui (hv_ui (hv_ui s4 60 27 ((s4.1 60 27) - 1)) 60 29 ((s4.1 60 29) - 1)) 60 28 ((s4.1 60 28) - 1)) 60 16 ((s4.1 60 16) + 1)) (fun s7 => L_X10_takesE_17 l e Φ x1 s7))) ∧ (¬ v2 = 41 → Φ 0 s4))) ∧ ((s4.1 60 27) = 0 → Φ 1 s4)))) ∧ (v2 = 124 → L_X10_takesE_117 l e Φ v2 s1))))) ∧ (¬ x1 = 0 → ((v2 = 33 → L_X10_takesE_38 l e Φ x1 v2 s1) ∧ (¬ v2 = 33 → ((v2 ≠ 40 → hv_CI l (hv_e2 e) 3 m_X10_takesTest [.ref 60] s1 (fun v11 s10 => ((v11 = 0 → Φ 0 s10) ∧ (¬ v11 = 0 → L_X10_takesE_17 l e Φ 0 s10)))) ∧ (v2 = 40 → L_X10_takesE_38 l e Φ x1 v2 s1)))))))) : L_X10_takesE_17 l e Φ x1 σ := by
  show hv_TW l (hv_e2 e) (hv_rm 4) 0 0 m_X10_takesE hv_no (hv_ZI (hv_e2 e) Φ) 17 [(0, .ref 60), (1, .int x1)] [] σ
  refine T_aload_n dX10_takesE_17 rfl 0 rfl ?_
  refine T_VI (As := []) dX10_takesE_18 mv_X10_186 hp_60 hs_60 rfl (Nat.le_of_ble_eq_true rfl) (hv_ok1 rfl) rfl h (fun v2 s1 h3 => ?_)
  refine T_istore_n dX10_takesE_21 rfl (by decide) rfl ?_
  refine T_iload_n dX10_takesE_22 rfl 2 rfl ?_
  refine T_if_eq (tgt := 105) dX10_takesE_23 (by decide) (fun c13 => ?_) (fun c13 => ?_)
  · refine T_iload_n dX10_takesE_105 rfl 0 rfl ?_
    refine T_bipush (v := 38) dX10_takesE_106 (by decide) ?_
    refine T_icmp_eq (tgt := 117) dX10_takesE_108 (by decide) (fun c14 => ?_) (fun c14 => ?_)
    · exact T_sub [1, 0] rfl ((h3.1 c13).1 c14)
    · refine T_iload_n dX10_takesE_111 rfl 0 rfl ?_
      refine T_bipush (v := 124) dX10_takesE_112 (by decide) ?_
      refine T_icmp_ne (tgt := 157) dX10_takesE_114 (by decide) (fun c15 => ?_) (fun c15 => ?_)
      · refine T_aload_n dX10_takesE_157 rfl 1 rfl ?_
        refine T_bipush (v := 124) dX10_takesE_158 (by decide) ?_
        refine T_VV (As := [.int 124]) dX10_takesE_160 mv_X10_208 hp_60 hs_60 rfl (Nat.le_of_ble_eq_true rfl) (hv_ok1 rfl) rfl (((h3.1 c13).2 c14).1 c15) (fun s4 h6 => ?_)
        refine T_aload_n dX10_takesE_163 rfl 1 rfl ?_
        refine T_get (v := .int (s4.1 60 27)) dX10_takesE_164 fl_X10_94 hp_60 hs_60 rfl rfl ?_
        refine T_if_ne (tgt := 172) dX10_takesE_167 (by decide) (fun c16 => ?_) (fun c16 => ?_)
        · refine T_iload_n dX10_takesE_172 rfl 0 rfl ?_
          refine T_bipush (v := 41) dX10_takesE_173 (by decide) ?_
          refine T_icmp_eq (tgt := 180) dX10_takesE_175 (by decide) (fun c17 => ?_) (fun c17 => ?_)
          · refine T_aload_n dX10_takesE_180 rfl 1 rfl ?_
            refine T_dup dX10_takesE_181 rfl ?_
            refine T_get (v := .int (s4.1 60 27)) dX10_takesE_182 fl_X10_94 hp_60 hs_60 rfl rfl ?_
            refine T_iconst (v := 1) dX10_takesE_185 (by decide) ?_
            refine T_isub dX10_takesE_186 ?_
            refine T_puti dX10_takesE_187 fl_X10_94 pf_X10_27 hp_60 hs_60 rfl ?_
            refine T_aload_n dX10_takesE_190 rfl 1 rfl ?_
            refine T_dup dX10_takesE_191 rfl ?_
            refine T_get (v := .int (s4.1 60 29)) dX10_takesE_192 fl_X10_100 hp_60 hs_60 rfl rfl ?_
            refine T_iconst (v := 1) dX10_takesE_195 (by decide) ?_
            refine T_isub dX10_takesE_196 ?_
            refine T_puti dX10_takesE_197 fl_X10_100 pf_X10_29 hp_60 hs_60 rfl ?_
            refine T_aload_n dX10_takesE_200 rfl 1 rfl ?_
            refine T_dup dX10_takesE_201 rfl ?_
            refine T_get (v := .int (s4.1 60 28)) dX10_takesE_202 fl_X10_97 hp_60 hs_60 rfl rfl ?_
            refine T_iconst (v := 1) dX10_takesE_205 (by decide) ?_
            refine T_isub dX10_takesE_206 ?_
            refine T_puti dX10_takesE_207 fl_X10_97 pf_X10_28 hp_60 hs_60 rfl ?_
            refine T_aload_n dX10_takesE_210 rfl 1 rfl ?_
            refine T_dup dX10_takesE_211 rfl ?_
            refine T_get (v := .int (s4.1 60 16)) dX10_takesE_212 fl_X10_60 hp_60 hs_60 rfl rfl ?_
            refine T_iconst (v := 1) dX10_takesE_215 (by decide) ?_
            refine T_iadd dX10_takesE_216 ?_
            refine T_puti dX10_takesE_217 fl_X10_60 pf_X10_16 hp_60 hs_60 rfl ?_
            refine T_aload_n dX10_takesE_220 rfl 1 rfl ?_
            refine T_aload_n dX10_takesE_221 rfl 1 rfl ?_
            refine T_get (v := .ref 73) dX10_takesE_222 fl_X10_91 hp_60 hs_60 rfl rfl ?_
            refine T_aload_n dX10_takesE_225 rfl 1 rfl ?_
            refine T_get (v := .int ((s4.1 60 28) - 1)) dX10_takesE_226 fl_X10_97 hp_60 hs_60 rfl rfl ?_
            refine T_zald dX10_takesE_229 hp_73 hs_73 ((h6.1 c16).1 c17).1 ?_
            refine T_VV (As := [.int (s4.1 73 (((s4.1 60 28) - 1).toNatClampNeg))]) dX10_takesE_230 mv_X10_201 hp_60 hs_60 rfl (Nat.le_of_ble_eq_true rfl) (hv_ok1 rfl) rfl (((h6.1 c16).1 c17).2) (fun s7 h9 => ?_)
            refine T_goto (tgt := 17) dX10_takesE_233 (by decide) ?_
            exact T_sub [1, 2] rfl h9
          · refine T_iconst (v := 0) dX10_takesE_178 (by decide) ?_
            exact T_zret dX10_takesE_179 rfl (by decide) ((h6.1 c16).2 c17)
        · refine T_iconst (v := 1) dX10_takesE_170 (by decide) ?_
          exact T_zret dX10_takesE_171 rfl (by decide) (h6.2 c16)
      · exact T_sub [1, 0] rfl (((h3.1 c13).2 c14).2 c15)
  · refine T_iload_n dX10_takesE_26 rfl 0 rfl ?_
    refine T_bipush (v := 33) dX10_takesE_27 (by decide) ?_
    refine T_icmp_eq (tgt := 38) dX10_takesE_29 (by decide) (fun c18 => ?_) (fun c18 => ?_)
    · exact T_sub [1, 2, 0] rfl ((h3.2 c13).1 c18)
    · refine T_iload_n dX10_takesE_32 rfl 0 rfl ?_
      refine T_bipush (v := 40) dX10_takesE_33 (by decide) ?_
      refine T_icmp_ne (tgt := 91) dX10_takesE_35 (by decide) (fun c19 => ?_) (fun c19 => ?_)
      · refine T_aload_n dX10_takesE_91 rfl 1 rfl ?_
        refine T_VI (As := []) dX10_takesE_92 mv_X10_205 hp_60 hs_60 rfl (Nat.le_of_ble_eq_true rfl) (hv_ok1 rfl) rfl (((h3.2 c13).2 c18).1 c19) (fun v11 s10 h12 => ?_)
        refine T_if_eq (tgt := 103) dX10_takesE_95 (by decide) (fun c20 => ?_) (fun c20 => ?_)
        · refine T_iconst (v := 0) dX10_takesE_103 (by decide) ?_
          exact T_zret dX10_takesE_104 rfl (by decide) (h12.1 c20)
        · refine T_iconst (v := 0) dX10_takesE_98 (by decide) ?_
          refine T_istore_n dX10_takesE_99 rfl (by decide) rfl ?_
          refine T_goto (tgt := 17) dX10_takesE_100 (by decide) ?_
          exact T_sub [2, 0] rfl (h12.2 c20)
      · exact T_sub [1, 2, 0] rfl (((h3.2 c13).2 c18).2 c19)
set_option maxHeartbeats 4000000 in
set_option maxRecDepth 100000 in
theorem B_X10_takesE {l : Launch} {e : hv_Ev}   {σ : hv_S} {Φ : Int32 → hv_S → Prop} (h : L_X10_takesE_17 l e Φ 1 (hv_ui (hv_ui (hv_ui σ 60 27 0) 60 28 0) 60 29 0)) : hv_CI l (hv_e2 e) 4 m_X10_takesE [.ref 60] σ Φ := by
  refine hv_entI (by decide) (Nat.le_of_ble_eq_true rfl) ?_
  show hv_TW l (hv_e2 e) (hv_rm 4) 0 0 m_X10_takesE hv_no (hv_ZI (hv_e2 e) Φ) 0 [(0, .ref 60)] [] σ
  refine T_aload_n dX10_takesE_0 rfl 0 rfl ?_
  refine T_iconst (v := 0) dX10_takesE_1 (by decide) ?_
  refine T_puti dX10_takesE_2 fl_X10_94 pf_X10_27 hp_60 hs_60 rfl ?_
  refine T_aload_n dX10_takesE_5 rfl 0 rfl ?_
  refine T_iconst (v := 0) dX10_takesE_6 (by decide) ?_
  refine T_puti dX10_takesE_7 fl_X10_97 pf_X10_28 hp_60 hs_60 rfl ?_
  refine T_aload_n dX10_takesE_10 rfl 0 rfl ?_
  refine T_iconst (v := 0) dX10_takesE_11 (by decide) ?_
  refine T_puti dX10_takesE_12 fl_X10_100 pf_X10_29 hp_60 hs_60 rfl ?_
  refine T_iconst (v := 1) dX10_takesE_15 (by decide) ?_
  refine T_istore_n dX10_takesE_16 rfl (by decide) rfl ?_
  exact T_sub [1, 0] rfl h

set_option maxHeartbeats 4000000 in
set_option maxRecDepth 100000 in
theorem B_X10_plainHolds {l : Launch} {e : hv_Ev}  (x1 : Int32) (x2 : Int32) (x3 : Int32) {σ : hv_S} {Φ : Int32 → hv_S → Prop} (h : hv_CV l (hv_e2 e) 0 m_X10_body [.ref 60, .int 11] σ (fun s1 => hv_CI l (hv_e2 e) 3 m_X10_gives [.ref 60, .int x1, .int x2, .int x3] s1 (fun v5 s4 => Φ (v5 - x2) s4))) : hv_CI l (hv_e2 e) 4 m_X10_plainHolds [.ref 60, .int x1, .int x2, .int x3] σ Φ := by
  refine hv_entI (by decide) (Nat.le_of_ble_eq_true rfl) ?_
  show hv_TW l (hv_e2 e) (hv_rm 4) 0 0 m_X10_plainHolds hv_no (hv_ZI (hv_e2 e) Φ) 0 [(0, .ref 60), (1, .int x1), (2, .int x2), (3, .int x3)] [] σ
  refine T_aload_n dX10_plainHolds_0 rfl 0 rfl ?_
  refine T_bipush (v := 11) dX10_plainHolds_1 (by decide) ?_
  refine T_VV (As := [.int 11]) dX10_plainHolds_3 mv_X10_329 hp_60 hs_60 rfl (Nat.le_of_ble_eq_true rfl) (hv_ok1 rfl) rfl h (fun s1 h3 => ?_)
  refine T_aload_n dX10_plainHolds_6 rfl 0 rfl ?_
  refine T_iload_n dX10_plainHolds_7 rfl 1 rfl ?_
  refine T_iload_n dX10_plainHolds_8 rfl 2 rfl ?_
  refine T_iload_n dX10_plainHolds_9 rfl 3 rfl ?_
  refine T_VI (As := [.int x1, .int x2, .int x3]) dX10_plainHolds_10 mv_X10_338 hp_60 hs_60 rfl (Nat.le_of_ble_eq_true rfl) (hv_ok1 rfl) rfl h3 (fun v5 s4 h6 => ?_)
  refine T_iload_n dX10_plainHolds_13 rfl 2 rfl ?_
  refine T_isub dX10_plainHolds_14 ?_
  exact T_iret dX10_plainHolds_15 rfl h6

set_option maxHeartbeats 4000000 in
set_option maxRecDepth 100000 in
theorem B_X10_takesClause {l : Launch} {e : hv_Ev}   {σ : hv_S} {Φ : Int32 → hv_S → Prop} (h : hv_CI l (hv_e2 e) 0 m_X10_next [.ref 60] σ (fun v2 s1 => ((v2 = 98 → hv_CI l (hv_e2 e) 2 m_X10_takesWord [.ref 60, .int 2098, .int 3] s1 (fun v5 s4 => ((v5 = 0 → Φ 0 s4) ∧ (¬ v5 = 0 → hv_CI l (hv_e2 e) 4 m_X10_takesE [.ref 60] s4 (fun v8 s7 => ((v8 ≠ 0 → (((s7.1 60 18) ≠ 0 → Φ 1 (hv_ui s7 60 18 1)) ∧ ((s7.1 60 18) = 0 → (vp_in 0 101 ∧ (((s7.1 73 0) = 0 → Φ 1 (hv_ui s7 60 18 0)) ∧ (¬ (s7.1 73 0) = 0 → Φ 1 (hv_ui s7 60 18 1))))))) ∧ (v8 = 0 → Φ 0 s7))))))) ∧ (v2 = 99 → hv_CI l (hv_e2 e) 2 m_X10_takesWord [.ref 60, .int 3120, .int 3] s1 (fun v11 s10 => ((v11 = 0 → Φ 0 s10) ∧ (¬ v11 = 0 → hv_CI l (hv_e2 e) 2 m_X10_takesNumber [.ref 60, .int 0] s10 (fun v14 s13 => ((v14 ≠ 0 → Φ 1 (hv_ui s13 60 30 (s13.1 60 17))) ∧ (v14 = 0 → Φ 0 s13))))))) ∧ (v2 = 110 → hv_CI l (hv_e2 e) 3 m_X10_takesNeed [.ref 60] s1 (fun v17 s16 => ((v17 = 0 ∨ v17 = 1) ∧ Φ v17 s16))) ∧ (¬ v2 = 98 → ¬ v2 = 99 → ¬ v2 = 110 → hv_CI l (hv_e2 e) 2 m_X10_takesWord [.ref 60, .int 599495, .int 4] s1 (fun v20 s19 => ((v20 = 0 → Φ 0 s19) ∧ (¬ v20 = 0 → hv_CI l (hv_e2 e) 0 m_X10_next [.ref 60] s19 (fun v23 s22 => ((v23 = 108 → hv_CI l (hv_e2 e) 0 m_X10_next [.ref 60] s22 (fun v26 s25 => Φ 1 (hv_ui (hv_ui s25 60 33 v26) 60 16 ((s25.1 60 16) + 1)))) ∧ (¬ v23 = 108 → hv_CI l (hv_e2 e) 0 m_X10_next [.ref 60] s22 (fun v29 s28 => ((v29 = 98 → hv_CI l (hv_e2 e) 0 m_X10_next [.ref 60] s28 (fun v32 s31 => Φ 1 (hv_ui (hv_ui s31 60 33 v32) 60 16 ((s31.1 60 16) + 1)))) ∧ (¬ v29 = 98 → Φ 0 s28))))))))))))) : hv_CI l (hv_e2 e) 5 m_X10_takesClause [.ref 60] σ Φ := by
  refine hv_entI (by decide) (Nat.le_of_ble_eq_true rfl) ?_
  show hv_TW l (hv_e2 e) (hv_rm 5) 0 0 m_X10_takesClause hv_no (hv_ZI (hv_e2 e) Φ) 0 [(0, .ref 60)] [] σ
  refine T_aload_n dX10_takesClause_0 rfl 0 rfl ?_
  refine T_VI (As := []) dX10_takesClause_1 mv_X10_186 hp_60 hs_60 rfl (Nat.le_of_ble_eq_true rfl) (hv_ok1 rfl) rfl h (fun v2 s1 h3 => ?_)
  by_cases c34 : v2 = 98
  · refine T_lookup (off := 36) (tgt := 40) dX10_takesClause_4 (by decide) (by rw [c34]; decide) (by decide) ?_
    refine T_aload_n dX10_takesClause_40 rfl 0 rfl ?_
    refine T_sipush (v := 2098) dX10_takesClause_41 (by decide) ?_
    refine T_iconst (v := 3) dX10_takesClause_44 (by decide) ?_
    refine T_VI (As := [.int 2098, .int 3]) dX10_takesClause_45 mv_X10_213 hp_60 hs_60 rfl (Nat.le_of_ble_eq_true rfl) (hv_ok1 rfl) rfl (h3.1 c34) (fun v5 s4 h6 => ?_)
    refine T_if_eq (tgt := 58) dX10_takesClause_48 (by decide) (fun c35 => ?_) (fun c35 => ?_)
    · refine T_iconst (v := 0) dX10_takesClause_58 (by decide) ?_
      exact T_zret dX10_takesClause_59 rfl (by decide) (h6.1 c35)
    · refine T_aload_n dX10_takesClause_51 rfl 0 rfl ?_
      refine T_VI (As := []) dX10_takesClause_52 mv_X10_217 hp_60 hs_60 rfl (Nat.le_of_ble_eq_true rfl) (hv_ok1 rfl) rfl (h6.2 c35) (fun v8 s7 h9 => ?_)
      refine T_if_ne (tgt := 60) dX10_takesClause_55 (by decide) (fun c36 => ?_) (fun c36 => ?_)
      · refine T_aload_n dX10_takesClause_60 rfl 0 rfl ?_
        refine T_aload_n dX10_takesClause_61 rfl 0 rfl ?_
        refine T_get (v := .int (s7.1 60 18)) dX10_takesClause_62 fl_X10_66 hp_60 hs_60 rfl rfl ?_
        refine T_if_ne (tgt := 77) dX10_takesClause_65 (by decide) (fun c37 => ?_) (fun c37 => ?_)
        · refine T_iconst (v := 1) dX10_takesClause_77 (by decide) ?_
          refine T_goto (tgt := 82) dX10_takesClause_78 (by decide) ?_
          refine T_putz dX10_takesClause_82 fl_X10_66 pf_X10_18 hp_60 hs_60 rfl (by decide) ?_
          refine T_iconst (v := 1) dX10_takesClause_85 (by decide) ?_
          exact T_zret dX10_takesClause_86 rfl (by decide) ((h9.1 c36).1 c37)
        · refine T_aload_n dX10_takesClause_68 rfl 0 rfl ?_
          refine T_get (v := .ref 73) dX10_takesClause_69 fl_X10_91 hp_60 hs_60 rfl rfl ?_
          refine T_iconst (v := 0) dX10_takesClause_72 (by decide) ?_
          refine T_zald dX10_takesClause_73 hp_73 hs_73 ((h9.1 c36).2 c37).1 ?_
          refine T_if_eq (tgt := 81) dX10_takesClause_74 (by decide) (fun c38 => ?_) (fun c38 => ?_)
          · refine T_iconst (v := 0) dX10_takesClause_81 (by decide) ?_
            refine T_putz dX10_takesClause_82 fl_X10_66 pf_X10_18 hp_60 hs_60 rfl (by decide) ?_
            refine T_iconst (v := 1) dX10_takesClause_85 (by decide) ?_
            exact T_zret dX10_takesClause_86 rfl (by decide) (((h9.1 c36).2 c37).2.1 c38)
          · refine T_iconst (v := 1) dX10_takesClause_77 (by decide) ?_
            refine T_goto (tgt := 82) dX10_takesClause_78 (by decide) ?_
            refine T_putz dX10_takesClause_82 fl_X10_66 pf_X10_18 hp_60 hs_60 rfl (by decide) ?_
            refine T_iconst (v := 1) dX10_takesClause_85 (by decide) ?_
            exact T_zret dX10_takesClause_86 rfl (by decide) (((h9.1 c36).2 c37).2.2 c38)
      · refine T_iconst (v := 0) dX10_takesClause_58 (by decide) ?_
        exact T_zret dX10_takesClause_59 rfl (by decide) (h9.2 c36)
  · skip
    by_cases c39 : v2 = 99
    · refine T_lookup (off := 83) (tgt := 87) dX10_takesClause_4 (by decide) (by rw [c39]; decide) (by decide) ?_
      refine T_aload_n dX10_takesClause_87 rfl 0 rfl ?_
      refine T_sipush (v := 3120) dX10_takesClause_88 (by decide) ?_
      refine T_iconst (v := 3) dX10_takesClause_91 (by decide) ?_
      refine T_VI (As := [.int 3120, .int 3]) dX10_takesClause_92 mv_X10_213 hp_60 hs_60 rfl (Nat.le_of_ble_eq_true rfl) (hv_ok1 rfl) rfl (h3.2.1 c39) (fun v11 s10 h12 => ?_)
      refine T_if_eq (tgt := 106) dX10_takesClause_95 (by decide) (fun c40 => ?_) (fun c40 => ?_)
      · refine T_iconst (v := 0) dX10_takesClause_106 (by decide) ?_
        exact T_zret dX10_takesClause_107 rfl (by decide) (h12.1 c40)
      · refine T_aload_n dX10_takesClause_98 rfl 0 rfl ?_
        refine T_iconst (v := 0) dX10_takesClause_99 (by decide) ?_
        refine T_VI (As := [.int 0]) dX10_takesClause_100 mv_X10_197 hp_60 hs_60 rfl (Nat.le_of_ble_eq_true rfl) (hv_ok1 rfl) rfl (h12.2 c40) (fun v14 s13 h15 => ?_)
        refine T_if_ne (tgt := 108) dX10_takesClause_103 (by decide) (fun c41 => ?_) (fun c41 => ?_)
        · refine T_aload_n dX10_takesClause_108 rfl 0 rfl ?_
          refine T_aload_n dX10_takesClause_109 rfl 0 rfl ?_
          refine T_get (v := .int (s13.1 60 17)) dX10_takesClause_110 fl_X10_63 hp_60 hs_60 rfl rfl ?_
          refine T_puti dX10_takesClause_113 fl_X10_103 pf_X10_30 hp_60 hs_60 rfl ?_
          refine T_iconst (v := 1) dX10_takesClause_116 (by decide) ?_
          exact T_zret dX10_takesClause_117 rfl (by decide) (h15.1 c41)
        · refine T_iconst (v := 0) dX10_takesClause_106 (by decide) ?_
          exact T_zret dX10_takesClause_107 rfl (by decide) (h15.2 c41)
    · skip
      by_cases c42 : v2 = 110
      · refine T_lookup (off := 114) (tgt := 118) dX10_takesClause_4 (by decide) (by rw [c42]; decide) (by decide) ?_
        refine T_aload_n dX10_takesClause_118 rfl 0 rfl ?_
        refine T_VI (As := []) dX10_takesClause_119 mv_X10_220 hp_60 hs_60 rfl (Nat.le_of_ble_eq_true rfl) (hv_ok1 rfl) rfl (h3.2.2.1 c42) (fun v17 s16 h18 => ?_)
        exact T_zret dX10_takesClause_122 rfl h18.1 h18.2
      · skip
        refine T_lookup (off := 119) (tgt := 123) dX10_takesClause_4 (by decide) (by show Op.lookupswitch.offset [(98, 36), (99, 83), (110, 114)] _ _ = _; rw [lv_osw c34 (a := 98) (by decide), lv_osw c39 (a := 99) (by decide), lv_osw c42 (a := 110) (by decide)]; rfl) (by decide) ?_
        refine T_aload_n dX10_takesClause_123 rfl 0 rfl ?_
        refine T_ldc dX10_takesClause_124 ko_X10_223 ?_
        refine T_iconst (v := 4) dX10_takesClause_126 (by decide) ?_
        refine T_VI (As := [.int 599495, .int 4]) dX10_takesClause_127 mv_X10_213 hp_60 hs_60 rfl (Nat.le_of_ble_eq_true rfl) (hv_ok1 rfl) rfl (h3.2.2.2 c34 c39 c42) (fun v20 s19 h21 => ?_)
        refine T_if_eq (tgt := 151) dX10_takesClause_130 (by decide) (fun c43 => ?_) (fun c43 => ?_)
        · refine T_iconst (v := 0) dX10_takesClause_151 (by decide) ?_
          exact T_zret dX10_takesClause_152 rfl (by decide) (h21.1 c43)
        · refine T_aload_n dX10_takesClause_133 rfl 0 rfl ?_
          refine T_VI (As := []) dX10_takesClause_134 mv_X10_186 hp_60 hs_60 rfl (Nat.le_of_ble_eq_true rfl) (hv_ok1 rfl) rfl (h21.2 c43) (fun v23 s22 h24 => ?_)
          refine T_bipush (v := 108) dX10_takesClause_137 (by decide) ?_
          refine T_icmp_eq (tgt := 153) dX10_takesClause_139 (by decide) (fun c44 => ?_) (fun c44 => ?_)
          · refine T_aload_n dX10_takesClause_153 rfl 0 rfl ?_
            refine T_aload_n dX10_takesClause_154 rfl 0 rfl ?_
            refine T_VI (As := []) dX10_takesClause_155 mv_X10_186 hp_60 hs_60 rfl (Nat.le_of_ble_eq_true rfl) (hv_ok1 rfl) rfl (h24.1 c44) (fun v26 s25 h27 => ?_)
            refine T_puti dX10_takesClause_158 fl_X10_112 pf_X10_33 hp_60 hs_60 rfl ?_
            refine T_aload_n dX10_takesClause_161 rfl 0 rfl ?_
            refine T_dup dX10_takesClause_162 rfl ?_
            refine T_get (v := .int (s25.1 60 16)) dX10_takesClause_163 fl_X10_60 hp_60 hs_60 rfl rfl ?_
            refine T_iconst (v := 1) dX10_takesClause_166 (by decide) ?_
            refine T_iadd dX10_takesClause_167 ?_
            refine T_puti dX10_takesClause_168 fl_X10_60 pf_X10_16 hp_60 hs_60 rfl ?_
            refine T_iconst (v := 1) dX10_takesClause_171 (by decide) ?_
            exact T_zret dX10_takesClause_172 rfl (by decide) h27
          · refine T_aload_n dX10_takesClause_142 rfl 0 rfl ?_
            refine T_VI (As := []) dX10_takesClause_143 mv_X10_186 hp_60 hs_60 rfl (Nat.le_of_ble_eq_true rfl) (hv_ok1 rfl) rfl (h24.2 c44) (fun v29 s28 h30 => ?_)
            refine T_bipush (v := 98) dX10_takesClause_146 (by decide) ?_
            refine T_icmp_eq (tgt := 153) dX10_takesClause_148 (by decide) (fun c45 => ?_) (fun c45 => ?_)
            · refine T_aload_n dX10_takesClause_153 rfl 0 rfl ?_
              refine T_aload_n dX10_takesClause_154 rfl 0 rfl ?_
              refine T_VI (As := []) dX10_takesClause_155 mv_X10_186 hp_60 hs_60 rfl (Nat.le_of_ble_eq_true rfl) (hv_ok1 rfl) rfl (h30.1 c45) (fun v32 s31 h33 => ?_)
              refine T_puti dX10_takesClause_158 fl_X10_112 pf_X10_33 hp_60 hs_60 rfl ?_
              refine T_aload_n dX10_takesClause_161 rfl 0 rfl ?_
              refine T_dup dX10_takesClause_162 rfl ?_
              refine T_get (v := .int (s31.1 60 16)) dX10_takesClause_163 fl_X10_60 hp_60 hs_60 rfl rfl ?_
              refine T_iconst (v := 1) dX10_takesClause_166 (by decide) ?_
              refine T_iadd dX10_takesClause_167 ?_
              refine T_puti dX10_takesClause_168 fl_X10_60 pf_X10_16 hp_60 hs_60 rfl ?_
              refine T_iconst (v := 1) dX10_takesClause_171 (by decide) ?_
              exact T_zret dX10_takesClause_172 rfl (by decide) h33
            · refine T_iconst (v := 0) dX10_takesClause_151 (by decide) ?_
              exact T_zret dX10_takesClause_152 rfl (by decide) (h30.2 c45)

set_option maxHeartbeats 4000000 in
set_option maxRecDepth 100000 in
theorem B_X10_giveHolds {l : Launch} {e : hv_Ev}  (x1 : Int32) (x2 : Int32) (x3 : Int32) {σ : hv_S} {Φ : Int32 → hv_S → Prop} (h : hv_CV l (hv_e2 e) 0 m_X10_body [.ref 60, .int 31] σ (fun s1 => hv_CI l (hv_e2 e) 4 m_X10_plainHolds [.ref 60, .int x1, .int x2, .int x3] s1 (fun v5 s4 => Φ (-v5) s4))) : hv_CI l (hv_e2 e) 5 m_X10_giveHolds [.ref 60, .int x1, .int x2, .int x3] σ Φ := by
  refine hv_entI (by decide) (Nat.le_of_ble_eq_true rfl) ?_
  show hv_TW l (hv_e2 e) (hv_rm 5) 0 0 m_X10_giveHolds hv_no (hv_ZI (hv_e2 e) Φ) 0 [(0, .ref 60), (1, .int x1), (2, .int x2), (3, .int x3)] [] σ
  refine T_aload_n dX10_giveHolds_0 rfl 0 rfl ?_
  refine T_bipush (v := 31) dX10_giveHolds_1 (by decide) ?_
  refine T_VV (As := [.int 31]) dX10_giveHolds_3 mv_X10_329 hp_60 hs_60 rfl (Nat.le_of_ble_eq_true rfl) (hv_ok1 rfl) rfl h (fun s1 h3 => ?_)
  refine T_aload_n dX10_giveHolds_6 rfl 0 rfl ?_
  refine T_iload_n dX10_giveHolds_7 rfl 1 rfl ?_
  refine T_iload_n dX10_giveHolds_8 rfl 2 rfl ?_
  refine T_iload_n dX10_giveHolds_9 rfl 3 rfl ?_
  refine T_VI (As := [.int x1, .int x2, .int x3]) dX10_giveHolds_10 mv_X10_342 hp_60 hs_60 rfl (Nat.le_of_ble_eq_true rfl) (hv_ok1 rfl) rfl h3 (fun v5 s4 h6 => ?_)
  refine T_ineg dX10_giveHolds_13 ?_
  exact T_iret dX10_giveHolds_14 rfl h6

def L_X10_goes_53 (l : Launch) (e : hv_Ev)  (Φ : Int32 → hv_S → Prop) (x2 : Int32) (σ : hv_S) : Prop := hv_TW l (hv_e2 e) (hv_rm 6) 0 0 m_X10_goes hv_no (hv_ZI (hv_e2 e) Φ) 53 [(0, .ref 60), (2, .int x2)] [] σ
set_option maxHeartbeats 4000000 in
set_option maxRecDepth 100000 in
theorem B_X10_goes_53 {l : Launch} {e : hv_Ev}  (x2 : Int32) {σ : hv_S} {Φ : Int32 → hv_S → Prop} (h : hv_CI l (hv_e2 e) 5 m_X10_takesClause [.ref 60] σ (fun v2 s1 => ((v2 ≠ 0 → (((s1.1 60 16) ≠ (s1.1 60 15) → (((x2 + 1) = 6 → Φ 0 s1) ∧ (¬ (x2 + 1) = 6 → hv_CI l (hv_e2 e) 1 m_X10_takes [.ref 60, .int 59] s1 (fun v5 s4 => ((v5 ≠ 0 → L_X10_goes_53 l e Φ (x2 + 1) s4) ∧ (v5 = 0 → Φ 0 s4)))))) ∧ ((s1.1 60 16) = (s1.1 60 15) → Φ 1 s1))) ∧ (v2 = 0 → Φ 0 s1)))) : L_X10_goes_53 l e Φ x2 σ := by
  show hv_TW l (hv_e2 e) (hv_rm 6) 0 0 m_X10_goes hv_no (hv_ZI (hv_e2 e) Φ) 53 [(0, .ref 60), (2, .int x2)] [] σ
  refine T_aload_n dX10_goes_53 rfl 0 rfl ?_
  refine T_VI (As := []) dX10_goes_54 mv_X10_224 hp_60 hs_60 rfl (Nat.le_of_ble_eq_true rfl) (hv_ok1 rfl) rfl h (fun v2 s1 h3 => ?_)
  refine T_if_ne (tgt := 62) dX10_goes_57 (by decide) (fun c7 => ?_) (fun c7 => ?_)
  · refine T_iinc (v := (x2 + 1)) dX10_goes_62 1 rfl rfl (by decide) rfl ?_
    refine T_aload_n dX10_goes_65 rfl 1 rfl ?_
    refine T_get (v := .int (s1.1 60 16)) dX10_goes_66 fl_X10_60 hp_60 hs_60 rfl rfl ?_
    refine T_aload_n dX10_goes_69 rfl 1 rfl ?_
    refine T_get (v := .int (s1.1 60 15)) dX10_goes_70 fl_X10_57 hp_60 hs_60 rfl rfl ?_
    refine T_icmp_ne (tgt := 78) dX10_goes_73 (by decide) (fun c8 => ?_) (fun c8 => ?_)
    · refine T_iload_n dX10_goes_78 rfl 0 rfl ?_
      refine T_bipush (v := 6) dX10_goes_79 (by decide) ?_
      refine T_icmp_eq (tgt := 93) dX10_goes_81 (by decide) (fun c9 => ?_) (fun c9 => ?_)
      · refine T_iconst (v := 0) dX10_goes_93 (by decide) ?_
        exact T_zret dX10_goes_94 rfl (by decide) (((h3.1 c7).1 c8).1 c9)
      · refine T_aload_n dX10_goes_84 rfl 1 rfl ?_
        refine T_bipush (v := 59) dX10_goes_85 (by decide) ?_
        refine T_VI (As := [.int 59]) dX10_goes_87 mv_X10_190 hp_60 hs_60 rfl (Nat.le_of_ble_eq_true rfl) (hv_ok1 rfl) rfl (((h3.1 c7).1 c8).2 c9) (fun v5 s4 h6 => ?_)
        refine T_if_ne (tgt := 53) dX10_goes_90 (by decide) (fun c10 => ?_) (fun c10 => ?_)
        · exact T_sub [1, 0] rfl (h6.1 c10)
        · refine T_iconst (v := 0) dX10_goes_93 (by decide) ?_
          exact T_zret dX10_goes_94 rfl (by decide) (h6.2 c10)
    · refine T_iconst (v := 1) dX10_goes_76 (by decide) ?_
      exact T_zret dX10_goes_77 rfl (by decide) ((h3.1 c7).2 c8)
  · refine T_iconst (v := 0) dX10_goes_60 (by decide) ?_
    exact T_zret dX10_goes_61 rfl (by decide) (h3.2 c7)
set_option maxHeartbeats 4000000 in
set_option maxRecDepth 100000 in
theorem B_X10_goes {l : Launch} {e : hv_Ev}  (x1 : Int32) {σ : hv_S} {Φ : Int32 → hv_S → Prop} (h : (vp_in x1 2 ∧ L_X10_goes_53 l e Φ 0 (hv_ui (hv_ui (hv_ui (hv_ui (hv_ui (hv_ui (hv_ui (hv_ui σ 60 14 (100 * x1)) 60 15 (σ.1 69 x1.toNatClampNeg)) 60 16 0) 60 18 0) 60 30 999) 60 31 1) 60 32 2) 60 33 108))) : hv_CI l (hv_e2 e) 6 m_X10_goes [.ref 60, .int x1] σ Φ := by
  refine hv_entI (by decide) (Nat.le_of_ble_eq_true rfl) ?_
  show hv_TW l (hv_e2 e) (hv_rm 6) 0 0 m_X10_goes hv_no (hv_ZI (hv_e2 e) Φ) 0 [(0, .ref 60), (1, .int x1)] [] σ
  refine T_aload_n dX10_goes_0 rfl 0 rfl ?_
  refine T_bipush (v := 100) dX10_goes_1 (by decide) ?_
  refine T_iload_n dX10_goes_3 rfl 1 rfl ?_
  refine T_imul dX10_goes_4 ?_
  refine T_puti dX10_goes_5 fl_X10_54 pf_X10_14 hp_60 hs_60 rfl ?_
  refine T_aload_n dX10_goes_8 rfl 0 rfl ?_
  refine T_aload_n dX10_goes_9 rfl 0 rfl ?_
  refine T_get (v := .ref 69) dX10_goes_10 fl_X10_48 hp_60 hs_60 rfl rfl ?_
  refine T_iload_n dX10_goes_13 rfl 1 rfl ?_
  refine T_iald dX10_goes_14 hp_69 hs_69 h.1 ?_
  refine T_puti dX10_goes_15 fl_X10_57 pf_X10_15 hp_60 hs_60 rfl ?_
  refine T_aload_n dX10_goes_18 rfl 0 rfl ?_
  refine T_iconst (v := 0) dX10_goes_19 (by decide) ?_
  refine T_puti dX10_goes_20 fl_X10_60 pf_X10_16 hp_60 hs_60 rfl ?_
  refine T_aload_n dX10_goes_23 rfl 0 rfl ?_
  refine T_iconst (v := 0) dX10_goes_24 (by decide) ?_
  refine T_putz dX10_goes_25 fl_X10_66 pf_X10_18 hp_60 hs_60 rfl (by decide) ?_
  refine T_iconst (v := 0) dX10_goes_28 (by decide) ?_
  refine T_istore_n dX10_goes_29 rfl (by decide) rfl ?_
  refine T_aload_n dX10_goes_30 rfl 1 rfl ?_
  refine T_sipush (v := 999) dX10_goes_31 (by decide) ?_
  refine T_puti dX10_goes_34 fl_X10_103 pf_X10_30 hp_60 hs_60 rfl ?_
  refine T_aload_n dX10_goes_37 rfl 1 rfl ?_
  refine T_iconst (v := 1) dX10_goes_38 (by decide) ?_
  refine T_puti dX10_goes_39 fl_X10_106 pf_X10_31 hp_60 hs_60 rfl ?_
  refine T_aload_n dX10_goes_42 rfl 1 rfl ?_
  refine T_iconst (v := 2) dX10_goes_43 (by decide) ?_
  refine T_puti dX10_goes_44 fl_X10_109 pf_X10_32 hp_60 hs_60 rfl ?_
  refine T_aload_n dX10_goes_47 rfl 1 rfl ?_
  refine T_bipush (v := 108) dX10_goes_48 (by decide) ?_
  refine T_puti dX10_goes_50 fl_X10_112 pf_X10_33 hp_60 hs_60 rfl ?_
  exact T_sub [1, 0] rfl h.2

set_option maxHeartbeats 4000000 in
set_option maxRecDepth 100000 in
theorem B_X10_holds {l : Launch} {e : hv_Ev}  (x1 : Int32) (x2 : Int32) (x3 : Int32) {σ : hv_S} {Φ : Int32 → hv_S → Prop} (h : (vp_in ((8 * x2) + x1) 24 ∧ (((σ.1 61 (((8 * x2) + x1).toNatClampNeg)) ≠ 3 → (((σ.1 61 (((8 * x2) + x1).toNatClampNeg)) < 2 → hv_CI l (hv_e2 e) 4 m_X10_plainHolds [.ref 60, .int x1, .int x2, .int x3] σ (fun v2 s1 => Φ v2 s1)) ∧ (¬ (σ.1 61 (((8 * x2) + x1).toNatClampNeg)) < 2 → hv_CI l (hv_e2 e) 5 m_X10_giveHolds [.ref 60, .int x1, .int x2, .int x3] σ (fun v5 s4 => Φ v5 s4)))) ∧ ((σ.1 61 (((8 * x2) + x1).toNatClampNeg)) = 3 → hv_CV l (hv_e2 e) 0 m_X10_body [.ref 60, .int 40] σ (fun s7 => hv_CI l (hv_e2 e) 5 m_X10_giveHolds [.ref 60, .int x1, .int x2, .int x3] s7 (fun v11 s10 => hv_CI l (hv_e2 e) 3 m_X10_gives [.ref 60, .int x1, .int x2, .int 1] s10 (fun v14 s13 => Φ (v11 + v14) s13))))))) : hv_CI l (hv_e2 e) 6 m_X10_holds [.ref 60, .int x1, .int x2, .int x3] σ Φ := by
  refine hv_entI (by decide) (Nat.le_of_ble_eq_true rfl) ?_
  show hv_TW l (hv_e2 e) (hv_rm 6) 0 0 m_X10_holds hv_no (hv_ZI (hv_e2 e) Φ) 0 [(0, .ref 60), (1, .int x1), (2, .int x2), (3, .int x3)] [] σ
  refine T_aload_n dX10_holds_0 rfl 0 rfl ?_
  refine T_get (v := .ref 61) dX10_holds_1 fl_X10_16 hp_60 hs_60 rfl rfl ?_
  refine T_bipush (v := 8) dX10_holds_4 (by decide) ?_
  refine T_iload_n dX10_holds_6 rfl 2 rfl ?_
  refine T_imul dX10_holds_7 ?_
  refine T_iload_n dX10_holds_8 rfl 1 rfl ?_
  refine T_iadd dX10_holds_9 ?_
  refine T_iald dX10_holds_10 hp_61 hs_61 h.1 ?_
  refine T_istore dX10_holds_11 (by decide) rfl ?_
  refine T_iload dX10_holds_13 0 rfl ?_
  refine T_iconst (v := 3) dX10_holds_15 (by decide) ?_
  refine T_icmp_ne (tgt := 45) dX10_holds_16 (by decide) (fun c16 => ?_) (fun c16 => ?_)
  · refine T_iload dX10_holds_45 0 rfl ?_
    refine T_iconst (v := 2) dX10_holds_47 (by decide) ?_
    refine T_icmp_lt (tgt := 61) dX10_holds_48 (by decide) (fun c17 => ?_) (fun c17 => ?_)
    · refine T_aload_n dX10_holds_61 rfl 1 rfl ?_
      refine T_iload_n dX10_holds_62 rfl 2 rfl ?_
      refine T_iload_n dX10_holds_63 rfl 3 rfl ?_
      refine T_iload_n dX10_holds_64 rfl 4 rfl ?_
      refine T_VI (As := [.int x1, .int x2, .int x3]) dX10_holds_65 mv_X10_342 hp_60 hs_60 rfl (Nat.le_of_ble_eq_true rfl) (hv_ok1 rfl) rfl ((h.2.1 c16).1 c17) (fun v2 s1 h3 => ?_)
      exact T_iret dX10_holds_68 rfl h3
    · refine T_aload_n dX10_holds_51 rfl 1 rfl ?_
      refine T_iload_n dX10_holds_52 rfl 2 rfl ?_
      refine T_iload_n dX10_holds_53 rfl 3 rfl ?_
      refine T_iload_n dX10_holds_54 rfl 4 rfl ?_
      refine T_VI (As := [.int x1, .int x2, .int x3]) dX10_holds_55 mv_X10_345 hp_60 hs_60 rfl (Nat.le_of_ble_eq_true rfl) (hv_ok1 rfl) rfl ((h.2.1 c16).2 c17) (fun v5 s4 h6 => ?_)
      refine T_goto (tgt := 68) dX10_holds_58 (by decide) ?_
      exact T_iret dX10_holds_68 rfl h6
  · refine T_aload_n dX10_holds_19 rfl 1 rfl ?_
    refine T_bipush (v := 40) dX10_holds_20 (by decide) ?_
    refine T_VV (As := [.int 40]) dX10_holds_22 mv_X10_329 hp_60 hs_60 rfl (Nat.le_of_ble_eq_true rfl) (hv_ok1 rfl) rfl (h.2.2 c16) (fun s7 h9 => ?_)
    refine T_aload_n dX10_holds_25 rfl 1 rfl ?_
    refine T_iload_n dX10_holds_26 rfl 2 rfl ?_
    refine T_iload_n dX10_holds_27 rfl 3 rfl ?_
    refine T_iload_n dX10_holds_28 rfl 4 rfl ?_
    refine T_VI (As := [.int x1, .int x2, .int x3]) dX10_holds_29 mv_X10_345 hp_60 hs_60 rfl (Nat.le_of_ble_eq_true rfl) (hv_ok1 rfl) rfl h9 (fun v11 s10 h12 => ?_)
    refine T_istore dX10_holds_32 (by decide) rfl ?_
    refine T_iload dX10_holds_34 0 rfl ?_
    refine T_aload_n dX10_holds_36 rfl 2 rfl ?_
    refine T_iload_n dX10_holds_37 rfl 3 rfl ?_
    refine T_iload_n dX10_holds_38 rfl 4 rfl ?_
    refine T_iconst (v := 1) dX10_holds_39 (by decide) ?_
    refine T_VI (As := [.int x1, .int x2, .int 1]) dX10_holds_40 mv_X10_338 hp_60 hs_60 rfl (Nat.le_of_ble_eq_true rfl) (hv_ok1 rfl) rfl h12 (fun v14 s13 h15 => ?_)
    refine T_iadd dX10_holds_43 ?_
    exact T_iret dX10_holds_44 rfl h15

def L_X10_hall_45 (l : Launch) (e : hv_Ev)  (Φ : Int32 → hv_S → Prop) (x1 : Int32) (σ : hv_S) : Prop := hv_TW l (hv_e2 e) (hv_rm 7) 0 0 m_X10_hall hv_no (hv_ZI (hv_e2 e) Φ) 45 [(0, .ref 60), (1, .int x1)] [] σ
set_option maxHeartbeats 4000000 in
set_option maxRecDepth 100000 in
theorem B_X10_hall_45 {l : Launch} {e : hv_Ev}  (x1 : Int32) {σ : hv_S} {Φ : Int32 → hv_S → Prop} (h : (vp_in 1 2 ∧ (((σ.1 69 1) ≤ x1 → Φ ((σ.1 60 9) + 1) (hv_ui (hv_ui (hv_ui (hv_ui (hv_ui (hv_ui σ 60 19 (σ.1 60 30)) 60 20 (σ.1 60 31)) 60 21 (σ.1 60 32)) 60 22 (σ.1 60 33)) 60 24 0) 60 9 ((σ.1 60 9) + 1))) ∧ (¬ (σ.1 69 1) ≤ x1 → (vp_in (100 + x1) 200 ∧ (vp_in x1 200 ∧ L_X10_hall_45 l e Φ (x1 + 1) (hv_ui σ 68 x1.toNatClampNeg (σ.1 68 ((100 + x1).toNatClampNeg))))))))) : L_X10_hall_45 l e Φ x1 σ := by
  show hv_TW l (hv_e2 e) (hv_rm 7) 0 0 m_X10_hall hv_no (hv_ZI (hv_e2 e) Φ) 45 [(0, .ref 60), (1, .int x1)] [] σ
  refine T_iload_n dX10_hall_45 rfl 1 rfl ?_
  refine T_aload_n dX10_hall_46 rfl 0 rfl ?_
  refine T_get (v := .ref 69) dX10_hall_47 fl_X10_48 hp_60 hs_60 rfl rfl ?_
  refine T_iconst (v := 1) dX10_hall_50 (by decide) ?_
  refine T_iald dX10_hall_51 hp_69 hs_69 h.1 ?_
  refine T_icmp_ge (tgt := 76) dX10_hall_52 (by decide) (fun c5 => ?_) (fun c5 => ?_)
  · refine T_aload_n dX10_hall_76 rfl 0 rfl ?_
    refine T_aload_n dX10_hall_77 rfl 0 rfl ?_
    refine T_get (v := .int (σ.1 60 30)) dX10_hall_78 fl_X10_103 hp_60 hs_60 rfl rfl ?_
    refine T_puti dX10_hall_81 fl_X10_70 pf_X10_19 hp_60 hs_60 rfl ?_
    refine T_aload_n dX10_hall_84 rfl 0 rfl ?_
    refine T_aload_n dX10_hall_85 rfl 0 rfl ?_
    refine T_get (v := .int (σ.1 60 31)) dX10_hall_86 fl_X10_106 hp_60 hs_60 rfl rfl ?_
    refine T_puti dX10_hall_89 fl_X10_73 pf_X10_20 hp_60 hs_60 rfl ?_
    refine T_aload_n dX10_hall_92 rfl 0 rfl ?_
    refine T_aload_n dX10_hall_93 rfl 0 rfl ?_
    refine T_get (v := .int (σ.1 60 32)) dX10_hall_94 fl_X10_109 hp_60 hs_60 rfl rfl ?_
    refine T_puti dX10_hall_97 fl_X10_76 pf_X10_21 hp_60 hs_60 rfl ?_
    refine T_aload_n dX10_hall_100 rfl 0 rfl ?_
    refine T_aload_n dX10_hall_101 rfl 0 rfl ?_
    refine T_get (v := .int (σ.1 60 33)) dX10_hall_102 fl_X10_112 hp_60 hs_60 rfl rfl ?_
    refine T_puti dX10_hall_105 fl_X10_79 pf_X10_22 hp_60 hs_60 rfl ?_
    refine T_aload_n dX10_hall_108 rfl 0 rfl ?_
    refine T_iconst (v := 0) dX10_hall_109 (by decide) ?_
    refine T_putz dX10_hall_110 fl_X10_85 pf_X10_24 hp_60 hs_60 rfl (by decide) ?_
    refine T_aload_n dX10_hall_113 rfl 0 rfl ?_
    refine T_dup dX10_hall_114 rfl ?_
    refine T_get (v := .int (σ.1 60 9)) dX10_hall_115 fl_X10_39 hp_60 hs_60 rfl rfl ?_
    refine T_iconst (v := 1) dX10_hall_118 (by decide) ?_
    refine T_iadd dX10_hall_119 ?_
    refine T_puti dX10_hall_120 fl_X10_39 pf_X10_9 hp_60 hs_60 rfl ?_
    refine T_aload_n dX10_hall_123 rfl 0 rfl ?_
    refine T_get (v := .int ((σ.1 60 9) + 1)) dX10_hall_124 fl_X10_39 hp_60 hs_60 rfl rfl ?_
    exact T_iret dX10_hall_127 rfl (h.2.1 c5)
  · refine T_aload_n dX10_hall_55 rfl 0 rfl ?_
    refine T_get (v := .ref 68) dX10_hall_56 fl_X10_45 hp_60 hs_60 rfl rfl ?_
    refine T_iload_n dX10_hall_59 rfl 1 rfl ?_
    refine T_aload_n dX10_hall_60 rfl 0 rfl ?_
    refine T_get (v := .ref 68) dX10_hall_61 fl_X10_45 hp_60 hs_60 rfl rfl ?_
    refine T_bipush (v := 100) dX10_hall_64 (by decide) ?_
    refine T_iload_n dX10_hall_66 rfl 1 rfl ?_
    refine T_iadd dX10_hall_67 ?_
    refine T_iald dX10_hall_68 hp_68 hs_68 (h.2.2 c5).1 ?_
    refine T_iast dX10_hall_69 hp_68 hs_68 (h.2.2 c5).2.1 ?_
    refine T_iinc (v := (x1 + 1)) dX10_hall_70 1 rfl rfl (by decide) rfl ?_
    refine T_goto (tgt := 45) dX10_hall_73 (by decide) ?_
    exact T_sub [1, 0] rfl (h.2.2 c5).2.2
set_option maxHeartbeats 4000000 in
set_option maxRecDepth 100000 in
theorem B_X10_hall {l : Launch} {e : hv_Ev}   {σ : hv_S} {Φ : Int32 → hv_S → Prop} (h : (vp_in 1 2 ∧ hv_CI l (hv_e2 e) 6 m_X10_goes [.ref 60, .int 1] (hv_ui (hv_ui σ 69 1 (σ.1 60 10)) 60 10 0) (fun v2 s1 => ((v2 ≠ 0 → (vp_in 1 2 ∧ (vp_in 0 2 ∧ L_X10_hall_45 l e Φ 0 (hv_ui s1 69 0 (s1.1 69 1))))) ∧ (v2 = 0 → Φ ((-10) - (s1.1 60 16)) s1))))) : hv_CI l (hv_e2 e) 7 m_X10_hall [.ref 60] σ Φ := by
  refine hv_entI (by decide) (Nat.le_of_ble_eq_true rfl) ?_
  show hv_TW l (hv_e2 e) (hv_rm 7) 0 0 m_X10_hall hv_no (hv_ZI (hv_e2 e) Φ) 0 [(0, .ref 60)] [] σ
  refine T_aload_n dX10_hall_0 rfl 0 rfl ?_
  refine T_get (v := .ref 69) dX10_hall_1 fl_X10_48 hp_60 hs_60 rfl rfl ?_
  refine T_iconst (v := 1) dX10_hall_4 (by decide) ?_
  refine T_aload_n dX10_hall_5 rfl 0 rfl ?_
  refine T_get (v := .int (σ.1 60 10)) dX10_hall_6 fl_X10_42 hp_60 hs_60 rfl rfl ?_
  refine T_iast dX10_hall_9 hp_69 hs_69 h.1 ?_
  refine T_aload_n dX10_hall_10 rfl 0 rfl ?_
  refine T_iconst (v := 0) dX10_hall_11 (by decide) ?_
  refine T_puti dX10_hall_12 fl_X10_42 pf_X10_10 hp_60 hs_60 rfl ?_
  refine T_aload_n dX10_hall_15 rfl 0 rfl ?_
  refine T_iconst (v := 1) dX10_hall_16 (by decide) ?_
  refine T_VI (As := [.int 1]) dX10_hall_17 mv_X10_227 hp_60 hs_60 rfl (Nat.le_of_ble_eq_true rfl) (hv_ok1 rfl) rfl h.2 (fun v2 s1 h3 => ?_)
  refine T_if_ne (tgt := 31) dX10_hall_20 (by decide) (fun c4 => ?_) (fun c4 => ?_)
  · refine T_aload_n dX10_hall_31 rfl 0 rfl ?_
    refine T_get (v := .ref 69) dX10_hall_32 fl_X10_48 hp_60 hs_60 rfl rfl ?_
    refine T_iconst (v := 0) dX10_hall_35 (by decide) ?_
    refine T_aload_n dX10_hall_36 rfl 0 rfl ?_
    refine T_get (v := .ref 69) dX10_hall_37 fl_X10_48 hp_60 hs_60 rfl rfl ?_
    refine T_iconst (v := 1) dX10_hall_40 (by decide) ?_
    refine T_iald dX10_hall_41 hp_69 hs_69 (h3.1 c4).1 ?_
    refine T_iast dX10_hall_42 hp_69 hs_69 (h3.1 c4).2.1 ?_
    refine T_iconst (v := 0) dX10_hall_43 (by decide) ?_
    refine T_istore_n dX10_hall_44 rfl (by decide) rfl ?_
    exact T_sub [1, 0] rfl (h3.1 c4).2.2
  · refine T_bipush (v := (-10)) dX10_hall_23 (by decide) ?_
    refine T_aload_n dX10_hall_25 rfl 0 rfl ?_
    refine T_get (v := .int (s1.1 60 16)) dX10_hall_26 fl_X10_60 hp_60 hs_60 rfl rfl ?_
    refine T_isub dX10_hall_29 ?_
    exact T_iret dX10_hall_30 rfl (h3.2 c4)

def L_X10_isBar_15 (l : Launch) (e : hv_Ev)  (Φ : Int32 → hv_S → Prop) (x1 : Int32) (x2 : Int32) (x3 : Int32) (x4 : Int32) (σ : hv_S) : Prop := hv_TW l (hv_e2 e) (hv_rm 7) 0 0 m_X10_isBar hv_no (hv_ZI (hv_e2 e) Φ) 15 [(0, .ref 60), (1, .int x1), (2, .int x2), (3, .int x3), (4, .int x4)] [] σ
set_option maxHeartbeats 4000000 in
set_option maxRecDepth 100000 in
theorem B_X10_isBar_15 {l : Launch} {e : hv_Ev}  (x1 : Int32) (x2 : Int32) (x3 : Int32) (x4 : Int32) {σ : hv_S} {Φ : Int32 → hv_S → Prop} (h : ((192 ≤ x4 → (vp_in (((64 * x3) + (8 * x1)) + x2) 192 ∧ (((σ.1 71 ((((64 * x3) + (8 * x1)) + x2).toNatClampNeg)) = 0 ∨ (σ.1 71 ((((64 * x3) + (8 * x1)) + x2).toNatClampNeg)) = 1) ∧ Φ (σ.1 71 ((((64 * x3) + (8 * x1)) + x2).toNatClampNeg)) σ))) ∧ (¬ 192 ≤ x4 → (vp_in 0 5 ∧ (vp_in 1 5 ∧ (vp_in 2 5 ∧ (vp_in ((8 * (x4 / 64)) + (x4 - x4 / 8 * 8)) 24 ∧ (vp_in 3 5 ∧ (vp_in ((8 * (x4 / 64)) + ((x4 / 8) - (x4 / 8) / 8 * 8)) 24 ∧ (vp_in 4 5 ∧ (((σ.1 60 9) ≤ 0 → (vp_in x4 192 ∧ L_X10_isBar_15 l e Φ x1 x2 x3 (x4 + 1) (hv_ui (hv_ui (hv_ui (hv_ui (hv_ui (hv_ui σ 70 0 ((x4 / 8) - (x4 / 8) / 8 * 8)) 70 1 (x4 - x4 / 8 * 8)) 70 2 (x4 / 64)) 70 3 (σ.1 66 (((8 * (x4 / 64)) + (x4 - x4 / 8 * 8)).toNatClampNeg))) 70 4 (σ.1 66 (((8 * (x4 / 64)) + ((x4 / 8) - (x4 / 8) / 8 * 8)).toNatClampNeg))) 71 x4.toNatClampNeg 0))) ∧ (¬ (σ.1 60 9) ≤ 0 → hv_CI l (hv_e2 e) 6 m_X10_goes [.ref 60, .int 0] (hv_ui (hv_ui (hv_ui (hv_ui (hv_ui σ 70 0 ((x4 / 8) - (x4 / 8) / 8 * 8)) 70 1 (x4 - x4 / 8 * 8)) 70 2 (x4 / 64)) 70 3 (σ.1 66 (((8 * (x4 / 64)) + (x4 - x4 / 8 * 8)).toNatClampNeg))) 70 4 (σ.1 66 (((8 * (x4 / 64)) + ((x4 / 8) - (x4 / 8) / 8 * 8)).toNatClampNeg))) (fun v3 s2 => ((v3 = 0 → (vp_in x4 192 ∧ L_X10_isBar_15 l e Φ x1 x2 x3 (x4 + 1) (hv_ui s2 71 x4.toNatClampNeg 0))) ∧ (¬ v3 = 0 → (((s2.1 60 18) = 0 → (vp_in x4 192 ∧ L_X10_isBar_15 l e Φ x1 x2 x3 (x4 + 1) (hv_ui s2 71 x4.toNatClampNeg 0))) ∧ (¬ (s2.1 60 18) = 0 → (vp_in x4 192 ∧ L_X10_isBar_15 l e Φ x1 x2 x3 (x4 + 1) (hv_ui s2 71 x4.toNatClampNeg 1))))))))))))))))))) : L_X10_isBar_15 l e Φ x1 x2 x3 x4 σ := by
  show hv_TW l (hv_e2 e) (hv_rm 7) 0 0 m_X10_isBar hv_no (hv_ZI (hv_e2 e) Φ) 15 [(0, .ref 60), (1, .int x1), (2, .int x2), (3, .int x3), (4, .int x4)] [] σ
  refine T_iload dX10_isBar_15 4 rfl ?_
  refine T_sipush (v := 192) dX10_isBar_17 (by decide) ?_
  refine T_icmp_ge (tgt := 152) dX10_isBar_20 (by decide) (fun c5 => ?_) (fun c5 => ?_)
  · refine T_aload_n dX10_isBar_152 rfl 0 rfl ?_
    refine T_get (v := .ref 71) dX10_isBar_153 fl_X10_82 hp_60 hs_60 rfl rfl ?_
    refine T_bipush (v := 64) dX10_isBar_156 (by decide) ?_
    refine T_iload_n dX10_isBar_158 rfl 3 rfl ?_
    refine T_imul dX10_isBar_159 ?_
    refine T_bipush (v := 8) dX10_isBar_160 (by decide) ?_
    refine T_iload_n dX10_isBar_162 rfl 1 rfl ?_
    refine T_imul dX10_isBar_163 ?_
    refine T_iadd dX10_isBar_164 ?_
    refine T_iload_n dX10_isBar_165 rfl 2 rfl ?_
    refine T_iadd dX10_isBar_166 ?_
    refine T_zald dX10_isBar_167 hp_71 hs_71 (h.1 c5).1 ?_
    exact T_zret dX10_isBar_168 rfl (h.1 c5).2.1 (h.1 c5).2.2
  · refine T_aload_n dX10_isBar_23 rfl 0 rfl ?_
    refine T_get (v := .ref 70) dX10_isBar_24 fl_X10_51 hp_60 hs_60 rfl rfl ?_
    refine T_iconst (v := 0) dX10_isBar_27 (by decide) ?_
    refine T_iload dX10_isBar_28 4 rfl ?_
    refine T_bipush (v := 8) dX10_isBar_30 (by decide) ?_
    refine T_idiv dX10_isBar_32 (by decide) ?_
    refine T_bipush (v := 8) dX10_isBar_33 (by decide) ?_
    refine T_irem dX10_isBar_35 (by decide) ?_
    refine T_iast dX10_isBar_36 hp_70 hs_70 (h.2 c5).1 ?_
    refine T_aload_n dX10_isBar_37 rfl 0 rfl ?_
    refine T_get (v := .ref 70) dX10_isBar_38 fl_X10_51 hp_60 hs_60 rfl rfl ?_
    refine T_iconst (v := 1) dX10_isBar_41 (by decide) ?_
    refine T_iload dX10_isBar_42 4 rfl ?_
    refine T_bipush (v := 8) dX10_isBar_44 (by decide) ?_
    refine T_irem dX10_isBar_46 (by decide) ?_
    refine T_iast dX10_isBar_47 hp_70 hs_70 (h.2 c5).2.1 ?_
    refine T_aload_n dX10_isBar_48 rfl 0 rfl ?_
    refine T_get (v := .ref 70) dX10_isBar_49 fl_X10_51 hp_60 hs_60 rfl rfl ?_
    refine T_iconst (v := 2) dX10_isBar_52 (by decide) ?_
    refine T_iload dX10_isBar_53 4 rfl ?_
    refine T_bipush (v := 64) dX10_isBar_55 (by decide) ?_
    refine T_idiv dX10_isBar_57 (by decide) ?_
    refine T_iast dX10_isBar_58 hp_70 hs_70 (h.2 c5).2.2.1 ?_
    refine T_aload_n dX10_isBar_59 rfl 0 rfl ?_
    refine T_get (v := .ref 70) dX10_isBar_60 fl_X10_51 hp_60 hs_60 rfl rfl ?_
    refine T_iconst (v := 3) dX10_isBar_63 (by decide) ?_
    refine T_aload_n dX10_isBar_64 rfl 0 rfl ?_
    refine T_get (v := .ref 66) dX10_isBar_65 fl_X10_32 hp_60 hs_60 rfl rfl ?_
    refine T_bipush (v := 8) dX10_isBar_68 (by decide) ?_
    refine T_iload dX10_isBar_70 4 rfl ?_
    refine T_bipush (v := 64) dX10_isBar_72 (by decide) ?_
    refine T_idiv dX10_isBar_74 (by decide) ?_
    refine T_imul dX10_isBar_75 ?_
    refine T_iload dX10_isBar_76 4 rfl ?_
    refine T_bipush (v := 8) dX10_isBar_78 (by decide) ?_
    refine T_irem dX10_isBar_80 (by decide) ?_
    refine T_iadd dX10_isBar_81 ?_
    refine T_iald dX10_isBar_82 hp_66 hs_66 (h.2 c5).2.2.2.1 ?_
    refine T_iast dX10_isBar_83 hp_70 hs_70 (h.2 c5).2.2.2.2.1 ?_
    refine T_aload_n dX10_isBar_84 rfl 0 rfl ?_
    refine T_get (v := .ref 70) dX10_isBar_85 fl_X10_51 hp_60 hs_60 rfl rfl ?_
    refine T_iconst (v := 4) dX10_isBar_88 (by decide) ?_
    refine T_aload_n dX10_isBar_89 rfl 0 rfl ?_
    refine T_get (v := .ref 66) dX10_isBar_90 fl_X10_32 hp_60 hs_60 rfl rfl ?_
    refine T_bipush (v := 8) dX10_isBar_93 (by decide) ?_
    refine T_iload dX10_isBar_95 4 rfl ?_
    refine T_bipush (v := 64) dX10_isBar_97 (by decide) ?_
    refine T_idiv dX10_isBar_99 (by decide) ?_
    refine T_imul dX10_isBar_100 ?_
    refine T_iload dX10_isBar_101 4 rfl ?_
    refine T_bipush (v := 8) dX10_isBar_103 (by decide) ?_
    refine T_idiv dX10_isBar_105 (by decide) ?_
    refine T_bipush (v := 8) dX10_isBar_106 (by decide) ?_
    refine T_irem dX10_isBar_108 (by decide) ?_
    refine T_iadd dX10_isBar_109 ?_
    refine T_iald dX10_isBar_110 hp_66 hs_66 (h.2 c5).2.2.2.2.2.1 ?_
    refine T_iast dX10_isBar_111 hp_70 hs_70 (h.2 c5).2.2.2.2.2.2.1 ?_
    refine T_aload_n dX10_isBar_112 rfl 0 rfl ?_
    refine T_get (v := .ref 71) dX10_isBar_113 fl_X10_82 hp_60 hs_60 rfl rfl ?_
    refine T_iload dX10_isBar_116 4 rfl ?_
    refine T_aload_n dX10_isBar_118 rfl 0 rfl ?_
    refine T_get (v := .int (σ.1 60 9)) dX10_isBar_119 fl_X10_39 hp_60 hs_60 rfl rfl ?_
    refine T_if_le (tgt := 144) dX10_isBar_122 (by decide) (fun c6 => ?_) (fun c6 => ?_)
    · refine T_iconst (v := 0) dX10_isBar_144 (by decide) ?_
      refine T_zast dX10_isBar_145 hp_71 hs_71 ((h.2 c5).2.2.2.2.2.2.2.1 c6).1 (by decide) ?_
      refine T_iinc (v := (x4 + 1)) dX10_isBar_146 4 rfl rfl (by decide) rfl ?_
      refine T_goto (tgt := 15) dX10_isBar_149 (by decide) ?_
      exact T_sub [1, 2, 3, 4, 0] rfl ((h.2 c5).2.2.2.2.2.2.2.1 c6).2
    · refine T_aload_n dX10_isBar_125 rfl 0 rfl ?_
      refine T_iconst (v := 0) dX10_isBar_126 (by decide) ?_
      refine T_VI (As := [.int 0]) dX10_isBar_127 mv_X10_227 hp_60 hs_60 rfl (Nat.le_of_ble_eq_true rfl) (hv_ok1 rfl) rfl ((h.2 c5).2.2.2.2.2.2.2.2 c6) (fun v3 s2 h4 => ?_)
      refine T_if_eq (tgt := 144) dX10_isBar_130 (by decide) (fun c7 => ?_) (fun c7 => ?_)
      · refine T_iconst (v := 0) dX10_isBar_144 (by decide) ?_
        refine T_zast dX10_isBar_145 hp_71 hs_71 (h4.1 c7).1 (by decide) ?_
        refine T_iinc (v := (x4 + 1)) dX10_isBar_146 4 rfl rfl (by decide) rfl ?_
        refine T_goto (tgt := 15) dX10_isBar_149 (by decide) ?_
        exact T_sub [1, 2, 3, 4, 0] rfl (h4.1 c7).2
      · refine T_aload_n dX10_isBar_133 rfl 0 rfl ?_
        refine T_get (v := .int (s2.1 60 18)) dX10_isBar_134 fl_X10_66 hp_60 hs_60 rfl rfl ?_
        refine T_if_eq (tgt := 144) dX10_isBar_137 (by decide) (fun c8 => ?_) (fun c8 => ?_)
        · refine T_iconst (v := 0) dX10_isBar_144 (by decide) ?_
          refine T_zast dX10_isBar_145 hp_71 hs_71 ((h4.2 c7).1 c8).1 (by decide) ?_
          refine T_iinc (v := (x4 + 1)) dX10_isBar_146 4 rfl rfl (by decide) rfl ?_
          refine T_goto (tgt := 15) dX10_isBar_149 (by decide) ?_
          exact T_sub [1, 2, 3, 4, 0] rfl ((h4.2 c7).1 c8).2
        · refine T_iconst (v := 1) dX10_isBar_140 (by decide) ?_
          refine T_goto (tgt := 145) dX10_isBar_141 (by decide) ?_
          refine T_zast dX10_isBar_145 hp_71 hs_71 ((h4.2 c7).2 c8).1 (by decide) ?_
          refine T_iinc (v := (x4 + 1)) dX10_isBar_146 4 rfl rfl (by decide) rfl ?_
          refine T_goto (tgt := 15) dX10_isBar_149 (by decide) ?_
          exact T_sub [1, 2, 3, 4, 0] rfl ((h4.2 c7).2 c8).2
set_option maxHeartbeats 4000000 in
set_option maxRecDepth 100000 in
theorem B_X10_isBar {l : Launch} {e : hv_Ev}  (x1 : Int32) (x2 : Int32) (x3 : Int32) {σ : hv_S} {Φ : Int32 → hv_S → Prop} (h : (((σ.1 60 24) ≠ 0 → (vp_in (((64 * x3) + (8 * x1)) + x2) 192 ∧ (((σ.1 71 ((((64 * x3) + (8 * x1)) + x2).toNatClampNeg)) = 0 ∨ (σ.1 71 ((((64 * x3) + (8 * x1)) + x2).toNatClampNeg)) = 1) ∧ Φ (σ.1 71 ((((64 * x3) + (8 * x1)) + x2).toNatClampNeg)) σ))) ∧ ((σ.1 60 24) = 0 → L_X10_isBar_15 l e Φ x1 x2 x3 0 (hv_ui σ 60 24 1)))) : hv_CI l (hv_e2 e) 7 m_X10_isBar [.ref 60, .int x1, .int x2, .int x3] σ Φ := by
  refine hv_entI (by decide) (Nat.le_of_ble_eq_true rfl) ?_
  show hv_TW l (hv_e2 e) (hv_rm 7) 0 0 m_X10_isBar hv_no (hv_ZI (hv_e2 e) Φ) 0 [(0, .ref 60), (1, .int x1), (2, .int x2), (3, .int x3)] [] σ
  refine T_aload_n dX10_isBar_0 rfl 0 rfl ?_
  refine T_get (v := .int (σ.1 60 24)) dX10_isBar_1 fl_X10_85 hp_60 hs_60 rfl rfl ?_
  refine T_if_ne (tgt := 152) dX10_isBar_4 (by decide) (fun c1 => ?_) (fun c1 => ?_)
  · refine T_aload_n dX10_isBar_152 rfl 0 rfl ?_
    refine T_get (v := .ref 71) dX10_isBar_153 fl_X10_82 hp_60 hs_60 rfl rfl ?_
    refine T_bipush (v := 64) dX10_isBar_156 (by decide) ?_
    refine T_iload_n dX10_isBar_158 rfl 3 rfl ?_
    refine T_imul dX10_isBar_159 ?_
    refine T_bipush (v := 8) dX10_isBar_160 (by decide) ?_
    refine T_iload_n dX10_isBar_162 rfl 1 rfl ?_
    refine T_imul dX10_isBar_163 ?_
    refine T_iadd dX10_isBar_164 ?_
    refine T_iload_n dX10_isBar_165 rfl 2 rfl ?_
    refine T_iadd dX10_isBar_166 ?_
    refine T_zald dX10_isBar_167 hp_71 hs_71 (h.1 c1).1 ?_
    exact T_zret dX10_isBar_168 rfl (h.1 c1).2.1 (h.1 c1).2.2
  · refine T_aload_n dX10_isBar_7 rfl 0 rfl ?_
    refine T_iconst (v := 1) dX10_isBar_8 (by decide) ?_
    refine T_putz dX10_isBar_9 fl_X10_85 pf_X10_24 hp_60 hs_60 rfl (by decide) ?_
    refine T_iconst (v := 0) dX10_isBar_12 (by decide) ?_
    refine T_istore dX10_isBar_13 (by decide) rfl ?_
    exact T_sub [1, 2, 3, 4, 0] rfl (h.2 c1)

set_option maxHeartbeats 4000000 in
set_option maxRecDepth 100000 in
theorem B_X10_plainTells {l : Launch} {e : hv_Ev}  (x1 : Int32) (x2 : Int32) (x3 : Int32) {σ : hv_S} {Φ : Int32 → hv_S → Prop} (h : hv_CV l (hv_e2 e) 0 m_X10_body [.ref 60, .int 12] σ (fun s1 => hv_CI l (hv_e2 e) 6 m_X10_holds [.ref 60, .int x1, .int x2, .int x3] s1 (fun v5 s4 => Φ (v5 * 2) s4))) : hv_CI l (hv_e2 e) 7 m_X10_plainTells [.ref 60, .int x1, .int x2, .int x3] σ Φ := by
  refine hv_entI (by decide) (Nat.le_of_ble_eq_true rfl) ?_
  show hv_TW l (hv_e2 e) (hv_rm 7) 0 0 m_X10_plainTells hv_no (hv_ZI (hv_e2 e) Φ) 0 [(0, .ref 60), (1, .int x1), (2, .int x2), (3, .int x3)] [] σ
  refine T_aload_n dX10_plainTells_0 rfl 0 rfl ?_
  refine T_bipush (v := 12) dX10_plainTells_1 (by decide) ?_
  refine T_VV (As := [.int 12]) dX10_plainTells_3 mv_X10_329 hp_60 hs_60 rfl (Nat.le_of_ble_eq_true rfl) (hv_ok1 rfl) rfl h (fun s1 h3 => ?_)
  refine T_aload_n dX10_plainTells_6 rfl 0 rfl ?_
  refine T_iload_n dX10_plainTells_7 rfl 1 rfl ?_
  refine T_iload_n dX10_plainTells_8 rfl 2 rfl ?_
  refine T_iload_n dX10_plainTells_9 rfl 3 rfl ?_
  refine T_VI (As := [.int x1, .int x2, .int x3]) dX10_plainTells_10 mv_X10_348 hp_60 hs_60 rfl (Nat.le_of_ble_eq_true rfl) (hv_ok1 rfl) rfl h3 (fun v5 s4 h6 => ?_)
  refine T_iconst (v := 2) dX10_plainTells_13 (by decide) ?_
  refine T_imul dX10_plainTells_14 ?_
  exact T_iret dX10_plainTells_15 rfl h6

set_option maxHeartbeats 4000000 in
set_option maxRecDepth 100000 in
theorem B_X10_barred {l : Launch} {e : hv_Ev}  (x1 : Int32) (x2 : Int32) (x3 : Int32) {σ : hv_S} {Φ : Int32 → hv_S → Prop} (h : hv_CI l (hv_e2 e) 1 m_X10_isMember [.ref 60, .int x1] σ (fun v2 s1 => ((v2 = 0 → Φ (-1) s1) ∧ (¬ v2 = 0 → hv_CI l (hv_e2 e) 1 m_X10_isMember [.ref 60, .int x2] s1 (fun v5 s4 => ((v5 = 0 → Φ (-1) s4) ∧ (¬ v5 = 0 → hv_CI l (hv_e2 e) 1 m_X10_isMatter [.ref 60, .int x3] s4 (fun v8 s7 => ((v8 ≠ 0 → ((x1 ≠ x2 → hv_CI l (hv_e2 e) 7 m_X10_isBar [.ref 60, .int x1, .int x2, .int x3] s7 (fun v11 s10 => ((v11 = 0 → Φ 0 s10) ∧ (¬ v11 = 0 → Φ 1 s10)))) ∧ (x1 = x2 → Φ (-2) s7))) ∧ (v8 = 0 → Φ (-1) s7)))))))))) : hv_CI l (hv_e2 e) 8 m_X10_barred [.ref 60, .int x1, .int x2, .int x3] σ Φ := by
  refine hv_entI (by decide) (Nat.le_of_ble_eq_true rfl) ?_
  show hv_TW l (hv_e2 e) (hv_rm 8) 0 0 m_X10_barred hv_no (hv_ZI (hv_e2 e) Φ) 0 [(0, .ref 60), (1, .int x1), (2, .int x2), (3, .int x3)] [] σ
  refine T_aload_n dX10_barred_0 rfl 0 rfl ?_
  refine T_iload_n dX10_barred_1 rfl 1 rfl ?_
  refine T_VI (As := [.int x1]) dX10_barred_2 mv_X10_179 hp_60 hs_60 rfl (Nat.le_of_ble_eq_true rfl) (hv_ok1 rfl) rfl h (fun v2 s1 h3 => ?_)
  refine T_if_eq (tgt := 24) dX10_barred_5 (by decide) (fun c13 => ?_) (fun c13 => ?_)
  · refine T_iconst (v := (-1)) dX10_barred_24 (by decide) ?_
    exact T_iret dX10_barred_25 rfl (h3.1 c13)
  · refine T_aload_n dX10_barred_8 rfl 0 rfl ?_
    refine T_iload_n dX10_barred_9 rfl 2 rfl ?_
    refine T_VI (As := [.int x2]) dX10_barred_10 mv_X10_179 hp_60 hs_60 rfl (Nat.le_of_ble_eq_true rfl) (hv_ok1 rfl) rfl (h3.2 c13) (fun v5 s4 h6 => ?_)
    refine T_if_eq (tgt := 24) dX10_barred_13 (by decide) (fun c14 => ?_) (fun c14 => ?_)
    · refine T_iconst (v := (-1)) dX10_barred_24 (by decide) ?_
      exact T_iret dX10_barred_25 rfl (h6.1 c14)
    · refine T_aload_n dX10_barred_16 rfl 0 rfl ?_
      refine T_iload_n dX10_barred_17 rfl 3 rfl ?_
      refine T_VI (As := [.int x3]) dX10_barred_18 mv_X10_183 hp_60 hs_60 rfl (Nat.le_of_ble_eq_true rfl) (hv_ok1 rfl) rfl (h6.2 c14) (fun v8 s7 h9 => ?_)
      refine T_if_ne (tgt := 26) dX10_barred_21 (by decide) (fun c15 => ?_) (fun c15 => ?_)
      · refine T_iload_n dX10_barred_26 rfl 1 rfl ?_
        refine T_iload_n dX10_barred_27 rfl 2 rfl ?_
        refine T_icmp_ne (tgt := 36) dX10_barred_28 (by decide) (fun c16 => ?_) (fun c16 => ?_)
        · refine T_aload_n dX10_barred_36 rfl 0 rfl ?_
          refine T_iload_n dX10_barred_37 rfl 1 rfl ?_
          refine T_iload_n dX10_barred_38 rfl 2 rfl ?_
          refine T_iload_n dX10_barred_39 rfl 3 rfl ?_
          refine T_VI (As := [.int x1, .int x2, .int x3]) dX10_barred_40 mv_X10_230 hp_60 hs_60 rfl (Nat.le_of_ble_eq_true rfl) (hv_ok1 rfl) rfl ((h9.1 c15).1 c16) (fun v11 s10 h12 => ?_)
          refine T_if_eq (tgt := 50) dX10_barred_43 (by decide) (fun c17 => ?_) (fun c17 => ?_)
          · refine T_iconst (v := 0) dX10_barred_50 (by decide) ?_
            exact T_iret dX10_barred_51 rfl (h12.1 c17)
          · refine T_iconst (v := 1) dX10_barred_46 (by decide) ?_
            refine T_goto (tgt := 51) dX10_barred_47 (by decide) ?_
            exact T_iret dX10_barred_51 rfl (h12.2 c17)
        · refine T_bipush (v := (-2)) dX10_barred_31 (by decide) ?_
          refine T_goto (tgt := 51) dX10_barred_33 (by decide) ?_
          exact T_iret dX10_barred_51 rfl ((h9.1 c15).2 c16)
      · refine T_iconst (v := (-1)) dX10_barred_24 (by decide) ?_
        exact T_iret dX10_barred_25 rfl (h9.2 c15)

def L_X10_surestOf_5 (l : Launch) (e : hv_Ev)  (Φ : Int32 → hv_S → Prop) (x1 : Int32) (x2 : Int32) (x3 : Int32) (x4 : Int32) (σ : hv_S) : Prop := hv_TW l (hv_e2 e) (hv_rm 8) 0 0 m_X10_surestOf hv_no (hv_ZI (hv_e2 e) Φ) 5 [(0, .ref 60), (1, .int x1), (2, .int x2), (3, .int x3), (4, .int x4)] [] σ
set_option maxHeartbeats 4000000 in
set_option maxRecDepth 100000 in
theorem B_X10_surestOf_5 {l : Launch} {e : hv_Ev}  (x1 : Int32) (x2 : Int32) (x3 : Int32) (x4 : Int32) {σ : hv_S} {Φ : Int32 → hv_S → Prop} (h : (((σ.1 60 0) ≤ x4 → Φ x3 σ) ∧ (¬ (σ.1 60 0) ≤ x4 → ((x4 = x1 → L_X10_surestOf_5 l e Φ x1 x2 x3 (x4 + 1) σ) ∧ (¬ x4 = x1 → hv_CI l (hv_e2 e) 7 m_X10_isBar [.ref 60, .int x1, .int x4, .int x2] σ (fun v2 s1 => ((v2 ≠ 0 → L_X10_surestOf_5 l e Φ x1 x2 x3 (x4 + 1) s1) ∧ (v2 = 0 → ((x3 < 0 → L_X10_surestOf_5 l e Φ x1 x2 x4 (x4 + 1) s1) ∧ (¬ x3 < 0 → (vp_in ((8 * x2) + x4) 24 ∧ (vp_in ((8 * x2) + x3) 24 ∧ (((s1.1 66 (((8 * x2) + x4).toNatClampNeg)) ≤ (s1.1 66 (((8 * x2) + x3).toNatClampNeg)) → L_X10_surestOf_5 l e Φ x1 x2 x3 (x4 + 1) s1) ∧ (¬ (s1.1 66 (((8 * x2) + x4).toNatClampNeg)) ≤ (s1.1 66 (((8 * x2) + x3).toNatClampNeg)) → L_X10_surestOf_5 l e Φ x1 x2 x4 (x4 + 1) s1)))))))))))))) : L_X10_surestOf_5 l e Φ x1 x2 x3 x4 σ := by
  show hv_TW l (hv_e2 e) (hv_rm 8) 0 0 m_X10_surestOf hv_no (hv_ZI (hv_e2 e) Φ) 5 [(0, .ref 60), (1, .int x1), (2, .int x2), (3, .int x3), (4, .int x4)] [] σ
  refine T_iload dX10_surestOf_5 4 rfl ?_
  refine T_aload_n dX10_surestOf_7 rfl 0 rfl ?_
  refine T_get (v := .int (σ.1 60 0)) dX10_surestOf_8 fl_X10_7 hp_60 hs_60 rfl rfl ?_
  refine T_icmp_ge (tgt := 70) dX10_surestOf_11 (by decide) (fun c4 => ?_) (fun c4 => ?_)
  · refine T_iload_n dX10_surestOf_70 rfl 3 rfl ?_
    exact T_iret dX10_surestOf_71 rfl (h.1 c4)
  · refine T_iload dX10_surestOf_14 4 rfl ?_
    refine T_iload_n dX10_surestOf_16 rfl 1 rfl ?_
    refine T_icmp_eq (tgt := 64) dX10_surestOf_17 (by decide) (fun c5 => ?_) (fun c5 => ?_)
    · refine T_iinc (v := (x4 + 1)) dX10_surestOf_64 4 rfl rfl (by decide) rfl ?_
      refine T_goto (tgt := 5) dX10_surestOf_67 (by decide) ?_
      exact T_sub [1, 2, 3, 4, 0] rfl ((h.2 c4).1 c5)
    · refine T_aload_n dX10_surestOf_20 rfl 0 rfl ?_
      refine T_iload_n dX10_surestOf_21 rfl 1 rfl ?_
      refine T_iload dX10_surestOf_22 4 rfl ?_
      refine T_iload_n dX10_surestOf_24 rfl 2 rfl ?_
      refine T_VI (As := [.int x1, .int x4, .int x2]) dX10_surestOf_25 mv_X10_230 hp_60 hs_60 rfl (Nat.le_of_ble_eq_true rfl) (hv_ok1 rfl) rfl ((h.2 c4).2 c5) (fun v2 s1 h3 => ?_)
      refine T_if_ne (tgt := 64) dX10_surestOf_28 (by decide) (fun c6 => ?_) (fun c6 => ?_)
      · refine T_iinc (v := (x4 + 1)) dX10_surestOf_64 4 rfl rfl (by decide) rfl ?_
        refine T_goto (tgt := 5) dX10_surestOf_67 (by decide) ?_
        exact T_sub [1, 2, 3, 4, 0] rfl (h3.1 c6)
      · refine T_iload_n dX10_surestOf_31 rfl 3 rfl ?_
        refine T_if_lt (tgt := 61) dX10_surestOf_32 (by decide) (fun c7 => ?_) (fun c7 => ?_)
        · refine T_iload dX10_surestOf_61 4 rfl ?_
          refine T_istore_n dX10_surestOf_63 rfl (by decide) rfl ?_
          refine T_iinc (v := (x4 + 1)) dX10_surestOf_64 4 rfl rfl (by decide) rfl ?_
          refine T_goto (tgt := 5) dX10_surestOf_67 (by decide) ?_
          exact T_sub [2, 3, 4, 1, 0] rfl ((h3.2 c6).1 c7)
        · refine T_aload_n dX10_surestOf_35 rfl 0 rfl ?_
          refine T_get (v := .ref 66) dX10_surestOf_36 fl_X10_32 hp_60 hs_60 rfl rfl ?_
          refine T_bipush (v := 8) dX10_surestOf_39 (by decide) ?_
          refine T_iload_n dX10_surestOf_41 rfl 2 rfl ?_
          refine T_imul dX10_surestOf_42 ?_
          refine T_iload dX10_surestOf_43 4 rfl ?_
          refine T_iadd dX10_surestOf_45 ?_
          refine T_iald dX10_surestOf_46 hp_66 hs_66 ((h3.2 c6).2 c7).1 ?_
          refine T_aload_n dX10_surestOf_47 rfl 0 rfl ?_
          refine T_get (v := .ref 66) dX10_surestOf_48 fl_X10_32 hp_60 hs_60 rfl rfl ?_
          refine T_bipush (v := 8) dX10_surestOf_51 (by decide) ?_
          refine T_iload_n dX10_surestOf_53 rfl 2 rfl ?_
          refine T_imul dX10_surestOf_54 ?_
          refine T_iload_n dX10_surestOf_55 rfl 3 rfl ?_
          refine T_iadd dX10_surestOf_56 ?_
          refine T_iald dX10_surestOf_57 hp_66 hs_66 ((h3.2 c6).2 c7).2.1 ?_
          refine T_icmp_le (tgt := 64) dX10_surestOf_58 (by decide) (fun c8 => ?_) (fun c8 => ?_)
          · refine T_iinc (v := (x4 + 1)) dX10_surestOf_64 4 rfl rfl (by decide) rfl ?_
            refine T_goto (tgt := 5) dX10_surestOf_67 (by decide) ?_
            exact T_sub [1, 2, 3, 4, 0] rfl (((h3.2 c6).2 c7).2.2.1 c8)
          · refine T_iload dX10_surestOf_61 4 rfl ?_
            refine T_istore_n dX10_surestOf_63 rfl (by decide) rfl ?_
            refine T_iinc (v := (x4 + 1)) dX10_surestOf_64 4 rfl rfl (by decide) rfl ?_
            refine T_goto (tgt := 5) dX10_surestOf_67 (by decide) ?_
            exact T_sub [2, 3, 4, 1, 0] rfl (((h3.2 c6).2 c7).2.2.2 c8)
set_option maxHeartbeats 4000000 in
set_option maxRecDepth 100000 in
theorem B_X10_surestOf {l : Launch} {e : hv_Ev}  (x1 : Int32) (x2 : Int32) {σ : hv_S} {Φ : Int32 → hv_S → Prop} (h : L_X10_surestOf_5 l e Φ x1 x2 (-1) 0 σ) : hv_CI l (hv_e2 e) 8 m_X10_surestOf [.ref 60, .int x1, .int x2] σ Φ := by
  refine hv_entI (by decide) (Nat.le_of_ble_eq_true rfl) ?_
  show hv_TW l (hv_e2 e) (hv_rm 8) 0 0 m_X10_surestOf hv_no (hv_ZI (hv_e2 e) Φ) 0 [(0, .ref 60), (1, .int x1), (2, .int x2)] [] σ
  refine T_iconst (v := (-1)) dX10_surestOf_0 (by decide) ?_
  refine T_istore_n dX10_surestOf_1 rfl (by decide) rfl ?_
  refine T_iconst (v := 0) dX10_surestOf_2 (by decide) ?_
  refine T_istore dX10_surestOf_3 (by decide) rfl ?_
  exact T_sub [2, 3, 4, 1, 0] rfl h

def L_X10_hands_14 (l : Launch) (e : hv_Ev)  (Φ : hv_S → Prop) (x1 : Int32) (x4 : Int32) (σ : hv_S) : Prop := hv_TW l (hv_e2 e) (hv_rm 8) 0 0 m_X10_hands hv_no (hv_ZV (hv_e2 e) Φ) 14 [(0, .ref 60), (1, .int x1), (4, .int x4)] [] σ
set_option maxHeartbeats 4000000 in
set_option maxRecDepth 100000 in
theorem B_X10_hands_14 {l : Launch} {e : hv_Ev}  (x1 : Int32) (x4 : Int32) {σ : hv_S} {Φ : hv_S → Prop} (h : (vp_in ((8 * x1) + x1) 64 ∧ (vp_in ((8 * x1) + x1) 64 ∧ Φ (hv_ui σ 74 (((8 * x1) + x1).toNatClampNeg) ((σ.1 74 (((8 * x1) + x1).toNatClampNeg)) + x4))))) : L_X10_hands_14 l e Φ x1 x4 σ := by
  show hv_TW l (hv_e2 e) (hv_rm 8) 0 0 m_X10_hands hv_no (hv_ZV (hv_e2 e) Φ) 14 [(0, .ref 60), (1, .int x1), (4, .int x4)] [] σ
  refine T_iload_n dX10_hands_14 rfl 1 rfl ?_
  refine T_goto (tgt := 19) dX10_hands_15 (by decide) ?_
  refine T_istore dX10_hands_19 (by decide) rfl ?_
  refine T_aload_n dX10_hands_21 rfl 1 rfl ?_
  refine T_get (v := .ref 74) dX10_hands_22 fl_X10_115 hp_60 hs_60 rfl rfl ?_
  refine T_bipush (v := 8) dX10_hands_25 (by decide) ?_
  refine T_iload_n dX10_hands_27 rfl 2 rfl ?_
  refine T_imul dX10_hands_28 ?_
  refine T_iload dX10_hands_29 0 rfl ?_
  refine T_iadd dX10_hands_31 ?_
  refine T_dup2 dX10_hands_32 rfl rfl ?_
  refine T_iald dX10_hands_33 hp_74 hs_74 h.1 ?_
  refine T_iload dX10_hands_34 3 rfl ?_
  refine T_iadd dX10_hands_36 ?_
  refine T_iast dX10_hands_37 hp_74 hs_74 h.2.1 ?_
  exact T_vret dX10_hands_38 rfl h.2.2
set_option maxHeartbeats 4000000 in
set_option maxRecDepth 100000 in
theorem B_X10_hands {l : Launch} {e : hv_Ev}  (x1 : Int32) (x2 : Int32) (x3 : Int32) (x4 : Int32) {σ : hv_S} {Φ : hv_S → Prop} (h : ((x2 < 0 → L_X10_hands_14 l e Φ x1 x4 σ) ∧ (¬ x2 < 0 → hv_CI l (hv_e2 e) 7 m_X10_isBar [.ref 60, .int x1, .int x2, .int x3] σ (fun v2 s1 => ((v2 = 0 → (vp_in ((8 * x1) + x2) 64 ∧ (vp_in ((8 * x1) + x2) 64 ∧ Φ (hv_ui s1 74 (((8 * x1) + x2).toNatClampNeg) ((s1.1 74 (((8 * x1) + x2).toNatClampNeg)) + x4))))) ∧ (¬ v2 = 0 → L_X10_hands_14 l e Φ x1 x4 s1)))))) : hv_CV l (hv_e2 e) 8 m_X10_hands [.ref 60, .int x1, .int x2, .int x3, .int x4] σ Φ := by
  refine hv_entV (by decide) (Nat.le_of_ble_eq_true rfl) ?_
  show hv_TW l (hv_e2 e) (hv_rm 8) 0 0 m_X10_hands hv_no (hv_ZV (hv_e2 e) Φ) 0 [(0, .ref 60), (1, .int x1), (2, .int x2), (3, .int x3), (4, .int x4)] [] σ
  refine T_iload_n dX10_hands_0 rfl 2 rfl ?_
  refine T_if_lt (tgt := 14) dX10_hands_1 (by decide) (fun c4 => ?_) (fun c4 => ?_)
  · exact T_sub [0, 1, 4] rfl (h.1 c4)
  · refine T_aload_n dX10_hands_4 rfl 0 rfl ?_
    refine T_iload_n dX10_hands_5 rfl 1 rfl ?_
    refine T_iload_n dX10_hands_6 rfl 2 rfl ?_
    refine T_iload_n dX10_hands_7 rfl 3 rfl ?_
    refine T_VI (As := [.int x1, .int x2, .int x3]) dX10_hands_8 mv_X10_230 hp_60 hs_60 rfl (Nat.le_of_ble_eq_true rfl) (hv_ok1 rfl) rfl (h.2 c4) (fun v2 s1 h3 => ?_)
    refine T_if_eq (tgt := 18) dX10_hands_11 (by decide) (fun c5 => ?_) (fun c5 => ?_)
    · refine T_iload_n dX10_hands_18 rfl 2 rfl ?_
      refine T_istore dX10_hands_19 (by decide) rfl ?_
      refine T_aload_n dX10_hands_21 rfl 1 rfl ?_
      refine T_get (v := .ref 74) dX10_hands_22 fl_X10_115 hp_60 hs_60 rfl rfl ?_
      refine T_bipush (v := 8) dX10_hands_25 (by decide) ?_
      refine T_iload_n dX10_hands_27 rfl 2 rfl ?_
      refine T_imul dX10_hands_28 ?_
      refine T_iload dX10_hands_29 0 rfl ?_
      refine T_iadd dX10_hands_31 ?_
      refine T_dup2 dX10_hands_32 rfl rfl ?_
      refine T_iald dX10_hands_33 hp_74 hs_74 (h3.1 c5).1 ?_
      refine T_iload dX10_hands_34 5 rfl ?_
      refine T_iadd dX10_hands_36 ?_
      refine T_iast dX10_hands_37 hp_74 hs_74 (h3.1 c5).2.1 ?_
      exact T_vret dX10_hands_38 rfl ((h3.1 c5).2.2)
    · exact T_sub [0, 1, 4] rfl (h3.2 c5)

def L_X10_putOrders_2 (l : Launch) (e : hv_Ev)  (Φ : Int32 → hv_S → Prop) (x1 : Int32) (x2 : Int32) (x3 : Int32) (σ : hv_S) : Prop := hv_TW l (hv_e2 e) (hv_rm 8) 0 0 m_X10_putOrders hv_no (hv_ZI (hv_e2 e) Φ) 2 [(0, .ref 60), (1, .int x1), (2, .int x2), (3, .int x3)] [] σ
def L_X10_putOrders_74 (l : Launch) (e : hv_Ev)  (Φ : Int32 → hv_S → Prop) (x1 : Int32) (x2 : Int32) (x3 : Int32) (x4 : Int32) (x5 : Int32) (σ : hv_S) : Prop := hv_TW l (hv_e2 e) (hv_rm 8) 0 0 m_X10_putOrders hv_no (hv_ZI (hv_e2 e) Φ) 74 [(0, .ref 60), (1, .int x1), (2, .int x2), (3, .int x3), (4, .int x4), (5, .int x5)] [] σ
set_option maxHeartbeats 4000000 in
set_option maxRecDepth 100000 in
theorem B_X10_putOrders_74 {l : Launch} {e : hv_Ev}  (x1 : Int32) (x2 : Int32) (x3 : Int32) (x4 : Int32) (x5 : Int32) {σ : hv_S} {Φ : Int32 → hv_S → Prop} (h : (((σ.1 60 0) ≤ x5 → L_X10_putOrders_2 l e Φ x1 x2 (x3 + 1) σ) ∧ (¬ (σ.1 60 0) ≤ x5 → ((x5 ≠ x4 → (vp_in ((8 * x3) + x5) 64 ∧ L_X10_putOrders_74 l e Φ x1 x2 x3 x4 (x5 + 1) (hv_ui σ 74 (((8 * x3) + x5).toNatClampNeg) 0))) ∧ (x5 = x4 → (vp_in ((8 * x3) + x5) 64 ∧ L_X10_putOrders_74 l e Φ x1 x2 x3 x4 (x5 + 1) (hv_ui σ 74 (((8 * x3) + x5).toNatClampNeg) 10))))))) : L_X10_putOrders_74 l e Φ x1 x2 x3 x4 x5 σ := by
  show hv_TW l (hv_e2 e) (hv_rm 8) 0 0 m_X10_putOrders hv_no (hv_ZI (hv_e2 e) Φ) 74 [(0, .ref 60), (1, .int x1), (2, .int x2), (3, .int x3), (4, .int x4), (5, .int x5)] [] σ
  refine T_iload dX10_putOrders_74 5 rfl ?_
  refine T_aload_n dX10_putOrders_76 rfl 0 rfl ?_
  refine T_get (v := .int (σ.1 60 0)) dX10_putOrders_77 fl_X10_7 hp_60 hs_60 rfl rfl ?_
  refine T_icmp_ge (tgt := 114) dX10_putOrders_80 (by decide) (fun c18 => ?_) (fun c18 => ?_)
  · refine T_iinc (v := (x3 + 1)) dX10_putOrders_114 3 rfl rfl (by decide) rfl ?_
    refine T_goto (tgt := 2) dX10_putOrders_117 (by decide) ?_
    exact T_sub [1, 2, 3, 0] rfl (h.1 c18)
  · refine T_aload_n dX10_putOrders_83 rfl 0 rfl ?_
    refine T_get (v := .ref 74) dX10_putOrders_84 fl_X10_115 hp_60 hs_60 rfl rfl ?_
    refine T_bipush (v := 8) dX10_putOrders_87 (by decide) ?_
    refine T_iload_n dX10_putOrders_89 rfl 3 rfl ?_
    refine T_imul dX10_putOrders_90 ?_
    refine T_iload dX10_putOrders_91 5 rfl ?_
    refine T_iadd dX10_putOrders_93 ?_
    refine T_iload dX10_putOrders_94 5 rfl ?_
    refine T_iload dX10_putOrders_96 4 rfl ?_
    refine T_icmp_ne (tgt := 106) dX10_putOrders_98 (by decide) (fun c19 => ?_) (fun c19 => ?_)
    · refine T_iconst (v := 0) dX10_putOrders_106 (by decide) ?_
      refine T_iast dX10_putOrders_107 hp_74 hs_74 ((h.2 c18).1 c19).1 ?_
      refine T_iinc (v := (x5 + 1)) dX10_putOrders_108 5 rfl rfl (by decide) rfl ?_
      refine T_goto (tgt := 74) dX10_putOrders_111 (by decide) ?_
      exact T_sub [1, 2, 3, 4, 5, 0] rfl ((h.2 c18).1 c19).2
    · refine T_bipush (v := 10) dX10_putOrders_101 (by decide) ?_
      refine T_goto (tgt := 107) dX10_putOrders_103 (by decide) ?_
      refine T_iast dX10_putOrders_107 hp_74 hs_74 ((h.2 c18).2 c19).1 ?_
      refine T_iinc (v := (x5 + 1)) dX10_putOrders_108 5 rfl rfl (by decide) rfl ?_
      refine T_goto (tgt := 74) dX10_putOrders_111 (by decide) ?_
      exact T_sub [1, 2, 3, 4, 5, 0] rfl ((h.2 c18).2 c19).2
set_option maxHeartbeats 4000000 in
set_option maxRecDepth 100000 in
theorem B_X10_putOrders_2 {l : Launch} {e : hv_Ev}  (x1 : Int32) (x2 : Int32) (x3 : Int32) {σ : hv_S} {Φ : Int32 → hv_S → Prop} (h : (((σ.1 60 0) ≤ x3 → Φ 1 σ) ∧ (¬ (σ.1 60 0) ≤ x3 → hv_CI l (hv_e2 e) 0 m_X10_isOrder [.ref 60, .int x3, .int x2] σ (fun v2 s1 => ((v2 ≠ 0 → hv_CI l (hv_e2 e) 0 m_X10_has [.ref 60, .int x1, .int x3] s1 (fun v5 s4 => ((v5 = 0 → (vp_in ((8 * x2) + x3) 24 ∧ hv_CI l (hv_e2 e) 7 m_X10_isBar [.ref 60, .int x3, .int (s4.1 63 (((8 * x2) + x3).toNatClampNeg)), .int x2] s4 (fun v8 s7 => ((v8 = 0 → L_X10_putOrders_74 l e Φ x1 x2 x3 (s4.1 63 (((8 * x2) + x3).toNatClampNeg)) 0 s7) ∧ (¬ v8 = 0 → Φ 0 s7))))) ∧ (¬ v5 = 0 → (vp_in ((8 * x2) + x3) 24 ∧ hv_CI l (hv_e2 e) 7 m_X10_isBar [.ref 60, .int x3, .int (s4.1 64 (((8 * x2) + x3).toNatClampNeg)), .int x2] s4 (fun v11 s10 => ((v11 = 0 → L_X10_putOrders_74 l e Φ x1 x2 x3 (s4.1 64 (((8 * x2) + x3).toNatClampNeg)) 0 s10) ∧ (¬ v11 = 0 → Φ 0 s10)))))))) ∧ (v2 = 0 → L_X10_putOrders_2 l e Φ x1 x2 (x3 + 1) s1)))))) : L_X10_putOrders_2 l e Φ x1 x2 x3 σ := by
  show hv_TW l (hv_e2 e) (hv_rm 8) 0 0 m_X10_putOrders hv_no (hv_ZI (hv_e2 e) Φ) 2 [(0, .ref 60), (1, .int x1), (2, .int x2), (3, .int x3)] [] σ
  refine T_iload_n dX10_putOrders_2 rfl 3 rfl ?_
  refine T_aload_n dX10_putOrders_3 rfl 0 rfl ?_
  refine T_get (v := .int (σ.1 60 0)) dX10_putOrders_4 fl_X10_7 hp_60 hs_60 rfl rfl ?_
  refine T_icmp_ge (tgt := 120) dX10_putOrders_7 (by decide) (fun c13 => ?_) (fun c13 => ?_)
  · refine T_iconst (v := 1) dX10_putOrders_120 (by decide) ?_
    exact T_zret dX10_putOrders_121 rfl (by decide) (h.1 c13)
  · refine T_aload_n dX10_putOrders_10 rfl 0 rfl ?_
    refine T_iload_n dX10_putOrders_11 rfl 3 rfl ?_
    refine T_iload_n dX10_putOrders_12 rfl 2 rfl ?_
    refine T_VI (As := [.int x3, .int x2]) dX10_putOrders_13 mv_X10_244 hp_60 hs_60 rfl (Nat.le_of_ble_eq_true rfl) (hv_ok1 rfl) rfl (h.2 c13) (fun v2 s1 h3 => ?_)
    refine T_if_ne (tgt := 22) dX10_putOrders_16 (by decide) (fun c14 => ?_) (fun c14 => ?_)
    · refine T_aload_n dX10_putOrders_22 rfl 0 rfl ?_
      refine T_iload_n dX10_putOrders_23 rfl 1 rfl ?_
      refine T_iload_n dX10_putOrders_24 rfl 3 rfl ?_
      refine T_VI (As := [.int x1, .int x3]) dX10_putOrders_25 mv_X10_241 hp_60 hs_60 rfl (Nat.le_of_ble_eq_true rfl) (hv_ok1 rfl) rfl (h3.1 c14) (fun v5 s4 h6 => ?_)
      refine T_if_eq (tgt := 45) dX10_putOrders_28 (by decide) (fun c15 => ?_) (fun c15 => ?_)
      · refine T_aload_n dX10_putOrders_45 rfl 0 rfl ?_
        refine T_get (v := .ref 63) dX10_putOrders_46 fl_X10_23 hp_60 hs_60 rfl rfl ?_
        refine T_bipush (v := 8) dX10_putOrders_49 (by decide) ?_
        refine T_iload_n dX10_putOrders_51 rfl 2 rfl ?_
        refine T_imul dX10_putOrders_52 ?_
        refine T_iload_n dX10_putOrders_53 rfl 3 rfl ?_
        refine T_iadd dX10_putOrders_54 ?_
        refine T_iald dX10_putOrders_55 hp_63 hs_63 (h6.1 c15).1 ?_
        refine T_istore dX10_putOrders_56 (by decide) rfl ?_
        refine T_aload_n dX10_putOrders_58 rfl 1 rfl ?_
        refine T_iload_n dX10_putOrders_59 rfl 4 rfl ?_
        refine T_iload dX10_putOrders_60 0 rfl ?_
        refine T_iload_n dX10_putOrders_62 rfl 3 rfl ?_
        refine T_VI (As := [.int x3, .int (s4.1 63 (((8 * x2) + x3).toNatClampNeg)), .int x2]) dX10_putOrders_63 mv_X10_230 hp_60 hs_60 rfl (Nat.le_of_ble_eq_true rfl) (hv_ok1 rfl) rfl ((h6.1 c15).2) (fun v8 s7 h9 => ?_)
        refine T_if_eq (tgt := 71) dX10_putOrders_66 (by decide) (fun c16 => ?_) (fun c16 => ?_)
        · refine T_iconst (v := 0) dX10_putOrders_71 (by decide) ?_
          refine T_istore dX10_putOrders_72 (by decide) rfl ?_
          exact T_sub [2, 3, 4, 5, 1, 0] rfl (h9.1 c16)
        · refine T_iconst (v := 0) dX10_putOrders_69 (by decide) ?_
          exact T_zret dX10_putOrders_70 rfl (by decide) (h9.2 c16)
      · refine T_aload_n dX10_putOrders_31 rfl 0 rfl ?_
        refine T_get (v := .ref 64) dX10_putOrders_32 fl_X10_26 hp_60 hs_60 rfl rfl ?_
        refine T_bipush (v := 8) dX10_putOrders_35 (by decide) ?_
        refine T_iload_n dX10_putOrders_37 rfl 2 rfl ?_
        refine T_imul dX10_putOrders_38 ?_
        refine T_iload_n dX10_putOrders_39 rfl 3 rfl ?_
        refine T_iadd dX10_putOrders_40 ?_
        refine T_iald dX10_putOrders_41 hp_64 hs_64 (h6.2 c15).1 ?_
        refine T_goto (tgt := 56) dX10_putOrders_42 (by decide) ?_
        refine T_istore dX10_putOrders_56 (by decide) rfl ?_
        refine T_aload_n dX10_putOrders_58 rfl 1 rfl ?_
        refine T_iload_n dX10_putOrders_59 rfl 4 rfl ?_
        refine T_iload dX10_putOrders_60 0 rfl ?_
        refine T_iload_n dX10_putOrders_62 rfl 3 rfl ?_
        refine T_VI (As := [.int x3, .int (s4.1 64 (((8 * x2) + x3).toNatClampNeg)), .int x2]) dX10_putOrders_63 mv_X10_230 hp_60 hs_60 rfl (Nat.le_of_ble_eq_true rfl) (hv_ok1 rfl) rfl ((h6.2 c15).2) (fun v11 s10 h12 => ?_)
        refine T_if_eq (tgt := 71) dX10_putOrders_66 (by decide) (fun c17 => ?_) (fun c17 => ?_)
        · refine T_iconst (v := 0) dX10_putOrders_71 (by decide) ?_
          refine T_istore dX10_putOrders_72 (by decide) rfl ?_
          exact T_sub [2, 3, 4, 5, 1, 0] rfl (h12.1 c17)
        · refine T_iconst (v := 0) dX10_putOrders_69 (by decide) ?_
          exact T_zret dX10_putOrders_70 rfl (by decide) (h12.2 c17)
    · refine T_goto (tgt := 114) dX10_putOrders_19 (by decide) ?_
      refine T_iinc (v := (x3 + 1)) dX10_putOrders_114 3 rfl rfl (by decide) rfl ?_
      refine T_goto (tgt := 2) dX10_putOrders_117 (by decide) ?_
      exact T_sub [1, 2, 3, 0] rfl (h3.2 c14)
set_option maxHeartbeats 4000000 in
set_option maxRecDepth 100000 in
theorem B_X10_putOrders {l : Launch} {e : hv_Ev}  (x1 : Int32) (x2 : Int32) {σ : hv_S} {Φ : Int32 → hv_S → Prop} (h : L_X10_putOrders_2 l e Φ x1 x2 0 σ) : hv_CI l (hv_e2 e) 8 m_X10_putOrders [.ref 60, .int x1, .int x2] σ Φ := by
  refine hv_entI (by decide) (Nat.le_of_ble_eq_true rfl) ?_
  show hv_TW l (hv_e2 e) (hv_rm 8) 0 0 m_X10_putOrders hv_no (hv_ZI (hv_e2 e) Φ) 0 [(0, .ref 60), (1, .int x1), (2, .int x2)] [] σ
  refine T_iconst (v := 0) dX10_putOrders_0 (by decide) ?_
  refine T_istore_n dX10_putOrders_1 rfl (by decide) rfl ?_
  exact T_sub [1, 2, 3, 0] rfl h

set_option maxHeartbeats 4000000 in
set_option maxRecDepth 100000 in
theorem B_X10_tells {l : Launch} {e : hv_Ev}  (x1 : Int32) (x2 : Int32) (x3 : Int32) {σ : hv_S} {Φ : Int32 → hv_S → Prop} (h : (vp_in ((8 * x2) + x1) 24 ∧ (((σ.1 61 (((8 * x2) + x1).toNatClampNeg)) = 1 → hv_CV l (hv_e2 e) 0 m_X10_body [.ref 60, .int 20] σ (fun s1 => hv_CI l (hv_e2 e) 7 m_X10_plainTells [.ref 60, .int x1, .int x2, .int x3] s1 (fun v5 s4 => Φ (v5 ^^^ 7) s4))) ∧ ((σ.1 61 (((8 * x2) + x1).toNatClampNeg)) = 2 → hv_CI l (hv_e2 e) 7 m_X10_plainTells [.ref 60, .int x1, .int x2, .int x3] σ (fun v8 s7 => Φ v8 s7)) ∧ ((σ.1 61 (((8 * x2) + x1).toNatClampNeg)) = 3 → hv_CI l (hv_e2 e) 7 m_X10_plainTells [.ref 60, .int x1, .int x2, .int x3] σ (fun v11 s10 => Φ v11 s10)) ∧ ((σ.1 61 (((8 * x2) + x1).toNatClampNeg)) = 4 → hv_CV l (hv_e2 e) 0 m_X10_body [.ref 60, .int 50] σ (fun s13 => hv_CI l (hv_e2 e) 7 m_X10_plainTells [.ref 60, .int x1, .int x2, .int (x3 - x1)] s13 (fun v17 s16 => Φ v17 s16))) ∧ ((σ.1 61 (((8 * x2) + x1).toNatClampNeg)) = 5 → hv_CV l (hv_e2 e) 0 m_X10_body [.ref 60, .int 60] σ (fun s19 => hv_CI l (hv_e2 e) 6 m_X10_holds [.ref 60, .int x1, .int x2, .int x3] s19 (fun v23 s22 => hv_CI l (hv_e2 e) 7 m_X10_plainTells [.ref 60, .int x1, .int x2, .int x3] s22 (fun v26 s25 => Φ (v23 - v26) s25)))) ∧ (¬ (σ.1 61 (((8 * x2) + x1).toNatClampNeg)) = 1 → ¬ (σ.1 61 (((8 * x2) + x1).toNatClampNeg)) = 2 → ¬ (σ.1 61 (((8 * x2) + x1).toNatClampNeg)) = 3 → ¬ (σ.1 61 (((8 * x2) + x1).toNatClampNeg)) = 4 → ¬ (σ.1 61 (((8 * x2) + x1).toNatClampNeg)) = 5 → hv_CI l (hv_e2 e) 7 m_X10_plainTells [.ref 60, .int x1, .int x2, .int x3] σ (fun v29 s28 => Φ v29 s28))))) : hv_CI l (hv_e2 e) 8 m_X10_tells [.ref 60, .int x1, .int x2, .int x3] σ Φ := by
  refine hv_entI (by decide) (Nat.le_of_ble_eq_true rfl) ?_
  show hv_TW l (hv_e2 e) (hv_rm 8) 0 0 m_X10_tells hv_no (hv_ZI (hv_e2 e) Φ) 0 [(0, .ref 60), (1, .int x1), (2, .int x2), (3, .int x3)] [] σ
  refine T_aload_n dX10_tells_0 rfl 0 rfl ?_
  refine T_get (v := .ref 61) dX10_tells_1 fl_X10_16 hp_60 hs_60 rfl rfl ?_
  refine T_bipush (v := 8) dX10_tells_4 (by decide) ?_
  refine T_iload_n dX10_tells_6 rfl 2 rfl ?_
  refine T_imul dX10_tells_7 ?_
  refine T_iload_n dX10_tells_8 rfl 1 rfl ?_
  refine T_iadd dX10_tells_9 ?_
  refine T_iald dX10_tells_10 hp_61 hs_61 h.1 ?_
  by_cases c31 : (σ.1 61 (((8 * x2) + x1).toNatClampNeg)) = 1
  · refine T_tableIn (off := 33) (tgt := 44) dX10_tells_11 (by rw [c31]; decide) (by rw [c31]; decide) (by rw [c31]; rfl) (by decide) ?_
    refine T_aload_n dX10_tells_44 rfl 0 rfl ?_
    refine T_bipush (v := 20) dX10_tells_45 (by decide) ?_
    refine T_VV (As := [.int 20]) dX10_tells_47 mv_X10_329 hp_60 hs_60 rfl (Nat.le_of_ble_eq_true rfl) (hv_ok1 rfl) rfl (h.2.1 c31) (fun s1 h3 => ?_)
    refine T_aload_n dX10_tells_50 rfl 0 rfl ?_
    refine T_iload_n dX10_tells_51 rfl 1 rfl ?_
    refine T_iload_n dX10_tells_52 rfl 2 rfl ?_
    refine T_iload_n dX10_tells_53 rfl 3 rfl ?_
    refine T_VI (As := [.int x1, .int x2, .int x3]) dX10_tells_54 mv_X10_351 hp_60 hs_60 rfl (Nat.le_of_ble_eq_true rfl) (hv_ok1 rfl) rfl h3 (fun v5 s4 h6 => ?_)
    refine T_bipush (v := 7) dX10_tells_57 (by decide) ?_
    refine T_ixor dX10_tells_59 ?_
    exact T_iret dX10_tells_60 rfl h6
  · skip
    by_cases c32 : (σ.1 61 (((8 * x2) + x1).toNatClampNeg)) = 2
    · refine T_tableIn (off := 92) (tgt := 103) dX10_tells_11 (by rw [c32]; decide) (by rw [c32]; decide) (by rw [c32]; rfl) (by decide) ?_
      refine T_aload_n dX10_tells_103 rfl 0 rfl ?_
      refine T_iload_n dX10_tells_104 rfl 1 rfl ?_
      refine T_iload_n dX10_tells_105 rfl 2 rfl ?_
      refine T_iload_n dX10_tells_106 rfl 3 rfl ?_
      refine T_VI (As := [.int x1, .int x2, .int x3]) dX10_tells_107 mv_X10_351 hp_60 hs_60 rfl (Nat.le_of_ble_eq_true rfl) (hv_ok1 rfl) rfl (h.2.2.1 c32) (fun v8 s7 h9 => ?_)
      exact T_iret dX10_tells_110 rfl h9
    · skip
      by_cases c33 : (σ.1 61 (((8 * x2) + x1).toNatClampNeg)) = 3
      · refine T_tableIn (off := 92) (tgt := 103) dX10_tells_11 (by rw [c33]; decide) (by rw [c33]; decide) (by rw [c33]; rfl) (by decide) ?_
        refine T_aload_n dX10_tells_103 rfl 0 rfl ?_
        refine T_iload_n dX10_tells_104 rfl 1 rfl ?_
        refine T_iload_n dX10_tells_105 rfl 2 rfl ?_
        refine T_iload_n dX10_tells_106 rfl 3 rfl ?_
        refine T_VI (As := [.int x1, .int x2, .int x3]) dX10_tells_107 mv_X10_351 hp_60 hs_60 rfl (Nat.le_of_ble_eq_true rfl) (hv_ok1 rfl) rfl (h.2.2.2.1 c33) (fun v11 s10 h12 => ?_)
        exact T_iret dX10_tells_110 rfl h12
      · skip
        by_cases c34 : (σ.1 61 (((8 * x2) + x1).toNatClampNeg)) = 4
        · refine T_tableIn (off := 50) (tgt := 61) dX10_tells_11 (by rw [c34]; decide) (by rw [c34]; decide) (by rw [c34]; rfl) (by decide) ?_
          refine T_aload_n dX10_tells_61 rfl 0 rfl ?_
          refine T_bipush (v := 50) dX10_tells_62 (by decide) ?_
          refine T_VV (As := [.int 50]) dX10_tells_64 mv_X10_329 hp_60 hs_60 rfl (Nat.le_of_ble_eq_true rfl) (hv_ok1 rfl) rfl (h.2.2.2.2.1 c34) (fun s13 h15 => ?_)
          refine T_aload_n dX10_tells_67 rfl 0 rfl ?_
          refine T_iload_n dX10_tells_68 rfl 1 rfl ?_
          refine T_iload_n dX10_tells_69 rfl 2 rfl ?_
          refine T_iload_n dX10_tells_70 rfl 3 rfl ?_
          refine T_iload_n dX10_tells_71 rfl 1 rfl ?_
          refine T_isub dX10_tells_72 ?_
          refine T_VI (As := [.int x1, .int x2, .int (x3 - x1)]) dX10_tells_73 mv_X10_351 hp_60 hs_60 rfl (Nat.le_of_ble_eq_true rfl) (hv_ok1 rfl) rfl h15 (fun v17 s16 h18 => ?_)
          exact T_iret dX10_tells_76 rfl h18
        · skip
          by_cases c35 : (σ.1 61 (((8 * x2) + x1).toNatClampNeg)) = 5
          · refine T_tableIn (off := 66) (tgt := 77) dX10_tells_11 (by rw [c35]; decide) (by rw [c35]; decide) (by rw [c35]; rfl) (by decide) ?_
            refine T_aload_n dX10_tells_77 rfl 0 rfl ?_
            refine T_bipush (v := 60) dX10_tells_78 (by decide) ?_
            refine T_VV (As := [.int 60]) dX10_tells_80 mv_X10_329 hp_60 hs_60 rfl (Nat.le_of_ble_eq_true rfl) (hv_ok1 rfl) rfl (h.2.2.2.2.2.1 c35) (fun s19 h21 => ?_)
            refine T_aload_n dX10_tells_83 rfl 0 rfl ?_
            refine T_iload_n dX10_tells_84 rfl 1 rfl ?_
            refine T_iload_n dX10_tells_85 rfl 2 rfl ?_
            refine T_iload_n dX10_tells_86 rfl 3 rfl ?_
            refine T_VI (As := [.int x1, .int x2, .int x3]) dX10_tells_87 mv_X10_348 hp_60 hs_60 rfl (Nat.le_of_ble_eq_true rfl) (hv_ok1 rfl) rfl h21 (fun v23 s22 h24 => ?_)
            refine T_istore dX10_tells_90 (by decide) rfl ?_
            refine T_iload dX10_tells_92 0 rfl ?_
            refine T_aload_n dX10_tells_94 rfl 1 rfl ?_
            refine T_iload_n dX10_tells_95 rfl 2 rfl ?_
            refine T_iload_n dX10_tells_96 rfl 3 rfl ?_
            refine T_iload_n dX10_tells_97 rfl 4 rfl ?_
            refine T_VI (As := [.int x1, .int x2, .int x3]) dX10_tells_98 mv_X10_351 hp_60 hs_60 rfl (Nat.le_of_ble_eq_true rfl) (hv_ok1 rfl) rfl h24 (fun v26 s25 h27 => ?_)
            refine T_isub dX10_tells_101 ?_
            exact T_iret dX10_tells_102 rfl h27
          · skip
            refine T_tableOut (tgt := 103) dX10_tells_11 (by have q0 := lv_neT c31 (a := 1) (by decide); have q1 := lv_neT c32 (a := 2) (by decide); have q2 := lv_neT c33 (a := 3) (by decide); have q3 := lv_neT c34 (a := 4) (by decide); have q4 := lv_neT c35 (a := 5) (by decide); omega) (by decide) ?_
            refine T_aload_n dX10_tells_103 rfl 0 rfl ?_
            refine T_iload_n dX10_tells_104 rfl 1 rfl ?_
            refine T_iload_n dX10_tells_105 rfl 2 rfl ?_
            refine T_iload_n dX10_tells_106 rfl 3 rfl ?_
            refine T_VI (As := [.int x1, .int x2, .int x3]) dX10_tells_107 mv_X10_351 hp_60 hs_60 rfl (Nat.le_of_ble_eq_true rfl) (hv_ok1 rfl) rfl (h.2.2.2.2.2.2 c31 c32 c33 c34 c35) (fun v29 s28 h30 => ?_)
            exact T_iret dX10_tells_110 rfl h30
