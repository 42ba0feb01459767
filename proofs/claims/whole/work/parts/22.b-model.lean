-- printed by wip/gen/p10d.py: the reference, 3
theorem dX10_findRight_0 : decode cX10_findRight 0 = .ok (.aload_n 0, 1) := by decide +kernel
theorem dX10_findRight_1 : decode cX10_findRight 1 = .ok (.invokevirtual 294, 3) := by decide +kernel
theorem dX10_findRight_4 : decode cX10_findRight 4 = .ok (.istore_n 2, 1) := by decide +kernel
theorem dX10_findRight_5 : decode cX10_findRight 5 = .ok (.aload_n 0, 1) := by decide +kernel
theorem dX10_findRight_6 : decode cX10_findRight 6 = .ok (.lconst 1, 1) := by decide +kernel
theorem dX10_findRight_7 : decode cX10_findRight 7 = .ok (.putfield 144, 3) := by decide +kernel
theorem dX10_findRight_10 : decode cX10_findRight 10 = .ok (.aload_n 0, 1) := by decide +kernel
theorem dX10_findRight_11 : decode cX10_findRight 11 = .ok (.iload_n 2, 1) := by decide +kernel
theorem dX10_findRight_12 : decode cX10_findRight 12 = .ok (.invokevirtual 253, 3) := by decide +kernel
theorem dX10_findRight_15 : decode cX10_findRight 15 = .ok (.istore_n 3, 1) := by decide +kernel
theorem dX10_findRight_16 : decode cX10_findRight 16 = .ok (.iload_n 3, 1) := by decide +kernel
theorem dX10_findRight_17 : decode cX10_findRight 17 = .ok (.ifCond .le 21, 3) := by decide +kernel
theorem dX10_findRight_20 : decode cX10_findRight 20 = .ok (.aload_n 0, 1) := by decide +kernel
theorem dX10_findRight_21 : decode cX10_findRight 21 = .ok (.dup, 1) := by decide +kernel
theorem dX10_findRight_22 : decode cX10_findRight 22 = .ok (.getfield 144, 3) := by decide +kernel
theorem dX10_findRight_25 : decode cX10_findRight 25 = .ok (.ldc2_w 270, 3) := by decide +kernel
theorem dX10_findRight_28 : decode cX10_findRight 28 = .ok (.lmul, 1) := by decide +kernel
theorem dX10_findRight_29 : decode cX10_findRight 29 = .ok (.putfield 144, 3) := by decide +kernel
theorem dX10_findRight_32 : decode cX10_findRight 32 = .ok (.iinc 3 (-1), 3) := by decide +kernel
theorem dX10_findRight_35 : decode cX10_findRight 35 = .ok (.goto (-19), 3) := by decide +kernel
theorem dX10_findRight_38 : decode cX10_findRight 38 = .ok (.aload_n 0, 1) := by decide +kernel
theorem dX10_findRight_39 : decode cX10_findRight 39 = .ok (.lconst 0, 1) := by decide +kernel
theorem dX10_findRight_40 : decode cX10_findRight 40 = .ok (.putfield 141, 3) := by decide +kernel
theorem dX10_findRight_43 : decode cX10_findRight 43 = .ok (.iconst 0, 1) := by decide +kernel
theorem dX10_findRight_44 : decode cX10_findRight 44 = .ok (.istore_n 3, 1) := by decide +kernel
theorem dX10_findRight_45 : decode cX10_findRight 45 = .ok (.iload_n 3, 1) := by decide +kernel
theorem dX10_findRight_46 : decode cX10_findRight 46 = .ok (.iconst 1, 1) := by decide +kernel
theorem dX10_findRight_47 : decode cX10_findRight 47 = .ok (.aload_n 0, 1) := by decide +kernel
theorem dX10_findRight_48 : decode cX10_findRight 48 = .ok (.getfield 7, 3) := by decide +kernel
theorem dX10_findRight_51 : decode cX10_findRight 51 = .ok (.ishl, 1) := by decide +kernel
theorem dX10_findRight_52 : decode cX10_findRight 52 = .ok (.if_icmp .ge 117, 3) := by decide +kernel
theorem dX10_findRight_55 : decode cX10_findRight 55 = .ok (.iload_n 3, 1) := by decide +kernel
theorem dX10_findRight_56 : decode cX10_findRight 56 = .ok (.iload_n 2, 1) := by decide +kernel
theorem dX10_findRight_57 : decode cX10_findRight 57 = .ok (.iconst (-1), 1) := by decide +kernel
theorem dX10_findRight_58 : decode cX10_findRight 58 = .ok (.ixor, 1) := by decide +kernel
theorem dX10_findRight_59 : decode cX10_findRight 59 = .ok (.iand, 1) := by decide +kernel
theorem dX10_findRight_60 : decode cX10_findRight 60 = .ok (.ifCond .ne 103, 3) := by decide +kernel
theorem dX10_findRight_63 : decode cX10_findRight 63 = .ok (.aload_n 0, 1) := by decide +kernel
theorem dX10_findRight_64 : decode cX10_findRight 64 = .ok (.iload_n 3, 1) := by decide +kernel
theorem dX10_findRight_65 : decode cX10_findRight 65 = .ok (.invokevirtual 291, 3) := by decide +kernel
theorem dX10_findRight_68 : decode cX10_findRight 68 = .ok (.ifCond .ne 6, 3) := by decide +kernel
theorem dX10_findRight_71 : decode cX10_findRight 71 = .ok (.goto 92, 3) := by decide +kernel
theorem dX10_findRight_74 : decode cX10_findRight 74 = .ok (.lconst 1, 1) := by decide +kernel
theorem dX10_findRight_75 : decode cX10_findRight 75 = .ok (.lstore 4, 2) := by decide +kernel
theorem dX10_findRight_77 : decode cX10_findRight 77 = .ok (.iconst 0, 1) := by decide +kernel
theorem dX10_findRight_78 : decode cX10_findRight 78 = .ok (.istore 6, 2) := by decide +kernel
theorem dX10_findRight_80 : decode cX10_findRight 80 = .ok (.iload 6, 2) := by decide +kernel
theorem dX10_findRight_82 : decode cX10_findRight 82 = .ok (.aload_n 0, 1) := by decide +kernel
theorem dX10_findRight_83 : decode cX10_findRight 83 = .ok (.getfield 7, 3) := by decide +kernel
theorem dX10_findRight_86 : decode cX10_findRight 86 = .ok (.if_icmp .ge 66, 3) := by decide +kernel
theorem dX10_findRight_89 : decode cX10_findRight 89 = .ok (.aload_n 0, 1) := by decide +kernel
theorem dX10_findRight_90 : decode cX10_findRight 90 = .ok (.iload_n 2, 1) := by decide +kernel
theorem dX10_findRight_91 : decode cX10_findRight 91 = .ok (.iload 6, 2) := by decide +kernel
theorem dX10_findRight_93 : decode cX10_findRight 93 = .ok (.invokevirtual 241, 3) := by decide +kernel
theorem dX10_findRight_96 : decode cX10_findRight 96 = .ok (.ifCond .eq 50, 3) := by decide +kernel
theorem dX10_findRight_99 : decode cX10_findRight 99 = .ok (.lload 4, 2) := by decide +kernel
theorem dX10_findRight_101 : decode cX10_findRight 101 = .ok (.aload_n 0, 1) := by decide +kernel
theorem dX10_findRight_102 : decode cX10_findRight 102 = .ok (.iload_n 3, 1) := by decide +kernel
theorem dX10_findRight_103 : decode cX10_findRight 103 = .ok (.iload 6, 2) := by decide +kernel
theorem dX10_findRight_105 : decode cX10_findRight 105 = .ok (.invokevirtual 241, 3) := by decide +kernel
theorem dX10_findRight_108 : decode cX10_findRight 108 = .ok (.ifCond .eq 19, 3) := by decide +kernel
theorem dX10_findRight_111 : decode cX10_findRight 111 = .ok (.aload_n 0, 1) := by decide +kernel
theorem dX10_findRight_112 : decode cX10_findRight 112 = .ok (.getfield 32, 3) := by decide +kernel
theorem dX10_findRight_115 : decode cX10_findRight 115 = .ok (.bipush 8, 2) := by decide +kernel
theorem dX10_findRight_117 : decode cX10_findRight 117 = .ok (.iload_n 1, 1) := by decide +kernel
theorem dX10_findRight_118 : decode cX10_findRight 118 = .ok (.imul, 1) := by decide +kernel
theorem dX10_findRight_119 : decode cX10_findRight 119 = .ok (.iload 6, 2) := by decide +kernel
theorem dX10_findRight_121 : decode cX10_findRight 121 = .ok (.iadd, 1) := by decide +kernel
theorem dX10_findRight_122 : decode cX10_findRight 122 = .ok (.iaload, 1) := by decide +kernel
theorem dX10_findRight_123 : decode cX10_findRight 123 = .ok (.i2l, 1) := by decide +kernel
theorem dX10_findRight_124 : decode cX10_findRight 124 = .ok (.goto 19, 3) := by decide +kernel
theorem dX10_findRight_127 : decode cX10_findRight 127 = .ok (.bipush 10, 2) := by decide +kernel
theorem dX10_findRight_129 : decode cX10_findRight 129 = .ok (.aload_n 0, 1) := by decide +kernel
theorem dX10_findRight_130 : decode cX10_findRight 130 = .ok (.getfield 32, 3) := by decide +kernel
theorem dX10_findRight_133 : decode cX10_findRight 133 = .ok (.bipush 8, 2) := by decide +kernel
theorem dX10_findRight_135 : decode cX10_findRight 135 = .ok (.iload_n 1, 1) := by decide +kernel
theorem dX10_findRight_136 : decode cX10_findRight 136 = .ok (.imul, 1) := by decide +kernel
theorem dX10_findRight_137 : decode cX10_findRight 137 = .ok (.iload 6, 2) := by decide +kernel
theorem dX10_findRight_139 : decode cX10_findRight 139 = .ok (.iadd, 1) := by decide +kernel
theorem dX10_findRight_140 : decode cX10_findRight 140 = .ok (.iaload, 1) := by decide +kernel
theorem dX10_findRight_141 : decode cX10_findRight 141 = .ok (.isub, 1) := by decide +kernel
theorem dX10_findRight_142 : decode cX10_findRight 142 = .ok (.i2l, 1) := by decide +kernel
theorem dX10_findRight_143 : decode cX10_findRight 143 = .ok (.lmul, 1) := by decide +kernel
theorem dX10_findRight_144 : decode cX10_findRight 144 = .ok (.lstore 4, 2) := by decide +kernel
theorem dX10_findRight_146 : decode cX10_findRight 146 = .ok (.iinc 6 1, 3) := by decide +kernel
theorem dX10_findRight_149 : decode cX10_findRight 149 = .ok (.goto (-69), 3) := by decide +kernel
theorem dX10_findRight_152 : decode cX10_findRight 152 = .ok (.aload_n 0, 1) := by decide +kernel
theorem dX10_findRight_153 : decode cX10_findRight 153 = .ok (.dup, 1) := by decide +kernel
theorem dX10_findRight_154 : decode cX10_findRight 154 = .ok (.getfield 141, 3) := by decide +kernel
theorem dX10_findRight_157 : decode cX10_findRight 157 = .ok (.lload 4, 2) := by decide +kernel
theorem dX10_findRight_159 : decode cX10_findRight 159 = .ok (.ladd, 1) := by decide +kernel
theorem dX10_findRight_160 : decode cX10_findRight 160 = .ok (.putfield 141, 3) := by decide +kernel
theorem dX10_findRight_163 : decode cX10_findRight 163 = .ok (.iinc 3 1, 3) := by decide +kernel
theorem dX10_findRight_166 : decode cX10_findRight 166 = .ok (.goto (-121), 3) := by decide +kernel
theorem dX10_findRight_169 : decode cX10_findRight 169 = .ok (.return_, 1) := by decide +kernel
theorem dX10_surest_0 : decode cX10_surest 0 = .ok (.aload_n 0, 1) := by decide +kernel
theorem dX10_surest_1 : decode cX10_surest 1 = .ok (.iload_n 1, 1) := by decide +kernel
theorem dX10_surest_2 : decode cX10_surest 2 = .ok (.invokevirtual 183, 3) := by decide +kernel
theorem dX10_surest_5 : decode cX10_surest 5 = .ok (.ifCond .ne 5, 3) := by decide +kernel
theorem dX10_surest_8 : decode cX10_surest 8 = .ok (.iconst (-1), 1) := by decide +kernel
theorem dX10_surest_9 : decode cX10_surest 9 = .ok (.ireturn, 1) := by decide +kernel
theorem dX10_surest_10 : decode cX10_surest 10 = .ok (.bipush (-5), 2) := by decide +kernel
theorem dX10_surest_12 : decode cX10_surest 12 = .ok (.istore_n 2, 1) := by decide +kernel
theorem dX10_surest_13 : decode cX10_surest 13 = .ok (.iconst 0, 1) := by decide +kernel
theorem dX10_surest_14 : decode cX10_surest 14 = .ok (.istore_n 3, 1) := by decide +kernel
theorem dX10_surest_15 : decode cX10_surest 15 = .ok (.iload_n 3, 1) := by decide +kernel
theorem dX10_surest_16 : decode cX10_surest 16 = .ok (.aload_n 0, 1) := by decide +kernel
theorem dX10_surest_17 : decode cX10_surest 17 = .ok (.getfield 7, 3) := by decide +kernel
theorem dX10_surest_20 : decode cX10_surest 20 = .ok (.if_icmp .ge 40, 3) := by decide +kernel
theorem dX10_surest_23 : decode cX10_surest 23 = .ok (.iload_n 2, 1) := by decide +kernel
theorem dX10_surest_24 : decode cX10_surest 24 = .ok (.ifCond .lt 28, 3) := by decide +kernel
theorem dX10_surest_27 : decode cX10_surest 27 = .ok (.aload_n 0, 1) := by decide +kernel
theorem dX10_surest_28 : decode cX10_surest 28 = .ok (.getfield 32, 3) := by decide +kernel
theorem dX10_surest_31 : decode cX10_surest 31 = .ok (.bipush 8, 2) := by decide +kernel
theorem dX10_surest_33 : decode cX10_surest 33 = .ok (.iload_n 1, 1) := by decide +kernel
theorem dX10_surest_34 : decode cX10_surest 34 = .ok (.imul, 1) := by decide +kernel
theorem dX10_surest_35 : decode cX10_surest 35 = .ok (.iload_n 3, 1) := by decide +kernel
theorem dX10_surest_36 : decode cX10_surest 36 = .ok (.iadd, 1) := by decide +kernel
theorem dX10_surest_37 : decode cX10_surest 37 = .ok (.iaload, 1) := by decide +kernel
theorem dX10_surest_38 : decode cX10_surest 38 = .ok (.aload_n 0, 1) := by decide +kernel
theorem dX10_surest_39 : decode cX10_surest 39 = .ok (.getfield 32, 3) := by decide +kernel
theorem dX10_surest_42 : decode cX10_surest 42 = .ok (.bipush 8, 2) := by decide +kernel
theorem dX10_surest_44 : decode cX10_surest 44 = .ok (.iload_n 1, 1) := by decide +kernel
theorem dX10_surest_45 : decode cX10_surest 45 = .ok (.imul, 1) := by decide +kernel
theorem dX10_surest_46 : decode cX10_surest 46 = .ok (.iload_n 2, 1) := by decide +kernel
theorem dX10_surest_47 : decode cX10_surest 47 = .ok (.iadd, 1) := by decide +kernel
theorem dX10_surest_48 : decode cX10_surest 48 = .ok (.iaload, 1) := by decide +kernel
theorem dX10_surest_49 : decode cX10_surest 49 = .ok (.if_icmp .le 5, 3) := by decide +kernel
theorem dX10_surest_52 : decode cX10_surest 52 = .ok (.iload_n 3, 1) := by decide +kernel
theorem dX10_surest_53 : decode cX10_surest 53 = .ok (.istore_n 2, 1) := by decide +kernel
theorem dX10_surest_54 : decode cX10_surest 54 = .ok (.iinc 3 1, 3) := by decide +kernel
theorem dX10_surest_57 : decode cX10_surest 57 = .ok (.goto (-42), 3) := by decide +kernel
theorem dX10_surest_60 : decode cX10_surest 60 = .ok (.iload_n 2, 1) := by decide +kernel
theorem dX10_surest_61 : decode cX10_surest 61 = .ok (.ireturn, 1) := by decide +kernel
theorem dX10_giveGives_0 : decode cX10_giveGives 0 = .ok (.aload_n 0, 1) := by decide +kernel
theorem dX10_giveGives_1 : decode cX10_giveGives 1 = .ok (.bipush 30, 2) := by decide +kernel
theorem dX10_giveGives_3 : decode cX10_giveGives 3 = .ok (.invokevirtual 329, 3) := by decide +kernel
theorem dX10_giveGives_6 : decode cX10_giveGives 6 = .ok (.aload_n 0, 1) := by decide +kernel
theorem dX10_giveGives_7 : decode cX10_giveGives 7 = .ok (.iload_n 1, 1) := by decide +kernel
theorem dX10_giveGives_8 : decode cX10_giveGives 8 = .ok (.iload_n 2, 1) := by decide +kernel
theorem dX10_giveGives_9 : decode cX10_giveGives 9 = .ok (.iconst 2, 1) := by decide +kernel
theorem dX10_giveGives_10 : decode cX10_giveGives 10 = .ok (.imul, 1) := by decide +kernel
theorem dX10_giveGives_11 : decode cX10_giveGives 11 = .ok (.invokevirtual 332, 3) := by decide +kernel
theorem dX10_giveGives_14 : decode cX10_giveGives 14 = .ok (.ireturn, 1) := by decide +kernel
theorem dX10_taken_0 : decode cX10_taken 0 = .ok (.aload_n 0, 1) := by decide +kernel
theorem dX10_taken_1 : decode cX10_taken 1 = .ok (.iload_n 3, 1) := by decide +kernel
theorem dX10_taken_2 : decode cX10_taken 2 = .ok (.iconst 0, 1) := by decide +kernel
theorem dX10_taken_3 : decode cX10_taken 3 = .ok (.iconst 5, 1) := by decide +kernel
theorem dX10_taken_4 : decode cX10_taken 4 = .ok (.invokevirtual 171, 3) := by decide +kernel
theorem dX10_taken_7 : decode cX10_taken 7 = .ok (.ifCond .ne 6, 3) := by decide +kernel
theorem dX10_taken_10 : decode cX10_taken 10 = .ok (.bipush (-2), 2) := by decide +kernel
theorem dX10_taken_12 : decode cX10_taken 12 = .ok (.ireturn, 1) := by decide +kernel
theorem dX10_taken_13 : decode cX10_taken 13 = .ok (.aload_n 0, 1) := by decide +kernel
theorem dX10_taken_14 : decode cX10_taken 14 = .ok (.iload_n 1, 1) := by decide +kernel
theorem dX10_taken_15 : decode cX10_taken 15 = .ok (.invokevirtual 179, 3) := by decide +kernel
theorem dX10_taken_18 : decode cX10_taken 18 = .ok (.ifCond .eq 11, 3) := by decide +kernel
theorem dX10_taken_21 : decode cX10_taken 21 = .ok (.aload_n 0, 1) := by decide +kernel
theorem dX10_taken_22 : decode cX10_taken 22 = .ok (.iload_n 2, 1) := by decide +kernel
theorem dX10_taken_23 : decode cX10_taken 23 = .ok (.invokevirtual 183, 3) := by decide +kernel
theorem dX10_taken_26 : decode cX10_taken 26 = .ok (.ifCond .ne 6, 3) := by decide +kernel
theorem dX10_taken_29 : decode cX10_taken 29 = .ok (.bipush (-11), 2) := by decide +kernel
theorem dX10_taken_31 : decode cX10_taken 31 = .ok (.ireturn, 1) := by decide +kernel
theorem dX10_taken_32 : decode cX10_taken 32 = .ok (.aload_n 0, 1) := by decide +kernel
theorem dX10_taken_33 : decode cX10_taken 33 = .ok (.getfield 16, 3) := by decide +kernel
theorem dX10_taken_36 : decode cX10_taken 36 = .ok (.bipush 8, 2) := by decide +kernel
theorem dX10_taken_38 : decode cX10_taken 38 = .ok (.iload_n 2, 1) := by decide +kernel
theorem dX10_taken_39 : decode cX10_taken 39 = .ok (.imul, 1) := by decide +kernel
theorem dX10_taken_40 : decode cX10_taken 40 = .ok (.iload_n 1, 1) := by decide +kernel
theorem dX10_taken_41 : decode cX10_taken 41 = .ok (.iadd, 1) := by decide +kernel
theorem dX10_taken_42 : decode cX10_taken 42 = .ok (.iaload, 1) := by decide +kernel
theorem dX10_taken_43 : decode cX10_taken 43 = .ok (.istore 4, 2) := by decide +kernel
theorem dX10_taken_45 : decode cX10_taken 45 = .ok (.iload_n 3, 1) := by decide +kernel
theorem dX10_taken_46 : decode cX10_taken 46 = .ok (.ifCond .eq 20, 3) := by decide +kernel
theorem dX10_taken_49 : decode cX10_taken 49 = .ok (.iload 4, 2) := by decide +kernel
theorem dX10_taken_51 : decode cX10_taken 51 = .ok (.iload_n 3, 1) := by decide +kernel
theorem dX10_taken_52 : decode cX10_taken 52 = .ok (.if_icmp .eq 14, 3) := by decide +kernel
theorem dX10_taken_55 : decode cX10_taken 55 = .ok (.iload_n 3, 1) := by decide +kernel
theorem dX10_taken_56 : decode cX10_taken 56 = .ok (.iconst 2, 1) := by decide +kernel
theorem dX10_taken_57 : decode cX10_taken 57 = .ok (.if_icmp .ne 14, 3) := by decide +kernel
theorem dX10_taken_60 : decode cX10_taken 60 = .ok (.iload 4, 2) := by decide +kernel
theorem dX10_taken_62 : decode cX10_taken 62 = .ok (.iconst 2, 1) := by decide +kernel
theorem dX10_taken_63 : decode cX10_taken 63 = .ok (.if_icmp .le 8, 3) := by decide +kernel
theorem dX10_taken_66 : decode cX10_taken 66 = .ok (.iload 4, 2) := by decide +kernel
theorem dX10_taken_68 : decode cX10_taken 68 = .ok (.goto 5, 3) := by decide +kernel
theorem dX10_taken_71 : decode cX10_taken 71 = .ok (.bipush (-12), 2) := by decide +kernel
theorem dX10_taken_73 : decode cX10_taken 73 = .ok (.ireturn, 1) := by decide +kernel
theorem dX10_tape_0 : decode cX10_tape 0 = .ok (.aload_n 0, 1) := by decide +kernel
theorem dX10_tape_1 : decode cX10_tape 1 = .ok (.iload_n 1, 1) := by decide +kernel
theorem dX10_tape_2 : decode cX10_tape 2 = .ok (.invokevirtual 326, 3) := by decide +kernel
theorem dX10_tape_5 : decode cX10_tape 5 = .ok (.ifCond .ne 5, 3) := by decide +kernel
theorem dX10_tape_8 : decode cX10_tape 8 = .ok (.iconst (-1), 1) := by decide +kernel
theorem dX10_tape_9 : decode cX10_tape 9 = .ok (.ireturn, 1) := by decide +kernel
theorem dX10_tape_10 : decode cX10_tape 10 = .ok (.aload_n 0, 1) := by decide +kernel
theorem dX10_tape_11 : decode cX10_tape 11 = .ok (.iload_n 2, 1) := by decide +kernel
theorem dX10_tape_12 : decode cX10_tape 12 = .ok (.iconst (-1), 1) := by decide +kernel
theorem dX10_tape_13 : decode cX10_tape 13 = .ok (.iconst 4, 1) := by decide +kernel
theorem dX10_tape_14 : decode cX10_tape 14 = .ok (.invokevirtual 171, 3) := by decide +kernel
theorem dX10_tape_17 : decode cX10_tape 17 = .ok (.ifCond .eq 13, 3) := by decide +kernel
theorem dX10_tape_20 : decode cX10_tape 20 = .ok (.iload_n 2, 1) := by decide +kernel
theorem dX10_tape_21 : decode cX10_tape 21 = .ok (.ifCond .lt 12, 3) := by decide +kernel
theorem dX10_tape_24 : decode cX10_tape 24 = .ok (.iload_n 3, 1) := by decide +kernel
theorem dX10_tape_25 : decode cX10_tape 25 = .ok (.bipush 60, 2) := by decide +kernel
theorem dX10_tape_27 : decode cX10_tape 27 = .ok (.if_icmp .le 6, 3) := by decide +kernel
theorem dX10_tape_30 : decode cX10_tape 30 = .ok (.bipush (-2), 2) := by decide +kernel
theorem dX10_tape_32 : decode cX10_tape 32 = .ok (.ireturn, 1) := by decide +kernel
theorem dX10_tape_33 : decode cX10_tape 33 = .ok (.iload_n 2, 1) := by decide +kernel
theorem dX10_tape_34 : decode cX10_tape 34 = .ok (.ifCond .lt 10, 3) := by decide +kernel
theorem dX10_tape_37 : decode cX10_tape 37 = .ok (.iload_n 3, 1) := by decide +kernel
theorem dX10_tape_38 : decode cX10_tape 38 = .ok (.ifCond .ge 6, 3) := by decide +kernel
theorem dX10_tape_41 : decode cX10_tape 41 = .ok (.bipush (-14), 2) := by decide +kernel
theorem dX10_tape_43 : decode cX10_tape 43 = .ok (.ireturn, 1) := by decide +kernel
theorem dX10_tape_44 : decode cX10_tape 44 = .ok (.aload_n 0, 1) := by decide +kernel
theorem dX10_tape_45 : decode cX10_tape 45 = .ok (.getfield 159, 3) := by decide +kernel
theorem dX10_tape_48 : decode cX10_tape 48 = .ok (.iload_n 1, 1) := by decide +kernel
theorem dX10_tape_49 : decode cX10_tape 49 = .ok (.iload_n 2, 1) := by decide +kernel
theorem dX10_tape_50 : decode cX10_tape 50 = .ok (.iastore, 1) := by decide +kernel
theorem dX10_tape_51 : decode cX10_tape 51 = .ok (.aload_n 0, 1) := by decide +kernel
theorem dX10_tape_52 : decode cX10_tape 52 = .ok (.getfield 162, 3) := by decide +kernel
theorem dX10_tape_55 : decode cX10_tape 55 = .ok (.iload_n 1, 1) := by decide +kernel
theorem dX10_tape_56 : decode cX10_tape 56 = .ok (.iload_n 2, 1) := by decide +kernel
theorem dX10_tape_57 : decode cX10_tape 57 = .ok (.ifCond .ge 7, 3) := by decide +kernel
theorem dX10_tape_60 : decode cX10_tape 60 = .ok (.iconst 0, 1) := by decide +kernel
theorem dX10_tape_61 : decode cX10_tape 61 = .ok (.goto 4, 3) := by decide +kernel
theorem dX10_tape_64 : decode cX10_tape 64 = .ok (.iload_n 3, 1) := by decide +kernel
theorem dX10_tape_65 : decode cX10_tape 65 = .ok (.iastore, 1) := by decide +kernel
theorem dX10_tape_66 : decode cX10_tape 66 = .ok (.iconst 0, 1) := by decide +kernel
theorem dX10_tape_67 : decode cX10_tape 67 = .ok (.istore 4, 2) := by decide +kernel
theorem dX10_tape_69 : decode cX10_tape 69 = .ok (.iload 4, 2) := by decide +kernel
theorem dX10_tape_71 : decode cX10_tape 71 = .ok (.bipush 60, 2) := by decide +kernel
theorem dX10_tape_73 : decode cX10_tape 73 = .ok (.if_icmp .ge 22, 3) := by decide +kernel
theorem dX10_tape_76 : decode cX10_tape 76 = .ok (.aload_n 0, 1) := by decide +kernel
theorem dX10_tape_77 : decode cX10_tape 77 = .ok (.getfield 165, 3) := by decide +kernel
theorem dX10_tape_80 : decode cX10_tape 80 = .ok (.bipush 60, 2) := by decide +kernel
theorem dX10_tape_82 : decode cX10_tape 82 = .ok (.iload_n 1, 1) := by decide +kernel
theorem dX10_tape_83 : decode cX10_tape 83 = .ok (.imul, 1) := by decide +kernel
theorem dX10_tape_84 : decode cX10_tape 84 = .ok (.iload 4, 2) := by decide +kernel
theorem dX10_tape_86 : decode cX10_tape 86 = .ok (.iadd, 1) := by decide +kernel
theorem dX10_tape_87 : decode cX10_tape 87 = .ok (.lconst 0, 1) := by decide +kernel
theorem dX10_tape_88 : decode cX10_tape 88 = .ok (.lastore, 1) := by decide +kernel
theorem dX10_tape_89 : decode cX10_tape 89 = .ok (.iinc 4 1, 3) := by decide +kernel
theorem dX10_tape_92 : decode cX10_tape 92 = .ok (.goto (-23), 3) := by decide +kernel
theorem dX10_tape_95 : decode cX10_tape 95 = .ok (.iconst 1, 1) := by decide +kernel
theorem dX10_tape_96 : decode cX10_tape 96 = .ok (.ireturn, 1) := by decide +kernel
theorem dX10_item_0 : decode cX10_item 0 = .ok (.aload_n 0, 1) := by decide +kernel
theorem dX10_item_1 : decode cX10_item 1 = .ok (.iload_n 1, 1) := by decide +kernel
theorem dX10_item_2 : decode cX10_item 2 = .ok (.invokevirtual 326, 3) := by decide +kernel
theorem dX10_item_5 : decode cX10_item 5 = .ok (.ifCond .ne 5, 3) := by decide +kernel
theorem dX10_item_8 : decode cX10_item 8 = .ok (.iconst (-1), 1) := by decide +kernel
theorem dX10_item_9 : decode cX10_item 9 = .ok (.ireturn, 1) := by decide +kernel
theorem dX10_item_10 : decode cX10_item 10 = .ok (.aload_n 0, 1) := by decide +kernel
theorem dX10_item_11 : decode cX10_item 11 = .ok (.getfield 159, 3) := by decide +kernel
theorem dX10_item_14 : decode cX10_item 14 = .ok (.iload_n 1, 1) := by decide +kernel
theorem dX10_item_15 : decode cX10_item 15 = .ok (.iaload, 1) := by decide +kernel
theorem dX10_item_16 : decode cX10_item 16 = .ok (.ifCond .ge 6, 3) := by decide +kernel
theorem dX10_item_19 : decode cX10_item 19 = .ok (.bipush (-11), 2) := by decide +kernel
theorem dX10_item_21 : decode cX10_item 21 = .ok (.ireturn, 1) := by decide +kernel
theorem dX10_item_22 : decode cX10_item 22 = .ok (.aload_n 0, 1) := by decide +kernel
theorem dX10_item_23 : decode cX10_item 23 = .ok (.iload_n 2, 1) := by decide +kernel
theorem dX10_item_24 : decode cX10_item 24 = .ok (.iconst 0, 1) := by decide +kernel
theorem dX10_item_25 : decode cX10_item 25 = .ok (.aload_n 0, 1) := by decide +kernel
theorem dX10_item_26 : decode cX10_item 26 = .ok (.getfield 162, 3) := by decide +kernel
theorem dX10_item_29 : decode cX10_item 29 = .ok (.iload_n 1, 1) := by decide +kernel
theorem dX10_item_30 : decode cX10_item 30 = .ok (.iaload, 1) := by decide +kernel
theorem dX10_item_31 : decode cX10_item 31 = .ok (.iconst 1, 1) := by decide +kernel
theorem dX10_item_32 : decode cX10_item 32 = .ok (.isub, 1) := by decide +kernel
theorem dX10_item_33 : decode cX10_item 33 = .ok (.invokevirtual 171, 3) := by decide +kernel
theorem dX10_item_36 : decode cX10_item 36 = .ok (.ifCond .ne 6, 3) := by decide +kernel
theorem dX10_item_39 : decode cX10_item 39 = .ok (.bipush (-13), 2) := by decide +kernel
theorem dX10_item_41 : decode cX10_item 41 = .ok (.ireturn, 1) := by decide +kernel
theorem dX10_item_42 : decode cX10_item 42 = .ok (.aload_n 0, 1) := by decide +kernel
theorem dX10_item_43 : decode cX10_item 43 = .ok (.getfield 165, 3) := by decide +kernel
theorem dX10_item_46 : decode cX10_item 46 = .ok (.bipush 60, 2) := by decide +kernel
theorem dX10_item_48 : decode cX10_item 48 = .ok (.iload_n 1, 1) := by decide +kernel
theorem dX10_item_49 : decode cX10_item 49 = .ok (.imul, 1) := by decide +kernel
theorem dX10_item_50 : decode cX10_item 50 = .ok (.iload_n 2, 1) := by decide +kernel
theorem dX10_item_51 : decode cX10_item 51 = .ok (.iadd, 1) := by decide +kernel
theorem dX10_item_52 : decode cX10_item 52 = .ok (.aload_n 0, 1) := by decide +kernel
theorem dX10_item_53 : decode cX10_item 53 = .ok (.aload_n 0, 1) := by decide +kernel
theorem dX10_item_54 : decode cX10_item 54 = .ok (.getfield 159, 3) := by decide +kernel
theorem dX10_item_57 : decode cX10_item 57 = .ok (.iload_n 1, 1) := by decide +kernel
theorem dX10_item_58 : decode cX10_item 58 = .ok (.iaload, 1) := by decide +kernel
theorem dX10_item_59 : decode cX10_item 59 = .ok (.lload_n 3, 1) := by decide +kernel
theorem dX10_item_60 : decode cX10_item 60 = .ok (.invokevirtual 357, 3) := by decide +kernel
theorem dX10_item_63 : decode cX10_item 63 = .ok (.lastore, 1) := by decide +kernel
theorem dX10_item_64 : decode cX10_item 64 = .ok (.iconst 1, 1) := by decide +kernel
theorem dX10_item_65 : decode cX10_item 65 = .ok (.ireturn, 1) := by decide +kernel
theorem dX10_read_0 : decode cX10_read 0 = .ok (.aload_n 0, 1) := by decide +kernel
theorem dX10_read_1 : decode cX10_read 1 = .ok (.iload_n 1, 1) := by decide +kernel
theorem dX10_read_2 : decode cX10_read 2 = .ok (.invokevirtual 326, 3) := by decide +kernel
theorem dX10_read_5 : decode cX10_read 5 = .ok (.ifCond .eq 29, 3) := by decide +kernel
theorem dX10_read_8 : decode cX10_read 8 = .ok (.aload_n 0, 1) := by decide +kernel
theorem dX10_read_9 : decode cX10_read 9 = .ok (.getfield 159, 3) := by decide +kernel
theorem dX10_read_12 : decode cX10_read 12 = .ok (.iload_n 1, 1) := by decide +kernel
theorem dX10_read_13 : decode cX10_read 13 = .ok (.iaload, 1) := by decide +kernel
theorem dX10_read_14 : decode cX10_read 14 = .ok (.ifCond .lt 20, 3) := by decide +kernel
theorem dX10_read_17 : decode cX10_read 17 = .ok (.aload_n 0, 1) := by decide +kernel
theorem dX10_read_18 : decode cX10_read 18 = .ok (.iload_n 2, 1) := by decide +kernel
theorem dX10_read_19 : decode cX10_read 19 = .ok (.iconst 0, 1) := by decide +kernel
theorem dX10_read_20 : decode cX10_read 20 = .ok (.aload_n 0, 1) := by decide +kernel
theorem dX10_read_21 : decode cX10_read 21 = .ok (.getfield 162, 3) := by decide +kernel
theorem dX10_read_24 : decode cX10_read 24 = .ok (.iload_n 1, 1) := by decide +kernel
theorem dX10_read_25 : decode cX10_read 25 = .ok (.iaload, 1) := by decide +kernel
theorem dX10_read_26 : decode cX10_read 26 = .ok (.iconst 1, 1) := by decide +kernel
theorem dX10_read_27 : decode cX10_read 27 = .ok (.isub, 1) := by decide +kernel
theorem dX10_read_28 : decode cX10_read 28 = .ok (.invokevirtual 171, 3) := by decide +kernel
theorem dX10_read_31 : decode cX10_read 31 = .ok (.ifCond .ne 9, 3) := by decide +kernel
theorem dX10_read_34 : decode cX10_read 34 = .ok (.ldc2_w 279, 3) := by decide +kernel
theorem dX10_read_37 : decode cX10_read 37 = .ok (.goto 14, 3) := by decide +kernel
theorem dX10_read_40 : decode cX10_read 40 = .ok (.aload_n 0, 1) := by decide +kernel
theorem dX10_read_41 : decode cX10_read 41 = .ok (.getfield 165, 3) := by decide +kernel
theorem dX10_read_44 : decode cX10_read 44 = .ok (.bipush 60, 2) := by decide +kernel
theorem dX10_read_46 : decode cX10_read 46 = .ok (.iload_n 1, 1) := by decide +kernel
theorem dX10_read_47 : decode cX10_read 47 = .ok (.imul, 1) := by decide +kernel
theorem dX10_read_48 : decode cX10_read 48 = .ok (.iload_n 2, 1) := by decide +kernel
theorem dX10_read_49 : decode cX10_read 49 = .ok (.iadd, 1) := by decide +kernel
theorem dX10_read_50 : decode cX10_read 50 = .ok (.laload, 1) := by decide +kernel
theorem dX10_read_51 : decode cX10_read 51 = .ok (.lreturn, 1) := by decide +kernel
theorem dX10_shift_0 : decode cX10_shift 0 = .ok (.aload_n 0, 1) := by decide +kernel
theorem dX10_shift_1 : decode cX10_shift 1 = .ok (.iload_n 1, 1) := by decide +kernel
theorem dX10_shift_2 : decode cX10_shift 2 = .ok (.invokevirtual 326, 3) := by decide +kernel
theorem dX10_shift_5 : decode cX10_shift 5 = .ok (.ifCond .eq 11, 3) := by decide +kernel
theorem dX10_shift_8 : decode cX10_shift 8 = .ok (.aload_n 0, 1) := by decide +kernel
theorem dX10_shift_9 : decode cX10_shift 9 = .ok (.iload_n 3, 1) := by decide +kernel
theorem dX10_shift_10 : decode cX10_shift 10 = .ok (.invokevirtual 326, 3) := by decide +kernel
theorem dX10_shift_13 : decode cX10_shift 13 = .ok (.ifCond .ne 5, 3) := by decide +kernel
theorem dX10_shift_16 : decode cX10_shift 16 = .ok (.iconst (-1), 1) := by decide +kernel
theorem dX10_shift_17 : decode cX10_shift 17 = .ok (.ireturn, 1) := by decide +kernel
theorem dX10_shift_18 : decode cX10_shift 18 = .ok (.aload_n 0, 1) := by decide +kernel
theorem dX10_shift_19 : decode cX10_shift 19 = .ok (.getfield 159, 3) := by decide +kernel
theorem dX10_shift_22 : decode cX10_shift 22 = .ok (.iload_n 1, 1) := by decide +kernel
theorem dX10_shift_23 : decode cX10_shift 23 = .ok (.iaload, 1) := by decide +kernel
theorem dX10_shift_24 : decode cX10_shift 24 = .ok (.ifCond .lt 12, 3) := by decide +kernel
theorem dX10_shift_27 : decode cX10_shift 27 = .ok (.aload_n 0, 1) := by decide +kernel
theorem dX10_shift_28 : decode cX10_shift 28 = .ok (.getfield 159, 3) := by decide +kernel
theorem dX10_shift_31 : decode cX10_shift 31 = .ok (.iload_n 3, 1) := by decide +kernel
theorem dX10_shift_32 : decode cX10_shift 32 = .ok (.iaload, 1) := by decide +kernel
theorem dX10_shift_33 : decode cX10_shift 33 = .ok (.ifCond .ge 6, 3) := by decide +kernel
theorem dX10_shift_36 : decode cX10_shift 36 = .ok (.bipush (-11), 2) := by decide +kernel
theorem dX10_shift_38 : decode cX10_shift 38 = .ok (.ireturn, 1) := by decide +kernel
theorem dX10_shift_39 : decode cX10_shift 39 = .ok (.aload_n 0, 1) := by decide +kernel
theorem dX10_shift_40 : decode cX10_shift 40 = .ok (.getfield 159, 3) := by decide +kernel
theorem dX10_shift_43 : decode cX10_shift 43 = .ok (.iload_n 1, 1) := by decide +kernel
theorem dX10_shift_44 : decode cX10_shift 44 = .ok (.iaload, 1) := by decide +kernel
theorem dX10_shift_45 : decode cX10_shift 45 = .ok (.aload_n 0, 1) := by decide +kernel
theorem dX10_shift_46 : decode cX10_shift 46 = .ok (.getfield 159, 3) := by decide +kernel
theorem dX10_shift_49 : decode cX10_shift 49 = .ok (.iload_n 3, 1) := by decide +kernel
theorem dX10_shift_50 : decode cX10_shift 50 = .ok (.iaload, 1) := by decide +kernel
theorem dX10_shift_51 : decode cX10_shift 51 = .ok (.if_icmp .eq 6, 3) := by decide +kernel
theorem dX10_shift_54 : decode cX10_shift 54 = .ok (.bipush (-12), 2) := by decide +kernel
theorem dX10_shift_56 : decode cX10_shift 56 = .ok (.ireturn, 1) := by decide +kernel
theorem dX10_shift_57 : decode cX10_shift 57 = .ok (.iload 5, 2) := by decide +kernel
theorem dX10_shift_59 : decode cX10_shift 59 = .ok (.ifCond .lt 39, 3) := by decide +kernel
theorem dX10_shift_62 : decode cX10_shift 62 = .ok (.iload_n 2, 1) := by decide +kernel
theorem dX10_shift_63 : decode cX10_shift 63 = .ok (.ifCond .lt 35, 3) := by decide +kernel
theorem dX10_shift_66 : decode cX10_shift 66 = .ok (.iload 4, 2) := by decide +kernel
theorem dX10_shift_68 : decode cX10_shift 68 = .ok (.ifCond .lt 30, 3) := by decide +kernel
theorem dX10_shift_71 : decode cX10_shift 71 = .ok (.iload_n 2, 1) := by decide +kernel
theorem dX10_shift_72 : decode cX10_shift 72 = .ok (.aload_n 0, 1) := by decide +kernel
theorem dX10_shift_73 : decode cX10_shift 73 = .ok (.getfield 162, 3) := by decide +kernel
theorem dX10_shift_76 : decode cX10_shift 76 = .ok (.iload_n 1, 1) := by decide +kernel
theorem dX10_shift_77 : decode cX10_shift 77 = .ok (.iaload, 1) := by decide +kernel
theorem dX10_shift_78 : decode cX10_shift 78 = .ok (.iload 5, 2) := by decide +kernel
theorem dX10_shift_80 : decode cX10_shift 80 = .ok (.isub, 1) := by decide +kernel
theorem dX10_shift_81 : decode cX10_shift 81 = .ok (.if_icmp .gt 17, 3) := by decide +kernel
theorem dX10_shift_84 : decode cX10_shift 84 = .ok (.iload 4, 2) := by decide +kernel
theorem dX10_shift_86 : decode cX10_shift 86 = .ok (.aload_n 0, 1) := by decide +kernel
theorem dX10_shift_87 : decode cX10_shift 87 = .ok (.getfield 162, 3) := by decide +kernel
theorem dX10_shift_90 : decode cX10_shift 90 = .ok (.iload_n 3, 1) := by decide +kernel
theorem dX10_shift_91 : decode cX10_shift 91 = .ok (.iaload, 1) := by decide +kernel
theorem dX10_shift_92 : decode cX10_shift 92 = .ok (.iload 5, 2) := by decide +kernel
theorem dX10_shift_94 : decode cX10_shift 94 = .ok (.isub, 1) := by decide +kernel
theorem dX10_shift_95 : decode cX10_shift 95 = .ok (.if_icmp .le 6, 3) := by decide +kernel
theorem dX10_shift_98 : decode cX10_shift 98 = .ok (.bipush (-13), 2) := by decide +kernel
theorem dX10_shift_100 : decode cX10_shift 100 = .ok (.ireturn, 1) := by decide +kernel
theorem dX10_shift_101 : decode cX10_shift 101 = .ok (.iconst 0, 1) := by decide +kernel
theorem dX10_shift_102 : decode cX10_shift 102 = .ok (.istore 6, 2) := by decide +kernel
theorem dX10_shift_104 : decode cX10_shift 104 = .ok (.iload 6, 2) := by decide +kernel
theorem dX10_shift_106 : decode cX10_shift 106 = .ok (.iload 5, 2) := by decide +kernel
theorem dX10_shift_108 : decode cX10_shift 108 = .ok (.if_icmp .ge 30, 3) := by decide +kernel
theorem dX10_shift_111 : decode cX10_shift 111 = .ok (.aload_n 0, 1) := by decide +kernel
theorem dX10_shift_112 : decode cX10_shift 112 = .ok (.getfield 168, 3) := by decide +kernel
theorem dX10_shift_115 : decode cX10_shift 115 = .ok (.iload 6, 2) := by decide +kernel
theorem dX10_shift_117 : decode cX10_shift 117 = .ok (.aload_n 0, 1) := by decide +kernel
theorem dX10_shift_118 : decode cX10_shift 118 = .ok (.getfield 165, 3) := by decide +kernel
theorem dX10_shift_121 : decode cX10_shift 121 = .ok (.bipush 60, 2) := by decide +kernel
theorem dX10_shift_123 : decode cX10_shift 123 = .ok (.iload_n 1, 1) := by decide +kernel
theorem dX10_shift_124 : decode cX10_shift 124 = .ok (.imul, 1) := by decide +kernel
theorem dX10_shift_125 : decode cX10_shift 125 = .ok (.iload_n 2, 1) := by decide +kernel
theorem dX10_shift_126 : decode cX10_shift 126 = .ok (.iadd, 1) := by decide +kernel
theorem dX10_shift_127 : decode cX10_shift 127 = .ok (.iload 6, 2) := by decide +kernel
theorem dX10_shift_129 : decode cX10_shift 129 = .ok (.iadd, 1) := by decide +kernel
theorem dX10_shift_130 : decode cX10_shift 130 = .ok (.laload, 1) := by decide +kernel
theorem dX10_shift_131 : decode cX10_shift 131 = .ok (.lastore, 1) := by decide +kernel
theorem dX10_shift_132 : decode cX10_shift 132 = .ok (.iinc 6 1, 3) := by decide +kernel
theorem dX10_shift_135 : decode cX10_shift 135 = .ok (.goto (-31), 3) := by decide +kernel
theorem dX10_shift_138 : decode cX10_shift 138 = .ok (.iconst 0, 1) := by decide +kernel
theorem dX10_shift_139 : decode cX10_shift 139 = .ok (.istore 6, 2) := by decide +kernel
theorem dX10_shift_141 : decode cX10_shift 141 = .ok (.iload 6, 2) := by decide +kernel
theorem dX10_shift_143 : decode cX10_shift 143 = .ok (.iload 5, 2) := by decide +kernel
theorem dX10_shift_145 : decode cX10_shift 145 = .ok (.if_icmp .ge 31, 3) := by decide +kernel
theorem dX10_shift_148 : decode cX10_shift 148 = .ok (.aload_n 0, 1) := by decide +kernel
theorem dX10_shift_149 : decode cX10_shift 149 = .ok (.getfield 165, 3) := by decide +kernel
theorem dX10_shift_152 : decode cX10_shift 152 = .ok (.bipush 60, 2) := by decide +kernel
theorem dX10_shift_154 : decode cX10_shift 154 = .ok (.iload_n 3, 1) := by decide +kernel
theorem dX10_shift_155 : decode cX10_shift 155 = .ok (.imul, 1) := by decide +kernel
theorem dX10_shift_156 : decode cX10_shift 156 = .ok (.iload 4, 2) := by decide +kernel
theorem dX10_shift_158 : decode cX10_shift 158 = .ok (.iadd, 1) := by decide +kernel
theorem dX10_shift_159 : decode cX10_shift 159 = .ok (.iload 6, 2) := by decide +kernel
theorem dX10_shift_161 : decode cX10_shift 161 = .ok (.iadd, 1) := by decide +kernel
theorem dX10_shift_162 : decode cX10_shift 162 = .ok (.aload_n 0, 1) := by decide +kernel
theorem dX10_shift_163 : decode cX10_shift 163 = .ok (.getfield 168, 3) := by decide +kernel
theorem dX10_shift_166 : decode cX10_shift 166 = .ok (.iload 6, 2) := by decide +kernel
theorem dX10_shift_168 : decode cX10_shift 168 = .ok (.laload, 1) := by decide +kernel
theorem dX10_shift_169 : decode cX10_shift 169 = .ok (.lastore, 1) := by decide +kernel
theorem dX10_shift_170 : decode cX10_shift 170 = .ok (.iinc 6 1, 3) := by decide +kernel
theorem dX10_shift_173 : decode cX10_shift 173 = .ok (.goto (-32), 3) := by decide +kernel
theorem dX10_shift_176 : decode cX10_shift 176 = .ok (.iload 5, 2) := by decide +kernel
theorem dX10_shift_178 : decode cX10_shift 178 = .ok (.ireturn, 1) := by decide +kernel
theorem dX10_takesTest_0 : decode cX10_takesTest 0 = .ok (.aload_n 0, 1) := by decide +kernel
theorem dX10_takesTest_1 : decode cX10_takesTest 1 = .ok (.invokevirtual 186, 3) := by decide +kernel
theorem dX10_takesTest_4 : decode cX10_takesTest 4 = .ok (.istore_n 1, 1) := by decide +kernel
theorem dX10_takesTest_5 : decode cX10_takesTest 5 = .ok (.iload_n 1, 1) := by decide +kernel
theorem dX10_takesTest_6 : decode cX10_takesTest 6 = .ok (.bipush 97, 2) := by decide +kernel
theorem dX10_takesTest_8 : decode cX10_takesTest 8 = .ok (.if_icmp .ne 7, 3) := by decide +kernel
theorem dX10_takesTest_11 : decode cX10_takesTest 11 = .ok (.iconst 0, 1) := by decide +kernel
theorem dX10_takesTest_12 : decode cX10_takesTest 12 = .ok (.goto 44, 3) := by decide +kernel
theorem dX10_takesTest_15 : decode cX10_takesTest 15 = .ok (.iload_n 1, 1) := by decide +kernel
theorem dX10_takesTest_16 : decode cX10_takesTest 16 = .ok (.bipush 98, 2) := by decide +kernel
theorem dX10_takesTest_18 : decode cX10_takesTest 18 = .ok (.if_icmp .ne 7, 3) := by decide +kernel
theorem dX10_takesTest_21 : decode cX10_takesTest 21 = .ok (.iconst 1, 1) := by decide +kernel
theorem dX10_takesTest_22 : decode cX10_takesTest 22 = .ok (.goto 34, 3) := by decide +kernel
theorem dX10_takesTest_25 : decode cX10_takesTest 25 = .ok (.iload_n 1, 1) := by decide +kernel
theorem dX10_takesTest_26 : decode cX10_takesTest 26 = .ok (.bipush 109, 2) := by decide +kernel
theorem dX10_takesTest_28 : decode cX10_takesTest 28 = .ok (.if_icmp .ne 7, 3) := by decide +kernel
theorem dX10_takesTest_31 : decode cX10_takesTest 31 = .ok (.iconst 2, 1) := by decide +kernel
theorem dX10_takesTest_32 : decode cX10_takesTest 32 = .ok (.goto 24, 3) := by decide +kernel
theorem dX10_takesTest_35 : decode cX10_takesTest 35 = .ok (.iload_n 1, 1) := by decide +kernel
theorem dX10_takesTest_36 : decode cX10_takesTest 36 = .ok (.bipush 115, 2) := by decide +kernel
theorem dX10_takesTest_38 : decode cX10_takesTest 38 = .ok (.if_icmp .ne 7, 3) := by decide +kernel
theorem dX10_takesTest_41 : decode cX10_takesTest 41 = .ok (.iconst 3, 1) := by decide +kernel
theorem dX10_takesTest_42 : decode cX10_takesTest 42 = .ok (.goto 14, 3) := by decide +kernel
theorem dX10_takesTest_45 : decode cX10_takesTest 45 = .ok (.iload_n 1, 1) := by decide +kernel
theorem dX10_takesTest_46 : decode cX10_takesTest 46 = .ok (.bipush 113, 2) := by decide +kernel
theorem dX10_takesTest_48 : decode cX10_takesTest 48 = .ok (.if_icmp .ne 7, 3) := by decide +kernel
theorem dX10_takesTest_51 : decode cX10_takesTest 51 = .ok (.iconst 4, 1) := by decide +kernel
theorem dX10_takesTest_52 : decode cX10_takesTest 52 = .ok (.goto 4, 3) := by decide +kernel
theorem dX10_takesTest_55 : decode cX10_takesTest 55 = .ok (.iconst (-1), 1) := by decide +kernel
theorem dX10_takesTest_56 : decode cX10_takesTest 56 = .ok (.istore_n 2, 1) := by decide +kernel
theorem dX10_takesTest_57 : decode cX10_takesTest 57 = .ok (.iload_n 2, 1) := by decide +kernel
theorem dX10_takesTest_58 : decode cX10_takesTest 58 = .ok (.ifCond .ge 5, 3) := by decide +kernel
theorem dX10_takesTest_61 : decode cX10_takesTest 61 = .ok (.iconst 0, 1) := by decide +kernel
theorem dX10_takesTest_62 : decode cX10_takesTest 62 = .ok (.ireturn, 1) := by decide +kernel
theorem dX10_takesTest_63 : decode cX10_takesTest 63 = .ok (.aload_n 0, 1) := by decide +kernel
theorem dX10_takesTest_64 : decode cX10_takesTest 64 = .ok (.dup, 1) := by decide +kernel
theorem dX10_takesTest_65 : decode cX10_takesTest 65 = .ok (.getfield 60, 3) := by decide +kernel
theorem dX10_takesTest_68 : decode cX10_takesTest 68 = .ok (.iconst 1, 1) := by decide +kernel
theorem dX10_takesTest_69 : decode cX10_takesTest 69 = .ok (.iadd, 1) := by decide +kernel
theorem dX10_takesTest_70 : decode cX10_takesTest 70 = .ok (.putfield 60, 3) := by decide +kernel
theorem dX10_takesTest_73 : decode cX10_takesTest 73 = .ok (.aload_n 0, 1) := by decide +kernel
theorem dX10_takesTest_74 : decode cX10_takesTest 74 = .ok (.invokevirtual 186, 3) := by decide +kernel
theorem dX10_takesTest_77 : decode cX10_takesTest 77 = .ok (.istore_n 3, 1) := by decide +kernel
theorem dX10_takesTest_78 : decode cX10_takesTest 78 = .ok (.aload_n 0, 1) := by decide +kernel
theorem dX10_takesTest_79 : decode cX10_takesTest 79 = .ok (.iload_n 3, 1) := by decide +kernel
theorem dX10_takesTest_80 : decode cX10_takesTest 80 = .ok (.bipush 60, 2) := by decide +kernel
theorem dX10_takesTest_82 : decode cX10_takesTest 82 = .ok (.bipush 62, 2) := by decide +kernel
theorem dX10_takesTest_84 : decode cX10_takesTest 84 = .ok (.invokevirtual 171, 3) := by decide +kernel
theorem dX10_takesTest_87 : decode cX10_takesTest 87 = .ok (.ifCond .ne 5, 3) := by decide +kernel
theorem dX10_takesTest_90 : decode cX10_takesTest 90 = .ok (.iconst 0, 1) := by decide +kernel
theorem dX10_takesTest_91 : decode cX10_takesTest 91 = .ok (.ireturn, 1) := by decide +kernel
theorem dX10_takesTest_92 : decode cX10_takesTest 92 = .ok (.aload_n 0, 1) := by decide +kernel
theorem dX10_takesTest_93 : decode cX10_takesTest 93 = .ok (.dup, 1) := by decide +kernel
theorem dX10_takesTest_94 : decode cX10_takesTest 94 = .ok (.getfield 60, 3) := by decide +kernel
theorem dX10_takesTest_97 : decode cX10_takesTest 97 = .ok (.iconst 1, 1) := by decide +kernel
theorem dX10_takesTest_98 : decode cX10_takesTest 98 = .ok (.iadd, 1) := by decide +kernel
theorem dX10_takesTest_99 : decode cX10_takesTest 99 = .ok (.putfield 60, 3) := by decide +kernel
theorem dX10_takesTest_102 : decode cX10_takesTest 102 = .ok (.aload_n 0, 1) := by decide +kernel
theorem dX10_takesTest_103 : decode cX10_takesTest 103 = .ok (.iconst 0, 1) := by decide +kernel
theorem dX10_takesTest_104 : decode cX10_takesTest 104 = .ok (.invokevirtual 197, 3) := by decide +kernel
theorem dX10_takesTest_107 : decode cX10_takesTest 107 = .ok (.ifCond .ne 5, 3) := by decide +kernel
theorem dX10_takesTest_110 : decode cX10_takesTest 110 = .ok (.iconst 0, 1) := by decide +kernel
theorem dX10_takesTest_111 : decode cX10_takesTest 111 = .ok (.ireturn, 1) := by decide +kernel
theorem dX10_takesTest_112 : decode cX10_takesTest 112 = .ok (.aload_n 0, 1) := by decide +kernel
theorem dX10_takesTest_113 : decode cX10_takesTest 113 = .ok (.iload_n 3, 1) := by decide +kernel
theorem dX10_takesTest_114 : decode cX10_takesTest 114 = .ok (.bipush 60, 2) := by decide +kernel
theorem dX10_takesTest_116 : decode cX10_takesTest 116 = .ok (.if_icmp .ne 24, 3) := by decide +kernel
theorem dX10_takesTest_119 : decode cX10_takesTest 119 = .ok (.aload_n 0, 1) := by decide +kernel
theorem dX10_takesTest_120 : decode cX10_takesTest 120 = .ok (.getfield 51, 3) := by decide +kernel
theorem dX10_takesTest_123 : decode cX10_takesTest 123 = .ok (.iload_n 2, 1) := by decide +kernel
theorem dX10_takesTest_124 : decode cX10_takesTest 124 = .ok (.iaload, 1) := by decide +kernel
theorem dX10_takesTest_125 : decode cX10_takesTest 125 = .ok (.aload_n 0, 1) := by decide +kernel
theorem dX10_takesTest_126 : decode cX10_takesTest 126 = .ok (.getfield 63, 3) := by decide +kernel
theorem dX10_takesTest_129 : decode cX10_takesTest 129 = .ok (.if_icmp .ge 7, 3) := by decide +kernel
theorem dX10_takesTest_132 : decode cX10_takesTest 132 = .ok (.iconst 1, 1) := by decide +kernel
theorem dX10_takesTest_133 : decode cX10_takesTest 133 = .ok (.goto 52, 3) := by decide +kernel
theorem dX10_takesTest_136 : decode cX10_takesTest 136 = .ok (.iconst 0, 1) := by decide +kernel
theorem dX10_takesTest_137 : decode cX10_takesTest 137 = .ok (.goto 48, 3) := by decide +kernel
theorem dX10_takesTest_140 : decode cX10_takesTest 140 = .ok (.iload_n 3, 1) := by decide +kernel
theorem dX10_takesTest_141 : decode cX10_takesTest 141 = .ok (.bipush 61, 2) := by decide +kernel
theorem dX10_takesTest_143 : decode cX10_takesTest 143 = .ok (.if_icmp .ne 24, 3) := by decide +kernel
theorem dX10_takesTest_146 : decode cX10_takesTest 146 = .ok (.aload_n 0, 1) := by decide +kernel
theorem dX10_takesTest_147 : decode cX10_takesTest 147 = .ok (.getfield 51, 3) := by decide +kernel
theorem dX10_takesTest_150 : decode cX10_takesTest 150 = .ok (.iload_n 2, 1) := by decide +kernel
theorem dX10_takesTest_151 : decode cX10_takesTest 151 = .ok (.iaload, 1) := by decide +kernel
theorem dX10_takesTest_152 : decode cX10_takesTest 152 = .ok (.aload_n 0, 1) := by decide +kernel
theorem dX10_takesTest_153 : decode cX10_takesTest 153 = .ok (.getfield 63, 3) := by decide +kernel
theorem dX10_takesTest_156 : decode cX10_takesTest 156 = .ok (.if_icmp .ne 7, 3) := by decide +kernel
theorem dX10_takesTest_159 : decode cX10_takesTest 159 = .ok (.iconst 1, 1) := by decide +kernel
theorem dX10_takesTest_160 : decode cX10_takesTest 160 = .ok (.goto 25, 3) := by decide +kernel
theorem dX10_takesTest_163 : decode cX10_takesTest 163 = .ok (.iconst 0, 1) := by decide +kernel
theorem dX10_takesTest_164 : decode cX10_takesTest 164 = .ok (.goto 21, 3) := by decide +kernel
theorem dX10_takesTest_167 : decode cX10_takesTest 167 = .ok (.aload_n 0, 1) := by decide +kernel
theorem dX10_takesTest_168 : decode cX10_takesTest 168 = .ok (.getfield 51, 3) := by decide +kernel
theorem dX10_takesTest_171 : decode cX10_takesTest 171 = .ok (.iload_n 2, 1) := by decide +kernel
theorem dX10_takesTest_172 : decode cX10_takesTest 172 = .ok (.iaload, 1) := by decide +kernel
theorem dX10_takesTest_173 : decode cX10_takesTest 173 = .ok (.aload_n 0, 1) := by decide +kernel
theorem dX10_takesTest_174 : decode cX10_takesTest 174 = .ok (.getfield 63, 3) := by decide +kernel
theorem dX10_takesTest_177 : decode cX10_takesTest 177 = .ok (.if_icmp .le 7, 3) := by decide +kernel
theorem dX10_takesTest_180 : decode cX10_takesTest 180 = .ok (.iconst 1, 1) := by decide +kernel
theorem dX10_takesTest_181 : decode cX10_takesTest 181 = .ok (.goto 4, 3) := by decide +kernel
theorem dX10_takesTest_184 : decode cX10_takesTest 184 = .ok (.iconst 0, 1) := by decide +kernel
theorem dX10_takesTest_185 : decode cX10_takesTest 185 = .ok (.invokevirtual 201, 3) := by decide +kernel
theorem dX10_takesTest_188 : decode cX10_takesTest 188 = .ok (.iconst 1, 1) := by decide +kernel
theorem dX10_takesTest_189 : decode cX10_takesTest 189 = .ok (.ireturn, 1) := by decide +kernel
theorem dX10_takesNeed_0 : decode cX10_takesNeed 0 = .ok (.aload_n 0, 1) := by decide +kernel
theorem dX10_takesNeed_1 : decode cX10_takesNeed 1 = .ok (.ldc 212, 2) := by decide +kernel
theorem dX10_takesNeed_3 : decode cX10_takesNeed 3 = .ok (.iconst 4, 1) := by decide +kernel
theorem dX10_takesNeed_4 : decode cX10_takesNeed 4 = .ok (.invokevirtual 213, 3) := by decide +kernel
theorem dX10_takesNeed_7 : decode cX10_takesNeed 7 = .ok (.ifCond .eq 11, 3) := by decide +kernel
theorem dX10_takesNeed_10 : decode cX10_takesNeed 10 = .ok (.aload_n 0, 1) := by decide +kernel
theorem dX10_takesNeed_11 : decode cX10_takesNeed 11 = .ok (.iconst 0, 1) := by decide +kernel
theorem dX10_takesNeed_12 : decode cX10_takesNeed 12 = .ok (.invokevirtual 197, 3) := by decide +kernel
theorem dX10_takesNeed_15 : decode cX10_takesNeed 15 = .ok (.ifCond .ne 5, 3) := by decide +kernel
theorem dX10_takesNeed_18 : decode cX10_takesNeed 18 = .ok (.iconst 0, 1) := by decide +kernel
theorem dX10_takesNeed_19 : decode cX10_takesNeed 19 = .ok (.ireturn, 1) := by decide +kernel
theorem dX10_takesNeed_20 : decode cX10_takesNeed 20 = .ok (.aload_n 0, 1) := by decide +kernel
theorem dX10_takesNeed_21 : decode cX10_takesNeed 21 = .ok (.getfield 63, 3) := by decide +kernel
theorem dX10_takesNeed_24 : decode cX10_takesNeed 24 = .ok (.istore_n 1, 1) := by decide +kernel
theorem dX10_takesNeed_25 : decode cX10_takesNeed 25 = .ok (.aload_n 0, 1) := by decide +kernel
theorem dX10_takesNeed_26 : decode cX10_takesNeed 26 = .ok (.bipush 32, 2) := by decide +kernel
theorem dX10_takesNeed_28 : decode cX10_takesNeed 28 = .ok (.invokevirtual 190, 3) := by decide +kernel
theorem dX10_takesNeed_31 : decode cX10_takesNeed 31 = .ok (.ifCond .eq 11, 3) := by decide +kernel
theorem dX10_takesNeed_34 : decode cX10_takesNeed 34 = .ok (.aload_n 0, 1) := by decide +kernel
theorem dX10_takesNeed_35 : decode cX10_takesNeed 35 = .ok (.iconst 1, 1) := by decide +kernel
theorem dX10_takesNeed_36 : decode cX10_takesNeed 36 = .ok (.invokevirtual 197, 3) := by decide +kernel
theorem dX10_takesNeed_39 : decode cX10_takesNeed 39 = .ok (.ifCond .ne 5, 3) := by decide +kernel
theorem dX10_takesNeed_42 : decode cX10_takesNeed 42 = .ok (.iconst 0, 1) := by decide +kernel
theorem dX10_takesNeed_43 : decode cX10_takesNeed 43 = .ok (.ireturn, 1) := by decide +kernel
theorem dX10_takesNeed_44 : decode cX10_takesNeed 44 = .ok (.aload_n 0, 1) := by decide +kernel
theorem dX10_takesNeed_45 : decode cX10_takesNeed 45 = .ok (.iload_n 1, 1) := by decide +kernel
theorem dX10_takesNeed_46 : decode cX10_takesNeed 46 = .ok (.putfield 106, 3) := by decide +kernel
theorem dX10_takesNeed_49 : decode cX10_takesNeed 49 = .ok (.aload_n 0, 1) := by decide +kernel
theorem dX10_takesNeed_50 : decode cX10_takesNeed 50 = .ok (.aload_n 0, 1) := by decide +kernel
theorem dX10_takesNeed_51 : decode cX10_takesNeed 51 = .ok (.getfield 63, 3) := by decide +kernel
theorem dX10_takesNeed_54 : decode cX10_takesNeed 54 = .ok (.putfield 109, 3) := by decide +kernel
theorem dX10_takesNeed_57 : decode cX10_takesNeed 57 = .ok (.iconst 1, 1) := by decide +kernel
theorem dX10_takesNeed_58 : decode cX10_takesNeed 58 = .ok (.ireturn, 1) := by decide +kernel
def L_X10_findRight_16 (l : Launch) (e : hv_Ev)  (Φ : hv_S → Prop) (x1 : Int32) (x2 : Int32) (x3 : Int32) (σ : hv_S) : Prop := hv_TW l (hv_e2 e) (hv_rm 2) 0 0 m_X10_findRight hv_no (hv_ZV (hv_e2 e) Φ) 16 [(0, .ref 60), (1, .int x1), (2, .int x2), (3, .int x3)] [] σ
def L_X10_findRight_45 (l : Launch) (e : hv_Ev)  (Φ : hv_S → Prop) (x1 : Int32) (x2 : Int32) (x3 : Int32) (σ : hv_S) : Prop := hv_TW l (hv_e2 e) (hv_rm 2) 0 0 m_X10_findRight hv_no (hv_ZV (hv_e2 e) Φ) 45 [(0, .ref 60), (1, .int x1), (2, .int x2), (3, .int x3)] [] σ
def L_X10_findRight_80 (l : Launch) (e : hv_Ev)  (Φ : hv_S → Prop) (x1 : Int32) (x2 : Int32) (x3 : Int32) (y4 : Int64) (x6 : Int32) (σ : hv_S) : Prop := hv_TW l (hv_e2 e) (hv_rm 2) 0 0 m_X10_findRight hv_no (hv_ZV (hv_e2 e) Φ) 80 [(0, .ref 60), (1, .int x1), (2, .int x2), (3, .int x3), (4, .long y4), (6, .int x6)] [] σ
set_option maxHeartbeats 4000000 in
set_option maxRecDepth 100000 in
theorem B_X10_findRight_80 {l : Launch} {e : hv_Ev}  (x1 : Int32) (x2 : Int32) (x3 : Int32) (y4 : Int64) (x6 : Int32) {σ : hv_S} {Φ : hv_S → Prop} (h : (((σ.1 60 0) ≤ x6 → L_X10_findRight_45 l e Φ x1 x2 (x3 + 1) (hv_ul σ 60 42 ((σ.2.1 60 42) + y4))) ∧ (¬ (σ.1 60 0) ≤ x6 → hv_CI l (hv_e2 e) 0 m_X10_has [.ref 60, .int x2, .int x6] σ (fun v15 s14 => ((v15 = 0 → L_X10_findRight_80 l e Φ x1 x2 x3 y4 (x6 + 1) s14) ∧ (¬ v15 = 0 → hv_CI l (hv_e2 e) 0 m_X10_has [.ref 60, .int x3, .int x6] s14 (fun v18 s17 => ((v18 = 0 → (vp_in ((8 * x1) + x6) 24 ∧ (∀ z20 : Int64, z20 = (y4 * (10 - (s17.1 66 (((8 * x1) + x6).toNatClampNeg))).toInt64) → L_X10_findRight_80 l e Φ x1 x2 x3 z20 (x6 + 1) s17))) ∧ (¬ v18 = 0 → (vp_in ((8 * x1) + x6) 24 ∧ L_X10_findRight_80 l e Φ x1 x2 x3 (y4 * (s17.1 66 (((8 * x1) + x6).toNatClampNeg)).toInt64) (x6 + 1) s17)))))))))) : L_X10_findRight_80 l e Φ x1 x2 x3 y4 x6 σ := by
  show hv_TW l (hv_e2 e) (hv_rm 2) 0 0 m_X10_findRight hv_no (hv_ZV (hv_e2 e) Φ) 80 [(0, .ref 60), (1, .int x1), (2, .int x2), (3, .int x3), (4, .long y4), (6, .int x6)] [] σ
  refine T_iload dX10_findRight_80 5 rfl ?_
  refine T_aload_n dX10_findRight_82 rfl 0 rfl ?_
  refine T_get (v := .int (σ.1 60 0)) dX10_findRight_83 fl_X10_7 hp_60 hs_60 rfl rfl ?_
  refine T_icmp_ge (tgt := 152) dX10_findRight_86 (by decide) (fun c21 => ?_) (fun c21 => ?_)
  · refine T_aload_n dX10_findRight_152 rfl 0 rfl ?_
    refine T_dup dX10_findRight_153 rfl ?_
    refine T_get (v := .long (σ.2.1 60 42)) dX10_findRight_154 fl_X10_141 hp_60 hs_60 rfl rfl ?_
    refine T_lload dX10_findRight_157 4 rfl ?_
    refine T_ladd dX10_findRight_159 ?_
    refine T_putl dX10_findRight_160 fl_X10_141 pf_X10_42 hp_60 hs_60 rfl ?_
    refine T_iinc (v := (x3 + 1)) dX10_findRight_163 3 rfl rfl (by decide) rfl ?_
    refine T_goto (tgt := 45) dX10_findRight_166 (by decide) ?_
    exact T_sub [1, 2, 3, 0] rfl (h.1 c21)
  · refine T_aload_n dX10_findRight_89 rfl 0 rfl ?_
    refine T_iload_n dX10_findRight_90 rfl 2 rfl ?_
    refine T_iload dX10_findRight_91 5 rfl ?_
    refine T_VI (As := [.int x2, .int x6]) dX10_findRight_93 mv_X10_241 hp_60 hs_60 rfl (Nat.le_of_ble_eq_true rfl) (hv_ok1 rfl) rfl (h.2 c21) (fun v15 s14 h16 => ?_)
    refine T_if_eq (tgt := 146) dX10_findRight_96 (by decide) (fun c22 => ?_) (fun c22 => ?_)
    · refine T_iinc (v := (x6 + 1)) dX10_findRight_146 5 rfl rfl (by decide) rfl ?_
      refine T_goto (tgt := 80) dX10_findRight_149 (by decide) ?_
      exact T_sub [1, 2, 3, 4, 5, 0] rfl (h16.1 c22)
    · refine T_lload dX10_findRight_99 4 rfl ?_
      refine T_aload_n dX10_findRight_101 rfl 0 rfl ?_
      refine T_iload_n dX10_findRight_102 rfl 3 rfl ?_
      refine T_iload dX10_findRight_103 5 rfl ?_
      refine T_VI (As := [.int x3, .int x6]) dX10_findRight_105 mv_X10_241 hp_60 hs_60 rfl (Nat.le_of_ble_eq_true rfl) (hv_ok1 rfl) rfl (h16.2 c22) (fun v18 s17 h19 => ?_)
      refine T_if_eq (tgt := 127) dX10_findRight_108 (by decide) (fun c23 => ?_) (fun c23 => ?_)
      · refine T_bipush (v := 10) dX10_findRight_127 (by decide) ?_
        refine T_aload_n dX10_findRight_129 rfl 0 rfl ?_
        refine T_get (v := .ref 66) dX10_findRight_130 fl_X10_32 hp_60 hs_60 rfl rfl ?_
        refine T_bipush (v := 8) dX10_findRight_133 (by decide) ?_
        refine T_iload_n dX10_findRight_135 rfl 1 rfl ?_
        refine T_imul dX10_findRight_136 ?_
        refine T_iload dX10_findRight_137 5 rfl ?_
        refine T_iadd dX10_findRight_139 ?_
        refine T_iald dX10_findRight_140 hp_66 hs_66 (h19.1 c23).1 ?_
        refine T_isub dX10_findRight_141 ?_
        refine T_i2l dX10_findRight_142 ?_
        refine T_lmul dX10_findRight_143 ?_
        refine T_topl (fun z20 ez20 => ?_)
        refine T_lstore dX10_findRight_144 (by decide) rfl ?_
        refine T_iinc (v := (x6 + 1)) dX10_findRight_146 5 rfl rfl (by decide) rfl ?_
        refine T_goto (tgt := 80) dX10_findRight_149 (by decide) ?_
        exact T_sub [2, 3, 4, 5, 1, 0] rfl ((h19.1 c23).2 z20 ez20)
      · refine T_aload_n dX10_findRight_111 rfl 0 rfl ?_
        refine T_get (v := .ref 66) dX10_findRight_112 fl_X10_32 hp_60 hs_60 rfl rfl ?_
        refine T_bipush (v := 8) dX10_findRight_115 (by decide) ?_
        refine T_iload_n dX10_findRight_117 rfl 1 rfl ?_
        refine T_imul dX10_findRight_118 ?_
        refine T_iload dX10_findRight_119 5 rfl ?_
        refine T_iadd dX10_findRight_121 ?_
        refine T_iald dX10_findRight_122 hp_66 hs_66 (h19.2 c23).1 ?_
        refine T_i2l dX10_findRight_123 ?_
        refine T_goto (tgt := 143) dX10_findRight_124 (by decide) ?_
        refine T_lmul dX10_findRight_143 ?_
        refine T_lstore dX10_findRight_144 (by decide) rfl ?_
        refine T_iinc (v := (x6 + 1)) dX10_findRight_146 5 rfl rfl (by decide) rfl ?_
        refine T_goto (tgt := 80) dX10_findRight_149 (by decide) ?_
        exact T_sub [2, 3, 4, 5, 1, 0] rfl (h19.2 c23).2
set_option maxHeartbeats 4000000 in
set_option maxRecDepth 100000 in
theorem B_X10_findRight_45 {l : Launch} {e : hv_Ev}  (x1 : Int32) (x2 : Int32) (x3 : Int32) {σ : hv_S} {Φ : hv_S → Prop} (h : ((((1 : Int32) <<< ((σ.1 60 0) &&& 31)) ≤ x3 → Φ σ) ∧ (¬ ((1 : Int32) <<< ((σ.1 60 0) &&& 31)) ≤ x3 → (((x3 &&& (x2 ^^^ (-1))) ≠ 0 → L_X10_findRight_45 l e Φ x1 x2 (x3 + 1) σ) ∧ ((x3 &&& (x2 ^^^ (-1))) = 0 → hv_CI l (hv_e2 e) 1 m_X10_decides [.ref 60, .int x3] σ (fun v9 s8 => ((v9 ≠ 0 → L_X10_findRight_80 l e Φ x1 x2 x3 1 0 s8) ∧ (v9 = 0 → L_X10_findRight_45 l e Φ x1 x2 (x3 + 1) s8)))))))) : L_X10_findRight_45 l e Φ x1 x2 x3 σ := by
  show hv_TW l (hv_e2 e) (hv_rm 2) 0 0 m_X10_findRight hv_no (hv_ZV (hv_e2 e) Φ) 45 [(0, .ref 60), (1, .int x1), (2, .int x2), (3, .int x3)] [] σ
  refine T_iload_n dX10_findRight_45 rfl 3 rfl ?_
  refine T_iconst (v := 1) dX10_findRight_46 (by decide) ?_
  refine T_aload_n dX10_findRight_47 rfl 0 rfl ?_
  refine T_get (v := .int (σ.1 60 0)) dX10_findRight_48 fl_X10_7 hp_60 hs_60 rfl rfl ?_
  refine T_ishl dX10_findRight_51 ?_
  refine T_icmp_ge (tgt := 169) dX10_findRight_52 (by decide) (fun c11 => ?_) (fun c11 => ?_)
  · exact T_vret dX10_findRight_169 rfl (h.1 c11)
  · refine T_iload_n dX10_findRight_55 rfl 3 rfl ?_
    refine T_iload_n dX10_findRight_56 rfl 2 rfl ?_
    refine T_iconst (v := (-1)) dX10_findRight_57 (by decide) ?_
    refine T_ixor dX10_findRight_58 ?_
    refine T_iand dX10_findRight_59 ?_
    refine T_if_ne (tgt := 163) dX10_findRight_60 (by decide) (fun c12 => ?_) (fun c12 => ?_)
    · refine T_iinc (v := (x3 + 1)) dX10_findRight_163 3 rfl rfl (by decide) rfl ?_
      refine T_goto (tgt := 45) dX10_findRight_166 (by decide) ?_
      exact T_sub [1, 2, 3, 0] rfl ((h.2 c11).1 c12)
    · refine T_aload_n dX10_findRight_63 rfl 0 rfl ?_
      refine T_iload_n dX10_findRight_64 rfl 3 rfl ?_
      refine T_VI (As := [.int x3]) dX10_findRight_65 mv_X10_291 hp_60 hs_60 rfl (Nat.le_of_ble_eq_true rfl) (hv_ok1 rfl) rfl ((h.2 c11).2 c12) (fun v9 s8 h10 => ?_)
      refine T_if_ne (tgt := 74) dX10_findRight_68 (by decide) (fun c13 => ?_) (fun c13 => ?_)
      · refine T_lconst (v := 1) dX10_findRight_74 (by decide) ?_
        refine T_lstore dX10_findRight_75 (by decide) rfl ?_
        refine T_iconst (v := 0) dX10_findRight_77 (by decide) ?_
        refine T_istore dX10_findRight_78 (by decide) rfl ?_
        exact T_sub [2, 3, 4, 5, 1, 0] rfl (h10.1 c13)
      · refine T_goto (tgt := 163) dX10_findRight_71 (by decide) ?_
        refine T_iinc (v := (x3 + 1)) dX10_findRight_163 3 rfl rfl (by decide) rfl ?_
        refine T_goto (tgt := 45) dX10_findRight_166 (by decide) ?_
        exact T_sub [1, 2, 3, 0] rfl (h10.2 c13)
set_option maxHeartbeats 4000000 in
set_option maxRecDepth 100000 in
theorem B_X10_findRight_16 {l : Launch} {e : hv_Ev}  (x1 : Int32) (x2 : Int32) (x3 : Int32) {σ : hv_S} {Φ : hv_S → Prop} (h : ((x3 ≤ 0 → L_X10_findRight_45 l e Φ x1 x2 0 (hv_ul σ 60 42 0)) ∧ (¬ x3 ≤ 0 → L_X10_findRight_16 l e Φ x1 x2 (x3 + (-1)) (hv_ul σ 60 43 ((σ.2.1 60 43) * 10))))) : L_X10_findRight_16 l e Φ x1 x2 x3 σ := by
  show hv_TW l (hv_e2 e) (hv_rm 2) 0 0 m_X10_findRight hv_no (hv_ZV (hv_e2 e) Φ) 16 [(0, .ref 60), (1, .int x1), (2, .int x2), (3, .int x3)] [] σ
  refine T_iload_n dX10_findRight_16 rfl 3 rfl ?_
  refine T_if_le (tgt := 38) dX10_findRight_17 (by decide) (fun c7 => ?_) (fun c7 => ?_)
  · refine T_aload_n dX10_findRight_38 rfl 0 rfl ?_
    refine T_lconst (v := 0) dX10_findRight_39 (by decide) ?_
    refine T_putl dX10_findRight_40 fl_X10_141 pf_X10_42 hp_60 hs_60 rfl ?_
    refine T_iconst (v := 0) dX10_findRight_43 (by decide) ?_
    refine T_istore_n dX10_findRight_44 rfl (by decide) rfl ?_
    exact T_sub [1, 2, 3, 0] rfl (h.1 c7)
  · refine T_aload_n dX10_findRight_20 rfl 0 rfl ?_
    refine T_dup dX10_findRight_21 rfl ?_
    refine T_get (v := .long (σ.2.1 60 43)) dX10_findRight_22 fl_X10_144 hp_60 hs_60 rfl rfl ?_
    refine T_ldc2 dX10_findRight_25 kl_X10_270 ?_
    refine T_lmul dX10_findRight_28 ?_
    refine T_putl dX10_findRight_29 fl_X10_144 pf_X10_43 hp_60 hs_60 rfl ?_
    refine T_iinc (v := (x3 + (-1))) dX10_findRight_32 3 rfl rfl (by decide) rfl ?_
    refine T_goto (tgt := 16) dX10_findRight_35 (by decide) ?_
    exact T_sub [1, 2, 3, 0] rfl (h.2 c7)
set_option maxHeartbeats 4000000 in
set_option maxRecDepth 100000 in
theorem B_X10_findRight {l : Launch} {e : hv_Ev}  (x1 : Int32) {σ : hv_S} {Φ : hv_S → Prop} (h : hv_CI l (hv_e2 e) 0 m_X10_speaking [.ref 60] σ (fun v2 s1 => hv_CI l (hv_e2 e) 0 m_X10_ones [.ref 60, .int v2] (hv_ul s1 60 43 1) (fun v5 s4 => L_X10_findRight_16 l e Φ x1 v2 v5 s4))) : hv_CV l (hv_e2 e) 2 m_X10_findRight [.ref 60, .int x1] σ Φ := by
  refine hv_entV (by decide) (Nat.le_of_ble_eq_true rfl) ?_
  show hv_TW l (hv_e2 e) (hv_rm 2) 0 0 m_X10_findRight hv_no (hv_ZV (hv_e2 e) Φ) 0 [(0, .ref 60), (1, .int x1)] [] σ
  refine T_aload_n dX10_findRight_0 rfl 0 rfl ?_
  refine T_VI (As := []) dX10_findRight_1 mv_X10_294 hp_60 hs_60 rfl (Nat.le_of_ble_eq_true rfl) (hv_ok1 rfl) rfl h (fun v2 s1 h3 => ?_)
  refine T_istore_n dX10_findRight_4 rfl (by decide) rfl ?_
  refine T_aload_n dX10_findRight_5 rfl 1 rfl ?_
  refine T_lconst (v := 1) dX10_findRight_6 (by decide) ?_
  refine T_putl dX10_findRight_7 fl_X10_144 pf_X10_43 hp_60 hs_60 rfl ?_
  refine T_aload_n dX10_findRight_10 rfl 1 rfl ?_
  refine T_iload_n dX10_findRight_11 rfl 0 rfl ?_
  refine T_VI (As := [.int v2]) dX10_findRight_12 mv_X10_253 hp_60 hs_60 rfl (Nat.le_of_ble_eq_true rfl) (hv_ok1 rfl) rfl h3 (fun v5 s4 h6 => ?_)
  refine T_istore_n dX10_findRight_15 rfl (by decide) rfl ?_
  exact T_sub [2, 3, 1, 0] rfl h6

def L_X10_surest_15 (l : Launch) (e : hv_Ev)  (Φ : Int32 → hv_S → Prop) (x1 : Int32) (x2 : Int32) (x3 : Int32) (σ : hv_S) : Prop := hv_TW l (hv_e2 e) (hv_rm 2) 0 0 m_X10_surest hv_no (hv_ZI (hv_e2 e) Φ) 15 [(0, .ref 60), (1, .int x1), (2, .int x2), (3, .int x3)] [] σ
set_option maxHeartbeats 4000000 in
set_option maxRecDepth 100000 in
theorem B_X10_surest_15 {l : Launch} {e : hv_Ev}  (x1 : Int32) (x2 : Int32) (x3 : Int32) {σ : hv_S} {Φ : Int32 → hv_S → Prop} (h : (((σ.1 60 0) ≤ x3 → Φ x2 σ) ∧ (¬ (σ.1 60 0) ≤ x3 → ((x2 < 0 → L_X10_surest_15 l e Φ x1 x3 (x3 + 1) σ) ∧ (¬ x2 < 0 → (vp_in ((8 * x1) + x3) 24 ∧ (vp_in ((8 * x1) + x2) 24 ∧ (((σ.1 66 (((8 * x1) + x3).toNatClampNeg)) ≤ (σ.1 66 (((8 * x1) + x2).toNatClampNeg)) → L_X10_surest_15 l e Φ x1 x2 (x3 + 1) σ) ∧ (¬ (σ.1 66 (((8 * x1) + x3).toNatClampNeg)) ≤ (σ.1 66 (((8 * x1) + x2).toNatClampNeg)) → L_X10_surest_15 l e Φ x1 x3 (x3 + 1) σ))))))))) : L_X10_surest_15 l e Φ x1 x2 x3 σ := by
  show hv_TW l (hv_e2 e) (hv_rm 2) 0 0 m_X10_surest hv_no (hv_ZI (hv_e2 e) Φ) 15 [(0, .ref 60), (1, .int x1), (2, .int x2), (3, .int x3)] [] σ
  refine T_iload_n dX10_surest_15 rfl 3 rfl ?_
  refine T_aload_n dX10_surest_16 rfl 0 rfl ?_
  refine T_get (v := .int (σ.1 60 0)) dX10_surest_17 fl_X10_7 hp_60 hs_60 rfl rfl ?_
  refine T_icmp_ge (tgt := 60) dX10_surest_20 (by decide) (fun c5 => ?_) (fun c5 => ?_)
  · refine T_iload_n dX10_surest_60 rfl 2 rfl ?_
    exact T_iret dX10_surest_61 rfl (h.1 c5)
  · refine T_iload_n dX10_surest_23 rfl 2 rfl ?_
    refine T_if_lt (tgt := 52) dX10_surest_24 (by decide) (fun c6 => ?_) (fun c6 => ?_)
    · refine T_iload_n dX10_surest_52 rfl 3 rfl ?_
      refine T_istore_n dX10_surest_53 rfl (by decide) rfl ?_
      refine T_iinc (v := (x3 + 1)) dX10_surest_54 3 rfl rfl (by decide) rfl ?_
      refine T_goto (tgt := 15) dX10_surest_57 (by decide) ?_
      exact T_sub [2, 3, 1, 0] rfl ((h.2 c5).1 c6)
    · refine T_aload_n dX10_surest_27 rfl 0 rfl ?_
      refine T_get (v := .ref 66) dX10_surest_28 fl_X10_32 hp_60 hs_60 rfl rfl ?_
      refine T_bipush (v := 8) dX10_surest_31 (by decide) ?_
      refine T_iload_n dX10_surest_33 rfl 1 rfl ?_
      refine T_imul dX10_surest_34 ?_
      refine T_iload_n dX10_surest_35 rfl 3 rfl ?_
      refine T_iadd dX10_surest_36 ?_
      refine T_iald dX10_surest_37 hp_66 hs_66 ((h.2 c5).2 c6).1 ?_
      refine T_aload_n dX10_surest_38 rfl 0 rfl ?_
      refine T_get (v := .ref 66) dX10_surest_39 fl_X10_32 hp_60 hs_60 rfl rfl ?_
      refine T_bipush (v := 8) dX10_surest_42 (by decide) ?_
      refine T_iload_n dX10_surest_44 rfl 1 rfl ?_
      refine T_imul dX10_surest_45 ?_
      refine T_iload_n dX10_surest_46 rfl 2 rfl ?_
      refine T_iadd dX10_surest_47 ?_
      refine T_iald dX10_surest_48 hp_66 hs_66 ((h.2 c5).2 c6).2.1 ?_
      refine T_icmp_le (tgt := 54) dX10_surest_49 (by decide) (fun c7 => ?_) (fun c7 => ?_)
      · refine T_iinc (v := (x3 + 1)) dX10_surest_54 3 rfl rfl (by decide) rfl ?_
        refine T_goto (tgt := 15) dX10_surest_57 (by decide) ?_
        exact T_sub [1, 2, 3, 0] rfl (((h.2 c5).2 c6).2.2.1 c7)
      · refine T_iload_n dX10_surest_52 rfl 3 rfl ?_
        refine T_istore_n dX10_surest_53 rfl (by decide) rfl ?_
        refine T_iinc (v := (x3 + 1)) dX10_surest_54 3 rfl rfl (by decide) rfl ?_
        refine T_goto (tgt := 15) dX10_surest_57 (by decide) ?_
        exact T_sub [2, 3, 1, 0] rfl (((h.2 c5).2 c6).2.2.2 c7)
set_option maxHeartbeats 4000000 in
set_option maxRecDepth 100000 in
theorem B_X10_surest {l : Launch} {e : hv_Ev}  (x1 : Int32) {σ : hv_S} {Φ : Int32 → hv_S → Prop} (h : hv_CI l (hv_e2 e) 1 m_X10_isMatter [.ref 60, .int x1] σ (fun v2 s1 => ((v2 ≠ 0 → L_X10_surest_15 l e Φ x1 (-5) 0 s1) ∧ (v2 = 0 → Φ (-1) s1)))) : hv_CI l (hv_e2 e) 2 m_X10_surest [.ref 60, .int x1] σ Φ := by
  refine hv_entI (by decide) (Nat.le_of_ble_eq_true rfl) ?_
  show hv_TW l (hv_e2 e) (hv_rm 2) 0 0 m_X10_surest hv_no (hv_ZI (hv_e2 e) Φ) 0 [(0, .ref 60), (1, .int x1)] [] σ
  refine T_aload_n dX10_surest_0 rfl 0 rfl ?_
  refine T_iload_n dX10_surest_1 rfl 1 rfl ?_
  refine T_VI (As := [.int x1]) dX10_surest_2 mv_X10_183 hp_60 hs_60 rfl (Nat.le_of_ble_eq_true rfl) (hv_ok1 rfl) rfl h (fun v2 s1 h3 => ?_)
  refine T_if_ne (tgt := 10) dX10_surest_5 (by decide) (fun c4 => ?_) (fun c4 => ?_)
  · refine T_bipush (v := (-5)) dX10_surest_10 (by decide) ?_
    refine T_istore_n dX10_surest_12 rfl (by decide) rfl ?_
    refine T_iconst (v := 0) dX10_surest_13 (by decide) ?_
    refine T_istore_n dX10_surest_14 rfl (by decide) rfl ?_
    exact T_sub [2, 3, 1, 0] rfl (h3.1 c4)
  · refine T_iconst (v := (-1)) dX10_surest_8 (by decide) ?_
    exact T_iret dX10_surest_9 rfl (h3.2 c4)

set_option maxHeartbeats 4000000 in
set_option maxRecDepth 100000 in
theorem B_X10_giveGives {l : Launch} {e : hv_Ev}  (x1 : Int32) (x2 : Int32) {σ : hv_S} {Φ : Int32 → hv_S → Prop} (h : hv_CV l (hv_e2 e) 0 m_X10_body [.ref 60, .int 30] σ (fun s1 => hv_CI l (hv_e2 e) 1 m_X10_plainGives [.ref 60, .int x1, .int (x2 * 2)] s1 (fun v5 s4 => Φ v5 s4))) : hv_CI l (hv_e2 e) 2 m_X10_giveGives [.ref 60, .int x1, .int x2] σ Φ := by
  refine hv_entI (by decide) (Nat.le_of_ble_eq_true rfl) ?_
  show hv_TW l (hv_e2 e) (hv_rm 2) 0 0 m_X10_giveGives hv_no (hv_ZI (hv_e2 e) Φ) 0 [(0, .ref 60), (1, .int x1), (2, .int x2)] [] σ
  refine T_aload_n dX10_giveGives_0 rfl 0 rfl ?_
  refine T_bipush (v := 30) dX10_giveGives_1 (by decide) ?_
  refine T_VV (As := [.int 30]) dX10_giveGives_3 mv_X10_329 hp_60 hs_60 rfl (Nat.le_of_ble_eq_true rfl) (hv_ok1 rfl) rfl h (fun s1 h3 => ?_)
  refine T_aload_n dX10_giveGives_6 rfl 0 rfl ?_
  refine T_iload_n dX10_giveGives_7 rfl 1 rfl ?_
  refine T_iload_n dX10_giveGives_8 rfl 2 rfl ?_
  refine T_iconst (v := 2) dX10_giveGives_9 (by decide) ?_
  refine T_imul dX10_giveGives_10 ?_
  refine T_VI (As := [.int x1, .int (x2 * 2)]) dX10_giveGives_11 mv_X10_332 hp_60 hs_60 rfl (Nat.le_of_ble_eq_true rfl) (hv_ok1 rfl) rfl h3 (fun v5 s4 h6 => ?_)
  exact T_iret dX10_giveGives_14 rfl h6

set_option maxHeartbeats 4000000 in
set_option maxRecDepth 100000 in
theorem B_X10_taken {l : Launch} {e : hv_Ev}  (x1 : Int32) (x2 : Int32) (x3 : Int32) {σ : hv_S} {Φ : Int32 → hv_S → Prop} (h : hv_CI l (hv_e2 e) 0 m_X10_in [.ref 60, .int x3, .int 0, .int 5] σ (fun v2 s1 => ((v2 ≠ 0 → hv_CI l (hv_e2 e) 1 m_X10_isMember [.ref 60, .int x1] s1 (fun v5 s4 => ((v5 = 0 → Φ (-11) s4) ∧ (¬ v5 = 0 → hv_CI l (hv_e2 e) 1 m_X10_isMatter [.ref 60, .int x2] s4 (fun v8 s7 => ((v8 ≠ 0 → (vp_in ((8 * x2) + x1) 24 ∧ ((x3 = 0 → Φ (s7.1 61 (((8 * x2) + x1).toNatClampNeg)) s7) ∧ (¬ x3 = 0 → (((s7.1 61 (((8 * x2) + x1).toNatClampNeg)) = x3 → Φ (s7.1 61 (((8 * x2) + x1).toNatClampNeg)) s7) ∧ (¬ (s7.1 61 (((8 * x2) + x1).toNatClampNeg)) = x3 → ((x3 ≠ 2 → Φ (-12) s7) ∧ (x3 = 2 → (((s7.1 61 (((8 * x2) + x1).toNatClampNeg)) ≤ 2 → Φ (-12) s7) ∧ (¬ (s7.1 61 (((8 * x2) + x1).toNatClampNeg)) ≤ 2 → Φ (s7.1 61 (((8 * x2) + x1).toNatClampNeg)) s7)))))))))) ∧ (v8 = 0 → Φ (-11) s7))))))) ∧ (v2 = 0 → Φ (-2) s1)))) : hv_CI l (hv_e2 e) 2 m_X10_taken [.ref 60, .int x1, .int x2, .int x3] σ Φ := by
  refine hv_entI (by decide) (Nat.le_of_ble_eq_true rfl) ?_
  show hv_TW l (hv_e2 e) (hv_rm 2) 0 0 m_X10_taken hv_no (hv_ZI (hv_e2 e) Φ) 0 [(0, .ref 60), (1, .int x1), (2, .int x2), (3, .int x3)] [] σ
  refine T_aload_n dX10_taken_0 rfl 0 rfl ?_
  refine T_iload_n dX10_taken_1 rfl 3 rfl ?_
  refine T_iconst (v := 0) dX10_taken_2 (by decide) ?_
  refine T_iconst (v := 5) dX10_taken_3 (by decide) ?_
  refine T_VI (As := [.int x3, .int 0, .int 5]) dX10_taken_4 mv_X10_171 hp_60 hs_60 rfl (Nat.le_of_ble_eq_true rfl) (hv_ok1 rfl) rfl h (fun v2 s1 h3 => ?_)
  refine T_if_ne (tgt := 13) dX10_taken_7 (by decide) (fun c10 => ?_) (fun c10 => ?_)
  · refine T_aload_n dX10_taken_13 rfl 0 rfl ?_
    refine T_iload_n dX10_taken_14 rfl 1 rfl ?_
    refine T_VI (As := [.int x1]) dX10_taken_15 mv_X10_179 hp_60 hs_60 rfl (Nat.le_of_ble_eq_true rfl) (hv_ok1 rfl) rfl (h3.1 c10) (fun v5 s4 h6 => ?_)
    refine T_if_eq (tgt := 29) dX10_taken_18 (by decide) (fun c11 => ?_) (fun c11 => ?_)
    · refine T_bipush (v := (-11)) dX10_taken_29 (by decide) ?_
      exact T_iret dX10_taken_31 rfl (h6.1 c11)
    · refine T_aload_n dX10_taken_21 rfl 0 rfl ?_
      refine T_iload_n dX10_taken_22 rfl 2 rfl ?_
      refine T_VI (As := [.int x2]) dX10_taken_23 mv_X10_183 hp_60 hs_60 rfl (Nat.le_of_ble_eq_true rfl) (hv_ok1 rfl) rfl (h6.2 c11) (fun v8 s7 h9 => ?_)
      refine T_if_ne (tgt := 32) dX10_taken_26 (by decide) (fun c12 => ?_) (fun c12 => ?_)
      · refine T_aload_n dX10_taken_32 rfl 0 rfl ?_
        refine T_get (v := .ref 61) dX10_taken_33 fl_X10_16 hp_60 hs_60 rfl rfl ?_
        refine T_bipush (v := 8) dX10_taken_36 (by decide) ?_
        refine T_iload_n dX10_taken_38 rfl 2 rfl ?_
        refine T_imul dX10_taken_39 ?_
        refine T_iload_n dX10_taken_40 rfl 1 rfl ?_
        refine T_iadd dX10_taken_41 ?_
        refine T_iald dX10_taken_42 hp_61 hs_61 (h9.1 c12).1 ?_
        refine T_istore dX10_taken_43 (by decide) rfl ?_
        refine T_iload_n dX10_taken_45 rfl 4 rfl ?_
        refine T_if_eq (tgt := 66) dX10_taken_46 (by decide) (fun c13 => ?_) (fun c13 => ?_)
        · refine T_iload dX10_taken_66 0 rfl ?_
          refine T_goto (tgt := 73) dX10_taken_68 (by decide) ?_
          exact T_iret dX10_taken_73 rfl ((h9.1 c12).2.1 c13)
        · refine T_iload dX10_taken_49 0 rfl ?_
          refine T_iload_n dX10_taken_51 rfl 4 rfl ?_
          refine T_icmp_eq (tgt := 66) dX10_taken_52 (by decide) (fun c14 => ?_) (fun c14 => ?_)
          · refine T_iload dX10_taken_66 0 rfl ?_
            refine T_goto (tgt := 73) dX10_taken_68 (by decide) ?_
            exact T_iret dX10_taken_73 rfl (((h9.1 c12).2.2 c13).1 c14)
          · refine T_iload_n dX10_taken_55 rfl 4 rfl ?_
            refine T_iconst (v := 2) dX10_taken_56 (by decide) ?_
            refine T_icmp_ne (tgt := 71) dX10_taken_57 (by decide) (fun c15 => ?_) (fun c15 => ?_)
            · refine T_bipush (v := (-12)) dX10_taken_71 (by decide) ?_
              exact T_iret dX10_taken_73 rfl ((((h9.1 c12).2.2 c13).2 c14).1 c15)
            · refine T_iload dX10_taken_60 0 rfl ?_
              refine T_iconst (v := 2) dX10_taken_62 (by decide) ?_
              refine T_icmp_le (tgt := 71) dX10_taken_63 (by decide) (fun c16 => ?_) (fun c16 => ?_)
              · refine T_bipush (v := (-12)) dX10_taken_71 (by decide) ?_
                exact T_iret dX10_taken_73 rfl (((((h9.1 c12).2.2 c13).2 c14).2 c15).1 c16)
              · refine T_iload dX10_taken_66 0 rfl ?_
                refine T_goto (tgt := 73) dX10_taken_68 (by decide) ?_
                exact T_iret dX10_taken_73 rfl (((((h9.1 c12).2.2 c13).2 c14).2 c15).2 c16)
      · refine T_bipush (v := (-11)) dX10_taken_29 (by decide) ?_
        exact T_iret dX10_taken_31 rfl (h9.2 c12)
  · refine T_bipush (v := (-2)) dX10_taken_10 (by decide) ?_
    exact T_iret dX10_taken_12 rfl (h3.2 c10)

def L_X10_tape_44 (l : Launch) (e : hv_Ev)  (Φ : Int32 → hv_S → Prop) (x1 : Int32) (x2 : Int32) (x3 : Int32) (σ : hv_S) : Prop := hv_TW l (hv_e2 e) (hv_rm 2) 0 0 m_X10_tape hv_no (hv_ZI (hv_e2 e) Φ) 44 [(0, .ref 60), (1, .int x1), (2, .int x2), (3, .int x3)] [] σ
def L_X10_tape_69 (l : Launch) (e : hv_Ev)  (Φ : Int32 → hv_S → Prop) (x1 : Int32) (x4 : Int32) (σ : hv_S) : Prop := hv_TW l (hv_e2 e) (hv_rm 2) 0 0 m_X10_tape hv_no (hv_ZI (hv_e2 e) Φ) 69 [(0, .ref 60), (1, .int x1), (4, .int x4)] [] σ
set_option maxHeartbeats 4000000 in
set_option maxRecDepth 100000 in
theorem B_X10_tape_69 {l : Launch} {e : hv_Ev}  (x1 : Int32) (x4 : Int32) {σ : hv_S} {Φ : Int32 → hv_S → Prop} (h : ((60 ≤ x4 → Φ 1 σ) ∧ (¬ 60 ≤ x4 → (vp_in ((60 * x1) + x4) 360 ∧ L_X10_tape_69 l e Φ x1 (x4 + 1) (hv_ul σ 82 (((60 * x1) + x4).toNatClampNeg) 0))))) : L_X10_tape_69 l e Φ x1 x4 σ := by
  show hv_TW l (hv_e2 e) (hv_rm 2) 0 0 m_X10_tape hv_no (hv_ZI (hv_e2 e) Φ) 69 [(0, .ref 60), (1, .int x1), (4, .int x4)] [] σ
  refine T_iload dX10_tape_69 2 rfl ?_
  refine T_bipush (v := 60) dX10_tape_71 (by decide) ?_
  refine T_icmp_ge (tgt := 95) dX10_tape_73 (by decide) (fun c16 => ?_) (fun c16 => ?_)
  · refine T_iconst (v := 1) dX10_tape_95 (by decide) ?_
    exact T_iret dX10_tape_96 rfl (h.1 c16)
  · refine T_aload_n dX10_tape_76 rfl 0 rfl ?_
    refine T_get (v := .ref 82) dX10_tape_77 fl_X10_165 hp_60 hs_60 rfl rfl ?_
    refine T_bipush (v := 60) dX10_tape_80 (by decide) ?_
    refine T_iload_n dX10_tape_82 rfl 1 rfl ?_
    refine T_imul dX10_tape_83 ?_
    refine T_iload dX10_tape_84 2 rfl ?_
    refine T_iadd dX10_tape_86 ?_
    refine T_lconst (v := 0) dX10_tape_87 (by decide) ?_
    refine T_last dX10_tape_88 hp_82 hs_82 (h.2 c16).1 ?_
    refine T_iinc (v := (x4 + 1)) dX10_tape_89 2 rfl rfl (by decide) rfl ?_
    refine T_goto (tgt := 69) dX10_tape_92 (by decide) ?_
    exact T_sub [1, 2, 0] rfl (h.2 c16).2
set_option maxHeartbeats 4000000 in
set_option maxRecDepth 100000 in
theorem B_X10_tape_44 {l : Launch} {e : hv_Ev}  (x1 : Int32) (x2 : Int32) (x3 : Int32) {σ : hv_S} {Φ : Int32 → hv_S → Prop} (h : (vp_in x1 6 ∧ ((0 ≤ x2 → (vp_in x1 6 ∧ L_X10_tape_69 l e Φ x1 0 (hv_ui (hv_ui σ 80 x1.toNatClampNeg x2) 81 x1.toNatClampNeg x3))) ∧ (¬ 0 ≤ x2 → (vp_in x1 6 ∧ L_X10_tape_69 l e Φ x1 0 (hv_ui (hv_ui σ 80 x1.toNatClampNeg x2) 81 x1.toNatClampNeg 0)))))) : L_X10_tape_44 l e Φ x1 x2 x3 σ := by
  show hv_TW l (hv_e2 e) (hv_rm 2) 0 0 m_X10_tape hv_no (hv_ZI (hv_e2 e) Φ) 44 [(0, .ref 60), (1, .int x1), (2, .int x2), (3, .int x3)] [] σ
  refine T_aload_n dX10_tape_44 rfl 0 rfl ?_
  refine T_get (v := .ref 80) dX10_tape_45 fl_X10_159 hp_60 hs_60 rfl rfl ?_
  refine T_iload_n dX10_tape_48 rfl 1 rfl ?_
  refine T_iload_n dX10_tape_49 rfl 2 rfl ?_
  refine T_iast dX10_tape_50 hp_80 hs_80 h.1 ?_
  refine T_aload_n dX10_tape_51 rfl 0 rfl ?_
  refine T_get (v := .ref 81) dX10_tape_52 fl_X10_162 hp_60 hs_60 rfl rfl ?_
  refine T_iload_n dX10_tape_55 rfl 1 rfl ?_
  refine T_iload_n dX10_tape_56 rfl 2 rfl ?_
  refine T_if_ge (tgt := 64) dX10_tape_57 (by decide) (fun c15 => ?_) (fun c15 => ?_)
  · refine T_iload_n dX10_tape_64 rfl 3 rfl ?_
    refine T_iast dX10_tape_65 hp_81 hs_81 (h.2.1 c15).1 ?_
    refine T_iconst (v := 0) dX10_tape_66 (by decide) ?_
    refine T_istore dX10_tape_67 (by decide) rfl ?_
    exact T_sub [1, 2, 0] rfl (h.2.1 c15).2
  · refine T_iconst (v := 0) dX10_tape_60 (by decide) ?_
    refine T_goto (tgt := 65) dX10_tape_61 (by decide) ?_
    refine T_iast dX10_tape_65 hp_81 hs_81 (h.2.2 c15).1 ?_
    refine T_iconst (v := 0) dX10_tape_66 (by decide) ?_
    refine T_istore dX10_tape_67 (by decide) rfl ?_
    exact T_sub [1, 2, 0] rfl (h.2.2 c15).2
set_option maxHeartbeats 4000000 in
set_option maxRecDepth 100000 in
theorem B_X10_tape {l : Launch} {e : hv_Ev}  (x1 : Int32) (x2 : Int32) (x3 : Int32) {σ : hv_S} {Φ : Int32 → hv_S → Prop} (h : hv_CI l (hv_e2 e) 1 m_X10_isTape [.ref 60, .int x1] σ (fun v2 s1 => ((v2 ≠ 0 → hv_CI l (hv_e2 e) 0 m_X10_in [.ref 60, .int x2, .int (-1), .int 4] s1 (fun v5 s4 => ((v5 = 0 → Φ (-2) s4) ∧ (¬ v5 = 0 → ((x2 < 0 → ((x2 < 0 → L_X10_tape_44 l e Φ x1 x2 x3 s4) ∧ (¬ x2 < 0 → ((0 ≤ x3 → L_X10_tape_44 l e Φ x1 x2 x3 s4) ∧ (¬ 0 ≤ x3 → Φ (-14) s4))))) ∧ (¬ x2 < 0 → ((x3 ≤ 60 → ((x2 < 0 → L_X10_tape_44 l e Φ x1 x2 x3 s4) ∧ (¬ x2 < 0 → ((0 ≤ x3 → L_X10_tape_44 l e Φ x1 x2 x3 s4) ∧ (¬ 0 ≤ x3 → Φ (-14) s4))))) ∧ (¬ x3 ≤ 60 → Φ (-2) s4)))))))) ∧ (v2 = 0 → Φ (-1) s1)))) : hv_CI l (hv_e2 e) 2 m_X10_tape [.ref 60, .int x1, .int x2, .int x3] σ Φ := by
  refine hv_entI (by decide) (Nat.le_of_ble_eq_true rfl) ?_
  show hv_TW l (hv_e2 e) (hv_rm 2) 0 0 m_X10_tape hv_no (hv_ZI (hv_e2 e) Φ) 0 [(0, .ref 60), (1, .int x1), (2, .int x2), (3, .int x3)] [] σ
  refine T_aload_n dX10_tape_0 rfl 0 rfl ?_
  refine T_iload_n dX10_tape_1 rfl 1 rfl ?_
  refine T_VI (As := [.int x1]) dX10_tape_2 mv_X10_326 hp_60 hs_60 rfl (Nat.le_of_ble_eq_true rfl) (hv_ok1 rfl) rfl h (fun v2 s1 h3 => ?_)
  refine T_if_ne (tgt := 10) dX10_tape_5 (by decide) (fun c7 => ?_) (fun c7 => ?_)
  · refine T_aload_n dX10_tape_10 rfl 0 rfl ?_
    refine T_iload_n dX10_tape_11 rfl 2 rfl ?_
    refine T_iconst (v := (-1)) dX10_tape_12 (by decide) ?_
    refine T_iconst (v := 4) dX10_tape_13 (by decide) ?_
    refine T_VI (As := [.int x2, .int (-1), .int 4]) dX10_tape_14 mv_X10_171 hp_60 hs_60 rfl (Nat.le_of_ble_eq_true rfl) (hv_ok1 rfl) rfl (h3.1 c7) (fun v5 s4 h6 => ?_)
    refine T_if_eq (tgt := 30) dX10_tape_17 (by decide) (fun c8 => ?_) (fun c8 => ?_)
    · refine T_bipush (v := (-2)) dX10_tape_30 (by decide) ?_
      exact T_iret dX10_tape_32 rfl (h6.1 c8)
    · refine T_iload_n dX10_tape_20 rfl 2 rfl ?_
      refine T_if_lt (tgt := 33) dX10_tape_21 (by decide) (fun c9 => ?_) (fun c9 => ?_)
      · refine T_iload_n dX10_tape_33 rfl 2 rfl ?_
        refine T_if_lt (tgt := 44) dX10_tape_34 (by decide) (fun c10 => ?_) (fun c10 => ?_)
        · exact T_sub [0, 1, 2, 3] rfl (((h6.2 c8).1 c9).1 c10)
        · refine T_iload_n dX10_tape_37 rfl 3 rfl ?_
          refine T_if_ge (tgt := 44) dX10_tape_38 (by decide) (fun c11 => ?_) (fun c11 => ?_)
          · exact T_sub [0, 1, 2, 3] rfl ((((h6.2 c8).1 c9).2 c10).1 c11)
          · refine T_bipush (v := (-14)) dX10_tape_41 (by decide) ?_
            exact T_iret dX10_tape_43 rfl ((((h6.2 c8).1 c9).2 c10).2 c11)
      · refine T_iload_n dX10_tape_24 rfl 3 rfl ?_
        refine T_bipush (v := 60) dX10_tape_25 (by decide) ?_
        refine T_icmp_le (tgt := 33) dX10_tape_27 (by decide) (fun c12 => ?_) (fun c12 => ?_)
        · refine T_iload_n dX10_tape_33 rfl 2 rfl ?_
          refine T_if_lt (tgt := 44) dX10_tape_34 (by decide) (fun c13 => ?_) (fun c13 => ?_)
          · exact T_sub [0, 1, 2, 3] rfl ((((h6.2 c8).2 c9).1 c12).1 c13)
          · refine T_iload_n dX10_tape_37 rfl 3 rfl ?_
            refine T_if_ge (tgt := 44) dX10_tape_38 (by decide) (fun c14 => ?_) (fun c14 => ?_)
            · exact T_sub [0, 1, 2, 3] rfl (((((h6.2 c8).2 c9).1 c12).2 c13).1 c14)
            · refine T_bipush (v := (-14)) dX10_tape_41 (by decide) ?_
              exact T_iret dX10_tape_43 rfl (((((h6.2 c8).2 c9).1 c12).2 c13).2 c14)
        · refine T_bipush (v := (-2)) dX10_tape_30 (by decide) ?_
          exact T_iret dX10_tape_32 rfl (((h6.2 c8).2 c9).2 c12)
  · refine T_iconst (v := (-1)) dX10_tape_8 (by decide) ?_
    exact T_iret dX10_tape_9 rfl (h3.2 c7)

set_option maxHeartbeats 4000000 in
set_option maxRecDepth 100000 in
theorem B_X10_item {l : Launch} {e : hv_Ev}  (x1 : Int32) (x2 : Int32) (y3 : Int64) {σ : hv_S} {Φ : Int32 → hv_S → Prop} (h : hv_CI l (hv_e2 e) 1 m_X10_isTape [.ref 60, .int x1] σ (fun v2 s1 => ((v2 ≠ 0 → (vp_in x1 6 ∧ ((0 ≤ (s1.1 80 x1.toNatClampNeg) → (vp_in x1 6 ∧ hv_CI l (hv_e2 e) 0 m_X10_in [.ref 60, .int x2, .int 0, .int ((s1.1 81 x1.toNatClampNeg) - 1)] s1 (fun v5 s4 => ((v5 ≠ 0 → (vp_in x1 6 ∧ hv_CL l (hv_e2 e) 0 m_X10_narrow [.ref 60, .int (s4.1 80 x1.toNatClampNeg), .long y3] s4 (fun v8 s7 => (vp_in ((60 * x1) + x2) 360 ∧ Φ 1 (hv_ul s7 82 (((60 * x1) + x2).toNatClampNeg) v8))))) ∧ (v5 = 0 → Φ (-13) s4))))) ∧ (¬ 0 ≤ (s1.1 80 x1.toNatClampNeg) → Φ (-11) s1)))) ∧ (v2 = 0 → Φ (-1) s1)))) : hv_CI l (hv_e2 e) 2 m_X10_item [.ref 60, .int x1, .int x2, .long y3] σ Φ := by
  refine hv_entI (by decide) (Nat.le_of_ble_eq_true rfl) ?_
  show hv_TW l (hv_e2 e) (hv_rm 2) 0 0 m_X10_item hv_no (hv_ZI (hv_e2 e) Φ) 0 [(0, .ref 60), (1, .int x1), (2, .int x2), (3, .long y3)] [] σ
  refine T_aload_n dX10_item_0 rfl 0 rfl ?_
  refine T_iload_n dX10_item_1 rfl 1 rfl ?_
  refine T_VI (As := [.int x1]) dX10_item_2 mv_X10_326 hp_60 hs_60 rfl (Nat.le_of_ble_eq_true rfl) (hv_ok1 rfl) rfl h (fun v2 s1 h3 => ?_)
  refine T_if_ne (tgt := 10) dX10_item_5 (by decide) (fun c10 => ?_) (fun c10 => ?_)
  · refine T_aload_n dX10_item_10 rfl 0 rfl ?_
    refine T_get (v := .ref 80) dX10_item_11 fl_X10_159 hp_60 hs_60 rfl rfl ?_
    refine T_iload_n dX10_item_14 rfl 1 rfl ?_
    refine T_iald dX10_item_15 hp_80 hs_80 (h3.1 c10).1 ?_
    refine T_if_ge (tgt := 22) dX10_item_16 (by decide) (fun c11 => ?_) (fun c11 => ?_)
    · refine T_aload_n dX10_item_22 rfl 0 rfl ?_
      refine T_iload_n dX10_item_23 rfl 2 rfl ?_
      refine T_iconst (v := 0) dX10_item_24 (by decide) ?_
      refine T_aload_n dX10_item_25 rfl 0 rfl ?_
      refine T_get (v := .ref 81) dX10_item_26 fl_X10_162 hp_60 hs_60 rfl rfl ?_
      refine T_iload_n dX10_item_29 rfl 1 rfl ?_
      refine T_iald dX10_item_30 hp_81 hs_81 ((h3.1 c10).2.1 c11).1 ?_
      refine T_iconst (v := 1) dX10_item_31 (by decide) ?_
      refine T_isub dX10_item_32 ?_
      refine T_VI (As := [.int x2, .int 0, .int ((s1.1 81 x1.toNatClampNeg) - 1)]) dX10_item_33 mv_X10_171 hp_60 hs_60 rfl (Nat.le_of_ble_eq_true rfl) (hv_ok1 rfl) rfl (((h3.1 c10).2.1 c11).2) (fun v5 s4 h6 => ?_)
      refine T_if_ne (tgt := 42) dX10_item_36 (by decide) (fun c12 => ?_) (fun c12 => ?_)
      · refine T_aload_n dX10_item_42 rfl 0 rfl ?_
        refine T_get (v := .ref 82) dX10_item_43 fl_X10_165 hp_60 hs_60 rfl rfl ?_
        refine T_bipush (v := 60) dX10_item_46 (by decide) ?_
        refine T_iload_n dX10_item_48 rfl 1 rfl ?_
        refine T_imul dX10_item_49 ?_
        refine T_iload_n dX10_item_50 rfl 2 rfl ?_
        refine T_iadd dX10_item_51 ?_
        refine T_aload_n dX10_item_52 rfl 0 rfl ?_
        refine T_aload_n dX10_item_53 rfl 0 rfl ?_
        refine T_get (v := .ref 80) dX10_item_54 fl_X10_159 hp_60 hs_60 rfl rfl ?_
        refine T_iload_n dX10_item_57 rfl 1 rfl ?_
        refine T_iald dX10_item_58 hp_80 hs_80 (h6.1 c12).1 ?_
        refine T_lload_n dX10_item_59 rfl 3 rfl ?_
        refine T_VL (As := [.int (s4.1 80 x1.toNatClampNeg), .long y3]) dX10_item_60 mv_X10_357 hp_60 hs_60 rfl (Nat.le_of_ble_eq_true rfl) (hv_ok1 rfl) rfl ((h6.1 c12).2) (fun v8 s7 h9 => ?_)
        refine T_last dX10_item_63 hp_82 hs_82 h9.1 ?_
        refine T_iconst (v := 1) dX10_item_64 (by decide) ?_
        exact T_iret dX10_item_65 rfl h9.2
      · refine T_bipush (v := (-13)) dX10_item_39 (by decide) ?_
        exact T_iret dX10_item_41 rfl (h6.2 c12)
    · refine T_bipush (v := (-11)) dX10_item_19 (by decide) ?_
      exact T_iret dX10_item_21 rfl ((h3.1 c10).2.2 c11)
  · refine T_iconst (v := (-1)) dX10_item_8 (by decide) ?_
    exact T_iret dX10_item_9 rfl (h3.2 c10)

set_option maxHeartbeats 4000000 in
set_option maxRecDepth 100000 in
theorem B_X10_read {l : Launch} {e : hv_Ev}  (x1 : Int32) (x2 : Int32) {σ : hv_S} {Φ : Int64 → hv_S → Prop} (h : hv_CI l (hv_e2 e) 1 m_X10_isTape [.ref 60, .int x1] σ (fun v2 s1 => ((v2 = 0 → Φ (-9223372036854775808) s1) ∧ (¬ v2 = 0 → (vp_in x1 6 ∧ (((s1.1 80 x1.toNatClampNeg) < 0 → Φ (-9223372036854775808) s1) ∧ (¬ (s1.1 80 x1.toNatClampNeg) < 0 → (vp_in x1 6 ∧ hv_CI l (hv_e2 e) 0 m_X10_in [.ref 60, .int x2, .int 0, .int ((s1.1 81 x1.toNatClampNeg) - 1)] s1 (fun v5 s4 => ((v5 ≠ 0 → (vp_in ((60 * x1) + x2) 360 ∧ Φ (s4.2.1 82 (((60 * x1) + x2).toNatClampNeg)) s4)) ∧ (v5 = 0 → Φ (-9223372036854775808) s4))))))))))) : hv_CL l (hv_e2 e) 2 m_X10_read [.ref 60, .int x1, .int x2] σ Φ := by
  refine hv_entL (by decide) (Nat.le_of_ble_eq_true rfl) ?_
  show hv_TW l (hv_e2 e) (hv_rm 2) 0 0 m_X10_read hv_no (hv_ZL (hv_e2 e) Φ) 0 [(0, .ref 60), (1, .int x1), (2, .int x2)] [] σ
  refine T_aload_n dX10_read_0 rfl 0 rfl ?_
  refine T_iload_n dX10_read_1 rfl 1 rfl ?_
  refine T_VI (As := [.int x1]) dX10_read_2 mv_X10_326 hp_60 hs_60 rfl (Nat.le_of_ble_eq_true rfl) (hv_ok1 rfl) rfl h (fun v2 s1 h3 => ?_)
  refine T_if_eq (tgt := 34) dX10_read_5 (by decide) (fun c7 => ?_) (fun c7 => ?_)
  · refine T_ldc2 dX10_read_34 kl_X10_279 ?_
    refine T_goto (tgt := 51) dX10_read_37 (by decide) ?_
    exact T_lret dX10_read_51 rfl (h3.1 c7)
  · refine T_aload_n dX10_read_8 rfl 0 rfl ?_
    refine T_get (v := .ref 80) dX10_read_9 fl_X10_159 hp_60 hs_60 rfl rfl ?_
    refine T_iload_n dX10_read_12 rfl 1 rfl ?_
    refine T_iald dX10_read_13 hp_80 hs_80 (h3.2 c7).1 ?_
    refine T_if_lt (tgt := 34) dX10_read_14 (by decide) (fun c8 => ?_) (fun c8 => ?_)
    · refine T_ldc2 dX10_read_34 kl_X10_279 ?_
      refine T_goto (tgt := 51) dX10_read_37 (by decide) ?_
      exact T_lret dX10_read_51 rfl ((h3.2 c7).2.1 c8)
    · refine T_aload_n dX10_read_17 rfl 0 rfl ?_
      refine T_iload_n dX10_read_18 rfl 2 rfl ?_
      refine T_iconst (v := 0) dX10_read_19 (by decide) ?_
      refine T_aload_n dX10_read_20 rfl 0 rfl ?_
      refine T_get (v := .ref 81) dX10_read_21 fl_X10_162 hp_60 hs_60 rfl rfl ?_
      refine T_iload_n dX10_read_24 rfl 1 rfl ?_
      refine T_iald dX10_read_25 hp_81 hs_81 ((h3.2 c7).2.2 c8).1 ?_
      refine T_iconst (v := 1) dX10_read_26 (by decide) ?_
      refine T_isub dX10_read_27 ?_
      refine T_VI (As := [.int x2, .int 0, .int ((s1.1 81 x1.toNatClampNeg) - 1)]) dX10_read_28 mv_X10_171 hp_60 hs_60 rfl (Nat.le_of_ble_eq_true rfl) (hv_ok1 rfl) rfl (((h3.2 c7).2.2 c8).2) (fun v5 s4 h6 => ?_)
      refine T_if_ne (tgt := 40) dX10_read_31 (by decide) (fun c9 => ?_) (fun c9 => ?_)
      · refine T_aload_n dX10_read_40 rfl 0 rfl ?_
        refine T_get (v := .ref 82) dX10_read_41 fl_X10_165 hp_60 hs_60 rfl rfl ?_
        refine T_bipush (v := 60) dX10_read_44 (by decide) ?_
        refine T_iload_n dX10_read_46 rfl 1 rfl ?_
        refine T_imul dX10_read_47 ?_
        refine T_iload_n dX10_read_48 rfl 2 rfl ?_
        refine T_iadd dX10_read_49 ?_
        refine T_lald dX10_read_50 hp_82 hs_82 (h6.1 c9).1 ?_
        exact T_lret dX10_read_51 rfl ((h6.1 c9).2)
      · refine T_ldc2 dX10_read_34 kl_X10_279 ?_
        refine T_goto (tgt := 51) dX10_read_37 (by decide) ?_
        exact T_lret dX10_read_51 rfl (h6.2 c9)

def L_X10_shift_104 (l : Launch) (e : hv_Ev)  (Φ : Int32 → hv_S → Prop) (x1 : Int32) (x2 : Int32) (x3 : Int32) (x4 : Int32) (x5 : Int32) (x6 : Int32) (σ : hv_S) : Prop := hv_TW l (hv_e2 e) (hv_rm 2) 0 0 m_X10_shift hv_no (hv_ZI (hv_e2 e) Φ) 104 [(0, .ref 60), (1, .int x1), (2, .int x2), (3, .int x3), (4, .int x4), (5, .int x5), (6, .int x6)] [] σ
def L_X10_shift_141 (l : Launch) (e : hv_Ev)  (Φ : Int32 → hv_S → Prop) (x3 : Int32) (x4 : Int32) (x5 : Int32) (x6 : Int32) (σ : hv_S) : Prop := hv_TW l (hv_e2 e) (hv_rm 2) 0 0 m_X10_shift hv_no (hv_ZI (hv_e2 e) Φ) 141 [(0, .ref 60), (3, .int x3), (4, .int x4), (5, .int x5), (6, .int x6)] [] σ
set_option maxHeartbeats 4000000 in
set_option maxRecDepth 100000 in
theorem B_X10_shift_141 {l : Launch} {e : hv_Ev}  (x3 : Int32) (x4 : Int32) (x5 : Int32) (x6 : Int32) {σ : hv_S} {Φ : Int32 → hv_S → Prop} (h : ((x5 ≤ x6 → Φ x5 σ) ∧ (¬ x5 ≤ x6 → (vp_in x6 60 ∧ (vp_in (((60 * x3) + x4) + x6) 360 ∧ L_X10_shift_141 l e Φ x3 x4 x5 (x6 + 1) (hv_ul σ 82 ((((60 * x3) + x4) + x6).toNatClampNeg) (σ.2.1 83 x6.toNatClampNeg))))))) : L_X10_shift_141 l e Φ x3 x4 x5 x6 σ := by
  show hv_TW l (hv_e2 e) (hv_rm 2) 0 0 m_X10_shift hv_no (hv_ZI (hv_e2 e) Φ) 141 [(0, .ref 60), (3, .int x3), (4, .int x4), (5, .int x5), (6, .int x6)] [] σ
  refine T_iload dX10_shift_141 4 rfl ?_
  refine T_iload dX10_shift_143 3 rfl ?_
  refine T_icmp_ge (tgt := 176) dX10_shift_145 (by decide) (fun c18 => ?_) (fun c18 => ?_)
  · refine T_iload dX10_shift_176 3 rfl ?_
    exact T_iret dX10_shift_178 rfl (h.1 c18)
  · refine T_aload_n dX10_shift_148 rfl 0 rfl ?_
    refine T_get (v := .ref 82) dX10_shift_149 fl_X10_165 hp_60 hs_60 rfl rfl ?_
    refine T_bipush (v := 60) dX10_shift_152 (by decide) ?_
    refine T_iload_n dX10_shift_154 rfl 1 rfl ?_
    refine T_imul dX10_shift_155 ?_
    refine T_iload dX10_shift_156 2 rfl ?_
    refine T_iadd dX10_shift_158 ?_
    refine T_iload dX10_shift_159 4 rfl ?_
    refine T_iadd dX10_shift_161 ?_
    refine T_aload_n dX10_shift_162 rfl 0 rfl ?_
    refine T_get (v := .ref 83) dX10_shift_163 fl_X10_168 hp_60 hs_60 rfl rfl ?_
    refine T_iload dX10_shift_166 4 rfl ?_
    refine T_lald dX10_shift_168 hp_83 hs_83 (h.2 c18).1 ?_
    refine T_last dX10_shift_169 hp_82 hs_82 (h.2 c18).2.1 ?_
    refine T_iinc (v := (x6 + 1)) dX10_shift_170 4 rfl rfl (by decide) rfl ?_
    refine T_goto (tgt := 141) dX10_shift_173 (by decide) ?_
    exact T_sub [1, 2, 3, 4, 0] rfl (h.2 c18).2.2
set_option maxHeartbeats 4000000 in
set_option maxRecDepth 100000 in
theorem B_X10_shift_104 {l : Launch} {e : hv_Ev}  (x1 : Int32) (x2 : Int32) (x3 : Int32) (x4 : Int32) (x5 : Int32) (x6 : Int32) {σ : hv_S} {Φ : Int32 → hv_S → Prop} (h : ((x5 ≤ x6 → L_X10_shift_141 l e Φ x3 x4 x5 0 σ) ∧ (¬ x5 ≤ x6 → (vp_in (((60 * x1) + x2) + x6) 360 ∧ (vp_in x6 60 ∧ L_X10_shift_104 l e Φ x1 x2 x3 x4 x5 (x6 + 1) (hv_ul σ 83 x6.toNatClampNeg (σ.2.1 82 ((((60 * x1) + x2) + x6).toNatClampNeg)))))))) : L_X10_shift_104 l e Φ x1 x2 x3 x4 x5 x6 σ := by
  show hv_TW l (hv_e2 e) (hv_rm 2) 0 0 m_X10_shift hv_no (hv_ZI (hv_e2 e) Φ) 104 [(0, .ref 60), (1, .int x1), (2, .int x2), (3, .int x3), (4, .int x4), (5, .int x5), (6, .int x6)] [] σ
  refine T_iload dX10_shift_104 6 rfl ?_
  refine T_iload dX10_shift_106 5 rfl ?_
  refine T_icmp_ge (tgt := 138) dX10_shift_108 (by decide) (fun c17 => ?_) (fun c17 => ?_)
  · refine T_iconst (v := 0) dX10_shift_138 (by decide) ?_
    refine T_istore dX10_shift_139 (by decide) rfl ?_
    exact T_sub [1, 4, 5, 6, 0] rfl (h.1 c17)
  · refine T_aload_n dX10_shift_111 rfl 0 rfl ?_
    refine T_get (v := .ref 83) dX10_shift_112 fl_X10_168 hp_60 hs_60 rfl rfl ?_
    refine T_iload dX10_shift_115 6 rfl ?_
    refine T_aload_n dX10_shift_117 rfl 0 rfl ?_
    refine T_get (v := .ref 82) dX10_shift_118 fl_X10_165 hp_60 hs_60 rfl rfl ?_
    refine T_bipush (v := 60) dX10_shift_121 (by decide) ?_
    refine T_iload_n dX10_shift_123 rfl 1 rfl ?_
    refine T_imul dX10_shift_124 ?_
    refine T_iload_n dX10_shift_125 rfl 2 rfl ?_
    refine T_iadd dX10_shift_126 ?_
    refine T_iload dX10_shift_127 6 rfl ?_
    refine T_iadd dX10_shift_129 ?_
    refine T_lald dX10_shift_130 hp_82 hs_82 (h.2 c17).1 ?_
    refine T_last dX10_shift_131 hp_83 hs_83 (h.2 c17).2.1 ?_
    refine T_iinc (v := (x6 + 1)) dX10_shift_132 6 rfl rfl (by decide) rfl ?_
    refine T_goto (tgt := 104) dX10_shift_135 (by decide) ?_
    exact T_sub [1, 2, 3, 4, 5, 6, 0] rfl (h.2 c17).2.2
set_option maxHeartbeats 4000000 in
set_option maxRecDepth 100000 in
theorem B_X10_shift {l : Launch} {e : hv_Ev}  (x1 : Int32) (x2 : Int32) (x3 : Int32) (x4 : Int32) (x5 : Int32) {σ : hv_S} {Φ : Int32 → hv_S → Prop} (h : hv_CI l (hv_e2 e) 1 m_X10_isTape [.ref 60, .int x1] σ (fun v2 s1 => ((v2 = 0 → Φ (-1) s1) ∧ (¬ v2 = 0 → hv_CI l (hv_e2 e) 1 m_X10_isTape [.ref 60, .int x3] s1 (fun v5 s4 => ((v5 ≠ 0 → (vp_in x1 6 ∧ (((s4.1 80 x1.toNatClampNeg) < 0 → Φ (-11) s4) ∧ (¬ (s4.1 80 x1.toNatClampNeg) < 0 → (vp_in x3 6 ∧ ((0 ≤ (s4.1 80 x3.toNatClampNeg) → (vp_in x1 6 ∧ (vp_in x3 6 ∧ (((s4.1 80 x1.toNatClampNeg) = (s4.1 80 x3.toNatClampNeg) → ((x5 < 0 → Φ (-13) s4) ∧ (¬ x5 < 0 → ((x2 < 0 → Φ (-13) s4) ∧ (¬ x2 < 0 → ((x4 < 0 → Φ (-13) s4) ∧ (¬ x4 < 0 → (vp_in x1 6 ∧ ((((s4.1 81 x1.toNatClampNeg) - x5) < x2 → Φ (-13) s4) ∧ (¬ ((s4.1 81 x1.toNatClampNeg) - x5) < x2 → (vp_in x3 6 ∧ ((x4 ≤ ((s4.1 81 x3.toNatClampNeg) - x5) → L_X10_shift_104 l e Φ x1 x2 x3 x4 x5 0 s4) ∧ (¬ x4 ≤ ((s4.1 81 x3.toNatClampNeg) - x5) → Φ (-13) s4))))))))))))) ∧ (¬ (s4.1 80 x1.toNatClampNeg) = (s4.1 80 x3.toNatClampNeg) → Φ (-12) s4))))) ∧ (¬ 0 ≤ (s4.1 80 x3.toNatClampNeg) → Φ (-11) s4))))))) ∧ (v5 = 0 → Φ (-1) s4))))))) : hv_CI l (hv_e2 e) 2 m_X10_shift [.ref 60, .int x1, .int x2, .int x3, .int x4, .int x5] σ Φ := by
  refine hv_entI (by decide) (Nat.le_of_ble_eq_true rfl) ?_
  show hv_TW l (hv_e2 e) (hv_rm 2) 0 0 m_X10_shift hv_no (hv_ZI (hv_e2 e) Φ) 0 [(0, .ref 60), (1, .int x1), (2, .int x2), (3, .int x3), (4, .int x4), (5, .int x5)] [] σ
  refine T_aload_n dX10_shift_0 rfl 0 rfl ?_
  refine T_iload_n dX10_shift_1 rfl 1 rfl ?_
  refine T_VI (As := [.int x1]) dX10_shift_2 mv_X10_326 hp_60 hs_60 rfl (Nat.le_of_ble_eq_true rfl) (hv_ok1 rfl) rfl h (fun v2 s1 h3 => ?_)
  refine T_if_eq (tgt := 16) dX10_shift_5 (by decide) (fun c7 => ?_) (fun c7 => ?_)
  · refine T_iconst (v := (-1)) dX10_shift_16 (by decide) ?_
    exact T_iret dX10_shift_17 rfl (h3.1 c7)
  · refine T_aload_n dX10_shift_8 rfl 0 rfl ?_
    refine T_iload_n dX10_shift_9 rfl 3 rfl ?_
    refine T_VI (As := [.int x3]) dX10_shift_10 mv_X10_326 hp_60 hs_60 rfl (Nat.le_of_ble_eq_true rfl) (hv_ok1 rfl) rfl (h3.2 c7) (fun v5 s4 h6 => ?_)
    refine T_if_ne (tgt := 18) dX10_shift_13 (by decide) (fun c8 => ?_) (fun c8 => ?_)
    · refine T_aload_n dX10_shift_18 rfl 0 rfl ?_
      refine T_get (v := .ref 80) dX10_shift_19 fl_X10_159 hp_60 hs_60 rfl rfl ?_
      refine T_iload_n dX10_shift_22 rfl 1 rfl ?_
      refine T_iald dX10_shift_23 hp_80 hs_80 (h6.1 c8).1 ?_
      refine T_if_lt (tgt := 36) dX10_shift_24 (by decide) (fun c9 => ?_) (fun c9 => ?_)
      · refine T_bipush (v := (-11)) dX10_shift_36 (by decide) ?_
        exact T_iret dX10_shift_38 rfl ((h6.1 c8).2.1 c9)
      · refine T_aload_n dX10_shift_27 rfl 0 rfl ?_
        refine T_get (v := .ref 80) dX10_shift_28 fl_X10_159 hp_60 hs_60 rfl rfl ?_
        refine T_iload_n dX10_shift_31 rfl 3 rfl ?_
        refine T_iald dX10_shift_32 hp_80 hs_80 ((h6.1 c8).2.2 c9).1 ?_
        refine T_if_ge (tgt := 39) dX10_shift_33 (by decide) (fun c10 => ?_) (fun c10 => ?_)
        · refine T_aload_n dX10_shift_39 rfl 0 rfl ?_
          refine T_get (v := .ref 80) dX10_shift_40 fl_X10_159 hp_60 hs_60 rfl rfl ?_
          refine T_iload_n dX10_shift_43 rfl 1 rfl ?_
          refine T_iald dX10_shift_44 hp_80 hs_80 (((h6.1 c8).2.2 c9).2.1 c10).1 ?_
          refine T_aload_n dX10_shift_45 rfl 0 rfl ?_
          refine T_get (v := .ref 80) dX10_shift_46 fl_X10_159 hp_60 hs_60 rfl rfl ?_
          refine T_iload_n dX10_shift_49 rfl 3 rfl ?_
          refine T_iald dX10_shift_50 hp_80 hs_80 (((h6.1 c8).2.2 c9).2.1 c10).2.1 ?_
          refine T_icmp_eq (tgt := 57) dX10_shift_51 (by decide) (fun c11 => ?_) (fun c11 => ?_)
          · refine T_iload dX10_shift_57 5 rfl ?_
            refine T_if_lt (tgt := 98) dX10_shift_59 (by decide) (fun c12 => ?_) (fun c12 => ?_)
            · refine T_bipush (v := (-13)) dX10_shift_98 (by decide) ?_
              exact T_iret dX10_shift_100 rfl (((((h6.1 c8).2.2 c9).2.1 c10).2.2.1 c11).1 c12)
            · refine T_iload_n dX10_shift_62 rfl 2 rfl ?_
              refine T_if_lt (tgt := 98) dX10_shift_63 (by decide) (fun c13 => ?_) (fun c13 => ?_)
              · refine T_bipush (v := (-13)) dX10_shift_98 (by decide) ?_
                exact T_iret dX10_shift_100 rfl ((((((h6.1 c8).2.2 c9).2.1 c10).2.2.1 c11).2 c12).1 c13)
              · refine T_iload dX10_shift_66 4 rfl ?_
                refine T_if_lt (tgt := 98) dX10_shift_68 (by decide) (fun c14 => ?_) (fun c14 => ?_)
                · refine T_bipush (v := (-13)) dX10_shift_98 (by decide) ?_
                  exact T_iret dX10_shift_100 rfl (((((((h6.1 c8).2.2 c9).2.1 c10).2.2.1 c11).2 c12).2 c13).1 c14)
                · refine T_iload_n dX10_shift_71 rfl 2 rfl ?_
                  refine T_aload_n dX10_shift_72 rfl 0 rfl ?_
                  refine T_get (v := .ref 81) dX10_shift_73 fl_X10_162 hp_60 hs_60 rfl rfl ?_
                  refine T_iload_n dX10_shift_76 rfl 1 rfl ?_
                  refine T_iald dX10_shift_77 hp_81 hs_81 (((((((h6.1 c8).2.2 c9).2.1 c10).2.2.1 c11).2 c12).2 c13).2 c14).1 ?_
                  refine T_iload dX10_shift_78 5 rfl ?_
                  refine T_isub dX10_shift_80 ?_
                  refine T_icmp_gt (tgt := 98) dX10_shift_81 (by decide) (fun c15 => ?_) (fun c15 => ?_)
                  · refine T_bipush (v := (-13)) dX10_shift_98 (by decide) ?_
                    exact T_iret dX10_shift_100 rfl ((((((((h6.1 c8).2.2 c9).2.1 c10).2.2.1 c11).2 c12).2 c13).2 c14).2.1 c15)
                  · refine T_iload dX10_shift_84 4 rfl ?_
                    refine T_aload_n dX10_shift_86 rfl 0 rfl ?_
                    refine T_get (v := .ref 81) dX10_shift_87 fl_X10_162 hp_60 hs_60 rfl rfl ?_
                    refine T_iload_n dX10_shift_90 rfl 3 rfl ?_
                    refine T_iald dX10_shift_91 hp_81 hs_81 ((((((((h6.1 c8).2.2 c9).2.1 c10).2.2.1 c11).2 c12).2 c13).2 c14).2.2 c15).1 ?_
                    refine T_iload dX10_shift_92 5 rfl ?_
                    refine T_isub dX10_shift_94 ?_
                    refine T_icmp_le (tgt := 101) dX10_shift_95 (by decide) (fun c16 => ?_) (fun c16 => ?_)
                    · refine T_iconst (v := 0) dX10_shift_101 (by decide) ?_
                      refine T_istore dX10_shift_102 (by decide) rfl ?_
                      exact T_sub [1, 2, 3, 4, 5, 6, 0] rfl (((((((((h6.1 c8).2.2 c9).2.1 c10).2.2.1 c11).2 c12).2 c13).2 c14).2.2 c15).2.1 c16)
                    · refine T_bipush (v := (-13)) dX10_shift_98 (by decide) ?_
                      exact T_iret dX10_shift_100 rfl (((((((((h6.1 c8).2.2 c9).2.1 c10).2.2.1 c11).2 c12).2 c13).2 c14).2.2 c15).2.2 c16)
          · refine T_bipush (v := (-12)) dX10_shift_54 (by decide) ?_
            exact T_iret dX10_shift_56 rfl ((((h6.1 c8).2.2 c9).2.1 c10).2.2.2 c11)
        · refine T_bipush (v := (-11)) dX10_shift_36 (by decide) ?_
          exact T_iret dX10_shift_38 rfl (((h6.1 c8).2.2 c9).2.2 c10)
    · refine T_iconst (v := (-1)) dX10_shift_16 (by decide) ?_
      exact T_iret dX10_shift_17 rfl (h6.2 c8)

set_option maxHeartbeats 4000000 in
set_option maxRecDepth 100000 in
theorem B_X10_takesTest {l : Launch} {e : hv_Ev}   {σ : hv_S} {Φ : Int32 → hv_S → Prop} (h : hv_CI l (hv_e2 e) 0 m_X10_next [.ref 60] σ (fun v2 s1 => ((v2 ≠ 97 → ((v2 ≠ 98 → ((v2 ≠ 109 → ((v2 ≠ 115 → ((v2 ≠ 113 → Φ 0 s1) ∧ (v2 = 113 → hv_CI l (hv_e2 e) 0 m_X10_next [.ref 60] (hv_ui s1 60 16 ((s1.1 60 16) + 1)) (fun v5 s4 => hv_CI l (hv_e2 e) 0 m_X10_in [.ref 60, .int v5, .int 60, .int 62] s4 (fun v8 s7 => ((v8 ≠ 0 → hv_CI l (hv_e2 e) 2 m_X10_takesNumber [.ref 60, .int 0] (hv_ui s7 60 16 ((s7.1 60 16) + 1)) (fun v11 s10 => ((v11 ≠ 0 → ((v5 ≠ 60 → ((v5 ≠ 61 → (vp_in 4 5 ∧ (((s10.1 70 4) ≤ (s10.1 60 17) → hv_CV l (hv_e2 e) 0 m_X10_push [.ref 60, .int 0] s10 (fun s13 => Φ 1 s13)) ∧ (¬ (s10.1 70 4) ≤ (s10.1 60 17) → hv_CV l (hv_e2 e) 0 m_X10_push [.ref 60, .int 1] s10 (fun s16 => Φ 1 s16))))) ∧ (v5 = 61 → (vp_in 4 5 ∧ (((s10.1 70 4) ≠ (s10.1 60 17) → hv_CV l (hv_e2 e) 0 m_X10_push [.ref 60, .int 0] s10 (fun s19 => Φ 1 s19)) ∧ ((s10.1 70 4) = (s10.1 60 17) → hv_CV l (hv_e2 e) 0 m_X10_push [.ref 60, .int 1] s10 (fun s22 => Φ 1 s22))))))) ∧ (v5 = 60 → (vp_in 4 5 ∧ (((s10.1 60 17) ≤ (s10.1 70 4) → hv_CV l (hv_e2 e) 0 m_X10_push [.ref 60, .int 0] s10 (fun s25 => Φ 1 s25)) ∧ (¬ (s10.1 60 17) ≤ (s10.1 70 4) → hv_CV l (hv_e2 e) 0 m_X10_push [.ref 60, .int 1] s10 (fun s28 => Φ 1 s28))))))) ∧ (v11 = 0 → Φ 0 s10)))) ∧ (v8 = 0 → Φ 0 s7))))))) ∧ (v2 = 115 → hv_CI l (hv_e2 e) 0 m_X10_next [.ref 60] (hv_ui s1 60 16 ((s1.1 60 16) + 1)) (fun v32 s31 => hv_CI l (hv_e2 e) 0 m_X10_in [.ref 60, .int v32, .int 60, .int 62] s31 (fun v35 s34 => ((v35 ≠ 0 → hv_CI l (hv_e2 e) 2 m_X10_takesNumber [.ref 60, .int 0] (hv_ui s34 60 16 ((s34.1 60 16) + 1)) (fun v38 s37 => ((v38 ≠ 0 → ((v32 ≠ 60 → ((v32 ≠ 61 → (vp_in 3 5 ∧ (((s37.1 70 3) ≤ (s37.1 60 17) → hv_CV l (hv_e2 e) 0 m_X10_push [.ref 60, .int 0] s37 (fun s40 => Φ 1 s40)) ∧ (¬ (s37.1 70 3) ≤ (s37.1 60 17) → hv_CV l (hv_e2 e) 0 m_X10_push [.ref 60, .int 1] s37 (fun s43 => Φ 1 s43))))) ∧ (v32 = 61 → (vp_in 3 5 ∧ (((s37.1 70 3) ≠ (s37.1 60 17) → hv_CV l (hv_e2 e) 0 m_X10_push [.ref 60, .int 0] s37 (fun s46 => Φ 1 s46)) ∧ ((s37.1 70 3) = (s37.1 60 17) → hv_CV l (hv_e2 e) 0 m_X10_push [.ref 60, .int 1] s37 (fun s49 => Φ 1 s49))))))) ∧ (v32 = 60 → (vp_in 3 5 ∧ (((s37.1 60 17) ≤ (s37.1 70 3) → hv_CV l (hv_e2 e) 0 m_X10_push [.ref 60, .int 0] s37 (fun s52 => Φ 1 s52)) ∧ (¬ (s37.1 60 17) ≤ (s37.1 70 3) → hv_CV l (hv_e2 e) 0 m_X10_push [.ref 60, .int 1] s37 (fun s55 => Φ 1 s55))))))) ∧ (v38 = 0 → Φ 0 s37)))) ∧ (v35 = 0 → Φ 0 s34))))))) ∧ (v2 = 109 → hv_CI l (hv_e2 e) 0 m_X10_next [.ref 60] (hv_ui s1 60 16 ((s1.1 60 16) + 1)) (fun v59 s58 => hv_CI l (hv_e2 e) 0 m_X10_in [.ref 60, .int v59, .int 60, .int 62] s58 (fun v62 s61 => ((v62 ≠ 0 → hv_CI l (hv_e2 e) 2 m_X10_takesNumber [.ref 60, .int 0] (hv_ui s61 60 16 ((s61.1 60 16) + 1)) (fun v65 s64 => ((v65 ≠ 0 → ((v59 ≠ 60 → ((v59 ≠ 61 → (vp_in 2 5 ∧ (((s64.1 70 2) ≤ (s64.1 60 17) → hv_CV l (hv_e2 e) 0 m_X10_push [.ref 60, .int 0] s64 (fun s67 => Φ 1 s67)) ∧ (¬ (s64.1 70 2) ≤ (s64.1 60 17) → hv_CV l (hv_e2 e) 0 m_X10_push [.ref 60, .int 1] s64 (fun s70 => Φ 1 s70))))) ∧ (v59 = 61 → (vp_in 2 5 ∧ (((s64.1 70 2) ≠ (s64.1 60 17) → hv_CV l (hv_e2 e) 0 m_X10_push [.ref 60, .int 0] s64 (fun s73 => Φ 1 s73)) ∧ ((s64.1 70 2) = (s64.1 60 17) → hv_CV l (hv_e2 e) 0 m_X10_push [.ref 60, .int 1] s64 (fun s76 => Φ 1 s76))))))) ∧ (v59 = 60 → (vp_in 2 5 ∧ (((s64.1 60 17) ≤ (s64.1 70 2) → hv_CV l (hv_e2 e) 0 m_X10_push [.ref 60, .int 0] s64 (fun s79 => Φ 1 s79)) ∧ (¬ (s64.1 60 17) ≤ (s64.1 70 2) → hv_CV l (hv_e2 e) 0 m_X10_push [.ref 60, .int 1] s64 (fun s82 => Φ 1 s82))))))) ∧ (v65 = 0 → Φ 0 s64)))) ∧ (v62 = 0 → Φ 0 s61))))))) ∧ (v2 = 98 → hv_CI l (hv_e2 e) 0 m_X10_next [.ref 60] (hv_ui s1 60 16 ((s1.1 60 16) + 1)) (fun v86 s85 => hv_CI l (hv_e2 e) 0 m_X10_in [.ref 60, .int v86, .int 60, .int 62] s85 (fun v89 s88 => ((v89 ≠ 0 → hv_CI l (hv_e2 e) 2 m_X10_takesNumber [.ref 60, .int 0] (hv_ui s88 60 16 ((s88.1 60 16) + 1)) (fun v92 s91 => ((v92 ≠ 0 → ((v86 ≠ 60 → ((v86 ≠ 61 → (vp_in 1 5 ∧ (((s91.1 70 1) ≤ (s91.1 60 17) → hv_CV l (hv_e2 e) 0 m_X10_push [.ref 60, .int 0] s91 (fun s94 => Φ 1 s94)) ∧ (¬ (s91.1 70 1) ≤ (s91.1 60 17) → hv_CV l (hv_e2 e) 0 m_X10_push [.ref 60, .int 1] s91 (fun s97 => Φ 1 s97))))) ∧ (v86 = 61 → (vp_in 1 5 ∧ (((s91.1 70 1) ≠ (s91.1 60 17) → hv_CV l (hv_e2 e) 0 m_X10_push [.ref 60, .int 0] s91 (fun s100 => Φ 1 s100)) ∧ ((s91.1 70 1) = (s91.1 60 17) → hv_CV l (hv_e2 e) 0 m_X10_push [.ref 60, .int 1] s91 (fun s103 => Φ 1 s103))))))) ∧ (v86 = 60 → (vp_in 1 5 ∧ (((s91.1 60 17) ≤ (s91.1 70 1) → hv_CV l (hv_e2 e) 0 m_X10_push [.ref 60, .int 0] s91 (fun s106 => Φ 1 s106)) ∧ (¬ (s91.1 60 17) ≤ (s91.1 70 1) → hv_CV l (hv_e2 e) 0 m_X10_push [.ref 60, .int 1] s91 (fun s109 => Φ 1 s109))))))) ∧ (v92 = 0 → Φ 0 s91)))) ∧ (v89 = 0 → Φ 0 s88))))))) ∧ (v2 = 97 → hv_CI l (hv_e2 e) 0 m_X10_next [.ref 60] (hv_ui s1 60 16 ((s1.1 60 16) + 1)) (fun v113 s112 => hv_CI l (hv_e2 e) 0 m_X10_in [.ref 60, .int v113, .int 60, .int 62] s112 (fun v116 s115 => ((v116 ≠ 0 → hv_CI l (hv_e2 e) 2 m_X10_takesNumber [.ref 60, .int 0] (hv_ui s115 60 16 ((s115.1 60 16) + 1)) (fun v119 s118 => ((v119 ≠ 0 → ((v113 ≠ 60 → ((v113 ≠ 61 → (vp_in 0 5 ∧ (((s118.1 70 0) ≤ (s118.1 60 17) → hv_CV l (hv_e2 e) 0 m_X10_push [.ref 60, .int 0] s118 (fun s121 => Φ 1 s121)) ∧ (¬ (s118.1 70 0) ≤ (s118.1 60 17) → hv_CV l (hv_e2 e) 0 m_X10_push [.ref 60, .int 1] s118 (fun s124 => Φ 1 s124))))) ∧ (v113 = 61 → (vp_in 0 5 ∧ (((s118.1 70 0) ≠ (s118.1 60 17) → hv_CV l (hv_e2 e) 0 m_X10_push [.ref 60, .int 0] s118 (fun s127 => Φ 1 s127)) ∧ ((s118.1 70 0) = (s118.1 60 17) → hv_CV l (hv_e2 e) 0 m_X10_push [.ref 60, .int 1] s118 (fun s130 => Φ 1 s130))))))) ∧ (v113 = 60 → (vp_in 0 5 ∧ (((s118.1 60 17) ≤ (s118.1 70 0) → hv_CV l (hv_e2 e) 0 m_X10_push [.ref 60, .int 0] s118 (fun s133 => Φ 1 s133)) ∧ (¬ (s118.1 60 17) ≤ (s118.1 70 0) → hv_CV l (hv_e2 e) 0 m_X10_push [.ref 60, .int 1] s118 (fun s136 => Φ 1 s136))))))) ∧ (v119 = 0 → Φ 0 s118)))) ∧ (v116 = 0 → Φ 0 s115)))))))) : hv_CI l (hv_e2 e) 3 m_X10_takesTest [.ref 60] σ Φ := by
  refine hv_entI (by decide) (Nat.le_of_ble_eq_true rfl) ?_
  show hv_TW l (hv_e2 e) (hv_rm 3) 0 0 m_X10_takesTest hv_no (hv_ZI (hv_e2 e) Φ) 0 [(0, .ref 60)] [] σ
  refine T_aload_n dX10_takesTest_0 rfl 0 rfl ?_
  refine T_VI (As := []) dX10_takesTest_1 mv_X10_186 hp_60 hs_60 rfl (Nat.le_of_ble_eq_true rfl) (hv_ok1 rfl) rfl h (fun v2 s1 h3 => ?_)
  refine T_istore_n dX10_takesTest_4 rfl (by decide) rfl ?_
  refine T_iload_n dX10_takesTest_5 rfl 0 rfl ?_
  refine T_bipush (v := 97) dX10_takesTest_6 (by decide) ?_
  refine T_icmp_ne (tgt := 15) dX10_takesTest_8 (by decide) (fun c139 => ?_) (fun c139 => ?_)
  · refine T_iload_n dX10_takesTest_15 rfl 0 rfl ?_
    refine T_bipush (v := 98) dX10_takesTest_16 (by decide) ?_
    refine T_icmp_ne (tgt := 25) dX10_takesTest_18 (by decide) (fun c140 => ?_) (fun c140 => ?_)
    · refine T_iload_n dX10_takesTest_25 rfl 0 rfl ?_
      refine T_bipush (v := 109) dX10_takesTest_26 (by decide) ?_
      refine T_icmp_ne (tgt := 35) dX10_takesTest_28 (by decide) (fun c141 => ?_) (fun c141 => ?_)
      · refine T_iload_n dX10_takesTest_35 rfl 0 rfl ?_
        refine T_bipush (v := 115) dX10_takesTest_36 (by decide) ?_
        refine T_icmp_ne (tgt := 45) dX10_takesTest_38 (by decide) (fun c142 => ?_) (fun c142 => ?_)
        · refine T_iload_n dX10_takesTest_45 rfl 0 rfl ?_
          refine T_bipush (v := 113) dX10_takesTest_46 (by decide) ?_
          refine T_icmp_ne (tgt := 55) dX10_takesTest_48 (by decide) (fun c143 => ?_) (fun c143 => ?_)
          · refine T_iconst (v := (-1)) dX10_takesTest_55 (by decide) ?_
            refine T_istore_n dX10_takesTest_56 rfl (by decide) rfl ?_
            refine T_iload_n dX10_takesTest_57 rfl 0 rfl ?_
            refine T_if_ge (tgt := 63) dX10_takesTest_58 (by decide) (fun q => absurd q (by decide)) (fun _ => ?_)
            refine T_iconst (v := 0) dX10_takesTest_61 (by decide) ?_
            exact T_zret dX10_takesTest_62 rfl (by decide) (((((h3.1 c139).1 c140).1 c141).1 c142).1 c143)
          · refine T_iconst (v := 4) dX10_takesTest_51 (by decide) ?_
            refine T_goto (tgt := 56) dX10_takesTest_52 (by decide) ?_
            refine T_istore_n dX10_takesTest_56 rfl (by decide) rfl ?_
            refine T_iload_n dX10_takesTest_57 rfl 0 rfl ?_
            refine T_if_ge (tgt := 63) dX10_takesTest_58 (by decide) (fun _ => ?_) (fun q => absurd q (by decide))
            refine T_aload_n dX10_takesTest_63 rfl 2 rfl ?_
            refine T_dup dX10_takesTest_64 rfl ?_
            refine T_get (v := .int (s1.1 60 16)) dX10_takesTest_65 fl_X10_60 hp_60 hs_60 rfl rfl ?_
            refine T_iconst (v := 1) dX10_takesTest_68 (by decide) ?_
            refine T_iadd dX10_takesTest_69 ?_
            refine T_puti dX10_takesTest_70 fl_X10_60 pf_X10_16 hp_60 hs_60 rfl ?_
            refine T_aload_n dX10_takesTest_73 rfl 2 rfl ?_
            refine T_VI (As := []) dX10_takesTest_74 mv_X10_186 hp_60 hs_60 rfl (Nat.le_of_ble_eq_true rfl) (hv_ok1 rfl) rfl (((((h3.1 c139).1 c140).1 c141).1 c142).2 c143) (fun v5 s4 h6 => ?_)
            refine T_istore_n dX10_takesTest_77 rfl (by decide) rfl ?_
            refine T_aload_n dX10_takesTest_78 rfl 3 rfl ?_
            refine T_iload_n dX10_takesTest_79 rfl 0 rfl ?_
            refine T_bipush (v := 60) dX10_takesTest_80 (by decide) ?_
            refine T_bipush (v := 62) dX10_takesTest_82 (by decide) ?_
            refine T_VI (As := [.int v5, .int 60, .int 62]) dX10_takesTest_84 mv_X10_171 hp_60 hs_60 rfl (Nat.le_of_ble_eq_true rfl) (hv_ok1 rfl) rfl h6 (fun v8 s7 h9 => ?_)
            refine T_if_ne (tgt := 92) dX10_takesTest_87 (by decide) (fun c144 => ?_) (fun c144 => ?_)
            · refine T_aload_n dX10_takesTest_92 rfl 3 rfl ?_
              refine T_dup dX10_takesTest_93 rfl ?_
              refine T_get (v := .int (s7.1 60 16)) dX10_takesTest_94 fl_X10_60 hp_60 hs_60 rfl rfl ?_
              refine T_iconst (v := 1) dX10_takesTest_97 (by decide) ?_
              refine T_iadd dX10_takesTest_98 ?_
              refine T_puti dX10_takesTest_99 fl_X10_60 pf_X10_16 hp_60 hs_60 rfl ?_
              refine T_aload_n dX10_takesTest_102 rfl 3 rfl ?_
              refine T_iconst (v := 0) dX10_takesTest_103 (by decide) ?_
              refine T_VI (As := [.int 0]) dX10_takesTest_104 mv_X10_197 hp_60 hs_60 rfl (Nat.le_of_ble_eq_true rfl) (hv_ok1 rfl) rfl (h9.1 c144) (fun v11 s10 h12 => ?_)
              refine T_if_ne (tgt := 112) dX10_takesTest_107 (by decide) (fun c145 => ?_) (fun c145 => ?_)
              · refine T_aload_n dX10_takesTest_112 rfl 3 rfl ?_
                refine T_iload_n dX10_takesTest_113 rfl 0 rfl ?_
                refine T_bipush (v := 60) dX10_takesTest_114 (by decide) ?_
                refine T_icmp_ne (tgt := 140) dX10_takesTest_116 (by decide) (fun c146 => ?_) (fun c146 => ?_)
                · refine T_iload_n dX10_takesTest_140 rfl 0 rfl ?_
                  refine T_bipush (v := 61) dX10_takesTest_141 (by decide) ?_
                  refine T_icmp_ne (tgt := 167) dX10_takesTest_143 (by decide) (fun c147 => ?_) (fun c147 => ?_)
                  · refine T_aload_n dX10_takesTest_167 rfl 3 rfl ?_
                    refine T_get (v := .ref 70) dX10_takesTest_168 fl_X10_51 hp_60 hs_60 rfl rfl ?_
                    refine T_iload_n dX10_takesTest_171 rfl 1 rfl ?_
                    refine T_iald dX10_takesTest_172 hp_70 hs_70 (((h12.1 c145).1 c146).1 c147).1 ?_
                    refine T_aload_n dX10_takesTest_173 rfl 3 rfl ?_
                    refine T_get (v := .int (s10.1 60 17)) dX10_takesTest_174 fl_X10_63 hp_60 hs_60 rfl rfl ?_
                    refine T_icmp_le (tgt := 184) dX10_takesTest_177 (by decide) (fun c148 => ?_) (fun c148 => ?_)
                    · refine T_iconst (v := 0) dX10_takesTest_184 (by decide) ?_
                      refine T_VV (As := [.int 0]) dX10_takesTest_185 mv_X10_201 hp_60 hs_60 rfl (Nat.le_of_ble_eq_true rfl) (hv_ok1 rfl) rfl ((((h12.1 c145).1 c146).1 c147).2.1 c148) (fun s13 h15 => ?_)
                      refine T_iconst (v := 1) dX10_takesTest_188 (by decide) ?_
                      exact T_zret dX10_takesTest_189 rfl (by decide) h15
                    · refine T_iconst (v := 1) dX10_takesTest_180 (by decide) ?_
                      refine T_goto (tgt := 185) dX10_takesTest_181 (by decide) ?_
                      refine T_VV (As := [.int 1]) dX10_takesTest_185 mv_X10_201 hp_60 hs_60 rfl (Nat.le_of_ble_eq_true rfl) (hv_ok1 rfl) rfl ((((h12.1 c145).1 c146).1 c147).2.2 c148) (fun s16 h18 => ?_)
                      refine T_iconst (v := 1) dX10_takesTest_188 (by decide) ?_
                      exact T_zret dX10_takesTest_189 rfl (by decide) h18
                  · refine T_aload_n dX10_takesTest_146 rfl 3 rfl ?_
                    refine T_get (v := .ref 70) dX10_takesTest_147 fl_X10_51 hp_60 hs_60 rfl rfl ?_
                    refine T_iload_n dX10_takesTest_150 rfl 1 rfl ?_
                    refine T_iald dX10_takesTest_151 hp_70 hs_70 (((h12.1 c145).1 c146).2 c147).1 ?_
                    refine T_aload_n dX10_takesTest_152 rfl 3 rfl ?_
                    refine T_get (v := .int (s10.1 60 17)) dX10_takesTest_153 fl_X10_63 hp_60 hs_60 rfl rfl ?_
                    refine T_icmp_ne (tgt := 163) dX10_takesTest_156 (by decide) (fun c149 => ?_) (fun c149 => ?_)
                    · refine T_iconst (v := 0) dX10_takesTest_163 (by decide) ?_
                      refine T_goto (tgt := 185) dX10_takesTest_164 (by decide) ?_
                      refine T_VV (As := [.int 0]) dX10_takesTest_185 mv_X10_201 hp_60 hs_60 rfl (Nat.le_of_ble_eq_true rfl) (hv_ok1 rfl) rfl ((((h12.1 c145).1 c146).2 c147).2.1 c149) (fun s19 h21 => ?_)
                      refine T_iconst (v := 1) dX10_takesTest_188 (by decide) ?_
                      exact T_zret dX10_takesTest_189 rfl (by decide) h21
                    · refine T_iconst (v := 1) dX10_takesTest_159 (by decide) ?_
                      refine T_goto (tgt := 185) dX10_takesTest_160 (by decide) ?_
                      refine T_VV (As := [.int 1]) dX10_takesTest_185 mv_X10_201 hp_60 hs_60 rfl (Nat.le_of_ble_eq_true rfl) (hv_ok1 rfl) rfl ((((h12.1 c145).1 c146).2 c147).2.2 c149) (fun s22 h24 => ?_)
                      refine T_iconst (v := 1) dX10_takesTest_188 (by decide) ?_
                      exact T_zret dX10_takesTest_189 rfl (by decide) h24
                · refine T_aload_n dX10_takesTest_119 rfl 3 rfl ?_
                  refine T_get (v := .ref 70) dX10_takesTest_120 fl_X10_51 hp_60 hs_60 rfl rfl ?_
                  refine T_iload_n dX10_takesTest_123 rfl 1 rfl ?_
                  refine T_iald dX10_takesTest_124 hp_70 hs_70 ((h12.1 c145).2 c146).1 ?_
                  refine T_aload_n dX10_takesTest_125 rfl 3 rfl ?_
                  refine T_get (v := .int (s10.1 60 17)) dX10_takesTest_126 fl_X10_63 hp_60 hs_60 rfl rfl ?_
                  refine T_icmp_ge (tgt := 136) dX10_takesTest_129 (by decide) (fun c150 => ?_) (fun c150 => ?_)
                  · refine T_iconst (v := 0) dX10_takesTest_136 (by decide) ?_
                    refine T_goto (tgt := 185) dX10_takesTest_137 (by decide) ?_
                    refine T_VV (As := [.int 0]) dX10_takesTest_185 mv_X10_201 hp_60 hs_60 rfl (Nat.le_of_ble_eq_true rfl) (hv_ok1 rfl) rfl (((h12.1 c145).2 c146).2.1 c150) (fun s25 h27 => ?_)
                    refine T_iconst (v := 1) dX10_takesTest_188 (by decide) ?_
                    exact T_zret dX10_takesTest_189 rfl (by decide) h27
                  · refine T_iconst (v := 1) dX10_takesTest_132 (by decide) ?_
                    refine T_goto (tgt := 185) dX10_takesTest_133 (by decide) ?_
                    refine T_VV (As := [.int 1]) dX10_takesTest_185 mv_X10_201 hp_60 hs_60 rfl (Nat.le_of_ble_eq_true rfl) (hv_ok1 rfl) rfl (((h12.1 c145).2 c146).2.2 c150) (fun s28 h30 => ?_)
                    refine T_iconst (v := 1) dX10_takesTest_188 (by decide) ?_
                    exact T_zret dX10_takesTest_189 rfl (by decide) h30
              · refine T_iconst (v := 0) dX10_takesTest_110 (by decide) ?_
                exact T_zret dX10_takesTest_111 rfl (by decide) (h12.2 c145)
            · refine T_iconst (v := 0) dX10_takesTest_90 (by decide) ?_
              exact T_zret dX10_takesTest_91 rfl (by decide) (h9.2 c144)
        · refine T_iconst (v := 3) dX10_takesTest_41 (by decide) ?_
          refine T_goto (tgt := 56) dX10_takesTest_42 (by decide) ?_
          refine T_istore_n dX10_takesTest_56 rfl (by decide) rfl ?_
          refine T_iload_n dX10_takesTest_57 rfl 0 rfl ?_
          refine T_if_ge (tgt := 63) dX10_takesTest_58 (by decide) (fun _ => ?_) (fun q => absurd q (by decide))
          refine T_aload_n dX10_takesTest_63 rfl 2 rfl ?_
          refine T_dup dX10_takesTest_64 rfl ?_
          refine T_get (v := .int (s1.1 60 16)) dX10_takesTest_65 fl_X10_60 hp_60 hs_60 rfl rfl ?_
          refine T_iconst (v := 1) dX10_takesTest_68 (by decide) ?_
          refine T_iadd dX10_takesTest_69 ?_
          refine T_puti dX10_takesTest_70 fl_X10_60 pf_X10_16 hp_60 hs_60 rfl ?_
          refine T_aload_n dX10_takesTest_73 rfl 2 rfl ?_
          refine T_VI (As := []) dX10_takesTest_74 mv_X10_186 hp_60 hs_60 rfl (Nat.le_of_ble_eq_true rfl) (hv_ok1 rfl) rfl ((((h3.1 c139).1 c140).1 c141).2 c142) (fun v32 s31 h33 => ?_)
          refine T_istore_n dX10_takesTest_77 rfl (by decide) rfl ?_
          refine T_aload_n dX10_takesTest_78 rfl 3 rfl ?_
          refine T_iload_n dX10_takesTest_79 rfl 0 rfl ?_
          refine T_bipush (v := 60) dX10_takesTest_80 (by decide) ?_
          refine T_bipush (v := 62) dX10_takesTest_82 (by decide) ?_
          refine T_VI (As := [.int v32, .int 60, .int 62]) dX10_takesTest_84 mv_X10_171 hp_60 hs_60 rfl (Nat.le_of_ble_eq_true rfl) (hv_ok1 rfl) rfl h33 (fun v35 s34 h36 => ?_)
          refine T_if_ne (tgt := 92) dX10_takesTest_87 (by decide) (fun c151 => ?_) (fun c151 => ?_)
          · refine T_aload_n dX10_takesTest_92 rfl 3 rfl ?_
            refine T_dup dX10_takesTest_93 rfl ?_
            refine T_get (v := .int (s34.1 60 16)) dX10_takesTest_94 fl_X10_60 hp_60 hs_60 rfl rfl ?_
            refine T_iconst (v := 1) dX10_takesTest_97 (by decide) ?_
            refine T_iadd dX10_takesTest_98 ?_
            refine T_puti dX10_takesTest_99 fl_X10_60 pf_X10_16 hp_60 hs_60 rfl ?_
            refine T_aload_n dX10_takesTest_102 rfl 3 rfl ?_
            refine T_iconst (v := 0) dX10_takesTest_103 (by decide) ?_
            refine T_VI (As := [.int 0]) dX10_takesTest_104 mv_X10_197 hp_60 hs_60 rfl (Nat.le_of_ble_eq_true rfl) (hv_ok1 rfl) rfl (h36.1 c151) (fun v38 s37 h39 => ?_)
            refine T_if_ne (tgt := 112) dX10_takesTest_107 (by decide) (fun c152 => ?_) (fun c152 => ?_)
            · refine T_aload_n dX10_takesTest_112 rfl 3 rfl ?_
              refine T_iload_n dX10_takesTest_113 rfl 0 rfl ?_
              refine T_bipush (v := 60) dX10_takesTest_114 (by decide) ?_
              refine T_icmp_ne (tgt := 140) dX10_takesTest_116 (by decide) (fun c153 => ?_) (fun c153 => ?_)
              · refine T_iload_n dX10_takesTest_140 rfl 0 rfl ?_
                refine T_bipush (v := 61) dX10_takesTest_141 (by decide) ?_
                refine T_icmp_ne (tgt := 167) dX10_takesTest_143 (by decide) (fun c154 => ?_) (fun c154 => ?_)
                · refine T_aload_n dX10_takesTest_167 rfl 3 rfl ?_
                  refine T_get (v := .ref 70) dX10_takesTest_168 fl_X10_51 hp_60 hs_60 rfl rfl ?_
                  refine T_iload_n dX10_takesTest_171 rfl 1 rfl ?_
                  refine T_iald dX10_takesTest_172 hp_70 hs_70 (((h39.1 c152).1 c153).1 c154).1 ?_
                  refine T_aload_n dX10_takesTest_173 rfl 3 rfl ?_
                  refine T_get (v := .int (s37.1 60 17)) dX10_takesTest_174 fl_X10_63 hp_60 hs_60 rfl rfl ?_
                  refine T_icmp_le (tgt := 184) dX10_takesTest_177 (by decide) (fun c155 => ?_) (fun c155 => ?_)
                  · refine T_iconst (v := 0) dX10_takesTest_184 (by decide) ?_
                    refine T_VV (As := [.int 0]) dX10_takesTest_185 mv_X10_201 hp_60 hs_60 rfl (Nat.le_of_ble_eq_true rfl) (hv_ok1 rfl) rfl ((((h39.1 c152).1 c153).1 c154).2.1 c155) (fun s40 h42 => ?_)
                    refine T_iconst (v := 1) dX10_takesTest_188 (by decide) ?_
                    exact T_zret dX10_takesTest_189 rfl (by decide) h42
                  · refine T_iconst (v := 1) dX10_takesTest_180 (by decide) ?_
                    refine T_goto (tgt := 185) dX10_takesTest_181 (by decide) ?_
                    refine T_VV (As := [.int 1]) dX10_takesTest_185 mv_X10_201 hp_60 hs_60 rfl (Nat.le_of_ble_eq_true rfl) (hv_ok1 rfl) rfl ((((h39.1 c152).1 c153).1 c154).2.2 c155) (fun s43 h45 => ?_)
                    refine T_iconst (v := 1) dX10_takesTest_188 (by decide) ?_
                    exact T_zret dX10_takesTest_189 rfl (by decide) h45
                · refine T_aload_n dX10_takesTest_146 rfl 3 rfl ?_
                  refine T_get (v := .ref 70) dX10_takesTest_147 fl_X10_51 hp_60 hs_60 rfl rfl ?_
                  refine T_iload_n dX10_takesTest_150 rfl 1 rfl ?_
                  refine T_iald dX10_takesTest_151 hp_70 hs_70 (((h39.1 c152).1 c153).2 c154).1 ?_
                  refine T_aload_n dX10_takesTest_152 rfl 3 rfl ?_
                  refine T_get (v := .int (s37.1 60 17)) dX10_takesTest_153 fl_X10_63 hp_60 hs_60 rfl rfl ?_
                  refine T_icmp_ne (tgt := 163) dX10_takesTest_156 (by decide) (fun c156 => ?_) (fun c156 => ?_)
                  · refine T_iconst (v := 0) dX10_takesTest_163 (by decide) ?_
                    refine T_goto (tgt := 185) dX10_takesTest_164 (by decide) ?_
                    refine T_VV (As := [.int 0]) dX10_takesTest_185 mv_X10_201 hp_60 hs_60 rfl (Nat.le_of_ble_eq_true rfl) (hv_ok1 rfl) rfl ((((h39.1 c152).1 c153).2 c154).2.1 c156) (fun s46 h48 => ?_)
                    refine T_iconst (v := 1) dX10_takesTest_188 (by decide) ?_
                    exact T_zret dX10_takesTest_189 rfl (by decide) h48
                  · refine T_iconst (v := 1) dX10_takesTest_159 (by decide) ?_
                    refine T_goto (tgt := 185) dX10_takesTest_160 (by decide) ?_
                    refine T_VV (As := [.int 1]) dX10_takesTest_185 mv_X10_201 hp_60 hs_60 rfl (Nat.le_of_ble_eq_true rfl) (hv_ok1 rfl) rfl ((((h39.1 c152).1 c153).2 c154).2.2 c156) (fun s49 h51 => ?_)
                    refine T_iconst (v := 1) dX10_takesTest_188 (by decide) ?_
                    exact T_zret dX10_takesTest_189 rfl (by decide) h51
              · refine T_aload_n dX10_takesTest_119 rfl 3 rfl ?_
                refine T_get (v := .ref 70) dX10_takesTest_120 fl_X10_51 hp_60 hs_60 rfl rfl ?_
                refine T_iload_n dX10_takesTest_123 rfl 1 rfl ?_
                refine T_iald dX10_takesTest_124 hp_70 hs_70 ((h39.1 c152).2 c153).1 ?_
                refine T_aload_n dX10_takesTest_125 rfl 3 rfl ?_
                refine T_get (v := .int (s37.1 60 17)) dX10_takesTest_126 fl_X10_63 hp_60 hs_60 rfl rfl ?_
                refine T_icmp_ge (tgt := 136) dX10_takesTest_129 (by decide) (fun c157 => ?_) (fun c157 => ?_)
                · refine T_iconst (v := 0) dX10_takesTest_136 (by decide) ?_
                  refine T_goto (tgt := 185) dX10_takesTest_137 (by decide) ?_
                  refine T_VV (As := [.int 0]) dX10_takesTest_185 mv_X10_201 hp_60 hs_60 rfl (Nat.le_of_ble_eq_true rfl) (hv_ok1 rfl) rfl (((h39.1 c152).2 c153).2.1 c157) (fun s52 h54 => ?_)
                  refine T_iconst (v := 1) dX10_takesTest_188 (by decide) ?_
                  exact T_zret dX10_takesTest_189 rfl (by decide) h54
                · refine T_iconst (v := 1) dX10_takesTest_132 (by decide) ?_
                  refine T_goto (tgt := 185) dX10_takesTest_133 (by decide) ?_
                  refine T_VV (As := [.int 1]) dX10_takesTest_185 mv_X10_201 hp_60 hs_60 rfl (Nat.le_of_ble_eq_true rfl) (hv_ok1 rfl) rfl (((h39.1 c152).2 c153).2.2 c157) (fun s55 h57 => ?_)
                  refine T_iconst (v := 1) dX10_takesTest_188 (by decide) ?_
                  exact T_zret dX10_takesTest_189 rfl (by decide) h57
            · refine T_iconst (v := 0) dX10_takesTest_110 (by decide) ?_
              exact T_zret dX10_takesTest_111 rfl (by decide) (h39.2 c152)
          · refine T_iconst (v := 0) dX10_takesTest_90 (by decide) ?_
            exact T_zret dX10_takesTest_91 rfl (by decide) (h36.2 c151)
      · refine T_iconst (v := 2) dX10_takesTest_31 (by decide) ?_
        refine T_goto (tgt := 56) dX10_takesTest_32 (by decide) ?_
        refine T_istore_n dX10_takesTest_56 rfl (by decide) rfl ?_
        refine T_iload_n dX10_takesTest_57 rfl 0 rfl ?_
        refine T_if_ge (tgt := 63) dX10_takesTest_58 (by decide) (fun _ => ?_) (fun q => absurd q (by decide))
        refine T_aload_n dX10_takesTest_63 rfl 2 rfl ?_
        refine T_dup dX10_takesTest_64 rfl ?_
        refine T_get (v := .int (s1.1 60 16)) dX10_takesTest_65 fl_X10_60 hp_60 hs_60 rfl rfl ?_
        refine T_iconst (v := 1) dX10_takesTest_68 (by decide) ?_
        refine T_iadd dX10_takesTest_69 ?_
        refine T_puti dX10_takesTest_70 fl_X10_60 pf_X10_16 hp_60 hs_60 rfl ?_
        refine T_aload_n dX10_takesTest_73 rfl 2 rfl ?_
        refine T_VI (As := []) dX10_takesTest_74 mv_X10_186 hp_60 hs_60 rfl (Nat.le_of_ble_eq_true rfl) (hv_ok1 rfl) rfl (((h3.1 c139).1 c140).2 c141) (fun v59 s58 h60 => ?_)
        refine T_istore_n dX10_takesTest_77 rfl (by decide) rfl ?_
        refine T_aload_n dX10_takesTest_78 rfl 3 rfl ?_
        refine T_iload_n dX10_takesTest_79 rfl 0 rfl ?_
        refine T_bipush (v := 60) dX10_takesTest_80 (by decide) ?_
        refine T_bipush (v := 62) dX10_takesTest_82 (by decide) ?_
        refine T_VI (As := [.int v59, .int 60, .int 62]) dX10_takesTest_84 mv_X10_171 hp_60 hs_60 rfl (Nat.le_of_ble_eq_true rfl) (hv_ok1 rfl) rfl h60 (fun v62 s61 h63 => ?_)
        refine T_if_ne (tgt := 92) dX10_takesTest_87 (by decide) (fun c158 => ?_) (fun c158 => ?_)
        · refine T_aload_n dX10_takesTest_92 rfl 3 rfl ?_
          refine T_dup dX10_takesTest_93 rfl ?_
          refine T_get (v := .int (s61.1 60 16)) dX10_takesTest_94 fl_X10_60 hp_60 hs_60 rfl rfl ?_
          refine T_iconst (v := 1) dX10_takesTest_97 (by decide) ?_
          refine T_iadd dX10_takesTest_98 ?_
          refine T_puti dX10_takesTest_99 fl_X10_60 pf_X10_16 hp_60 hs_60 rfl ?_
          refine T_aload_n dX10_takesTest_102 rfl 3 rfl ?_
          refine T_iconst (v := 0) dX10_takesTest_103 (by decide) ?_
          refine T_VI (As := [.int 0]) dX10_takesTest_104 mv_X10_197 hp_60 hs_60 rfl (Nat.le_of_ble_eq_true rfl) (hv_ok1 rfl) rfl (h63.1 c158) (fun v65 s64 h66 => ?_)
          refine T_if_ne (tgt := 112) dX10_takesTest_107 (by decide) (fun c159 => ?_) (fun c159 => ?_)
          · refine T_aload_n dX10_takesTest_112 rfl 3 rfl ?_
            refine T_iload_n dX10_takesTest_113 rfl 0 rfl ?_
            refine T_bipush (v := 60) dX10_takesTest_114 (by decide) ?_
            refine T_icmp_ne (tgt := 140) dX10_takesTest_116 (by decide) (fun c160 => ?_) (fun c160 => ?_)
            · refine T_iload_n dX10_takesTest_140 rfl 0 rfl ?_
              refine T_bipush (v := 61) dX10_takesTest_141 (by decide) ?_
              refine T_icmp_ne (tgt := 167) dX10_takesTest_143 (by decide) (fun c161 => ?_) (fun c161 => ?_)
              · refine T_aload_n dX10_takesTest_167 rfl 3 rfl ?_
                refine T_get (v := .ref 70) dX10_takesTest_168 fl_X10_51 hp_60 hs_60 rfl rfl ?_
                refine T_iload_n dX10_takesTest_171 rfl 1 rfl ?_
                refine T_iald dX10_takesTest_172 hp_70 hs_70 (((h66.1 c159).1 c160).1 c161).1 ?_
                refine T_aload_n dX10_takesTest_173 rfl 3 rfl ?_
                refine T_get (v := .int (s64.1 60 17)) dX10_takesTest_174 fl_X10_63 hp_60 hs_60 rfl rfl ?_
                refine T_icmp_le (tgt := 184) dX10_takesTest_177 (by decide) (fun c162 => ?_) (fun c162 => ?_)
                · refine T_iconst (v := 0) dX10_takesTest_184 (by decide) ?_
                  refine T_VV (As := [.int 0]) dX10_takesTest_185 mv_X10_201 hp_60 hs_60 rfl (Nat.le_of_ble_eq_true rfl) (hv_ok1 rfl) rfl ((((h66.1 c159).1 c160).1 c161).2.1 c162) (fun s67 h69 => ?_)
                  refine T_iconst (v := 1) dX10_takesTest_188 (by decide) ?_
                  exact T_zret dX10_takesTest_189 rfl (by decide) h69
                · refine T_iconst (v := 1) dX10_takesTest_180 (by decide) ?_
                  refine T_goto (tgt := 185) dX10_takesTest_181 (by decide) ?_
                  refine T_VV (As := [.int 1]) dX10_takesTest_185 mv_X10_201 hp_60 hs_60 rfl (Nat.le_of_ble_eq_true rfl) (hv_ok1 rfl) rfl ((((h66.1 c159).1 c160).1 c161).2.2 c162) (fun s70 h72 => ?_)
                  refine T_iconst (v := 1) dX10_takesTest_188 (by decide) ?_
                  exact T_zret dX10_takesTest_189 rfl (by decide) h72
              · refine T_aload_n dX10_takesTest_146 rfl 3 rfl ?_
                refine T_get (v := .ref 70) dX10_takesTest_147 fl_X10_51 hp_60 hs_60 rfl rfl ?_
                refine T_iload_n dX10_takesTest_150 rfl 1 rfl ?_
                refine T_iald dX10_takesTest_151 hp_70 hs_70 (((h66.1 c159).1 c160).2 c161).1 ?_
                refine T_aload_n dX10_takesTest_152 rfl 3 rfl ?_
                refine T_get (v := .int (s64.1 60 17)) dX10_takesTest_153 fl_X10_63 hp_60 hs_60 rfl rfl ?_
                refine T_icmp_ne (tgt := 163) dX10_takesTest_156 (by decide) (fun c163 => ?_) (fun c163 => ?_)
                · refine T_iconst (v := 0) dX10_takesTest_163 (by decide) ?_
                  refine T_goto (tgt := 185) dX10_takesTest_164 (by decide) ?_
                  refine T_VV (As := [.int 0]) dX10_takesTest_185 mv_X10_201 hp_60 hs_60 rfl (Nat.le_of_ble_eq_true rfl) (hv_ok1 rfl) rfl ((((h66.1 c159).1 c160).2 c161).2.1 c163) (fun s73 h75 => ?_)
                  refine T_iconst (v := 1) dX10_takesTest_188 (by decide) ?_
                  exact T_zret dX10_takesTest_189 rfl (by decide) h75
                · refine T_iconst (v := 1) dX10_takesTest_159 (by decide) ?_
                  refine T_goto (tgt := 185) dX10_takesTest_160 (by decide) ?_
                  refine T_VV (As := [.int 1]) dX10_takesTest_185 mv_X10_201 hp_60 hs_60 rfl (Nat.le_of_ble_eq_true rfl) (hv_ok1 rfl) rfl ((((h66.1 c159).1 c160).2 c161).2.2 c163) (fun s76 h78 => ?_)
                  refine T_iconst (v := 1) dX10_takesTest_188 (by decide) ?_
                  exact T_zret dX10_takesTest_189 rfl (by decide) h78
            · refine T_aload_n dX10_takesTest_119 rfl 3 rfl ?_
              refine T_get (v := .ref 70) dX10_takesTest_120 fl_X10_51 hp_60 hs_60 rfl rfl ?_
              refine T_iload_n dX10_takesTest_123 rfl 1 rfl ?_
              refine T_iald dX10_takesTest_124 hp_70 hs_70 ((h66.1 c159).2 c160).1 ?_
              refine T_aload_n dX10_takesTest_125 rfl 3 rfl ?_
              refine T_get (v := .int (s64.1 60 17)) dX10_takesTest_126 fl_X10_63 hp_60 hs_60 rfl rfl ?_
              refine T_icmp_ge (tgt := 136) dX10_takesTest_129 (by decide) (fun c164 => ?_) (fun c164 => ?_)
              · refine T_iconst (v := 0) dX10_takesTest_136 (by decide) ?_
                refine T_goto (tgt := 185) dX10_takesTest_137 (by decide) ?_
                refine T_VV (As := [.int 0]) dX10_takesTest_185 mv_X10_201 hp_60 hs_60 rfl (Nat.le_of_ble_eq_true rfl) (hv_ok1 rfl) rfl (((h66.1 c159).2 c160).2.1 c164) (fun s79 h81 => ?_)
                refine T_iconst (v := 1) dX10_takesTest_188 (by decide) ?_
                exact T_zret dX10_takesTest_189 rfl (by decide) h81
              · refine T_iconst (v := 1) dX10_takesTest_132 (by decide) ?_
                refine T_goto (tgt := 185) dX10_takesTest_133 (by decide) ?_
                refine T_VV (As := [.int 1]) dX10_takesTest_185 mv_X10_201 hp_60 hs_60 rfl (Nat.le_of_ble_eq_true rfl) (hv_ok1 rfl) rfl (((h66.1 c159).2 c160).2.2 c164) (fun s82 h84 => ?_)
                refine T_iconst (v := 1) dX10_takesTest_188 (by decide) ?_
                exact T_zret dX10_takesTest_189 rfl (by decide) h84
          · refine T_iconst (v := 0) dX10_takesTest_110 (by decide) ?_
            exact T_zret dX10_takesTest_111 rfl (by decide) (h66.2 c159)
        · refine T_iconst (v := 0) dX10_takesTest_90 (by decide) ?_
          exact T_zret dX10_takesTest_91 rfl (by decide) (h63.2 c158)
    · refine T_iconst (v := 1) dX10_takesTest_21 (by decide) ?_
      refine T_goto (tgt := 56) dX10_takesTest_22 (by decide) ?_
      refine T_istore_n dX10_takesTest_56 rfl (by decide) rfl ?_
      refine T_iload_n dX10_takesTest_57 rfl 0 rfl ?_
      refine T_if_ge (tgt := 63) dX10_takesTest_58 (by decide) (fun _ => ?_) (fun q => absurd q (by decide))
      refine T_aload_n dX10_takesTest_63 rfl 2 rfl ?_
      refine T_dup dX10_takesTest_64 rfl ?_
      refine T_get (v := .int (s1.1 60 16)) dX10_takesTest_65 fl_X10_60 hp_60 hs_60 rfl rfl ?_
      refine T_iconst (v := 1) dX10_takesTest_68 (by decide) ?_
      refine T_iadd dX10_takesTest_69 ?_
      refine T_puti dX10_takesTest_70 fl_X10_60 pf_X10_16 hp_60 hs_60 rfl ?_
      refine T_aload_n dX10_takesTest_73 rfl 2 rfl ?_
      refine T_VI (As := []) dX10_takesTest_74 mv_X10_186 hp_60 hs_60 rfl (Nat.le_of_ble_eq_true rfl) (hv_ok1 rfl) rfl ((h3.1 c139).2 c140) (fun v86 s85 h87 => ?_)
      refine T_istore_n dX10_takesTest_77 rfl (by decide) rfl ?_
      refine T_aload_n dX10_takesTest_78 rfl 3 rfl ?_
      refine T_iload_n dX10_takesTest_79 rfl 0 rfl ?_
      refine T_bipush (v := 60) dX10_takesTest_80 (by decide) ?_
      refine T_bipush (v := 62) dX10_takesTest_82 (by decide) ?_
      refine T_VI (As := [.int v86, .int 60, .int 62]) dX10_takesTest_84 mv_X10_171 hp_60 hs_60 rfl (Nat.le_of_ble_eq_true rfl) (hv_ok1 rfl) rfl h87 (fun v89 s88 h90 => ?_)
      refine T_if_ne (tgt := 92) dX10_takesTest_87 (by decide) (fun c165 => ?_) (fun c165 => ?_)
      · refine T_aload_n dX10_takesTest_92 rfl 3 rfl ?_
        refine T_dup dX10_takesTest_93 rfl ?_
        refine T_get (v := .int (s88.1 60 16)) dX10_takesTest_94 fl_X10_60 hp_60 hs_60 rfl rfl ?_
        refine T_iconst (v := 1) dX10_takesTest_97 (by decide) ?_
        refine T_iadd dX10_takesTest_98 ?_
        refine T_puti dX10_takesTest_99 fl_X10_60 pf_X10_16 hp_60 hs_60 rfl ?_
        refine T_aload_n dX10_takesTest_102 rfl 3 rfl ?_
        refine T_iconst (v := 0) dX10_takesTest_103 (by decide) ?_
        refine T_VI (As := [.int 0]) dX10_takesTest_104 mv_X10_197 hp_60 hs_60 rfl (Nat.le_of_ble_eq_true rfl) (hv_ok1 rfl) rfl (h90.1 c165) (fun v92 s91 h93 => ?_)
        refine T_if_ne (tgt := 112) dX10_takesTest_107 (by decide) (fun c166 => ?_) (fun c166 => ?_)
        · refine T_aload_n dX10_takesTest_112 rfl 3 rfl ?_
          refine T_iload_n dX10_takesTest_113 rfl 0 rfl ?_
          refine T_bipush (v := 60) dX10_takesTest_114 (by decide) ?_
          refine T_icmp_ne (tgt := 140) dX10_takesTest_116 (by decide) (fun c167 => ?_) (fun c167 => ?_)
          · refine T_iload_n dX10_takesTest_140 rfl 0 rfl ?_
            refine T_bipush (v := 61) dX10_takesTest_141 (by decide) ?_
            refine T_icmp_ne (tgt := 167) dX10_takesTest_143 (by decide) (fun c168 => ?_) (fun c168 => ?_)
            · refine T_aload_n dX10_takesTest_167 rfl 3 rfl ?_
              refine T_get (v := .ref 70) dX10_takesTest_168 fl_X10_51 hp_60 hs_60 rfl rfl ?_
              refine T_iload_n dX10_takesTest_171 rfl 1 rfl ?_
              refine T_iald dX10_takesTest_172 hp_70 hs_70 (((h93.1 c166).1 c167).1 c168).1 ?_
              refine T_aload_n dX10_takesTest_173 rfl 3 rfl ?_
              refine T_get (v := .int (s91.1 60 17)) dX10_takesTest_174 fl_X10_63 hp_60 hs_60 rfl rfl ?_
              refine T_icmp_le (tgt := 184) dX10_takesTest_177 (by decide) (fun c169 => ?_) (fun c169 => ?_)
              · refine T_iconst (v := 0) dX10_takesTest_184 (by decide) ?_
                refine T_VV (As := [.int 0]) dX10_takesTest_185 mv_X10_201 hp_60 hs_60 rfl (Nat.le_of_ble_eq_true rfl) (hv_ok1 rfl) rfl ((((h93.1 c166).1 c167).1 c168).2.1 c169) (fun s94 h96 => ?_)
                refine T_iconst (v := 1) dX10_takesTest_188 (by decide) ?_
                exact T_zret dX10_takesTest_189 rfl (by decide) h96
              · refine T_iconst (v := 1) dX10_takesTest_180 (by decide) ?_
                refine T_goto (tgt := 185) dX10_takesTest_181 (by decide) ?_
                refine T_VV (As := [.int 1]) dX10_takesTest_185 mv_X10_201 hp_60 hs_60 rfl (Nat.le_of_ble_eq_true rfl) (hv_ok1 rfl) rfl ((((h93.1 c166).1 c167).1 c168).2.2 c169) (fun s97 h99 => ?_)
                refine T_iconst (v := 1) dX10_takesTest_188 (by decide) ?_
                exact T_zret dX10_takesTest_189 rfl (by decide) h99
            · refine T_aload_n dX10_takesTest_146 rfl 3 rfl ?_
              refine T_get (v := .ref 70) dX10_takesTest_147 fl_X10_51 hp_60 hs_60 rfl rfl ?_
              refine T_iload_n dX10_takesTest_150 rfl 1 rfl ?_
              refine T_iald dX10_takesTest_151 hp_70 hs_70 (((h93.1 c166).1 c167).2 c168).1 ?_
              refine T_aload_n dX10_takesTest_152 rfl 3 rfl ?_
              refine T_get (v := .int (s91.1 60 17)) dX10_takesTest_153 fl_X10_63 hp_60 hs_60 rfl rfl ?_
              refine T_icmp_ne (tgt := 163) dX10_takesTest_156 (by decide) (fun c170 => ?_) (fun c170 => ?_)
              · refine T_iconst (v := 0) dX10_takesTest_163 (by decide) ?_
                refine T_goto (tgt := 185) dX10_takesTest_164 (by decide) ?_
                refine T_VV (As := [.int 0]) dX10_takesTest_185 mv_X10_201 hp_60 hs_60 rfl (Nat.le_of_ble_eq_true rfl) (hv_ok1 rfl) rfl ((((h93.1 c166).1 c167).2 c168).2.1 c170) (fun s100 h102 => ?_)
                refine T_iconst (v := 1) dX10_takesTest_188 (by decide) ?_
                exact T_zret dX10_takesTest_189 rfl (by decide) h102
              · refine T_iconst (v := 1) dX10_takesTest_159 (by decide) ?_
                refine T_goto (tgt := 185) dX10_takesTest_160 (by decide) ?_
                refine T_VV (As := [.int 1]) dX10_takesTest_185 mv_X10_201 hp_60 hs_60 rfl (Nat.le_of_ble_eq_true rfl) (hv_ok1 rfl) rfl ((((h93.1 c166).1 c167).2 c168).2.2 c170) (fun s103 h105 => ?_)
                refine T_iconst (v := 1) dX10_takesTest_188 (by decide) ?_
                exact T_zret dX10_takesTest_189 rfl (by decide) h105
          · refine T_aload_n dX10_takesTest_119 rfl 3 rfl ?_
            refine T_get (v := .ref 70) dX10_takesTest_120 fl_X10_51 hp_60 hs_60 rfl rfl ?_
            refine T_iload_n dX10_takesTest_123 rfl 1 rfl ?_
            refine T_iald dX10_takesTest_124 hp_70 hs_70 ((h93.1 c166).2 c167).1 ?_
            refine T_aload_n dX10_takesTest_125 rfl 3 rfl ?_
            refine T_get (v := .int (s91.1 60 17)) dX10_takesTest_126 fl_X10_63 hp_60 hs_60 rfl rfl ?_
            refine T_icmp_ge (tgt := 136) dX10_takesTest_129 (by decide) (fun c171 => ?_) (fun c171 => ?_)
            · refine T_iconst (v := 0) dX10_takesTest_136 (by decide) ?_
              refine T_goto (tgt := 185) dX10_takesTest_137 (by decide) ?_
              refine T_VV (As := [.int 0]) dX10_takesTest_185 mv_X10_201 hp_60 hs_60 rfl (Nat.le_of_ble_eq_true rfl) (hv_ok1 rfl) rfl (((h93.1 c166).2 c167).2.1 c171) (fun s106 h108 => ?_)
              refine T_iconst (v := 1) dX10_takesTest_188 (by decide) ?_
              exact T_zret dX10_takesTest_189 rfl (by decide) h108
            · refine T_iconst (v := 1) dX10_takesTest_132 (by decide) ?_
              refine T_goto (tgt := 185) dX10_takesTest_133 (by decide) ?_
              refine T_VV (As := [.int 1]) dX10_takesTest_185 mv_X10_201 hp_60 hs_60 rfl (Nat.le_of_ble_eq_true rfl) (hv_ok1 rfl) rfl (((h93.1 c166).2 c167).2.2 c171) (fun s109 h111 => ?_)
              refine T_iconst (v := 1) dX10_takesTest_188 (by decide) ?_
              exact T_zret dX10_takesTest_189 rfl (by decide) h111
        · refine T_iconst (v := 0) dX10_takesTest_110 (by decide) ?_
          exact T_zret dX10_takesTest_111 rfl (by decide) (h93.2 c166)
      · refine T_iconst (v := 0) dX10_takesTest_90 (by decide) ?_
        exact T_zret dX10_takesTest_91 rfl (by decide) (h90.2 c165)
  · refine T_iconst (v := 0) dX10_takesTest_11 (by decide) ?_
    refine T_goto (tgt := 56) dX10_takesTest_12 (by decide) ?_
    refine T_istore_n dX10_takesTest_56 rfl (by decide) rfl ?_
    refine T_iload_n dX10_takesTest_57 rfl 0 rfl ?_
    refine T_if_ge (tgt := 63) dX10_takesTest_58 (by decide) (fun _ => ?_) (fun q => absurd q (by decide))
    refine T_aload_n dX10_takesTest_63 rfl 2 rfl ?_
    refine T_dup dX10_takesTest_64 rfl ?_
    refine T_get (v := .int (s1.1 60 16)) dX10_takesTest_65 fl_X10_60 hp_60 hs_60 rfl rfl ?_
    refine T_iconst (v := 1) dX10_takesTest_68 (by decide) ?_
    refine T_iadd dX10_takesTest_69 ?_
    refine T_puti dX10_takesTest_70 fl_X10_60 pf_X10_16 hp_60 hs_60 rfl ?_
    refine T_aload_n dX10_takesTest_73 rfl 2 rfl ?_
    refine T_VI (As := []) dX10_takesTest_74 mv_X10_186 hp_60 hs_60 rfl (Nat.le_of_ble_eq_true rfl) (hv_ok1 rfl) rfl (h3.2 c139) (fun v113 s112 h114 => ?_)
    refine T_istore_n dX10_takesTest_77 rfl (by decide) rfl ?_
    refine T_aload_n dX10_takesTest_78 rfl 3 rfl ?_
    refine T_iload_n dX10_takesTest_79 rfl 0 rfl ?_
    refine T_bipush (v := 60) dX10_takesTest_80 (by decide) ?_
    refine T_bipush (v := 62) dX10_takesTest_82 (by decide) ?_
    refine T_VI (As := [.int v113, .int 60, .int 62]) dX10_takesTest_84 mv_X10_171 hp_60 hs_60 rfl (Nat.le_of_ble_eq_true rfl) (hv_ok1 rfl) rfl h114 (fun v116 s115 h117 => ?_)
    refine T_if_ne (tgt := 92) dX10_takesTest_87 (by decide) (fun c172 => ?_) (fun c172 => ?_)
    · refine T_aload_n dX10_takesTest_92 rfl 3 rfl ?_
      refine T_dup dX10_takesTest_93 rfl ?_
      refine T_get (v := .int (s115.1 60 16)) dX10_takesTest_94 fl_X10_60 hp_60 hs_60 rfl rfl ?_
      refine T_iconst (v := 1) dX10_takesTest_97 (by decide) ?_
      refine T_iadd dX10_takesTest_98 ?_
      refine T_puti dX10_takesTest_99 fl_X10_60 pf_X10_16 hp_60 hs_60 rfl ?_
      refine T_aload_n dX10_takesTest_102 rfl 3 rfl ?_
      refine T_iconst (v := 0) dX10_takesTest_103 (by decide) ?_
      refine T_VI (As := [.int 0]) dX10_takesTest_104 mv_X10_197 hp_60 hs_60 rfl (Nat.le_of_ble_eq_true rfl) (hv_ok1 rfl) rfl (h117.1 c172) (fun v119 s118 h120 => ?_)
      refine T_if_ne (tgt := 112) dX10_takesTest_107 (by decide) (fun c173 => ?_) (fun c173 => ?_)
      · refine T_aload_n dX10_takesTest_112 rfl 3 rfl ?_
        refine T_iload_n dX10_takesTest_113 rfl 0 rfl ?_
        refine T_bipush (v := 60) dX10_takesTest_114 (by decide) ?_
        refine T_icmp_ne (tgt := 140) dX10_takesTest_116 (by decide) (fun c174 => ?_) (fun c174 => ?_)
        · refine T_iload_n dX10_takesTest_140 rfl 0 rfl ?_
          refine T_bipush (v := 61) dX10_takesTest_141 (by decide) ?_
          refine T_icmp_ne (tgt := 167) dX10_takesTest_143 (by decide) (fun c175 => ?_) (fun c175 => ?_)
          · refine T_aload_n dX10_takesTest_167 rfl 3 rfl ?_
            refine T_get (v := .ref 70) dX10_takesTest_168 fl_X10_51 hp_60 hs_60 rfl rfl ?_
            refine T_iload_n dX10_takesTest_171 rfl 1 rfl ?_
            refine T_iald dX10_takesTest_172 hp_70 hs_70 (((h120.1 c173).1 c174).1 c175).1 ?_
            refine T_aload_n dX10_takesTest_173 rfl 3 rfl ?_
            refine T_get (v := .int (s118.1 60 17)) dX10_takesTest_174 fl_X10_63 hp_60 hs_60 rfl rfl ?_
            refine T_icmp_le (tgt := 184) dX10_takesTest_177 (by decide) (fun c176 => ?_) (fun c176 => ?_)
            · refine T_iconst (v := 0) dX10_takesTest_184 (by decide) ?_
              refine T_VV (As := [.int 0]) dX10_takesTest_185 mv_X10_201 hp_60 hs_60 rfl (Nat.le_of_ble_eq_true rfl) (hv_ok1 rfl) rfl ((((h120.1 c173).1 c174).1 c175).2.1 c176) (fun s121 h123 => ?_)
              refine T_iconst (v := 1) dX10_takesTest_188 (by decide) ?_
              exact T_zret dX10_takesTest_189 rfl (by decide) h123
            · refine T_iconst (v := 1) dX10_takesTest_180 (by decide) ?_
              refine T_goto (tgt := 185) dX10_takesTest_181 (by decide) ?_
              refine T_VV (As := [.int 1]) dX10_takesTest_185 mv_X10_201 hp_60 hs_60 rfl (Nat.le_of_ble_eq_true rfl) (hv_ok1 rfl) rfl ((((h120.1 c173).1 c174).1 c175).2.2 c176) (fun s124 h126 => ?_)
              refine T_iconst (v := 1) dX10_takesTest_188 (by decide) ?_
              exact T_zret dX10_takesTest_189 rfl (by decide) h126
          · refine T_aload_n dX10_takesTest_146 rfl 3 rfl ?_
            refine T_get (v := .ref 70) dX10_takesTest_147 fl_X10_51 hp_60 hs_60 rfl rfl ?_
            refine T_iload_n dX10_takesTest_150 rfl 1 rfl ?_
            refine T_iald dX10_takesTest_151 hp_70 hs_70 (((h120.1 c173).1 c174).2 c175).1 ?_
            refine T_aload_n dX10_takesTest_152 rfl 3 rfl ?_
            refine T_get (v := .int (s118.1 60 17)) dX10_takesTest_153 fl_X10_63 hp_60 hs_60 rfl rfl ?_
            refine T_icmp_ne (tgt := 163) dX10_takesTest_156 (by decide) (fun c177 => ?_) (fun c177 => ?_)
            · refine T_iconst (v := 0) dX10_takesTest_163 (by decide) ?_
              refine T_goto (tgt := 185) dX10_takesTest_164 (by decide) ?_
              refine T_VV (As := [.int 0]) dX10_takesTest_185 mv_X10_201 hp_60 hs_60 rfl (Nat.le_of_ble_eq_true rfl) (hv_ok1 rfl) rfl ((((h120.1 c173).1 c174).2 c175).2.1 c177) (fun s127 h129 => ?_)
              refine T_iconst (v := 1) dX10_takesTest_188 (by decide) ?_
              exact T_zret dX10_takesTest_189 rfl (by decide) h129
            · refine T_iconst (v := 1) dX10_takesTest_159 (by decide) ?_
              refine T_goto (tgt := 185) dX10_takesTest_160 (by decide) ?_
              refine T_VV (As := [.int 1]) dX10_takesTest_185 mv_X10_201 hp_60 hs_60 rfl (Nat.le_of_ble_eq_true rfl) (hv_ok1 rfl) rfl ((((h120.1 c173).1 c174).2 c175).2.2 c177) (fun s130 h132 => ?_)
              refine T_iconst (v := 1) dX10_takesTest_188 (by decide) ?_
              exact T_zret dX10_takesTest_189 rfl (by decide) h132
        · refine T_aload_n dX10_takesTest_119 rfl 3 rfl ?_
          refine T_get (v := .ref 70) dX10_takesTest_120 fl_X10_51 hp_60 hs_60 rfl rfl ?_
          refine T_iload_n dX10_takesTest_123 rfl 1 rfl ?_
          refine T_iald dX10_takesTest_124 hp_70 hs_70 ((h120.1 c173).2 c174).1 ?_
          refine T_aload_n dX10_takesTest_125 rfl 3 rfl ?_
          refine T_get (v := .int (s118.1 60 17)) dX10_takesTest_126 fl_X10_63 hp_60 hs_60 rfl rfl ?_
          refine T_icmp_ge (tgt := 136) dX10_takesTest_129 (by decide) (fun c178 => ?_) (fun c178 => ?_)
          · refine T_iconst (v := 0) dX10_takesTest_136 (by decide) ?_
            refine T_goto (tgt := 185) dX10_takesTest_137 (by decide) ?_
            refine T_VV (As := [.int 0]) dX10_takesTest_185 mv_X10_201 hp_60 hs_60 rfl (Nat.le_of_ble_eq_true rfl) (hv_ok1 rfl) rfl (((h120.1 c173).2 c174).2.1 c178) (fun s133 h135 => ?_)
            refine T_iconst (v := 1) dX10_takesTest_188 (by decide) ?_
            exact T_zret dX10_takesTest_189 rfl (by decide) h135
          · refine T_iconst (v := 1) dX10_takesTest_132 (by decide) ?_
            refine T_goto (tgt := 185) dX10_takesTest_133 (by decide) ?_
            refine T_VV (As := [.int 1]) dX10_takesTest_185 mv_X10_201 hp_60 hs_60 rfl (Nat.le_of_ble_eq_true rfl) (hv_ok1 rfl) rfl (((h120.1 c173).2 c174).2.2 c178) (fun s136 h138 => ?_)
            refine T_iconst (v := 1) dX10_takesTest_188 (by decide) ?_
            exact T_zret dX10_takesTest_189 rfl (by decide) h138
      · refine T_iconst (v := 0) dX10_takesTest_110 (by decide) ?_
        exact T_zret dX10_takesTest_111 rfl (by decide) (h120.2 c173)
    · refine T_iconst (v := 0) dX10_takesTest_90 (by decide) ?_
      exact T_zret dX10_takesTest_91 rfl (by decide) (h117.2 c172)

set_option maxHeartbeats 4000000 in
set_option maxRecDepth 100000 in
theorem B_X10_takesNeed {l : Launch} {e : hv_Ev}   {σ : hv_S} {Φ : Int32 → hv_S → Prop} (h : hv_CI l (hv_e2 e) 2 m_X10_takesWord [.ref 60, .int 464036, .int 4] σ (fun v2 s1 => ((v2 = 0 → Φ 0 s1) ∧ (¬ v2 = 0 → hv_CI l (hv_e2 e) 2 m_X10_takesNumber [.ref 60, .int 0] s1 (fun v5 s4 => ((v5 ≠ 0 → hv_CI l (hv_e2 e) 1 m_X10_takes [.ref 60, .int 32] s4 (fun v8 s7 => ((v8 = 0 → Φ 0 s7) ∧ (¬ v8 = 0 → hv_CI l (hv_e2 e) 2 m_X10_takesNumber [.ref 60, .int 1] s7 (fun v11 s10 => ((v11 ≠ 0 → Φ 1 (hv_ui (hv_ui s10 60 31 (s4.1 60 17)) 60 32 (s10.1 60 17))) ∧ (v11 = 0 → Φ 0 s10))))))) ∧ (v5 = 0 → Φ 0 s4))))))) : hv_CI l (hv_e2 e) 3 m_X10_takesNeed [.ref 60] σ Φ := by
  refine hv_entI (by decide) (Nat.le_of_ble_eq_true rfl) ?_
  show hv_TW l (hv_e2 e) (hv_rm 3) 0 0 m_X10_takesNeed hv_no (hv_ZI (hv_e2 e) Φ) 0 [(0, .ref 60)] [] σ
  refine T_aload_n dX10_takesNeed_0 rfl 0 rfl ?_
  refine T_ldc dX10_takesNeed_1 ko_X10_212 ?_
  refine T_iconst (v := 4) dX10_takesNeed_3 (by decide) ?_
  refine T_VI (As := [.int 464036, .int 4]) dX10_takesNeed_4 mv_X10_213 hp_60 hs_60 rfl (Nat.le_of_ble_eq_true rfl) (hv_ok1 rfl) rfl h (fun v2 s1 h3 => ?_)
  refine T_if_eq (tgt := 18) dX10_takesNeed_7 (by decide) (fun c13 => ?_) (fun c13 => ?_)
  · refine T_iconst (v := 0) dX10_takesNeed_18 (by decide) ?_
    exact T_zret dX10_takesNeed_19 rfl (by decide) (h3.1 c13)
  · refine T_aload_n dX10_takesNeed_10 rfl 0 rfl ?_
    refine T_iconst (v := 0) dX10_takesNeed_11 (by decide) ?_
    refine T_VI (As := [.int 0]) dX10_takesNeed_12 mv_X10_197 hp_60 hs_60 rfl (Nat.le_of_ble_eq_true rfl) (hv_ok1 rfl) rfl (h3.2 c13) (fun v5 s4 h6 => ?_)
    refine T_if_ne (tgt := 20) dX10_takesNeed_15 (by decide) (fun c14 => ?_) (fun c14 => ?_)
    · refine T_aload_n dX10_takesNeed_20 rfl 0 rfl ?_
      refine T_get (v := .int (s4.1 60 17)) dX10_takesNeed_21 fl_X10_63 hp_60 hs_60 rfl rfl ?_
      refine T_istore_n dX10_takesNeed_24 rfl (by decide) rfl ?_
      refine T_aload_n dX10_takesNeed_25 rfl 1 rfl ?_
      refine T_bipush (v := 32) dX10_takesNeed_26 (by decide) ?_
      refine T_VI (As := [.int 32]) dX10_takesNeed_28 mv_X10_190 hp_60 hs_60 rfl (Nat.le_of_ble_eq_true rfl) (hv_ok1 rfl) rfl (h6.1 c14) (fun v8 s7 h9 => ?_)
      refine T_if_eq (tgt := 42) dX10_takesNeed_31 (by decide) (fun c15 => ?_) (fun c15 => ?_)
      · refine T_iconst (v := 0) dX10_takesNeed_42 (by decide) ?_
        exact T_zret dX10_takesNeed_43 rfl (by decide) (h9.1 c15)
      · refine T_aload_n dX10_takesNeed_34 rfl 1 rfl ?_
        refine T_iconst (v := 1) dX10_takesNeed_35 (by decide) ?_
        refine T_VI (As := [.int 1]) dX10_takesNeed_36 mv_X10_197 hp_60 hs_60 rfl (Nat.le_of_ble_eq_true rfl) (hv_ok1 rfl) rfl (h9.2 c15) (fun v11 s10 h12 => ?_)
        refine T_if_ne (tgt := 44) dX10_takesNeed_39 (by decide) (fun c16 => ?_) (fun c16 => ?_)
        · refine T_aload_n dX10_takesNeed_44 rfl 1 rfl ?_
          refine T_iload_n dX10_takesNeed_45 rfl 0 rfl ?_
          refine T_puti dX10_takesNeed_46 fl_X10_106 pf_X10_31 hp_60 hs_60 rfl ?_
          refine T_aload_n dX10_takesNeed_49 rfl 1 rfl ?_
          refine T_aload_n dX10_takesNeed_50 rfl 1 rfl ?_
          refine T_get (v := .int (s10.1 60 17)) dX10_takesNeed_51 fl_X10_63 hp_60 hs_60 rfl rfl ?_
          refine T_puti dX10_takesNeed_54 fl_X10_109 pf_X10_32 hp_60 hs_60 rfl ?_
          refine T_iconst (v := 1) dX10_takesNeed_57 (by decide) ?_
          exact T_zret dX10_takesNeed_58 rfl (by decide) (h12.1 c16)
        · refine T_iconst (v := 0) dX10_takesNeed_42 (by decide) ?_
          exact T_zret dX10_takesNeed_43 rfl (by decide) (h12.2 c16)
    · refine T_iconst (v := 0) dX10_takesNeed_18 (by decide) ?_
      exact T_zret dX10_takesNeed_19 rfl (by decide) (h6.2 c14)
