-- printed by wip/gen/p10d.py: the reference, 6
theorem dX10_ratherOf_0 : decode cX10_ratherOf 0 = .ok (.aload_n 0, 1) := by decide +kernel
theorem dX10_ratherOf_1 : decode cX10_ratherOf 1 = .ok (.iload_n 1, 1) := by decide +kernel
theorem dX10_ratherOf_2 : decode cX10_ratherOf 2 = .ok (.aload_n 0, 1) := by decide +kernel
theorem dX10_ratherOf_3 : decode cX10_ratherOf 3 = .ok (.getfield 13, 3) := by decide +kernel
theorem dX10_ratherOf_6 : decode cX10_ratherOf 6 = .ok (.invokevirtual 281, 3) := by decide +kernel
theorem dX10_ratherOf_9 : decode cX10_ratherOf 9 = .ok (.aload_n 0, 1) := by decide +kernel
theorem dX10_ratherOf_10 : decode cX10_ratherOf 10 = .ok (.iload_n 1, 1) := by decide +kernel
theorem dX10_ratherOf_11 : decode cX10_ratherOf 11 = .ok (.invokevirtual 300, 3) := by decide +kernel
theorem dX10_ratherOf_14 : decode cX10_ratherOf 14 = .ok (.aload_n 0, 1) := by decide +kernel
theorem dX10_ratherOf_15 : decode cX10_ratherOf 15 = .ok (.getfield 141, 3) := by decide +kernel
theorem dX10_ratherOf_18 : decode cX10_ratherOf 18 = .ok (.lstore_n 2, 1) := by decide +kernel
theorem dX10_ratherOf_19 : decode cX10_ratherOf 19 = .ok (.aload_n 0, 1) := by decide +kernel
theorem dX10_ratherOf_20 : decode cX10_ratherOf 20 = .ok (.getfield 144, 3) := by decide +kernel
theorem dX10_ratherOf_23 : decode cX10_ratherOf 23 = .ok (.lstore 4, 2) := by decide +kernel
theorem dX10_ratherOf_25 : decode cX10_ratherOf 25 = .ok (.iconst 0, 1) := by decide +kernel
theorem dX10_ratherOf_26 : decode cX10_ratherOf 26 = .ok (.istore 6, 2) := by decide +kernel
theorem dX10_ratherOf_28 : decode cX10_ratherOf 28 = .ok (.iload 6, 2) := by decide +kernel
theorem dX10_ratherOf_30 : decode cX10_ratherOf 30 = .ok (.aload_n 0, 1) := by decide +kernel
theorem dX10_ratherOf_31 : decode cX10_ratherOf 31 = .ok (.getfield 7, 3) := by decide +kernel
theorem dX10_ratherOf_34 : decode cX10_ratherOf 34 = .ok (.if_icmp .ge 150, 3) := by decide +kernel
theorem dX10_ratherOf_37 : decode cX10_ratherOf 37 = .ok (.iconst 0, 1) := by decide +kernel
theorem dX10_ratherOf_38 : decode cX10_ratherOf 38 = .ok (.istore 7, 2) := by decide +kernel
theorem dX10_ratherOf_40 : decode cX10_ratherOf 40 = .ok (.iload 7, 2) := by decide +kernel
theorem dX10_ratherOf_42 : decode cX10_ratherOf 42 = .ok (.aload_n 0, 1) := by decide +kernel
theorem dX10_ratherOf_43 : decode cX10_ratherOf 43 = .ok (.getfield 7, 3) := by decide +kernel
theorem dX10_ratherOf_46 : decode cX10_ratherOf 46 = .ok (.if_icmp .gt 132, 3) := by decide +kernel
theorem dX10_ratherOf_49 : decode cX10_ratherOf 49 = .ok (.iload 7, 2) := by decide +kernel
theorem dX10_ratherOf_51 : decode cX10_ratherOf 51 = .ok (.iconst 1, 1) := by decide +kernel
theorem dX10_ratherOf_52 : decode cX10_ratherOf 52 = .ok (.isub, 1) := by decide +kernel
theorem dX10_ratherOf_53 : decode cX10_ratherOf 53 = .ok (.iload 6, 2) := by decide +kernel
theorem dX10_ratherOf_55 : decode cX10_ratherOf 55 = .ok (.if_icmp .eq 117, 3) := by decide +kernel
theorem dX10_ratherOf_58 : decode cX10_ratherOf 58 = .ok (.iload 7, 2) := by decide +kernel
theorem dX10_ratherOf_60 : decode cX10_ratherOf 60 = .ok (.ifCond .le 20, 3) := by decide +kernel
theorem dX10_ratherOf_63 : decode cX10_ratherOf 63 = .ok (.aload_n 0, 1) := by decide +kernel
theorem dX10_ratherOf_64 : decode cX10_ratherOf 64 = .ok (.iload 6, 2) := by decide +kernel
theorem dX10_ratherOf_66 : decode cX10_ratherOf 66 = .ok (.iload 7, 2) := by decide +kernel
theorem dX10_ratherOf_68 : decode cX10_ratherOf 68 = .ok (.iconst 1, 1) := by decide +kernel
theorem dX10_ratherOf_69 : decode cX10_ratherOf 69 = .ok (.isub, 1) := by decide +kernel
theorem dX10_ratherOf_70 : decode cX10_ratherOf 70 = .ok (.iload_n 1, 1) := by decide +kernel
theorem dX10_ratherOf_71 : decode cX10_ratherOf 71 = .ok (.invokevirtual 230, 3) := by decide +kernel
theorem dX10_ratherOf_74 : decode cX10_ratherOf 74 = .ok (.ifCond .eq 6, 3) := by decide +kernel
theorem dX10_ratherOf_77 : decode cX10_ratherOf 77 = .ok (.goto 95, 3) := by decide +kernel
theorem dX10_ratherOf_80 : decode cX10_ratherOf 80 = .ok (.aload_n 0, 1) := by decide +kernel
theorem dX10_ratherOf_81 : decode cX10_ratherOf 81 = .ok (.iload 6, 2) := by decide +kernel
theorem dX10_ratherOf_83 : decode cX10_ratherOf 83 = .ok (.iload_n 1, 1) := by decide +kernel
theorem dX10_ratherOf_84 : decode cX10_ratherOf 84 = .ok (.invokevirtual 303, 3) := by decide +kernel
theorem dX10_ratherOf_87 : decode cX10_ratherOf 87 = .ok (.aload_n 0, 1) := by decide +kernel
theorem dX10_ratherOf_88 : decode cX10_ratherOf 88 = .ok (.bipush 8, 2) := by decide +kernel
theorem dX10_ratherOf_90 : decode cX10_ratherOf 90 = .ok (.iload_n 1, 1) := by decide +kernel
theorem dX10_ratherOf_91 : decode cX10_ratherOf 91 = .ok (.imul, 1) := by decide +kernel
theorem dX10_ratherOf_92 : decode cX10_ratherOf 92 = .ok (.iload 6, 2) := by decide +kernel
theorem dX10_ratherOf_94 : decode cX10_ratherOf 94 = .ok (.iadd, 1) := by decide +kernel
theorem dX10_ratherOf_95 : decode cX10_ratherOf 95 = .ok (.iload 7, 2) := by decide +kernel
theorem dX10_ratherOf_97 : decode cX10_ratherOf 97 = .ok (.ifCond .ne 7, 3) := by decide +kernel
theorem dX10_ratherOf_100 : decode cX10_ratherOf 100 = .ok (.iconst 1, 1) := by decide +kernel
theorem dX10_ratherOf_101 : decode cX10_ratherOf 101 = .ok (.goto 4, 3) := by decide +kernel
theorem dX10_ratherOf_104 : decode cX10_ratherOf 104 = .ok (.iconst 2, 1) := by decide +kernel
theorem dX10_ratherOf_105 : decode cX10_ratherOf 105 = .ok (.iload 7, 2) := by decide +kernel
theorem dX10_ratherOf_107 : decode cX10_ratherOf 107 = .ok (.iconst 1, 1) := by decide +kernel
theorem dX10_ratherOf_108 : decode cX10_ratherOf 108 = .ok (.isub, 1) := by decide +kernel
theorem dX10_ratherOf_109 : decode cX10_ratherOf 109 = .ok (.iconst (-1), 1) := by decide +kernel
theorem dX10_ratherOf_110 : decode cX10_ratherOf 110 = .ok (.iload 7, 2) := by decide +kernel
theorem dX10_ratherOf_112 : decode cX10_ratherOf 112 = .ok (.ifCond .ne 7, 3) := by decide +kernel
theorem dX10_ratherOf_115 : decode cX10_ratherOf 115 = .ok (.iconst 0, 1) := by decide +kernel
theorem dX10_ratherOf_116 : decode cX10_ratherOf 116 = .ok (.goto 5, 3) := by decide +kernel
theorem dX10_ratherOf_119 : decode cX10_ratherOf 119 = .ok (.bipush 10, 2) := by decide +kernel
theorem dX10_ratherOf_121 : decode cX10_ratherOf 121 = .ok (.invokevirtual 175, 3) := by decide +kernel
theorem dX10_ratherOf_124 : decode cX10_ratherOf 124 = .ok (.aload_n 0, 1) := by decide +kernel
theorem dX10_ratherOf_125 : decode cX10_ratherOf 125 = .ok (.iload_n 1, 1) := by decide +kernel
theorem dX10_ratherOf_126 : decode cX10_ratherOf 126 = .ok (.aload_n 0, 1) := by decide +kernel
theorem dX10_ratherOf_127 : decode cX10_ratherOf 127 = .ok (.getfield 13, 3) := by decide +kernel
theorem dX10_ratherOf_130 : decode cX10_ratherOf 130 = .ok (.invokevirtual 281, 3) := by decide +kernel
theorem dX10_ratherOf_133 : decode cX10_ratherOf 133 = .ok (.aload_n 0, 1) := by decide +kernel
theorem dX10_ratherOf_134 : decode cX10_ratherOf 134 = .ok (.iload_n 1, 1) := by decide +kernel
theorem dX10_ratherOf_135 : decode cX10_ratherOf 135 = .ok (.invokevirtual 300, 3) := by decide +kernel
theorem dX10_ratherOf_138 : decode cX10_ratherOf 138 = .ok (.aload_n 0, 1) := by decide +kernel
theorem dX10_ratherOf_139 : decode cX10_ratherOf 139 = .ok (.iload 6, 2) := by decide +kernel
theorem dX10_ratherOf_141 : decode cX10_ratherOf 141 = .ok (.iload_n 1, 1) := by decide +kernel
theorem dX10_ratherOf_142 : decode cX10_ratherOf 142 = .ok (.invokevirtual 306, 3) := by decide +kernel
theorem dX10_ratherOf_145 : decode cX10_ratherOf 145 = .ok (.aload_n 0, 1) := by decide +kernel
theorem dX10_ratherOf_146 : decode cX10_ratherOf 146 = .ok (.lload_n 2, 1) := by decide +kernel
theorem dX10_ratherOf_147 : decode cX10_ratherOf 147 = .ok (.lload 4, 2) := by decide +kernel
theorem dX10_ratherOf_149 : decode cX10_ratherOf 149 = .ok (.aload_n 0, 1) := by decide +kernel
theorem dX10_ratherOf_150 : decode cX10_ratherOf 150 = .ok (.getfield 141, 3) := by decide +kernel
theorem dX10_ratherOf_153 : decode cX10_ratherOf 153 = .ok (.aload_n 0, 1) := by decide +kernel
theorem dX10_ratherOf_154 : decode cX10_ratherOf 154 = .ok (.getfield 144, 3) := by decide +kernel
theorem dX10_ratherOf_157 : decode cX10_ratherOf 157 = .ok (.invokevirtual 309, 3) := by decide +kernel
theorem dX10_ratherOf_160 : decode cX10_ratherOf 160 = .ok (.ifCond .eq 12, 3) := by decide +kernel
theorem dX10_ratherOf_163 : decode cX10_ratherOf 163 = .ok (.bipush 10, 2) := by decide +kernel
theorem dX10_ratherOf_165 : decode cX10_ratherOf 165 = .ok (.iload 6, 2) := by decide +kernel
theorem dX10_ratherOf_167 : decode cX10_ratherOf 167 = .ok (.imul, 1) := by decide +kernel
theorem dX10_ratherOf_168 : decode cX10_ratherOf 168 = .ok (.iload 7, 2) := by decide +kernel
theorem dX10_ratherOf_170 : decode cX10_ratherOf 170 = .ok (.iadd, 1) := by decide +kernel
theorem dX10_ratherOf_171 : decode cX10_ratherOf 171 = .ok (.ireturn, 1) := by decide +kernel
theorem dX10_ratherOf_172 : decode cX10_ratherOf 172 = .ok (.iinc 7 1, 3) := by decide +kernel
theorem dX10_ratherOf_175 : decode cX10_ratherOf 175 = .ok (.goto (-135), 3) := by decide +kernel
theorem dX10_ratherOf_178 : decode cX10_ratherOf 178 = .ok (.iinc 6 1, 3) := by decide +kernel
theorem dX10_ratherOf_181 : decode cX10_ratherOf 181 = .ok (.goto (-153), 3) := by decide +kernel
theorem dX10_ratherOf_184 : decode cX10_ratherOf 184 = .ok (.bipush (-5), 2) := by decide +kernel
theorem dX10_ratherOf_186 : decode cX10_ratherOf 186 = .ok (.ireturn, 1) := by decide +kernel
theorem dX10_heap_0 : decode cX10_heap 0 = .ok (.aload_n 0, 1) := by decide +kernel
theorem dX10_heap_1 : decode cX10_heap 1 = .ok (.iload_n 1, 1) := by decide +kernel
theorem dX10_heap_2 : decode cX10_heap 2 = .ok (.invokevirtual 183, 3) := by decide +kernel
theorem dX10_heap_5 : decode cX10_heap 5 = .ok (.ifCond .eq 13, 3) := by decide +kernel
theorem dX10_heap_8 : decode cX10_heap 8 = .ok (.aload_n 0, 1) := by decide +kernel
theorem dX10_heap_9 : decode cX10_heap 9 = .ok (.iload_n 2, 1) := by decide +kernel
theorem dX10_heap_10 : decode cX10_heap 10 = .ok (.iconst 0, 1) := by decide +kernel
theorem dX10_heap_11 : decode cX10_heap 11 = .ok (.iconst 1, 1) := by decide +kernel
theorem dX10_heap_12 : decode cX10_heap 12 = .ok (.invokevirtual 171, 3) := by decide +kernel
theorem dX10_heap_15 : decode cX10_heap 15 = .ok (.ifCond .ne 7, 3) := by decide +kernel
theorem dX10_heap_18 : decode cX10_heap 18 = .ok (.ldc2_w 279, 3) := by decide +kernel
theorem dX10_heap_21 : decode cX10_heap 21 = .ok (.lreturn, 1) := by decide +kernel
theorem dX10_heap_22 : decode cX10_heap 22 = .ok (.aload_n 0, 1) := by decide +kernel
theorem dX10_heap_23 : decode cX10_heap 23 = .ok (.iload_n 1, 1) := by decide +kernel
theorem dX10_heap_24 : decode cX10_heap 24 = .ok (.aload_n 0, 1) := by decide +kernel
theorem dX10_heap_25 : decode cX10_heap 25 = .ok (.getfield 13, 3) := by decide +kernel
theorem dX10_heap_28 : decode cX10_heap 28 = .ok (.invokevirtual 281, 3) := by decide +kernel
theorem dX10_heap_31 : decode cX10_heap 31 = .ok (.aload_n 0, 1) := by decide +kernel
theorem dX10_heap_32 : decode cX10_heap 32 = .ok (.aload_n 0, 1) := by decide +kernel
theorem dX10_heap_33 : decode cX10_heap 33 = .ok (.invokevirtual 316, 3) := by decide +kernel
theorem dX10_heap_36 : decode cX10_heap 36 = .ok (.aload_n 0, 1) := by decide +kernel
theorem dX10_heap_37 : decode cX10_heap 37 = .ok (.getfield 134, 3) := by decide +kernel
theorem dX10_heap_40 : decode cX10_heap 40 = .ok (.iload_n 2, 1) := by decide +kernel
theorem dX10_heap_41 : decode cX10_heap 41 = .ok (.invokevirtual 284, 3) := by decide +kernel
theorem dX10_heap_44 : decode cX10_heap 44 = .ok (.lreturn, 1) := by decide +kernel
theorem dX10_mend_0 : decode cX10_mend 0 = .ok (.aload_n 0, 1) := by decide +kernel
theorem dX10_mend_1 : decode cX10_mend 1 = .ok (.iload_n 1, 1) := by decide +kernel
theorem dX10_mend_2 : decode cX10_mend 2 = .ok (.invokevirtual 183, 3) := by decide +kernel
theorem dX10_mend_5 : decode cX10_mend 5 = .ok (.ifCond .ne 5, 3) := by decide +kernel
theorem dX10_mend_8 : decode cX10_mend 8 = .ok (.iconst (-1), 1) := by decide +kernel
theorem dX10_mend_9 : decode cX10_mend 9 = .ok (.ireturn, 1) := by decide +kernel
theorem dX10_mend_10 : decode cX10_mend 10 = .ok (.aload_n 0, 1) := by decide +kernel
theorem dX10_mend_11 : decode cX10_mend 11 = .ok (.iload_n 2, 1) := by decide +kernel
theorem dX10_mend_12 : decode cX10_mend 12 = .ok (.iconst 0, 1) := by decide +kernel
theorem dX10_mend_13 : decode cX10_mend 13 = .ok (.bipush 8, 2) := by decide +kernel
theorem dX10_mend_15 : decode cX10_mend 15 = .ok (.invokevirtual 171, 3) := by decide +kernel
theorem dX10_mend_18 : decode cX10_mend 18 = .ok (.ifCond .eq 14, 3) := by decide +kernel
theorem dX10_mend_21 : decode cX10_mend 21 = .ok (.aload_n 0, 1) := by decide +kernel
theorem dX10_mend_22 : decode cX10_mend 22 = .ok (.iload_n 3, 1) := by decide +kernel
theorem dX10_mend_23 : decode cX10_mend 23 = .ok (.iconst 0, 1) := by decide +kernel
theorem dX10_mend_24 : decode cX10_mend 24 = .ok (.bipush 8, 2) := by decide +kernel
theorem dX10_mend_26 : decode cX10_mend 26 = .ok (.invokevirtual 171, 3) := by decide +kernel
theorem dX10_mend_29 : decode cX10_mend 29 = .ok (.ifCond .ne 6, 3) := by decide +kernel
theorem dX10_mend_32 : decode cX10_mend 32 = .ok (.bipush (-2), 2) := by decide +kernel
theorem dX10_mend_34 : decode cX10_mend 34 = .ok (.ireturn, 1) := by decide +kernel
theorem dX10_mend_35 : decode cX10_mend 35 = .ok (.bipush (-5), 2) := by decide +kernel
theorem dX10_mend_37 : decode cX10_mend 37 = .ok (.istore 4, 2) := by decide +kernel
theorem dX10_mend_39 : decode cX10_mend 39 = .ok (.lconst 0, 1) := by decide +kernel
theorem dX10_mend_40 : decode cX10_mend 40 = .ok (.lstore 5, 2) := by decide +kernel
theorem dX10_mend_42 : decode cX10_mend 42 = .ok (.lconst 1, 1) := by decide +kernel
theorem dX10_mend_43 : decode cX10_mend 43 = .ok (.lstore 7, 2) := by decide +kernel
theorem dX10_mend_45 : decode cX10_mend 45 = .ok (.iconst 0, 1) := by decide +kernel
theorem dX10_mend_46 : decode cX10_mend 46 = .ok (.istore 9, 2) := by decide +kernel
theorem dX10_mend_48 : decode cX10_mend 48 = .ok (.iload 9, 2) := by decide +kernel
theorem dX10_mend_50 : decode cX10_mend 50 = .ok (.iconst 1, 1) := by decide +kernel
theorem dX10_mend_51 : decode cX10_mend 51 = .ok (.aload_n 0, 1) := by decide +kernel
theorem dX10_mend_52 : decode cX10_mend 52 = .ok (.getfield 7, 3) := by decide +kernel
theorem dX10_mend_55 : decode cX10_mend 55 = .ok (.ishl, 1) := by decide +kernel
theorem dX10_mend_56 : decode cX10_mend 56 = .ok (.if_icmp .ge 155, 3) := by decide +kernel
theorem dX10_mend_59 : decode cX10_mend 59 = .ok (.aload_n 0, 1) := by decide +kernel
theorem dX10_mend_60 : decode cX10_mend 60 = .ok (.iload 9, 2) := by decide +kernel
theorem dX10_mend_62 : decode cX10_mend 62 = .ok (.invokevirtual 253, 3) := by decide +kernel
theorem dX10_mend_65 : decode cX10_mend 65 = .ok (.iload_n 3, 1) := by decide +kernel
theorem dX10_mend_66 : decode cX10_mend 66 = .ok (.if_icmp .le 6, 3) := by decide +kernel
theorem dX10_mend_69 : decode cX10_mend 69 = .ok (.goto 136, 3) := by decide +kernel
theorem dX10_mend_72 : decode cX10_mend 72 = .ok (.aload_n 0, 1) := by decide +kernel
theorem dX10_mend_73 : decode cX10_mend 73 = .ok (.iload 9, 2) := by decide +kernel
theorem dX10_mend_75 : decode cX10_mend 75 = .ok (.iload_n 1, 1) := by decide +kernel
theorem dX10_mend_76 : decode cX10_mend 76 = .ok (.invokevirtual 320, 3) := by decide +kernel
theorem dX10_mend_79 : decode cX10_mend 79 = .ok (.aload_n 0, 1) := by decide +kernel
theorem dX10_mend_80 : decode cX10_mend 80 = .ok (.iload_n 1, 1) := by decide +kernel
theorem dX10_mend_81 : decode cX10_mend 81 = .ok (.aload_n 0, 1) := by decide +kernel
theorem dX10_mend_82 : decode cX10_mend 82 = .ok (.getfield 13, 3) := by decide +kernel
theorem dX10_mend_85 : decode cX10_mend 85 = .ok (.invokevirtual 281, 3) := by decide +kernel
theorem dX10_mend_88 : decode cX10_mend 88 = .ok (.aload_n 0, 1) := by decide +kernel
theorem dX10_mend_89 : decode cX10_mend 89 = .ok (.iload_n 1, 1) := by decide +kernel
theorem dX10_mend_90 : decode cX10_mend 90 = .ok (.invokevirtual 323, 3) := by decide +kernel
theorem dX10_mend_93 : decode cX10_mend 93 = .ok (.aload_n 0, 1) := by decide +kernel
theorem dX10_mend_94 : decode cX10_mend 94 = .ok (.invokevirtual 316, 3) := by decide +kernel
theorem dX10_mend_97 : decode cX10_mend 97 = .ok (.iload_n 2, 1) := by decide +kernel
theorem dX10_mend_98 : decode cX10_mend 98 = .ok (.i2l, 1) := by decide +kernel
theorem dX10_mend_99 : decode cX10_mend 99 = .ok (.aload_n 0, 1) := by decide +kernel
theorem dX10_mend_100 : decode cX10_mend 100 = .ok (.getfield 134, 3) := by decide +kernel
theorem dX10_mend_103 : decode cX10_mend 103 = .ok (.lmul, 1) := by decide +kernel
theorem dX10_mend_104 : decode cX10_mend 104 = .ok (.lcmp, 1) := by decide +kernel
theorem dX10_mend_105 : decode cX10_mend 105 = .ok (.ifCond .le 6, 3) := by decide +kernel
theorem dX10_mend_108 : decode cX10_mend 108 = .ok (.goto 97, 3) := by decide +kernel
theorem dX10_mend_111 : decode cX10_mend 111 = .ok (.aload_n 0, 1) := by decide +kernel
theorem dX10_mend_112 : decode cX10_mend 112 = .ok (.iload_n 1, 1) := by decide +kernel
theorem dX10_mend_113 : decode cX10_mend 113 = .ok (.invokevirtual 300, 3) := by decide +kernel
theorem dX10_mend_116 : decode cX10_mend 116 = .ok (.iload 4, 2) := by decide +kernel
theorem dX10_mend_118 : decode cX10_mend 118 = .ok (.ifCond .lt 56, 3) := by decide +kernel
theorem dX10_mend_121 : decode cX10_mend 121 = .ok (.aload_n 0, 1) := by decide +kernel
theorem dX10_mend_122 : decode cX10_mend 122 = .ok (.lload 5, 2) := by decide +kernel
theorem dX10_mend_124 : decode cX10_mend 124 = .ok (.lload 7, 2) := by decide +kernel
theorem dX10_mend_126 : decode cX10_mend 126 = .ok (.aload_n 0, 1) := by decide +kernel
theorem dX10_mend_127 : decode cX10_mend 127 = .ok (.getfield 141, 3) := by decide +kernel
theorem dX10_mend_130 : decode cX10_mend 130 = .ok (.aload_n 0, 1) := by decide +kernel
theorem dX10_mend_131 : decode cX10_mend 131 = .ok (.getfield 144, 3) := by decide +kernel
theorem dX10_mend_134 : decode cX10_mend 134 = .ok (.invokevirtual 309, 3) := by decide +kernel
theorem dX10_mend_137 : decode cX10_mend 137 = .ok (.ifCond .ne 37, 3) := by decide +kernel
theorem dX10_mend_140 : decode cX10_mend 140 = .ok (.aload_n 0, 1) := by decide +kernel
theorem dX10_mend_141 : decode cX10_mend 141 = .ok (.aload_n 0, 1) := by decide +kernel
theorem dX10_mend_142 : decode cX10_mend 142 = .ok (.getfield 141, 3) := by decide +kernel
theorem dX10_mend_145 : decode cX10_mend 145 = .ok (.aload_n 0, 1) := by decide +kernel
theorem dX10_mend_146 : decode cX10_mend 146 = .ok (.getfield 144, 3) := by decide +kernel
theorem dX10_mend_149 : decode cX10_mend 149 = .ok (.lload 5, 2) := by decide +kernel
theorem dX10_mend_151 : decode cX10_mend 151 = .ok (.lload 7, 2) := by decide +kernel
theorem dX10_mend_153 : decode cX10_mend 153 = .ok (.invokevirtual 309, 3) := by decide +kernel
theorem dX10_mend_156 : decode cX10_mend 156 = .ok (.ifCond .ne 22, 3) := by decide +kernel
theorem dX10_mend_159 : decode cX10_mend 159 = .ok (.aload_n 0, 1) := by decide +kernel
theorem dX10_mend_160 : decode cX10_mend 160 = .ok (.iload 9, 2) := by decide +kernel
theorem dX10_mend_162 : decode cX10_mend 162 = .ok (.invokevirtual 253, 3) := by decide +kernel
theorem dX10_mend_165 : decode cX10_mend 165 = .ok (.aload_n 0, 1) := by decide +kernel
theorem dX10_mend_166 : decode cX10_mend 166 = .ok (.iload 4, 2) := by decide +kernel
theorem dX10_mend_168 : decode cX10_mend 168 = .ok (.invokevirtual 253, 3) := by decide +kernel
theorem dX10_mend_171 : decode cX10_mend 171 = .ok (.if_icmp .ge 7, 3) := by decide +kernel
theorem dX10_mend_174 : decode cX10_mend 174 = .ok (.iconst 1, 1) := by decide +kernel
theorem dX10_mend_175 : decode cX10_mend 175 = .ok (.goto 4, 3) := by decide +kernel
theorem dX10_mend_178 : decode cX10_mend 178 = .ok (.iconst 0, 1) := by decide +kernel
theorem dX10_mend_179 : decode cX10_mend 179 = .ok (.istore 10, 2) := by decide +kernel
theorem dX10_mend_181 : decode cX10_mend 181 = .ok (.iload 10, 2) := by decide +kernel
theorem dX10_mend_183 : decode cX10_mend 183 = .ok (.ifCond .ne 6, 3) := by decide +kernel
theorem dX10_mend_186 : decode cX10_mend 186 = .ok (.goto 19, 3) := by decide +kernel
theorem dX10_mend_189 : decode cX10_mend 189 = .ok (.iload 9, 2) := by decide +kernel
theorem dX10_mend_191 : decode cX10_mend 191 = .ok (.istore 4, 2) := by decide +kernel
theorem dX10_mend_193 : decode cX10_mend 193 = .ok (.aload_n 0, 1) := by decide +kernel
theorem dX10_mend_194 : decode cX10_mend 194 = .ok (.getfield 141, 3) := by decide +kernel
theorem dX10_mend_197 : decode cX10_mend 197 = .ok (.lstore 5, 2) := by decide +kernel
theorem dX10_mend_199 : decode cX10_mend 199 = .ok (.aload_n 0, 1) := by decide +kernel
theorem dX10_mend_200 : decode cX10_mend 200 = .ok (.getfield 144, 3) := by decide +kernel
theorem dX10_mend_203 : decode cX10_mend 203 = .ok (.lstore 7, 2) := by decide +kernel
theorem dX10_mend_205 : decode cX10_mend 205 = .ok (.iinc 9 1, 3) := by decide +kernel
theorem dX10_mend_208 : decode cX10_mend 208 = .ok (.goto (-160), 3) := by decide +kernel
theorem dX10_mend_211 : decode cX10_mend 211 = .ok (.iload 4, 2) := by decide +kernel
theorem dX10_mend_213 : decode cX10_mend 213 = .ok (.ireturn, 1) := by decide +kernel
theorem dX10_late_0 : decode cX10_late 0 = .ok (.aload_n 0, 1) := by decide +kernel
theorem dX10_late_1 : decode cX10_late 1 = .ok (.iload_n 1, 1) := by decide +kernel
theorem dX10_late_2 : decode cX10_late 2 = .ok (.invokevirtual 183, 3) := by decide +kernel
theorem dX10_late_5 : decode cX10_late 5 = .ok (.ifCond .ne 5, 3) := by decide +kernel
theorem dX10_late_8 : decode cX10_late 8 = .ok (.iconst (-1), 1) := by decide +kernel
theorem dX10_late_9 : decode cX10_late 9 = .ok (.ireturn, 1) := by decide +kernel
theorem dX10_late_10 : decode cX10_late 10 = .ok (.aload_n 0, 1) := by decide +kernel
theorem dX10_late_11 : decode cX10_late 11 = .ok (.iload_n 1, 1) := by decide +kernel
theorem dX10_late_12 : decode cX10_late 12 = .ok (.aload_n 0, 1) := by decide +kernel
theorem dX10_late_13 : decode cX10_late 13 = .ok (.getfield 13, 3) := by decide +kernel
theorem dX10_late_16 : decode cX10_late 16 = .ok (.invokevirtual 281, 3) := by decide +kernel
theorem dX10_late_19 : decode cX10_late 19 = .ok (.aload_n 0, 1) := by decide +kernel
theorem dX10_late_20 : decode cX10_late 20 = .ok (.aload_n 0, 1) := by decide +kernel
theorem dX10_late_21 : decode cX10_late 21 = .ok (.iload_n 1, 1) := by decide +kernel
theorem dX10_late_22 : decode cX10_late 22 = .ok (.invokevirtual 288, 3) := by decide +kernel
theorem dX10_late_25 : decode cX10_late 25 = .ok (.invokevirtual 291, 3) := by decide +kernel
theorem dX10_late_28 : decode cX10_late 28 = .ok (.istore_n 2, 1) := by decide +kernel
theorem dX10_late_29 : decode cX10_late 29 = .ok (.bipush 99, 2) := by decide +kernel
theorem dX10_late_31 : decode cX10_late 31 = .ok (.istore_n 3, 1) := by decide +kernel
theorem dX10_late_32 : decode cX10_late 32 = .ok (.iload_n 3, 1) := by decide +kernel
theorem dX10_late_33 : decode cX10_late 33 = .ok (.aload_n 0, 1) := by decide +kernel
theorem dX10_late_34 : decode cX10_late 34 = .ok (.getfield 13, 3) := by decide +kernel
theorem dX10_late_37 : decode cX10_late 37 = .ok (.if_icmp .lt 30, 3) := by decide +kernel
theorem dX10_late_40 : decode cX10_late 40 = .ok (.aload_n 0, 1) := by decide +kernel
theorem dX10_late_41 : decode cX10_late 41 = .ok (.iload_n 1, 1) := by decide +kernel
theorem dX10_late_42 : decode cX10_late 42 = .ok (.iload_n 3, 1) := by decide +kernel
theorem dX10_late_43 : decode cX10_late 43 = .ok (.invokevirtual 281, 3) := by decide +kernel
theorem dX10_late_46 : decode cX10_late 46 = .ok (.aload_n 0, 1) := by decide +kernel
theorem dX10_late_47 : decode cX10_late 47 = .ok (.aload_n 0, 1) := by decide +kernel
theorem dX10_late_48 : decode cX10_late 48 = .ok (.iload_n 1, 1) := by decide +kernel
theorem dX10_late_49 : decode cX10_late 49 = .ok (.invokevirtual 288, 3) := by decide +kernel
theorem dX10_late_52 : decode cX10_late 52 = .ok (.invokevirtual 291, 3) := by decide +kernel
theorem dX10_late_55 : decode cX10_late 55 = .ok (.iload_n 2, 1) := by decide +kernel
theorem dX10_late_56 : decode cX10_late 56 = .ok (.if_icmp .eq 5, 3) := by decide +kernel
theorem dX10_late_59 : decode cX10_late 59 = .ok (.iload_n 3, 1) := by decide +kernel
theorem dX10_late_60 : decode cX10_late 60 = .ok (.ireturn, 1) := by decide +kernel
theorem dX10_late_61 : decode cX10_late 61 = .ok (.iinc 3 (-1), 3) := by decide +kernel
theorem dX10_late_64 : decode cX10_late 64 = .ok (.goto (-32), 3) := by decide +kernel
theorem dX10_late_67 : decode cX10_late 67 = .ok (.bipush (-5), 2) := by decide +kernel
theorem dX10_late_69 : decode cX10_late 69 = .ok (.ireturn, 1) := by decide +kernel
theorem dX10_fewest_0 : decode cX10_fewest 0 = .ok (.aload_n 0, 1) := by decide +kernel
theorem dX10_fewest_1 : decode cX10_fewest 1 = .ok (.iload_n 1, 1) := by decide +kernel
theorem dX10_fewest_2 : decode cX10_fewest 2 = .ok (.invokevirtual 183, 3) := by decide +kernel
theorem dX10_fewest_5 : decode cX10_fewest 5 = .ok (.ifCond .ne 5, 3) := by decide +kernel
theorem dX10_fewest_8 : decode cX10_fewest 8 = .ok (.iconst (-1), 1) := by decide +kernel
theorem dX10_fewest_9 : decode cX10_fewest 9 = .ok (.ireturn, 1) := by decide +kernel
theorem dX10_fewest_10 : decode cX10_fewest 10 = .ok (.bipush (-5), 2) := by decide +kernel
theorem dX10_fewest_12 : decode cX10_fewest 12 = .ok (.istore_n 2, 1) := by decide +kernel
theorem dX10_fewest_13 : decode cX10_fewest 13 = .ok (.aload_n 0, 1) := by decide +kernel
theorem dX10_fewest_14 : decode cX10_fewest 14 = .ok (.iload_n 1, 1) := by decide +kernel
theorem dX10_fewest_15 : decode cX10_fewest 15 = .ok (.invokevirtual 288, 3) := by decide +kernel
theorem dX10_fewest_18 : decode cX10_fewest 18 = .ok (.istore_n 3, 1) := by decide +kernel
theorem dX10_fewest_19 : decode cX10_fewest 19 = .ok (.iconst 0, 1) := by decide +kernel
theorem dX10_fewest_20 : decode cX10_fewest 20 = .ok (.istore 4, 2) := by decide +kernel
theorem dX10_fewest_22 : decode cX10_fewest 22 = .ok (.iload 4, 2) := by decide +kernel
theorem dX10_fewest_24 : decode cX10_fewest 24 = .ok (.iconst 1, 1) := by decide +kernel
theorem dX10_fewest_25 : decode cX10_fewest 25 = .ok (.aload_n 0, 1) := by decide +kernel
theorem dX10_fewest_26 : decode cX10_fewest 26 = .ok (.getfield 7, 3) := by decide +kernel
theorem dX10_fewest_29 : decode cX10_fewest 29 = .ok (.ishl, 1) := by decide +kernel
theorem dX10_fewest_30 : decode cX10_fewest 30 = .ok (.if_icmp .ge 72, 3) := by decide +kernel
theorem dX10_fewest_33 : decode cX10_fewest 33 = .ok (.iload 4, 2) := by decide +kernel
theorem dX10_fewest_35 : decode cX10_fewest 35 = .ok (.iload_n 3, 1) := by decide +kernel
theorem dX10_fewest_36 : decode cX10_fewest 36 = .ok (.iand, 1) := by decide +kernel
theorem dX10_fewest_37 : decode cX10_fewest 37 = .ok (.ifCond .ne 59, 3) := by decide +kernel
theorem dX10_fewest_40 : decode cX10_fewest 40 = .ok (.iload_n 2, 1) := by decide +kernel
theorem dX10_fewest_41 : decode cX10_fewest 41 = .ok (.ifCond .lt 20, 3) := by decide +kernel
theorem dX10_fewest_44 : decode cX10_fewest 44 = .ok (.aload_n 0, 1) := by decide +kernel
theorem dX10_fewest_45 : decode cX10_fewest 45 = .ok (.iload 4, 2) := by decide +kernel
theorem dX10_fewest_47 : decode cX10_fewest 47 = .ok (.invokevirtual 253, 3) := by decide +kernel
theorem dX10_fewest_50 : decode cX10_fewest 50 = .ok (.aload_n 0, 1) := by decide +kernel
theorem dX10_fewest_51 : decode cX10_fewest 51 = .ok (.iload_n 2, 1) := by decide +kernel
theorem dX10_fewest_52 : decode cX10_fewest 52 = .ok (.invokevirtual 253, 3) := by decide +kernel
theorem dX10_fewest_55 : decode cX10_fewest 55 = .ok (.if_icmp .lt 6, 3) := by decide +kernel
theorem dX10_fewest_58 : decode cX10_fewest 58 = .ok (.goto 38, 3) := by decide +kernel
theorem dX10_fewest_61 : decode cX10_fewest 61 = .ok (.aload_n 0, 1) := by decide +kernel
theorem dX10_fewest_62 : decode cX10_fewest 62 = .ok (.iload 4, 2) := by decide +kernel
theorem dX10_fewest_64 : decode cX10_fewest 64 = .ok (.iload_n 1, 1) := by decide +kernel
theorem dX10_fewest_65 : decode cX10_fewest 65 = .ok (.invokevirtual 320, 3) := by decide +kernel
theorem dX10_fewest_68 : decode cX10_fewest 68 = .ok (.aload_n 0, 1) := by decide +kernel
theorem dX10_fewest_69 : decode cX10_fewest 69 = .ok (.iload_n 1, 1) := by decide +kernel
theorem dX10_fewest_70 : decode cX10_fewest 70 = .ok (.aload_n 0, 1) := by decide +kernel
theorem dX10_fewest_71 : decode cX10_fewest 71 = .ok (.getfield 13, 3) := by decide +kernel
theorem dX10_fewest_74 : decode cX10_fewest 74 = .ok (.invokevirtual 281, 3) := by decide +kernel
theorem dX10_fewest_77 : decode cX10_fewest 77 = .ok (.aload_n 0, 1) := by decide +kernel
theorem dX10_fewest_78 : decode cX10_fewest 78 = .ok (.iload_n 1, 1) := by decide +kernel
theorem dX10_fewest_79 : decode cX10_fewest 79 = .ok (.invokevirtual 323, 3) := by decide +kernel
theorem dX10_fewest_82 : decode cX10_fewest 82 = .ok (.aload_n 0, 1) := by decide +kernel
theorem dX10_fewest_83 : decode cX10_fewest 83 = .ok (.iload_n 3, 1) := by decide +kernel
theorem dX10_fewest_84 : decode cX10_fewest 84 = .ok (.iload 4, 2) := by decide +kernel
theorem dX10_fewest_86 : decode cX10_fewest 86 = .ok (.ior, 1) := by decide +kernel
theorem dX10_fewest_87 : decode cX10_fewest 87 = .ok (.invokevirtual 291, 3) := by decide +kernel
theorem dX10_fewest_90 : decode cX10_fewest 90 = .ok (.ifCond .eq 6, 3) := by decide +kernel
theorem dX10_fewest_93 : decode cX10_fewest 93 = .ok (.iload 4, 2) := by decide +kernel
theorem dX10_fewest_95 : decode cX10_fewest 95 = .ok (.istore_n 2, 1) := by decide +kernel
theorem dX10_fewest_96 : decode cX10_fewest 96 = .ok (.iinc 4 1, 3) := by decide +kernel
theorem dX10_fewest_99 : decode cX10_fewest 99 = .ok (.goto (-77), 3) := by decide +kernel
theorem dX10_fewest_102 : decode cX10_fewest 102 = .ok (.iload_n 2, 1) := by decide +kernel
theorem dX10_fewest_103 : decode cX10_fewest 103 = .ok (.ireturn, 1) := by decide +kernel
theorem dX10_table_0 : decode cX10_table 0 = .ok (.aload_n 0, 1) := by decide +kernel
theorem dX10_table_1 : decode cX10_table 1 = .ok (.iload_n 1, 1) := by decide +kernel
theorem dX10_table_2 : decode cX10_table 2 = .ok (.invokevirtual 326, 3) := by decide +kernel
theorem dX10_table_5 : decode cX10_table 5 = .ok (.ifCond .eq 11, 3) := by decide +kernel
theorem dX10_table_8 : decode cX10_table 8 = .ok (.aload_n 0, 1) := by decide +kernel
theorem dX10_table_9 : decode cX10_table 9 = .ok (.iload_n 3, 1) := by decide +kernel
theorem dX10_table_10 : decode cX10_table 10 = .ok (.invokevirtual 183, 3) := by decide +kernel
theorem dX10_table_13 : decode cX10_table 13 = .ok (.ifCond .ne 5, 3) := by decide +kernel
theorem dX10_table_16 : decode cX10_table 16 = .ok (.iconst (-1), 1) := by decide +kernel
theorem dX10_table_17 : decode cX10_table 17 = .ok (.ireturn, 1) := by decide +kernel
theorem dX10_table_18 : decode cX10_table 18 = .ok (.aload_n 0, 1) := by decide +kernel
theorem dX10_table_19 : decode cX10_table 19 = .ok (.getfield 159, 3) := by decide +kernel
theorem dX10_table_22 : decode cX10_table 22 = .ok (.iload_n 1, 1) := by decide +kernel
theorem dX10_table_23 : decode cX10_table 23 = .ok (.iaload, 1) := by decide +kernel
theorem dX10_table_24 : decode cX10_table 24 = .ok (.ifCond .lt 16, 3) := by decide +kernel
theorem dX10_table_27 : decode cX10_table 27 = .ok (.aload_n 0, 1) := by decide +kernel
theorem dX10_table_28 : decode cX10_table 28 = .ok (.getfield 159, 3) := by decide +kernel
theorem dX10_table_31 : decode cX10_table 31 = .ok (.iload_n 1, 1) := by decide +kernel
theorem dX10_table_32 : decode cX10_table 32 = .ok (.iaload, 1) := by decide +kernel
theorem dX10_table_33 : decode cX10_table 33 = .ok (.iconst 3, 1) := by decide +kernel
theorem dX10_table_34 : decode cX10_table 34 = .ok (.if_icmp .eq 6, 3) := by decide +kernel
theorem dX10_table_37 : decode cX10_table 37 = .ok (.bipush (-12), 2) := by decide +kernel
theorem dX10_table_39 : decode cX10_table 39 = .ok (.ireturn, 1) := by decide +kernel
theorem dX10_table_40 : decode cX10_table 40 = .ok (.aload_n 0, 1) := by decide +kernel
theorem dX10_table_41 : decode cX10_table 41 = .ok (.iload_n 3, 1) := by decide +kernel
theorem dX10_table_42 : decode cX10_table 42 = .ok (.aload_n 0, 1) := by decide +kernel
theorem dX10_table_43 : decode cX10_table 43 = .ok (.getfield 13, 3) := by decide +kernel
theorem dX10_table_46 : decode cX10_table 46 = .ok (.invokevirtual 281, 3) := by decide +kernel
theorem dX10_table_49 : decode cX10_table 49 = .ok (.iconst 0, 1) := by decide +kernel
theorem dX10_table_50 : decode cX10_table 50 = .ok (.istore 4, 2) := by decide +kernel
theorem dX10_table_52 : decode cX10_table 52 = .ok (.iload 4, 2) := by decide +kernel
theorem dX10_table_54 : decode cX10_table 54 = .ok (.aload_n 0, 1) := by decide +kernel
theorem dX10_table_55 : decode cX10_table 55 = .ok (.getfield 7, 3) := by decide +kernel
theorem dX10_table_58 : decode cX10_table 58 = .ok (.if_icmp .ge 122, 3) := by decide +kernel
theorem dX10_table_61 : decode cX10_table 61 = .ok (.aload_n 0, 1) := by decide +kernel
theorem dX10_table_62 : decode cX10_table 62 = .ok (.getfield 159, 3) := by decide +kernel
theorem dX10_table_65 : decode cX10_table 65 = .ok (.iload_n 1, 1) := by decide +kernel
theorem dX10_table_66 : decode cX10_table 66 = .ok (.iaload, 1) := by decide +kernel
theorem dX10_table_67 : decode cX10_table 67 = .ok (.ifCond .lt 24, 3) := by decide +kernel
theorem dX10_table_70 : decode cX10_table 70 = .ok (.iload_n 2, 1) := by decide +kernel
theorem dX10_table_71 : decode cX10_table 71 = .ok (.ifCond .lt 20, 3) := by decide +kernel
theorem dX10_table_74 : decode cX10_table 74 = .ok (.iload_n 2, 1) := by decide +kernel
theorem dX10_table_75 : decode cX10_table 75 = .ok (.aload_n 0, 1) := by decide +kernel
theorem dX10_table_76 : decode cX10_table 76 = .ok (.getfield 162, 3) := by decide +kernel
theorem dX10_table_79 : decode cX10_table 79 = .ok (.iload_n 1, 1) := by decide +kernel
theorem dX10_table_80 : decode cX10_table 80 = .ok (.iaload, 1) := by decide +kernel
theorem dX10_table_81 : decode cX10_table 81 = .ok (.iconst 2, 1) := by decide +kernel
theorem dX10_table_82 : decode cX10_table 82 = .ok (.iload 4, 2) := by decide +kernel
theorem dX10_table_84 : decode cX10_table 84 = .ok (.imul, 1) := by decide +kernel
theorem dX10_table_85 : decode cX10_table 85 = .ok (.isub, 1) := by decide +kernel
theorem dX10_table_86 : decode cX10_table 86 = .ok (.iconst 2, 1) := by decide +kernel
theorem dX10_table_87 : decode cX10_table 87 = .ok (.isub, 1) := by decide +kernel
theorem dX10_table_88 : decode cX10_table 88 = .ok (.if_icmp .le 9, 3) := by decide +kernel
theorem dX10_table_91 : decode cX10_table 91 = .ok (.bipush 100, 2) := by decide +kernel
theorem dX10_table_93 : decode cX10_table 93 = .ok (.iload 4, 2) := by decide +kernel
theorem dX10_table_95 : decode cX10_table 95 = .ok (.iadd, 1) := by decide +kernel
theorem dX10_table_96 : decode cX10_table 96 = .ok (.ireturn, 1) := by decide +kernel
theorem dX10_table_97 : decode cX10_table 97 = .ok (.aload_n 0, 1) := by decide +kernel
theorem dX10_table_98 : decode cX10_table 98 = .ok (.getfield 165, 3) := by decide +kernel
theorem dX10_table_101 : decode cX10_table 101 = .ok (.bipush 60, 2) := by decide +kernel
theorem dX10_table_103 : decode cX10_table 103 = .ok (.iload_n 1, 1) := by decide +kernel
theorem dX10_table_104 : decode cX10_table 104 = .ok (.imul, 1) := by decide +kernel
theorem dX10_table_105 : decode cX10_table 105 = .ok (.iload_n 2, 1) := by decide +kernel
theorem dX10_table_106 : decode cX10_table 106 = .ok (.iadd, 1) := by decide +kernel
theorem dX10_table_107 : decode cX10_table 107 = .ok (.iconst 2, 1) := by decide +kernel
theorem dX10_table_108 : decode cX10_table 108 = .ok (.iload 4, 2) := by decide +kernel
theorem dX10_table_110 : decode cX10_table 110 = .ok (.imul, 1) := by decide +kernel
theorem dX10_table_111 : decode cX10_table 111 = .ok (.iadd, 1) := by decide +kernel
theorem dX10_table_112 : decode cX10_table 112 = .ok (.laload, 1) := by decide +kernel
theorem dX10_table_113 : decode cX10_table 113 = .ok (.aload_n 0, 1) := by decide +kernel
theorem dX10_table_114 : decode cX10_table 114 = .ok (.aload_n 0, 1) := by decide +kernel
theorem dX10_table_115 : decode cX10_table 115 = .ok (.getfield 127, 3) := by decide +kernel
theorem dX10_table_118 : decode cX10_table 118 = .ok (.iload 4, 2) := by decide +kernel
theorem dX10_table_120 : decode cX10_table 120 = .ok (.laload, 1) := by decide +kernel
theorem dX10_table_121 : decode cX10_table 121 = .ok (.aload_n 0, 1) := by decide +kernel
theorem dX10_table_122 : decode cX10_table 122 = .ok (.getfield 134, 3) := by decide +kernel
theorem dX10_table_125 : decode cX10_table 125 = .ok (.iconst 0, 1) := by decide +kernel
theorem dX10_table_126 : decode cX10_table 126 = .ok (.invokevirtual 284, 3) := by decide +kernel
theorem dX10_table_129 : decode cX10_table 129 = .ok (.lcmp, 1) := by decide +kernel
theorem dX10_table_130 : decode cX10_table 130 = .ok (.ifCond .ne 41, 3) := by decide +kernel
theorem dX10_table_133 : decode cX10_table 133 = .ok (.aload_n 0, 1) := by decide +kernel
theorem dX10_table_134 : decode cX10_table 134 = .ok (.getfield 165, 3) := by decide +kernel
theorem dX10_table_137 : decode cX10_table 137 = .ok (.bipush 60, 2) := by decide +kernel
theorem dX10_table_139 : decode cX10_table 139 = .ok (.iload_n 1, 1) := by decide +kernel
theorem dX10_table_140 : decode cX10_table 140 = .ok (.imul, 1) := by decide +kernel
theorem dX10_table_141 : decode cX10_table 141 = .ok (.iload_n 2, 1) := by decide +kernel
theorem dX10_table_142 : decode cX10_table 142 = .ok (.iadd, 1) := by decide +kernel
theorem dX10_table_143 : decode cX10_table 143 = .ok (.iconst 2, 1) := by decide +kernel
theorem dX10_table_144 : decode cX10_table 144 = .ok (.iload 4, 2) := by decide +kernel
theorem dX10_table_146 : decode cX10_table 146 = .ok (.imul, 1) := by decide +kernel
theorem dX10_table_147 : decode cX10_table 147 = .ok (.iadd, 1) := by decide +kernel
theorem dX10_table_148 : decode cX10_table 148 = .ok (.iconst 1, 1) := by decide +kernel
theorem dX10_table_149 : decode cX10_table 149 = .ok (.iadd, 1) := by decide +kernel
theorem dX10_table_150 : decode cX10_table 150 = .ok (.laload, 1) := by decide +kernel
theorem dX10_table_151 : decode cX10_table 151 = .ok (.aload_n 0, 1) := by decide +kernel
theorem dX10_table_152 : decode cX10_table 152 = .ok (.aload_n 0, 1) := by decide +kernel
theorem dX10_table_153 : decode cX10_table 153 = .ok (.getfield 127, 3) := by decide +kernel
theorem dX10_table_156 : decode cX10_table 156 = .ok (.iload 4, 2) := by decide +kernel
theorem dX10_table_158 : decode cX10_table 158 = .ok (.laload, 1) := by decide +kernel
theorem dX10_table_159 : decode cX10_table 159 = .ok (.aload_n 0, 1) := by decide +kernel
theorem dX10_table_160 : decode cX10_table 160 = .ok (.getfield 134, 3) := by decide +kernel
theorem dX10_table_163 : decode cX10_table 163 = .ok (.iconst 1, 1) := by decide +kernel
theorem dX10_table_164 : decode cX10_table 164 = .ok (.invokevirtual 284, 3) := by decide +kernel
theorem dX10_table_167 : decode cX10_table 167 = .ok (.lcmp, 1) := by decide +kernel
theorem dX10_table_168 : decode cX10_table 168 = .ok (.ifCond .eq 6, 3) := by decide +kernel
theorem dX10_table_171 : decode cX10_table 171 = .ok (.iload 4, 2) := by decide +kernel
theorem dX10_table_173 : decode cX10_table 173 = .ok (.ireturn, 1) := by decide +kernel
theorem dX10_table_174 : decode cX10_table 174 = .ok (.iinc 4 1, 3) := by decide +kernel
theorem dX10_table_177 : decode cX10_table 177 = .ok (.goto (-125), 3) := by decide +kernel
theorem dX10_table_180 : decode cX10_table 180 = .ok (.aload_n 0, 1) := by decide +kernel
theorem dX10_table_181 : decode cX10_table 181 = .ok (.getfield 7, 3) := by decide +kernel
theorem dX10_table_184 : decode cX10_table 184 = .ok (.ireturn, 1) := by decide +kernel
theorem dX10_rather_0 : decode cX10_rather 0 = .ok (.aload_n 0, 1) := by decide +kernel
theorem dX10_rather_1 : decode cX10_rather 1 = .ok (.iload_n 1, 1) := by decide +kernel
theorem dX10_rather_2 : decode cX10_rather 2 = .ok (.invokevirtual 183, 3) := by decide +kernel
theorem dX10_rather_5 : decode cX10_rather 5 = .ok (.ifCond .eq 11, 3) := by decide +kernel
theorem dX10_rather_8 : decode cX10_rather 8 = .ok (.aload_n 0, 1) := by decide +kernel
theorem dX10_rather_9 : decode cX10_rather 9 = .ok (.iload_n 1, 1) := by decide +kernel
theorem dX10_rather_10 : decode cX10_rather 10 = .ok (.invokevirtual 313, 3) := by decide +kernel
theorem dX10_rather_13 : decode cX10_rather 13 = .ok (.goto 4, 3) := by decide +kernel
theorem dX10_rather_16 : decode cX10_rather 16 = .ok (.iconst (-1), 1) := by decide +kernel
theorem dX10_rather_17 : decode cX10_rather 17 = .ok (.ireturn, 1) := by decide +kernel
theorem dX10_settle_0 : decode cX10_settle 0 = .ok (.aload_n 0, 1) := by decide +kernel
theorem dX10_settle_1 : decode cX10_settle 1 = .ok (.iload_n 1, 1) := by decide +kernel
theorem dX10_settle_2 : decode cX10_settle 2 = .ok (.invokevirtual 183, 3) := by decide +kernel
theorem dX10_settle_5 : decode cX10_settle 5 = .ok (.ifCond .ne 5, 3) := by decide +kernel
theorem dX10_settle_8 : decode cX10_settle 8 = .ok (.iconst (-1), 1) := by decide +kernel
theorem dX10_settle_9 : decode cX10_settle 9 = .ok (.ireturn, 1) := by decide +kernel
theorem dX10_settle_10 : decode cX10_settle 10 = .ok (.iconst 0, 1) := by decide +kernel
theorem dX10_settle_11 : decode cX10_settle 11 = .ok (.istore_n 2, 1) := by decide +kernel
theorem dX10_settle_12 : decode cX10_settle 12 = .ok (.iload_n 2, 1) := by decide +kernel
theorem dX10_settle_13 : decode cX10_settle 13 = .ok (.bipush 12, 2) := by decide +kernel
theorem dX10_settle_15 : decode cX10_settle 15 = .ok (.if_icmp .ge 66, 3) := by decide +kernel
theorem dX10_settle_18 : decode cX10_settle 18 = .ok (.aload_n 0, 1) := by decide +kernel
theorem dX10_settle_19 : decode cX10_settle 19 = .ok (.iload_n 1, 1) := by decide +kernel
theorem dX10_settle_20 : decode cX10_settle 20 = .ok (.invokevirtual 313, 3) := by decide +kernel
theorem dX10_settle_23 : decode cX10_settle 23 = .ok (.istore_n 3, 1) := by decide +kernel
theorem dX10_settle_24 : decode cX10_settle 24 = .ok (.iload_n 3, 1) := by decide +kernel
theorem dX10_settle_25 : decode cX10_settle 25 = .ok (.ifCond .ge 5, 3) := by decide +kernel
theorem dX10_settle_28 : decode cX10_settle 28 = .ok (.iload_n 2, 1) := by decide +kernel
theorem dX10_settle_29 : decode cX10_settle 29 = .ok (.ireturn, 1) := by decide +kernel
theorem dX10_settle_30 : decode cX10_settle 30 = .ok (.iload_n 3, 1) := by decide +kernel
theorem dX10_settle_31 : decode cX10_settle 31 = .ok (.bipush 10, 2) := by decide +kernel
theorem dX10_settle_33 : decode cX10_settle 33 = .ok (.irem, 1) := by decide +kernel
theorem dX10_settle_34 : decode cX10_settle 34 = .ok (.istore 4, 2) := by decide +kernel
theorem dX10_settle_36 : decode cX10_settle 36 = .ok (.aload_n 0, 1) := by decide +kernel
theorem dX10_settle_37 : decode cX10_settle 37 = .ok (.bipush 8, 2) := by decide +kernel
theorem dX10_settle_39 : decode cX10_settle 39 = .ok (.iload_n 1, 1) := by decide +kernel
theorem dX10_settle_40 : decode cX10_settle 40 = .ok (.imul, 1) := by decide +kernel
theorem dX10_settle_41 : decode cX10_settle 41 = .ok (.iload_n 3, 1) := by decide +kernel
theorem dX10_settle_42 : decode cX10_settle 42 = .ok (.bipush 10, 2) := by decide +kernel
theorem dX10_settle_44 : decode cX10_settle 44 = .ok (.idiv, 1) := by decide +kernel
theorem dX10_settle_45 : decode cX10_settle 45 = .ok (.iadd, 1) := by decide +kernel
theorem dX10_settle_46 : decode cX10_settle 46 = .ok (.iload 4, 2) := by decide +kernel
theorem dX10_settle_48 : decode cX10_settle 48 = .ok (.ifCond .ne 7, 3) := by decide +kernel
theorem dX10_settle_51 : decode cX10_settle 51 = .ok (.iconst 1, 1) := by decide +kernel
theorem dX10_settle_52 : decode cX10_settle 52 = .ok (.goto 4, 3) := by decide +kernel
theorem dX10_settle_55 : decode cX10_settle 55 = .ok (.iconst 2, 1) := by decide +kernel
theorem dX10_settle_56 : decode cX10_settle 56 = .ok (.iload 4, 2) := by decide +kernel
theorem dX10_settle_58 : decode cX10_settle 58 = .ok (.iconst 1, 1) := by decide +kernel
theorem dX10_settle_59 : decode cX10_settle 59 = .ok (.isub, 1) := by decide +kernel
theorem dX10_settle_60 : decode cX10_settle 60 = .ok (.iconst (-1), 1) := by decide +kernel
theorem dX10_settle_61 : decode cX10_settle 61 = .ok (.iload 4, 2) := by decide +kernel
theorem dX10_settle_63 : decode cX10_settle 63 = .ok (.ifCond .ne 7, 3) := by decide +kernel
theorem dX10_settle_66 : decode cX10_settle 66 = .ok (.iconst 0, 1) := by decide +kernel
theorem dX10_settle_67 : decode cX10_settle 67 = .ok (.goto 5, 3) := by decide +kernel
theorem dX10_settle_70 : decode cX10_settle 70 = .ok (.bipush 10, 2) := by decide +kernel
theorem dX10_settle_72 : decode cX10_settle 72 = .ok (.invokevirtual 175, 3) := by decide +kernel
theorem dX10_settle_75 : decode cX10_settle 75 = .ok (.iinc 2 1, 3) := by decide +kernel
theorem dX10_settle_78 : decode cX10_settle 78 = .ok (.goto (-66), 3) := by decide +kernel
theorem dX10_settle_81 : decode cX10_settle 81 = .ok (.bipush 12, 2) := by decide +kernel
theorem dX10_settle_83 : decode cX10_settle 83 = .ok (.ireturn, 1) := by decide +kernel
def L_X10_ratherOf_28 (l : Launch) (e : hv_Ev)  (Φ : Int32 → hv_S → Prop) (x1 : Int32) (y2 : Int64) (y4 : Int64) (x6 : Int32) (σ : hv_S) : Prop := hv_TW l (hv_e2 e) (hv_rm 13) 0 0 m_X10_ratherOf hv_no (hv_ZI (hv_e2 e) Φ) 28 [(0, .ref 60), (1, .int x1), (2, .long y2), (4, .long y4), (6, .int x6)] [] σ
def L_X10_ratherOf_40 (l : Launch) (e : hv_Ev)  (Φ : Int32 → hv_S → Prop) (x1 : Int32) (y2 : Int64) (y4 : Int64) (x6 : Int32) (x7 : Int32) (σ : hv_S) : Prop := hv_TW l (hv_e2 e) (hv_rm 13) 0 0 m_X10_ratherOf hv_no (hv_ZI (hv_e2 e) Φ) 40 [(0, .ref 60), (1, .int x1), (2, .long y2), (4, .long y4), (6, .int x6), (7, .int x7)] [] σ
def L_X10_ratherOf_80 (l : Launch) (e : hv_Ev)  (Φ : Int32 → hv_S → Prop) (x1 : Int32) (y2 : Int64) (y4 : Int64) (x6 : Int32) (x7 : Int32) (σ : hv_S) : Prop := hv_TW l (hv_e2 e) (hv_rm 13) 0 0 m_X10_ratherOf hv_no (hv_ZI (hv_e2 e) Φ) 80 [(0, .ref 60), (1, .int x1), (2, .long y2), (4, .long y4), (6, .int x6), (7, .int x7)] [] σ
set_option maxHeartbeats 4000000 in
set_option maxRecDepth 100000 in
theorem B_X10_ratherOf_80 {l : Launch} {e : hv_Ev}  (x1 : Int32) (y2 : Int64) (y4 : Int64) (x6 : Int32) (x7 : Int32) {σ : hv_S} {Φ : Int32 → hv_S → Prop} (h : hv_CV l (hv_e2 e) 0 m_X10_keep [.ref 60, .int x6, .int x1] σ (fun s15 => ((x7 ≠ 0 → ((x7 ≠ 0 → hv_CV l (hv_e2 e) 0 m_X10_put [.ref 60, .int ((8 * x1) + x6), .int 2, .int (x7 - 1), .int (-1), .int 10] s15 (fun s18 => hv_CV l (hv_e2 e) 12 m_X10_findVoices [.ref 60, .int x1, .int (s18.1 60 1)] s18 (fun s21 => hv_CV l (hv_e2 e) 2 m_X10_findRight [.ref 60, .int x1] s21 (fun s24 => hv_CV l (hv_e2 e) 1 m_X10_putBack [.ref 60, .int x6, .int x1] s24 (fun s27 => hv_CI l (hv_e2 e) 1 m_X10_isLess [.ref 60, .long y2, .long y4, .long (s27.2.1 60 42), .long (s27.2.1 60 43)] s27 (fun v31 s30 => ((v31 = 0 → L_X10_ratherOf_40 l e Φ x1 y2 y4 x6 (x7 + 1) s30) ∧ (¬ v31 = 0 → Φ ((10 * x6) + x7) s30)))))))) ∧ (x7 = 0 → hv_CV l (hv_e2 e) 0 m_X10_put [.ref 60, .int ((8 * x1) + x6), .int 2, .int (x7 - 1), .int (-1), .int 0] s15 (fun s33 => hv_CV l (hv_e2 e) 12 m_X10_findVoices [.ref 60, .int x1, .int (s33.1 60 1)] s33 (fun s36 => hv_CV l (hv_e2 e) 2 m_X10_findRight [.ref 60, .int x1] s36 (fun s39 => hv_CV l (hv_e2 e) 1 m_X10_putBack [.ref 60, .int x6, .int x1] s39 (fun s42 => hv_CI l (hv_e2 e) 1 m_X10_isLess [.ref 60, .long y2, .long y4, .long (s42.2.1 60 42), .long (s42.2.1 60 43)] s42 (fun v46 s45 => ((v46 = 0 → L_X10_ratherOf_40 l e Φ x1 y2 y4 x6 (x7 + 1) s45) ∧ (¬ v46 = 0 → Φ ((10 * x6) + x7) s45)))))))))) ∧ (x7 = 0 → ((x7 ≠ 0 → hv_CV l (hv_e2 e) 0 m_X10_put [.ref 60, .int ((8 * x1) + x6), .int 1, .int (x7 - 1), .int (-1), .int 10] s15 (fun s48 => hv_CV l (hv_e2 e) 12 m_X10_findVoices [.ref 60, .int x1, .int (s48.1 60 1)] s48 (fun s51 => hv_CV l (hv_e2 e) 2 m_X10_findRight [.ref 60, .int x1] s51 (fun s54 => hv_CV l (hv_e2 e) 1 m_X10_putBack [.ref 60, .int x6, .int x1] s54 (fun s57 => hv_CI l (hv_e2 e) 1 m_X10_isLess [.ref 60, .long y2, .long y4, .long (s57.2.1 60 42), .long (s57.2.1 60 43)] s57 (fun v61 s60 => ((v61 = 0 → L_X10_ratherOf_40 l e Φ x1 y2 y4 x6 (x7 + 1) s60) ∧ (¬ v61 = 0 → Φ ((10 * x6) + x7) s60)))))))) ∧ (x7 = 0 → hv_CV l (hv_e2 e) 0 m_X10_put [.ref 60, .int ((8 * x1) + x6), .int 1, .int (x7 - 1), .int (-1), .int 0] s15 (fun s63 => hv_CV l (hv_e2 e) 12 m_X10_findVoices [.ref 60, .int x1, .int (s63.1 60 1)] s63 (fun s66 => hv_CV l (hv_e2 e) 2 m_X10_findRight [.ref 60, .int x1] s66 (fun s69 => hv_CV l (hv_e2 e) 1 m_X10_putBack [.ref 60, .int x6, .int x1] s69 (fun s72 => hv_CI l (hv_e2 e) 1 m_X10_isLess [.ref 60, .long y2, .long y4, .long (s72.2.1 60 42), .long (s72.2.1 60 43)] s72 (fun v76 s75 => ((v76 = 0 → L_X10_ratherOf_40 l e Φ x1 y2 y4 x6 (x7 + 1) s75) ∧ (¬ v76 = 0 → Φ ((10 * x6) + x7) s75))))))))))))) : L_X10_ratherOf_80 l e Φ x1 y2 y4 x6 x7 σ := by
  show hv_TW l (hv_e2 e) (hv_rm 13) 0 0 m_X10_ratherOf hv_no (hv_ZI (hv_e2 e) Φ) 80 [(0, .ref 60), (1, .int x1), (2, .long y2), (4, .long y4), (6, .int x6), (7, .int x7)] [] σ
  refine T_aload_n dX10_ratherOf_80 rfl 0 rfl ?_
  refine T_iload dX10_ratherOf_81 4 rfl ?_
  refine T_iload_n dX10_ratherOf_83 rfl 1 rfl ?_
  refine T_VV (As := [.int x6, .int x1]) dX10_ratherOf_84 mv_X10_303 hp_60 hs_60 rfl (Nat.le_of_ble_eq_true rfl) (hv_ok1 rfl) rfl h (fun s15 h17 => ?_)
  refine T_aload_n dX10_ratherOf_87 rfl 0 rfl ?_
  refine T_bipush (v := 8) dX10_ratherOf_88 (by decide) ?_
  refine T_iload_n dX10_ratherOf_90 rfl 1 rfl ?_
  refine T_imul dX10_ratherOf_91 ?_
  refine T_iload dX10_ratherOf_92 4 rfl ?_
  refine T_iadd dX10_ratherOf_94 ?_
  refine T_iload dX10_ratherOf_95 5 rfl ?_
  refine T_if_ne (tgt := 104) dX10_ratherOf_97 (by decide) (fun c78 => ?_) (fun c78 => ?_)
  · refine T_iconst (v := 2) dX10_ratherOf_104 (by decide) ?_
    refine T_iload dX10_ratherOf_105 5 rfl ?_
    refine T_iconst (v := 1) dX10_ratherOf_107 (by decide) ?_
    refine T_isub dX10_ratherOf_108 ?_
    refine T_iconst (v := (-1)) dX10_ratherOf_109 (by decide) ?_
    refine T_iload dX10_ratherOf_110 5 rfl ?_
    refine T_if_ne (tgt := 119) dX10_ratherOf_112 (by decide) (fun c79 => ?_) (fun c79 => ?_)
    · refine T_bipush (v := 10) dX10_ratherOf_119 (by decide) ?_
      refine T_VV (As := [.int ((8 * x1) + x6), .int 2, .int (x7 - 1), .int (-1), .int 10]) dX10_ratherOf_121 mv_X10_175 hp_60 hs_60 rfl (Nat.le_of_ble_eq_true rfl) (hv_ok1 rfl) rfl ((h17.1 c78).1 c79) (fun s18 h20 => ?_)
      refine T_aload_n dX10_ratherOf_124 rfl 0 rfl ?_
      refine T_iload_n dX10_ratherOf_125 rfl 1 rfl ?_
      refine T_aload_n dX10_ratherOf_126 rfl 0 rfl ?_
      refine T_get (v := .int (s18.1 60 1)) dX10_ratherOf_127 fl_X10_13 hp_60 hs_60 rfl rfl ?_
      refine T_VV (As := [.int x1, .int (s18.1 60 1)]) dX10_ratherOf_130 mv_X10_281 hp_60 hs_60 rfl (Nat.le_of_ble_eq_true rfl) (hv_ok1 rfl) rfl h20 (fun s21 h23 => ?_)
      refine T_aload_n dX10_ratherOf_133 rfl 0 rfl ?_
      refine T_iload_n dX10_ratherOf_134 rfl 1 rfl ?_
      refine T_VV (As := [.int x1]) dX10_ratherOf_135 mv_X10_300 hp_60 hs_60 rfl (Nat.le_of_ble_eq_true rfl) (hv_ok1 rfl) rfl h23 (fun s24 h26 => ?_)
      refine T_aload_n dX10_ratherOf_138 rfl 0 rfl ?_
      refine T_iload dX10_ratherOf_139 4 rfl ?_
      refine T_iload_n dX10_ratherOf_141 rfl 1 rfl ?_
      refine T_VV (As := [.int x6, .int x1]) dX10_ratherOf_142 mv_X10_306 hp_60 hs_60 rfl (Nat.le_of_ble_eq_true rfl) (hv_ok1 rfl) rfl h26 (fun s27 h29 => ?_)
      refine T_aload_n dX10_ratherOf_145 rfl 0 rfl ?_
      refine T_lload_n dX10_ratherOf_146 rfl 2 rfl ?_
      refine T_lload dX10_ratherOf_147 3 rfl ?_
      refine T_aload_n dX10_ratherOf_149 rfl 0 rfl ?_
      refine T_get (v := .long (s27.2.1 60 42)) dX10_ratherOf_150 fl_X10_141 hp_60 hs_60 rfl rfl ?_
      refine T_aload_n dX10_ratherOf_153 rfl 0 rfl ?_
      refine T_get (v := .long (s27.2.1 60 43)) dX10_ratherOf_154 fl_X10_144 hp_60 hs_60 rfl rfl ?_
      refine T_VI (As := [.long y2, .long y4, .long (s27.2.1 60 42), .long (s27.2.1 60 43)]) dX10_ratherOf_157 mv_X10_309 hp_60 hs_60 rfl (Nat.le_of_ble_eq_true rfl) (hv_ok1 rfl) rfl h29 (fun v31 s30 h32 => ?_)
      refine T_if_eq (tgt := 172) dX10_ratherOf_160 (by decide) (fun c80 => ?_) (fun c80 => ?_)
      · refine T_iinc (v := (x7 + 1)) dX10_ratherOf_172 5 rfl rfl (by decide) rfl ?_
        refine T_goto (tgt := 40) dX10_ratherOf_175 (by decide) ?_
        exact T_sub [1, 2, 3, 4, 5, 0] rfl (h32.1 c80)
      · refine T_bipush (v := 10) dX10_ratherOf_163 (by decide) ?_
        refine T_iload dX10_ratherOf_165 4 rfl ?_
        refine T_imul dX10_ratherOf_167 ?_
        refine T_iload dX10_ratherOf_168 5 rfl ?_
        refine T_iadd dX10_ratherOf_170 ?_
        exact T_iret dX10_ratherOf_171 rfl (h32.2 c80)
    · refine T_iconst (v := 0) dX10_ratherOf_115 (by decide) ?_
      refine T_goto (tgt := 121) dX10_ratherOf_116 (by decide) ?_
      refine T_VV (As := [.int ((8 * x1) + x6), .int 2, .int (x7 - 1), .int (-1), .int 0]) dX10_ratherOf_121 mv_X10_175 hp_60 hs_60 rfl (Nat.le_of_ble_eq_true rfl) (hv_ok1 rfl) rfl ((h17.1 c78).2 c79) (fun s33 h35 => ?_)
      refine T_aload_n dX10_ratherOf_124 rfl 0 rfl ?_
      refine T_iload_n dX10_ratherOf_125 rfl 1 rfl ?_
      refine T_aload_n dX10_ratherOf_126 rfl 0 rfl ?_
      refine T_get (v := .int (s33.1 60 1)) dX10_ratherOf_127 fl_X10_13 hp_60 hs_60 rfl rfl ?_
      refine T_VV (As := [.int x1, .int (s33.1 60 1)]) dX10_ratherOf_130 mv_X10_281 hp_60 hs_60 rfl (Nat.le_of_ble_eq_true rfl) (hv_ok1 rfl) rfl h35 (fun s36 h38 => ?_)
      refine T_aload_n dX10_ratherOf_133 rfl 0 rfl ?_
      refine T_iload_n dX10_ratherOf_134 rfl 1 rfl ?_
      refine T_VV (As := [.int x1]) dX10_ratherOf_135 mv_X10_300 hp_60 hs_60 rfl (Nat.le_of_ble_eq_true rfl) (hv_ok1 rfl) rfl h38 (fun s39 h41 => ?_)
      refine T_aload_n dX10_ratherOf_138 rfl 0 rfl ?_
      refine T_iload dX10_ratherOf_139 4 rfl ?_
      refine T_iload_n dX10_ratherOf_141 rfl 1 rfl ?_
      refine T_VV (As := [.int x6, .int x1]) dX10_ratherOf_142 mv_X10_306 hp_60 hs_60 rfl (Nat.le_of_ble_eq_true rfl) (hv_ok1 rfl) rfl h41 (fun s42 h44 => ?_)
      refine T_aload_n dX10_ratherOf_145 rfl 0 rfl ?_
      refine T_lload_n dX10_ratherOf_146 rfl 2 rfl ?_
      refine T_lload dX10_ratherOf_147 3 rfl ?_
      refine T_aload_n dX10_ratherOf_149 rfl 0 rfl ?_
      refine T_get (v := .long (s42.2.1 60 42)) dX10_ratherOf_150 fl_X10_141 hp_60 hs_60 rfl rfl ?_
      refine T_aload_n dX10_ratherOf_153 rfl 0 rfl ?_
      refine T_get (v := .long (s42.2.1 60 43)) dX10_ratherOf_154 fl_X10_144 hp_60 hs_60 rfl rfl ?_
      refine T_VI (As := [.long y2, .long y4, .long (s42.2.1 60 42), .long (s42.2.1 60 43)]) dX10_ratherOf_157 mv_X10_309 hp_60 hs_60 rfl (Nat.le_of_ble_eq_true rfl) (hv_ok1 rfl) rfl h44 (fun v46 s45 h47 => ?_)
      refine T_if_eq (tgt := 172) dX10_ratherOf_160 (by decide) (fun c81 => ?_) (fun c81 => ?_)
      · refine T_iinc (v := (x7 + 1)) dX10_ratherOf_172 5 rfl rfl (by decide) rfl ?_
        refine T_goto (tgt := 40) dX10_ratherOf_175 (by decide) ?_
        exact T_sub [1, 2, 3, 4, 5, 0] rfl (h47.1 c81)
      · refine T_bipush (v := 10) dX10_ratherOf_163 (by decide) ?_
        refine T_iload dX10_ratherOf_165 4 rfl ?_
        refine T_imul dX10_ratherOf_167 ?_
        refine T_iload dX10_ratherOf_168 5 rfl ?_
        refine T_iadd dX10_ratherOf_170 ?_
        exact T_iret dX10_ratherOf_171 rfl (h47.2 c81)
  · refine T_iconst (v := 1) dX10_ratherOf_100 (by decide) ?_
    refine T_goto (tgt := 105) dX10_ratherOf_101 (by decide) ?_
    refine T_iload dX10_ratherOf_105 5 rfl ?_
    refine T_iconst (v := 1) dX10_ratherOf_107 (by decide) ?_
    refine T_isub dX10_ratherOf_108 ?_
    refine T_iconst (v := (-1)) dX10_ratherOf_109 (by decide) ?_
    refine T_iload dX10_ratherOf_110 5 rfl ?_
    refine T_if_ne (tgt := 119) dX10_ratherOf_112 (by decide) (fun c82 => ?_) (fun c82 => ?_)
    · refine T_bipush (v := 10) dX10_ratherOf_119 (by decide) ?_
      refine T_VV (As := [.int ((8 * x1) + x6), .int 1, .int (x7 - 1), .int (-1), .int 10]) dX10_ratherOf_121 mv_X10_175 hp_60 hs_60 rfl (Nat.le_of_ble_eq_true rfl) (hv_ok1 rfl) rfl ((h17.2 c78).1 c82) (fun s48 h50 => ?_)
      refine T_aload_n dX10_ratherOf_124 rfl 0 rfl ?_
      refine T_iload_n dX10_ratherOf_125 rfl 1 rfl ?_
      refine T_aload_n dX10_ratherOf_126 rfl 0 rfl ?_
      refine T_get (v := .int (s48.1 60 1)) dX10_ratherOf_127 fl_X10_13 hp_60 hs_60 rfl rfl ?_
      refine T_VV (As := [.int x1, .int (s48.1 60 1)]) dX10_ratherOf_130 mv_X10_281 hp_60 hs_60 rfl (Nat.le_of_ble_eq_true rfl) (hv_ok1 rfl) rfl h50 (fun s51 h53 => ?_)
      refine T_aload_n dX10_ratherOf_133 rfl 0 rfl ?_
      refine T_iload_n dX10_ratherOf_134 rfl 1 rfl ?_
      refine T_VV (As := [.int x1]) dX10_ratherOf_135 mv_X10_300 hp_60 hs_60 rfl (Nat.le_of_ble_eq_true rfl) (hv_ok1 rfl) rfl h53 (fun s54 h56 => ?_)
      refine T_aload_n dX10_ratherOf_138 rfl 0 rfl ?_
      refine T_iload dX10_ratherOf_139 4 rfl ?_
      refine T_iload_n dX10_ratherOf_141 rfl 1 rfl ?_
      refine T_VV (As := [.int x6, .int x1]) dX10_ratherOf_142 mv_X10_306 hp_60 hs_60 rfl (Nat.le_of_ble_eq_true rfl) (hv_ok1 rfl) rfl h56 (fun s57 h59 => ?_)
      refine T_aload_n dX10_ratherOf_145 rfl 0 rfl ?_
      refine T_lload_n dX10_ratherOf_146 rfl 2 rfl ?_
      refine T_lload dX10_ratherOf_147 3 rfl ?_
      refine T_aload_n dX10_ratherOf_149 rfl 0 rfl ?_
      refine T_get (v := .long (s57.2.1 60 42)) dX10_ratherOf_150 fl_X10_141 hp_60 hs_60 rfl rfl ?_
      refine T_aload_n dX10_ratherOf_153 rfl 0 rfl ?_
      refine T_get (v := .long (s57.2.1 60 43)) dX10_ratherOf_154 fl_X10_144 hp_60 hs_60 rfl rfl ?_
      refine T_VI (As := [.long y2, .long y4, .long (s57.2.1 60 42), .long (s57.2.1 60 43)]) dX10_ratherOf_157 mv_X10_309 hp_60 hs_60 rfl (Nat.le_of_ble_eq_true rfl) (hv_ok1 rfl) rfl h59 (fun v61 s60 h62 => ?_)
      refine T_if_eq (tgt := 172) dX10_ratherOf_160 (by decide) (fun c83 => ?_) (fun c83 => ?_)
      · refine T_iinc (v := (x7 + 1)) dX10_ratherOf_172 5 rfl rfl (by decide) rfl ?_
        refine T_goto (tgt := 40) dX10_ratherOf_175 (by decide) ?_
        exact T_sub [1, 2, 3, 4, 5, 0] rfl (h62.1 c83)
      · refine T_bipush (v := 10) dX10_ratherOf_163 (by decide) ?_
        refine T_iload dX10_ratherOf_165 4 rfl ?_
        refine T_imul dX10_ratherOf_167 ?_
        refine T_iload dX10_ratherOf_168 5 rfl ?_
        refine T_iadd dX10_ratherOf_170 ?_
        exact T_iret dX10_ratherOf_171 rfl (h62.2 c83)
    · refine T_iconst (v := 0) dX10_ratherOf_115 (by decide) ?_
      refine T_goto (tgt := 121) dX10_ratherOf_116 (by decide) ?_
      refine T_VV (As := [.int ((8 * x1) + x6), .int 1, .int (x7 - 1), .int (-1), .int 0]) dX10_ratherOf_121 mv_X10_175 hp_60 hs_60 rfl (Nat.le_of_ble_eq_true rfl) (hv_ok1 rfl) rfl ((h17.2 c78).2 c82) (fun s63 h65 => ?_)
      refine T_aload_n dX10_ratherOf_124 rfl 0 rfl ?_
      refine T_iload_n dX10_ratherOf_125 rfl 1 rfl ?_
      refine T_aload_n dX10_ratherOf_126 rfl 0 rfl ?_
      refine T_get (v := .int (s63.1 60 1)) dX10_ratherOf_127 fl_X10_13 hp_60 hs_60 rfl rfl ?_
      refine T_VV (As := [.int x1, .int (s63.1 60 1)]) dX10_ratherOf_130 mv_X10_281 hp_60 hs_60 rfl (Nat.le_of_ble_eq_true rfl) (hv_ok1 rfl) rfl h65 (fun s66 h68 => ?_)
      refine T_aload_n dX10_ratherOf_133 rfl 0 rfl ?_
      refine T_iload_n dX10_ratherOf_134 rfl 1 rfl ?_
      refine T_VV (As := [.int x1]) dX10_ratherOf_135 mv_X10_300 hp_60 hs_60 rfl (Nat.le_of_ble_eq_true rfl) (hv_ok1 rfl) rfl h68 (fun s69 h71 => ?_)
      refine T_aload_n dX10_ratherOf_138 rfl 0 rfl ?_
      refine T_iload dX10_ratherOf_139 4 rfl ?_
      refine T_iload_n dX10_ratherOf_141 rfl 1 rfl ?_
      refine T_VV (As := [.int x6, .int x1]) dX10_ratherOf_142 mv_X10_306 hp_60 hs_60 rfl (Nat.le_of_ble_eq_true rfl) (hv_ok1 rfl) rfl h71 (fun s72 h74 => ?_)
      refine T_aload_n dX10_ratherOf_145 rfl 0 rfl ?_
      refine T_lload_n dX10_ratherOf_146 rfl 2 rfl ?_
      refine T_lload dX10_ratherOf_147 3 rfl ?_
      refine T_aload_n dX10_ratherOf_149 rfl 0 rfl ?_
      refine T_get (v := .long (s72.2.1 60 42)) dX10_ratherOf_150 fl_X10_141 hp_60 hs_60 rfl rfl ?_
      refine T_aload_n dX10_ratherOf_153 rfl 0 rfl ?_
      refine T_get (v := .long (s72.2.1 60 43)) dX10_ratherOf_154 fl_X10_144 hp_60 hs_60 rfl rfl ?_
      refine T_VI (As := [.long y2, .long y4, .long (s72.2.1 60 42), .long (s72.2.1 60 43)]) dX10_ratherOf_157 mv_X10_309 hp_60 hs_60 rfl (Nat.le_of_ble_eq_true rfl) (hv_ok1 rfl) rfl h74 (fun v76 s75 h77 => ?_)
      refine T_if_eq (tgt := 172) dX10_ratherOf_160 (by decide) (fun c84 => ?_) (fun c84 => ?_)
      · refine T_iinc (v := (x7 + 1)) dX10_ratherOf_172 5 rfl rfl (by decide) rfl ?_
        refine T_goto (tgt := 40) dX10_ratherOf_175 (by decide) ?_
        exact T_sub [1, 2, 3, 4, 5, 0] rfl (h77.1 c84)
      · refine T_bipush (v := 10) dX10_ratherOf_163 (by decide) ?_
        refine T_iload dX10_ratherOf_165 4 rfl ?_
        refine T_imul dX10_ratherOf_167 ?_
        refine T_iload dX10_ratherOf_168 5 rfl ?_
        refine T_iadd dX10_ratherOf_170 ?_
        exact T_iret dX10_ratherOf_171 rfl (h77.2 c84)
set_option maxHeartbeats 4000000 in
set_option maxRecDepth 100000 in
theorem B_X10_ratherOf_40 {l : Launch} {e : hv_Ev}  (x1 : Int32) (y2 : Int64) (y4 : Int64) (x6 : Int32) (x7 : Int32) {σ : hv_S} {Φ : Int32 → hv_S → Prop} (h : (((σ.1 60 0) < x7 → L_X10_ratherOf_28 l e Φ x1 y2 y4 (x6 + 1) σ) ∧ (¬ (σ.1 60 0) < x7 → (((x7 - 1) = x6 → L_X10_ratherOf_40 l e Φ x1 y2 y4 x6 (x7 + 1) σ) ∧ (¬ (x7 - 1) = x6 → ((x7 ≤ 0 → L_X10_ratherOf_80 l e Φ x1 y2 y4 x6 x7 σ) ∧ (¬ x7 ≤ 0 → hv_CI l (hv_e2 e) 7 m_X10_isBar [.ref 60, .int x6, .int (x7 - 1), .int x1] σ (fun v9 s8 => ((v9 = 0 → L_X10_ratherOf_80 l e Φ x1 y2 y4 x6 x7 s8) ∧ (¬ v9 = 0 → L_X10_ratherOf_40 l e Φ x1 y2 y4 x6 (x7 + 1) s8)))))))))) : L_X10_ratherOf_40 l e Φ x1 y2 y4 x6 x7 σ := by
  show hv_TW l (hv_e2 e) (hv_rm 13) 0 0 m_X10_ratherOf hv_no (hv_ZI (hv_e2 e) Φ) 40 [(0, .ref 60), (1, .int x1), (2, .long y2), (4, .long y4), (6, .int x6), (7, .int x7)] [] σ
  refine T_iload dX10_ratherOf_40 5 rfl ?_
  refine T_aload_n dX10_ratherOf_42 rfl 0 rfl ?_
  refine T_get (v := .int (σ.1 60 0)) dX10_ratherOf_43 fl_X10_7 hp_60 hs_60 rfl rfl ?_
  refine T_icmp_gt (tgt := 178) dX10_ratherOf_46 (by decide) (fun c11 => ?_) (fun c11 => ?_)
  · refine T_iinc (v := (x6 + 1)) dX10_ratherOf_178 4 rfl rfl (by decide) rfl ?_
    refine T_goto (tgt := 28) dX10_ratherOf_181 (by decide) ?_
    exact T_sub [1, 2, 3, 4, 0] rfl (h.1 c11)
  · refine T_iload dX10_ratherOf_49 5 rfl ?_
    refine T_iconst (v := 1) dX10_ratherOf_51 (by decide) ?_
    refine T_isub dX10_ratherOf_52 ?_
    refine T_iload dX10_ratherOf_53 4 rfl ?_
    refine T_icmp_eq (tgt := 172) dX10_ratherOf_55 (by decide) (fun c12 => ?_) (fun c12 => ?_)
    · refine T_iinc (v := (x7 + 1)) dX10_ratherOf_172 5 rfl rfl (by decide) rfl ?_
      refine T_goto (tgt := 40) dX10_ratherOf_175 (by decide) ?_
      exact T_sub [1, 2, 3, 4, 5, 0] rfl ((h.2 c11).1 c12)
    · refine T_iload dX10_ratherOf_58 5 rfl ?_
      refine T_if_le (tgt := 80) dX10_ratherOf_60 (by decide) (fun c13 => ?_) (fun c13 => ?_)
      · exact T_sub [0, 1, 2, 3, 4, 5] rfl (((h.2 c11).2 c12).1 c13)
      · refine T_aload_n dX10_ratherOf_63 rfl 0 rfl ?_
        refine T_iload dX10_ratherOf_64 4 rfl ?_
        refine T_iload dX10_ratherOf_66 5 rfl ?_
        refine T_iconst (v := 1) dX10_ratherOf_68 (by decide) ?_
        refine T_isub dX10_ratherOf_69 ?_
        refine T_iload_n dX10_ratherOf_70 rfl 1 rfl ?_
        refine T_VI (As := [.int x6, .int (x7 - 1), .int x1]) dX10_ratherOf_71 mv_X10_230 hp_60 hs_60 rfl (Nat.le_of_ble_eq_true rfl) (hv_ok1 rfl) rfl (((h.2 c11).2 c12).2 c13) (fun v9 s8 h10 => ?_)
        refine T_if_eq (tgt := 80) dX10_ratherOf_74 (by decide) (fun c14 => ?_) (fun c14 => ?_)
        · exact T_sub [0, 1, 2, 3, 4, 5] rfl (h10.1 c14)
        · refine T_goto (tgt := 172) dX10_ratherOf_77 (by decide) ?_
          refine T_iinc (v := (x7 + 1)) dX10_ratherOf_172 5 rfl rfl (by decide) rfl ?_
          refine T_goto (tgt := 40) dX10_ratherOf_175 (by decide) ?_
          exact T_sub [1, 2, 3, 4, 5, 0] rfl (h10.2 c14)
set_option maxHeartbeats 4000000 in
set_option maxRecDepth 100000 in
theorem B_X10_ratherOf_28 {l : Launch} {e : hv_Ev}  (x1 : Int32) (y2 : Int64) (y4 : Int64) (x6 : Int32) {σ : hv_S} {Φ : Int32 → hv_S → Prop} (h : (((σ.1 60 0) ≤ x6 → Φ (-5) σ) ∧ (¬ (σ.1 60 0) ≤ x6 → L_X10_ratherOf_40 l e Φ x1 y2 y4 x6 0 σ))) : L_X10_ratherOf_28 l e Φ x1 y2 y4 x6 σ := by
  show hv_TW l (hv_e2 e) (hv_rm 13) 0 0 m_X10_ratherOf hv_no (hv_ZI (hv_e2 e) Φ) 28 [(0, .ref 60), (1, .int x1), (2, .long y2), (4, .long y4), (6, .int x6)] [] σ
  refine T_iload dX10_ratherOf_28 4 rfl ?_
  refine T_aload_n dX10_ratherOf_30 rfl 0 rfl ?_
  refine T_get (v := .int (σ.1 60 0)) dX10_ratherOf_31 fl_X10_7 hp_60 hs_60 rfl rfl ?_
  refine T_icmp_ge (tgt := 184) dX10_ratherOf_34 (by decide) (fun c7 => ?_) (fun c7 => ?_)
  · refine T_bipush (v := (-5)) dX10_ratherOf_184 (by decide) ?_
    exact T_iret dX10_ratherOf_186 rfl (h.1 c7)
  · refine T_iconst (v := 0) dX10_ratherOf_37 (by decide) ?_
    refine T_istore dX10_ratherOf_38 (by decide) rfl ?_
    exact T_sub [1, 2, 3, 4, 5, 0] rfl (h.2 c7)
set_option maxHeartbeats 4000000 in
set_option maxRecDepth 100000 in
theorem B_X10_ratherOf {l : Launch} {e : hv_Ev}  (x1 : Int32) {σ : hv_S} {Φ : Int32 → hv_S → Prop} (h : hv_CV l (hv_e2 e) 12 m_X10_findVoices [.ref 60, .int x1, .int (σ.1 60 1)] σ (fun s1 => hv_CV l (hv_e2 e) 2 m_X10_findRight [.ref 60, .int x1] s1 (fun s4 => L_X10_ratherOf_28 l e Φ x1 (s4.2.1 60 42) (s4.2.1 60 43) 0 s4))) : hv_CI l (hv_e2 e) 13 m_X10_ratherOf [.ref 60, .int x1] σ Φ := by
  refine hv_entI (by decide) (Nat.le_of_ble_eq_true rfl) ?_
  show hv_TW l (hv_e2 e) (hv_rm 13) 0 0 m_X10_ratherOf hv_no (hv_ZI (hv_e2 e) Φ) 0 [(0, .ref 60), (1, .int x1)] [] σ
  refine T_aload_n dX10_ratherOf_0 rfl 0 rfl ?_
  refine T_iload_n dX10_ratherOf_1 rfl 1 rfl ?_
  refine T_aload_n dX10_ratherOf_2 rfl 0 rfl ?_
  refine T_get (v := .int (σ.1 60 1)) dX10_ratherOf_3 fl_X10_13 hp_60 hs_60 rfl rfl ?_
  refine T_VV (As := [.int x1, .int (σ.1 60 1)]) dX10_ratherOf_6 mv_X10_281 hp_60 hs_60 rfl (Nat.le_of_ble_eq_true rfl) (hv_ok1 rfl) rfl h (fun s1 h3 => ?_)
  refine T_aload_n dX10_ratherOf_9 rfl 0 rfl ?_
  refine T_iload_n dX10_ratherOf_10 rfl 1 rfl ?_
  refine T_VV (As := [.int x1]) dX10_ratherOf_11 mv_X10_300 hp_60 hs_60 rfl (Nat.le_of_ble_eq_true rfl) (hv_ok1 rfl) rfl h3 (fun s4 h6 => ?_)
  refine T_aload_n dX10_ratherOf_14 rfl 0 rfl ?_
  refine T_get (v := .long (s4.2.1 60 42)) dX10_ratherOf_15 fl_X10_141 hp_60 hs_60 rfl rfl ?_
  refine T_lstore_n dX10_ratherOf_18 rfl (by decide) rfl ?_
  refine T_aload_n dX10_ratherOf_19 rfl 1 rfl ?_
  refine T_get (v := .long (s4.2.1 60 43)) dX10_ratherOf_20 fl_X10_144 hp_60 hs_60 rfl rfl ?_
  refine T_lstore dX10_ratherOf_23 (by decide) rfl ?_
  refine T_iconst (v := 0) dX10_ratherOf_25 (by decide) ?_
  refine T_istore dX10_ratherOf_26 (by decide) rfl ?_
  exact T_sub [3, 4, 2, 1, 0] rfl h6

set_option maxHeartbeats 4000000 in
set_option maxRecDepth 100000 in
theorem B_X10_heap {l : Launch} {e : hv_Ev}  (x1 : Int32) (x2 : Int32) {σ : hv_S} {Φ : Int64 → hv_S → Prop} (h : hv_CI l (hv_e2 e) 1 m_X10_isMatter [.ref 60, .int x1] σ (fun v2 s1 => ((v2 = 0 → Φ (-9223372036854775808) s1) ∧ (¬ v2 = 0 → hv_CI l (hv_e2 e) 0 m_X10_in [.ref 60, .int x2, .int 0, .int 1] s1 (fun v5 s4 => ((v5 ≠ 0 → hv_CV l (hv_e2 e) 12 m_X10_findVoices [.ref 60, .int x1, .int (s4.1 60 1)] s4 (fun s7 => hv_CL l (hv_e2 e) 0 m_X10_heapOf [.ref 60] s7 (fun v11 s10 => hv_CL l (hv_e2 e) 1 m_X10_part [.ref 60, .long v11, .long (s10.2.1 60 40), .int x2] s10 (fun v14 s13 => Φ v14 s13)))) ∧ (v5 = 0 → Φ (-9223372036854775808) s4))))))) : hv_CL l (hv_e2 e) 13 m_X10_heap [.ref 60, .int x1, .int x2] σ Φ := by
  refine hv_entL (by decide) (Nat.le_of_ble_eq_true rfl) ?_
  show hv_TW l (hv_e2 e) (hv_rm 13) 0 0 m_X10_heap hv_no (hv_ZL (hv_e2 e) Φ) 0 [(0, .ref 60), (1, .int x1), (2, .int x2)] [] σ
  refine T_aload_n dX10_heap_0 rfl 0 rfl ?_
  refine T_iload_n dX10_heap_1 rfl 1 rfl ?_
  refine T_VI (As := [.int x1]) dX10_heap_2 mv_X10_183 hp_60 hs_60 rfl (Nat.le_of_ble_eq_true rfl) (hv_ok1 rfl) rfl h (fun v2 s1 h3 => ?_)
  refine T_if_eq (tgt := 18) dX10_heap_5 (by decide) (fun c16 => ?_) (fun c16 => ?_)
  · refine T_ldc2 dX10_heap_18 kl_X10_279 ?_
    exact T_lret dX10_heap_21 rfl (h3.1 c16)
  · refine T_aload_n dX10_heap_8 rfl 0 rfl ?_
    refine T_iload_n dX10_heap_9 rfl 2 rfl ?_
    refine T_iconst (v := 0) dX10_heap_10 (by decide) ?_
    refine T_iconst (v := 1) dX10_heap_11 (by decide) ?_
    refine T_VI (As := [.int x2, .int 0, .int 1]) dX10_heap_12 mv_X10_171 hp_60 hs_60 rfl (Nat.le_of_ble_eq_true rfl) (hv_ok1 rfl) rfl (h3.2 c16) (fun v5 s4 h6 => ?_)
    refine T_if_ne (tgt := 22) dX10_heap_15 (by decide) (fun c17 => ?_) (fun c17 => ?_)
    · refine T_aload_n dX10_heap_22 rfl 0 rfl ?_
      refine T_iload_n dX10_heap_23 rfl 1 rfl ?_
      refine T_aload_n dX10_heap_24 rfl 0 rfl ?_
      refine T_get (v := .int (s4.1 60 1)) dX10_heap_25 fl_X10_13 hp_60 hs_60 rfl rfl ?_
      refine T_VV (As := [.int x1, .int (s4.1 60 1)]) dX10_heap_28 mv_X10_281 hp_60 hs_60 rfl (Nat.le_of_ble_eq_true rfl) (hv_ok1 rfl) rfl (h6.1 c17) (fun s7 h9 => ?_)
      refine T_aload_n dX10_heap_31 rfl 0 rfl ?_
      refine T_aload_n dX10_heap_32 rfl 0 rfl ?_
      refine T_VL (As := []) dX10_heap_33 mv_X10_316 hp_60 hs_60 rfl (Nat.le_of_ble_eq_true rfl) (hv_ok1 rfl) rfl h9 (fun v11 s10 h12 => ?_)
      refine T_aload_n dX10_heap_36 rfl 0 rfl ?_
      refine T_get (v := .long (s10.2.1 60 40)) dX10_heap_37 fl_X10_134 hp_60 hs_60 rfl rfl ?_
      refine T_iload_n dX10_heap_40 rfl 2 rfl ?_
      refine T_VL (As := [.long v11, .long (s10.2.1 60 40), .int x2]) dX10_heap_41 mv_X10_284 hp_60 hs_60 rfl (Nat.le_of_ble_eq_true rfl) (hv_ok1 rfl) rfl h12 (fun v14 s13 h15 => ?_)
      exact T_lret dX10_heap_44 rfl h15
    · refine T_ldc2 dX10_heap_18 kl_X10_279 ?_
      exact T_lret dX10_heap_21 rfl (h6.2 c17)

def L_X10_mend_48 (l : Launch) (e : hv_Ev)  (Φ : Int32 → hv_S → Prop) (x1 : Int32) (x2 : Int32) (x3 : Int32) (x4 : Int32) (y5 : Int64) (y7 : Int64) (x9 : Int32) (σ : hv_S) : Prop := hv_TW l (hv_e2 e) (hv_rm 13) 0 0 m_X10_mend hv_no (hv_ZI (hv_e2 e) Φ) 48 [(0, .ref 60), (1, .int x1), (2, .int x2), (3, .int x3), (4, .int x4), (5, .long y5), (7, .long y7), (9, .int x9)] [] σ
def L_X10_mend_174 (l : Launch) (e : hv_Ev)  (Φ : Int32 → hv_S → Prop) (x1 : Int32) (x2 : Int32) (x3 : Int32) (x4 : Int32) (y5 : Int64) (y7 : Int64) (x9 : Int32) (σ : hv_S) : Prop := hv_TW l (hv_e2 e) (hv_rm 13) 0 0 m_X10_mend hv_no (hv_ZI (hv_e2 e) Φ) 174 [(0, .ref 60), (1, .int x1), (2, .int x2), (3, .int x3), (4, .int x4), (5, .long y5), (7, .long y7), (9, .int x9)] [] σ
def L_X10_mend_178 (l : Launch) (e : hv_Ev)  (Φ : Int32 → hv_S → Prop) (x1 : Int32) (x2 : Int32) (x3 : Int32) (x4 : Int32) (y5 : Int64) (y7 : Int64) (x9 : Int32) (σ : hv_S) : Prop := hv_TW l (hv_e2 e) (hv_rm 13) 0 0 m_X10_mend hv_no (hv_ZI (hv_e2 e) Φ) 178 [(0, .ref 60), (1, .int x1), (2, .int x2), (3, .int x3), (4, .int x4), (5, .long y5), (7, .long y7), (9, .int x9)] [] σ
set_option maxHeartbeats 4000000 in
set_option maxRecDepth 100000 in
theorem B_X10_mend_178 {l : Launch} {e : hv_Ev}  (x1 : Int32) (x2 : Int32) (x3 : Int32) (x4 : Int32) (y5 : Int64) (y7 : Int64) (x9 : Int32) {σ : hv_S} {Φ : Int32 → hv_S → Prop} (h : L_X10_mend_48 l e Φ x1 x2 x3 x4 y5 y7 (x9 + 1) σ) : L_X10_mend_178 l e Φ x1 x2 x3 x4 y5 y7 x9 σ := by
  show hv_TW l (hv_e2 e) (hv_rm 13) 0 0 m_X10_mend hv_no (hv_ZI (hv_e2 e) Φ) 178 [(0, .ref 60), (1, .int x1), (2, .int x2), (3, .int x3), (4, .int x4), (5, .long y5), (7, .long y7), (9, .int x9)] [] σ
  refine T_iconst (v := 0) dX10_mend_178 (by decide) ?_
  refine T_istore dX10_mend_179 (by decide) rfl ?_
  refine T_iload dX10_mend_181 0 rfl ?_
  refine T_if_ne (tgt := 189) dX10_mend_183 (by decide) (fun q => absurd q (by decide)) (fun _ => ?_)
  refine T_goto (tgt := 205) dX10_mend_186 (by decide) ?_
  refine T_iinc (v := (x9 + 1)) dX10_mend_205 8 rfl rfl (by decide) rfl ?_
  refine T_goto (tgt := 48) dX10_mend_208 (by decide) ?_
  exact T_sub [2, 3, 4, 5, 6, 7, 8, 0] rfl h
set_option maxHeartbeats 4000000 in
set_option maxRecDepth 100000 in
theorem B_X10_mend_174 {l : Launch} {e : hv_Ev}  (x1 : Int32) (x2 : Int32) (x3 : Int32) (x4 : Int32) (y5 : Int64) (y7 : Int64) (x9 : Int32) {σ : hv_S} {Φ : Int32 → hv_S → Prop} (h : L_X10_mend_48 l e Φ x1 x2 x3 x9 (σ.2.1 60 42) (σ.2.1 60 43) (x9 + 1) σ) : L_X10_mend_174 l e Φ x1 x2 x3 x4 y5 y7 x9 σ := by
  show hv_TW l (hv_e2 e) (hv_rm 13) 0 0 m_X10_mend hv_no (hv_ZI (hv_e2 e) Φ) 174 [(0, .ref 60), (1, .int x1), (2, .int x2), (3, .int x3), (4, .int x4), (5, .long y5), (7, .long y7), (9, .int x9)] [] σ
  refine T_iconst (v := 1) dX10_mend_174 (by decide) ?_
  refine T_goto (tgt := 179) dX10_mend_175 (by decide) ?_
  refine T_istore dX10_mend_179 (by decide) rfl ?_
  refine T_iload dX10_mend_181 0 rfl ?_
  refine T_if_ne (tgt := 189) dX10_mend_183 (by decide) (fun _ => ?_) (fun q => absurd q (by decide))
  refine T_iload dX10_mend_189 8 rfl ?_
  refine T_istore dX10_mend_191 (by decide) rfl ?_
  refine T_aload_n dX10_mend_193 rfl 2 rfl ?_
  refine T_get (v := .long (σ.2.1 60 42)) dX10_mend_194 fl_X10_141 hp_60 hs_60 rfl rfl ?_
  refine T_lstore dX10_mend_197 (by decide) rfl ?_
  refine T_aload_n dX10_mend_199 rfl 3 rfl ?_
  refine T_get (v := .long (σ.2.1 60 43)) dX10_mend_200 fl_X10_144 hp_60 hs_60 rfl rfl ?_
  refine T_lstore dX10_mend_203 (by decide) rfl ?_
  refine T_iinc (v := (x9 + 1)) dX10_mend_205 8 rfl rfl (by decide) rfl ?_
  refine T_goto (tgt := 48) dX10_mend_208 (by decide) ?_
  exact T_sub [5, 6, 7, 8, 3, 2, 1, 0] rfl h
set_option maxHeartbeats 4000000 in
set_option maxRecDepth 100000 in
theorem B_X10_mend_48 {l : Launch} {e : hv_Ev}  (x1 : Int32) (x2 : Int32) (x3 : Int32) (x4 : Int32) (y5 : Int64) (y7 : Int64) (x9 : Int32) {σ : hv_S} {Φ : Int32 → hv_S → Prop} (h : ((((1 : Int32) <<< ((σ.1 60 0) &&& 31)) ≤ x9 → Φ x4 σ) ∧ (¬ ((1 : Int32) <<< ((σ.1 60 0) &&& 31)) ≤ x9 → hv_CI l (hv_e2 e) 0 m_X10_ones [.ref 60, .int x9] σ (fun v14 s13 => ((v14 ≤ x3 → hv_CV l (hv_e2 e) 1 m_X10_asSelf [.ref 60, .int x9, .int x1] s13 (fun s16 => hv_CV l (hv_e2 e) 12 m_X10_findVoices [.ref 60, .int x1, .int (s16.1 60 1)] s16 (fun s19 => hv_CV l (hv_e2 e) 0 m_X10_asBefore [.ref 60, .int x1] s19 (fun s22 => hv_CL l (hv_e2 e) 0 m_X10_heapOf [.ref 60] s22 (fun v26 s25 => ((v26 ≤ (x2.toInt64 * (s25.2.1 60 40)) → hv_CV l (hv_e2 e) 2 m_X10_findRight [.ref 60, .int x1] s25 (fun s28 => ((x4 < 0 → L_X10_mend_174 l e Φ x1 x2 x3 x4 y5 y7 x9 s28) ∧ (¬ x4 < 0 → hv_CI l (hv_e2 e) 1 m_X10_isLess [.ref 60, .long y5, .long y7, .long (s28.2.1 60 42), .long (s28.2.1 60 43)] s28 (fun v32 s31 => ((v32 ≠ 0 → L_X10_mend_174 l e Φ x1 x2 x3 x4 y5 y7 x9 s31) ∧ (v32 = 0 → hv_CI l (hv_e2 e) 1 m_X10_isLess [.ref 60, .long (s31.2.1 60 42), .long (s31.2.1 60 43), .long y5, .long y7] s31 (fun v35 s34 => ((v35 ≠ 0 → L_X10_mend_178 l e Φ x1 x2 x3 x4 y5 y7 x9 s34) ∧ (v35 = 0 → hv_CI l (hv_e2 e) 0 m_X10_ones [.ref 60, .int x9] s34 (fun v38 s37 => hv_CI l (hv_e2 e) 0 m_X10_ones [.ref 60, .int x4] s37 (fun v41 s40 => ((v41 ≤ v38 → L_X10_mend_178 l e Φ x1 x2 x3 x4 y5 y7 x9 s40) ∧ (¬ v41 ≤ v38 → L_X10_mend_174 l e Φ x1 x2 x3 x4 y5 y7 x9 s40)))))))))))))) ∧ (¬ v26 ≤ (x2.toInt64 * (s25.2.1 60 40)) → L_X10_mend_48 l e Φ x1 x2 x3 x4 y5 y7 (x9 + 1) s25))))))) ∧ (¬ v14 ≤ x3 → L_X10_mend_48 l e Φ x1 x2 x3 x4 y5 y7 (x9 + 1) s13)))))) : L_X10_mend_48 l e Φ x1 x2 x3 x4 y5 y7 x9 σ := by
  show hv_TW l (hv_e2 e) (hv_rm 13) 0 0 m_X10_mend hv_no (hv_ZI (hv_e2 e) Φ) 48 [(0, .ref 60), (1, .int x1), (2, .int x2), (3, .int x3), (4, .int x4), (5, .long y5), (7, .long y7), (9, .int x9)] [] σ
  refine T_iload dX10_mend_48 7 rfl ?_
  refine T_iconst (v := 1) dX10_mend_50 (by decide) ?_
  refine T_aload_n dX10_mend_51 rfl 0 rfl ?_
  refine T_get (v := .int (σ.1 60 0)) dX10_mend_52 fl_X10_7 hp_60 hs_60 rfl rfl ?_
  refine T_ishl dX10_mend_55 ?_
  refine T_icmp_ge (tgt := 211) dX10_mend_56 (by decide) (fun c43 => ?_) (fun c43 => ?_)
  · refine T_iload dX10_mend_211 4 rfl ?_
    exact T_iret dX10_mend_213 rfl (h.1 c43)
  · refine T_aload_n dX10_mend_59 rfl 0 rfl ?_
    refine T_iload dX10_mend_60 7 rfl ?_
    refine T_VI (As := [.int x9]) dX10_mend_62 mv_X10_253 hp_60 hs_60 rfl (Nat.le_of_ble_eq_true rfl) (hv_ok1 rfl) rfl (h.2 c43) (fun v14 s13 h15 => ?_)
    refine T_iload_n dX10_mend_65 rfl 3 rfl ?_
    refine T_icmp_le (tgt := 72) dX10_mend_66 (by decide) (fun c44 => ?_) (fun c44 => ?_)
    · refine T_aload_n dX10_mend_72 rfl 0 rfl ?_
      refine T_iload dX10_mend_73 7 rfl ?_
      refine T_iload_n dX10_mend_75 rfl 1 rfl ?_
      refine T_VV (As := [.int x9, .int x1]) dX10_mend_76 mv_X10_320 hp_60 hs_60 rfl (Nat.le_of_ble_eq_true rfl) (hv_ok1 rfl) rfl (h15.1 c44) (fun s16 h18 => ?_)
      refine T_aload_n dX10_mend_79 rfl 0 rfl ?_
      refine T_iload_n dX10_mend_80 rfl 1 rfl ?_
      refine T_aload_n dX10_mend_81 rfl 0 rfl ?_
      refine T_get (v := .int (s16.1 60 1)) dX10_mend_82 fl_X10_13 hp_60 hs_60 rfl rfl ?_
      refine T_VV (As := [.int x1, .int (s16.1 60 1)]) dX10_mend_85 mv_X10_281 hp_60 hs_60 rfl (Nat.le_of_ble_eq_true rfl) (hv_ok1 rfl) rfl h18 (fun s19 h21 => ?_)
      refine T_aload_n dX10_mend_88 rfl 0 rfl ?_
      refine T_iload_n dX10_mend_89 rfl 1 rfl ?_
      refine T_VV (As := [.int x1]) dX10_mend_90 mv_X10_323 hp_60 hs_60 rfl (Nat.le_of_ble_eq_true rfl) (hv_ok1 rfl) rfl h21 (fun s22 h24 => ?_)
      refine T_aload_n dX10_mend_93 rfl 0 rfl ?_
      refine T_VL (As := []) dX10_mend_94 mv_X10_316 hp_60 hs_60 rfl (Nat.le_of_ble_eq_true rfl) (hv_ok1 rfl) rfl h24 (fun v26 s25 h27 => ?_)
      refine T_iload_n dX10_mend_97 rfl 2 rfl ?_
      refine T_i2l dX10_mend_98 ?_
      refine T_aload_n dX10_mend_99 rfl 0 rfl ?_
      refine T_get (v := .long (s25.2.1 60 40)) dX10_mend_100 fl_X10_134 hp_60 hs_60 rfl rfl ?_
      refine T_lmul dX10_mend_103 ?_
      refine T_lc_le (tgt := 111) dX10_mend_104 dX10_mend_105 (by decide) (fun c45 => ?_) (fun c45 => ?_)
      · refine T_aload_n dX10_mend_111 rfl 0 rfl ?_
        refine T_iload_n dX10_mend_112 rfl 1 rfl ?_
        refine T_VV (As := [.int x1]) dX10_mend_113 mv_X10_300 hp_60 hs_60 rfl (Nat.le_of_ble_eq_true rfl) (hv_ok1 rfl) rfl (h27.1 c45) (fun s28 h30 => ?_)
        refine T_iload dX10_mend_116 4 rfl ?_
        refine T_if_lt (tgt := 174) dX10_mend_118 (by decide) (fun c46 => ?_) (fun c46 => ?_)
        · exact T_sub [0, 1, 2, 3, 4, 5, 6, 7] rfl (h30.1 c46)
        · refine T_aload_n dX10_mend_121 rfl 0 rfl ?_
          refine T_lload dX10_mend_122 5 rfl ?_
          refine T_lload dX10_mend_124 6 rfl ?_
          refine T_aload_n dX10_mend_126 rfl 0 rfl ?_
          refine T_get (v := .long (s28.2.1 60 42)) dX10_mend_127 fl_X10_141 hp_60 hs_60 rfl rfl ?_
          refine T_aload_n dX10_mend_130 rfl 0 rfl ?_
          refine T_get (v := .long (s28.2.1 60 43)) dX10_mend_131 fl_X10_144 hp_60 hs_60 rfl rfl ?_
          refine T_VI (As := [.long y5, .long y7, .long (s28.2.1 60 42), .long (s28.2.1 60 43)]) dX10_mend_134 mv_X10_309 hp_60 hs_60 rfl (Nat.le_of_ble_eq_true rfl) (hv_ok1 rfl) rfl (h30.2 c46) (fun v32 s31 h33 => ?_)
          refine T_if_ne (tgt := 174) dX10_mend_137 (by decide) (fun c47 => ?_) (fun c47 => ?_)
          · exact T_sub [0, 1, 2, 3, 4, 5, 6, 7] rfl (h33.1 c47)
          · refine T_aload_n dX10_mend_140 rfl 0 rfl ?_
            refine T_aload_n dX10_mend_141 rfl 0 rfl ?_
            refine T_get (v := .long (s31.2.1 60 42)) dX10_mend_142 fl_X10_141 hp_60 hs_60 rfl rfl ?_
            refine T_aload_n dX10_mend_145 rfl 0 rfl ?_
            refine T_get (v := .long (s31.2.1 60 43)) dX10_mend_146 fl_X10_144 hp_60 hs_60 rfl rfl ?_
            refine T_lload dX10_mend_149 5 rfl ?_
            refine T_lload dX10_mend_151 6 rfl ?_
            refine T_VI (As := [.long (s31.2.1 60 42), .long (s31.2.1 60 43), .long y5, .long y7]) dX10_mend_153 mv_X10_309 hp_60 hs_60 rfl (Nat.le_of_ble_eq_true rfl) (hv_ok1 rfl) rfl (h33.2 c47) (fun v35 s34 h36 => ?_)
            refine T_if_ne (tgt := 178) dX10_mend_156 (by decide) (fun c48 => ?_) (fun c48 => ?_)
            · exact T_sub [0, 1, 2, 3, 4, 5, 6, 7] rfl (h36.1 c48)
            · refine T_aload_n dX10_mend_159 rfl 0 rfl ?_
              refine T_iload dX10_mend_160 7 rfl ?_
              refine T_VI (As := [.int x9]) dX10_mend_162 mv_X10_253 hp_60 hs_60 rfl (Nat.le_of_ble_eq_true rfl) (hv_ok1 rfl) rfl (h36.2 c48) (fun v38 s37 h39 => ?_)
              refine T_aload_n dX10_mend_165 rfl 0 rfl ?_
              refine T_iload dX10_mend_166 4 rfl ?_
              refine T_VI (As := [.int x4]) dX10_mend_168 mv_X10_253 hp_60 hs_60 rfl (Nat.le_of_ble_eq_true rfl) (hv_ok1 rfl) rfl h39 (fun v41 s40 h42 => ?_)
              refine T_icmp_ge (tgt := 178) dX10_mend_171 (by decide) (fun c49 => ?_) (fun c49 => ?_)
              · exact T_sub [0, 1, 2, 3, 4, 5, 6, 7] rfl (h42.1 c49)
              · exact T_sub [0, 1, 2, 3, 4, 5, 6, 7] rfl (h42.2 c49)
      · refine T_goto (tgt := 205) dX10_mend_108 (by decide) ?_
        refine T_iinc (v := (x9 + 1)) dX10_mend_205 7 rfl rfl (by decide) rfl ?_
        refine T_goto (tgt := 48) dX10_mend_208 (by decide) ?_
        exact T_sub [1, 2, 3, 4, 5, 6, 7, 0] rfl (h27.2 c45)
    · refine T_goto (tgt := 205) dX10_mend_69 (by decide) ?_
      refine T_iinc (v := (x9 + 1)) dX10_mend_205 7 rfl rfl (by decide) rfl ?_
      refine T_goto (tgt := 48) dX10_mend_208 (by decide) ?_
      exact T_sub [1, 2, 3, 4, 5, 6, 7, 0] rfl (h15.2 c44)
set_option maxHeartbeats 4000000 in
set_option maxRecDepth 100000 in
theorem B_X10_mend {l : Launch} {e : hv_Ev}  (x1 : Int32) (x2 : Int32) (x3 : Int32) {σ : hv_S} {Φ : Int32 → hv_S → Prop} (h : hv_CI l (hv_e2 e) 1 m_X10_isMatter [.ref 60, .int x1] σ (fun v2 s1 => ((v2 ≠ 0 → hv_CI l (hv_e2 e) 0 m_X10_in [.ref 60, .int x2, .int 0, .int 8] s1 (fun v5 s4 => ((v5 = 0 → Φ (-2) s4) ∧ (¬ v5 = 0 → hv_CI l (hv_e2 e) 0 m_X10_in [.ref 60, .int x3, .int 0, .int 8] s4 (fun v8 s7 => ((v8 ≠ 0 → L_X10_mend_48 l e Φ x1 x2 x3 (-5) 0 1 0 s7) ∧ (v8 = 0 → Φ (-2) s7))))))) ∧ (v2 = 0 → Φ (-1) s1)))) : hv_CI l (hv_e2 e) 13 m_X10_mend [.ref 60, .int x1, .int x2, .int x3] σ Φ := by
  refine hv_entI (by decide) (Nat.le_of_ble_eq_true rfl) ?_
  show hv_TW l (hv_e2 e) (hv_rm 13) 0 0 m_X10_mend hv_no (hv_ZI (hv_e2 e) Φ) 0 [(0, .ref 60), (1, .int x1), (2, .int x2), (3, .int x3)] [] σ
  refine T_aload_n dX10_mend_0 rfl 0 rfl ?_
  refine T_iload_n dX10_mend_1 rfl 1 rfl ?_
  refine T_VI (As := [.int x1]) dX10_mend_2 mv_X10_183 hp_60 hs_60 rfl (Nat.le_of_ble_eq_true rfl) (hv_ok1 rfl) rfl h (fun v2 s1 h3 => ?_)
  refine T_if_ne (tgt := 10) dX10_mend_5 (by decide) (fun c10 => ?_) (fun c10 => ?_)
  · refine T_aload_n dX10_mend_10 rfl 0 rfl ?_
    refine T_iload_n dX10_mend_11 rfl 2 rfl ?_
    refine T_iconst (v := 0) dX10_mend_12 (by decide) ?_
    refine T_bipush (v := 8) dX10_mend_13 (by decide) ?_
    refine T_VI (As := [.int x2, .int 0, .int 8]) dX10_mend_15 mv_X10_171 hp_60 hs_60 rfl (Nat.le_of_ble_eq_true rfl) (hv_ok1 rfl) rfl (h3.1 c10) (fun v5 s4 h6 => ?_)
    refine T_if_eq (tgt := 32) dX10_mend_18 (by decide) (fun c11 => ?_) (fun c11 => ?_)
    · refine T_bipush (v := (-2)) dX10_mend_32 (by decide) ?_
      exact T_iret dX10_mend_34 rfl (h6.1 c11)
    · refine T_aload_n dX10_mend_21 rfl 0 rfl ?_
      refine T_iload_n dX10_mend_22 rfl 3 rfl ?_
      refine T_iconst (v := 0) dX10_mend_23 (by decide) ?_
      refine T_bipush (v := 8) dX10_mend_24 (by decide) ?_
      refine T_VI (As := [.int x3, .int 0, .int 8]) dX10_mend_26 mv_X10_171 hp_60 hs_60 rfl (Nat.le_of_ble_eq_true rfl) (hv_ok1 rfl) rfl (h6.2 c11) (fun v8 s7 h9 => ?_)
      refine T_if_ne (tgt := 35) dX10_mend_29 (by decide) (fun c12 => ?_) (fun c12 => ?_)
      · refine T_bipush (v := (-5)) dX10_mend_35 (by decide) ?_
        refine T_istore dX10_mend_37 (by decide) rfl ?_
        refine T_lconst (v := 0) dX10_mend_39 (by decide) ?_
        refine T_lstore dX10_mend_40 (by decide) rfl ?_
        refine T_lconst (v := 1) dX10_mend_42 (by decide) ?_
        refine T_lstore dX10_mend_43 (by decide) rfl ?_
        refine T_iconst (v := 0) dX10_mend_45 (by decide) ?_
        refine T_istore dX10_mend_46 (by decide) rfl ?_
        exact T_sub [4, 5, 6, 7, 3, 2, 1, 0] rfl (h9.1 c12)
      · refine T_bipush (v := (-2)) dX10_mend_32 (by decide) ?_
        exact T_iret dX10_mend_34 rfl (h9.2 c12)
  · refine T_iconst (v := (-1)) dX10_mend_8 (by decide) ?_
    exact T_iret dX10_mend_9 rfl (h3.2 c10)

def L_X10_late_32 (l : Launch) (e : hv_Ev)  (Φ : Int32 → hv_S → Prop) (x1 : Int32) (x2 : Int32) (x3 : Int32) (σ : hv_S) : Prop := hv_TW l (hv_e2 e) (hv_rm 13) 0 0 m_X10_late hv_no (hv_ZI (hv_e2 e) Φ) 32 [(0, .ref 60), (1, .int x1), (2, .int x2), (3, .int x3)] [] σ
set_option maxHeartbeats 4000000 in
set_option maxRecDepth 100000 in
theorem B_X10_late_32 {l : Launch} {e : hv_Ev}  (x1 : Int32) (x2 : Int32) (x3 : Int32) {σ : hv_S} {Φ : Int32 → hv_S → Prop} (h : ((x3 < (σ.1 60 1) → Φ (-5) σ) ∧ (¬ x3 < (σ.1 60 1) → hv_CV l (hv_e2 e) 12 m_X10_findVoices [.ref 60, .int x1, .int x3] σ (fun s14 => hv_CI l (hv_e2 e) 0 m_X10_thinks [.ref 60, .int x1] s14 (fun v18 s17 => hv_CI l (hv_e2 e) 1 m_X10_decides [.ref 60, .int v18] s17 (fun v21 s20 => ((v21 = x2 → L_X10_late_32 l e Φ x1 x2 (x3 + (-1)) s20) ∧ (¬ v21 = x2 → Φ x3 s20)))))))) : L_X10_late_32 l e Φ x1 x2 x3 σ := by
  show hv_TW l (hv_e2 e) (hv_rm 13) 0 0 m_X10_late hv_no (hv_ZI (hv_e2 e) Φ) 32 [(0, .ref 60), (1, .int x1), (2, .int x2), (3, .int x3)] [] σ
  refine T_iload_n dX10_late_32 rfl 3 rfl ?_
  refine T_aload_n dX10_late_33 rfl 0 rfl ?_
  refine T_get (v := .int (σ.1 60 1)) dX10_late_34 fl_X10_13 hp_60 hs_60 rfl rfl ?_
  refine T_icmp_lt (tgt := 67) dX10_late_37 (by decide) (fun c23 => ?_) (fun c23 => ?_)
  · refine T_bipush (v := (-5)) dX10_late_67 (by decide) ?_
    exact T_iret dX10_late_69 rfl (h.1 c23)
  · refine T_aload_n dX10_late_40 rfl 0 rfl ?_
    refine T_iload_n dX10_late_41 rfl 1 rfl ?_
    refine T_iload_n dX10_late_42 rfl 3 rfl ?_
    refine T_VV (As := [.int x1, .int x3]) dX10_late_43 mv_X10_281 hp_60 hs_60 rfl (Nat.le_of_ble_eq_true rfl) (hv_ok1 rfl) rfl (h.2 c23) (fun s14 h16 => ?_)
    refine T_aload_n dX10_late_46 rfl 0 rfl ?_
    refine T_aload_n dX10_late_47 rfl 0 rfl ?_
    refine T_iload_n dX10_late_48 rfl 1 rfl ?_
    refine T_VI (As := [.int x1]) dX10_late_49 mv_X10_288 hp_60 hs_60 rfl (Nat.le_of_ble_eq_true rfl) (hv_ok1 rfl) rfl h16 (fun v18 s17 h19 => ?_)
    refine T_VI (As := [.int v18]) dX10_late_52 mv_X10_291 hp_60 hs_60 rfl (Nat.le_of_ble_eq_true rfl) (hv_ok1 rfl) rfl h19 (fun v21 s20 h22 => ?_)
    refine T_iload_n dX10_late_55 rfl 2 rfl ?_
    refine T_icmp_eq (tgt := 61) dX10_late_56 (by decide) (fun c24 => ?_) (fun c24 => ?_)
    · refine T_iinc (v := (x3 + (-1))) dX10_late_61 3 rfl rfl (by decide) rfl ?_
      refine T_goto (tgt := 32) dX10_late_64 (by decide) ?_
      exact T_sub [1, 2, 3, 0] rfl (h22.1 c24)
    · refine T_iload_n dX10_late_59 rfl 3 rfl ?_
      exact T_iret dX10_late_60 rfl (h22.2 c24)
set_option maxHeartbeats 4000000 in
set_option maxRecDepth 100000 in
theorem B_X10_late {l : Launch} {e : hv_Ev}  (x1 : Int32) {σ : hv_S} {Φ : Int32 → hv_S → Prop} (h : hv_CI l (hv_e2 e) 1 m_X10_isMatter [.ref 60, .int x1] σ (fun v2 s1 => ((v2 ≠ 0 → hv_CV l (hv_e2 e) 12 m_X10_findVoices [.ref 60, .int x1, .int (s1.1 60 1)] s1 (fun s4 => hv_CI l (hv_e2 e) 0 m_X10_thinks [.ref 60, .int x1] s4 (fun v8 s7 => hv_CI l (hv_e2 e) 1 m_X10_decides [.ref 60, .int v8] s7 (fun v11 s10 => L_X10_late_32 l e Φ x1 v11 99 s10)))) ∧ (v2 = 0 → Φ (-1) s1)))) : hv_CI l (hv_e2 e) 13 m_X10_late [.ref 60, .int x1] σ Φ := by
  refine hv_entI (by decide) (Nat.le_of_ble_eq_true rfl) ?_
  show hv_TW l (hv_e2 e) (hv_rm 13) 0 0 m_X10_late hv_no (hv_ZI (hv_e2 e) Φ) 0 [(0, .ref 60), (1, .int x1)] [] σ
  refine T_aload_n dX10_late_0 rfl 0 rfl ?_
  refine T_iload_n dX10_late_1 rfl 1 rfl ?_
  refine T_VI (As := [.int x1]) dX10_late_2 mv_X10_183 hp_60 hs_60 rfl (Nat.le_of_ble_eq_true rfl) (hv_ok1 rfl) rfl h (fun v2 s1 h3 => ?_)
  refine T_if_ne (tgt := 10) dX10_late_5 (by decide) (fun c13 => ?_) (fun c13 => ?_)
  · refine T_aload_n dX10_late_10 rfl 0 rfl ?_
    refine T_iload_n dX10_late_11 rfl 1 rfl ?_
    refine T_aload_n dX10_late_12 rfl 0 rfl ?_
    refine T_get (v := .int (s1.1 60 1)) dX10_late_13 fl_X10_13 hp_60 hs_60 rfl rfl ?_
    refine T_VV (As := [.int x1, .int (s1.1 60 1)]) dX10_late_16 mv_X10_281 hp_60 hs_60 rfl (Nat.le_of_ble_eq_true rfl) (hv_ok1 rfl) rfl (h3.1 c13) (fun s4 h6 => ?_)
    refine T_aload_n dX10_late_19 rfl 0 rfl ?_
    refine T_aload_n dX10_late_20 rfl 0 rfl ?_
    refine T_iload_n dX10_late_21 rfl 1 rfl ?_
    refine T_VI (As := [.int x1]) dX10_late_22 mv_X10_288 hp_60 hs_60 rfl (Nat.le_of_ble_eq_true rfl) (hv_ok1 rfl) rfl h6 (fun v8 s7 h9 => ?_)
    refine T_VI (As := [.int v8]) dX10_late_25 mv_X10_291 hp_60 hs_60 rfl (Nat.le_of_ble_eq_true rfl) (hv_ok1 rfl) rfl h9 (fun v11 s10 h12 => ?_)
    refine T_istore_n dX10_late_28 rfl (by decide) rfl ?_
    refine T_bipush (v := 99) dX10_late_29 (by decide) ?_
    refine T_istore_n dX10_late_31 rfl (by decide) rfl ?_
    exact T_sub [2, 3, 1, 0] rfl h12
  · refine T_iconst (v := (-1)) dX10_late_8 (by decide) ?_
    exact T_iret dX10_late_9 rfl (h3.2 c13)

def L_X10_fewest_22 (l : Launch) (e : hv_Ev)  (Φ : Int32 → hv_S → Prop) (x1 : Int32) (x2 : Int32) (x3 : Int32) (x4 : Int32) (σ : hv_S) : Prop := hv_TW l (hv_e2 e) (hv_rm 13) 0 0 m_X10_fewest hv_no (hv_ZI (hv_e2 e) Φ) 22 [(0, .ref 60), (1, .int x1), (2, .int x2), (3, .int x3), (4, .int x4)] [] σ
def L_X10_fewest_61 (l : Launch) (e : hv_Ev)  (Φ : Int32 → hv_S → Prop) (x1 : Int32) (x2 : Int32) (x3 : Int32) (x4 : Int32) (σ : hv_S) : Prop := hv_TW l (hv_e2 e) (hv_rm 13) 0 0 m_X10_fewest hv_no (hv_ZI (hv_e2 e) Φ) 61 [(0, .ref 60), (1, .int x1), (2, .int x2), (3, .int x3), (4, .int x4)] [] σ
set_option maxHeartbeats 4000000 in
set_option maxRecDepth 100000 in
theorem B_X10_fewest_61 {l : Launch} {e : hv_Ev}  (x1 : Int32) (x2 : Int32) (x3 : Int32) (x4 : Int32) {σ : hv_S} {Φ : Int32 → hv_S → Prop} (h : hv_CV l (hv_e2 e) 1 m_X10_asSelf [.ref 60, .int x4, .int x1] σ (fun s18 => hv_CV l (hv_e2 e) 12 m_X10_findVoices [.ref 60, .int x1, .int (s18.1 60 1)] s18 (fun s21 => hv_CV l (hv_e2 e) 0 m_X10_asBefore [.ref 60, .int x1] s21 (fun s24 => hv_CI l (hv_e2 e) 1 m_X10_decides [.ref 60, .int (x3 ||| x4)] s24 (fun v28 s27 => ((v28 = 0 → L_X10_fewest_22 l e Φ x1 x2 x3 (x4 + 1) s27) ∧ (¬ v28 = 0 → L_X10_fewest_22 l e Φ x1 x4 x3 (x4 + 1) s27))))))) : L_X10_fewest_61 l e Φ x1 x2 x3 x4 σ := by
  show hv_TW l (hv_e2 e) (hv_rm 13) 0 0 m_X10_fewest hv_no (hv_ZI (hv_e2 e) Φ) 61 [(0, .ref 60), (1, .int x1), (2, .int x2), (3, .int x3), (4, .int x4)] [] σ
  refine T_aload_n dX10_fewest_61 rfl 0 rfl ?_
  refine T_iload dX10_fewest_62 4 rfl ?_
  refine T_iload_n dX10_fewest_64 rfl 1 rfl ?_
  refine T_VV (As := [.int x4, .int x1]) dX10_fewest_65 mv_X10_320 hp_60 hs_60 rfl (Nat.le_of_ble_eq_true rfl) (hv_ok1 rfl) rfl h (fun s18 h20 => ?_)
  refine T_aload_n dX10_fewest_68 rfl 0 rfl ?_
  refine T_iload_n dX10_fewest_69 rfl 1 rfl ?_
  refine T_aload_n dX10_fewest_70 rfl 0 rfl ?_
  refine T_get (v := .int (s18.1 60 1)) dX10_fewest_71 fl_X10_13 hp_60 hs_60 rfl rfl ?_
  refine T_VV (As := [.int x1, .int (s18.1 60 1)]) dX10_fewest_74 mv_X10_281 hp_60 hs_60 rfl (Nat.le_of_ble_eq_true rfl) (hv_ok1 rfl) rfl h20 (fun s21 h23 => ?_)
  refine T_aload_n dX10_fewest_77 rfl 0 rfl ?_
  refine T_iload_n dX10_fewest_78 rfl 1 rfl ?_
  refine T_VV (As := [.int x1]) dX10_fewest_79 mv_X10_323 hp_60 hs_60 rfl (Nat.le_of_ble_eq_true rfl) (hv_ok1 rfl) rfl h23 (fun s24 h26 => ?_)
  refine T_aload_n dX10_fewest_82 rfl 0 rfl ?_
  refine T_iload_n dX10_fewest_83 rfl 3 rfl ?_
  refine T_iload dX10_fewest_84 4 rfl ?_
  refine T_ior dX10_fewest_86 ?_
  refine T_VI (As := [.int (x3 ||| x4)]) dX10_fewest_87 mv_X10_291 hp_60 hs_60 rfl (Nat.le_of_ble_eq_true rfl) (hv_ok1 rfl) rfl h26 (fun v28 s27 h29 => ?_)
  refine T_if_eq (tgt := 96) dX10_fewest_90 (by decide) (fun c30 => ?_) (fun c30 => ?_)
  · refine T_iinc (v := (x4 + 1)) dX10_fewest_96 4 rfl rfl (by decide) rfl ?_
    refine T_goto (tgt := 22) dX10_fewest_99 (by decide) ?_
    exact T_sub [1, 2, 3, 4, 0] rfl (h29.1 c30)
  · refine T_iload dX10_fewest_93 4 rfl ?_
    refine T_istore_n dX10_fewest_95 rfl (by decide) rfl ?_
    refine T_iinc (v := (x4 + 1)) dX10_fewest_96 4 rfl rfl (by decide) rfl ?_
    refine T_goto (tgt := 22) dX10_fewest_99 (by decide) ?_
    exact T_sub [2, 3, 1, 4, 0] rfl (h29.2 c30)
set_option maxHeartbeats 4000000 in
set_option maxRecDepth 100000 in
theorem B_X10_fewest_22 {l : Launch} {e : hv_Ev}  (x1 : Int32) (x2 : Int32) (x3 : Int32) (x4 : Int32) {σ : hv_S} {Φ : Int32 → hv_S → Prop} (h : ((((1 : Int32) <<< ((σ.1 60 0) &&& 31)) ≤ x4 → Φ x2 σ) ∧ (¬ ((1 : Int32) <<< ((σ.1 60 0) &&& 31)) ≤ x4 → (((x4 &&& x3) ≠ 0 → L_X10_fewest_22 l e Φ x1 x2 x3 (x4 + 1) σ) ∧ ((x4 &&& x3) = 0 → ((x2 < 0 → L_X10_fewest_61 l e Φ x1 x2 x3 x4 σ) ∧ (¬ x2 < 0 → hv_CI l (hv_e2 e) 0 m_X10_ones [.ref 60, .int x4] σ (fun v9 s8 => hv_CI l (hv_e2 e) 0 m_X10_ones [.ref 60, .int x2] s8 (fun v12 s11 => ((v9 < v12 → L_X10_fewest_61 l e Φ x1 x2 x3 x4 s11) ∧ (¬ v9 < v12 → L_X10_fewest_22 l e Φ x1 x2 x3 (x4 + 1) s11))))))))))) : L_X10_fewest_22 l e Φ x1 x2 x3 x4 σ := by
  show hv_TW l (hv_e2 e) (hv_rm 13) 0 0 m_X10_fewest hv_no (hv_ZI (hv_e2 e) Φ) 22 [(0, .ref 60), (1, .int x1), (2, .int x2), (3, .int x3), (4, .int x4)] [] σ
  refine T_iload dX10_fewest_22 4 rfl ?_
  refine T_iconst (v := 1) dX10_fewest_24 (by decide) ?_
  refine T_aload_n dX10_fewest_25 rfl 0 rfl ?_
  refine T_get (v := .int (σ.1 60 0)) dX10_fewest_26 fl_X10_7 hp_60 hs_60 rfl rfl ?_
  refine T_ishl dX10_fewest_29 ?_
  refine T_icmp_ge (tgt := 102) dX10_fewest_30 (by decide) (fun c14 => ?_) (fun c14 => ?_)
  · refine T_iload_n dX10_fewest_102 rfl 2 rfl ?_
    exact T_iret dX10_fewest_103 rfl (h.1 c14)
  · refine T_iload dX10_fewest_33 4 rfl ?_
    refine T_iload_n dX10_fewest_35 rfl 3 rfl ?_
    refine T_iand dX10_fewest_36 ?_
    refine T_if_ne (tgt := 96) dX10_fewest_37 (by decide) (fun c15 => ?_) (fun c15 => ?_)
    · refine T_iinc (v := (x4 + 1)) dX10_fewest_96 4 rfl rfl (by decide) rfl ?_
      refine T_goto (tgt := 22) dX10_fewest_99 (by decide) ?_
      exact T_sub [1, 2, 3, 4, 0] rfl ((h.2 c14).1 c15)
    · refine T_iload_n dX10_fewest_40 rfl 2 rfl ?_
      refine T_if_lt (tgt := 61) dX10_fewest_41 (by decide) (fun c16 => ?_) (fun c16 => ?_)
      · exact T_sub [0, 1, 2, 3, 4] rfl (((h.2 c14).2 c15).1 c16)
      · refine T_aload_n dX10_fewest_44 rfl 0 rfl ?_
        refine T_iload dX10_fewest_45 4 rfl ?_
        refine T_VI (As := [.int x4]) dX10_fewest_47 mv_X10_253 hp_60 hs_60 rfl (Nat.le_of_ble_eq_true rfl) (hv_ok1 rfl) rfl (((h.2 c14).2 c15).2 c16) (fun v9 s8 h10 => ?_)
        refine T_aload_n dX10_fewest_50 rfl 0 rfl ?_
        refine T_iload_n dX10_fewest_51 rfl 2 rfl ?_
        refine T_VI (As := [.int x2]) dX10_fewest_52 mv_X10_253 hp_60 hs_60 rfl (Nat.le_of_ble_eq_true rfl) (hv_ok1 rfl) rfl h10 (fun v12 s11 h13 => ?_)
        refine T_icmp_lt (tgt := 61) dX10_fewest_55 (by decide) (fun c17 => ?_) (fun c17 => ?_)
        · exact T_sub [0, 1, 2, 3, 4] rfl (h13.1 c17)
        · refine T_goto (tgt := 96) dX10_fewest_58 (by decide) ?_
          refine T_iinc (v := (x4 + 1)) dX10_fewest_96 4 rfl rfl (by decide) rfl ?_
          refine T_goto (tgt := 22) dX10_fewest_99 (by decide) ?_
          exact T_sub [1, 2, 3, 4, 0] rfl (h13.2 c17)
set_option maxHeartbeats 4000000 in
set_option maxRecDepth 100000 in
theorem B_X10_fewest {l : Launch} {e : hv_Ev}  (x1 : Int32) {σ : hv_S} {Φ : Int32 → hv_S → Prop} (h : hv_CI l (hv_e2 e) 1 m_X10_isMatter [.ref 60, .int x1] σ (fun v2 s1 => ((v2 ≠ 0 → hv_CI l (hv_e2 e) 0 m_X10_thinks [.ref 60, .int x1] s1 (fun v5 s4 => L_X10_fewest_22 l e Φ x1 (-5) v5 0 s4)) ∧ (v2 = 0 → Φ (-1) s1)))) : hv_CI l (hv_e2 e) 13 m_X10_fewest [.ref 60, .int x1] σ Φ := by
  refine hv_entI (by decide) (Nat.le_of_ble_eq_true rfl) ?_
  show hv_TW l (hv_e2 e) (hv_rm 13) 0 0 m_X10_fewest hv_no (hv_ZI (hv_e2 e) Φ) 0 [(0, .ref 60), (1, .int x1)] [] σ
  refine T_aload_n dX10_fewest_0 rfl 0 rfl ?_
  refine T_iload_n dX10_fewest_1 rfl 1 rfl ?_
  refine T_VI (As := [.int x1]) dX10_fewest_2 mv_X10_183 hp_60 hs_60 rfl (Nat.le_of_ble_eq_true rfl) (hv_ok1 rfl) rfl h (fun v2 s1 h3 => ?_)
  refine T_if_ne (tgt := 10) dX10_fewest_5 (by decide) (fun c7 => ?_) (fun c7 => ?_)
  · refine T_bipush (v := (-5)) dX10_fewest_10 (by decide) ?_
    refine T_istore_n dX10_fewest_12 rfl (by decide) rfl ?_
    refine T_aload_n dX10_fewest_13 rfl 1 rfl ?_
    refine T_iload_n dX10_fewest_14 rfl 2 rfl ?_
    refine T_VI (As := [.int x1]) dX10_fewest_15 mv_X10_288 hp_60 hs_60 rfl (Nat.le_of_ble_eq_true rfl) (hv_ok1 rfl) rfl (h3.1 c7) (fun v5 s4 h6 => ?_)
    refine T_istore_n dX10_fewest_18 rfl (by decide) rfl ?_
    refine T_iconst (v := 0) dX10_fewest_19 (by decide) ?_
    refine T_istore dX10_fewest_20 (by decide) rfl ?_
    exact T_sub [3, 4, 2, 1, 0] rfl h6
  · refine T_iconst (v := (-1)) dX10_fewest_8 (by decide) ?_
    exact T_iret dX10_fewest_9 rfl (h3.2 c7)

def L_X10_table_52 (l : Launch) (e : hv_Ev)  (Φ : Int32 → hv_S → Prop) (x1 : Int32) (x2 : Int32) (x4 : Int32) (σ : hv_S) : Prop := hv_TW l (hv_e2 e) (hv_rm 13) 0 0 m_X10_table hv_no (hv_ZI (hv_e2 e) Φ) 52 [(0, .ref 60), (1, .int x1), (2, .int x2), (4, .int x4)] [] σ
set_option maxHeartbeats 4000000 in
set_option maxRecDepth 100000 in
theorem B_X10_table_52 {l : Launch} {e : hv_Ev}  (x1 : Int32) (x2 : Int32) (x4 : Int32) {σ : hv_S} {Φ : Int32 → hv_S → Prop} (h : (((σ.1 60 0) ≤ x4 → Φ (σ.1 60 0) σ) ∧ (¬ (σ.1 60 0) ≤ x4 → (vp_in x1 6 ∧ (((σ.1 80 x1.toNatClampNeg) < 0 → Φ (100 + x4) σ) ∧ (¬ (σ.1 80 x1.toNatClampNeg) < 0 → ((x2 < 0 → Φ (100 + x4) σ) ∧ (¬ x2 < 0 → (vp_in x1 6 ∧ ((x2 ≤ (((σ.1 81 x1.toNatClampNeg) - (2 * x4)) - 2) → (vp_in (((60 * x1) + x2) + (2 * x4)) 360 ∧ (vp_in x4 8 ∧ hv_CL l (hv_e2 e) 1 m_X10_part [.ref 60, .long (σ.2.1 75 x4.toNatClampNeg), .long (σ.2.1 60 40), .int 0] σ (fun v18 s17 => (((σ.2.1 82 ((((60 * x1) + x2) + (2 * x4)).toNatClampNeg)) ≠ v18 → Φ x4 s17) ∧ ((σ.2.1 82 ((((60 * x1) + x2) + (2 * x4)).toNatClampNeg)) = v18 → (vp_in ((((60 * x1) + x2) + (2 * x4)) + 1) 360 ∧ (vp_in x4 8 ∧ hv_CL l (hv_e2 e) 1 m_X10_part [.ref 60, .long (s17.2.1 75 x4.toNatClampNeg), .long (s17.2.1 60 40), .int 1] s17 (fun v21 s20 => (((s17.2.1 82 (((((60 * x1) + x2) + (2 * x4)) + 1).toNatClampNeg)) = v21 → L_X10_table_52 l e Φ x1 x2 (x4 + 1) s20) ∧ (¬ (s17.2.1 82 (((((60 * x1) + x2) + (2 * x4)) + 1).toNatClampNeg)) = v21 → Φ x4 s20))))))))))) ∧ (¬ x2 ≤ (((σ.1 81 x1.toNatClampNeg) - (2 * x4)) - 2) → Φ (100 + x4) σ))))))))))) : L_X10_table_52 l e Φ x1 x2 x4 σ := by
  show hv_TW l (hv_e2 e) (hv_rm 13) 0 0 m_X10_table hv_no (hv_ZI (hv_e2 e) Φ) 52 [(0, .ref 60), (1, .int x1), (2, .int x2), (4, .int x4)] [] σ
  refine T_iload dX10_table_52 3 rfl ?_
  refine T_aload_n dX10_table_54 rfl 0 rfl ?_
  refine T_get (v := .int (σ.1 60 0)) dX10_table_55 fl_X10_7 hp_60 hs_60 rfl rfl ?_
  refine T_icmp_ge (tgt := 180) dX10_table_58 (by decide) (fun c23 => ?_) (fun c23 => ?_)
  · refine T_aload_n dX10_table_180 rfl 0 rfl ?_
    refine T_get (v := .int (σ.1 60 0)) dX10_table_181 fl_X10_7 hp_60 hs_60 rfl rfl ?_
    exact T_iret dX10_table_184 rfl (h.1 c23)
  · refine T_aload_n dX10_table_61 rfl 0 rfl ?_
    refine T_get (v := .ref 80) dX10_table_62 fl_X10_159 hp_60 hs_60 rfl rfl ?_
    refine T_iload_n dX10_table_65 rfl 1 rfl ?_
    refine T_iald dX10_table_66 hp_80 hs_80 (h.2 c23).1 ?_
    refine T_if_lt (tgt := 91) dX10_table_67 (by decide) (fun c24 => ?_) (fun c24 => ?_)
    · refine T_bipush (v := 100) dX10_table_91 (by decide) ?_
      refine T_iload dX10_table_93 3 rfl ?_
      refine T_iadd dX10_table_95 ?_
      exact T_iret dX10_table_96 rfl ((h.2 c23).2.1 c24)
    · refine T_iload_n dX10_table_70 rfl 2 rfl ?_
      refine T_if_lt (tgt := 91) dX10_table_71 (by decide) (fun c25 => ?_) (fun c25 => ?_)
      · refine T_bipush (v := 100) dX10_table_91 (by decide) ?_
        refine T_iload dX10_table_93 3 rfl ?_
        refine T_iadd dX10_table_95 ?_
        exact T_iret dX10_table_96 rfl (((h.2 c23).2.2 c24).1 c25)
      · refine T_iload_n dX10_table_74 rfl 2 rfl ?_
        refine T_aload_n dX10_table_75 rfl 0 rfl ?_
        refine T_get (v := .ref 81) dX10_table_76 fl_X10_162 hp_60 hs_60 rfl rfl ?_
        refine T_iload_n dX10_table_79 rfl 1 rfl ?_
        refine T_iald dX10_table_80 hp_81 hs_81 (((h.2 c23).2.2 c24).2 c25).1 ?_
        refine T_iconst (v := 2) dX10_table_81 (by decide) ?_
        refine T_iload dX10_table_82 3 rfl ?_
        refine T_imul dX10_table_84 ?_
        refine T_isub dX10_table_85 ?_
        refine T_iconst (v := 2) dX10_table_86 (by decide) ?_
        refine T_isub dX10_table_87 ?_
        refine T_icmp_le (tgt := 97) dX10_table_88 (by decide) (fun c26 => ?_) (fun c26 => ?_)
        · refine T_aload_n dX10_table_97 rfl 0 rfl ?_
          refine T_get (v := .ref 82) dX10_table_98 fl_X10_165 hp_60 hs_60 rfl rfl ?_
          refine T_bipush (v := 60) dX10_table_101 (by decide) ?_
          refine T_iload_n dX10_table_103 rfl 1 rfl ?_
          refine T_imul dX10_table_104 ?_
          refine T_iload_n dX10_table_105 rfl 2 rfl ?_
          refine T_iadd dX10_table_106 ?_
          refine T_iconst (v := 2) dX10_table_107 (by decide) ?_
          refine T_iload dX10_table_108 3 rfl ?_
          refine T_imul dX10_table_110 ?_
          refine T_iadd dX10_table_111 ?_
          refine T_lald dX10_table_112 hp_82 hs_82 ((((h.2 c23).2.2 c24).2 c25).2.1 c26).1 ?_
          refine T_aload_n dX10_table_113 rfl 0 rfl ?_
          refine T_aload_n dX10_table_114 rfl 0 rfl ?_
          refine T_get (v := .ref 75) dX10_table_115 fl_X10_127 hp_60 hs_60 rfl rfl ?_
          refine T_iload dX10_table_118 3 rfl ?_
          refine T_lald dX10_table_120 hp_75 hs_75 ((((h.2 c23).2.2 c24).2 c25).2.1 c26).2.1 ?_
          refine T_aload_n dX10_table_121 rfl 0 rfl ?_
          refine T_get (v := .long (σ.2.1 60 40)) dX10_table_122 fl_X10_134 hp_60 hs_60 rfl rfl ?_
          refine T_iconst (v := 0) dX10_table_125 (by decide) ?_
          refine T_VL (As := [.long (σ.2.1 75 x4.toNatClampNeg), .long (σ.2.1 60 40), .int 0]) dX10_table_126 mv_X10_284 hp_60 hs_60 rfl (Nat.le_of_ble_eq_true rfl) (hv_ok1 rfl) rfl (((((h.2 c23).2.2 c24).2 c25).2.1 c26).2.2) (fun v18 s17 h19 => ?_)
          refine T_lc_ne (tgt := 171) dX10_table_129 dX10_table_130 (by decide) (fun c27 => ?_) (fun c27 => ?_)
          · refine T_iload dX10_table_171 3 rfl ?_
            exact T_iret dX10_table_173 rfl (h19.1 c27)
          · refine T_aload_n dX10_table_133 rfl 0 rfl ?_
            refine T_get (v := .ref 82) dX10_table_134 fl_X10_165 hp_60 hs_60 rfl rfl ?_
            refine T_bipush (v := 60) dX10_table_137 (by decide) ?_
            refine T_iload_n dX10_table_139 rfl 1 rfl ?_
            refine T_imul dX10_table_140 ?_
            refine T_iload_n dX10_table_141 rfl 2 rfl ?_
            refine T_iadd dX10_table_142 ?_
            refine T_iconst (v := 2) dX10_table_143 (by decide) ?_
            refine T_iload dX10_table_144 3 rfl ?_
            refine T_imul dX10_table_146 ?_
            refine T_iadd dX10_table_147 ?_
            refine T_iconst (v := 1) dX10_table_148 (by decide) ?_
            refine T_iadd dX10_table_149 ?_
            refine T_lald dX10_table_150 hp_82 hs_82 (h19.2 c27).1 ?_
            refine T_aload_n dX10_table_151 rfl 0 rfl ?_
            refine T_aload_n dX10_table_152 rfl 0 rfl ?_
            refine T_get (v := .ref 75) dX10_table_153 fl_X10_127 hp_60 hs_60 rfl rfl ?_
            refine T_iload dX10_table_156 3 rfl ?_
            refine T_lald dX10_table_158 hp_75 hs_75 (h19.2 c27).2.1 ?_
            refine T_aload_n dX10_table_159 rfl 0 rfl ?_
            refine T_get (v := .long (s17.2.1 60 40)) dX10_table_160 fl_X10_134 hp_60 hs_60 rfl rfl ?_
            refine T_iconst (v := 1) dX10_table_163 (by decide) ?_
            refine T_VL (As := [.long (s17.2.1 75 x4.toNatClampNeg), .long (s17.2.1 60 40), .int 1]) dX10_table_164 mv_X10_284 hp_60 hs_60 rfl (Nat.le_of_ble_eq_true rfl) (hv_ok1 rfl) rfl ((h19.2 c27).2.2) (fun v21 s20 h22 => ?_)
            refine T_lc_eq (tgt := 174) dX10_table_167 dX10_table_168 (by decide) (fun c28 => ?_) (fun c28 => ?_)
            · refine T_iinc (v := (x4 + 1)) dX10_table_174 3 rfl rfl (by decide) rfl ?_
              refine T_goto (tgt := 52) dX10_table_177 (by decide) ?_
              exact T_sub [1, 2, 3, 0] rfl (h22.1 c28)
            · refine T_iload dX10_table_171 3 rfl ?_
              exact T_iret dX10_table_173 rfl (h22.2 c28)
        · refine T_bipush (v := 100) dX10_table_91 (by decide) ?_
          refine T_iload dX10_table_93 3 rfl ?_
          refine T_iadd dX10_table_95 ?_
          exact T_iret dX10_table_96 rfl ((((h.2 c23).2.2 c24).2 c25).2.2 c26)
set_option maxHeartbeats 4000000 in
set_option maxRecDepth 100000 in
theorem B_X10_table {l : Launch} {e : hv_Ev}  (x1 : Int32) (x2 : Int32) (x3 : Int32) {σ : hv_S} {Φ : Int32 → hv_S → Prop} (h : hv_CI l (hv_e2 e) 1 m_X10_isTape [.ref 60, .int x1] σ (fun v2 s1 => ((v2 = 0 → Φ (-1) s1) ∧ (¬ v2 = 0 → hv_CI l (hv_e2 e) 1 m_X10_isMatter [.ref 60, .int x3] s1 (fun v5 s4 => ((v5 ≠ 0 → (vp_in x1 6 ∧ (((s4.1 80 x1.toNatClampNeg) < 0 → hv_CV l (hv_e2 e) 12 m_X10_findVoices [.ref 60, .int x3, .int (s4.1 60 1)] s4 (fun s7 => L_X10_table_52 l e Φ x1 x2 0 s7)) ∧ (¬ (s4.1 80 x1.toNatClampNeg) < 0 → (vp_in x1 6 ∧ (((s4.1 80 x1.toNatClampNeg) = 3 → hv_CV l (hv_e2 e) 12 m_X10_findVoices [.ref 60, .int x3, .int (s4.1 60 1)] s4 (fun s10 => L_X10_table_52 l e Φ x1 x2 0 s10)) ∧ (¬ (s4.1 80 x1.toNatClampNeg) = 3 → Φ (-12) s4))))))) ∧ (v5 = 0 → Φ (-1) s4))))))) : hv_CI l (hv_e2 e) 13 m_X10_table [.ref 60, .int x1, .int x2, .int x3] σ Φ := by
  refine hv_entI (by decide) (Nat.le_of_ble_eq_true rfl) ?_
  show hv_TW l (hv_e2 e) (hv_rm 13) 0 0 m_X10_table hv_no (hv_ZI (hv_e2 e) Φ) 0 [(0, .ref 60), (1, .int x1), (2, .int x2), (3, .int x3)] [] σ
  refine T_aload_n dX10_table_0 rfl 0 rfl ?_
  refine T_iload_n dX10_table_1 rfl 1 rfl ?_
  refine T_VI (As := [.int x1]) dX10_table_2 mv_X10_326 hp_60 hs_60 rfl (Nat.le_of_ble_eq_true rfl) (hv_ok1 rfl) rfl h (fun v2 s1 h3 => ?_)
  refine T_if_eq (tgt := 16) dX10_table_5 (by decide) (fun c13 => ?_) (fun c13 => ?_)
  · refine T_iconst (v := (-1)) dX10_table_16 (by decide) ?_
    exact T_iret dX10_table_17 rfl (h3.1 c13)
  · refine T_aload_n dX10_table_8 rfl 0 rfl ?_
    refine T_iload_n dX10_table_9 rfl 3 rfl ?_
    refine T_VI (As := [.int x3]) dX10_table_10 mv_X10_183 hp_60 hs_60 rfl (Nat.le_of_ble_eq_true rfl) (hv_ok1 rfl) rfl (h3.2 c13) (fun v5 s4 h6 => ?_)
    refine T_if_ne (tgt := 18) dX10_table_13 (by decide) (fun c14 => ?_) (fun c14 => ?_)
    · refine T_aload_n dX10_table_18 rfl 0 rfl ?_
      refine T_get (v := .ref 80) dX10_table_19 fl_X10_159 hp_60 hs_60 rfl rfl ?_
      refine T_iload_n dX10_table_22 rfl 1 rfl ?_
      refine T_iald dX10_table_23 hp_80 hs_80 (h6.1 c14).1 ?_
      refine T_if_lt (tgt := 40) dX10_table_24 (by decide) (fun c15 => ?_) (fun c15 => ?_)
      · refine T_aload_n dX10_table_40 rfl 0 rfl ?_
        refine T_iload_n dX10_table_41 rfl 3 rfl ?_
        refine T_aload_n dX10_table_42 rfl 0 rfl ?_
        refine T_get (v := .int (s4.1 60 1)) dX10_table_43 fl_X10_13 hp_60 hs_60 rfl rfl ?_
        refine T_VV (As := [.int x3, .int (s4.1 60 1)]) dX10_table_46 mv_X10_281 hp_60 hs_60 rfl (Nat.le_of_ble_eq_true rfl) (hv_ok1 rfl) rfl ((h6.1 c14).2.1 c15) (fun s7 h9 => ?_)
        refine T_iconst (v := 0) dX10_table_49 (by decide) ?_
        refine T_istore dX10_table_50 (by decide) rfl ?_
        exact T_sub [1, 2, 3, 0] rfl h9
      · refine T_aload_n dX10_table_27 rfl 0 rfl ?_
        refine T_get (v := .ref 80) dX10_table_28 fl_X10_159 hp_60 hs_60 rfl rfl ?_
        refine T_iload_n dX10_table_31 rfl 1 rfl ?_
        refine T_iald dX10_table_32 hp_80 hs_80 ((h6.1 c14).2.2 c15).1 ?_
        refine T_iconst (v := 3) dX10_table_33 (by decide) ?_
        refine T_icmp_eq (tgt := 40) dX10_table_34 (by decide) (fun c16 => ?_) (fun c16 => ?_)
        · refine T_aload_n dX10_table_40 rfl 0 rfl ?_
          refine T_iload_n dX10_table_41 rfl 3 rfl ?_
          refine T_aload_n dX10_table_42 rfl 0 rfl ?_
          refine T_get (v := .int (s4.1 60 1)) dX10_table_43 fl_X10_13 hp_60 hs_60 rfl rfl ?_
          refine T_VV (As := [.int x3, .int (s4.1 60 1)]) dX10_table_46 mv_X10_281 hp_60 hs_60 rfl (Nat.le_of_ble_eq_true rfl) (hv_ok1 rfl) rfl (((h6.1 c14).2.2 c15).2.1 c16) (fun s10 h12 => ?_)
          refine T_iconst (v := 0) dX10_table_49 (by decide) ?_
          refine T_istore dX10_table_50 (by decide) rfl ?_
          exact T_sub [1, 2, 3, 0] rfl h12
        · refine T_bipush (v := (-12)) dX10_table_37 (by decide) ?_
          exact T_iret dX10_table_39 rfl (((h6.1 c14).2.2 c15).2.2 c16)
    · refine T_iconst (v := (-1)) dX10_table_16 (by decide) ?_
      exact T_iret dX10_table_17 rfl (h6.2 c14)

set_option maxHeartbeats 4000000 in
set_option maxRecDepth 100000 in
theorem B_X10_rather {l : Launch} {e : hv_Ev}  (x1 : Int32) {σ : hv_S} {Φ : Int32 → hv_S → Prop} (h : hv_CI l (hv_e2 e) 1 m_X10_isMatter [.ref 60, .int x1] σ (fun v2 s1 => ((v2 = 0 → Φ (-1) s1) ∧ (¬ v2 = 0 → hv_CI l (hv_e2 e) 13 m_X10_ratherOf [.ref 60, .int x1] s1 (fun v5 s4 => Φ v5 s4))))) : hv_CI l (hv_e2 e) 14 m_X10_rather [.ref 60, .int x1] σ Φ := by
  refine hv_entI (by decide) (Nat.le_of_ble_eq_true rfl) ?_
  show hv_TW l (hv_e2 e) (hv_rm 14) 0 0 m_X10_rather hv_no (hv_ZI (hv_e2 e) Φ) 0 [(0, .ref 60), (1, .int x1)] [] σ
  refine T_aload_n dX10_rather_0 rfl 0 rfl ?_
  refine T_iload_n dX10_rather_1 rfl 1 rfl ?_
  refine T_VI (As := [.int x1]) dX10_rather_2 mv_X10_183 hp_60 hs_60 rfl (Nat.le_of_ble_eq_true rfl) (hv_ok1 rfl) rfl h (fun v2 s1 h3 => ?_)
  refine T_if_eq (tgt := 16) dX10_rather_5 (by decide) (fun c7 => ?_) (fun c7 => ?_)
  · refine T_iconst (v := (-1)) dX10_rather_16 (by decide) ?_
    exact T_iret dX10_rather_17 rfl (h3.1 c7)
  · refine T_aload_n dX10_rather_8 rfl 0 rfl ?_
    refine T_iload_n dX10_rather_9 rfl 1 rfl ?_
    refine T_VI (As := [.int x1]) dX10_rather_10 mv_X10_313 hp_60 hs_60 rfl (Nat.le_of_ble_eq_true rfl) (hv_ok1 rfl) rfl (h3.2 c7) (fun v5 s4 h6 => ?_)
    refine T_goto (tgt := 17) dX10_rather_13 (by decide) ?_
    exact T_iret dX10_rather_17 rfl h6

def L_X10_settle_12 (l : Launch) (e : hv_Ev)  (Φ : Int32 → hv_S → Prop) (x1 : Int32) (x2 : Int32) (σ : hv_S) : Prop := hv_TW l (hv_e2 e) (hv_rm 14) 0 0 m_X10_settle hv_no (hv_ZI (hv_e2 e) Φ) 12 [(0, .ref 60), (1, .int x1), (2, .int x2)] [] σ
set_option maxHeartbeats 4000000 in
set_option maxRecDepth 100000 in
theorem B_X10_settle_12 {l : Launch} {e : hv_Ev}  (x1 : Int32) (x2 : Int32) {σ : hv_S} {Φ : Int32 → hv_S → Prop} (h : ((12 ≤ x2 → Φ 12 σ) ∧ (¬ 12 ≤ x2 → hv_CI l (hv_e2 e) 13 m_X10_ratherOf [.ref 60, .int x1] σ (fun v6 s5 => ((0 ≤ v6 → (((v6 - v6 / 10 * 10) ≠ 0 → (((v6 - v6 / 10 * 10) ≠ 0 → hv_CV l (hv_e2 e) 0 m_X10_put [.ref 60, .int ((8 * x1) + (v6 / 10)), .int 2, .int ((v6 - v6 / 10 * 10) - 1), .int (-1), .int 10] s5 (fun s8 => L_X10_settle_12 l e Φ x1 (x2 + 1) s8)) ∧ ((v6 - v6 / 10 * 10) = 0 → hv_CV l (hv_e2 e) 0 m_X10_put [.ref 60, .int ((8 * x1) + (v6 / 10)), .int 2, .int ((v6 - v6 / 10 * 10) - 1), .int (-1), .int 0] s5 (fun s11 => L_X10_settle_12 l e Φ x1 (x2 + 1) s11)))) ∧ ((v6 - v6 / 10 * 10) = 0 → (((v6 - v6 / 10 * 10) ≠ 0 → hv_CV l (hv_e2 e) 0 m_X10_put [.ref 60, .int ((8 * x1) + (v6 / 10)), .int 1, .int ((v6 - v6 / 10 * 10) - 1), .int (-1), .int 10] s5 (fun s14 => L_X10_settle_12 l e Φ x1 (x2 + 1) s14)) ∧ ((v6 - v6 / 10 * 10) = 0 → hv_CV l (hv_e2 e) 0 m_X10_put [.ref 60, .int ((8 * x1) + (v6 / 10)), .int 1, .int ((v6 - v6 / 10 * 10) - 1), .int (-1), .int 0] s5 (fun s17 => L_X10_settle_12 l e Φ x1 (x2 + 1) s17)))))) ∧ (¬ 0 ≤ v6 → Φ x2 s5)))))) : L_X10_settle_12 l e Φ x1 x2 σ := by
  show hv_TW l (hv_e2 e) (hv_rm 14) 0 0 m_X10_settle hv_no (hv_ZI (hv_e2 e) Φ) 12 [(0, .ref 60), (1, .int x1), (2, .int x2)] [] σ
  refine T_iload_n dX10_settle_12 rfl 2 rfl ?_
  refine T_bipush (v := 12) dX10_settle_13 (by decide) ?_
  refine T_icmp_ge (tgt := 81) dX10_settle_15 (by decide) (fun c20 => ?_) (fun c20 => ?_)
  · refine T_bipush (v := 12) dX10_settle_81 (by decide) ?_
    exact T_iret dX10_settle_83 rfl (h.1 c20)
  · refine T_aload_n dX10_settle_18 rfl 0 rfl ?_
    refine T_iload_n dX10_settle_19 rfl 1 rfl ?_
    refine T_VI (As := [.int x1]) dX10_settle_20 mv_X10_313 hp_60 hs_60 rfl (Nat.le_of_ble_eq_true rfl) (hv_ok1 rfl) rfl (h.2 c20) (fun v6 s5 h7 => ?_)
    refine T_istore_n dX10_settle_23 rfl (by decide) rfl ?_
    refine T_iload_n dX10_settle_24 rfl 0 rfl ?_
    refine T_if_ge (tgt := 30) dX10_settle_25 (by decide) (fun c21 => ?_) (fun c21 => ?_)
    · refine T_iload_n dX10_settle_30 rfl 0 rfl ?_
      refine T_bipush (v := 10) dX10_settle_31 (by decide) ?_
      refine T_irem dX10_settle_33 (by decide) ?_
      refine T_istore dX10_settle_34 (by decide) rfl ?_
      refine T_aload_n dX10_settle_36 rfl 2 rfl ?_
      refine T_bipush (v := 8) dX10_settle_37 (by decide) ?_
      refine T_iload_n dX10_settle_39 rfl 3 rfl ?_
      refine T_imul dX10_settle_40 ?_
      refine T_iload_n dX10_settle_41 rfl 1 rfl ?_
      refine T_bipush (v := 10) dX10_settle_42 (by decide) ?_
      refine T_idiv dX10_settle_44 (by decide) ?_
      refine T_iadd dX10_settle_45 ?_
      refine T_iload dX10_settle_46 0 rfl ?_
      refine T_if_ne (tgt := 55) dX10_settle_48 (by decide) (fun c22 => ?_) (fun c22 => ?_)
      · refine T_iconst (v := 2) dX10_settle_55 (by decide) ?_
        refine T_iload dX10_settle_56 0 rfl ?_
        refine T_iconst (v := 1) dX10_settle_58 (by decide) ?_
        refine T_isub dX10_settle_59 ?_
        refine T_iconst (v := (-1)) dX10_settle_60 (by decide) ?_
        refine T_iload dX10_settle_61 0 rfl ?_
        refine T_if_ne (tgt := 70) dX10_settle_63 (by decide) (fun c23 => ?_) (fun c23 => ?_)
        · refine T_bipush (v := 10) dX10_settle_70 (by decide) ?_
          refine T_VV (As := [.int ((8 * x1) + (v6 / 10)), .int 2, .int ((v6 - v6 / 10 * 10) - 1), .int (-1), .int 10]) dX10_settle_72 mv_X10_175 hp_60 hs_60 rfl (Nat.le_of_ble_eq_true rfl) (hv_ok1 rfl) rfl (((h7.1 c21).1 c22).1 c23) (fun s8 h10 => ?_)
          refine T_iinc (v := (x2 + 1)) dX10_settle_75 4 rfl rfl (by decide) rfl ?_
          refine T_goto (tgt := 12) dX10_settle_78 (by decide) ?_
          exact T_sub [3, 4, 0] rfl h10
        · refine T_iconst (v := 0) dX10_settle_66 (by decide) ?_
          refine T_goto (tgt := 72) dX10_settle_67 (by decide) ?_
          refine T_VV (As := [.int ((8 * x1) + (v6 / 10)), .int 2, .int ((v6 - v6 / 10 * 10) - 1), .int (-1), .int 0]) dX10_settle_72 mv_X10_175 hp_60 hs_60 rfl (Nat.le_of_ble_eq_true rfl) (hv_ok1 rfl) rfl (((h7.1 c21).1 c22).2 c23) (fun s11 h13 => ?_)
          refine T_iinc (v := (x2 + 1)) dX10_settle_75 4 rfl rfl (by decide) rfl ?_
          refine T_goto (tgt := 12) dX10_settle_78 (by decide) ?_
          exact T_sub [3, 4, 0] rfl h13
      · refine T_iconst (v := 1) dX10_settle_51 (by decide) ?_
        refine T_goto (tgt := 56) dX10_settle_52 (by decide) ?_
        refine T_iload dX10_settle_56 0 rfl ?_
        refine T_iconst (v := 1) dX10_settle_58 (by decide) ?_
        refine T_isub dX10_settle_59 ?_
        refine T_iconst (v := (-1)) dX10_settle_60 (by decide) ?_
        refine T_iload dX10_settle_61 0 rfl ?_
        refine T_if_ne (tgt := 70) dX10_settle_63 (by decide) (fun c24 => ?_) (fun c24 => ?_)
        · refine T_bipush (v := 10) dX10_settle_70 (by decide) ?_
          refine T_VV (As := [.int ((8 * x1) + (v6 / 10)), .int 1, .int ((v6 - v6 / 10 * 10) - 1), .int (-1), .int 10]) dX10_settle_72 mv_X10_175 hp_60 hs_60 rfl (Nat.le_of_ble_eq_true rfl) (hv_ok1 rfl) rfl (((h7.1 c21).2 c22).1 c24) (fun s14 h16 => ?_)
          refine T_iinc (v := (x2 + 1)) dX10_settle_75 4 rfl rfl (by decide) rfl ?_
          refine T_goto (tgt := 12) dX10_settle_78 (by decide) ?_
          exact T_sub [3, 4, 0] rfl h16
        · refine T_iconst (v := 0) dX10_settle_66 (by decide) ?_
          refine T_goto (tgt := 72) dX10_settle_67 (by decide) ?_
          refine T_VV (As := [.int ((8 * x1) + (v6 / 10)), .int 1, .int ((v6 - v6 / 10 * 10) - 1), .int (-1), .int 0]) dX10_settle_72 mv_X10_175 hp_60 hs_60 rfl (Nat.le_of_ble_eq_true rfl) (hv_ok1 rfl) rfl (((h7.1 c21).2 c22).2 c24) (fun s17 h19 => ?_)
          refine T_iinc (v := (x2 + 1)) dX10_settle_75 4 rfl rfl (by decide) rfl ?_
          refine T_goto (tgt := 12) dX10_settle_78 (by decide) ?_
          exact T_sub [3, 4, 0] rfl h19
    · refine T_iload_n dX10_settle_28 rfl 3 rfl ?_
      exact T_iret dX10_settle_29 rfl (h7.2 c21)
set_option maxHeartbeats 4000000 in
set_option maxRecDepth 100000 in
theorem B_X10_settle {l : Launch} {e : hv_Ev}  (x1 : Int32) {σ : hv_S} {Φ : Int32 → hv_S → Prop} (h : hv_CI l (hv_e2 e) 1 m_X10_isMatter [.ref 60, .int x1] σ (fun v2 s1 => ((v2 ≠ 0 → L_X10_settle_12 l e Φ x1 0 s1) ∧ (v2 = 0 → Φ (-1) s1)))) : hv_CI l (hv_e2 e) 14 m_X10_settle [.ref 60, .int x1] σ Φ := by
  refine hv_entI (by decide) (Nat.le_of_ble_eq_true rfl) ?_
  show hv_TW l (hv_e2 e) (hv_rm 14) 0 0 m_X10_settle hv_no (hv_ZI (hv_e2 e) Φ) 0 [(0, .ref 60), (1, .int x1)] [] σ
  refine T_aload_n dX10_settle_0 rfl 0 rfl ?_
  refine T_iload_n dX10_settle_1 rfl 1 rfl ?_
  refine T_VI (As := [.int x1]) dX10_settle_2 mv_X10_183 hp_60 hs_60 rfl (Nat.le_of_ble_eq_true rfl) (hv_ok1 rfl) rfl h (fun v2 s1 h3 => ?_)
  refine T_if_ne (tgt := 10) dX10_settle_5 (by decide) (fun c4 => ?_) (fun c4 => ?_)
  · refine T_iconst (v := 0) dX10_settle_10 (by decide) ?_
    refine T_istore_n dX10_settle_11 rfl (by decide) rfl ?_
    exact T_sub [1, 2, 0] rfl (h3.1 c4)
  · refine T_iconst (v := (-1)) dX10_settle_8 (by decide) ?_
    exact T_iret dX10_settle_9 rfl (h3.2 c4)
