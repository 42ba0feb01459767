-- printed by wip/gen/p10d.py: the reference, 5
theorem dX10_findHand_0 : decode cX10_findHand 0 = .ok (.bipush 8, 2) := by decide +kernel
theorem dX10_findHand_2 : decode cX10_findHand 2 = .ok (.iload_n 2, 1) := by decide +kernel
theorem dX10_findHand_3 : decode cX10_findHand 3 = .ok (.imul, 1) := by decide +kernel
theorem dX10_findHand_4 : decode cX10_findHand 4 = .ok (.iload_n 1, 1) := by decide +kernel
theorem dX10_findHand_5 : decode cX10_findHand 5 = .ok (.iadd, 1) := by decide +kernel
theorem dX10_findHand_6 : decode cX10_findHand 6 = .ok (.istore_n 3, 1) := by decide +kernel
theorem dX10_findHand_7 : decode cX10_findHand 7 = .ok (.aload_n 0, 1) := by decide +kernel
theorem dX10_findHand_8 : decode cX10_findHand 8 = .ok (.getfield 118, 3) := by decide +kernel
theorem dX10_findHand_11 : decode cX10_findHand 11 = .ok (.aload_n 0, 1) := by decide +kernel
theorem dX10_findHand_12 : decode cX10_findHand 12 = .ok (.getfield 20, 3) := by decide +kernel
theorem dX10_findHand_15 : decode cX10_findHand 15 = .ok (.iload_n 3, 1) := by decide +kernel
theorem dX10_findHand_16 : decode cX10_findHand 16 = .ok (.iaload, 1) := by decide +kernel
theorem dX10_findHand_17 : decode cX10_findHand 17 = .ok (.if_icmp .ge 12, 3) := by decide +kernel
theorem dX10_findHand_20 : decode cX10_findHand 20 = .ok (.aload_n 0, 1) := by decide +kernel
theorem dX10_findHand_21 : decode cX10_findHand 21 = .ok (.getfield 16, 3) := by decide +kernel
theorem dX10_findHand_24 : decode cX10_findHand 24 = .ok (.iload_n 3, 1) := by decide +kernel
theorem dX10_findHand_25 : decode cX10_findHand 25 = .ok (.iaload, 1) := by decide +kernel
theorem dX10_findHand_26 : decode cX10_findHand 26 = .ok (.goto 4, 3) := by decide +kernel
theorem dX10_findHand_29 : decode cX10_findHand 29 = .ok (.iconst 1, 1) := by decide +kernel
theorem dX10_findHand_30 : decode cX10_findHand 30 = .ok (.istore 4, 2) := by decide +kernel
theorem dX10_findHand_32 : decode cX10_findHand 32 = .ok (.iload 4, 2) := by decide +kernel
theorem dX10_findHand_34 : decode cX10_findHand 34 = .ok (.tableswitch 139 2 5 #[30, 45, 84, 124], 30) := by decide +kernel
theorem dX10_findHand_64 : decode cX10_findHand 64 = .ok (.aload_n 0, 1) := by decide +kernel
theorem dX10_findHand_65 : decode cX10_findHand 65 = .ok (.iload_n 1, 1) := by decide +kernel
theorem dX10_findHand_66 : decode cX10_findHand 66 = .ok (.aload_n 0, 1) := by decide +kernel
theorem dX10_findHand_67 : decode cX10_findHand 67 = .ok (.getfield 23, 3) := by decide +kernel
theorem dX10_findHand_70 : decode cX10_findHand 70 = .ok (.iload_n 3, 1) := by decide +kernel
theorem dX10_findHand_71 : decode cX10_findHand 71 = .ok (.iaload, 1) := by decide +kernel
theorem dX10_findHand_72 : decode cX10_findHand 72 = .ok (.iload_n 2, 1) := by decide +kernel
theorem dX10_findHand_73 : decode cX10_findHand 73 = .ok (.bipush 10, 2) := by decide +kernel
theorem dX10_findHand_75 : decode cX10_findHand 75 = .ok (.invokevirtual 233, 3) := by decide +kernel
theorem dX10_findHand_78 : decode cX10_findHand 78 = .ok (.return_, 1) := by decide +kernel
theorem dX10_findHand_79 : decode cX10_findHand 79 = .ok (.aload_n 0, 1) := by decide +kernel
theorem dX10_findHand_80 : decode cX10_findHand 80 = .ok (.iload_n 1, 1) := by decide +kernel
theorem dX10_findHand_81 : decode cX10_findHand 81 = .ok (.aload_n 0, 1) := by decide +kernel
theorem dX10_findHand_82 : decode cX10_findHand 82 = .ok (.iload_n 1, 1) := by decide +kernel
theorem dX10_findHand_83 : decode cX10_findHand 83 = .ok (.aload_n 0, 1) := by decide +kernel
theorem dX10_findHand_84 : decode cX10_findHand 84 = .ok (.getfield 23, 3) := by decide +kernel
theorem dX10_findHand_87 : decode cX10_findHand 87 = .ok (.iload_n 3, 1) := by decide +kernel
theorem dX10_findHand_88 : decode cX10_findHand 88 = .ok (.iaload, 1) := by decide +kernel
theorem dX10_findHand_89 : decode cX10_findHand 89 = .ok (.iload_n 2, 1) := by decide +kernel
theorem dX10_findHand_90 : decode cX10_findHand 90 = .ok (.invokevirtual 230, 3) := by decide +kernel
theorem dX10_findHand_93 : decode cX10_findHand 93 = .ok (.ifCond .eq 12, 3) := by decide +kernel
theorem dX10_findHand_96 : decode cX10_findHand 96 = .ok (.aload_n 0, 1) := by decide +kernel
theorem dX10_findHand_97 : decode cX10_findHand 97 = .ok (.getfield 26, 3) := by decide +kernel
theorem dX10_findHand_100 : decode cX10_findHand 100 = .ok (.iload_n 3, 1) := by decide +kernel
theorem dX10_findHand_101 : decode cX10_findHand 101 = .ok (.iaload, 1) := by decide +kernel
theorem dX10_findHand_102 : decode cX10_findHand 102 = .ok (.goto 9, 3) := by decide +kernel
theorem dX10_findHand_105 : decode cX10_findHand 105 = .ok (.aload_n 0, 1) := by decide +kernel
theorem dX10_findHand_106 : decode cX10_findHand 106 = .ok (.getfield 23, 3) := by decide +kernel
theorem dX10_findHand_109 : decode cX10_findHand 109 = .ok (.iload_n 3, 1) := by decide +kernel
theorem dX10_findHand_110 : decode cX10_findHand 110 = .ok (.iaload, 1) := by decide +kernel
theorem dX10_findHand_111 : decode cX10_findHand 111 = .ok (.iload_n 2, 1) := by decide +kernel
theorem dX10_findHand_112 : decode cX10_findHand 112 = .ok (.bipush 10, 2) := by decide +kernel
theorem dX10_findHand_114 : decode cX10_findHand 114 = .ok (.invokevirtual 233, 3) := by decide +kernel
theorem dX10_findHand_117 : decode cX10_findHand 117 = .ok (.return_, 1) := by decide +kernel
theorem dX10_findHand_118 : decode cX10_findHand 118 = .ok (.aload_n 0, 1) := by decide +kernel
theorem dX10_findHand_119 : decode cX10_findHand 119 = .ok (.iload_n 1, 1) := by decide +kernel
theorem dX10_findHand_120 : decode cX10_findHand 120 = .ok (.aload_n 0, 1) := by decide +kernel
theorem dX10_findHand_121 : decode cX10_findHand 121 = .ok (.getfield 23, 3) := by decide +kernel
theorem dX10_findHand_124 : decode cX10_findHand 124 = .ok (.iload_n 3, 1) := by decide +kernel
theorem dX10_findHand_125 : decode cX10_findHand 125 = .ok (.iaload, 1) := by decide +kernel
theorem dX10_findHand_126 : decode cX10_findHand 126 = .ok (.iload_n 2, 1) := by decide +kernel
theorem dX10_findHand_127 : decode cX10_findHand 127 = .ok (.aload_n 0, 1) := by decide +kernel
theorem dX10_findHand_128 : decode cX10_findHand 128 = .ok (.getfield 29, 3) := by decide +kernel
theorem dX10_findHand_131 : decode cX10_findHand 131 = .ok (.iload_n 3, 1) := by decide +kernel
theorem dX10_findHand_132 : decode cX10_findHand 132 = .ok (.iaload, 1) := by decide +kernel
theorem dX10_findHand_133 : decode cX10_findHand 133 = .ok (.invokevirtual 233, 3) := by decide +kernel
theorem dX10_findHand_136 : decode cX10_findHand 136 = .ok (.aload_n 0, 1) := by decide +kernel
theorem dX10_findHand_137 : decode cX10_findHand 137 = .ok (.iload_n 1, 1) := by decide +kernel
theorem dX10_findHand_138 : decode cX10_findHand 138 = .ok (.aload_n 0, 1) := by decide +kernel
theorem dX10_findHand_139 : decode cX10_findHand 139 = .ok (.getfield 26, 3) := by decide +kernel
theorem dX10_findHand_142 : decode cX10_findHand 142 = .ok (.iload_n 3, 1) := by decide +kernel
theorem dX10_findHand_143 : decode cX10_findHand 143 = .ok (.iaload, 1) := by decide +kernel
theorem dX10_findHand_144 : decode cX10_findHand 144 = .ok (.iload_n 2, 1) := by decide +kernel
theorem dX10_findHand_145 : decode cX10_findHand 145 = .ok (.bipush 10, 2) := by decide +kernel
theorem dX10_findHand_147 : decode cX10_findHand 147 = .ok (.aload_n 0, 1) := by decide +kernel
theorem dX10_findHand_148 : decode cX10_findHand 148 = .ok (.getfield 29, 3) := by decide +kernel
theorem dX10_findHand_151 : decode cX10_findHand 151 = .ok (.iload_n 3, 1) := by decide +kernel
theorem dX10_findHand_152 : decode cX10_findHand 152 = .ok (.iaload, 1) := by decide +kernel
theorem dX10_findHand_153 : decode cX10_findHand 153 = .ok (.isub, 1) := by decide +kernel
theorem dX10_findHand_154 : decode cX10_findHand 154 = .ok (.invokevirtual 233, 3) := by decide +kernel
theorem dX10_findHand_157 : decode cX10_findHand 157 = .ok (.return_, 1) := by decide +kernel
theorem dX10_findHand_158 : decode cX10_findHand 158 = .ok (.aload_n 0, 1) := by decide +kernel
theorem dX10_findHand_159 : decode cX10_findHand 159 = .ok (.iload_n 1, 1) := by decide +kernel
theorem dX10_findHand_160 : decode cX10_findHand 160 = .ok (.aload_n 0, 1) := by decide +kernel
theorem dX10_findHand_161 : decode cX10_findHand 161 = .ok (.iload_n 1, 1) := by decide +kernel
theorem dX10_findHand_162 : decode cX10_findHand 162 = .ok (.iload_n 2, 1) := by decide +kernel
theorem dX10_findHand_163 : decode cX10_findHand 163 = .ok (.invokevirtual 237, 3) := by decide +kernel
theorem dX10_findHand_166 : decode cX10_findHand 166 = .ok (.iload_n 2, 1) := by decide +kernel
theorem dX10_findHand_167 : decode cX10_findHand 167 = .ok (.bipush 10, 2) := by decide +kernel
theorem dX10_findHand_169 : decode cX10_findHand 169 = .ok (.invokevirtual 233, 3) := by decide +kernel
theorem dX10_findHand_172 : decode cX10_findHand 172 = .ok (.return_, 1) := by decide +kernel
theorem dX10_findHand_173 : decode cX10_findHand 173 = .ok (.aload_n 0, 1) := by decide +kernel
theorem dX10_findHand_174 : decode cX10_findHand 174 = .ok (.getfield 115, 3) := by decide +kernel
theorem dX10_findHand_177 : decode cX10_findHand 177 = .ok (.bipush 8, 2) := by decide +kernel
theorem dX10_findHand_179 : decode cX10_findHand 179 = .ok (.iload_n 1, 1) := by decide +kernel
theorem dX10_findHand_180 : decode cX10_findHand 180 = .ok (.imul, 1) := by decide +kernel
theorem dX10_findHand_181 : decode cX10_findHand 181 = .ok (.iload_n 1, 1) := by decide +kernel
theorem dX10_findHand_182 : decode cX10_findHand 182 = .ok (.iadd, 1) := by decide +kernel
theorem dX10_findHand_183 : decode cX10_findHand 183 = .ok (.bipush 10, 2) := by decide +kernel
theorem dX10_findHand_185 : decode cX10_findHand 185 = .ok (.iastore, 1) := by decide +kernel
theorem dX10_findHand_186 : decode cX10_findHand 186 = .ok (.return_, 1) := by decide +kernel
theorem dX10_findBest_0 : decode cX10_findBest 0 = .ok (.iconst 0, 1) := by decide +kernel
theorem dX10_findBest_1 : decode cX10_findBest 1 = .ok (.istore_n 2, 1) := by decide +kernel
theorem dX10_findBest_2 : decode cX10_findBest 2 = .ok (.iconst 0, 1) := by decide +kernel
theorem dX10_findBest_3 : decode cX10_findBest 3 = .ok (.istore_n 3, 1) := by decide +kernel
theorem dX10_findBest_4 : decode cX10_findBest 4 = .ok (.iload_n 3, 1) := by decide +kernel
theorem dX10_findBest_5 : decode cX10_findBest 5 = .ok (.aload_n 0, 1) := by decide +kernel
theorem dX10_findBest_6 : decode cX10_findBest 6 = .ok (.getfield 7, 3) := by decide +kernel
theorem dX10_findBest_9 : decode cX10_findBest 9 = .ok (.if_icmp .ge 28, 3) := by decide +kernel
theorem dX10_findBest_12 : decode cX10_findBest 12 = .ok (.iload_n 2, 1) := by decide +kernel
theorem dX10_findBest_13 : decode cX10_findBest 13 = .ok (.aload_n 0, 1) := by decide +kernel
theorem dX10_findBest_14 : decode cX10_findBest 14 = .ok (.iload_n 3, 1) := by decide +kernel
theorem dX10_findBest_15 : decode cX10_findBest 15 = .ok (.iload_n 1, 1) := by decide +kernel
theorem dX10_findBest_16 : decode cX10_findBest 16 = .ok (.invokevirtual 244, 3) := by decide +kernel
theorem dX10_findBest_19 : decode cX10_findBest 19 = .ok (.ifCond .eq 9, 3) := by decide +kernel
theorem dX10_findBest_22 : decode cX10_findBest 22 = .ok (.iconst 1, 1) := by decide +kernel
theorem dX10_findBest_23 : decode cX10_findBest 23 = .ok (.iload_n 3, 1) := by decide +kernel
theorem dX10_findBest_24 : decode cX10_findBest 24 = .ok (.ishl, 1) := by decide +kernel
theorem dX10_findBest_25 : decode cX10_findBest 25 = .ok (.goto 4, 3) := by decide +kernel
theorem dX10_findBest_28 : decode cX10_findBest 28 = .ok (.iconst 0, 1) := by decide +kernel
theorem dX10_findBest_29 : decode cX10_findBest 29 = .ok (.ior, 1) := by decide +kernel
theorem dX10_findBest_30 : decode cX10_findBest 30 = .ok (.istore_n 2, 1) := by decide +kernel
theorem dX10_findBest_31 : decode cX10_findBest 31 = .ok (.iinc 3 1, 3) := by decide +kernel
theorem dX10_findBest_34 : decode cX10_findBest 34 = .ok (.goto (-30), 3) := by decide +kernel
theorem dX10_findBest_37 : decode cX10_findBest 37 = .ok (.aload_n 0, 1) := by decide +kernel
theorem dX10_findBest_38 : decode cX10_findBest 38 = .ok (.iconst (-1), 1) := by decide +kernel
theorem dX10_findBest_39 : decode cX10_findBest 39 = .ok (.putfield 121, 3) := by decide +kernel
theorem dX10_findBest_42 : decode cX10_findBest 42 = .ok (.aload_n 0, 1) := by decide +kernel
theorem dX10_findBest_43 : decode cX10_findBest 43 = .ok (.iconst 0, 1) := by decide +kernel
theorem dX10_findBest_44 : decode cX10_findBest 44 = .ok (.putfield 124, 3) := by decide +kernel
theorem dX10_findBest_47 : decode cX10_findBest 47 = .ok (.iconst 0, 1) := by decide +kernel
theorem dX10_findBest_48 : decode cX10_findBest 48 = .ok (.istore_n 3, 1) := by decide +kernel
theorem dX10_findBest_49 : decode cX10_findBest 49 = .ok (.aload_n 0, 1) := by decide +kernel
theorem dX10_findBest_50 : decode cX10_findBest 50 = .ok (.iload_n 3, 1) := by decide +kernel
theorem dX10_findBest_51 : decode cX10_findBest 51 = .ok (.iload_n 1, 1) := by decide +kernel
theorem dX10_findBest_52 : decode cX10_findBest 52 = .ok (.invokevirtual 247, 3) := by decide +kernel
theorem dX10_findBest_55 : decode cX10_findBest 55 = .ok (.ifCond .eq 48, 3) := by decide +kernel
theorem dX10_findBest_58 : decode cX10_findBest 58 = .ok (.aload_n 0, 1) := by decide +kernel
theorem dX10_findBest_59 : decode cX10_findBest 59 = .ok (.invokevirtual 250, 3) := by decide +kernel
theorem dX10_findBest_62 : decode cX10_findBest 62 = .ok (.ifCond .ne 41, 3) := by decide +kernel
theorem dX10_findBest_65 : decode cX10_findBest 65 = .ok (.aload_n 0, 1) := by decide +kernel
theorem dX10_findBest_66 : decode cX10_findBest 66 = .ok (.dup, 1) := by decide +kernel
theorem dX10_findBest_67 : decode cX10_findBest 67 = .ok (.getfield 124, 3) := by decide +kernel
theorem dX10_findBest_70 : decode cX10_findBest 70 = .ok (.iconst 1, 1) := by decide +kernel
theorem dX10_findBest_71 : decode cX10_findBest 71 = .ok (.iadd, 1) := by decide +kernel
theorem dX10_findBest_72 : decode cX10_findBest 72 = .ok (.putfield 124, 3) := by decide +kernel
theorem dX10_findBest_75 : decode cX10_findBest 75 = .ok (.aload_n 0, 1) := by decide +kernel
theorem dX10_findBest_76 : decode cX10_findBest 76 = .ok (.getfield 121, 3) := by decide +kernel
theorem dX10_findBest_79 : decode cX10_findBest 79 = .ok (.ifCond .lt 19, 3) := by decide +kernel
theorem dX10_findBest_82 : decode cX10_findBest 82 = .ok (.aload_n 0, 1) := by decide +kernel
theorem dX10_findBest_83 : decode cX10_findBest 83 = .ok (.iload_n 3, 1) := by decide +kernel
theorem dX10_findBest_84 : decode cX10_findBest 84 = .ok (.invokevirtual 253, 3) := by decide +kernel
theorem dX10_findBest_87 : decode cX10_findBest 87 = .ok (.aload_n 0, 1) := by decide +kernel
theorem dX10_findBest_88 : decode cX10_findBest 88 = .ok (.aload_n 0, 1) := by decide +kernel
theorem dX10_findBest_89 : decode cX10_findBest 89 = .ok (.getfield 121, 3) := by decide +kernel
theorem dX10_findBest_92 : decode cX10_findBest 92 = .ok (.invokevirtual 253, 3) := by decide +kernel
theorem dX10_findBest_95 : decode cX10_findBest 95 = .ok (.if_icmp .ge 8, 3) := by decide +kernel
theorem dX10_findBest_98 : decode cX10_findBest 98 = .ok (.aload_n 0, 1) := by decide +kernel
theorem dX10_findBest_99 : decode cX10_findBest 99 = .ok (.iload_n 3, 1) := by decide +kernel
theorem dX10_findBest_100 : decode cX10_findBest 100 = .ok (.putfield 121, 3) := by decide +kernel
theorem dX10_findBest_103 : decode cX10_findBest 103 = .ok (.iload_n 3, 1) := by decide +kernel
theorem dX10_findBest_104 : decode cX10_findBest 104 = .ok (.iload_n 2, 1) := by decide +kernel
theorem dX10_findBest_105 : decode cX10_findBest 105 = .ok (.isub, 1) := by decide +kernel
theorem dX10_findBest_106 : decode cX10_findBest 106 = .ok (.iload_n 2, 1) := by decide +kernel
theorem dX10_findBest_107 : decode cX10_findBest 107 = .ok (.iand, 1) := by decide +kernel
theorem dX10_findBest_108 : decode cX10_findBest 108 = .ok (.istore_n 3, 1) := by decide +kernel
theorem dX10_findBest_109 : decode cX10_findBest 109 = .ok (.iload_n 3, 1) := by decide +kernel
theorem dX10_findBest_110 : decode cX10_findBest 110 = .ok (.ifCond .ne (-61), 3) := by decide +kernel
theorem dX10_findBest_113 : decode cX10_findBest 113 = .ok (.return_, 1) := by decide +kernel
theorem dX10_act_0 : decode cX10_act 0 = .ok (.aload_n 0, 1) := by decide +kernel
theorem dX10_act_1 : decode cX10_act 1 = .ok (.iconst 0, 1) := by decide +kernel
theorem dX10_act_2 : decode cX10_act 2 = .ok (.putfield 153, 3) := by decide +kernel
theorem dX10_act_5 : decode cX10_act 5 = .ok (.aload_n 0, 1) := by decide +kernel
theorem dX10_act_6 : decode cX10_act 6 = .ok (.iload_n 1, 1) := by decide +kernel
theorem dX10_act_7 : decode cX10_act 7 = .ok (.invokevirtual 179, 3) := by decide +kernel
theorem dX10_act_10 : decode cX10_act 10 = .ok (.ifCond .eq 21, 3) := by decide +kernel
theorem dX10_act_13 : decode cX10_act 13 = .ok (.aload_n 0, 1) := by decide +kernel
theorem dX10_act_14 : decode cX10_act 14 = .ok (.iload_n 2, 1) := by decide +kernel
theorem dX10_act_15 : decode cX10_act 15 = .ok (.invokevirtual 183, 3) := by decide +kernel
theorem dX10_act_18 : decode cX10_act 18 = .ok (.ifCond .eq 13, 3) := by decide +kernel
theorem dX10_act_21 : decode cX10_act 21 = .ok (.aload_n 0, 1) := by decide +kernel
theorem dX10_act_22 : decode cX10_act 22 = .ok (.iload_n 3, 1) := by decide +kernel
theorem dX10_act_23 : decode cX10_act 23 = .ok (.iconst 0, 1) := by decide +kernel
theorem dX10_act_24 : decode cX10_act 24 = .ok (.iconst 2, 1) := by decide +kernel
theorem dX10_act_25 : decode cX10_act 25 = .ok (.invokevirtual 171, 3) := by decide +kernel
theorem dX10_act_28 : decode cX10_act 28 = .ok (.ifCond .ne 5, 3) := by decide +kernel
theorem dX10_act_31 : decode cX10_act 31 = .ok (.iconst 0, 1) := by decide +kernel
theorem dX10_act_32 : decode cX10_act 32 = .ok (.ireturn, 1) := by decide +kernel
theorem dX10_act_33 : decode cX10_act 33 = .ok (.iload_n 3, 1) := by decide +kernel
theorem dX10_act_34 : decode cX10_act 34 = .ok (.ifCond .ne 14, 3) := by decide +kernel
theorem dX10_act_37 : decode cX10_act 37 = .ok (.aload_n 0, 1) := by decide +kernel
theorem dX10_act_38 : decode cX10_act 38 = .ok (.iload_n 1, 1) := by decide +kernel
theorem dX10_act_39 : decode cX10_act 39 = .ok (.iload_n 2, 1) := by decide +kernel
theorem dX10_act_40 : decode cX10_act 40 = .ok (.iload 4, 2) := by decide +kernel
theorem dX10_act_42 : decode cX10_act 42 = .ok (.invokevirtual 338, 3) := by decide +kernel
theorem dX10_act_45 : decode cX10_act 45 = .ok (.goto 27, 3) := by decide +kernel
theorem dX10_act_48 : decode cX10_act 48 = .ok (.iload_n 3, 1) := by decide +kernel
theorem dX10_act_49 : decode cX10_act 49 = .ok (.iconst 1, 1) := by decide +kernel
theorem dX10_act_50 : decode cX10_act 50 = .ok (.if_icmp .ne 14, 3) := by decide +kernel
theorem dX10_act_53 : decode cX10_act 53 = .ok (.aload_n 0, 1) := by decide +kernel
theorem dX10_act_54 : decode cX10_act 54 = .ok (.iload_n 1, 1) := by decide +kernel
theorem dX10_act_55 : decode cX10_act 55 = .ok (.iload_n 2, 1) := by decide +kernel
theorem dX10_act_56 : decode cX10_act 56 = .ok (.iload 4, 2) := by decide +kernel
theorem dX10_act_58 : decode cX10_act 58 = .ok (.invokevirtual 348, 3) := by decide +kernel
theorem dX10_act_61 : decode cX10_act 61 = .ok (.goto 11, 3) := by decide +kernel
theorem dX10_act_64 : decode cX10_act 64 = .ok (.aload_n 0, 1) := by decide +kernel
theorem dX10_act_65 : decode cX10_act 65 = .ok (.iload_n 1, 1) := by decide +kernel
theorem dX10_act_66 : decode cX10_act 66 = .ok (.iload_n 2, 1) := by decide +kernel
theorem dX10_act_67 : decode cX10_act 67 = .ok (.iload 4, 2) := by decide +kernel
theorem dX10_act_69 : decode cX10_act 69 = .ok (.invokevirtual 354, 3) := by decide +kernel
theorem dX10_act_72 : decode cX10_act 72 = .ok (.ireturn, 1) := by decide +kernel
theorem dX10_findHands_0 : decode cX10_findHands 0 = .ok (.aload_n 0, 1) := by decide +kernel
theorem dX10_findHands_1 : decode cX10_findHands 1 = .ok (.iload_n 2, 1) := by decide +kernel
theorem dX10_findHands_2 : decode cX10_findHands 2 = .ok (.putfield 118, 3) := by decide +kernel
theorem dX10_findHands_5 : decode cX10_findHands 5 = .ok (.iconst 0, 1) := by decide +kernel
theorem dX10_findHands_6 : decode cX10_findHands 6 = .ok (.istore_n 3, 1) := by decide +kernel
theorem dX10_findHands_7 : decode cX10_findHands 7 = .ok (.iload_n 3, 1) := by decide +kernel
theorem dX10_findHands_8 : decode cX10_findHands 8 = .ok (.bipush 64, 2) := by decide +kernel
theorem dX10_findHands_10 : decode cX10_findHands 10 = .ok (.if_icmp .ge 16, 3) := by decide +kernel
theorem dX10_findHands_13 : decode cX10_findHands 13 = .ok (.aload_n 0, 1) := by decide +kernel
theorem dX10_findHands_14 : decode cX10_findHands 14 = .ok (.getfield 115, 3) := by decide +kernel
theorem dX10_findHands_17 : decode cX10_findHands 17 = .ok (.iload_n 3, 1) := by decide +kernel
theorem dX10_findHands_18 : decode cX10_findHands 18 = .ok (.iconst 0, 1) := by decide +kernel
theorem dX10_findHands_19 : decode cX10_findHands 19 = .ok (.iastore, 1) := by decide +kernel
theorem dX10_findHands_20 : decode cX10_findHands 20 = .ok (.iinc 3 1, 3) := by decide +kernel
theorem dX10_findHands_23 : decode cX10_findHands 23 = .ok (.goto (-16), 3) := by decide +kernel
theorem dX10_findHands_26 : decode cX10_findHands 26 = .ok (.iconst 0, 1) := by decide +kernel
theorem dX10_findHands_27 : decode cX10_findHands 27 = .ok (.istore_n 3, 1) := by decide +kernel
theorem dX10_findHands_28 : decode cX10_findHands 28 = .ok (.iload_n 3, 1) := by decide +kernel
theorem dX10_findHands_29 : decode cX10_findHands 29 = .ok (.aload_n 0, 1) := by decide +kernel
theorem dX10_findHands_30 : decode cX10_findHands 30 = .ok (.getfield 7, 3) := by decide +kernel
theorem dX10_findHands_33 : decode cX10_findHands 33 = .ok (.if_icmp .ge 15, 3) := by decide +kernel
theorem dX10_findHands_36 : decode cX10_findHands 36 = .ok (.aload_n 0, 1) := by decide +kernel
theorem dX10_findHands_37 : decode cX10_findHands 37 = .ok (.iload_n 3, 1) := by decide +kernel
theorem dX10_findHands_38 : decode cX10_findHands 38 = .ok (.iload_n 1, 1) := by decide +kernel
theorem dX10_findHands_39 : decode cX10_findHands 39 = .ok (.invokevirtual 257, 3) := by decide +kernel
theorem dX10_findHands_42 : decode cX10_findHands 42 = .ok (.iinc 3 1, 3) := by decide +kernel
theorem dX10_findHands_45 : decode cX10_findHands 45 = .ok (.goto (-17), 3) := by decide +kernel
theorem dX10_findHands_48 : decode cX10_findHands 48 = .ok (.return_, 1) := by decide +kernel
theorem dX10_findAll_0 : decode cX10_findAll 0 = .ok (.aload_n 0, 1) := by decide +kernel
theorem dX10_findAll_1 : decode cX10_findAll 1 = .ok (.iload_n 1, 1) := by decide +kernel
theorem dX10_findAll_2 : decode cX10_findAll 2 = .ok (.iload_n 2, 1) := by decide +kernel
theorem dX10_findAll_3 : decode cX10_findAll 3 = .ok (.invokevirtual 261, 3) := by decide +kernel
theorem dX10_findAll_6 : decode cX10_findAll 6 = .ok (.aload_n 0, 1) := by decide +kernel
theorem dX10_findAll_7 : decode cX10_findAll 7 = .ok (.getfield 79, 3) := by decide +kernel
theorem dX10_findAll_10 : decode cX10_findAll 10 = .ok (.bipush 98, 2) := by decide +kernel
theorem dX10_findAll_12 : decode cX10_findAll 12 = .ok (.if_icmp .eq 4, 3) := by decide +kernel
theorem dX10_findAll_15 : decode cX10_findAll 15 = .ok (.return_, 1) := by decide +kernel
theorem dX10_findAll_16 : decode cX10_findAll 16 = .ok (.aload_n 0, 1) := by decide +kernel
theorem dX10_findAll_17 : decode cX10_findAll 17 = .ok (.iload_n 1, 1) := by decide +kernel
theorem dX10_findAll_18 : decode cX10_findAll 18 = .ok (.invokevirtual 264, 3) := by decide +kernel
theorem dX10_findAll_21 : decode cX10_findAll 21 = .ok (.aload_n 0, 1) := by decide +kernel
theorem dX10_findAll_22 : decode cX10_findAll 22 = .ok (.getfield 121, 3) := by decide +kernel
theorem dX10_findAll_25 : decode cX10_findAll 25 = .ok (.ifCond .lt 19, 3) := by decide +kernel
theorem dX10_findAll_28 : decode cX10_findAll 28 = .ok (.aload_n 0, 1) := by decide +kernel
theorem dX10_findAll_29 : decode cX10_findAll 29 = .ok (.aload_n 0, 1) := by decide +kernel
theorem dX10_findAll_30 : decode cX10_findAll 30 = .ok (.getfield 121, 3) := by decide +kernel
theorem dX10_findAll_33 : decode cX10_findAll 33 = .ok (.iload_n 1, 1) := by decide +kernel
theorem dX10_findAll_34 : decode cX10_findAll 34 = .ok (.invokevirtual 247, 3) := by decide +kernel
theorem dX10_findAll_37 : decode cX10_findAll 37 = .ok (.ifCond .eq 7, 3) := by decide +kernel
theorem dX10_findAll_40 : decode cX10_findAll 40 = .ok (.iconst 1, 1) := by decide +kernel
theorem dX10_findAll_41 : decode cX10_findAll 41 = .ok (.goto 4, 3) := by decide +kernel
theorem dX10_findAll_44 : decode cX10_findAll 44 = .ok (.iconst 0, 1) := by decide +kernel
theorem dX10_findAll_45 : decode cX10_findAll 45 = .ok (.istore_n 3, 1) := by decide +kernel
theorem dX10_findAll_46 : decode cX10_findAll 46 = .ok (.iload_n 3, 1) := by decide +kernel
theorem dX10_findAll_47 : decode cX10_findAll 47 = .ok (.ifCond .eq 4, 3) := by decide +kernel
theorem dX10_findAll_50 : decode cX10_findAll 50 = .ok (.return_, 1) := by decide +kernel
theorem dX10_findAll_51 : decode cX10_findAll 51 = .ok (.aload_n 0, 1) := by decide +kernel
theorem dX10_findAll_52 : decode cX10_findAll 52 = .ok (.iload_n 1, 1) := by decide +kernel
theorem dX10_findAll_53 : decode cX10_findAll 53 = .ok (.iload_n 2, 1) := by decide +kernel
theorem dX10_findAll_54 : decode cX10_findAll 54 = .ok (.invokevirtual 261, 3) := by decide +kernel
theorem dX10_findAll_57 : decode cX10_findAll 57 = .ok (.return_, 1) := by decide +kernel
theorem dX10_best_0 : decode cX10_best 0 = .ok (.aload_n 0, 1) := by decide +kernel
theorem dX10_best_1 : decode cX10_best 1 = .ok (.iload_n 1, 1) := by decide +kernel
theorem dX10_best_2 : decode cX10_best 2 = .ok (.invokevirtual 183, 3) := by decide +kernel
theorem dX10_best_5 : decode cX10_best 5 = .ok (.ifCond .eq 16, 3) := by decide +kernel
theorem dX10_best_8 : decode cX10_best 8 = .ok (.iload_n 2, 1) := by decide +kernel
theorem dX10_best_9 : decode cX10_best 9 = .ok (.iconst (-1), 1) := by decide +kernel
theorem dX10_best_10 : decode cX10_best 10 = .ok (.if_icmp .lt 11, 3) := by decide +kernel
theorem dX10_best_13 : decode cX10_best 13 = .ok (.iload_n 2, 1) := by decide +kernel
theorem dX10_best_14 : decode cX10_best 14 = .ok (.aload_n 0, 1) := by decide +kernel
theorem dX10_best_15 : decode cX10_best 15 = .ok (.getfield 7, 3) := by decide +kernel
theorem dX10_best_18 : decode cX10_best 18 = .ok (.if_icmp .lt 5, 3) := by decide +kernel
theorem dX10_best_21 : decode cX10_best 21 = .ok (.iconst (-1), 1) := by decide +kernel
theorem dX10_best_22 : decode cX10_best 22 = .ok (.ireturn, 1) := by decide +kernel
theorem dX10_best_23 : decode cX10_best 23 = .ok (.aload_n 0, 1) := by decide +kernel
theorem dX10_best_24 : decode cX10_best 24 = .ok (.iload_n 1, 1) := by decide +kernel
theorem dX10_best_25 : decode cX10_best 25 = .ok (.aload_n 0, 1) := by decide +kernel
theorem dX10_best_26 : decode cX10_best 26 = .ok (.getfield 13, 3) := by decide +kernel
theorem dX10_best_29 : decode cX10_best 29 = .ok (.invokevirtual 261, 3) := by decide +kernel
theorem dX10_best_32 : decode cX10_best 32 = .ok (.iload_n 2, 1) := by decide +kernel
theorem dX10_best_33 : decode cX10_best 33 = .ok (.ifCond .lt 14, 3) := by decide +kernel
theorem dX10_best_36 : decode cX10_best 36 = .ok (.aload_n 0, 1) := by decide +kernel
theorem dX10_best_37 : decode cX10_best 37 = .ok (.iload_n 2, 1) := by decide +kernel
theorem dX10_best_38 : decode cX10_best 38 = .ok (.iload_n 1, 1) := by decide +kernel
theorem dX10_best_39 : decode cX10_best 39 = .ok (.invokevirtual 244, 3) := by decide +kernel
theorem dX10_best_42 : decode cX10_best 42 = .ok (.ifCond .ne 5, 3) := by decide +kernel
theorem dX10_best_45 : decode cX10_best 45 = .ok (.iconst (-1), 1) := by decide +kernel
theorem dX10_best_46 : decode cX10_best 46 = .ok (.ireturn, 1) := by decide +kernel
theorem dX10_best_47 : decode cX10_best 47 = .ok (.aload_n 0, 1) := by decide +kernel
theorem dX10_best_48 : decode cX10_best 48 = .ok (.iload_n 1, 1) := by decide +kernel
theorem dX10_best_49 : decode cX10_best 49 = .ok (.invokevirtual 264, 3) := by decide +kernel
theorem dX10_best_52 : decode cX10_best 52 = .ok (.iload_n 2, 1) := by decide +kernel
theorem dX10_best_53 : decode cX10_best 53 = .ok (.ifCond .ge 10, 3) := by decide +kernel
theorem dX10_best_56 : decode cX10_best 56 = .ok (.aload_n 0, 1) := by decide +kernel
theorem dX10_best_57 : decode cX10_best 57 = .ok (.getfield 124, 3) := by decide +kernel
theorem dX10_best_60 : decode cX10_best 60 = .ok (.goto 23, 3) := by decide +kernel
theorem dX10_best_63 : decode cX10_best 63 = .ok (.aload_n 0, 1) := by decide +kernel
theorem dX10_best_64 : decode cX10_best 64 = .ok (.getfield 121, 3) := by decide +kernel
theorem dX10_best_67 : decode cX10_best 67 = .ok (.ifCond .ge 8, 3) := by decide +kernel
theorem dX10_best_70 : decode cX10_best 70 = .ok (.bipush (-5), 2) := by decide +kernel
theorem dX10_best_72 : decode cX10_best 72 = .ok (.goto 11, 3) := by decide +kernel
theorem dX10_best_75 : decode cX10_best 75 = .ok (.aload_n 0, 1) := by decide +kernel
theorem dX10_best_76 : decode cX10_best 76 = .ok (.getfield 121, 3) := by decide +kernel
theorem dX10_best_79 : decode cX10_best 79 = .ok (.iload_n 2, 1) := by decide +kernel
theorem dX10_best_80 : decode cX10_best 80 = .ok (.ishr, 1) := by decide +kernel
theorem dX10_best_81 : decode cX10_best 81 = .ok (.iconst 1, 1) := by decide +kernel
theorem dX10_best_82 : decode cX10_best 82 = .ok (.iand, 1) := by decide +kernel
theorem dX10_best_83 : decode cX10_best 83 = .ok (.ireturn, 1) := by decide +kernel
theorem dX10_share_0 : decode cX10_share 0 = .ok (.aload_n 0, 1) := by decide +kernel
theorem dX10_share_1 : decode cX10_share 1 = .ok (.iload_n 1, 1) := by decide +kernel
theorem dX10_share_2 : decode cX10_share 2 = .ok (.invokevirtual 179, 3) := by decide +kernel
theorem dX10_share_5 : decode cX10_share 5 = .ok (.ifCond .eq 19, 3) := by decide +kernel
theorem dX10_share_8 : decode cX10_share 8 = .ok (.aload_n 0, 1) := by decide +kernel
theorem dX10_share_9 : decode cX10_share 9 = .ok (.iload_n 2, 1) := by decide +kernel
theorem dX10_share_10 : decode cX10_share 10 = .ok (.invokevirtual 179, 3) := by decide +kernel
theorem dX10_share_13 : decode cX10_share 13 = .ok (.ifCond .eq 11, 3) := by decide +kernel
theorem dX10_share_16 : decode cX10_share 16 = .ok (.aload_n 0, 1) := by decide +kernel
theorem dX10_share_17 : decode cX10_share 17 = .ok (.iload_n 3, 1) := by decide +kernel
theorem dX10_share_18 : decode cX10_share 18 = .ok (.invokevirtual 183, 3) := by decide +kernel
theorem dX10_share_21 : decode cX10_share 21 = .ok (.ifCond .ne 5, 3) := by decide +kernel
theorem dX10_share_24 : decode cX10_share 24 = .ok (.iconst (-1), 1) := by decide +kernel
theorem dX10_share_25 : decode cX10_share 25 = .ok (.ireturn, 1) := by decide +kernel
theorem dX10_share_26 : decode cX10_share 26 = .ok (.aload_n 0, 1) := by decide +kernel
theorem dX10_share_27 : decode cX10_share 27 = .ok (.iload_n 3, 1) := by decide +kernel
theorem dX10_share_28 : decode cX10_share 28 = .ok (.aload_n 0, 1) := by decide +kernel
theorem dX10_share_29 : decode cX10_share 29 = .ok (.getfield 13, 3) := by decide +kernel
theorem dX10_share_32 : decode cX10_share 32 = .ok (.invokevirtual 267, 3) := by decide +kernel
theorem dX10_share_35 : decode cX10_share 35 = .ok (.aload_n 0, 1) := by decide +kernel
theorem dX10_share_36 : decode cX10_share 36 = .ok (.getfield 115, 3) := by decide +kernel
theorem dX10_share_39 : decode cX10_share 39 = .ok (.bipush 8, 2) := by decide +kernel
theorem dX10_share_41 : decode cX10_share 41 = .ok (.iload_n 1, 1) := by decide +kernel
theorem dX10_share_42 : decode cX10_share 42 = .ok (.imul, 1) := by decide +kernel
theorem dX10_share_43 : decode cX10_share 43 = .ok (.iload_n 2, 1) := by decide +kernel
theorem dX10_share_44 : decode cX10_share 44 = .ok (.iadd, 1) := by decide +kernel
theorem dX10_share_45 : decode cX10_share 45 = .ok (.iaload, 1) := by decide +kernel
theorem dX10_share_46 : decode cX10_share 46 = .ok (.ireturn, 1) := by decide +kernel
theorem dX10_findVoices_0 : decode cX10_findVoices 0 = .ok (.aload_n 0, 1) := by decide +kernel
theorem dX10_findVoices_1 : decode cX10_findVoices 1 = .ok (.iload_n 1, 1) := by decide +kernel
theorem dX10_findVoices_2 : decode cX10_findVoices 2 = .ok (.iload_n 2, 1) := by decide +kernel
theorem dX10_findVoices_3 : decode cX10_findVoices 3 = .ok (.invokevirtual 267, 3) := by decide +kernel
theorem dX10_findVoices_6 : decode cX10_findVoices 6 = .ok (.aload_n 0, 1) := by decide +kernel
theorem dX10_findVoices_7 : decode cX10_findVoices 7 = .ok (.invokevirtual 272, 3) := by decide +kernel
theorem dX10_findVoices_10 : decode cX10_findVoices 10 = .ok (.return_, 1) := by decide +kernel
theorem dX10_voices_0 : decode cX10_voices 0 = .ok (.aload_n 0, 1) := by decide +kernel
theorem dX10_voices_1 : decode cX10_voices 1 = .ok (.iload_n 1, 1) := by decide +kernel
theorem dX10_voices_2 : decode cX10_voices 2 = .ok (.invokevirtual 179, 3) := by decide +kernel
theorem dX10_voices_5 : decode cX10_voices 5 = .ok (.ifCond .eq 21, 3) := by decide +kernel
theorem dX10_voices_8 : decode cX10_voices 8 = .ok (.aload_n 0, 1) := by decide +kernel
theorem dX10_voices_9 : decode cX10_voices 9 = .ok (.iload_n 2, 1) := by decide +kernel
theorem dX10_voices_10 : decode cX10_voices 10 = .ok (.invokevirtual 183, 3) := by decide +kernel
theorem dX10_voices_13 : decode cX10_voices 13 = .ok (.ifCond .eq 13, 3) := by decide +kernel
theorem dX10_voices_16 : decode cX10_voices 16 = .ok (.aload_n 0, 1) := by decide +kernel
theorem dX10_voices_17 : decode cX10_voices 17 = .ok (.iload_n 3, 1) := by decide +kernel
theorem dX10_voices_18 : decode cX10_voices 18 = .ok (.iconst 0, 1) := by decide +kernel
theorem dX10_voices_19 : decode cX10_voices 19 = .ok (.iconst 1, 1) := by decide +kernel
theorem dX10_voices_20 : decode cX10_voices 20 = .ok (.invokevirtual 171, 3) := by decide +kernel
theorem dX10_voices_23 : decode cX10_voices 23 = .ok (.ifCond .ne 7, 3) := by decide +kernel
theorem dX10_voices_26 : decode cX10_voices 26 = .ok (.ldc2_w 279, 3) := by decide +kernel
theorem dX10_voices_29 : decode cX10_voices 29 = .ok (.lreturn, 1) := by decide +kernel
theorem dX10_voices_30 : decode cX10_voices 30 = .ok (.aload_n 0, 1) := by decide +kernel
theorem dX10_voices_31 : decode cX10_voices 31 = .ok (.iload_n 2, 1) := by decide +kernel
theorem dX10_voices_32 : decode cX10_voices 32 = .ok (.aload_n 0, 1) := by decide +kernel
theorem dX10_voices_33 : decode cX10_voices 33 = .ok (.getfield 13, 3) := by decide +kernel
theorem dX10_voices_36 : decode cX10_voices 36 = .ok (.invokevirtual 281, 3) := by decide +kernel
theorem dX10_voices_39 : decode cX10_voices 39 = .ok (.aload_n 0, 1) := by decide +kernel
theorem dX10_voices_40 : decode cX10_voices 40 = .ok (.aload_n 0, 1) := by decide +kernel
theorem dX10_voices_41 : decode cX10_voices 41 = .ok (.getfield 127, 3) := by decide +kernel
theorem dX10_voices_44 : decode cX10_voices 44 = .ok (.iload_n 1, 1) := by decide +kernel
theorem dX10_voices_45 : decode cX10_voices 45 = .ok (.laload, 1) := by decide +kernel
theorem dX10_voices_46 : decode cX10_voices 46 = .ok (.aload_n 0, 1) := by decide +kernel
theorem dX10_voices_47 : decode cX10_voices 47 = .ok (.getfield 134, 3) := by decide +kernel
theorem dX10_voices_50 : decode cX10_voices 50 = .ok (.iload_n 3, 1) := by decide +kernel
theorem dX10_voices_51 : decode cX10_voices 51 = .ok (.invokevirtual 284, 3) := by decide +kernel
theorem dX10_voices_54 : decode cX10_voices 54 = .ok (.lreturn, 1) := by decide +kernel
theorem dX10_lost_0 : decode cX10_lost 0 = .ok (.aload_n 0, 1) := by decide +kernel
theorem dX10_lost_1 : decode cX10_lost 1 = .ok (.iload_n 1, 1) := by decide +kernel
theorem dX10_lost_2 : decode cX10_lost 2 = .ok (.invokevirtual 183, 3) := by decide +kernel
theorem dX10_lost_5 : decode cX10_lost 5 = .ok (.ifCond .ne 5, 3) := by decide +kernel
theorem dX10_lost_8 : decode cX10_lost 8 = .ok (.iconst (-1), 1) := by decide +kernel
theorem dX10_lost_9 : decode cX10_lost 9 = .ok (.ireturn, 1) := by decide +kernel
theorem dX10_lost_10 : decode cX10_lost 10 = .ok (.aload_n 0, 1) := by decide +kernel
theorem dX10_lost_11 : decode cX10_lost 11 = .ok (.iload_n 1, 1) := by decide +kernel
theorem dX10_lost_12 : decode cX10_lost 12 = .ok (.aload_n 0, 1) := by decide +kernel
theorem dX10_lost_13 : decode cX10_lost 13 = .ok (.getfield 13, 3) := by decide +kernel
theorem dX10_lost_16 : decode cX10_lost 16 = .ok (.invokevirtual 281, 3) := by decide +kernel
theorem dX10_lost_19 : decode cX10_lost 19 = .ok (.aload_n 0, 1) := by decide +kernel
theorem dX10_lost_20 : decode cX10_lost 20 = .ok (.getfield 138, 3) := by decide +kernel
theorem dX10_lost_23 : decode cX10_lost 23 = .ok (.ireturn, 1) := by decide +kernel
theorem dX10_decided_0 : decode cX10_decided 0 = .ok (.aload_n 0, 1) := by decide +kernel
theorem dX10_decided_1 : decode cX10_decided 1 = .ok (.iload_n 1, 1) := by decide +kernel
theorem dX10_decided_2 : decode cX10_decided 2 = .ok (.invokevirtual 183, 3) := by decide +kernel
theorem dX10_decided_5 : decode cX10_decided 5 = .ok (.ifCond .ne 5, 3) := by decide +kernel
theorem dX10_decided_8 : decode cX10_decided 8 = .ok (.iconst (-1), 1) := by decide +kernel
theorem dX10_decided_9 : decode cX10_decided 9 = .ok (.ireturn, 1) := by decide +kernel
theorem dX10_decided_10 : decode cX10_decided 10 = .ok (.aload_n 0, 1) := by decide +kernel
theorem dX10_decided_11 : decode cX10_decided 11 = .ok (.iload_n 1, 1) := by decide +kernel
theorem dX10_decided_12 : decode cX10_decided 12 = .ok (.aload_n 0, 1) := by decide +kernel
theorem dX10_decided_13 : decode cX10_decided 13 = .ok (.getfield 13, 3) := by decide +kernel
theorem dX10_decided_16 : decode cX10_decided 16 = .ok (.invokevirtual 281, 3) := by decide +kernel
theorem dX10_decided_19 : decode cX10_decided 19 = .ok (.aload_n 0, 1) := by decide +kernel
theorem dX10_decided_20 : decode cX10_decided 20 = .ok (.aload_n 0, 1) := by decide +kernel
theorem dX10_decided_21 : decode cX10_decided 21 = .ok (.iload_n 1, 1) := by decide +kernel
theorem dX10_decided_22 : decode cX10_decided 22 = .ok (.invokevirtual 288, 3) := by decide +kernel
theorem dX10_decided_25 : decode cX10_decided 25 = .ok (.invokevirtual 291, 3) := by decide +kernel
theorem dX10_decided_28 : decode cX10_decided 28 = .ok (.ifCond .eq 7, 3) := by decide +kernel
theorem dX10_decided_31 : decode cX10_decided 31 = .ok (.iconst 1, 1) := by decide +kernel
theorem dX10_decided_32 : decode cX10_decided 32 = .ok (.goto 4, 3) := by decide +kernel
theorem dX10_decided_35 : decode cX10_decided 35 = .ok (.iconst 0, 1) := by decide +kernel
theorem dX10_decided_36 : decode cX10_decided 36 = .ok (.ireturn, 1) := by decide +kernel
theorem dX10_turning_0 : decode cX10_turning 0 = .ok (.aload_n 0, 1) := by decide +kernel
theorem dX10_turning_1 : decode cX10_turning 1 = .ok (.iload_n 1, 1) := by decide +kernel
theorem dX10_turning_2 : decode cX10_turning 2 = .ok (.invokevirtual 183, 3) := by decide +kernel
theorem dX10_turning_5 : decode cX10_turning 5 = .ok (.ifCond .ne 5, 3) := by decide +kernel
theorem dX10_turning_8 : decode cX10_turning 8 = .ok (.iconst (-1), 1) := by decide +kernel
theorem dX10_turning_9 : decode cX10_turning 9 = .ok (.ireturn, 1) := by decide +kernel
theorem dX10_turning_10 : decode cX10_turning 10 = .ok (.aload_n 0, 1) := by decide +kernel
theorem dX10_turning_11 : decode cX10_turning 11 = .ok (.iload_n 1, 1) := by decide +kernel
theorem dX10_turning_12 : decode cX10_turning 12 = .ok (.aload_n 0, 1) := by decide +kernel
theorem dX10_turning_13 : decode cX10_turning 13 = .ok (.getfield 13, 3) := by decide +kernel
theorem dX10_turning_16 : decode cX10_turning 16 = .ok (.invokevirtual 281, 3) := by decide +kernel
theorem dX10_turning_19 : decode cX10_turning 19 = .ok (.iconst 0, 1) := by decide +kernel
theorem dX10_turning_20 : decode cX10_turning 20 = .ok (.istore_n 2, 1) := by decide +kernel
theorem dX10_turning_21 : decode cX10_turning 21 = .ok (.iconst 0, 1) := by decide +kernel
theorem dX10_turning_22 : decode cX10_turning 22 = .ok (.istore_n 3, 1) := by decide +kernel
theorem dX10_turning_23 : decode cX10_turning 23 = .ok (.iload_n 3, 1) := by decide +kernel
theorem dX10_turning_24 : decode cX10_turning 24 = .ok (.aload_n 0, 1) := by decide +kernel
theorem dX10_turning_25 : decode cX10_turning 25 = .ok (.getfield 7, 3) := by decide +kernel
theorem dX10_turning_28 : decode cX10_turning 28 = .ok (.if_icmp .ge 44, 3) := by decide +kernel
theorem dX10_turning_31 : decode cX10_turning 31 = .ok (.iload_n 2, 1) := by decide +kernel
theorem dX10_turning_32 : decode cX10_turning 32 = .ok (.aload_n 0, 1) := by decide +kernel
theorem dX10_turning_33 : decode cX10_turning 33 = .ok (.aload_n 0, 1) := by decide +kernel
theorem dX10_turning_34 : decode cX10_turning 34 = .ok (.iload_n 1, 1) := by decide +kernel
theorem dX10_turning_35 : decode cX10_turning 35 = .ok (.invokevirtual 288, 3) := by decide +kernel
theorem dX10_turning_38 : decode cX10_turning 38 = .ok (.invokevirtual 291, 3) := by decide +kernel
theorem dX10_turning_41 : decode cX10_turning 41 = .ok (.aload_n 0, 1) := by decide +kernel
theorem dX10_turning_42 : decode cX10_turning 42 = .ok (.aload_n 0, 1) := by decide +kernel
theorem dX10_turning_43 : decode cX10_turning 43 = .ok (.iload_n 1, 1) := by decide +kernel
theorem dX10_turning_44 : decode cX10_turning 44 = .ok (.invokevirtual 288, 3) := by decide +kernel
theorem dX10_turning_47 : decode cX10_turning 47 = .ok (.iconst 1, 1) := by decide +kernel
theorem dX10_turning_48 : decode cX10_turning 48 = .ok (.iload_n 3, 1) := by decide +kernel
theorem dX10_turning_49 : decode cX10_turning 49 = .ok (.ishl, 1) := by decide +kernel
theorem dX10_turning_50 : decode cX10_turning 50 = .ok (.ixor, 1) := by decide +kernel
theorem dX10_turning_51 : decode cX10_turning 51 = .ok (.invokevirtual 291, 3) := by decide +kernel
theorem dX10_turning_54 : decode cX10_turning 54 = .ok (.if_icmp .eq 9, 3) := by decide +kernel
theorem dX10_turning_57 : decode cX10_turning 57 = .ok (.iconst 1, 1) := by decide +kernel
theorem dX10_turning_58 : decode cX10_turning 58 = .ok (.iload_n 3, 1) := by decide +kernel
theorem dX10_turning_59 : decode cX10_turning 59 = .ok (.ishl, 1) := by decide +kernel
theorem dX10_turning_60 : decode cX10_turning 60 = .ok (.goto 4, 3) := by decide +kernel
theorem dX10_turning_63 : decode cX10_turning 63 = .ok (.iconst 0, 1) := by decide +kernel
theorem dX10_turning_64 : decode cX10_turning 64 = .ok (.ior, 1) := by decide +kernel
theorem dX10_turning_65 : decode cX10_turning 65 = .ok (.istore_n 2, 1) := by decide +kernel
theorem dX10_turning_66 : decode cX10_turning 66 = .ok (.iinc 3 1, 3) := by decide +kernel
theorem dX10_turning_69 : decode cX10_turning 69 = .ok (.goto (-46), 3) := by decide +kernel
theorem dX10_turning_72 : decode cX10_turning 72 = .ok (.iload_n 2, 1) := by decide +kernel
theorem dX10_turning_73 : decode cX10_turning 73 = .ok (.ireturn, 1) := by decide +kernel
theorem dX10_power_0 : decode cX10_power 0 = .ok (.aload_n 0, 1) := by decide +kernel
theorem dX10_power_1 : decode cX10_power 1 = .ok (.iload_n 1, 1) := by decide +kernel
theorem dX10_power_2 : decode cX10_power 2 = .ok (.invokevirtual 179, 3) := by decide +kernel
theorem dX10_power_5 : decode cX10_power 5 = .ok (.ifCond .eq 11, 3) := by decide +kernel
theorem dX10_power_8 : decode cX10_power 8 = .ok (.aload_n 0, 1) := by decide +kernel
theorem dX10_power_9 : decode cX10_power 9 = .ok (.iload_n 2, 1) := by decide +kernel
theorem dX10_power_10 : decode cX10_power 10 = .ok (.invokevirtual 183, 3) := by decide +kernel
theorem dX10_power_13 : decode cX10_power 13 = .ok (.ifCond .ne 5, 3) := by decide +kernel
theorem dX10_power_16 : decode cX10_power 16 = .ok (.iconst (-1), 1) := by decide +kernel
theorem dX10_power_17 : decode cX10_power 17 = .ok (.ireturn, 1) := by decide +kernel
theorem dX10_power_18 : decode cX10_power 18 = .ok (.aload_n 0, 1) := by decide +kernel
theorem dX10_power_19 : decode cX10_power 19 = .ok (.iload_n 2, 1) := by decide +kernel
theorem dX10_power_20 : decode cX10_power 20 = .ok (.aload_n 0, 1) := by decide +kernel
theorem dX10_power_21 : decode cX10_power 21 = .ok (.getfield 13, 3) := by decide +kernel
theorem dX10_power_24 : decode cX10_power 24 = .ok (.invokevirtual 281, 3) := by decide +kernel
theorem dX10_power_27 : decode cX10_power 27 = .ok (.aload_n 0, 1) := by decide +kernel
theorem dX10_power_28 : decode cX10_power 28 = .ok (.invokevirtual 294, 3) := by decide +kernel
theorem dX10_power_31 : decode cX10_power 31 = .ok (.iconst 1, 1) := by decide +kernel
theorem dX10_power_32 : decode cX10_power 32 = .ok (.iload_n 1, 1) := by decide +kernel
theorem dX10_power_33 : decode cX10_power 33 = .ok (.ishl, 1) := by decide +kernel
theorem dX10_power_34 : decode cX10_power 34 = .ok (.iconst (-1), 1) := by decide +kernel
theorem dX10_power_35 : decode cX10_power 35 = .ok (.ixor, 1) := by decide +kernel
theorem dX10_power_36 : decode cX10_power 36 = .ok (.iand, 1) := by decide +kernel
theorem dX10_power_37 : decode cX10_power 37 = .ok (.istore_n 3, 1) := by decide +kernel
theorem dX10_power_38 : decode cX10_power 38 = .ok (.iconst 0, 1) := by decide +kernel
theorem dX10_power_39 : decode cX10_power 39 = .ok (.istore 4, 2) := by decide +kernel
theorem dX10_power_41 : decode cX10_power 41 = .ok (.iconst 0, 1) := by decide +kernel
theorem dX10_power_42 : decode cX10_power 42 = .ok (.istore 5, 2) := by decide +kernel
theorem dX10_power_44 : decode cX10_power 44 = .ok (.iload 5, 2) := by decide +kernel
theorem dX10_power_46 : decode cX10_power 46 = .ok (.iconst 1, 1) := by decide +kernel
theorem dX10_power_47 : decode cX10_power 47 = .ok (.aload_n 0, 1) := by decide +kernel
theorem dX10_power_48 : decode cX10_power 48 = .ok (.getfield 7, 3) := by decide +kernel
theorem dX10_power_51 : decode cX10_power 51 = .ok (.ishl, 1) := by decide +kernel
theorem dX10_power_52 : decode cX10_power 52 = .ok (.if_icmp .ge 40, 3) := by decide +kernel
theorem dX10_power_55 : decode cX10_power 55 = .ok (.iload 5, 2) := by decide +kernel
theorem dX10_power_57 : decode cX10_power 57 = .ok (.iload_n 3, 1) := by decide +kernel
theorem dX10_power_58 : decode cX10_power 58 = .ok (.iconst (-1), 1) := by decide +kernel
theorem dX10_power_59 : decode cX10_power 59 = .ok (.ixor, 1) := by decide +kernel
theorem dX10_power_60 : decode cX10_power 60 = .ok (.iand, 1) := by decide +kernel
theorem dX10_power_61 : decode cX10_power 61 = .ok (.ifCond .ne 25, 3) := by decide +kernel
theorem dX10_power_64 : decode cX10_power 64 = .ok (.aload_n 0, 1) := by decide +kernel
theorem dX10_power_65 : decode cX10_power 65 = .ok (.iload 5, 2) := by decide +kernel
theorem dX10_power_67 : decode cX10_power 67 = .ok (.invokevirtual 291, 3) := by decide +kernel
theorem dX10_power_70 : decode cX10_power 70 = .ok (.aload_n 0, 1) := by decide +kernel
theorem dX10_power_71 : decode cX10_power 71 = .ok (.iload 5, 2) := by decide +kernel
theorem dX10_power_73 : decode cX10_power 73 = .ok (.iconst 1, 1) := by decide +kernel
theorem dX10_power_74 : decode cX10_power 74 = .ok (.iload_n 1, 1) := by decide +kernel
theorem dX10_power_75 : decode cX10_power 75 = .ok (.ishl, 1) := by decide +kernel
theorem dX10_power_76 : decode cX10_power 76 = .ok (.ior, 1) := by decide +kernel
theorem dX10_power_77 : decode cX10_power 77 = .ok (.invokevirtual 291, 3) := by decide +kernel
theorem dX10_power_80 : decode cX10_power 80 = .ok (.if_icmp .eq 6, 3) := by decide +kernel
theorem dX10_power_83 : decode cX10_power 83 = .ok (.iinc 4 1, 3) := by decide +kernel
theorem dX10_power_86 : decode cX10_power 86 = .ok (.iinc 5 1, 3) := by decide +kernel
theorem dX10_power_89 : decode cX10_power 89 = .ok (.goto (-45), 3) := by decide +kernel
theorem dX10_power_92 : decode cX10_power 92 = .ok (.iload 4, 2) := by decide +kernel
theorem dX10_power_94 : decode cX10_power 94 = .ok (.ireturn, 1) := by decide +kernel
theorem dX10_few_0 : decode cX10_few 0 = .ok (.aload_n 0, 1) := by decide +kernel
theorem dX10_few_1 : decode cX10_few 1 = .ok (.iload_n 1, 1) := by decide +kernel
theorem dX10_few_2 : decode cX10_few 2 = .ok (.invokevirtual 183, 3) := by decide +kernel
theorem dX10_few_5 : decode cX10_few 5 = .ok (.ifCond .ne 5, 3) := by decide +kernel
theorem dX10_few_8 : decode cX10_few 8 = .ok (.iconst (-1), 1) := by decide +kernel
theorem dX10_few_9 : decode cX10_few 9 = .ok (.ireturn, 1) := by decide +kernel
theorem dX10_few_10 : decode cX10_few 10 = .ok (.aload_n 0, 1) := by decide +kernel
theorem dX10_few_11 : decode cX10_few 11 = .ok (.iload_n 1, 1) := by decide +kernel
theorem dX10_few_12 : decode cX10_few 12 = .ok (.aload_n 0, 1) := by decide +kernel
theorem dX10_few_13 : decode cX10_few 13 = .ok (.getfield 13, 3) := by decide +kernel
theorem dX10_few_16 : decode cX10_few 16 = .ok (.invokevirtual 281, 3) := by decide +kernel
theorem dX10_few_19 : decode cX10_few 19 = .ok (.bipush (-5), 2) := by decide +kernel
theorem dX10_few_21 : decode cX10_few 21 = .ok (.istore_n 2, 1) := by decide +kernel
theorem dX10_few_22 : decode cX10_few 22 = .ok (.iconst 0, 1) := by decide +kernel
theorem dX10_few_23 : decode cX10_few 23 = .ok (.istore_n 3, 1) := by decide +kernel
theorem dX10_few_24 : decode cX10_few 24 = .ok (.iload_n 3, 1) := by decide +kernel
theorem dX10_few_25 : decode cX10_few 25 = .ok (.iconst 1, 1) := by decide +kernel
theorem dX10_few_26 : decode cX10_few 26 = .ok (.aload_n 0, 1) := by decide +kernel
theorem dX10_few_27 : decode cX10_few 27 = .ok (.getfield 7, 3) := by decide +kernel
theorem dX10_few_30 : decode cX10_few 30 = .ok (.ishl, 1) := by decide +kernel
theorem dX10_few_31 : decode cX10_few 31 = .ok (.if_icmp .ge 36, 3) := by decide +kernel
theorem dX10_few_34 : decode cX10_few 34 = .ok (.aload_n 0, 1) := by decide +kernel
theorem dX10_few_35 : decode cX10_few 35 = .ok (.iload_n 3, 1) := by decide +kernel
theorem dX10_few_36 : decode cX10_few 36 = .ok (.invokevirtual 291, 3) := by decide +kernel
theorem dX10_few_39 : decode cX10_few 39 = .ok (.ifCond .eq 22, 3) := by decide +kernel
theorem dX10_few_42 : decode cX10_few 42 = .ok (.iload_n 2, 1) := by decide +kernel
theorem dX10_few_43 : decode cX10_few 43 = .ok (.ifCond .lt 16, 3) := by decide +kernel
theorem dX10_few_46 : decode cX10_few 46 = .ok (.aload_n 0, 1) := by decide +kernel
theorem dX10_few_47 : decode cX10_few 47 = .ok (.iload_n 3, 1) := by decide +kernel
theorem dX10_few_48 : decode cX10_few 48 = .ok (.invokevirtual 253, 3) := by decide +kernel
theorem dX10_few_51 : decode cX10_few 51 = .ok (.aload_n 0, 1) := by decide +kernel
theorem dX10_few_52 : decode cX10_few 52 = .ok (.iload_n 2, 1) := by decide +kernel
theorem dX10_few_53 : decode cX10_few 53 = .ok (.invokevirtual 253, 3) := by decide +kernel
theorem dX10_few_56 : decode cX10_few 56 = .ok (.if_icmp .ge 5, 3) := by decide +kernel
theorem dX10_few_59 : decode cX10_few 59 = .ok (.iload_n 3, 1) := by decide +kernel
theorem dX10_few_60 : decode cX10_few 60 = .ok (.istore_n 2, 1) := by decide +kernel
theorem dX10_few_61 : decode cX10_few 61 = .ok (.iinc 3 1, 3) := by decide +kernel
theorem dX10_few_64 : decode cX10_few 64 = .ok (.goto (-40), 3) := by decide +kernel
theorem dX10_few_67 : decode cX10_few 67 = .ok (.iload_n 2, 1) := by decide +kernel
theorem dX10_few_68 : decode cX10_few 68 = .ok (.ireturn, 1) := by decide +kernel
theorem dX10_right_0 : decode cX10_right 0 = .ok (.aload_n 0, 1) := by decide +kernel
theorem dX10_right_1 : decode cX10_right 1 = .ok (.iload_n 1, 1) := by decide +kernel
theorem dX10_right_2 : decode cX10_right 2 = .ok (.invokevirtual 183, 3) := by decide +kernel
theorem dX10_right_5 : decode cX10_right 5 = .ok (.ifCond .eq 23, 3) := by decide +kernel
theorem dX10_right_8 : decode cX10_right 8 = .ok (.aload_n 0, 1) := by decide +kernel
theorem dX10_right_9 : decode cX10_right 9 = .ok (.iload_n 2, 1) := by decide +kernel
theorem dX10_right_10 : decode cX10_right 10 = .ok (.iconst 0, 1) := by decide +kernel
theorem dX10_right_11 : decode cX10_right 11 = .ok (.iconst 1, 1) := by decide +kernel
theorem dX10_right_12 : decode cX10_right 12 = .ok (.invokevirtual 171, 3) := by decide +kernel
theorem dX10_right_15 : decode cX10_right 15 = .ok (.ifCond .eq 13, 3) := by decide +kernel
theorem dX10_right_18 : decode cX10_right 18 = .ok (.aload_n 0, 1) := by decide +kernel
theorem dX10_right_19 : decode cX10_right 19 = .ok (.iload_n 3, 1) := by decide +kernel
theorem dX10_right_20 : decode cX10_right 20 = .ok (.iconst 0, 1) := by decide +kernel
theorem dX10_right_21 : decode cX10_right 21 = .ok (.iconst 1, 1) := by decide +kernel
theorem dX10_right_22 : decode cX10_right 22 = .ok (.invokevirtual 171, 3) := by decide +kernel
theorem dX10_right_25 : decode cX10_right 25 = .ok (.ifCond .ne 7, 3) := by decide +kernel
theorem dX10_right_28 : decode cX10_right 28 = .ok (.ldc2_w 279, 3) := by decide +kernel
theorem dX10_right_31 : decode cX10_right 31 = .ok (.lreturn, 1) := by decide +kernel
theorem dX10_right_32 : decode cX10_right 32 = .ok (.iload_n 2, 1) := by decide +kernel
theorem dX10_right_33 : decode cX10_right 33 = .ok (.ifCond .ne 15, 3) := by decide +kernel
theorem dX10_right_36 : decode cX10_right 36 = .ok (.aload_n 0, 1) := by decide +kernel
theorem dX10_right_37 : decode cX10_right 37 = .ok (.iload_n 1, 1) := by decide +kernel
theorem dX10_right_38 : decode cX10_right 38 = .ok (.aload_n 0, 1) := by decide +kernel
theorem dX10_right_39 : decode cX10_right 39 = .ok (.getfield 13, 3) := by decide +kernel
theorem dX10_right_42 : decode cX10_right 42 = .ok (.invokevirtual 281, 3) := by decide +kernel
theorem dX10_right_45 : decode cX10_right 45 = .ok (.goto 7, 3) := by decide +kernel
theorem dX10_right_48 : decode cX10_right 48 = .ok (.aload_n 0, 1) := by decide +kernel
theorem dX10_right_49 : decode cX10_right 49 = .ok (.invokevirtual 297, 3) := by decide +kernel
theorem dX10_right_52 : decode cX10_right 52 = .ok (.aload_n 0, 1) := by decide +kernel
theorem dX10_right_53 : decode cX10_right 53 = .ok (.iload_n 1, 1) := by decide +kernel
theorem dX10_right_54 : decode cX10_right 54 = .ok (.invokevirtual 300, 3) := by decide +kernel
theorem dX10_right_57 : decode cX10_right 57 = .ok (.aload_n 0, 1) := by decide +kernel
theorem dX10_right_58 : decode cX10_right 58 = .ok (.aload_n 0, 1) := by decide +kernel
theorem dX10_right_59 : decode cX10_right 59 = .ok (.getfield 141, 3) := by decide +kernel
theorem dX10_right_62 : decode cX10_right 62 = .ok (.aload_n 0, 1) := by decide +kernel
theorem dX10_right_63 : decode cX10_right 63 = .ok (.getfield 144, 3) := by decide +kernel
theorem dX10_right_66 : decode cX10_right 66 = .ok (.iload_n 3, 1) := by decide +kernel
theorem dX10_right_67 : decode cX10_right 67 = .ok (.invokevirtual 284, 3) := by decide +kernel
theorem dX10_right_70 : decode cX10_right 70 = .ok (.lreturn, 1) := by decide +kernel
theorem dX10_breach_0 : decode cX10_breach 0 = .ok (.aload_n 0, 1) := by decide +kernel
theorem dX10_breach_1 : decode cX10_breach 1 = .ok (.iload_n 1, 1) := by decide +kernel
theorem dX10_breach_2 : decode cX10_breach 2 = .ok (.invokevirtual 183, 3) := by decide +kernel
theorem dX10_breach_5 : decode cX10_breach 5 = .ok (.ifCond .ne 5, 3) := by decide +kernel
theorem dX10_breach_8 : decode cX10_breach 8 = .ok (.iconst (-1), 1) := by decide +kernel
theorem dX10_breach_9 : decode cX10_breach 9 = .ok (.ireturn, 1) := by decide +kernel
theorem dX10_breach_10 : decode cX10_breach 10 = .ok (.aload_n 0, 1) := by decide +kernel
theorem dX10_breach_11 : decode cX10_breach 11 = .ok (.iload_n 1, 1) := by decide +kernel
theorem dX10_breach_12 : decode cX10_breach 12 = .ok (.aload_n 0, 1) := by decide +kernel
theorem dX10_breach_13 : decode cX10_breach 13 = .ok (.getfield 13, 3) := by decide +kernel
theorem dX10_breach_16 : decode cX10_breach 16 = .ok (.invokevirtual 281, 3) := by decide +kernel
theorem dX10_breach_19 : decode cX10_breach 19 = .ok (.iconst 0, 1) := by decide +kernel
theorem dX10_breach_20 : decode cX10_breach 20 = .ok (.istore_n 2, 1) := by decide +kernel
theorem dX10_breach_21 : decode cX10_breach 21 = .ok (.iconst 0, 1) := by decide +kernel
theorem dX10_breach_22 : decode cX10_breach 22 = .ok (.istore_n 3, 1) := by decide +kernel
theorem dX10_breach_23 : decode cX10_breach 23 = .ok (.iload_n 3, 1) := by decide +kernel
theorem dX10_breach_24 : decode cX10_breach 24 = .ok (.aload_n 0, 1) := by decide +kernel
theorem dX10_breach_25 : decode cX10_breach 25 = .ok (.getfield 7, 3) := by decide +kernel
theorem dX10_breach_28 : decode cX10_breach 28 = .ok (.if_icmp .ge 35, 3) := by decide +kernel
theorem dX10_breach_31 : decode cX10_breach 31 = .ok (.iload_n 2, 1) := by decide +kernel
theorem dX10_breach_32 : decode cX10_breach 32 = .ok (.aload_n 0, 1) := by decide +kernel
theorem dX10_breach_33 : decode cX10_breach 33 = .ok (.getfield 115, 3) := by decide +kernel
theorem dX10_breach_36 : decode cX10_breach 36 = .ok (.bipush 8, 2) := by decide +kernel
theorem dX10_breach_38 : decode cX10_breach 38 = .ok (.iload_n 3, 1) := by decide +kernel
theorem dX10_breach_39 : decode cX10_breach 39 = .ok (.imul, 1) := by decide +kernel
theorem dX10_breach_40 : decode cX10_breach 40 = .ok (.iload_n 3, 1) := by decide +kernel
theorem dX10_breach_41 : decode cX10_breach 41 = .ok (.iadd, 1) := by decide +kernel
theorem dX10_breach_42 : decode cX10_breach 42 = .ok (.iaload, 1) := by decide +kernel
theorem dX10_breach_43 : decode cX10_breach 43 = .ok (.bipush 10, 2) := by decide +kernel
theorem dX10_breach_45 : decode cX10_breach 45 = .ok (.if_icmp .ne 9, 3) := by decide +kernel
theorem dX10_breach_48 : decode cX10_breach 48 = .ok (.iconst 1, 1) := by decide +kernel
theorem dX10_breach_49 : decode cX10_breach 49 = .ok (.iload_n 3, 1) := by decide +kernel
theorem dX10_breach_50 : decode cX10_breach 50 = .ok (.ishl, 1) := by decide +kernel
theorem dX10_breach_51 : decode cX10_breach 51 = .ok (.goto 4, 3) := by decide +kernel
theorem dX10_breach_54 : decode cX10_breach 54 = .ok (.iconst 0, 1) := by decide +kernel
theorem dX10_breach_55 : decode cX10_breach 55 = .ok (.ior, 1) := by decide +kernel
theorem dX10_breach_56 : decode cX10_breach 56 = .ok (.istore_n 2, 1) := by decide +kernel
theorem dX10_breach_57 : decode cX10_breach 57 = .ok (.iinc 3 1, 3) := by decide +kernel
theorem dX10_breach_60 : decode cX10_breach 60 = .ok (.goto (-37), 3) := by decide +kernel
theorem dX10_breach_63 : decode cX10_breach 63 = .ok (.iconst 0, 1) := by decide +kernel
theorem dX10_breach_64 : decode cX10_breach 64 = .ok (.istore_n 3, 1) := by decide +kernel
theorem dX10_breach_65 : decode cX10_breach 65 = .ok (.iload_n 3, 1) := by decide +kernel
theorem dX10_breach_66 : decode cX10_breach 66 = .ok (.aload_n 0, 1) := by decide +kernel
theorem dX10_breach_67 : decode cX10_breach 67 = .ok (.getfield 7, 3) := by decide +kernel
theorem dX10_breach_70 : decode cX10_breach 70 = .ok (.if_icmp .ge 157, 3) := by decide +kernel
theorem dX10_breach_73 : decode cX10_breach 73 = .ok (.iconst 0, 1) := by decide +kernel
theorem dX10_breach_74 : decode cX10_breach 74 = .ok (.istore 4, 2) := by decide +kernel
theorem dX10_breach_76 : decode cX10_breach 76 = .ok (.iload 4, 2) := by decide +kernel
theorem dX10_breach_78 : decode cX10_breach 78 = .ok (.aload_n 0, 1) := by decide +kernel
theorem dX10_breach_79 : decode cX10_breach 79 = .ok (.getfield 7, 3) := by decide +kernel
theorem dX10_breach_82 : decode cX10_breach 82 = .ok (.if_icmp .ge 139, 3) := by decide +kernel
theorem dX10_breach_85 : decode cX10_breach 85 = .ok (.iload_n 3, 1) := by decide +kernel
theorem dX10_breach_86 : decode cX10_breach 86 = .ok (.iload 4, 2) := by decide +kernel
theorem dX10_breach_88 : decode cX10_breach 88 = .ok (.if_icmp .eq 127, 3) := by decide +kernel
theorem dX10_breach_91 : decode cX10_breach 91 = .ok (.aload_n 0, 1) := by decide +kernel
theorem dX10_breach_92 : decode cX10_breach 92 = .ok (.iload_n 2, 1) := by decide +kernel
theorem dX10_breach_93 : decode cX10_breach 93 = .ok (.iload_n 3, 1) := by decide +kernel
theorem dX10_breach_94 : decode cX10_breach 94 = .ok (.invokevirtual 241, 3) := by decide +kernel
theorem dX10_breach_97 : decode cX10_breach 97 = .ok (.ifCond .eq 118, 3) := by decide +kernel
theorem dX10_breach_100 : decode cX10_breach 100 = .ok (.aload_n 0, 1) := by decide +kernel
theorem dX10_breach_101 : decode cX10_breach 101 = .ok (.iload_n 2, 1) := by decide +kernel
theorem dX10_breach_102 : decode cX10_breach 102 = .ok (.iload 4, 2) := by decide +kernel
theorem dX10_breach_104 : decode cX10_breach 104 = .ok (.invokevirtual 241, 3) := by decide +kernel
theorem dX10_breach_107 : decode cX10_breach 107 = .ok (.ifCond .eq 108, 3) := by decide +kernel
theorem dX10_breach_110 : decode cX10_breach 110 = .ok (.aload_n 0, 1) := by decide +kernel
theorem dX10_breach_111 : decode cX10_breach 111 = .ok (.iload_n 3, 1) := by decide +kernel
theorem dX10_breach_112 : decode cX10_breach 112 = .ok (.iload 4, 2) := by decide +kernel
theorem dX10_breach_114 : decode cX10_breach 114 = .ok (.iload_n 1, 1) := by decide +kernel
theorem dX10_breach_115 : decode cX10_breach 115 = .ok (.invokevirtual 230, 3) := by decide +kernel
theorem dX10_breach_118 : decode cX10_breach 118 = .ok (.ifCond .eq 6, 3) := by decide +kernel
theorem dX10_breach_121 : decode cX10_breach 121 = .ok (.goto 94, 3) := by decide +kernel
theorem dX10_breach_124 : decode cX10_breach 124 = .ok (.aload_n 0, 1) := by decide +kernel
theorem dX10_breach_125 : decode cX10_breach 125 = .ok (.iload_n 1, 1) := by decide +kernel
theorem dX10_breach_126 : decode cX10_breach 126 = .ok (.aload_n 0, 1) := by decide +kernel
theorem dX10_breach_127 : decode cX10_breach 127 = .ok (.getfield 13, 3) := by decide +kernel
theorem dX10_breach_130 : decode cX10_breach 130 = .ok (.invokevirtual 281, 3) := by decide +kernel
theorem dX10_breach_133 : decode cX10_breach 133 = .ok (.aload_n 0, 1) := by decide +kernel
theorem dX10_breach_134 : decode cX10_breach 134 = .ok (.getfield 127, 3) := by decide +kernel
theorem dX10_breach_137 : decode cX10_breach 137 = .ok (.iload 4, 2) := by decide +kernel
theorem dX10_breach_139 : decode cX10_breach 139 = .ok (.laload, 1) := by decide +kernel
theorem dX10_breach_140 : decode cX10_breach 140 = .ok (.lstore 5, 2) := by decide +kernel
theorem dX10_breach_142 : decode cX10_breach 142 = .ok (.aload_n 0, 1) := by decide +kernel
theorem dX10_breach_143 : decode cX10_breach 143 = .ok (.getfield 134, 3) := by decide +kernel
theorem dX10_breach_146 : decode cX10_breach 146 = .ok (.lstore 7, 2) := by decide +kernel
theorem dX10_breach_148 : decode cX10_breach 148 = .ok (.aload_n 0, 1) := by decide +kernel
theorem dX10_breach_149 : decode cX10_breach 149 = .ok (.iload_n 3, 1) := by decide +kernel
theorem dX10_breach_150 : decode cX10_breach 150 = .ok (.iload_n 1, 1) := by decide +kernel
theorem dX10_breach_151 : decode cX10_breach 151 = .ok (.invokevirtual 303, 3) := by decide +kernel
theorem dX10_breach_154 : decode cX10_breach 154 = .ok (.aload_n 0, 1) := by decide +kernel
theorem dX10_breach_155 : decode cX10_breach 155 = .ok (.bipush 8, 2) := by decide +kernel
theorem dX10_breach_157 : decode cX10_breach 157 = .ok (.iload_n 1, 1) := by decide +kernel
theorem dX10_breach_158 : decode cX10_breach 158 = .ok (.imul, 1) := by decide +kernel
theorem dX10_breach_159 : decode cX10_breach 159 = .ok (.iload_n 3, 1) := by decide +kernel
theorem dX10_breach_160 : decode cX10_breach 160 = .ok (.iadd, 1) := by decide +kernel
theorem dX10_breach_161 : decode cX10_breach 161 = .ok (.iconst 2, 1) := by decide +kernel
theorem dX10_breach_162 : decode cX10_breach 162 = .ok (.iload 4, 2) := by decide +kernel
theorem dX10_breach_164 : decode cX10_breach 164 = .ok (.iconst (-1), 1) := by decide +kernel
theorem dX10_breach_165 : decode cX10_breach 165 = .ok (.bipush 10, 2) := by decide +kernel
theorem dX10_breach_167 : decode cX10_breach 167 = .ok (.invokevirtual 175, 3) := by decide +kernel
theorem dX10_breach_170 : decode cX10_breach 170 = .ok (.aload_n 0, 1) := by decide +kernel
theorem dX10_breach_171 : decode cX10_breach 171 = .ok (.iload_n 1, 1) := by decide +kernel
theorem dX10_breach_172 : decode cX10_breach 172 = .ok (.aload_n 0, 1) := by decide +kernel
theorem dX10_breach_173 : decode cX10_breach 173 = .ok (.getfield 13, 3) := by decide +kernel
theorem dX10_breach_176 : decode cX10_breach 176 = .ok (.invokevirtual 281, 3) := by decide +kernel
theorem dX10_breach_179 : decode cX10_breach 179 = .ok (.aload_n 0, 1) := by decide +kernel
theorem dX10_breach_180 : decode cX10_breach 180 = .ok (.iload_n 3, 1) := by decide +kernel
theorem dX10_breach_181 : decode cX10_breach 181 = .ok (.iload_n 1, 1) := by decide +kernel
theorem dX10_breach_182 : decode cX10_breach 182 = .ok (.invokevirtual 306, 3) := by decide +kernel
theorem dX10_breach_185 : decode cX10_breach 185 = .ok (.aload_n 0, 1) := by decide +kernel
theorem dX10_breach_186 : decode cX10_breach 186 = .ok (.aload_n 0, 1) := by decide +kernel
theorem dX10_breach_187 : decode cX10_breach 187 = .ok (.getfield 127, 3) := by decide +kernel
theorem dX10_breach_190 : decode cX10_breach 190 = .ok (.iload 4, 2) := by decide +kernel
theorem dX10_breach_192 : decode cX10_breach 192 = .ok (.laload, 1) := by decide +kernel
theorem dX10_breach_193 : decode cX10_breach 193 = .ok (.aload_n 0, 1) := by decide +kernel
theorem dX10_breach_194 : decode cX10_breach 194 = .ok (.getfield 134, 3) := by decide +kernel
theorem dX10_breach_197 : decode cX10_breach 197 = .ok (.lload 5, 2) := by decide +kernel
theorem dX10_breach_199 : decode cX10_breach 199 = .ok (.lload 7, 2) := by decide +kernel
theorem dX10_breach_201 : decode cX10_breach 201 = .ok (.invokevirtual 309, 3) := by decide +kernel
theorem dX10_breach_204 : decode cX10_breach 204 = .ok (.ifCond .eq 11, 3) := by decide +kernel
theorem dX10_breach_207 : decode cX10_breach 207 = .ok (.bipush 10, 2) := by decide +kernel
theorem dX10_breach_209 : decode cX10_breach 209 = .ok (.iload_n 3, 1) := by decide +kernel
theorem dX10_breach_210 : decode cX10_breach 210 = .ok (.imul, 1) := by decide +kernel
theorem dX10_breach_211 : decode cX10_breach 211 = .ok (.iload 4, 2) := by decide +kernel
theorem dX10_breach_213 : decode cX10_breach 213 = .ok (.iadd, 1) := by decide +kernel
theorem dX10_breach_214 : decode cX10_breach 214 = .ok (.ireturn, 1) := by decide +kernel
theorem dX10_breach_215 : decode cX10_breach 215 = .ok (.iinc 4 1, 3) := by decide +kernel
theorem dX10_breach_218 : decode cX10_breach 218 = .ok (.goto (-142), 3) := by decide +kernel
theorem dX10_breach_221 : decode cX10_breach 221 = .ok (.iinc 3 1, 3) := by decide +kernel
theorem dX10_breach_224 : decode cX10_breach 224 = .ok (.goto (-159), 3) := by decide +kernel
theorem dX10_breach_227 : decode cX10_breach 227 = .ok (.bipush (-5), 2) := by decide +kernel
theorem dX10_breach_229 : decode cX10_breach 229 = .ok (.ireturn, 1) := by decide +kernel
set_option maxHeartbeats 4000000 in
set_option maxRecDepth 100000 in
theorem B_X10_findHand {l : Launch} {e : hv_Ev}  (x1 : Int32) (x2 : Int32) {σ : hv_S} {Φ : hv_S → Prop} (h : (vp_in ((8 * x2) + x1) 24 ∧ (((σ.1 62 (((8 * x2) + x1).toNatClampNeg)) ≤ (σ.1 60 35) → (vp_in ((8 * x1) + x1) 64 ∧ Φ (hv_ui σ 74 (((8 * x1) + x1).toNatClampNeg) 10))) ∧ (¬ (σ.1 62 (((8 * x2) + x1).toNatClampNeg)) ≤ (σ.1 60 35) → (vp_in ((8 * x2) + x1) 24 ∧ (((σ.1 61 (((8 * x2) + x1).toNatClampNeg)) = 2 → (vp_in ((8 * x2) + x1) 24 ∧ hv_CV l (hv_e2 e) 8 m_X10_hands [.ref 60, .int x1, .int (σ.1 63 (((8 * x2) + x1).toNatClampNeg)), .int x2, .int 10] σ (fun s1 => Φ s1))) ∧ ((σ.1 61 (((8 * x2) + x1).toNatClampNeg)) = 3 → (vp_in ((8 * x2) + x1) 24 ∧ hv_CI l (hv_e2 e) 7 m_X10_isBar [.ref 60, .int x1, .int (σ.1 63 (((8 * x2) + x1).toNatClampNeg)), .int x2] σ (fun v5 s4 => ((v5 = 0 → (vp_in ((8 * x2) + x1) 24 ∧ hv_CV l (hv_e2 e) 8 m_X10_hands [.ref 60, .int x1, .int (s4.1 63 (((8 * x2) + x1).toNatClampNeg)), .int x2, .int 10] s4 (fun s7 => Φ s7))) ∧ (¬ v5 = 0 → (vp_in ((8 * x2) + x1) 24 ∧ hv_CV l (hv_e2 e) 8 m_X10_hands [.ref 60, .int x1, .int (s4.1 64 (((8 * x2) + x1).toNatClampNeg)), .int x2, .int 10] s4 (fun s10 => Φ s10))))))) ∧ ((σ.1 61 (((8 * x2) + x1).toNatClampNeg)) = 4 → (vp_in ((8 * x2) + x1) 24 ∧ (vp_in ((8 * x2) + x1) 24 ∧ hv_CV l (hv_e2 e) 8 m_X10_hands [.ref 60, .int x1, .int (σ.1 63 (((8 * x2) + x1).toNatClampNeg)), .int x2, .int (σ.1 65 (((8 * x2) + x1).toNatClampNeg))] σ (fun s13 => (vp_in ((8 * x2) + x1) 24 ∧ (vp_in ((8 * x2) + x1) 24 ∧ hv_CV l (hv_e2 e) 8 m_X10_hands [.ref 60, .int x1, .int (s13.1 64 (((8 * x2) + x1).toNatClampNeg)), .int x2, .int (10 - (s13.1 65 (((8 * x2) + x1).toNatClampNeg)))] s13 (fun s16 => Φ s16))))))) ∧ ((σ.1 61 (((8 * x2) + x1).toNatClampNeg)) = 5 → hv_CI l (hv_e2 e) 8 m_X10_surestOf [.ref 60, .int x1, .int x2] σ (fun v20 s19 => hv_CV l (hv_e2 e) 8 m_X10_hands [.ref 60, .int x1, .int v20, .int x2, .int 10] s19 (fun s22 => Φ s22))) ∧ (¬ (σ.1 61 (((8 * x2) + x1).toNatClampNeg)) = 2 → ¬ (σ.1 61 (((8 * x2) + x1).toNatClampNeg)) = 3 → ¬ (σ.1 61 (((8 * x2) + x1).toNatClampNeg)) = 4 → ¬ (σ.1 61 (((8 * x2) + x1).toNatClampNeg)) = 5 → (vp_in ((8 * x1) + x1) 64 ∧ Φ (hv_ui σ 74 (((8 * x1) + x1).toNatClampNeg) 10))))))))) : hv_CV l (hv_e2 e) 9 m_X10_findHand [.ref 60, .int x1, .int x2] σ Φ := by
  refine hv_entV (by decide) (Nat.le_of_ble_eq_true rfl) ?_
  show hv_TW l (hv_e2 e) (hv_rm 9) 0 0 m_X10_findHand hv_no (hv_ZV (hv_e2 e) Φ) 0 [(0, .ref 60), (1, .int x1), (2, .int x2)] [] σ
  refine T_bipush (v := 8) dX10_findHand_0 (by decide) ?_
  refine T_iload_n dX10_findHand_2 rfl 2 rfl ?_
  refine T_imul dX10_findHand_3 ?_
  refine T_iload_n dX10_findHand_4 rfl 1 rfl ?_
  refine T_iadd dX10_findHand_5 ?_
  refine T_istore_n dX10_findHand_6 rfl (by decide) rfl ?_
  refine T_aload_n dX10_findHand_7 rfl 1 rfl ?_
  refine T_get (v := .int (σ.1 60 35)) dX10_findHand_8 fl_X10_118 hp_60 hs_60 rfl rfl ?_
  refine T_aload_n dX10_findHand_11 rfl 1 rfl ?_
  refine T_get (v := .ref 62) dX10_findHand_12 fl_X10_20 hp_60 hs_60 rfl rfl ?_
  refine T_iload_n dX10_findHand_15 rfl 0 rfl ?_
  refine T_iald dX10_findHand_16 hp_62 hs_62 h.1 ?_
  refine T_icmp_ge (tgt := 29) dX10_findHand_17 (by decide) (fun c25 => ?_) (fun c25 => ?_)
  · refine T_iconst (v := 1) dX10_findHand_29 (by decide) ?_
    refine T_istore dX10_findHand_30 (by decide) rfl ?_
    refine T_iload dX10_findHand_32 0 rfl ?_
    refine T_tableOut (tgt := 173) dX10_findHand_34 (by decide) (by decide) ?_
    refine T_aload_n dX10_findHand_173 rfl 2 rfl ?_
    refine T_get (v := .ref 74) dX10_findHand_174 fl_X10_115 hp_60 hs_60 rfl rfl ?_
    refine T_bipush (v := 8) dX10_findHand_177 (by decide) ?_
    refine T_iload_n dX10_findHand_179 rfl 3 rfl ?_
    refine T_imul dX10_findHand_180 ?_
    refine T_iload_n dX10_findHand_181 rfl 3 rfl ?_
    refine T_iadd dX10_findHand_182 ?_
    refine T_bipush (v := 10) dX10_findHand_183 (by decide) ?_
    refine T_iast dX10_findHand_185 hp_74 hs_74 (h.2.1 c25).1 ?_
    exact T_vret dX10_findHand_186 rfl ((h.2.1 c25).2)
  · refine T_aload_n dX10_findHand_20 rfl 1 rfl ?_
    refine T_get (v := .ref 61) dX10_findHand_21 fl_X10_16 hp_60 hs_60 rfl rfl ?_
    refine T_iload_n dX10_findHand_24 rfl 0 rfl ?_
    refine T_iald dX10_findHand_25 hp_61 hs_61 (h.2.2 c25).1 ?_
    refine T_goto (tgt := 30) dX10_findHand_26 (by decide) ?_
    refine T_istore dX10_findHand_30 (by decide) rfl ?_
    refine T_iload dX10_findHand_32 0 rfl ?_
    by_cases c26 : (σ.1 61 (((8 * x2) + x1).toNatClampNeg)) = 2
    · refine T_tableIn (off := 30) (tgt := 64) dX10_findHand_34 (by rw [c26]; decide) (by rw [c26]; decide) (by rw [c26]; rfl) (by decide) ?_
      refine T_aload_n dX10_findHand_64 rfl 2 rfl ?_
      refine T_iload_n dX10_findHand_65 rfl 3 rfl ?_
      refine T_aload_n dX10_findHand_66 rfl 2 rfl ?_
      refine T_get (v := .ref 63) dX10_findHand_67 fl_X10_23 hp_60 hs_60 rfl rfl ?_
      refine T_iload_n dX10_findHand_70 rfl 1 rfl ?_
      refine T_iald dX10_findHand_71 hp_63 hs_63 ((h.2.2 c25).2.1 c26).1 ?_
      refine T_iload_n dX10_findHand_72 rfl 4 rfl ?_
      refine T_bipush (v := 10) dX10_findHand_73 (by decide) ?_
      refine T_VV (As := [.int x1, .int (σ.1 63 (((8 * x2) + x1).toNatClampNeg)), .int x2, .int 10]) dX10_findHand_75 mv_X10_233 hp_60 hs_60 rfl (Nat.le_of_ble_eq_true rfl) (hv_ok1 rfl) rfl (((h.2.2 c25).2.1 c26).2) (fun s1 h3 => ?_)
      exact T_vret dX10_findHand_78 rfl h3
    · skip
      by_cases c27 : (σ.1 61 (((8 * x2) + x1).toNatClampNeg)) = 3
      · refine T_tableIn (off := 45) (tgt := 79) dX10_findHand_34 (by rw [c27]; decide) (by rw [c27]; decide) (by rw [c27]; rfl) (by decide) ?_
        refine T_aload_n dX10_findHand_79 rfl 2 rfl ?_
        refine T_iload_n dX10_findHand_80 rfl 3 rfl ?_
        refine T_aload_n dX10_findHand_81 rfl 2 rfl ?_
        refine T_iload_n dX10_findHand_82 rfl 3 rfl ?_
        refine T_aload_n dX10_findHand_83 rfl 2 rfl ?_
        refine T_get (v := .ref 63) dX10_findHand_84 fl_X10_23 hp_60 hs_60 rfl rfl ?_
        refine T_iload_n dX10_findHand_87 rfl 1 rfl ?_
        refine T_iald dX10_findHand_88 hp_63 hs_63 ((h.2.2 c25).2.2.1 c27).1 ?_
        refine T_iload_n dX10_findHand_89 rfl 4 rfl ?_
        refine T_VI (As := [.int x1, .int (σ.1 63 (((8 * x2) + x1).toNatClampNeg)), .int x2]) dX10_findHand_90 mv_X10_230 hp_60 hs_60 rfl (Nat.le_of_ble_eq_true rfl) (hv_ok1 rfl) rfl (((h.2.2 c25).2.2.1 c27).2) (fun v5 s4 h6 => ?_)
        refine T_if_eq (tgt := 105) dX10_findHand_93 (by decide) (fun c28 => ?_) (fun c28 => ?_)
        · refine T_aload_n dX10_findHand_105 rfl 2 rfl ?_
          refine T_get (v := .ref 63) dX10_findHand_106 fl_X10_23 hp_60 hs_60 rfl rfl ?_
          refine T_iload_n dX10_findHand_109 rfl 1 rfl ?_
          refine T_iald dX10_findHand_110 hp_63 hs_63 (h6.1 c28).1 ?_
          refine T_iload_n dX10_findHand_111 rfl 4 rfl ?_
          refine T_bipush (v := 10) dX10_findHand_112 (by decide) ?_
          refine T_VV (As := [.int x1, .int (s4.1 63 (((8 * x2) + x1).toNatClampNeg)), .int x2, .int 10]) dX10_findHand_114 mv_X10_233 hp_60 hs_60 rfl (Nat.le_of_ble_eq_true rfl) (hv_ok1 rfl) rfl ((h6.1 c28).2) (fun s7 h9 => ?_)
          exact T_vret dX10_findHand_117 rfl h9
        · refine T_aload_n dX10_findHand_96 rfl 2 rfl ?_
          refine T_get (v := .ref 64) dX10_findHand_97 fl_X10_26 hp_60 hs_60 rfl rfl ?_
          refine T_iload_n dX10_findHand_100 rfl 1 rfl ?_
          refine T_iald dX10_findHand_101 hp_64 hs_64 (h6.2 c28).1 ?_
          refine T_goto (tgt := 111) dX10_findHand_102 (by decide) ?_
          refine T_iload_n dX10_findHand_111 rfl 4 rfl ?_
          refine T_bipush (v := 10) dX10_findHand_112 (by decide) ?_
          refine T_VV (As := [.int x1, .int (s4.1 64 (((8 * x2) + x1).toNatClampNeg)), .int x2, .int 10]) dX10_findHand_114 mv_X10_233 hp_60 hs_60 rfl (Nat.le_of_ble_eq_true rfl) (hv_ok1 rfl) rfl ((h6.2 c28).2) (fun s10 h12 => ?_)
          exact T_vret dX10_findHand_117 rfl h12
      · skip
        by_cases c29 : (σ.1 61 (((8 * x2) + x1).toNatClampNeg)) = 4
        · refine T_tableIn (off := 84) (tgt := 118) dX10_findHand_34 (by rw [c29]; decide) (by rw [c29]; decide) (by rw [c29]; rfl) (by decide) ?_
          refine T_aload_n dX10_findHand_118 rfl 2 rfl ?_
          refine T_iload_n dX10_findHand_119 rfl 3 rfl ?_
          refine T_aload_n dX10_findHand_120 rfl 2 rfl ?_
          refine T_get (v := .ref 63) dX10_findHand_121 fl_X10_23 hp_60 hs_60 rfl rfl ?_
          refine T_iload_n dX10_findHand_124 rfl 1 rfl ?_
          refine T_iald dX10_findHand_125 hp_63 hs_63 ((h.2.2 c25).2.2.2.1 c29).1 ?_
          refine T_iload_n dX10_findHand_126 rfl 4 rfl ?_
          refine T_aload_n dX10_findHand_127 rfl 2 rfl ?_
          refine T_get (v := .ref 65) dX10_findHand_128 fl_X10_29 hp_60 hs_60 rfl rfl ?_
          refine T_iload_n dX10_findHand_131 rfl 1 rfl ?_
          refine T_iald dX10_findHand_132 hp_65 hs_65 ((h.2.2 c25).2.2.2.1 c29).2.1 ?_
          refine T_VV (As := [.int x1, .int (σ.1 63 (((8 * x2) + x1).toNatClampNeg)), .int x2, .int (σ.1 65 (((8 * x2) + x1).toNatClampNeg))]) dX10_findHand_133 mv_X10_233 hp_60 hs_60 rfl (Nat.le_of_ble_eq_true rfl) (hv_ok1 rfl) rfl (((h.2.2 c25).2.2.2.1 c29).2.2) (fun s13 h15 => ?_)
          refine T_aload_n dX10_findHand_136 rfl 2 rfl ?_
          refine T_iload_n dX10_findHand_137 rfl 3 rfl ?_
          refine T_aload_n dX10_findHand_138 rfl 2 rfl ?_
          refine T_get (v := .ref 64) dX10_findHand_139 fl_X10_26 hp_60 hs_60 rfl rfl ?_
          refine T_iload_n dX10_findHand_142 rfl 1 rfl ?_
          refine T_iald dX10_findHand_143 hp_64 hs_64 h15.1 ?_
          refine T_iload_n dX10_findHand_144 rfl 4 rfl ?_
          refine T_bipush (v := 10) dX10_findHand_145 (by decide) ?_
          refine T_aload_n dX10_findHand_147 rfl 2 rfl ?_
          refine T_get (v := .ref 65) dX10_findHand_148 fl_X10_29 hp_60 hs_60 rfl rfl ?_
          refine T_iload_n dX10_findHand_151 rfl 1 rfl ?_
          refine T_iald dX10_findHand_152 hp_65 hs_65 h15.2.1 ?_
          refine T_isub dX10_findHand_153 ?_
          refine T_VV (As := [.int x1, .int (s13.1 64 (((8 * x2) + x1).toNatClampNeg)), .int x2, .int (10 - (s13.1 65 (((8 * x2) + x1).toNatClampNeg)))]) dX10_findHand_154 mv_X10_233 hp_60 hs_60 rfl (Nat.le_of_ble_eq_true rfl) (hv_ok1 rfl) rfl h15.2.2 (fun s16 h18 => ?_)
          exact T_vret dX10_findHand_157 rfl h18
        · skip
          by_cases c30 : (σ.1 61 (((8 * x2) + x1).toNatClampNeg)) = 5
          · refine T_tableIn (off := 124) (tgt := 158) dX10_findHand_34 (by rw [c30]; decide) (by rw [c30]; decide) (by rw [c30]; rfl) (by decide) ?_
            refine T_aload_n dX10_findHand_158 rfl 2 rfl ?_
            refine T_iload_n dX10_findHand_159 rfl 3 rfl ?_
            refine T_aload_n dX10_findHand_160 rfl 2 rfl ?_
            refine T_iload_n dX10_findHand_161 rfl 3 rfl ?_
            refine T_iload_n dX10_findHand_162 rfl 4 rfl ?_
            refine T_VI (As := [.int x1, .int x2]) dX10_findHand_163 mv_X10_237 hp_60 hs_60 rfl (Nat.le_of_ble_eq_true rfl) (hv_ok1 rfl) rfl ((h.2.2 c25).2.2.2.2.1 c30) (fun v20 s19 h21 => ?_)
            refine T_iload_n dX10_findHand_166 rfl 4 rfl ?_
            refine T_bipush (v := 10) dX10_findHand_167 (by decide) ?_
            refine T_VV (As := [.int x1, .int v20, .int x2, .int 10]) dX10_findHand_169 mv_X10_233 hp_60 hs_60 rfl (Nat.le_of_ble_eq_true rfl) (hv_ok1 rfl) rfl h21 (fun s22 h24 => ?_)
            exact T_vret dX10_findHand_172 rfl h24
          · skip
            refine T_tableOut (tgt := 173) dX10_findHand_34 (by have q0 := lv_neT c26 (a := 2) (by decide); have q1 := lv_neT c27 (a := 3) (by decide); have q2 := lv_neT c29 (a := 4) (by decide); have q3 := lv_neT c30 (a := 5) (by decide); omega) (by decide) ?_
            refine T_aload_n dX10_findHand_173 rfl 2 rfl ?_
            refine T_get (v := .ref 74) dX10_findHand_174 fl_X10_115 hp_60 hs_60 rfl rfl ?_
            refine T_bipush (v := 8) dX10_findHand_177 (by decide) ?_
            refine T_iload_n dX10_findHand_179 rfl 3 rfl ?_
            refine T_imul dX10_findHand_180 ?_
            refine T_iload_n dX10_findHand_181 rfl 3 rfl ?_
            refine T_iadd dX10_findHand_182 ?_
            refine T_bipush (v := 10) dX10_findHand_183 (by decide) ?_
            refine T_iast dX10_findHand_185 hp_74 hs_74 ((h.2.2 c25).2.2.2.2.2 c26 c27 c29 c30).1 ?_
            exact T_vret dX10_findHand_186 rfl (((h.2.2 c25).2.2.2.2.2 c26 c27 c29 c30).2)

def L_X10_findBest_4 (l : Launch) (e : hv_Ev)  (Φ : hv_S → Prop) (x1 : Int32) (x2 : Int32) (x3 : Int32) (σ : hv_S) : Prop := hv_TW l (hv_e2 e) (hv_rm 9) 0 0 m_X10_findBest hv_no (hv_ZV (hv_e2 e) Φ) 4 [(0, .ref 60), (1, .int x1), (2, .int x2), (3, .int x3)] [] σ
def L_X10_findBest_49 (l : Launch) (e : hv_Ev)  (Φ : hv_S → Prop) (x1 : Int32) (x2 : Int32) (x3 : Int32) (σ : hv_S) : Prop := hv_TW l (hv_e2 e) (hv_rm 9) 0 0 m_X10_findBest hv_no (hv_ZV (hv_e2 e) Φ) 49 [(0, .ref 60), (1, .int x1), (2, .int x2), (3, .int x3)] [] σ
def L_X10_findBest_103 (l : Launch) (e : hv_Ev)  (Φ : hv_S → Prop) (x1 : Int32) (x2 : Int32) (x3 : Int32) (σ : hv_S) : Prop := hv_TW l (hv_e2 e) (hv_rm 9) 0 0 m_X10_findBest hv_no (hv_ZV (hv_e2 e) Φ) 103 [(0, .ref 60), (1, .int x1), (2, .int x2), (3, .int x3)] [] σ
set_option maxHeartbeats 4000000 in
set_option maxRecDepth 100000 in
theorem B_X10_findBest_103 {l : Launch} {e : hv_Ev}  (x1 : Int32) (x2 : Int32) (x3 : Int32) {σ : hv_S} {Φ : hv_S → Prop} (h : ((((x3 - x2) &&& x2) ≠ 0 → L_X10_findBest_49 l e Φ x1 x2 ((x3 - x2) &&& x2) σ) ∧ (((x3 - x2) &&& x2) = 0 → Φ σ))) : L_X10_findBest_103 l e Φ x1 x2 x3 σ := by
  show hv_TW l (hv_e2 e) (hv_rm 9) 0 0 m_X10_findBest hv_no (hv_ZV (hv_e2 e) Φ) 103 [(0, .ref 60), (1, .int x1), (2, .int x2), (3, .int x3)] [] σ
  refine T_iload_n dX10_findBest_103 rfl 3 rfl ?_
  refine T_iload_n dX10_findBest_104 rfl 2 rfl ?_
  refine T_isub dX10_findBest_105 ?_
  refine T_iload_n dX10_findBest_106 rfl 2 rfl ?_
  refine T_iand dX10_findBest_107 ?_
  refine T_istore_n dX10_findBest_108 rfl (by decide) rfl ?_
  refine T_iload_n dX10_findBest_109 rfl 0 rfl ?_
  refine T_if_ne (tgt := 49) dX10_findBest_110 (by decide) (fun c22 => ?_) (fun c22 => ?_)
  · exact T_sub [1, 2, 3, 0] rfl (h.1 c22)
  · exact T_vret dX10_findBest_113 rfl (h.2 c22)
set_option maxHeartbeats 4000000 in
set_option maxRecDepth 100000 in
theorem B_X10_findBest_49 {l : Launch} {e : hv_Ev}  (x1 : Int32) (x2 : Int32) (x3 : Int32) {σ : hv_S} {Φ : hv_S → Prop} (h : hv_CI l (hv_e2 e) 8 m_X10_putOrders [.ref 60, .int x3, .int x1] σ (fun v7 s6 => ((v7 = 0 → L_X10_findBest_103 l e Φ x1 x2 x3 s6) ∧ (¬ v7 = 0 → hv_CI l (hv_e2 e) 1 m_X10_lostNow [.ref 60] s6 (fun v10 s9 => ((v10 ≠ 0 → L_X10_findBest_103 l e Φ x1 x2 x3 s9) ∧ (v10 = 0 → (((s9.1 60 36) < 0 → L_X10_findBest_103 l e Φ x1 x2 x3 (hv_ui (hv_ui s9 60 37 ((s9.1 60 37) + 1)) 60 36 x3)) ∧ (¬ (s9.1 60 36) < 0 → hv_CI l (hv_e2 e) 0 m_X10_ones [.ref 60, .int x3] (hv_ui s9 60 37 ((s9.1 60 37) + 1)) (fun v13 s12 => hv_CI l (hv_e2 e) 0 m_X10_ones [.ref 60, .int (s12.1 60 36)] s12 (fun v16 s15 => ((v16 ≤ v13 → L_X10_findBest_103 l e Φ x1 x2 x3 s15) ∧ (¬ v16 ≤ v13 → L_X10_findBest_103 l e Φ x1 x2 x3 (hv_ui s15 60 36 x3)))))))))))))) : L_X10_findBest_49 l e Φ x1 x2 x3 σ := by
  show hv_TW l (hv_e2 e) (hv_rm 9) 0 0 m_X10_findBest hv_no (hv_ZV (hv_e2 e) Φ) 49 [(0, .ref 60), (1, .int x1), (2, .int x2), (3, .int x3)] [] σ
  refine T_aload_n dX10_findBest_49 rfl 0 rfl ?_
  refine T_iload_n dX10_findBest_50 rfl 3 rfl ?_
  refine T_iload_n dX10_findBest_51 rfl 1 rfl ?_
  refine T_VI (As := [.int x3, .int x1]) dX10_findBest_52 mv_X10_247 hp_60 hs_60 rfl (Nat.le_of_ble_eq_true rfl) (hv_ok1 rfl) rfl h (fun v7 s6 h8 => ?_)
  refine T_if_eq (tgt := 103) dX10_findBest_55 (by decide) (fun c18 => ?_) (fun c18 => ?_)
  · exact T_sub [0, 1, 2, 3] rfl (h8.1 c18)
  · refine T_aload_n dX10_findBest_58 rfl 0 rfl ?_
    refine T_VI (As := []) dX10_findBest_59 mv_X10_250 hp_60 hs_60 rfl (Nat.le_of_ble_eq_true rfl) (hv_ok1 rfl) rfl (h8.2 c18) (fun v10 s9 h11 => ?_)
    refine T_if_ne (tgt := 103) dX10_findBest_62 (by decide) (fun c19 => ?_) (fun c19 => ?_)
    · exact T_sub [0, 1, 2, 3] rfl (h11.1 c19)
    · refine T_aload_n dX10_findBest_65 rfl 0 rfl ?_
      refine T_dup dX10_findBest_66 rfl ?_
      refine T_get (v := .int (s9.1 60 37)) dX10_findBest_67 fl_X10_124 hp_60 hs_60 rfl rfl ?_
      refine T_iconst (v := 1) dX10_findBest_70 (by decide) ?_
      refine T_iadd dX10_findBest_71 ?_
      refine T_puti dX10_findBest_72 fl_X10_124 pf_X10_37 hp_60 hs_60 rfl ?_
      refine T_aload_n dX10_findBest_75 rfl 0 rfl ?_
      refine T_get (v := .int (s9.1 60 36)) dX10_findBest_76 fl_X10_121 hp_60 hs_60 rfl rfl ?_
      refine T_if_lt (tgt := 98) dX10_findBest_79 (by decide) (fun c20 => ?_) (fun c20 => ?_)
      · refine T_aload_n dX10_findBest_98 rfl 0 rfl ?_
        refine T_iload_n dX10_findBest_99 rfl 3 rfl ?_
        refine T_puti dX10_findBest_100 fl_X10_121 pf_X10_36 hp_60 hs_60 rfl ?_
        exact T_sub [0, 1, 2, 3] rfl ((h11.2 c19).1 c20)
      · refine T_aload_n dX10_findBest_82 rfl 0 rfl ?_
        refine T_iload_n dX10_findBest_83 rfl 3 rfl ?_
        refine T_VI (As := [.int x3]) dX10_findBest_84 mv_X10_253 hp_60 hs_60 rfl (Nat.le_of_ble_eq_true rfl) (hv_ok1 rfl) rfl ((h11.2 c19).2 c20) (fun v13 s12 h14 => ?_)
        refine T_aload_n dX10_findBest_87 rfl 0 rfl ?_
        refine T_aload_n dX10_findBest_88 rfl 0 rfl ?_
        refine T_get (v := .int (s12.1 60 36)) dX10_findBest_89 fl_X10_121 hp_60 hs_60 rfl rfl ?_
        refine T_VI (As := [.int (s12.1 60 36)]) dX10_findBest_92 mv_X10_253 hp_60 hs_60 rfl (Nat.le_of_ble_eq_true rfl) (hv_ok1 rfl) rfl h14 (fun v16 s15 h17 => ?_)
        refine T_icmp_ge (tgt := 103) dX10_findBest_95 (by decide) (fun c21 => ?_) (fun c21 => ?_)
        · exact T_sub [0, 1, 2, 3] rfl (h17.1 c21)
        · refine T_aload_n dX10_findBest_98 rfl 0 rfl ?_
          refine T_iload_n dX10_findBest_99 rfl 3 rfl ?_
          refine T_puti dX10_findBest_100 fl_X10_121 pf_X10_36 hp_60 hs_60 rfl ?_
          exact T_sub [0, 1, 2, 3] rfl (h17.2 c21)
set_option maxHeartbeats 4000000 in
set_option maxRecDepth 100000 in
theorem B_X10_findBest_4 {l : Launch} {e : hv_Ev}  (x1 : Int32) (x2 : Int32) (x3 : Int32) {σ : hv_S} {Φ : hv_S → Prop} (h : (((σ.1 60 0) ≤ x3 → L_X10_findBest_49 l e Φ x1 x2 0 (hv_ui (hv_ui σ 60 36 (-1)) 60 37 0)) ∧ (¬ (σ.1 60 0) ≤ x3 → hv_CI l (hv_e2 e) 0 m_X10_isOrder [.ref 60, .int x3, .int x1] σ (fun v2 s1 => ((v2 = 0 → L_X10_findBest_4 l e Φ x1 (x2 ||| 0) (x3 + 1) s1) ∧ (¬ v2 = 0 → L_X10_findBest_4 l e Φ x1 (x2 ||| ((1 : Int32) <<< (x3 &&& 31))) (x3 + 1) s1)))))) : L_X10_findBest_4 l e Φ x1 x2 x3 σ := by
  show hv_TW l (hv_e2 e) (hv_rm 9) 0 0 m_X10_findBest hv_no (hv_ZV (hv_e2 e) Φ) 4 [(0, .ref 60), (1, .int x1), (2, .int x2), (3, .int x3)] [] σ
  refine T_iload_n dX10_findBest_4 rfl 3 rfl ?_
  refine T_aload_n dX10_findBest_5 rfl 0 rfl ?_
  refine T_get (v := .int (σ.1 60 0)) dX10_findBest_6 fl_X10_7 hp_60 hs_60 rfl rfl ?_
  refine T_icmp_ge (tgt := 37) dX10_findBest_9 (by decide) (fun c4 => ?_) (fun c4 => ?_)
  · refine T_aload_n dX10_findBest_37 rfl 0 rfl ?_
    refine T_iconst (v := (-1)) dX10_findBest_38 (by decide) ?_
    refine T_puti dX10_findBest_39 fl_X10_121 pf_X10_36 hp_60 hs_60 rfl ?_
    refine T_aload_n dX10_findBest_42 rfl 0 rfl ?_
    refine T_iconst (v := 0) dX10_findBest_43 (by decide) ?_
    refine T_puti dX10_findBest_44 fl_X10_124 pf_X10_37 hp_60 hs_60 rfl ?_
    refine T_iconst (v := 0) dX10_findBest_47 (by decide) ?_
    refine T_istore_n dX10_findBest_48 rfl (by decide) rfl ?_
    exact T_sub [1, 2, 3, 0] rfl (h.1 c4)
  · refine T_iload_n dX10_findBest_12 rfl 2 rfl ?_
    refine T_aload_n dX10_findBest_13 rfl 0 rfl ?_
    refine T_iload_n dX10_findBest_14 rfl 3 rfl ?_
    refine T_iload_n dX10_findBest_15 rfl 1 rfl ?_
    refine T_VI (As := [.int x3, .int x1]) dX10_findBest_16 mv_X10_244 hp_60 hs_60 rfl (Nat.le_of_ble_eq_true rfl) (hv_ok1 rfl) rfl (h.2 c4) (fun v2 s1 h3 => ?_)
    refine T_if_eq (tgt := 28) dX10_findBest_19 (by decide) (fun c5 => ?_) (fun c5 => ?_)
    · refine T_iconst (v := 0) dX10_findBest_28 (by decide) ?_
      refine T_ior dX10_findBest_29 ?_
      refine T_istore_n dX10_findBest_30 rfl (by decide) rfl ?_
      refine T_iinc (v := (x3 + 1)) dX10_findBest_31 3 rfl rfl (by decide) rfl ?_
      refine T_goto (tgt := 4) dX10_findBest_34 (by decide) ?_
      exact T_sub [2, 3, 1, 0] rfl (h3.1 c5)
    · refine T_iconst (v := 1) dX10_findBest_22 (by decide) ?_
      refine T_iload_n dX10_findBest_23 rfl 3 rfl ?_
      refine T_ishl dX10_findBest_24 ?_
      refine T_goto (tgt := 29) dX10_findBest_25 (by decide) ?_
      refine T_ior dX10_findBest_29 ?_
      refine T_istore_n dX10_findBest_30 rfl (by decide) rfl ?_
      refine T_iinc (v := (x3 + 1)) dX10_findBest_31 3 rfl rfl (by decide) rfl ?_
      refine T_goto (tgt := 4) dX10_findBest_34 (by decide) ?_
      exact T_sub [2, 3, 1, 0] rfl (h3.2 c5)
set_option maxHeartbeats 4000000 in
set_option maxRecDepth 100000 in
theorem B_X10_findBest {l : Launch} {e : hv_Ev}  (x1 : Int32) {σ : hv_S} {Φ : hv_S → Prop} (h : L_X10_findBest_4 l e Φ x1 0 0 σ) : hv_CV l (hv_e2 e) 9 m_X10_findBest [.ref 60, .int x1] σ Φ := by
  refine hv_entV (by decide) (Nat.le_of_ble_eq_true rfl) ?_
  show hv_TW l (hv_e2 e) (hv_rm 9) 0 0 m_X10_findBest hv_no (hv_ZV (hv_e2 e) Φ) 0 [(0, .ref 60), (1, .int x1)] [] σ
  refine T_iconst (v := 0) dX10_findBest_0 (by decide) ?_
  refine T_istore_n dX10_findBest_1 rfl (by decide) rfl ?_
  refine T_iconst (v := 0) dX10_findBest_2 (by decide) ?_
  refine T_istore_n dX10_findBest_3 rfl (by decide) rfl ?_
  exact T_sub [2, 3, 1, 0] rfl h

set_option maxHeartbeats 4000000 in
set_option maxRecDepth 100000 in
theorem B_X10_act {l : Launch} {e : hv_Ev}  (x1 : Int32) (x2 : Int32) (x3 : Int32) (x4 : Int32) {σ : hv_S} {Φ : Int32 → hv_S → Prop} (h : hv_CI l (hv_e2 e) 1 m_X10_isMember [.ref 60, .int x1] (hv_ui σ 60 46 0) (fun v2 s1 => ((v2 = 0 → Φ 0 s1) ∧ (¬ v2 = 0 → hv_CI l (hv_e2 e) 1 m_X10_isMatter [.ref 60, .int x2] s1 (fun v5 s4 => ((v5 = 0 → Φ 0 s4) ∧ (¬ v5 = 0 → hv_CI l (hv_e2 e) 0 m_X10_in [.ref 60, .int x3, .int 0, .int 2] s4 (fun v8 s7 => ((v8 ≠ 0 → ((x3 ≠ 0 → ((x3 ≠ 1 → hv_CI l (hv_e2 e) 8 m_X10_tells [.ref 60, .int x1, .int x2, .int x4] s7 (fun v11 s10 => Φ v11 s10)) ∧ (x3 = 1 → hv_CI l (hv_e2 e) 6 m_X10_holds [.ref 60, .int x1, .int x2, .int x4] s7 (fun v14 s13 => Φ v14 s13)))) ∧ (x3 = 0 → hv_CI l (hv_e2 e) 3 m_X10_gives [.ref 60, .int x1, .int x2, .int x4] s7 (fun v17 s16 => Φ v17 s16)))) ∧ (v8 = 0 → Φ 0 s7)))))))))) : hv_CI l (hv_e2 e) 9 m_X10_act [.ref 60, .int x1, .int x2, .int x3, .int x4] σ Φ := by
  refine hv_entI (by decide) (Nat.le_of_ble_eq_true rfl) ?_
  show hv_TW l (hv_e2 e) (hv_rm 9) 0 0 m_X10_act hv_no (hv_ZI (hv_e2 e) Φ) 0 [(0, .ref 60), (1, .int x1), (2, .int x2), (3, .int x3), (4, .int x4)] [] σ
  refine T_aload_n dX10_act_0 rfl 0 rfl ?_
  refine T_iconst (v := 0) dX10_act_1 (by decide) ?_
  refine T_puti dX10_act_2 fl_X10_153 pf_X10_46 hp_60 hs_60 rfl ?_
  refine T_aload_n dX10_act_5 rfl 0 rfl ?_
  refine T_iload_n dX10_act_6 rfl 1 rfl ?_
  refine T_VI (As := [.int x1]) dX10_act_7 mv_X10_179 hp_60 hs_60 rfl (Nat.le_of_ble_eq_true rfl) (hv_ok1 rfl) rfl h (fun v2 s1 h3 => ?_)
  refine T_if_eq (tgt := 31) dX10_act_10 (by decide) (fun c19 => ?_) (fun c19 => ?_)
  · refine T_iconst (v := 0) dX10_act_31 (by decide) ?_
    exact T_iret dX10_act_32 rfl (h3.1 c19)
  · refine T_aload_n dX10_act_13 rfl 0 rfl ?_
    refine T_iload_n dX10_act_14 rfl 2 rfl ?_
    refine T_VI (As := [.int x2]) dX10_act_15 mv_X10_183 hp_60 hs_60 rfl (Nat.le_of_ble_eq_true rfl) (hv_ok1 rfl) rfl (h3.2 c19) (fun v5 s4 h6 => ?_)
    refine T_if_eq (tgt := 31) dX10_act_18 (by decide) (fun c20 => ?_) (fun c20 => ?_)
    · refine T_iconst (v := 0) dX10_act_31 (by decide) ?_
      exact T_iret dX10_act_32 rfl (h6.1 c20)
    · refine T_aload_n dX10_act_21 rfl 0 rfl ?_
      refine T_iload_n dX10_act_22 rfl 3 rfl ?_
      refine T_iconst (v := 0) dX10_act_23 (by decide) ?_
      refine T_iconst (v := 2) dX10_act_24 (by decide) ?_
      refine T_VI (As := [.int x3, .int 0, .int 2]) dX10_act_25 mv_X10_171 hp_60 hs_60 rfl (Nat.le_of_ble_eq_true rfl) (hv_ok1 rfl) rfl (h6.2 c20) (fun v8 s7 h9 => ?_)
      refine T_if_ne (tgt := 33) dX10_act_28 (by decide) (fun c21 => ?_) (fun c21 => ?_)
      · refine T_iload_n dX10_act_33 rfl 3 rfl ?_
        refine T_if_ne (tgt := 48) dX10_act_34 (by decide) (fun c22 => ?_) (fun c22 => ?_)
        · refine T_iload_n dX10_act_48 rfl 3 rfl ?_
          refine T_iconst (v := 1) dX10_act_49 (by decide) ?_
          refine T_icmp_ne (tgt := 64) dX10_act_50 (by decide) (fun c23 => ?_) (fun c23 => ?_)
          · refine T_aload_n dX10_act_64 rfl 0 rfl ?_
            refine T_iload_n dX10_act_65 rfl 1 rfl ?_
            refine T_iload_n dX10_act_66 rfl 2 rfl ?_
            refine T_iload dX10_act_67 4 rfl ?_
            refine T_VI (As := [.int x1, .int x2, .int x4]) dX10_act_69 mv_X10_354 hp_60 hs_60 rfl (Nat.le_of_ble_eq_true rfl) (hv_ok1 rfl) rfl (((h9.1 c21).1 c22).1 c23) (fun v11 s10 h12 => ?_)
            exact T_iret dX10_act_72 rfl h12
          · refine T_aload_n dX10_act_53 rfl 0 rfl ?_
            refine T_iload_n dX10_act_54 rfl 1 rfl ?_
            refine T_iload_n dX10_act_55 rfl 2 rfl ?_
            refine T_iload dX10_act_56 4 rfl ?_
            refine T_VI (As := [.int x1, .int x2, .int x4]) dX10_act_58 mv_X10_348 hp_60 hs_60 rfl (Nat.le_of_ble_eq_true rfl) (hv_ok1 rfl) rfl (((h9.1 c21).1 c22).2 c23) (fun v14 s13 h15 => ?_)
            refine T_goto (tgt := 72) dX10_act_61 (by decide) ?_
            exact T_iret dX10_act_72 rfl h15
        · refine T_aload_n dX10_act_37 rfl 0 rfl ?_
          refine T_iload_n dX10_act_38 rfl 1 rfl ?_
          refine T_iload_n dX10_act_39 rfl 2 rfl ?_
          refine T_iload dX10_act_40 4 rfl ?_
          refine T_VI (As := [.int x1, .int x2, .int x4]) dX10_act_42 mv_X10_338 hp_60 hs_60 rfl (Nat.le_of_ble_eq_true rfl) (hv_ok1 rfl) rfl ((h9.1 c21).2 c22) (fun v17 s16 h18 => ?_)
          refine T_goto (tgt := 72) dX10_act_45 (by decide) ?_
          exact T_iret dX10_act_72 rfl h18
      · refine T_iconst (v := 0) dX10_act_31 (by decide) ?_
        exact T_iret dX10_act_32 rfl (h9.2 c21)

def L_X10_findHands_7 (l : Launch) (e : hv_Ev)  (Φ : hv_S → Prop) (x1 : Int32) (x3 : Int32) (σ : hv_S) : Prop := hv_TW l (hv_e2 e) (hv_rm 10) 0 0 m_X10_findHands hv_no (hv_ZV (hv_e2 e) Φ) 7 [(0, .ref 60), (1, .int x1), (3, .int x3)] [] σ
def L_X10_findHands_28 (l : Launch) (e : hv_Ev)  (Φ : hv_S → Prop) (x1 : Int32) (x3 : Int32) (σ : hv_S) : Prop := hv_TW l (hv_e2 e) (hv_rm 10) 0 0 m_X10_findHands hv_no (hv_ZV (hv_e2 e) Φ) 28 [(0, .ref 60), (1, .int x1), (3, .int x3)] [] σ
set_option maxHeartbeats 4000000 in
set_option maxRecDepth 100000 in
theorem B_X10_findHands_28 {l : Launch} {e : hv_Ev}  (x1 : Int32) (x3 : Int32) {σ : hv_S} {Φ : hv_S → Prop} (h : (((σ.1 60 0) ≤ x3 → Φ σ) ∧ (¬ (σ.1 60 0) ≤ x3 → hv_CV l (hv_e2 e) 9 m_X10_findHand [.ref 60, .int x3, .int x1] σ (fun s2 => L_X10_findHands_28 l e Φ x1 (x3 + 1) s2)))) : L_X10_findHands_28 l e Φ x1 x3 σ := by
  show hv_TW l (hv_e2 e) (hv_rm 10) 0 0 m_X10_findHands hv_no (hv_ZV (hv_e2 e) Φ) 28 [(0, .ref 60), (1, .int x1), (3, .int x3)] [] σ
  refine T_iload_n dX10_findHands_28 rfl 2 rfl ?_
  refine T_aload_n dX10_findHands_29 rfl 0 rfl ?_
  refine T_get (v := .int (σ.1 60 0)) dX10_findHands_30 fl_X10_7 hp_60 hs_60 rfl rfl ?_
  refine T_icmp_ge (tgt := 48) dX10_findHands_33 (by decide) (fun c5 => ?_) (fun c5 => ?_)
  · exact T_vret dX10_findHands_48 rfl (h.1 c5)
  · refine T_aload_n dX10_findHands_36 rfl 0 rfl ?_
    refine T_iload_n dX10_findHands_37 rfl 2 rfl ?_
    refine T_iload_n dX10_findHands_38 rfl 1 rfl ?_
    refine T_VV (As := [.int x3, .int x1]) dX10_findHands_39 mv_X10_257 hp_60 hs_60 rfl (Nat.le_of_ble_eq_true rfl) (hv_ok1 rfl) rfl (h.2 c5) (fun s2 h4 => ?_)
    refine T_iinc (v := (x3 + 1)) dX10_findHands_42 2 rfl rfl (by decide) rfl ?_
    refine T_goto (tgt := 28) dX10_findHands_45 (by decide) ?_
    exact T_sub [1, 2, 0] rfl h4
set_option maxHeartbeats 4000000 in
set_option maxRecDepth 100000 in
theorem B_X10_findHands_7 {l : Launch} {e : hv_Ev}  (x1 : Int32) (x3 : Int32) {σ : hv_S} {Φ : hv_S → Prop} (h : ((64 ≤ x3 → L_X10_findHands_28 l e Φ x1 0 σ) ∧ (¬ 64 ≤ x3 → (vp_in x3 64 ∧ L_X10_findHands_7 l e Φ x1 (x3 + 1) (hv_ui σ 74 x3.toNatClampNeg 0))))) : L_X10_findHands_7 l e Φ x1 x3 σ := by
  show hv_TW l (hv_e2 e) (hv_rm 10) 0 0 m_X10_findHands hv_no (hv_ZV (hv_e2 e) Φ) 7 [(0, .ref 60), (1, .int x1), (3, .int x3)] [] σ
  refine T_iload_n dX10_findHands_7 rfl 2 rfl ?_
  refine T_bipush (v := 64) dX10_findHands_8 (by decide) ?_
  refine T_icmp_ge (tgt := 26) dX10_findHands_10 (by decide) (fun c1 => ?_) (fun c1 => ?_)
  · refine T_iconst (v := 0) dX10_findHands_26 (by decide) ?_
    refine T_istore_n dX10_findHands_27 rfl (by decide) rfl ?_
    exact T_sub [1, 2, 0] rfl (h.1 c1)
  · refine T_aload_n dX10_findHands_13 rfl 0 rfl ?_
    refine T_get (v := .ref 74) dX10_findHands_14 fl_X10_115 hp_60 hs_60 rfl rfl ?_
    refine T_iload_n dX10_findHands_17 rfl 2 rfl ?_
    refine T_iconst (v := 0) dX10_findHands_18 (by decide) ?_
    refine T_iast dX10_findHands_19 hp_74 hs_74 (h.2 c1).1 ?_
    refine T_iinc (v := (x3 + 1)) dX10_findHands_20 2 rfl rfl (by decide) rfl ?_
    refine T_goto (tgt := 7) dX10_findHands_23 (by decide) ?_
    exact T_sub [1, 2, 0] rfl (h.2 c1).2
set_option maxHeartbeats 4000000 in
set_option maxRecDepth 100000 in
theorem B_X10_findHands {l : Launch} {e : hv_Ev}  (x1 : Int32) (x2 : Int32) {σ : hv_S} {Φ : hv_S → Prop} (h : L_X10_findHands_7 l e Φ x1 0 (hv_ui σ 60 35 x2)) : hv_CV l (hv_e2 e) 10 m_X10_findHands [.ref 60, .int x1, .int x2] σ Φ := by
  refine hv_entV (by decide) (Nat.le_of_ble_eq_true rfl) ?_
  show hv_TW l (hv_e2 e) (hv_rm 10) 0 0 m_X10_findHands hv_no (hv_ZV (hv_e2 e) Φ) 0 [(0, .ref 60), (1, .int x1), (2, .int x2)] [] σ
  refine T_aload_n dX10_findHands_0 rfl 0 rfl ?_
  refine T_iload_n dX10_findHands_1 rfl 2 rfl ?_
  refine T_puti dX10_findHands_2 fl_X10_118 pf_X10_35 hp_60 hs_60 rfl ?_
  refine T_iconst (v := 0) dX10_findHands_5 (by decide) ?_
  refine T_istore_n dX10_findHands_6 rfl (by decide) rfl ?_
  exact T_sub [1, 2, 0] rfl h

set_option maxHeartbeats 4000000 in
set_option maxRecDepth 100000 in
theorem B_X10_findAll {l : Launch} {e : hv_Ev}  (x1 : Int32) (x2 : Int32) {σ : hv_S} {Φ : hv_S → Prop} (h : hv_CV l (hv_e2 e) 10 m_X10_findHands [.ref 60, .int x1, .int x2] σ (fun s1 => (((s1.1 60 22) = 98 → hv_CV l (hv_e2 e) 9 m_X10_findBest [.ref 60, .int x1] s1 (fun s4 => (((s4.1 60 36) < 0 → hv_CV l (hv_e2 e) 10 m_X10_findHands [.ref 60, .int x1, .int x2] s4 (fun s7 => Φ s7)) ∧ (¬ (s4.1 60 36) < 0 → hv_CI l (hv_e2 e) 8 m_X10_putOrders [.ref 60, .int (s4.1 60 36), .int x1] s4 (fun v11 s10 => ((v11 = 0 → hv_CV l (hv_e2 e) 10 m_X10_findHands [.ref 60, .int x1, .int x2] s10 (fun s13 => Φ s13)) ∧ (¬ v11 = 0 → Φ s10))))))) ∧ (¬ (s1.1 60 22) = 98 → Φ s1)))) : hv_CV l (hv_e2 e) 11 m_X10_findAll [.ref 60, .int x1, .int x2] σ Φ := by
  refine hv_entV (by decide) (Nat.le_of_ble_eq_true rfl) ?_
  show hv_TW l (hv_e2 e) (hv_rm 11) 0 0 m_X10_findAll hv_no (hv_ZV (hv_e2 e) Φ) 0 [(0, .ref 60), (1, .int x1), (2, .int x2)] [] σ
  refine T_aload_n dX10_findAll_0 rfl 0 rfl ?_
  refine T_iload_n dX10_findAll_1 rfl 1 rfl ?_
  refine T_iload_n dX10_findAll_2 rfl 2 rfl ?_
  refine T_VV (As := [.int x1, .int x2]) dX10_findAll_3 mv_X10_261 hp_60 hs_60 rfl (Nat.le_of_ble_eq_true rfl) (hv_ok1 rfl) rfl h (fun s1 h3 => ?_)
  refine T_aload_n dX10_findAll_6 rfl 0 rfl ?_
  refine T_get (v := .int (s1.1 60 22)) dX10_findAll_7 fl_X10_79 hp_60 hs_60 rfl rfl ?_
  refine T_bipush (v := 98) dX10_findAll_10 (by decide) ?_
  refine T_icmp_eq (tgt := 16) dX10_findAll_12 (by decide) (fun c16 => ?_) (fun c16 => ?_)
  · refine T_aload_n dX10_findAll_16 rfl 0 rfl ?_
    refine T_iload_n dX10_findAll_17 rfl 1 rfl ?_
    refine T_VV (As := [.int x1]) dX10_findAll_18 mv_X10_264 hp_60 hs_60 rfl (Nat.le_of_ble_eq_true rfl) (hv_ok1 rfl) rfl (h3.1 c16) (fun s4 h6 => ?_)
    refine T_aload_n dX10_findAll_21 rfl 0 rfl ?_
    refine T_get (v := .int (s4.1 60 36)) dX10_findAll_22 fl_X10_121 hp_60 hs_60 rfl rfl ?_
    refine T_if_lt (tgt := 44) dX10_findAll_25 (by decide) (fun c17 => ?_) (fun c17 => ?_)
    · refine T_iconst (v := 0) dX10_findAll_44 (by decide) ?_
      refine T_istore_n dX10_findAll_45 rfl (by decide) rfl ?_
      refine T_iload_n dX10_findAll_46 rfl 0 rfl ?_
      refine T_if_eq (tgt := 51) dX10_findAll_47 (by decide) (fun _ => ?_) (fun q => absurd q (by decide))
      refine T_aload_n dX10_findAll_51 rfl 1 rfl ?_
      refine T_iload_n dX10_findAll_52 rfl 2 rfl ?_
      refine T_iload_n dX10_findAll_53 rfl 3 rfl ?_
      refine T_VV (As := [.int x1, .int x2]) dX10_findAll_54 mv_X10_261 hp_60 hs_60 rfl (Nat.le_of_ble_eq_true rfl) (hv_ok1 rfl) rfl (h6.1 c17) (fun s7 h9 => ?_)
      exact T_vret dX10_findAll_57 rfl h9
    · refine T_aload_n dX10_findAll_28 rfl 0 rfl ?_
      refine T_aload_n dX10_findAll_29 rfl 0 rfl ?_
      refine T_get (v := .int (s4.1 60 36)) dX10_findAll_30 fl_X10_121 hp_60 hs_60 rfl rfl ?_
      refine T_iload_n dX10_findAll_33 rfl 1 rfl ?_
      refine T_VI (As := [.int (s4.1 60 36), .int x1]) dX10_findAll_34 mv_X10_247 hp_60 hs_60 rfl (Nat.le_of_ble_eq_true rfl) (hv_ok1 rfl) rfl (h6.2 c17) (fun v11 s10 h12 => ?_)
      refine T_if_eq (tgt := 44) dX10_findAll_37 (by decide) (fun c18 => ?_) (fun c18 => ?_)
      · refine T_iconst (v := 0) dX10_findAll_44 (by decide) ?_
        refine T_istore_n dX10_findAll_45 rfl (by decide) rfl ?_
        refine T_iload_n dX10_findAll_46 rfl 0 rfl ?_
        refine T_if_eq (tgt := 51) dX10_findAll_47 (by decide) (fun _ => ?_) (fun q => absurd q (by decide))
        refine T_aload_n dX10_findAll_51 rfl 1 rfl ?_
        refine T_iload_n dX10_findAll_52 rfl 2 rfl ?_
        refine T_iload_n dX10_findAll_53 rfl 3 rfl ?_
        refine T_VV (As := [.int x1, .int x2]) dX10_findAll_54 mv_X10_261 hp_60 hs_60 rfl (Nat.le_of_ble_eq_true rfl) (hv_ok1 rfl) rfl (h12.1 c18) (fun s13 h15 => ?_)
        exact T_vret dX10_findAll_57 rfl h15
      · refine T_iconst (v := 1) dX10_findAll_40 (by decide) ?_
        refine T_goto (tgt := 45) dX10_findAll_41 (by decide) ?_
        refine T_istore_n dX10_findAll_45 rfl (by decide) rfl ?_
        refine T_iload_n dX10_findAll_46 rfl 0 rfl ?_
        refine T_if_eq (tgt := 51) dX10_findAll_47 (by decide) (fun q => absurd q (by decide)) (fun _ => ?_)
        exact T_vret dX10_findAll_50 rfl (h12.2 c18)
  · exact T_vret dX10_findAll_15 rfl (h3.2 c16)

def L_X10_best_47 (l : Launch) (e : hv_Ev)  (Φ : Int32 → hv_S → Prop) (x1 : Int32) (x2 : Int32) (σ : hv_S) : Prop := hv_TW l (hv_e2 e) (hv_rm 11) 0 0 m_X10_best hv_no (hv_ZI (hv_e2 e) Φ) 47 [(0, .ref 60), (1, .int x1), (2, .int x2)] [] σ
set_option maxHeartbeats 4000000 in
set_option maxRecDepth 100000 in
theorem B_X10_best_47 {l : Launch} {e : hv_Ev}  (x1 : Int32) (x2 : Int32) {σ : hv_S} {Φ : Int32 → hv_S → Prop} (h : hv_CV l (hv_e2 e) 9 m_X10_findBest [.ref 60, .int x1] σ (fun s15 => ((0 ≤ x2 → ((0 ≤ (s15.1 60 36) → Φ (((s15.1 60 36) >>> (x2 &&& 31)) &&& 1) s15) ∧ (¬ 0 ≤ (s15.1 60 36) → Φ (-5) s15))) ∧ (¬ 0 ≤ x2 → Φ (s15.1 60 37) s15)))) : L_X10_best_47 l e Φ x1 x2 σ := by
  show hv_TW l (hv_e2 e) (hv_rm 11) 0 0 m_X10_best hv_no (hv_ZI (hv_e2 e) Φ) 47 [(0, .ref 60), (1, .int x1), (2, .int x2)] [] σ
  refine T_aload_n dX10_best_47 rfl 0 rfl ?_
  refine T_iload_n dX10_best_48 rfl 1 rfl ?_
  refine T_VV (As := [.int x1]) dX10_best_49 mv_X10_264 hp_60 hs_60 rfl (Nat.le_of_ble_eq_true rfl) (hv_ok1 rfl) rfl h (fun s15 h17 => ?_)
  refine T_iload_n dX10_best_52 rfl 2 rfl ?_
  refine T_if_ge (tgt := 63) dX10_best_53 (by decide) (fun c18 => ?_) (fun c18 => ?_)
  · refine T_aload_n dX10_best_63 rfl 0 rfl ?_
    refine T_get (v := .int (s15.1 60 36)) dX10_best_64 fl_X10_121 hp_60 hs_60 rfl rfl ?_
    refine T_if_ge (tgt := 75) dX10_best_67 (by decide) (fun c19 => ?_) (fun c19 => ?_)
    · refine T_aload_n dX10_best_75 rfl 0 rfl ?_
      refine T_get (v := .int (s15.1 60 36)) dX10_best_76 fl_X10_121 hp_60 hs_60 rfl rfl ?_
      refine T_iload_n dX10_best_79 rfl 2 rfl ?_
      refine T_ishr dX10_best_80 ?_
      refine T_iconst (v := 1) dX10_best_81 (by decide) ?_
      refine T_iand dX10_best_82 ?_
      exact T_iret dX10_best_83 rfl ((h17.1 c18).1 c19)
    · refine T_bipush (v := (-5)) dX10_best_70 (by decide) ?_
      refine T_goto (tgt := 83) dX10_best_72 (by decide) ?_
      exact T_iret dX10_best_83 rfl ((h17.1 c18).2 c19)
  · refine T_aload_n dX10_best_56 rfl 0 rfl ?_
    refine T_get (v := .int (s15.1 60 37)) dX10_best_57 fl_X10_124 hp_60 hs_60 rfl rfl ?_
    refine T_goto (tgt := 83) dX10_best_60 (by decide) ?_
    exact T_iret dX10_best_83 rfl (h17.2 c18)
set_option maxHeartbeats 4000000 in
set_option maxRecDepth 100000 in
theorem B_X10_best {l : Launch} {e : hv_Ev}  (x1 : Int32) (x2 : Int32) {σ : hv_S} {Φ : Int32 → hv_S → Prop} (h : hv_CI l (hv_e2 e) 1 m_X10_isMatter [.ref 60, .int x1] σ (fun v2 s1 => ((v2 = 0 → Φ (-1) s1) ∧ (¬ v2 = 0 → ((x2 < (-1) → Φ (-1) s1) ∧ (¬ x2 < (-1) → ((x2 < (s1.1 60 0) → hv_CV l (hv_e2 e) 10 m_X10_findHands [.ref 60, .int x1, .int (s1.1 60 1)] s1 (fun s4 => ((x2 < 0 → L_X10_best_47 l e Φ x1 x2 s4) ∧ (¬ x2 < 0 → hv_CI l (hv_e2 e) 0 m_X10_isOrder [.ref 60, .int x2, .int x1] s4 (fun v8 s7 => ((v8 ≠ 0 → L_X10_best_47 l e Φ x1 x2 s7) ∧ (v8 = 0 → Φ (-1) s7))))))) ∧ (¬ x2 < (s1.1 60 0) → Φ (-1) s1)))))))) : hv_CI l (hv_e2 e) 11 m_X10_best [.ref 60, .int x1, .int x2] σ Φ := by
  refine hv_entI (by decide) (Nat.le_of_ble_eq_true rfl) ?_
  show hv_TW l (hv_e2 e) (hv_rm 11) 0 0 m_X10_best hv_no (hv_ZI (hv_e2 e) Φ) 0 [(0, .ref 60), (1, .int x1), (2, .int x2)] [] σ
  refine T_aload_n dX10_best_0 rfl 0 rfl ?_
  refine T_iload_n dX10_best_1 rfl 1 rfl ?_
  refine T_VI (As := [.int x1]) dX10_best_2 mv_X10_183 hp_60 hs_60 rfl (Nat.le_of_ble_eq_true rfl) (hv_ok1 rfl) rfl h (fun v2 s1 h3 => ?_)
  refine T_if_eq (tgt := 21) dX10_best_5 (by decide) (fun c10 => ?_) (fun c10 => ?_)
  · refine T_iconst (v := (-1)) dX10_best_21 (by decide) ?_
    exact T_iret dX10_best_22 rfl (h3.1 c10)
  · refine T_iload_n dX10_best_8 rfl 2 rfl ?_
    refine T_iconst (v := (-1)) dX10_best_9 (by decide) ?_
    refine T_icmp_lt (tgt := 21) dX10_best_10 (by decide) (fun c11 => ?_) (fun c11 => ?_)
    · refine T_iconst (v := (-1)) dX10_best_21 (by decide) ?_
      exact T_iret dX10_best_22 rfl ((h3.2 c10).1 c11)
    · refine T_iload_n dX10_best_13 rfl 2 rfl ?_
      refine T_aload_n dX10_best_14 rfl 0 rfl ?_
      refine T_get (v := .int (s1.1 60 0)) dX10_best_15 fl_X10_7 hp_60 hs_60 rfl rfl ?_
      refine T_icmp_lt (tgt := 23) dX10_best_18 (by decide) (fun c12 => ?_) (fun c12 => ?_)
      · refine T_aload_n dX10_best_23 rfl 0 rfl ?_
        refine T_iload_n dX10_best_24 rfl 1 rfl ?_
        refine T_aload_n dX10_best_25 rfl 0 rfl ?_
        refine T_get (v := .int (s1.1 60 1)) dX10_best_26 fl_X10_13 hp_60 hs_60 rfl rfl ?_
        refine T_VV (As := [.int x1, .int (s1.1 60 1)]) dX10_best_29 mv_X10_261 hp_60 hs_60 rfl (Nat.le_of_ble_eq_true rfl) (hv_ok1 rfl) rfl (((h3.2 c10).2 c11).1 c12) (fun s4 h6 => ?_)
        refine T_iload_n dX10_best_32 rfl 2 rfl ?_
        refine T_if_lt (tgt := 47) dX10_best_33 (by decide) (fun c13 => ?_) (fun c13 => ?_)
        · exact T_sub [0, 1, 2] rfl (h6.1 c13)
        · refine T_aload_n dX10_best_36 rfl 0 rfl ?_
          refine T_iload_n dX10_best_37 rfl 2 rfl ?_
          refine T_iload_n dX10_best_38 rfl 1 rfl ?_
          refine T_VI (As := [.int x2, .int x1]) dX10_best_39 mv_X10_244 hp_60 hs_60 rfl (Nat.le_of_ble_eq_true rfl) (hv_ok1 rfl) rfl (h6.2 c13) (fun v8 s7 h9 => ?_)
          refine T_if_ne (tgt := 47) dX10_best_42 (by decide) (fun c14 => ?_) (fun c14 => ?_)
          · exact T_sub [0, 1, 2] rfl (h9.1 c14)
          · refine T_iconst (v := (-1)) dX10_best_45 (by decide) ?_
            exact T_iret dX10_best_46 rfl (h9.2 c14)
      · refine T_iconst (v := (-1)) dX10_best_21 (by decide) ?_
        exact T_iret dX10_best_22 rfl (((h3.2 c10).2 c11).2 c12)

set_option maxHeartbeats 4000000 in
set_option maxRecDepth 100000 in
theorem B_X10_share {l : Launch} {e : hv_Ev}  (x1 : Int32) (x2 : Int32) (x3 : Int32) {σ : hv_S} {Φ : Int32 → hv_S → Prop} (h : hv_CI l (hv_e2 e) 1 m_X10_isMember [.ref 60, .int x1] σ (fun v2 s1 => ((v2 = 0 → Φ (-1) s1) ∧ (¬ v2 = 0 → hv_CI l (hv_e2 e) 1 m_X10_isMember [.ref 60, .int x2] s1 (fun v5 s4 => ((v5 = 0 → Φ (-1) s4) ∧ (¬ v5 = 0 → hv_CI l (hv_e2 e) 1 m_X10_isMatter [.ref 60, .int x3] s4 (fun v8 s7 => ((v8 ≠ 0 → hv_CV l (hv_e2 e) 11 m_X10_findAll [.ref 60, .int x3, .int (s7.1 60 1)] s7 (fun s10 => (vp_in ((8 * x1) + x2) 64 ∧ Φ (s10.1 74 (((8 * x1) + x2).toNatClampNeg)) s10))) ∧ (v8 = 0 → Φ (-1) s7)))))))))) : hv_CI l (hv_e2 e) 12 m_X10_share [.ref 60, .int x1, .int x2, .int x3] σ Φ := by
  refine hv_entI (by decide) (Nat.le_of_ble_eq_true rfl) ?_
  show hv_TW l (hv_e2 e) (hv_rm 12) 0 0 m_X10_share hv_no (hv_ZI (hv_e2 e) Φ) 0 [(0, .ref 60), (1, .int x1), (2, .int x2), (3, .int x3)] [] σ
  refine T_aload_n dX10_share_0 rfl 0 rfl ?_
  refine T_iload_n dX10_share_1 rfl 1 rfl ?_
  refine T_VI (As := [.int x1]) dX10_share_2 mv_X10_179 hp_60 hs_60 rfl (Nat.le_of_ble_eq_true rfl) (hv_ok1 rfl) rfl h (fun v2 s1 h3 => ?_)
  refine T_if_eq (tgt := 24) dX10_share_5 (by decide) (fun c13 => ?_) (fun c13 => ?_)
  · refine T_iconst (v := (-1)) dX10_share_24 (by decide) ?_
    exact T_iret dX10_share_25 rfl (h3.1 c13)
  · refine T_aload_n dX10_share_8 rfl 0 rfl ?_
    refine T_iload_n dX10_share_9 rfl 2 rfl ?_
    refine T_VI (As := [.int x2]) dX10_share_10 mv_X10_179 hp_60 hs_60 rfl (Nat.le_of_ble_eq_true rfl) (hv_ok1 rfl) rfl (h3.2 c13) (fun v5 s4 h6 => ?_)
    refine T_if_eq (tgt := 24) dX10_share_13 (by decide) (fun c14 => ?_) (fun c14 => ?_)
    · refine T_iconst (v := (-1)) dX10_share_24 (by decide) ?_
      exact T_iret dX10_share_25 rfl (h6.1 c14)
    · refine T_aload_n dX10_share_16 rfl 0 rfl ?_
      refine T_iload_n dX10_share_17 rfl 3 rfl ?_
      refine T_VI (As := [.int x3]) dX10_share_18 mv_X10_183 hp_60 hs_60 rfl (Nat.le_of_ble_eq_true rfl) (hv_ok1 rfl) rfl (h6.2 c14) (fun v8 s7 h9 => ?_)
      refine T_if_ne (tgt := 26) dX10_share_21 (by decide) (fun c15 => ?_) (fun c15 => ?_)
      · refine T_aload_n dX10_share_26 rfl 0 rfl ?_
        refine T_iload_n dX10_share_27 rfl 3 rfl ?_
        refine T_aload_n dX10_share_28 rfl 0 rfl ?_
        refine T_get (v := .int (s7.1 60 1)) dX10_share_29 fl_X10_13 hp_60 hs_60 rfl rfl ?_
        refine T_VV (As := [.int x3, .int (s7.1 60 1)]) dX10_share_32 mv_X10_267 hp_60 hs_60 rfl (Nat.le_of_ble_eq_true rfl) (hv_ok1 rfl) rfl (h9.1 c15) (fun s10 h12 => ?_)
        refine T_aload_n dX10_share_35 rfl 0 rfl ?_
        refine T_get (v := .ref 74) dX10_share_36 fl_X10_115 hp_60 hs_60 rfl rfl ?_
        refine T_bipush (v := 8) dX10_share_39 (by decide) ?_
        refine T_iload_n dX10_share_41 rfl 1 rfl ?_
        refine T_imul dX10_share_42 ?_
        refine T_iload_n dX10_share_43 rfl 2 rfl ?_
        refine T_iadd dX10_share_44 ?_
        refine T_iald dX10_share_45 hp_74 hs_74 h12.1 ?_
        exact T_iret dX10_share_46 rfl h12.2
      · refine T_iconst (v := (-1)) dX10_share_24 (by decide) ?_
        exact T_iret dX10_share_25 rfl (h9.2 c15)

set_option maxHeartbeats 4000000 in
set_option maxRecDepth 100000 in
theorem B_X10_findVoices {l : Launch} {e : hv_Ev}  (x1 : Int32) (x2 : Int32) {σ : hv_S} {Φ : hv_S → Prop} (h : hv_CV l (hv_e2 e) 11 m_X10_findAll [.ref 60, .int x1, .int x2] σ (fun s1 => hv_CV l (hv_e2 e) 2 m_X10_unroll [.ref 60] s1 (fun s4 => Φ s4))) : hv_CV l (hv_e2 e) 12 m_X10_findVoices [.ref 60, .int x1, .int x2] σ Φ := by
  refine hv_entV (by decide) (Nat.le_of_ble_eq_true rfl) ?_
  show hv_TW l (hv_e2 e) (hv_rm 12) 0 0 m_X10_findVoices hv_no (hv_ZV (hv_e2 e) Φ) 0 [(0, .ref 60), (1, .int x1), (2, .int x2)] [] σ
  refine T_aload_n dX10_findVoices_0 rfl 0 rfl ?_
  refine T_iload_n dX10_findVoices_1 rfl 1 rfl ?_
  refine T_iload_n dX10_findVoices_2 rfl 2 rfl ?_
  refine T_VV (As := [.int x1, .int x2]) dX10_findVoices_3 mv_X10_267 hp_60 hs_60 rfl (Nat.le_of_ble_eq_true rfl) (hv_ok1 rfl) rfl h (fun s1 h3 => ?_)
  refine T_aload_n dX10_findVoices_6 rfl 0 rfl ?_
  refine T_VV (As := []) dX10_findVoices_7 mv_X10_272 hp_60 hs_60 rfl (Nat.le_of_ble_eq_true rfl) (hv_ok1 rfl) rfl h3 (fun s4 h6 => ?_)
  exact T_vret dX10_findVoices_10 rfl h6

set_option maxHeartbeats 4000000 in
set_option maxRecDepth 100000 in
theorem B_X10_voices {l : Launch} {e : hv_Ev}  (x1 : Int32) (x2 : Int32) (x3 : Int32) {σ : hv_S} {Φ : Int64 → hv_S → Prop} (h : hv_CI l (hv_e2 e) 1 m_X10_isMember [.ref 60, .int x1] σ (fun v2 s1 => ((v2 = 0 → Φ (-9223372036854775808) s1) ∧ (¬ v2 = 0 → hv_CI l (hv_e2 e) 1 m_X10_isMatter [.ref 60, .int x2] s1 (fun v5 s4 => ((v5 = 0 → Φ (-9223372036854775808) s4) ∧ (¬ v5 = 0 → hv_CI l (hv_e2 e) 0 m_X10_in [.ref 60, .int x3, .int 0, .int 1] s4 (fun v8 s7 => ((v8 ≠ 0 → hv_CV l (hv_e2 e) 12 m_X10_findVoices [.ref 60, .int x2, .int (s7.1 60 1)] s7 (fun s10 => (vp_in x1 8 ∧ hv_CL l (hv_e2 e) 1 m_X10_part [.ref 60, .long (s10.2.1 75 x1.toNatClampNeg), .long (s10.2.1 60 40), .int x3] s10 (fun v14 s13 => Φ v14 s13)))) ∧ (v8 = 0 → Φ (-9223372036854775808) s7)))))))))) : hv_CL l (hv_e2 e) 13 m_X10_voices [.ref 60, .int x1, .int x2, .int x3] σ Φ := by
  refine hv_entL (by decide) (Nat.le_of_ble_eq_true rfl) ?_
  show hv_TW l (hv_e2 e) (hv_rm 13) 0 0 m_X10_voices hv_no (hv_ZL (hv_e2 e) Φ) 0 [(0, .ref 60), (1, .int x1), (2, .int x2), (3, .int x3)] [] σ
  refine T_aload_n dX10_voices_0 rfl 0 rfl ?_
  refine T_iload_n dX10_voices_1 rfl 1 rfl ?_
  refine T_VI (As := [.int x1]) dX10_voices_2 mv_X10_179 hp_60 hs_60 rfl (Nat.le_of_ble_eq_true rfl) (hv_ok1 rfl) rfl h (fun v2 s1 h3 => ?_)
  refine T_if_eq (tgt := 26) dX10_voices_5 (by decide) (fun c16 => ?_) (fun c16 => ?_)
  · refine T_ldc2 dX10_voices_26 kl_X10_279 ?_
    exact T_lret dX10_voices_29 rfl (h3.1 c16)
  · refine T_aload_n dX10_voices_8 rfl 0 rfl ?_
    refine T_iload_n dX10_voices_9 rfl 2 rfl ?_
    refine T_VI (As := [.int x2]) dX10_voices_10 mv_X10_183 hp_60 hs_60 rfl (Nat.le_of_ble_eq_true rfl) (hv_ok1 rfl) rfl (h3.2 c16) (fun v5 s4 h6 => ?_)
    refine T_if_eq (tgt := 26) dX10_voices_13 (by decide) (fun c17 => ?_) (fun c17 => ?_)
    · refine T_ldc2 dX10_voices_26 kl_X10_279 ?_
      exact T_lret dX10_voices_29 rfl (h6.1 c17)
    · refine T_aload_n dX10_voices_16 rfl 0 rfl ?_
      refine T_iload_n dX10_voices_17 rfl 3 rfl ?_
      refine T_iconst (v := 0) dX10_voices_18 (by decide) ?_
      refine T_iconst (v := 1) dX10_voices_19 (by decide) ?_
      refine T_VI (As := [.int x3, .int 0, .int 1]) dX10_voices_20 mv_X10_171 hp_60 hs_60 rfl (Nat.le_of_ble_eq_true rfl) (hv_ok1 rfl) rfl (h6.2 c17) (fun v8 s7 h9 => ?_)
      refine T_if_ne (tgt := 30) dX10_voices_23 (by decide) (fun c18 => ?_) (fun c18 => ?_)
      · refine T_aload_n dX10_voices_30 rfl 0 rfl ?_
        refine T_iload_n dX10_voices_31 rfl 2 rfl ?_
        refine T_aload_n dX10_voices_32 rfl 0 rfl ?_
        refine T_get (v := .int (s7.1 60 1)) dX10_voices_33 fl_X10_13 hp_60 hs_60 rfl rfl ?_
        refine T_VV (As := [.int x2, .int (s7.1 60 1)]) dX10_voices_36 mv_X10_281 hp_60 hs_60 rfl (Nat.le_of_ble_eq_true rfl) (hv_ok1 rfl) rfl (h9.1 c18) (fun s10 h12 => ?_)
        refine T_aload_n dX10_voices_39 rfl 0 rfl ?_
        refine T_aload_n dX10_voices_40 rfl 0 rfl ?_
        refine T_get (v := .ref 75) dX10_voices_41 fl_X10_127 hp_60 hs_60 rfl rfl ?_
        refine T_iload_n dX10_voices_44 rfl 1 rfl ?_
        refine T_lald dX10_voices_45 hp_75 hs_75 h12.1 ?_
        refine T_aload_n dX10_voices_46 rfl 0 rfl ?_
        refine T_get (v := .long (s10.2.1 60 40)) dX10_voices_47 fl_X10_134 hp_60 hs_60 rfl rfl ?_
        refine T_iload_n dX10_voices_50 rfl 3 rfl ?_
        refine T_VL (As := [.long (s10.2.1 75 x1.toNatClampNeg), .long (s10.2.1 60 40), .int x3]) dX10_voices_51 mv_X10_284 hp_60 hs_60 rfl (Nat.le_of_ble_eq_true rfl) (hv_ok1 rfl) rfl h12.2 (fun v14 s13 h15 => ?_)
        exact T_lret dX10_voices_54 rfl h15
      · refine T_ldc2 dX10_voices_26 kl_X10_279 ?_
        exact T_lret dX10_voices_29 rfl (h9.2 c18)

set_option maxHeartbeats 4000000 in
set_option maxRecDepth 100000 in
theorem B_X10_lost {l : Launch} {e : hv_Ev}  (x1 : Int32) {σ : hv_S} {Φ : Int32 → hv_S → Prop} (h : hv_CI l (hv_e2 e) 1 m_X10_isMatter [.ref 60, .int x1] σ (fun v2 s1 => ((v2 ≠ 0 → hv_CV l (hv_e2 e) 12 m_X10_findVoices [.ref 60, .int x1, .int (s1.1 60 1)] s1 (fun s4 => Φ (s4.1 60 41) s4)) ∧ (v2 = 0 → Φ (-1) s1)))) : hv_CI l (hv_e2 e) 13 m_X10_lost [.ref 60, .int x1] σ Φ := by
  refine hv_entI (by decide) (Nat.le_of_ble_eq_true rfl) ?_
  show hv_TW l (hv_e2 e) (hv_rm 13) 0 0 m_X10_lost hv_no (hv_ZI (hv_e2 e) Φ) 0 [(0, .ref 60), (1, .int x1)] [] σ
  refine T_aload_n dX10_lost_0 rfl 0 rfl ?_
  refine T_iload_n dX10_lost_1 rfl 1 rfl ?_
  refine T_VI (As := [.int x1]) dX10_lost_2 mv_X10_183 hp_60 hs_60 rfl (Nat.le_of_ble_eq_true rfl) (hv_ok1 rfl) rfl h (fun v2 s1 h3 => ?_)
  refine T_if_ne (tgt := 10) dX10_lost_5 (by decide) (fun c7 => ?_) (fun c7 => ?_)
  · refine T_aload_n dX10_lost_10 rfl 0 rfl ?_
    refine T_iload_n dX10_lost_11 rfl 1 rfl ?_
    refine T_aload_n dX10_lost_12 rfl 0 rfl ?_
    refine T_get (v := .int (s1.1 60 1)) dX10_lost_13 fl_X10_13 hp_60 hs_60 rfl rfl ?_
    refine T_VV (As := [.int x1, .int (s1.1 60 1)]) dX10_lost_16 mv_X10_281 hp_60 hs_60 rfl (Nat.le_of_ble_eq_true rfl) (hv_ok1 rfl) rfl (h3.1 c7) (fun s4 h6 => ?_)
    refine T_aload_n dX10_lost_19 rfl 0 rfl ?_
    refine T_get (v := .int (s4.1 60 41)) dX10_lost_20 fl_X10_138 hp_60 hs_60 rfl rfl ?_
    exact T_iret dX10_lost_23 rfl h6
  · refine T_iconst (v := (-1)) dX10_lost_8 (by decide) ?_
    exact T_iret dX10_lost_9 rfl (h3.2 c7)

set_option maxHeartbeats 4000000 in
set_option maxRecDepth 100000 in
theorem B_X10_decided {l : Launch} {e : hv_Ev}  (x1 : Int32) {σ : hv_S} {Φ : Int32 → hv_S → Prop} (h : hv_CI l (hv_e2 e) 1 m_X10_isMatter [.ref 60, .int x1] σ (fun v2 s1 => ((v2 ≠ 0 → hv_CV l (hv_e2 e) 12 m_X10_findVoices [.ref 60, .int x1, .int (s1.1 60 1)] s1 (fun s4 => hv_CI l (hv_e2 e) 0 m_X10_thinks [.ref 60, .int x1] s4 (fun v8 s7 => hv_CI l (hv_e2 e) 1 m_X10_decides [.ref 60, .int v8] s7 (fun v11 s10 => ((v11 = 0 → Φ 0 s10) ∧ (¬ v11 = 0 → Φ 1 s10)))))) ∧ (v2 = 0 → Φ (-1) s1)))) : hv_CI l (hv_e2 e) 13 m_X10_decided [.ref 60, .int x1] σ Φ := by
  refine hv_entI (by decide) (Nat.le_of_ble_eq_true rfl) ?_
  show hv_TW l (hv_e2 e) (hv_rm 13) 0 0 m_X10_decided hv_no (hv_ZI (hv_e2 e) Φ) 0 [(0, .ref 60), (1, .int x1)] [] σ
  refine T_aload_n dX10_decided_0 rfl 0 rfl ?_
  refine T_iload_n dX10_decided_1 rfl 1 rfl ?_
  refine T_VI (As := [.int x1]) dX10_decided_2 mv_X10_183 hp_60 hs_60 rfl (Nat.le_of_ble_eq_true rfl) (hv_ok1 rfl) rfl h (fun v2 s1 h3 => ?_)
  refine T_if_ne (tgt := 10) dX10_decided_5 (by decide) (fun c13 => ?_) (fun c13 => ?_)
  · refine T_aload_n dX10_decided_10 rfl 0 rfl ?_
    refine T_iload_n dX10_decided_11 rfl 1 rfl ?_
    refine T_aload_n dX10_decided_12 rfl 0 rfl ?_
    refine T_get (v := .int (s1.1 60 1)) dX10_decided_13 fl_X10_13 hp_60 hs_60 rfl rfl ?_
    refine T_VV (As := [.int x1, .int (s1.1 60 1)]) dX10_decided_16 mv_X10_281 hp_60 hs_60 rfl (Nat.le_of_ble_eq_true rfl) (hv_ok1 rfl) rfl (h3.1 c13) (fun s4 h6 => ?_)
    refine T_aload_n dX10_decided_19 rfl 0 rfl ?_
    refine T_aload_n dX10_decided_20 rfl 0 rfl ?_
    refine T_iload_n dX10_decided_21 rfl 1 rfl ?_
    refine T_VI (As := [.int x1]) dX10_decided_22 mv_X10_288 hp_60 hs_60 rfl (Nat.le_of_ble_eq_true rfl) (hv_ok1 rfl) rfl h6 (fun v8 s7 h9 => ?_)
    refine T_VI (As := [.int v8]) dX10_decided_25 mv_X10_291 hp_60 hs_60 rfl (Nat.le_of_ble_eq_true rfl) (hv_ok1 rfl) rfl h9 (fun v11 s10 h12 => ?_)
    refine T_if_eq (tgt := 35) dX10_decided_28 (by decide) (fun c14 => ?_) (fun c14 => ?_)
    · refine T_iconst (v := 0) dX10_decided_35 (by decide) ?_
      exact T_iret dX10_decided_36 rfl (h12.1 c14)
    · refine T_iconst (v := 1) dX10_decided_31 (by decide) ?_
      refine T_goto (tgt := 36) dX10_decided_32 (by decide) ?_
      exact T_iret dX10_decided_36 rfl (h12.2 c14)
  · refine T_iconst (v := (-1)) dX10_decided_8 (by decide) ?_
    exact T_iret dX10_decided_9 rfl (h3.2 c13)

def L_X10_turning_23 (l : Launch) (e : hv_Ev)  (Φ : Int32 → hv_S → Prop) (x1 : Int32) (x2 : Int32) (x3 : Int32) (σ : hv_S) : Prop := hv_TW l (hv_e2 e) (hv_rm 13) 0 0 m_X10_turning hv_no (hv_ZI (hv_e2 e) Φ) 23 [(0, .ref 60), (1, .int x1), (2, .int x2), (3, .int x3)] [] σ
set_option maxHeartbeats 4000000 in
set_option maxRecDepth 100000 in
theorem B_X10_turning_23 {l : Launch} {e : hv_Ev}  (x1 : Int32) (x2 : Int32) (x3 : Int32) {σ : hv_S} {Φ : Int32 → hv_S → Prop} (h : (((σ.1 60 0) ≤ x3 → Φ x2 σ) ∧ (¬ (σ.1 60 0) ≤ x3 → hv_CI l (hv_e2 e) 0 m_X10_thinks [.ref 60, .int x1] σ (fun v9 s8 => hv_CI l (hv_e2 e) 1 m_X10_decides [.ref 60, .int v9] s8 (fun v12 s11 => hv_CI l (hv_e2 e) 0 m_X10_thinks [.ref 60, .int x1] s11 (fun v15 s14 => hv_CI l (hv_e2 e) 1 m_X10_decides [.ref 60, .int (v15 ^^^ ((1 : Int32) <<< (x3 &&& 31)))] s14 (fun v18 s17 => ((v12 = v18 → L_X10_turning_23 l e Φ x1 (x2 ||| 0) (x3 + 1) s17) ∧ (¬ v12 = v18 → L_X10_turning_23 l e Φ x1 (x2 ||| ((1 : Int32) <<< (x3 &&& 31))) (x3 + 1) s17))))))))) : L_X10_turning_23 l e Φ x1 x2 x3 σ := by
  show hv_TW l (hv_e2 e) (hv_rm 13) 0 0 m_X10_turning hv_no (hv_ZI (hv_e2 e) Φ) 23 [(0, .ref 60), (1, .int x1), (2, .int x2), (3, .int x3)] [] σ
  refine T_iload_n dX10_turning_23 rfl 3 rfl ?_
  refine T_aload_n dX10_turning_24 rfl 0 rfl ?_
  refine T_get (v := .int (σ.1 60 0)) dX10_turning_25 fl_X10_7 hp_60 hs_60 rfl rfl ?_
  refine T_icmp_ge (tgt := 72) dX10_turning_28 (by decide) (fun c20 => ?_) (fun c20 => ?_)
  · refine T_iload_n dX10_turning_72 rfl 2 rfl ?_
    exact T_iret dX10_turning_73 rfl (h.1 c20)
  · refine T_iload_n dX10_turning_31 rfl 2 rfl ?_
    refine T_aload_n dX10_turning_32 rfl 0 rfl ?_
    refine T_aload_n dX10_turning_33 rfl 0 rfl ?_
    refine T_iload_n dX10_turning_34 rfl 1 rfl ?_
    refine T_VI (As := [.int x1]) dX10_turning_35 mv_X10_288 hp_60 hs_60 rfl (Nat.le_of_ble_eq_true rfl) (hv_ok1 rfl) rfl (h.2 c20) (fun v9 s8 h10 => ?_)
    refine T_VI (As := [.int v9]) dX10_turning_38 mv_X10_291 hp_60 hs_60 rfl (Nat.le_of_ble_eq_true rfl) (hv_ok1 rfl) rfl h10 (fun v12 s11 h13 => ?_)
    refine T_aload_n dX10_turning_41 rfl 0 rfl ?_
    refine T_aload_n dX10_turning_42 rfl 0 rfl ?_
    refine T_iload_n dX10_turning_43 rfl 1 rfl ?_
    refine T_VI (As := [.int x1]) dX10_turning_44 mv_X10_288 hp_60 hs_60 rfl (Nat.le_of_ble_eq_true rfl) (hv_ok1 rfl) rfl h13 (fun v15 s14 h16 => ?_)
    refine T_iconst (v := 1) dX10_turning_47 (by decide) ?_
    refine T_iload_n dX10_turning_48 rfl 3 rfl ?_
    refine T_ishl dX10_turning_49 ?_
    refine T_ixor dX10_turning_50 ?_
    refine T_VI (As := [.int (v15 ^^^ ((1 : Int32) <<< (x3 &&& 31)))]) dX10_turning_51 mv_X10_291 hp_60 hs_60 rfl (Nat.le_of_ble_eq_true rfl) (hv_ok1 rfl) rfl h16 (fun v18 s17 h19 => ?_)
    refine T_icmp_eq (tgt := 63) dX10_turning_54 (by decide) (fun c21 => ?_) (fun c21 => ?_)
    · refine T_iconst (v := 0) dX10_turning_63 (by decide) ?_
      refine T_ior dX10_turning_64 ?_
      refine T_istore_n dX10_turning_65 rfl (by decide) rfl ?_
      refine T_iinc (v := (x3 + 1)) dX10_turning_66 3 rfl rfl (by decide) rfl ?_
      refine T_goto (tgt := 23) dX10_turning_69 (by decide) ?_
      exact T_sub [2, 3, 1, 0] rfl (h19.1 c21)
    · refine T_iconst (v := 1) dX10_turning_57 (by decide) ?_
      refine T_iload_n dX10_turning_58 rfl 3 rfl ?_
      refine T_ishl dX10_turning_59 ?_
      refine T_goto (tgt := 64) dX10_turning_60 (by decide) ?_
      refine T_ior dX10_turning_64 ?_
      refine T_istore_n dX10_turning_65 rfl (by decide) rfl ?_
      refine T_iinc (v := (x3 + 1)) dX10_turning_66 3 rfl rfl (by decide) rfl ?_
      refine T_goto (tgt := 23) dX10_turning_69 (by decide) ?_
      exact T_sub [2, 3, 1, 0] rfl (h19.2 c21)
set_option maxHeartbeats 4000000 in
set_option maxRecDepth 100000 in
theorem B_X10_turning {l : Launch} {e : hv_Ev}  (x1 : Int32) {σ : hv_S} {Φ : Int32 → hv_S → Prop} (h : hv_CI l (hv_e2 e) 1 m_X10_isMatter [.ref 60, .int x1] σ (fun v2 s1 => ((v2 ≠ 0 → hv_CV l (hv_e2 e) 12 m_X10_findVoices [.ref 60, .int x1, .int (s1.1 60 1)] s1 (fun s4 => L_X10_turning_23 l e Φ x1 0 0 s4)) ∧ (v2 = 0 → Φ (-1) s1)))) : hv_CI l (hv_e2 e) 13 m_X10_turning [.ref 60, .int x1] σ Φ := by
  refine hv_entI (by decide) (Nat.le_of_ble_eq_true rfl) ?_
  show hv_TW l (hv_e2 e) (hv_rm 13) 0 0 m_X10_turning hv_no (hv_ZI (hv_e2 e) Φ) 0 [(0, .ref 60), (1, .int x1)] [] σ
  refine T_aload_n dX10_turning_0 rfl 0 rfl ?_
  refine T_iload_n dX10_turning_1 rfl 1 rfl ?_
  refine T_VI (As := [.int x1]) dX10_turning_2 mv_X10_183 hp_60 hs_60 rfl (Nat.le_of_ble_eq_true rfl) (hv_ok1 rfl) rfl h (fun v2 s1 h3 => ?_)
  refine T_if_ne (tgt := 10) dX10_turning_5 (by decide) (fun c7 => ?_) (fun c7 => ?_)
  · refine T_aload_n dX10_turning_10 rfl 0 rfl ?_
    refine T_iload_n dX10_turning_11 rfl 1 rfl ?_
    refine T_aload_n dX10_turning_12 rfl 0 rfl ?_
    refine T_get (v := .int (s1.1 60 1)) dX10_turning_13 fl_X10_13 hp_60 hs_60 rfl rfl ?_
    refine T_VV (As := [.int x1, .int (s1.1 60 1)]) dX10_turning_16 mv_X10_281 hp_60 hs_60 rfl (Nat.le_of_ble_eq_true rfl) (hv_ok1 rfl) rfl (h3.1 c7) (fun s4 h6 => ?_)
    refine T_iconst (v := 0) dX10_turning_19 (by decide) ?_
    refine T_istore_n dX10_turning_20 rfl (by decide) rfl ?_
    refine T_iconst (v := 0) dX10_turning_21 (by decide) ?_
    refine T_istore_n dX10_turning_22 rfl (by decide) rfl ?_
    exact T_sub [2, 3, 1, 0] rfl h6
  · refine T_iconst (v := (-1)) dX10_turning_8 (by decide) ?_
    exact T_iret dX10_turning_9 rfl (h3.2 c7)

def L_X10_power_44 (l : Launch) (e : hv_Ev)  (Φ : Int32 → hv_S → Prop) (x1 : Int32) (x3 : Int32) (x4 : Int32) (x5 : Int32) (σ : hv_S) : Prop := hv_TW l (hv_e2 e) (hv_rm 13) 0 0 m_X10_power hv_no (hv_ZI (hv_e2 e) Φ) 44 [(0, .ref 60), (1, .int x1), (3, .int x3), (4, .int x4), (5, .int x5)] [] σ
set_option maxHeartbeats 4000000 in
set_option maxRecDepth 100000 in
theorem B_X10_power_44 {l : Launch} {e : hv_Ev}  (x1 : Int32) (x3 : Int32) (x4 : Int32) (x5 : Int32) {σ : hv_S} {Φ : Int32 → hv_S → Prop} (h : ((((1 : Int32) <<< ((σ.1 60 0) &&& 31)) ≤ x5 → Φ x4 σ) ∧ (¬ ((1 : Int32) <<< ((σ.1 60 0) &&& 31)) ≤ x5 → (((x5 &&& (x3 ^^^ (-1))) ≠ 0 → L_X10_power_44 l e Φ x1 x3 x4 (x5 + 1) σ) ∧ ((x5 &&& (x3 ^^^ (-1))) = 0 → hv_CI l (hv_e2 e) 1 m_X10_decides [.ref 60, .int x5] σ (fun v16 s15 => hv_CI l (hv_e2 e) 1 m_X10_decides [.ref 60, .int (x5 ||| ((1 : Int32) <<< (x1 &&& 31)))] s15 (fun v19 s18 => ((v16 = v19 → L_X10_power_44 l e Φ x1 x3 x4 (x5 + 1) s18) ∧ (¬ v16 = v19 → L_X10_power_44 l e Φ x1 x3 (x4 + 1) (x5 + 1) s18))))))))) : L_X10_power_44 l e Φ x1 x3 x4 x5 σ := by
  show hv_TW l (hv_e2 e) (hv_rm 13) 0 0 m_X10_power hv_no (hv_ZI (hv_e2 e) Φ) 44 [(0, .ref 60), (1, .int x1), (3, .int x3), (4, .int x4), (5, .int x5)] [] σ
  refine T_iload dX10_power_44 4 rfl ?_
  refine T_iconst (v := 1) dX10_power_46 (by decide) ?_
  refine T_aload_n dX10_power_47 rfl 0 rfl ?_
  refine T_get (v := .int (σ.1 60 0)) dX10_power_48 fl_X10_7 hp_60 hs_60 rfl rfl ?_
  refine T_ishl dX10_power_51 ?_
  refine T_icmp_ge (tgt := 92) dX10_power_52 (by decide) (fun c21 => ?_) (fun c21 => ?_)
  · refine T_iload dX10_power_92 3 rfl ?_
    exact T_iret dX10_power_94 rfl (h.1 c21)
  · refine T_iload dX10_power_55 4 rfl ?_
    refine T_iload_n dX10_power_57 rfl 2 rfl ?_
    refine T_iconst (v := (-1)) dX10_power_58 (by decide) ?_
    refine T_ixor dX10_power_59 ?_
    refine T_iand dX10_power_60 ?_
    refine T_if_ne (tgt := 86) dX10_power_61 (by decide) (fun c22 => ?_) (fun c22 => ?_)
    · refine T_iinc (v := (x5 + 1)) dX10_power_86 4 rfl rfl (by decide) rfl ?_
      refine T_goto (tgt := 44) dX10_power_89 (by decide) ?_
      exact T_sub [1, 2, 3, 4, 0] rfl ((h.2 c21).1 c22)
    · refine T_aload_n dX10_power_64 rfl 0 rfl ?_
      refine T_iload dX10_power_65 4 rfl ?_
      refine T_VI (As := [.int x5]) dX10_power_67 mv_X10_291 hp_60 hs_60 rfl (Nat.le_of_ble_eq_true rfl) (hv_ok1 rfl) rfl ((h.2 c21).2 c22) (fun v16 s15 h17 => ?_)
      refine T_aload_n dX10_power_70 rfl 0 rfl ?_
      refine T_iload dX10_power_71 4 rfl ?_
      refine T_iconst (v := 1) dX10_power_73 (by decide) ?_
      refine T_iload_n dX10_power_74 rfl 1 rfl ?_
      refine T_ishl dX10_power_75 ?_
      refine T_ior dX10_power_76 ?_
      refine T_VI (As := [.int (x5 ||| ((1 : Int32) <<< (x1 &&& 31)))]) dX10_power_77 mv_X10_291 hp_60 hs_60 rfl (Nat.le_of_ble_eq_true rfl) (hv_ok1 rfl) rfl h17 (fun v19 s18 h20 => ?_)
      refine T_icmp_eq (tgt := 86) dX10_power_80 (by decide) (fun c23 => ?_) (fun c23 => ?_)
      · refine T_iinc (v := (x5 + 1)) dX10_power_86 4 rfl rfl (by decide) rfl ?_
        refine T_goto (tgt := 44) dX10_power_89 (by decide) ?_
        exact T_sub [1, 2, 3, 4, 0] rfl (h20.1 c23)
      · refine T_iinc (v := (x4 + 1)) dX10_power_83 3 rfl rfl (by decide) rfl ?_
        refine T_iinc (v := (x5 + 1)) dX10_power_86 4 rfl rfl (by decide) rfl ?_
        refine T_goto (tgt := 44) dX10_power_89 (by decide) ?_
        exact T_sub [2, 3, 4, 1, 0] rfl (h20.2 c23)
set_option maxHeartbeats 4000000 in
set_option maxRecDepth 100000 in
theorem B_X10_power {l : Launch} {e : hv_Ev}  (x1 : Int32) (x2 : Int32) {σ : hv_S} {Φ : Int32 → hv_S → Prop} (h : hv_CI l (hv_e2 e) 1 m_X10_isMember [.ref 60, .int x1] σ (fun v2 s1 => ((v2 = 0 → Φ (-1) s1) ∧ (¬ v2 = 0 → hv_CI l (hv_e2 e) 1 m_X10_isMatter [.ref 60, .int x2] s1 (fun v5 s4 => ((v5 ≠ 0 → hv_CV l (hv_e2 e) 12 m_X10_findVoices [.ref 60, .int x2, .int (s4.1 60 1)] s4 (fun s7 => hv_CI l (hv_e2 e) 0 m_X10_speaking [.ref 60] s7 (fun v11 s10 => L_X10_power_44 l e Φ x1 (v11 &&& (((1 : Int32) <<< (x1 &&& 31)) ^^^ (-1))) 0 0 s10))) ∧ (v5 = 0 → Φ (-1) s4))))))) : hv_CI l (hv_e2 e) 13 m_X10_power [.ref 60, .int x1, .int x2] σ Φ := by
  refine hv_entI (by decide) (Nat.le_of_ble_eq_true rfl) ?_
  show hv_TW l (hv_e2 e) (hv_rm 13) 0 0 m_X10_power hv_no (hv_ZI (hv_e2 e) Φ) 0 [(0, .ref 60), (1, .int x1), (2, .int x2)] [] σ
  refine T_aload_n dX10_power_0 rfl 0 rfl ?_
  refine T_iload_n dX10_power_1 rfl 1 rfl ?_
  refine T_VI (As := [.int x1]) dX10_power_2 mv_X10_179 hp_60 hs_60 rfl (Nat.le_of_ble_eq_true rfl) (hv_ok1 rfl) rfl h (fun v2 s1 h3 => ?_)
  refine T_if_eq (tgt := 16) dX10_power_5 (by decide) (fun c13 => ?_) (fun c13 => ?_)
  · refine T_iconst (v := (-1)) dX10_power_16 (by decide) ?_
    exact T_iret dX10_power_17 rfl (h3.1 c13)
  · refine T_aload_n dX10_power_8 rfl 0 rfl ?_
    refine T_iload_n dX10_power_9 rfl 2 rfl ?_
    refine T_VI (As := [.int x2]) dX10_power_10 mv_X10_183 hp_60 hs_60 rfl (Nat.le_of_ble_eq_true rfl) (hv_ok1 rfl) rfl (h3.2 c13) (fun v5 s4 h6 => ?_)
    refine T_if_ne (tgt := 18) dX10_power_13 (by decide) (fun c14 => ?_) (fun c14 => ?_)
    · refine T_aload_n dX10_power_18 rfl 0 rfl ?_
      refine T_iload_n dX10_power_19 rfl 2 rfl ?_
      refine T_aload_n dX10_power_20 rfl 0 rfl ?_
      refine T_get (v := .int (s4.1 60 1)) dX10_power_21 fl_X10_13 hp_60 hs_60 rfl rfl ?_
      refine T_VV (As := [.int x2, .int (s4.1 60 1)]) dX10_power_24 mv_X10_281 hp_60 hs_60 rfl (Nat.le_of_ble_eq_true rfl) (hv_ok1 rfl) rfl (h6.1 c14) (fun s7 h9 => ?_)
      refine T_aload_n dX10_power_27 rfl 0 rfl ?_
      refine T_VI (As := []) dX10_power_28 mv_X10_294 hp_60 hs_60 rfl (Nat.le_of_ble_eq_true rfl) (hv_ok1 rfl) rfl h9 (fun v11 s10 h12 => ?_)
      refine T_iconst (v := 1) dX10_power_31 (by decide) ?_
      refine T_iload_n dX10_power_32 rfl 1 rfl ?_
      refine T_ishl dX10_power_33 ?_
      refine T_iconst (v := (-1)) dX10_power_34 (by decide) ?_
      refine T_ixor dX10_power_35 ?_
      refine T_iand dX10_power_36 ?_
      refine T_istore_n dX10_power_37 rfl (by decide) rfl ?_
      refine T_iconst (v := 0) dX10_power_38 (by decide) ?_
      refine T_istore dX10_power_39 (by decide) rfl ?_
      refine T_iconst (v := 0) dX10_power_41 (by decide) ?_
      refine T_istore dX10_power_42 (by decide) rfl ?_
      exact T_sub [3, 4, 2, 1, 0] rfl h12
    · refine T_iconst (v := (-1)) dX10_power_16 (by decide) ?_
      exact T_iret dX10_power_17 rfl (h6.2 c14)

def L_X10_few_24 (l : Launch) (e : hv_Ev)  (Φ : Int32 → hv_S → Prop) (x2 : Int32) (x3 : Int32) (σ : hv_S) : Prop := hv_TW l (hv_e2 e) (hv_rm 13) 0 0 m_X10_few hv_no (hv_ZI (hv_e2 e) Φ) 24 [(0, .ref 60), (2, .int x2), (3, .int x3)] [] σ
set_option maxHeartbeats 4000000 in
set_option maxRecDepth 100000 in
theorem B_X10_few_24 {l : Launch} {e : hv_Ev}  (x2 : Int32) (x3 : Int32) {σ : hv_S} {Φ : Int32 → hv_S → Prop} (h : ((((1 : Int32) <<< ((σ.1 60 0) &&& 31)) ≤ x3 → Φ x2 σ) ∧ (¬ ((1 : Int32) <<< ((σ.1 60 0) &&& 31)) ≤ x3 → hv_CI l (hv_e2 e) 1 m_X10_decides [.ref 60, .int x3] σ (fun v9 s8 => ((v9 = 0 → L_X10_few_24 l e Φ x2 (x3 + 1) s8) ∧ (¬ v9 = 0 → ((x2 < 0 → L_X10_few_24 l e Φ x3 (x3 + 1) s8) ∧ (¬ x2 < 0 → hv_CI l (hv_e2 e) 0 m_X10_ones [.ref 60, .int x3] s8 (fun v12 s11 => hv_CI l (hv_e2 e) 0 m_X10_ones [.ref 60, .int x2] s11 (fun v15 s14 => ((v15 ≤ v12 → L_X10_few_24 l e Φ x2 (x3 + 1) s14) ∧ (¬ v15 ≤ v12 → L_X10_few_24 l e Φ x3 (x3 + 1) s14)))))))))))) : L_X10_few_24 l e Φ x2 x3 σ := by
  show hv_TW l (hv_e2 e) (hv_rm 13) 0 0 m_X10_few hv_no (hv_ZI (hv_e2 e) Φ) 24 [(0, .ref 60), (2, .int x2), (3, .int x3)] [] σ
  refine T_iload_n dX10_few_24 rfl 2 rfl ?_
  refine T_iconst (v := 1) dX10_few_25 (by decide) ?_
  refine T_aload_n dX10_few_26 rfl 0 rfl ?_
  refine T_get (v := .int (σ.1 60 0)) dX10_few_27 fl_X10_7 hp_60 hs_60 rfl rfl ?_
  refine T_ishl dX10_few_30 ?_
  refine T_icmp_ge (tgt := 67) dX10_few_31 (by decide) (fun c17 => ?_) (fun c17 => ?_)
  · refine T_iload_n dX10_few_67 rfl 1 rfl ?_
    exact T_iret dX10_few_68 rfl (h.1 c17)
  · refine T_aload_n dX10_few_34 rfl 0 rfl ?_
    refine T_iload_n dX10_few_35 rfl 2 rfl ?_
    refine T_VI (As := [.int x3]) dX10_few_36 mv_X10_291 hp_60 hs_60 rfl (Nat.le_of_ble_eq_true rfl) (hv_ok1 rfl) rfl (h.2 c17) (fun v9 s8 h10 => ?_)
    refine T_if_eq (tgt := 61) dX10_few_39 (by decide) (fun c18 => ?_) (fun c18 => ?_)
    · refine T_iinc (v := (x3 + 1)) dX10_few_61 2 rfl rfl (by decide) rfl ?_
      refine T_goto (tgt := 24) dX10_few_64 (by decide) ?_
      exact T_sub [1, 2, 0] rfl (h10.1 c18)
    · refine T_iload_n dX10_few_42 rfl 1 rfl ?_
      refine T_if_lt (tgt := 59) dX10_few_43 (by decide) (fun c19 => ?_) (fun c19 => ?_)
      · refine T_iload_n dX10_few_59 rfl 2 rfl ?_
        refine T_istore_n dX10_few_60 rfl (by decide) rfl ?_
        refine T_iinc (v := (x3 + 1)) dX10_few_61 2 rfl rfl (by decide) rfl ?_
        refine T_goto (tgt := 24) dX10_few_64 (by decide) ?_
        exact T_sub [2, 1, 0] rfl ((h10.2 c18).1 c19)
      · refine T_aload_n dX10_few_46 rfl 0 rfl ?_
        refine T_iload_n dX10_few_47 rfl 2 rfl ?_
        refine T_VI (As := [.int x3]) dX10_few_48 mv_X10_253 hp_60 hs_60 rfl (Nat.le_of_ble_eq_true rfl) (hv_ok1 rfl) rfl ((h10.2 c18).2 c19) (fun v12 s11 h13 => ?_)
        refine T_aload_n dX10_few_51 rfl 0 rfl ?_
        refine T_iload_n dX10_few_52 rfl 1 rfl ?_
        refine T_VI (As := [.int x2]) dX10_few_53 mv_X10_253 hp_60 hs_60 rfl (Nat.le_of_ble_eq_true rfl) (hv_ok1 rfl) rfl h13 (fun v15 s14 h16 => ?_)
        refine T_icmp_ge (tgt := 61) dX10_few_56 (by decide) (fun c20 => ?_) (fun c20 => ?_)
        · refine T_iinc (v := (x3 + 1)) dX10_few_61 2 rfl rfl (by decide) rfl ?_
          refine T_goto (tgt := 24) dX10_few_64 (by decide) ?_
          exact T_sub [1, 2, 0] rfl (h16.1 c20)
        · refine T_iload_n dX10_few_59 rfl 2 rfl ?_
          refine T_istore_n dX10_few_60 rfl (by decide) rfl ?_
          refine T_iinc (v := (x3 + 1)) dX10_few_61 2 rfl rfl (by decide) rfl ?_
          refine T_goto (tgt := 24) dX10_few_64 (by decide) ?_
          exact T_sub [2, 1, 0] rfl (h16.2 c20)
set_option maxHeartbeats 4000000 in
set_option maxRecDepth 100000 in
theorem B_X10_few {l : Launch} {e : hv_Ev}  (x1 : Int32) {σ : hv_S} {Φ : Int32 → hv_S → Prop} (h : hv_CI l (hv_e2 e) 1 m_X10_isMatter [.ref 60, .int x1] σ (fun v2 s1 => ((v2 ≠ 0 → hv_CV l (hv_e2 e) 12 m_X10_findVoices [.ref 60, .int x1, .int (s1.1 60 1)] s1 (fun s4 => L_X10_few_24 l e Φ (-5) 0 s4)) ∧ (v2 = 0 → Φ (-1) s1)))) : hv_CI l (hv_e2 e) 13 m_X10_few [.ref 60, .int x1] σ Φ := by
  refine hv_entI (by decide) (Nat.le_of_ble_eq_true rfl) ?_
  show hv_TW l (hv_e2 e) (hv_rm 13) 0 0 m_X10_few hv_no (hv_ZI (hv_e2 e) Φ) 0 [(0, .ref 60), (1, .int x1)] [] σ
  refine T_aload_n dX10_few_0 rfl 0 rfl ?_
  refine T_iload_n dX10_few_1 rfl 1 rfl ?_
  refine T_VI (As := [.int x1]) dX10_few_2 mv_X10_183 hp_60 hs_60 rfl (Nat.le_of_ble_eq_true rfl) (hv_ok1 rfl) rfl h (fun v2 s1 h3 => ?_)
  refine T_if_ne (tgt := 10) dX10_few_5 (by decide) (fun c7 => ?_) (fun c7 => ?_)
  · refine T_aload_n dX10_few_10 rfl 0 rfl ?_
    refine T_iload_n dX10_few_11 rfl 1 rfl ?_
    refine T_aload_n dX10_few_12 rfl 0 rfl ?_
    refine T_get (v := .int (s1.1 60 1)) dX10_few_13 fl_X10_13 hp_60 hs_60 rfl rfl ?_
    refine T_VV (As := [.int x1, .int (s1.1 60 1)]) dX10_few_16 mv_X10_281 hp_60 hs_60 rfl (Nat.le_of_ble_eq_true rfl) (hv_ok1 rfl) rfl (h3.1 c7) (fun s4 h6 => ?_)
    refine T_bipush (v := (-5)) dX10_few_19 (by decide) ?_
    refine T_istore_n dX10_few_21 rfl (by decide) rfl ?_
    refine T_iconst (v := 0) dX10_few_22 (by decide) ?_
    refine T_istore_n dX10_few_23 rfl (by decide) rfl ?_
    exact T_sub [2, 1, 0] rfl h6
  · refine T_iconst (v := (-1)) dX10_few_8 (by decide) ?_
    exact T_iret dX10_few_9 rfl (h3.2 c7)

set_option maxHeartbeats 4000000 in
set_option maxRecDepth 100000 in
theorem B_X10_right {l : Launch} {e : hv_Ev}  (x1 : Int32) (x2 : Int32) (x3 : Int32) {σ : hv_S} {Φ : Int64 → hv_S → Prop} (h : hv_CI l (hv_e2 e) 1 m_X10_isMatter [.ref 60, .int x1] σ (fun v2 s1 => ((v2 = 0 → Φ (-9223372036854775808) s1) ∧ (¬ v2 = 0 → hv_CI l (hv_e2 e) 0 m_X10_in [.ref 60, .int x2, .int 0, .int 1] s1 (fun v5 s4 => ((v5 = 0 → Φ (-9223372036854775808) s4) ∧ (¬ v5 = 0 → hv_CI l (hv_e2 e) 0 m_X10_in [.ref 60, .int x3, .int 0, .int 1] s4 (fun v8 s7 => ((v8 ≠ 0 → ((x2 ≠ 0 → hv_CV l (hv_e2 e) 0 m_X10_findAlone [.ref 60] s7 (fun s10 => hv_CV l (hv_e2 e) 2 m_X10_findRight [.ref 60, .int x1] s10 (fun s13 => hv_CL l (hv_e2 e) 1 m_X10_part [.ref 60, .long (s13.2.1 60 42), .long (s13.2.1 60 43), .int x3] s13 (fun v17 s16 => Φ v17 s16)))) ∧ (x2 = 0 → hv_CV l (hv_e2 e) 12 m_X10_findVoices [.ref 60, .int x1, .int (s7.1 60 1)] s7 (fun s19 => hv_CV l (hv_e2 e) 2 m_X10_findRight [.ref 60, .int x1] s19 (fun s22 => hv_CL l (hv_e2 e) 1 m_X10_part [.ref 60, .long (s22.2.1 60 42), .long (s22.2.1 60 43), .int x3] s22 (fun v26 s25 => Φ v26 s25)))))) ∧ (v8 = 0 → Φ (-9223372036854775808) s7)))))))))) : hv_CL l (hv_e2 e) 13 m_X10_right [.ref 60, .int x1, .int x2, .int x3] σ Φ := by
  refine hv_entL (by decide) (Nat.le_of_ble_eq_true rfl) ?_
  show hv_TW l (hv_e2 e) (hv_rm 13) 0 0 m_X10_right hv_no (hv_ZL (hv_e2 e) Φ) 0 [(0, .ref 60), (1, .int x1), (2, .int x2), (3, .int x3)] [] σ
  refine T_aload_n dX10_right_0 rfl 0 rfl ?_
  refine T_iload_n dX10_right_1 rfl 1 rfl ?_
  refine T_VI (As := [.int x1]) dX10_right_2 mv_X10_183 hp_60 hs_60 rfl (Nat.le_of_ble_eq_true rfl) (hv_ok1 rfl) rfl h (fun v2 s1 h3 => ?_)
  refine T_if_eq (tgt := 28) dX10_right_5 (by decide) (fun c28 => ?_) (fun c28 => ?_)
  · refine T_ldc2 dX10_right_28 kl_X10_279 ?_
    exact T_lret dX10_right_31 rfl (h3.1 c28)
  · refine T_aload_n dX10_right_8 rfl 0 rfl ?_
    refine T_iload_n dX10_right_9 rfl 2 rfl ?_
    refine T_iconst (v := 0) dX10_right_10 (by decide) ?_
    refine T_iconst (v := 1) dX10_right_11 (by decide) ?_
    refine T_VI (As := [.int x2, .int 0, .int 1]) dX10_right_12 mv_X10_171 hp_60 hs_60 rfl (Nat.le_of_ble_eq_true rfl) (hv_ok1 rfl) rfl (h3.2 c28) (fun v5 s4 h6 => ?_)
    refine T_if_eq (tgt := 28) dX10_right_15 (by decide) (fun c29 => ?_) (fun c29 => ?_)
    · refine T_ldc2 dX10_right_28 kl_X10_279 ?_
      exact T_lret dX10_right_31 rfl (h6.1 c29)
    · refine T_aload_n dX10_right_18 rfl 0 rfl ?_
      refine T_iload_n dX10_right_19 rfl 3 rfl ?_
      refine T_iconst (v := 0) dX10_right_20 (by decide) ?_
      refine T_iconst (v := 1) dX10_right_21 (by decide) ?_
      refine T_VI (As := [.int x3, .int 0, .int 1]) dX10_right_22 mv_X10_171 hp_60 hs_60 rfl (Nat.le_of_ble_eq_true rfl) (hv_ok1 rfl) rfl (h6.2 c29) (fun v8 s7 h9 => ?_)
      refine T_if_ne (tgt := 32) dX10_right_25 (by decide) (fun c30 => ?_) (fun c30 => ?_)
      · refine T_iload_n dX10_right_32 rfl 2 rfl ?_
        refine T_if_ne (tgt := 48) dX10_right_33 (by decide) (fun c31 => ?_) (fun c31 => ?_)
        · refine T_aload_n dX10_right_48 rfl 0 rfl ?_
          refine T_VV (As := []) dX10_right_49 mv_X10_297 hp_60 hs_60 rfl (Nat.le_of_ble_eq_true rfl) (hv_ok1 rfl) rfl ((h9.1 c30).1 c31) (fun s10 h12 => ?_)
          refine T_aload_n dX10_right_52 rfl 0 rfl ?_
          refine T_iload_n dX10_right_53 rfl 1 rfl ?_
          refine T_VV (As := [.int x1]) dX10_right_54 mv_X10_300 hp_60 hs_60 rfl (Nat.le_of_ble_eq_true rfl) (hv_ok1 rfl) rfl h12 (fun s13 h15 => ?_)
          refine T_aload_n dX10_right_57 rfl 0 rfl ?_
          refine T_aload_n dX10_right_58 rfl 0 rfl ?_
          refine T_get (v := .long (s13.2.1 60 42)) dX10_right_59 fl_X10_141 hp_60 hs_60 rfl rfl ?_
          refine T_aload_n dX10_right_62 rfl 0 rfl ?_
          refine T_get (v := .long (s13.2.1 60 43)) dX10_right_63 fl_X10_144 hp_60 hs_60 rfl rfl ?_
          refine T_iload_n dX10_right_66 rfl 3 rfl ?_
          refine T_VL (As := [.long (s13.2.1 60 42), .long (s13.2.1 60 43), .int x3]) dX10_right_67 mv_X10_284 hp_60 hs_60 rfl (Nat.le_of_ble_eq_true rfl) (hv_ok1 rfl) rfl h15 (fun v17 s16 h18 => ?_)
          exact T_lret dX10_right_70 rfl h18
        · refine T_aload_n dX10_right_36 rfl 0 rfl ?_
          refine T_iload_n dX10_right_37 rfl 1 rfl ?_
          refine T_aload_n dX10_right_38 rfl 0 rfl ?_
          refine T_get (v := .int (s7.1 60 1)) dX10_right_39 fl_X10_13 hp_60 hs_60 rfl rfl ?_
          refine T_VV (As := [.int x1, .int (s7.1 60 1)]) dX10_right_42 mv_X10_281 hp_60 hs_60 rfl (Nat.le_of_ble_eq_true rfl) (hv_ok1 rfl) rfl ((h9.1 c30).2 c31) (fun s19 h21 => ?_)
          refine T_goto (tgt := 52) dX10_right_45 (by decide) ?_
          refine T_aload_n dX10_right_52 rfl 0 rfl ?_
          refine T_iload_n dX10_right_53 rfl 1 rfl ?_
          refine T_VV (As := [.int x1]) dX10_right_54 mv_X10_300 hp_60 hs_60 rfl (Nat.le_of_ble_eq_true rfl) (hv_ok1 rfl) rfl h21 (fun s22 h24 => ?_)
          refine T_aload_n dX10_right_57 rfl 0 rfl ?_
          refine T_aload_n dX10_right_58 rfl 0 rfl ?_
          refine T_get (v := .long (s22.2.1 60 42)) dX10_right_59 fl_X10_141 hp_60 hs_60 rfl rfl ?_
          refine T_aload_n dX10_right_62 rfl 0 rfl ?_
          refine T_get (v := .long (s22.2.1 60 43)) dX10_right_63 fl_X10_144 hp_60 hs_60 rfl rfl ?_
          refine T_iload_n dX10_right_66 rfl 3 rfl ?_
          refine T_VL (As := [.long (s22.2.1 60 42), .long (s22.2.1 60 43), .int x3]) dX10_right_67 mv_X10_284 hp_60 hs_60 rfl (Nat.le_of_ble_eq_true rfl) (hv_ok1 rfl) rfl h24 (fun v26 s25 h27 => ?_)
          exact T_lret dX10_right_70 rfl h27
      · refine T_ldc2 dX10_right_28 kl_X10_279 ?_
        exact T_lret dX10_right_31 rfl (h9.2 c30)

def L_X10_breach_23 (l : Launch) (e : hv_Ev)  (Φ : Int32 → hv_S → Prop) (x1 : Int32) (x2 : Int32) (x3 : Int32) (σ : hv_S) : Prop := hv_TW l (hv_e2 e) (hv_rm 13) 0 0 m_X10_breach hv_no (hv_ZI (hv_e2 e) Φ) 23 [(0, .ref 60), (1, .int x1), (2, .int x2), (3, .int x3)] [] σ
def L_X10_breach_65 (l : Launch) (e : hv_Ev)  (Φ : Int32 → hv_S → Prop) (x1 : Int32) (x2 : Int32) (x3 : Int32) (σ : hv_S) : Prop := hv_TW l (hv_e2 e) (hv_rm 13) 0 0 m_X10_breach hv_no (hv_ZI (hv_e2 e) Φ) 65 [(0, .ref 60), (1, .int x1), (2, .int x2), (3, .int x3)] [] σ
def L_X10_breach_76 (l : Launch) (e : hv_Ev)  (Φ : Int32 → hv_S → Prop) (x1 : Int32) (x2 : Int32) (x3 : Int32) (x4 : Int32) (σ : hv_S) : Prop := hv_TW l (hv_e2 e) (hv_rm 13) 0 0 m_X10_breach hv_no (hv_ZI (hv_e2 e) Φ) 76 [(0, .ref 60), (1, .int x1), (2, .int x2), (3, .int x3), (4, .int x4)] [] σ
set_option maxHeartbeats 4000000 in
set_option maxRecDepth 100000 in
theorem B_X10_breach_76 {l : Launch} {e : hv_Ev}  (x1 : Int32) (x2 : Int32) (x3 : Int32) (x4 : Int32) {σ : hv_S} {Φ : Int32 → hv_S → Prop} (h : (((σ.1 60 0) ≤ x4 → L_X10_breach_65 l e Φ x1 x2 (x3 + 1) σ) ∧ (¬ (σ.1 60 0) ≤ x4 → ((x3 = x4 → L_X10_breach_76 l e Φ x1 x2 x3 (x4 + 1) σ) ∧ (¬ x3 = x4 → hv_CI l (hv_e2 e) 0 m_X10_has [.ref 60, .int x2, .int x3] σ (fun v12 s11 => ((v12 = 0 → L_X10_breach_76 l e Φ x1 x2 x3 (x4 + 1) s11) ∧ (¬ v12 = 0 → hv_CI l (hv_e2 e) 0 m_X10_has [.ref 60, .int x2, .int x4] s11 (fun v15 s14 => ((v15 = 0 → L_X10_breach_76 l e Φ x1 x2 x3 (x4 + 1) s14) ∧ (¬ v15 = 0 → hv_CI l (hv_e2 e) 7 m_X10_isBar [.ref 60, .int x3, .int x4, .int x1] s14 (fun v18 s17 => ((v18 = 0 → hv_CV l (hv_e2 e) 12 m_X10_findVoices [.ref 60, .int x1, .int (s17.1 60 1)] s17 (fun s20 => (vp_in x4 8 ∧ hv_CV l (hv_e2 e) 0 m_X10_keep [.ref 60, .int x3, .int x1] s20 (fun s23 => hv_CV l (hv_e2 e) 0 m_X10_put [.ref 60, .int ((8 * x1) + x3), .int 2, .int x4, .int (-1), .int 10] s23 (fun s26 => hv_CV l (hv_e2 e) 12 m_X10_findVoices [.ref 60, .int x1, .int (s26.1 60 1)] s26 (fun s29 => hv_CV l (hv_e2 e) 1 m_X10_putBack [.ref 60, .int x3, .int x1] s29 (fun s32 => (vp_in x4 8 ∧ hv_CI l (hv_e2 e) 1 m_X10_isLess [.ref 60, .long (s32.2.1 75 x4.toNatClampNeg), .long (s32.2.1 60 40), .long (s20.2.1 75 x4.toNatClampNeg), .long (s20.2.1 60 40)] s32 (fun v36 s35 => ((v36 = 0 → L_X10_breach_76 l e Φ x1 x2 x3 (x4 + 1) s35) ∧ (¬ v36 = 0 → Φ ((10 * x3) + x4) s35))))))))))) ∧ (¬ v18 = 0 → L_X10_breach_76 l e Φ x1 x2 x3 (x4 + 1) s17)))))))))))))) : L_X10_breach_76 l e Φ x1 x2 x3 x4 σ := by
  show hv_TW l (hv_e2 e) (hv_rm 13) 0 0 m_X10_breach hv_no (hv_ZI (hv_e2 e) Φ) 76 [(0, .ref 60), (1, .int x1), (2, .int x2), (3, .int x3), (4, .int x4)] [] σ
  refine T_iload dX10_breach_76 4 rfl ?_
  refine T_aload_n dX10_breach_78 rfl 0 rfl ?_
  refine T_get (v := .int (σ.1 60 0)) dX10_breach_79 fl_X10_7 hp_60 hs_60 rfl rfl ?_
  refine T_icmp_ge (tgt := 221) dX10_breach_82 (by decide) (fun c38 => ?_) (fun c38 => ?_)
  · refine T_iinc (v := (x3 + 1)) dX10_breach_221 3 rfl rfl (by decide) rfl ?_
    refine T_goto (tgt := 65) dX10_breach_224 (by decide) ?_
    exact T_sub [1, 2, 3, 0] rfl (h.1 c38)
  · refine T_iload_n dX10_breach_85 rfl 3 rfl ?_
    refine T_iload dX10_breach_86 4 rfl ?_
    refine T_icmp_eq (tgt := 215) dX10_breach_88 (by decide) (fun c39 => ?_) (fun c39 => ?_)
    · refine T_iinc (v := (x4 + 1)) dX10_breach_215 4 rfl rfl (by decide) rfl ?_
      refine T_goto (tgt := 76) dX10_breach_218 (by decide) ?_
      exact T_sub [1, 2, 3, 4, 0] rfl ((h.2 c38).1 c39)
    · refine T_aload_n dX10_breach_91 rfl 0 rfl ?_
      refine T_iload_n dX10_breach_92 rfl 2 rfl ?_
      refine T_iload_n dX10_breach_93 rfl 3 rfl ?_
      refine T_VI (As := [.int x2, .int x3]) dX10_breach_94 mv_X10_241 hp_60 hs_60 rfl (Nat.le_of_ble_eq_true rfl) (hv_ok1 rfl) rfl ((h.2 c38).2 c39) (fun v12 s11 h13 => ?_)
      refine T_if_eq (tgt := 215) dX10_breach_97 (by decide) (fun c40 => ?_) (fun c40 => ?_)
      · refine T_iinc (v := (x4 + 1)) dX10_breach_215 4 rfl rfl (by decide) rfl ?_
        refine T_goto (tgt := 76) dX10_breach_218 (by decide) ?_
        exact T_sub [1, 2, 3, 4, 0] rfl (h13.1 c40)
      · refine T_aload_n dX10_breach_100 rfl 0 rfl ?_
        refine T_iload_n dX10_breach_101 rfl 2 rfl ?_
        refine T_iload dX10_breach_102 4 rfl ?_
        refine T_VI (As := [.int x2, .int x4]) dX10_breach_104 mv_X10_241 hp_60 hs_60 rfl (Nat.le_of_ble_eq_true rfl) (hv_ok1 rfl) rfl (h13.2 c40) (fun v15 s14 h16 => ?_)
        refine T_if_eq (tgt := 215) dX10_breach_107 (by decide) (fun c41 => ?_) (fun c41 => ?_)
        · refine T_iinc (v := (x4 + 1)) dX10_breach_215 4 rfl rfl (by decide) rfl ?_
          refine T_goto (tgt := 76) dX10_breach_218 (by decide) ?_
          exact T_sub [1, 2, 3, 4, 0] rfl (h16.1 c41)
        · refine T_aload_n dX10_breach_110 rfl 0 rfl ?_
          refine T_iload_n dX10_breach_111 rfl 3 rfl ?_
          refine T_iload dX10_breach_112 4 rfl ?_
          refine T_iload_n dX10_breach_114 rfl 1 rfl ?_
          refine T_VI (As := [.int x3, .int x4, .int x1]) dX10_breach_115 mv_X10_230 hp_60 hs_60 rfl (Nat.le_of_ble_eq_true rfl) (hv_ok1 rfl) rfl (h16.2 c41) (fun v18 s17 h19 => ?_)
          refine T_if_eq (tgt := 124) dX10_breach_118 (by decide) (fun c42 => ?_) (fun c42 => ?_)
          · refine T_aload_n dX10_breach_124 rfl 0 rfl ?_
            refine T_iload_n dX10_breach_125 rfl 1 rfl ?_
            refine T_aload_n dX10_breach_126 rfl 0 rfl ?_
            refine T_get (v := .int (s17.1 60 1)) dX10_breach_127 fl_X10_13 hp_60 hs_60 rfl rfl ?_
            refine T_VV (As := [.int x1, .int (s17.1 60 1)]) dX10_breach_130 mv_X10_281 hp_60 hs_60 rfl (Nat.le_of_ble_eq_true rfl) (hv_ok1 rfl) rfl (h19.1 c42) (fun s20 h22 => ?_)
            refine T_aload_n dX10_breach_133 rfl 0 rfl ?_
            refine T_get (v := .ref 75) dX10_breach_134 fl_X10_127 hp_60 hs_60 rfl rfl ?_
            refine T_iload dX10_breach_137 4 rfl ?_
            refine T_lald dX10_breach_139 hp_75 hs_75 h22.1 ?_
            refine T_lstore dX10_breach_140 (by decide) rfl ?_
            refine T_aload_n dX10_breach_142 rfl 1 rfl ?_
            refine T_get (v := .long (s20.2.1 60 40)) dX10_breach_143 fl_X10_134 hp_60 hs_60 rfl rfl ?_
            refine T_lstore dX10_breach_146 (by decide) rfl ?_
            refine T_aload_n dX10_breach_148 rfl 2 rfl ?_
            refine T_iload_n dX10_breach_149 rfl 5 rfl ?_
            refine T_iload_n dX10_breach_150 rfl 3 rfl ?_
            refine T_VV (As := [.int x3, .int x1]) dX10_breach_151 mv_X10_303 hp_60 hs_60 rfl (Nat.le_of_ble_eq_true rfl) (hv_ok1 rfl) rfl h22.2 (fun s23 h25 => ?_)
            refine T_aload_n dX10_breach_154 rfl 2 rfl ?_
            refine T_bipush (v := 8) dX10_breach_155 (by decide) ?_
            refine T_iload_n dX10_breach_157 rfl 3 rfl ?_
            refine T_imul dX10_breach_158 ?_
            refine T_iload_n dX10_breach_159 rfl 5 rfl ?_
            refine T_iadd dX10_breach_160 ?_
            refine T_iconst (v := 2) dX10_breach_161 (by decide) ?_
            refine T_iload dX10_breach_162 6 rfl ?_
            refine T_iconst (v := (-1)) dX10_breach_164 (by decide) ?_
            refine T_bipush (v := 10) dX10_breach_165 (by decide) ?_
            refine T_VV (As := [.int ((8 * x1) + x3), .int 2, .int x4, .int (-1), .int 10]) dX10_breach_167 mv_X10_175 hp_60 hs_60 rfl (Nat.le_of_ble_eq_true rfl) (hv_ok1 rfl) rfl h25 (fun s26 h28 => ?_)
            refine T_aload_n dX10_breach_170 rfl 2 rfl ?_
            refine T_iload_n dX10_breach_171 rfl 3 rfl ?_
            refine T_aload_n dX10_breach_172 rfl 2 rfl ?_
            refine T_get (v := .int (s26.1 60 1)) dX10_breach_173 fl_X10_13 hp_60 hs_60 rfl rfl ?_
            refine T_VV (As := [.int x1, .int (s26.1 60 1)]) dX10_breach_176 mv_X10_281 hp_60 hs_60 rfl (Nat.le_of_ble_eq_true rfl) (hv_ok1 rfl) rfl h28 (fun s29 h31 => ?_)
            refine T_aload_n dX10_breach_179 rfl 2 rfl ?_
            refine T_iload_n dX10_breach_180 rfl 5 rfl ?_
            refine T_iload_n dX10_breach_181 rfl 3 rfl ?_
            refine T_VV (As := [.int x3, .int x1]) dX10_breach_182 mv_X10_306 hp_60 hs_60 rfl (Nat.le_of_ble_eq_true rfl) (hv_ok1 rfl) rfl h31 (fun s32 h34 => ?_)
            refine T_aload_n dX10_breach_185 rfl 2 rfl ?_
            refine T_aload_n dX10_breach_186 rfl 2 rfl ?_
            refine T_get (v := .ref 75) dX10_breach_187 fl_X10_127 hp_60 hs_60 rfl rfl ?_
            refine T_iload dX10_breach_190 6 rfl ?_
            refine T_lald dX10_breach_192 hp_75 hs_75 h34.1 ?_
            refine T_aload_n dX10_breach_193 rfl 2 rfl ?_
            refine T_get (v := .long (s32.2.1 60 40)) dX10_breach_194 fl_X10_134 hp_60 hs_60 rfl rfl ?_
            refine T_lload dX10_breach_197 1 rfl ?_
            refine T_lload dX10_breach_199 0 rfl ?_
            refine T_VI (As := [.long (s32.2.1 75 x4.toNatClampNeg), .long (s32.2.1 60 40), .long (s20.2.1 75 x4.toNatClampNeg), .long (s20.2.1 60 40)]) dX10_breach_201 mv_X10_309 hp_60 hs_60 rfl (Nat.le_of_ble_eq_true rfl) (hv_ok1 rfl) rfl h34.2 (fun v36 s35 h37 => ?_)
            refine T_if_eq (tgt := 215) dX10_breach_204 (by decide) (fun c43 => ?_) (fun c43 => ?_)
            · refine T_iinc (v := (x4 + 1)) dX10_breach_215 6 rfl rfl (by decide) rfl ?_
              refine T_goto (tgt := 76) dX10_breach_218 (by decide) ?_
              exact T_sub [3, 4, 5, 6, 0] rfl (h37.1 c43)
            · refine T_bipush (v := 10) dX10_breach_207 (by decide) ?_
              refine T_iload_n dX10_breach_209 rfl 5 rfl ?_
              refine T_imul dX10_breach_210 ?_
              refine T_iload dX10_breach_211 6 rfl ?_
              refine T_iadd dX10_breach_213 ?_
              exact T_iret dX10_breach_214 rfl (h37.2 c43)
          · refine T_goto (tgt := 215) dX10_breach_121 (by decide) ?_
            refine T_iinc (v := (x4 + 1)) dX10_breach_215 4 rfl rfl (by decide) rfl ?_
            refine T_goto (tgt := 76) dX10_breach_218 (by decide) ?_
            exact T_sub [1, 2, 3, 4, 0] rfl (h19.2 c42)
set_option maxHeartbeats 4000000 in
set_option maxRecDepth 100000 in
theorem B_X10_breach_65 {l : Launch} {e : hv_Ev}  (x1 : Int32) (x2 : Int32) (x3 : Int32) {σ : hv_S} {Φ : Int32 → hv_S → Prop} (h : (((σ.1 60 0) ≤ x3 → Φ (-5) σ) ∧ (¬ (σ.1 60 0) ≤ x3 → L_X10_breach_76 l e Φ x1 x2 x3 0 σ))) : L_X10_breach_65 l e Φ x1 x2 x3 σ := by
  show hv_TW l (hv_e2 e) (hv_rm 13) 0 0 m_X10_breach hv_no (hv_ZI (hv_e2 e) Φ) 65 [(0, .ref 60), (1, .int x1), (2, .int x2), (3, .int x3)] [] σ
  refine T_iload_n dX10_breach_65 rfl 3 rfl ?_
  refine T_aload_n dX10_breach_66 rfl 0 rfl ?_
  refine T_get (v := .int (σ.1 60 0)) dX10_breach_67 fl_X10_7 hp_60 hs_60 rfl rfl ?_
  refine T_icmp_ge (tgt := 227) dX10_breach_70 (by decide) (fun c10 => ?_) (fun c10 => ?_)
  · refine T_bipush (v := (-5)) dX10_breach_227 (by decide) ?_
    exact T_iret dX10_breach_229 rfl (h.1 c10)
  · refine T_iconst (v := 0) dX10_breach_73 (by decide) ?_
    refine T_istore dX10_breach_74 (by decide) rfl ?_
    exact T_sub [1, 2, 3, 4, 0] rfl (h.2 c10)
set_option maxHeartbeats 4000000 in
set_option maxRecDepth 100000 in
theorem B_X10_breach_23 {l : Launch} {e : hv_Ev}  (x1 : Int32) (x2 : Int32) (x3 : Int32) {σ : hv_S} {Φ : Int32 → hv_S → Prop} (h : (((σ.1 60 0) ≤ x3 → L_X10_breach_65 l e Φ x1 x2 0 σ) ∧ (¬ (σ.1 60 0) ≤ x3 → (vp_in ((8 * x3) + x3) 64 ∧ (((σ.1 74 (((8 * x3) + x3).toNatClampNeg)) ≠ 10 → L_X10_breach_23 l e Φ x1 (x2 ||| 0) (x3 + 1) σ) ∧ ((σ.1 74 (((8 * x3) + x3).toNatClampNeg)) = 10 → L_X10_breach_23 l e Φ x1 (x2 ||| ((1 : Int32) <<< (x3 &&& 31))) (x3 + 1) σ)))))) : L_X10_breach_23 l e Φ x1 x2 x3 σ := by
  show hv_TW l (hv_e2 e) (hv_rm 13) 0 0 m_X10_breach hv_no (hv_ZI (hv_e2 e) Φ) 23 [(0, .ref 60), (1, .int x1), (2, .int x2), (3, .int x3)] [] σ
  refine T_iload_n dX10_breach_23 rfl 3 rfl ?_
  refine T_aload_n dX10_breach_24 rfl 0 rfl ?_
  refine T_get (v := .int (σ.1 60 0)) dX10_breach_25 fl_X10_7 hp_60 hs_60 rfl rfl ?_
  refine T_icmp_ge (tgt := 63) dX10_breach_28 (by decide) (fun c8 => ?_) (fun c8 => ?_)
  · refine T_iconst (v := 0) dX10_breach_63 (by decide) ?_
    refine T_istore_n dX10_breach_64 rfl (by decide) rfl ?_
    exact T_sub [1, 2, 3, 0] rfl (h.1 c8)
  · refine T_iload_n dX10_breach_31 rfl 2 rfl ?_
    refine T_aload_n dX10_breach_32 rfl 0 rfl ?_
    refine T_get (v := .ref 74) dX10_breach_33 fl_X10_115 hp_60 hs_60 rfl rfl ?_
    refine T_bipush (v := 8) dX10_breach_36 (by decide) ?_
    refine T_iload_n dX10_breach_38 rfl 3 rfl ?_
    refine T_imul dX10_breach_39 ?_
    refine T_iload_n dX10_breach_40 rfl 3 rfl ?_
    refine T_iadd dX10_breach_41 ?_
    refine T_iald dX10_breach_42 hp_74 hs_74 (h.2 c8).1 ?_
    refine T_bipush (v := 10) dX10_breach_43 (by decide) ?_
    refine T_icmp_ne (tgt := 54) dX10_breach_45 (by decide) (fun c9 => ?_) (fun c9 => ?_)
    · refine T_iconst (v := 0) dX10_breach_54 (by decide) ?_
      refine T_ior dX10_breach_55 ?_
      refine T_istore_n dX10_breach_56 rfl (by decide) rfl ?_
      refine T_iinc (v := (x3 + 1)) dX10_breach_57 3 rfl rfl (by decide) rfl ?_
      refine T_goto (tgt := 23) dX10_breach_60 (by decide) ?_
      exact T_sub [2, 3, 1, 0] rfl ((h.2 c8).2.1 c9)
    · refine T_iconst (v := 1) dX10_breach_48 (by decide) ?_
      refine T_iload_n dX10_breach_49 rfl 3 rfl ?_
      refine T_ishl dX10_breach_50 ?_
      refine T_goto (tgt := 55) dX10_breach_51 (by decide) ?_
      refine T_ior dX10_breach_55 ?_
      refine T_istore_n dX10_breach_56 rfl (by decide) rfl ?_
      refine T_iinc (v := (x3 + 1)) dX10_breach_57 3 rfl rfl (by decide) rfl ?_
      refine T_goto (tgt := 23) dX10_breach_60 (by decide) ?_
      exact T_sub [2, 3, 1, 0] rfl ((h.2 c8).2.2 c9)
set_option maxHeartbeats 4000000 in
set_option maxRecDepth 100000 in
theorem B_X10_breach {l : Launch} {e : hv_Ev}  (x1 : Int32) {σ : hv_S} {Φ : Int32 → hv_S → Prop} (h : hv_CI l (hv_e2 e) 1 m_X10_isMatter [.ref 60, .int x1] σ (fun v2 s1 => ((v2 ≠ 0 → hv_CV l (hv_e2 e) 12 m_X10_findVoices [.ref 60, .int x1, .int (s1.1 60 1)] s1 (fun s4 => L_X10_breach_23 l e Φ x1 0 0 s4)) ∧ (v2 = 0 → Φ (-1) s1)))) : hv_CI l (hv_e2 e) 13 m_X10_breach [.ref 60, .int x1] σ Φ := by
  refine hv_entI (by decide) (Nat.le_of_ble_eq_true rfl) ?_
  show hv_TW l (hv_e2 e) (hv_rm 13) 0 0 m_X10_breach hv_no (hv_ZI (hv_e2 e) Φ) 0 [(0, .ref 60), (1, .int x1)] [] σ
  refine T_aload_n dX10_breach_0 rfl 0 rfl ?_
  refine T_iload_n dX10_breach_1 rfl 1 rfl ?_
  refine T_VI (As := [.int x1]) dX10_breach_2 mv_X10_183 hp_60 hs_60 rfl (Nat.le_of_ble_eq_true rfl) (hv_ok1 rfl) rfl h (fun v2 s1 h3 => ?_)
  refine T_if_ne (tgt := 10) dX10_breach_5 (by decide) (fun c7 => ?_) (fun c7 => ?_)
  · refine T_aload_n dX10_breach_10 rfl 0 rfl ?_
    refine T_iload_n dX10_breach_11 rfl 1 rfl ?_
    refine T_aload_n dX10_breach_12 rfl 0 rfl ?_
    refine T_get (v := .int (s1.1 60 1)) dX10_breach_13 fl_X10_13 hp_60 hs_60 rfl rfl ?_
    refine T_VV (As := [.int x1, .int (s1.1 60 1)]) dX10_breach_16 mv_X10_281 hp_60 hs_60 rfl (Nat.le_of_ble_eq_true rfl) (hv_ok1 rfl) rfl (h3.1 c7) (fun s4 h6 => ?_)
    refine T_iconst (v := 0) dX10_breach_19 (by decide) ?_
    refine T_istore_n dX10_breach_20 rfl (by decide) rfl ?_
    refine T_iconst (v := 0) dX10_breach_21 (by decide) ?_
    refine T_istore_n dX10_breach_22 rfl (by decide) rfl ?_
    exact T_sub [2, 3, 1, 0] rfl h6
  · refine T_iconst (v := (-1)) dX10_breach_8 (by decide) ?_
    exact T_iret dX10_breach_9 rfl (h3.2 c7)
