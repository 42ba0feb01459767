-- printed by wip/gen/p10d.py: the reference, 1
theorem dX10_in_0 : decode cX10_in 0 = .ok (.iload_n 1, 1) := by decide +kernel
theorem dX10_in_1 : decode cX10_in 1 = .ok (.iload_n 2, 1) := by decide +kernel
theorem dX10_in_2 : decode cX10_in 2 = .ok (.if_icmp .lt 12, 3) := by decide +kernel
theorem dX10_in_5 : decode cX10_in 5 = .ok (.iload_n 1, 1) := by decide +kernel
theorem dX10_in_6 : decode cX10_in 6 = .ok (.iload_n 3, 1) := by decide +kernel
theorem dX10_in_7 : decode cX10_in 7 = .ok (.if_icmp .gt 7, 3) := by decide +kernel
theorem dX10_in_10 : decode cX10_in 10 = .ok (.iconst 1, 1) := by decide +kernel
theorem dX10_in_11 : decode cX10_in 11 = .ok (.goto 4, 3) := by decide +kernel
theorem dX10_in_14 : decode cX10_in 14 = .ok (.iconst 0, 1) := by decide +kernel
theorem dX10_in_15 : decode cX10_in 15 = .ok (.ireturn, 1) := by decide +kernel
theorem dX10_ones_0 : decode cX10_ones 0 = .ok (.iconst 0, 1) := by decide +kernel
theorem dX10_ones_1 : decode cX10_ones 1 = .ok (.istore_n 2, 1) := by decide +kernel
theorem dX10_ones_2 : decode cX10_ones 2 = .ok (.iload_n 1, 1) := by decide +kernel
theorem dX10_ones_3 : decode cX10_ones 3 = .ok (.istore_n 3, 1) := by decide +kernel
theorem dX10_ones_4 : decode cX10_ones 4 = .ok (.iload_n 3, 1) := by decide +kernel
theorem dX10_ones_5 : decode cX10_ones 5 = .ok (.ifCond .eq 15, 3) := by decide +kernel
theorem dX10_ones_8 : decode cX10_ones 8 = .ok (.iinc 2 1, 3) := by decide +kernel
theorem dX10_ones_11 : decode cX10_ones 11 = .ok (.iload_n 3, 1) := by decide +kernel
theorem dX10_ones_12 : decode cX10_ones 12 = .ok (.iload_n 3, 1) := by decide +kernel
theorem dX10_ones_13 : decode cX10_ones 13 = .ok (.iconst 1, 1) := by decide +kernel
theorem dX10_ones_14 : decode cX10_ones 14 = .ok (.isub, 1) := by decide +kernel
theorem dX10_ones_15 : decode cX10_ones 15 = .ok (.iand, 1) := by decide +kernel
theorem dX10_ones_16 : decode cX10_ones 16 = .ok (.istore_n 3, 1) := by decide +kernel
theorem dX10_ones_17 : decode cX10_ones 17 = .ok (.goto (-13), 3) := by decide +kernel
theorem dX10_ones_20 : decode cX10_ones 20 = .ok (.iload_n 2, 1) := by decide +kernel
theorem dX10_ones_21 : decode cX10_ones 21 = .ok (.ireturn, 1) := by decide +kernel
theorem dX10_has_0 : decode cX10_has 0 = .ok (.iload_n 1, 1) := by decide +kernel
theorem dX10_has_1 : decode cX10_has 1 = .ok (.iload_n 2, 1) := by decide +kernel
theorem dX10_has_2 : decode cX10_has 2 = .ok (.ishr, 1) := by decide +kernel
theorem dX10_has_3 : decode cX10_has 3 = .ok (.iconst 1, 1) := by decide +kernel
theorem dX10_has_4 : decode cX10_has 4 = .ok (.iand, 1) := by decide +kernel
theorem dX10_has_5 : decode cX10_has 5 = .ok (.iconst 1, 1) := by decide +kernel
theorem dX10_has_6 : decode cX10_has 6 = .ok (.if_icmp .ne 7, 3) := by decide +kernel
theorem dX10_has_9 : decode cX10_has 9 = .ok (.iconst 1, 1) := by decide +kernel
theorem dX10_has_10 : decode cX10_has 10 = .ok (.goto 4, 3) := by decide +kernel
theorem dX10_has_13 : decode cX10_has 13 = .ok (.iconst 0, 1) := by decide +kernel
theorem dX10_has_14 : decode cX10_has 14 = .ok (.ireturn, 1) := by decide +kernel
theorem dX10_put_0 : decode cX10_put 0 = .ok (.aload_n 0, 1) := by decide +kernel
theorem dX10_put_1 : decode cX10_put 1 = .ok (.getfield 16, 3) := by decide +kernel
theorem dX10_put_4 : decode cX10_put 4 = .ok (.iload_n 1, 1) := by decide +kernel
theorem dX10_put_5 : decode cX10_put 5 = .ok (.iload_n 2, 1) := by decide +kernel
theorem dX10_put_6 : decode cX10_put 6 = .ok (.iastore, 1) := by decide +kernel
theorem dX10_put_7 : decode cX10_put 7 = .ok (.aload_n 0, 1) := by decide +kernel
theorem dX10_put_8 : decode cX10_put 8 = .ok (.getfield 20, 3) := by decide +kernel
theorem dX10_put_11 : decode cX10_put 11 = .ok (.iload_n 1, 1) := by decide +kernel
theorem dX10_put_12 : decode cX10_put 12 = .ok (.bipush 100, 2) := by decide +kernel
theorem dX10_put_14 : decode cX10_put 14 = .ok (.iastore, 1) := by decide +kernel
theorem dX10_put_15 : decode cX10_put 15 = .ok (.aload_n 0, 1) := by decide +kernel
theorem dX10_put_16 : decode cX10_put 16 = .ok (.getfield 23, 3) := by decide +kernel
theorem dX10_put_19 : decode cX10_put 19 = .ok (.iload_n 1, 1) := by decide +kernel
theorem dX10_put_20 : decode cX10_put 20 = .ok (.iload_n 3, 1) := by decide +kernel
theorem dX10_put_21 : decode cX10_put 21 = .ok (.iastore, 1) := by decide +kernel
theorem dX10_put_22 : decode cX10_put 22 = .ok (.aload_n 0, 1) := by decide +kernel
theorem dX10_put_23 : decode cX10_put 23 = .ok (.getfield 26, 3) := by decide +kernel
theorem dX10_put_26 : decode cX10_put 26 = .ok (.iload_n 1, 1) := by decide +kernel
theorem dX10_put_27 : decode cX10_put 27 = .ok (.iload 4, 2) := by decide +kernel
theorem dX10_put_29 : decode cX10_put 29 = .ok (.iastore, 1) := by decide +kernel
theorem dX10_put_30 : decode cX10_put 30 = .ok (.aload_n 0, 1) := by decide +kernel
theorem dX10_put_31 : decode cX10_put 31 = .ok (.getfield 29, 3) := by decide +kernel
theorem dX10_put_34 : decode cX10_put 34 = .ok (.iload_n 1, 1) := by decide +kernel
theorem dX10_put_35 : decode cX10_put 35 = .ok (.iload 5, 2) := by decide +kernel
theorem dX10_put_37 : decode cX10_put 37 = .ok (.iastore, 1) := by decide +kernel
theorem dX10_put_38 : decode cX10_put 38 = .ok (.return_, 1) := by decide +kernel
theorem dX10_next_0 : decode cX10_next 0 = .ok (.aload_n 0, 1) := by decide +kernel
theorem dX10_next_1 : decode cX10_next 1 = .ok (.getfield 60, 3) := by decide +kernel
theorem dX10_next_4 : decode cX10_next 4 = .ok (.aload_n 0, 1) := by decide +kernel
theorem dX10_next_5 : decode cX10_next 5 = .ok (.getfield 57, 3) := by decide +kernel
theorem dX10_next_8 : decode cX10_next 8 = .ok (.if_icmp .ge 20, 3) := by decide +kernel
theorem dX10_next_11 : decode cX10_next 11 = .ok (.aload_n 0, 1) := by decide +kernel
theorem dX10_next_12 : decode cX10_next 12 = .ok (.getfield 45, 3) := by decide +kernel
theorem dX10_next_15 : decode cX10_next 15 = .ok (.aload_n 0, 1) := by decide +kernel
theorem dX10_next_16 : decode cX10_next 16 = .ok (.getfield 54, 3) := by decide +kernel
theorem dX10_next_19 : decode cX10_next 19 = .ok (.aload_n 0, 1) := by decide +kernel
theorem dX10_next_20 : decode cX10_next 20 = .ok (.getfield 60, 3) := by decide +kernel
theorem dX10_next_23 : decode cX10_next 23 = .ok (.iadd, 1) := by decide +kernel
theorem dX10_next_24 : decode cX10_next 24 = .ok (.iaload, 1) := by decide +kernel
theorem dX10_next_25 : decode cX10_next 25 = .ok (.goto 4, 3) := by decide +kernel
theorem dX10_next_28 : decode cX10_next 28 = .ok (.iconst (-1), 1) := by decide +kernel
theorem dX10_next_29 : decode cX10_next 29 = .ok (.ireturn, 1) := by decide +kernel
theorem dX10_push_0 : decode cX10_push 0 = .ok (.iload_n 1, 1) := by decide +kernel
theorem dX10_push_1 : decode cX10_push 1 = .ok (.istore_n 2, 1) := by decide +kernel
theorem dX10_push_2 : decode cX10_push 2 = .ok (.aload_n 0, 1) := by decide +kernel
theorem dX10_push_3 : decode cX10_push 3 = .ok (.getfield 94, 3) := by decide +kernel
theorem dX10_push_6 : decode cX10_push 6 = .ok (.ifCond .le 52, 3) := by decide +kernel
theorem dX10_push_9 : decode cX10_push 9 = .ok (.aload_n 0, 1) := by decide +kernel
theorem dX10_push_10 : decode cX10_push 10 = .ok (.getfield 88, 3) := by decide +kernel
theorem dX10_push_13 : decode cX10_push 13 = .ok (.aload_n 0, 1) := by decide +kernel
theorem dX10_push_14 : decode cX10_push 14 = .ok (.getfield 94, 3) := by decide +kernel
theorem dX10_push_17 : decode cX10_push 17 = .ok (.iconst 1, 1) := by decide +kernel
theorem dX10_push_18 : decode cX10_push 18 = .ok (.isub, 1) := by decide +kernel
theorem dX10_push_19 : decode cX10_push 19 = .ok (.iaload, 1) := by decide +kernel
theorem dX10_push_20 : decode cX10_push 20 = .ok (.bipush 33, 2) := by decide +kernel
theorem dX10_push_22 : decode cX10_push 22 = .ok (.if_icmp .ne 36, 3) := by decide +kernel
theorem dX10_push_25 : decode cX10_push 25 = .ok (.iload_n 2, 1) := by decide +kernel
theorem dX10_push_26 : decode cX10_push 26 = .ok (.ifCond .ne 7, 3) := by decide +kernel
theorem dX10_push_29 : decode cX10_push 29 = .ok (.iconst 1, 1) := by decide +kernel
theorem dX10_push_30 : decode cX10_push 30 = .ok (.goto 4, 3) := by decide +kernel
theorem dX10_push_33 : decode cX10_push 33 = .ok (.iconst 0, 1) := by decide +kernel
theorem dX10_push_34 : decode cX10_push 34 = .ok (.istore_n 2, 1) := by decide +kernel
theorem dX10_push_35 : decode cX10_push 35 = .ok (.aload_n 0, 1) := by decide +kernel
theorem dX10_push_36 : decode cX10_push 36 = .ok (.dup, 1) := by decide +kernel
theorem dX10_push_37 : decode cX10_push 37 = .ok (.getfield 94, 3) := by decide +kernel
theorem dX10_push_40 : decode cX10_push 40 = .ok (.iconst 1, 1) := by decide +kernel
theorem dX10_push_41 : decode cX10_push 41 = .ok (.isub, 1) := by decide +kernel
theorem dX10_push_42 : decode cX10_push 42 = .ok (.putfield 94, 3) := by decide +kernel
theorem dX10_push_45 : decode cX10_push 45 = .ok (.aload_n 0, 1) := by decide +kernel
theorem dX10_push_46 : decode cX10_push 46 = .ok (.dup, 1) := by decide +kernel
theorem dX10_push_47 : decode cX10_push 47 = .ok (.getfield 100, 3) := by decide +kernel
theorem dX10_push_50 : decode cX10_push 50 = .ok (.iconst 1, 1) := by decide +kernel
theorem dX10_push_51 : decode cX10_push 51 = .ok (.isub, 1) := by decide +kernel
theorem dX10_push_52 : decode cX10_push 52 = .ok (.putfield 100, 3) := by decide +kernel
theorem dX10_push_55 : decode cX10_push 55 = .ok (.goto (-53), 3) := by decide +kernel
theorem dX10_push_58 : decode cX10_push 58 = .ok (.aload_n 0, 1) := by decide +kernel
theorem dX10_push_59 : decode cX10_push 59 = .ok (.getfield 91, 3) := by decide +kernel
theorem dX10_push_62 : decode cX10_push 62 = .ok (.aload_n 0, 1) := by decide +kernel
theorem dX10_push_63 : decode cX10_push 63 = .ok (.getfield 97, 3) := by decide +kernel
theorem dX10_push_66 : decode cX10_push 66 = .ok (.iload_n 2, 1) := by decide +kernel
theorem dX10_push_67 : decode cX10_push 67 = .ok (.bastore, 1) := by decide +kernel
theorem dX10_push_68 : decode cX10_push 68 = .ok (.aload_n 0, 1) := by decide +kernel
theorem dX10_push_69 : decode cX10_push 69 = .ok (.dup, 1) := by decide +kernel
theorem dX10_push_70 : decode cX10_push 70 = .ok (.getfield 97, 3) := by decide +kernel
theorem dX10_push_73 : decode cX10_push 73 = .ok (.iconst 1, 1) := by decide +kernel
theorem dX10_push_74 : decode cX10_push 74 = .ok (.iadd, 1) := by decide +kernel
theorem dX10_push_75 : decode cX10_push 75 = .ok (.putfield 97, 3) := by decide +kernel
theorem dX10_push_78 : decode cX10_push 78 = .ok (.return_, 1) := by decide +kernel
theorem dX10_settleSigns_0 : decode cX10_settleSigns 0 = .ok (.aload_n 0, 1) := by decide +kernel
theorem dX10_settleSigns_1 : decode cX10_settleSigns 1 = .ok (.getfield 94, 3) := by decide +kernel
theorem dX10_settleSigns_4 : decode cX10_settleSigns 4 = .ok (.ifCond .le 154, 3) := by decide +kernel
theorem dX10_settleSigns_7 : decode cX10_settleSigns 7 = .ok (.aload_n 0, 1) := by decide +kernel
theorem dX10_settleSigns_8 : decode cX10_settleSigns 8 = .ok (.getfield 88, 3) := by decide +kernel
theorem dX10_settleSigns_11 : decode cX10_settleSigns 11 = .ok (.aload_n 0, 1) := by decide +kernel
theorem dX10_settleSigns_12 : decode cX10_settleSigns 12 = .ok (.getfield 94, 3) := by decide +kernel
theorem dX10_settleSigns_15 : decode cX10_settleSigns 15 = .ok (.iconst 1, 1) := by decide +kernel
theorem dX10_settleSigns_16 : decode cX10_settleSigns 16 = .ok (.isub, 1) := by decide +kernel
theorem dX10_settleSigns_17 : decode cX10_settleSigns 17 = .ok (.iaload, 1) := by decide +kernel
theorem dX10_settleSigns_18 : decode cX10_settleSigns 18 = .ok (.bipush 38, 2) := by decide +kernel
theorem dX10_settleSigns_20 : decode cX10_settleSigns 20 = .ok (.if_icmp .eq 25, 3) := by decide +kernel
theorem dX10_settleSigns_23 : decode cX10_settleSigns 23 = .ok (.aload_n 0, 1) := by decide +kernel
theorem dX10_settleSigns_24 : decode cX10_settleSigns 24 = .ok (.getfield 88, 3) := by decide +kernel
theorem dX10_settleSigns_27 : decode cX10_settleSigns 27 = .ok (.aload_n 0, 1) := by decide +kernel
theorem dX10_settleSigns_28 : decode cX10_settleSigns 28 = .ok (.getfield 94, 3) := by decide +kernel
theorem dX10_settleSigns_31 : decode cX10_settleSigns 31 = .ok (.iconst 1, 1) := by decide +kernel
theorem dX10_settleSigns_32 : decode cX10_settleSigns 32 = .ok (.isub, 1) := by decide +kernel
theorem dX10_settleSigns_33 : decode cX10_settleSigns 33 = .ok (.iaload, 1) := by decide +kernel
theorem dX10_settleSigns_34 : decode cX10_settleSigns 34 = .ok (.bipush 124, 2) := by decide +kernel
theorem dX10_settleSigns_36 : decode cX10_settleSigns 36 = .ok (.if_icmp .ne 122, 3) := by decide +kernel
theorem dX10_settleSigns_39 : decode cX10_settleSigns 39 = .ok (.iload_n 1, 1) := by decide +kernel
theorem dX10_settleSigns_40 : decode cX10_settleSigns 40 = .ok (.bipush 38, 2) := by decide +kernel
theorem dX10_settleSigns_42 : decode cX10_settleSigns 42 = .ok (.if_icmp .eq 116, 3) := by decide +kernel
theorem dX10_settleSigns_45 : decode cX10_settleSigns 45 = .ok (.aload_n 0, 1) := by decide +kernel
theorem dX10_settleSigns_46 : decode cX10_settleSigns 46 = .ok (.dup, 1) := by decide +kernel
theorem dX10_settleSigns_47 : decode cX10_settleSigns 47 = .ok (.getfield 94, 3) := by decide +kernel
theorem dX10_settleSigns_50 : decode cX10_settleSigns 50 = .ok (.iconst 1, 1) := by decide +kernel
theorem dX10_settleSigns_51 : decode cX10_settleSigns 51 = .ok (.isub, 1) := by decide +kernel
theorem dX10_settleSigns_52 : decode cX10_settleSigns 52 = .ok (.putfield 94, 3) := by decide +kernel
theorem dX10_settleSigns_55 : decode cX10_settleSigns 55 = .ok (.aload_n 0, 1) := by decide +kernel
theorem dX10_settleSigns_56 : decode cX10_settleSigns 56 = .ok (.dup, 1) := by decide +kernel
theorem dX10_settleSigns_57 : decode cX10_settleSigns 57 = .ok (.getfield 97, 3) := by decide +kernel
theorem dX10_settleSigns_60 : decode cX10_settleSigns 60 = .ok (.iconst 1, 1) := by decide +kernel
theorem dX10_settleSigns_61 : decode cX10_settleSigns 61 = .ok (.isub, 1) := by decide +kernel
theorem dX10_settleSigns_62 : decode cX10_settleSigns 62 = .ok (.putfield 97, 3) := by decide +kernel
theorem dX10_settleSigns_65 : decode cX10_settleSigns 65 = .ok (.aload_n 0, 1) := by decide +kernel
theorem dX10_settleSigns_66 : decode cX10_settleSigns 66 = .ok (.getfield 91, 3) := by decide +kernel
theorem dX10_settleSigns_69 : decode cX10_settleSigns 69 = .ok (.aload_n 0, 1) := by decide +kernel
theorem dX10_settleSigns_70 : decode cX10_settleSigns 70 = .ok (.getfield 97, 3) := by decide +kernel
theorem dX10_settleSigns_73 : decode cX10_settleSigns 73 = .ok (.iconst 1, 1) := by decide +kernel
theorem dX10_settleSigns_74 : decode cX10_settleSigns 74 = .ok (.isub, 1) := by decide +kernel
theorem dX10_settleSigns_75 : decode cX10_settleSigns 75 = .ok (.aload_n 0, 1) := by decide +kernel
theorem dX10_settleSigns_76 : decode cX10_settleSigns 76 = .ok (.getfield 88, 3) := by decide +kernel
theorem dX10_settleSigns_79 : decode cX10_settleSigns 79 = .ok (.aload_n 0, 1) := by decide +kernel
theorem dX10_settleSigns_80 : decode cX10_settleSigns 80 = .ok (.getfield 94, 3) := by decide +kernel
theorem dX10_settleSigns_83 : decode cX10_settleSigns 83 = .ok (.iaload, 1) := by decide +kernel
theorem dX10_settleSigns_84 : decode cX10_settleSigns 84 = .ok (.bipush 38, 2) := by decide +kernel
theorem dX10_settleSigns_86 : decode cX10_settleSigns 86 = .ok (.if_icmp .ne 37, 3) := by decide +kernel
theorem dX10_settleSigns_89 : decode cX10_settleSigns 89 = .ok (.aload_n 0, 1) := by decide +kernel
theorem dX10_settleSigns_90 : decode cX10_settleSigns 90 = .ok (.getfield 91, 3) := by decide +kernel
theorem dX10_settleSigns_93 : decode cX10_settleSigns 93 = .ok (.aload_n 0, 1) := by decide +kernel
theorem dX10_settleSigns_94 : decode cX10_settleSigns 94 = .ok (.getfield 97, 3) := by decide +kernel
theorem dX10_settleSigns_97 : decode cX10_settleSigns 97 = .ok (.iconst 1, 1) := by decide +kernel
theorem dX10_settleSigns_98 : decode cX10_settleSigns 98 = .ok (.isub, 1) := by decide +kernel
theorem dX10_settleSigns_99 : decode cX10_settleSigns 99 = .ok (.baload, 1) := by decide +kernel
theorem dX10_settleSigns_100 : decode cX10_settleSigns 100 = .ok (.ifCond .eq 19, 3) := by decide +kernel
theorem dX10_settleSigns_103 : decode cX10_settleSigns 103 = .ok (.aload_n 0, 1) := by decide +kernel
theorem dX10_settleSigns_104 : decode cX10_settleSigns 104 = .ok (.getfield 91, 3) := by decide +kernel
theorem dX10_settleSigns_107 : decode cX10_settleSigns 107 = .ok (.aload_n 0, 1) := by decide +kernel
theorem dX10_settleSigns_108 : decode cX10_settleSigns 108 = .ok (.getfield 97, 3) := by decide +kernel
theorem dX10_settleSigns_111 : decode cX10_settleSigns 111 = .ok (.baload, 1) := by decide +kernel
theorem dX10_settleSigns_112 : decode cX10_settleSigns 112 = .ok (.ifCond .eq 7, 3) := by decide +kernel
theorem dX10_settleSigns_115 : decode cX10_settleSigns 115 = .ok (.iconst 1, 1) := by decide +kernel
theorem dX10_settleSigns_116 : decode cX10_settleSigns 116 = .ok (.goto 38, 3) := by decide +kernel
theorem dX10_settleSigns_119 : decode cX10_settleSigns 119 = .ok (.iconst 0, 1) := by decide +kernel
theorem dX10_settleSigns_120 : decode cX10_settleSigns 120 = .ok (.goto 34, 3) := by decide +kernel
theorem dX10_settleSigns_123 : decode cX10_settleSigns 123 = .ok (.aload_n 0, 1) := by decide +kernel
theorem dX10_settleSigns_124 : decode cX10_settleSigns 124 = .ok (.getfield 91, 3) := by decide +kernel
theorem dX10_settleSigns_127 : decode cX10_settleSigns 127 = .ok (.aload_n 0, 1) := by decide +kernel
theorem dX10_settleSigns_128 : decode cX10_settleSigns 128 = .ok (.getfield 97, 3) := by decide +kernel
theorem dX10_settleSigns_131 : decode cX10_settleSigns 131 = .ok (.iconst 1, 1) := by decide +kernel
theorem dX10_settleSigns_132 : decode cX10_settleSigns 132 = .ok (.isub, 1) := by decide +kernel
theorem dX10_settleSigns_133 : decode cX10_settleSigns 133 = .ok (.baload, 1) := by decide +kernel
theorem dX10_settleSigns_134 : decode cX10_settleSigns 134 = .ok (.ifCond .ne 15, 3) := by decide +kernel
theorem dX10_settleSigns_137 : decode cX10_settleSigns 137 = .ok (.aload_n 0, 1) := by decide +kernel
theorem dX10_settleSigns_138 : decode cX10_settleSigns 138 = .ok (.getfield 91, 3) := by decide +kernel
theorem dX10_settleSigns_141 : decode cX10_settleSigns 141 = .ok (.aload_n 0, 1) := by decide +kernel
theorem dX10_settleSigns_142 : decode cX10_settleSigns 142 = .ok (.getfield 97, 3) := by decide +kernel
theorem dX10_settleSigns_145 : decode cX10_settleSigns 145 = .ok (.baload, 1) := by decide +kernel
theorem dX10_settleSigns_146 : decode cX10_settleSigns 146 = .ok (.ifCond .eq 7, 3) := by decide +kernel
theorem dX10_settleSigns_149 : decode cX10_settleSigns 149 = .ok (.iconst 1, 1) := by decide +kernel
theorem dX10_settleSigns_150 : decode cX10_settleSigns 150 = .ok (.goto 4, 3) := by decide +kernel
theorem dX10_settleSigns_153 : decode cX10_settleSigns 153 = .ok (.iconst 0, 1) := by decide +kernel
theorem dX10_settleSigns_154 : decode cX10_settleSigns 154 = .ok (.bastore, 1) := by decide +kernel
theorem dX10_settleSigns_155 : decode cX10_settleSigns 155 = .ok (.goto (-155), 3) := by decide +kernel
theorem dX10_settleSigns_158 : decode cX10_settleSigns 158 = .ok (.return_, 1) := by decide +kernel
theorem dX10_isOrder_0 : decode cX10_isOrder 0 = .ok (.aload_n 0, 1) := by decide +kernel
theorem dX10_isOrder_1 : decode cX10_isOrder 1 = .ok (.getfield 16, 3) := by decide +kernel
theorem dX10_isOrder_4 : decode cX10_isOrder 4 = .ok (.bipush 8, 2) := by decide +kernel
theorem dX10_isOrder_6 : decode cX10_isOrder 6 = .ok (.iload_n 2, 1) := by decide +kernel
theorem dX10_isOrder_7 : decode cX10_isOrder 7 = .ok (.imul, 1) := by decide +kernel
theorem dX10_isOrder_8 : decode cX10_isOrder 8 = .ok (.iload_n 1, 1) := by decide +kernel
theorem dX10_isOrder_9 : decode cX10_isOrder 9 = .ok (.iadd, 1) := by decide +kernel
theorem dX10_isOrder_10 : decode cX10_isOrder 10 = .ok (.iaload, 1) := by decide +kernel
theorem dX10_isOrder_11 : decode cX10_isOrder 11 = .ok (.iconst 3, 1) := by decide +kernel
theorem dX10_isOrder_12 : decode cX10_isOrder 12 = .ok (.if_icmp .ne 25, 3) := by decide +kernel
theorem dX10_isOrder_15 : decode cX10_isOrder 15 = .ok (.aload_n 0, 1) := by decide +kernel
theorem dX10_isOrder_16 : decode cX10_isOrder 16 = .ok (.getfield 118, 3) := by decide +kernel
theorem dX10_isOrder_19 : decode cX10_isOrder 19 = .ok (.aload_n 0, 1) := by decide +kernel
theorem dX10_isOrder_20 : decode cX10_isOrder 20 = .ok (.getfield 20, 3) := by decide +kernel
theorem dX10_isOrder_23 : decode cX10_isOrder 23 = .ok (.bipush 8, 2) := by decide +kernel
theorem dX10_isOrder_25 : decode cX10_isOrder 25 = .ok (.iload_n 2, 1) := by decide +kernel
theorem dX10_isOrder_26 : decode cX10_isOrder 26 = .ok (.imul, 1) := by decide +kernel
theorem dX10_isOrder_27 : decode cX10_isOrder 27 = .ok (.iload_n 1, 1) := by decide +kernel
theorem dX10_isOrder_28 : decode cX10_isOrder 28 = .ok (.iadd, 1) := by decide +kernel
theorem dX10_isOrder_29 : decode cX10_isOrder 29 = .ok (.iaload, 1) := by decide +kernel
theorem dX10_isOrder_30 : decode cX10_isOrder 30 = .ok (.if_icmp .ge 7, 3) := by decide +kernel
theorem dX10_isOrder_33 : decode cX10_isOrder 33 = .ok (.iconst 1, 1) := by decide +kernel
theorem dX10_isOrder_34 : decode cX10_isOrder 34 = .ok (.goto 4, 3) := by decide +kernel
theorem dX10_isOrder_37 : decode cX10_isOrder 37 = .ok (.iconst 0, 1) := by decide +kernel
theorem dX10_isOrder_38 : decode cX10_isOrder 38 = .ok (.ireturn, 1) := by decide +kernel
theorem dX10_divisor_0 : decode cX10_divisor 0 = .ok (.lload_n 1, 1) := by decide +kernel
theorem dX10_divisor_1 : decode cX10_divisor 1 = .ok (.lstore 5, 2) := by decide +kernel
theorem dX10_divisor_3 : decode cX10_divisor 3 = .ok (.lload_n 3, 1) := by decide +kernel
theorem dX10_divisor_4 : decode cX10_divisor 4 = .ok (.lstore 7, 2) := by decide +kernel
theorem dX10_divisor_6 : decode cX10_divisor 6 = .ok (.lload 7, 2) := by decide +kernel
theorem dX10_divisor_8 : decode cX10_divisor 8 = .ok (.lconst 0, 1) := by decide +kernel
theorem dX10_divisor_9 : decode cX10_divisor 9 = .ok (.lcmp, 1) := by decide +kernel
theorem dX10_divisor_10 : decode cX10_divisor 10 = .ok (.ifCond .eq 21, 3) := by decide +kernel
theorem dX10_divisor_13 : decode cX10_divisor 13 = .ok (.lload 5, 2) := by decide +kernel
theorem dX10_divisor_15 : decode cX10_divisor 15 = .ok (.lload 7, 2) := by decide +kernel
theorem dX10_divisor_17 : decode cX10_divisor 17 = .ok (.lrem, 1) := by decide +kernel
theorem dX10_divisor_18 : decode cX10_divisor 18 = .ok (.lstore 9, 2) := by decide +kernel
theorem dX10_divisor_20 : decode cX10_divisor 20 = .ok (.lload 7, 2) := by decide +kernel
theorem dX10_divisor_22 : decode cX10_divisor 22 = .ok (.lstore 5, 2) := by decide +kernel
theorem dX10_divisor_24 : decode cX10_divisor 24 = .ok (.lload 9, 2) := by decide +kernel
theorem dX10_divisor_26 : decode cX10_divisor 26 = .ok (.lstore 7, 2) := by decide +kernel
theorem dX10_divisor_28 : decode cX10_divisor 28 = .ok (.goto (-22), 3) := by decide +kernel
theorem dX10_divisor_31 : decode cX10_divisor 31 = .ok (.lload 5, 2) := by decide +kernel
theorem dX10_divisor_33 : decode cX10_divisor 33 = .ok (.lreturn, 1) := by decide +kernel
theorem dX10_thinks_0 : decode cX10_thinks 0 = .ok (.iconst 0, 1) := by decide +kernel
theorem dX10_thinks_1 : decode cX10_thinks 1 = .ok (.istore_n 2, 1) := by decide +kernel
theorem dX10_thinks_2 : decode cX10_thinks 2 = .ok (.iconst 0, 1) := by decide +kernel
theorem dX10_thinks_3 : decode cX10_thinks 3 = .ok (.istore_n 3, 1) := by decide +kernel
theorem dX10_thinks_4 : decode cX10_thinks 4 = .ok (.iload_n 3, 1) := by decide +kernel
theorem dX10_thinks_5 : decode cX10_thinks 5 = .ok (.aload_n 0, 1) := by decide +kernel
theorem dX10_thinks_6 : decode cX10_thinks 6 = .ok (.getfield 7, 3) := by decide +kernel
theorem dX10_thinks_9 : decode cX10_thinks 9 = .ok (.if_icmp .ge 33, 3) := by decide +kernel
theorem dX10_thinks_12 : decode cX10_thinks 12 = .ok (.iload_n 2, 1) := by decide +kernel
theorem dX10_thinks_13 : decode cX10_thinks 13 = .ok (.aload_n 0, 1) := by decide +kernel
theorem dX10_thinks_14 : decode cX10_thinks 14 = .ok (.getfield 35, 3) := by decide +kernel
theorem dX10_thinks_17 : decode cX10_thinks 17 = .ok (.bipush 8, 2) := by decide +kernel
theorem dX10_thinks_19 : decode cX10_thinks 19 = .ok (.iload_n 1, 1) := by decide +kernel
theorem dX10_thinks_20 : decode cX10_thinks 20 = .ok (.imul, 1) := by decide +kernel
theorem dX10_thinks_21 : decode cX10_thinks 21 = .ok (.iload_n 3, 1) := by decide +kernel
theorem dX10_thinks_22 : decode cX10_thinks 22 = .ok (.iadd, 1) := by decide +kernel
theorem dX10_thinks_23 : decode cX10_thinks 23 = .ok (.baload, 1) := by decide +kernel
theorem dX10_thinks_24 : decode cX10_thinks 24 = .ok (.ifCond .eq 9, 3) := by decide +kernel
theorem dX10_thinks_27 : decode cX10_thinks 27 = .ok (.iconst 1, 1) := by decide +kernel
theorem dX10_thinks_28 : decode cX10_thinks 28 = .ok (.iload_n 3, 1) := by decide +kernel
theorem dX10_thinks_29 : decode cX10_thinks 29 = .ok (.ishl, 1) := by decide +kernel
theorem dX10_thinks_30 : decode cX10_thinks 30 = .ok (.goto 4, 3) := by decide +kernel
theorem dX10_thinks_33 : decode cX10_thinks 33 = .ok (.iconst 0, 1) := by decide +kernel
theorem dX10_thinks_34 : decode cX10_thinks 34 = .ok (.ior, 1) := by decide +kernel
theorem dX10_thinks_35 : decode cX10_thinks 35 = .ok (.istore_n 2, 1) := by decide +kernel
theorem dX10_thinks_36 : decode cX10_thinks 36 = .ok (.iinc 3 1, 3) := by decide +kernel
theorem dX10_thinks_39 : decode cX10_thinks 39 = .ok (.goto (-35), 3) := by decide +kernel
theorem dX10_thinks_42 : decode cX10_thinks 42 = .ok (.iload_n 2, 1) := by decide +kernel
theorem dX10_thinks_43 : decode cX10_thinks 43 = .ok (.ireturn, 1) := by decide +kernel
theorem dX10_speaking_0 : decode cX10_speaking 0 = .ok (.iconst 0, 1) := by decide +kernel
theorem dX10_speaking_1 : decode cX10_speaking 1 = .ok (.istore_n 1, 1) := by decide +kernel
theorem dX10_speaking_2 : decode cX10_speaking 2 = .ok (.iconst 0, 1) := by decide +kernel
theorem dX10_speaking_3 : decode cX10_speaking 3 = .ok (.istore_n 2, 1) := by decide +kernel
theorem dX10_speaking_4 : decode cX10_speaking 4 = .ok (.iload_n 2, 1) := by decide +kernel
theorem dX10_speaking_5 : decode cX10_speaking 5 = .ok (.aload_n 0, 1) := by decide +kernel
theorem dX10_speaking_6 : decode cX10_speaking 6 = .ok (.getfield 7, 3) := by decide +kernel
theorem dX10_speaking_9 : decode cX10_speaking 9 = .ok (.if_icmp .ge 30, 3) := by decide +kernel
theorem dX10_speaking_12 : decode cX10_speaking 12 = .ok (.iload_n 1, 1) := by decide +kernel
theorem dX10_speaking_13 : decode cX10_speaking 13 = .ok (.aload_n 0, 1) := by decide +kernel
theorem dX10_speaking_14 : decode cX10_speaking 14 = .ok (.getfield 127, 3) := by decide +kernel
theorem dX10_speaking_17 : decode cX10_speaking 17 = .ok (.iload_n 2, 1) := by decide +kernel
theorem dX10_speaking_18 : decode cX10_speaking 18 = .ok (.laload, 1) := by decide +kernel
theorem dX10_speaking_19 : decode cX10_speaking 19 = .ok (.lconst 0, 1) := by decide +kernel
theorem dX10_speaking_20 : decode cX10_speaking 20 = .ok (.lcmp, 1) := by decide +kernel
theorem dX10_speaking_21 : decode cX10_speaking 21 = .ok (.ifCond .le 9, 3) := by decide +kernel
theorem dX10_speaking_24 : decode cX10_speaking 24 = .ok (.iconst 1, 1) := by decide +kernel
theorem dX10_speaking_25 : decode cX10_speaking 25 = .ok (.iload_n 2, 1) := by decide +kernel
theorem dX10_speaking_26 : decode cX10_speaking 26 = .ok (.ishl, 1) := by decide +kernel
theorem dX10_speaking_27 : decode cX10_speaking 27 = .ok (.goto 4, 3) := by decide +kernel
theorem dX10_speaking_30 : decode cX10_speaking 30 = .ok (.iconst 0, 1) := by decide +kernel
theorem dX10_speaking_31 : decode cX10_speaking 31 = .ok (.ior, 1) := by decide +kernel
theorem dX10_speaking_32 : decode cX10_speaking 32 = .ok (.istore_n 1, 1) := by decide +kernel
theorem dX10_speaking_33 : decode cX10_speaking 33 = .ok (.iinc 2 1, 3) := by decide +kernel
theorem dX10_speaking_36 : decode cX10_speaking 36 = .ok (.goto (-32), 3) := by decide +kernel
theorem dX10_speaking_39 : decode cX10_speaking 39 = .ok (.iload_n 1, 1) := by decide +kernel
theorem dX10_speaking_40 : decode cX10_speaking 40 = .ok (.ireturn, 1) := by decide +kernel
theorem dX10_findAlone_0 : decode cX10_findAlone 0 = .ok (.aload_n 0, 1) := by decide +kernel
theorem dX10_findAlone_1 : decode cX10_findAlone 1 = .ok (.lconst 1, 1) := by decide +kernel
theorem dX10_findAlone_2 : decode cX10_findAlone 2 = .ok (.putfield 134, 3) := by decide +kernel
theorem dX10_findAlone_5 : decode cX10_findAlone 5 = .ok (.iconst 0, 1) := by decide +kernel
theorem dX10_findAlone_6 : decode cX10_findAlone 6 = .ok (.istore_n 1, 1) := by decide +kernel
theorem dX10_findAlone_7 : decode cX10_findAlone 7 = .ok (.iload_n 1, 1) := by decide +kernel
theorem dX10_findAlone_8 : decode cX10_findAlone 8 = .ok (.aload_n 0, 1) := by decide +kernel
theorem dX10_findAlone_9 : decode cX10_findAlone 9 = .ok (.getfield 7, 3) := by decide +kernel
theorem dX10_findAlone_12 : decode cX10_findAlone 12 = .ok (.if_icmp .ge 27, 3) := by decide +kernel
theorem dX10_findAlone_15 : decode cX10_findAlone 15 = .ok (.aload_n 0, 1) := by decide +kernel
theorem dX10_findAlone_16 : decode cX10_findAlone 16 = .ok (.getfield 127, 3) := by decide +kernel
theorem dX10_findAlone_19 : decode cX10_findAlone 19 = .ok (.iload_n 1, 1) := by decide +kernel
theorem dX10_findAlone_20 : decode cX10_findAlone 20 = .ok (.aload_n 0, 1) := by decide +kernel
theorem dX10_findAlone_21 : decode cX10_findAlone 21 = .ok (.getfield 70, 3) := by decide +kernel
theorem dX10_findAlone_24 : decode cX10_findAlone 24 = .ok (.ifCond .le 7, 3) := by decide +kernel
theorem dX10_findAlone_27 : decode cX10_findAlone 27 = .ok (.lconst 1, 1) := by decide +kernel
theorem dX10_findAlone_28 : decode cX10_findAlone 28 = .ok (.goto 4, 3) := by decide +kernel
theorem dX10_findAlone_31 : decode cX10_findAlone 31 = .ok (.lconst 0, 1) := by decide +kernel
theorem dX10_findAlone_32 : decode cX10_findAlone 32 = .ok (.lastore, 1) := by decide +kernel
theorem dX10_findAlone_33 : decode cX10_findAlone 33 = .ok (.iinc 1 1, 3) := by decide +kernel
theorem dX10_findAlone_36 : decode cX10_findAlone 36 = .ok (.goto (-29), 3) := by decide +kernel
theorem dX10_findAlone_39 : decode cX10_findAlone 39 = .ok (.return_, 1) := by decide +kernel
theorem dX10_keep_0 : decode cX10_keep 0 = .ok (.bipush 8, 2) := by decide +kernel
theorem dX10_keep_2 : decode cX10_keep 2 = .ok (.iload_n 2, 1) := by decide +kernel
theorem dX10_keep_3 : decode cX10_keep 3 = .ok (.imul, 1) := by decide +kernel
theorem dX10_keep_4 : decode cX10_keep 4 = .ok (.iload_n 1, 1) := by decide +kernel
theorem dX10_keep_5 : decode cX10_keep 5 = .ok (.iadd, 1) := by decide +kernel
theorem dX10_keep_6 : decode cX10_keep 6 = .ok (.istore_n 3, 1) := by decide +kernel
theorem dX10_keep_7 : decode cX10_keep 7 = .ok (.aload_n 0, 1) := by decide +kernel
theorem dX10_keep_8 : decode cX10_keep 8 = .ok (.getfield 147, 3) := by decide +kernel
theorem dX10_keep_11 : decode cX10_keep 11 = .ok (.iconst 0, 1) := by decide +kernel
theorem dX10_keep_12 : decode cX10_keep 12 = .ok (.aload_n 0, 1) := by decide +kernel
theorem dX10_keep_13 : decode cX10_keep 13 = .ok (.getfield 16, 3) := by decide +kernel
theorem dX10_keep_16 : decode cX10_keep 16 = .ok (.iload_n 3, 1) := by decide +kernel
theorem dX10_keep_17 : decode cX10_keep 17 = .ok (.iaload, 1) := by decide +kernel
theorem dX10_keep_18 : decode cX10_keep 18 = .ok (.iastore, 1) := by decide +kernel
theorem dX10_keep_19 : decode cX10_keep 19 = .ok (.aload_n 0, 1) := by decide +kernel
theorem dX10_keep_20 : decode cX10_keep 20 = .ok (.getfield 147, 3) := by decide +kernel
theorem dX10_keep_23 : decode cX10_keep 23 = .ok (.iconst 1, 1) := by decide +kernel
theorem dX10_keep_24 : decode cX10_keep 24 = .ok (.aload_n 0, 1) := by decide +kernel
theorem dX10_keep_25 : decode cX10_keep 25 = .ok (.getfield 20, 3) := by decide +kernel
theorem dX10_keep_28 : decode cX10_keep 28 = .ok (.iload_n 3, 1) := by decide +kernel
theorem dX10_keep_29 : decode cX10_keep 29 = .ok (.iaload, 1) := by decide +kernel
theorem dX10_keep_30 : decode cX10_keep 30 = .ok (.iastore, 1) := by decide +kernel
theorem dX10_keep_31 : decode cX10_keep 31 = .ok (.aload_n 0, 1) := by decide +kernel
theorem dX10_keep_32 : decode cX10_keep 32 = .ok (.getfield 147, 3) := by decide +kernel
theorem dX10_keep_35 : decode cX10_keep 35 = .ok (.iconst 2, 1) := by decide +kernel
theorem dX10_keep_36 : decode cX10_keep 36 = .ok (.aload_n 0, 1) := by decide +kernel
theorem dX10_keep_37 : decode cX10_keep 37 = .ok (.getfield 23, 3) := by decide +kernel
theorem dX10_keep_40 : decode cX10_keep 40 = .ok (.iload_n 3, 1) := by decide +kernel
theorem dX10_keep_41 : decode cX10_keep 41 = .ok (.iaload, 1) := by decide +kernel
theorem dX10_keep_42 : decode cX10_keep 42 = .ok (.iastore, 1) := by decide +kernel
theorem dX10_keep_43 : decode cX10_keep 43 = .ok (.aload_n 0, 1) := by decide +kernel
theorem dX10_keep_44 : decode cX10_keep 44 = .ok (.getfield 147, 3) := by decide +kernel
theorem dX10_keep_47 : decode cX10_keep 47 = .ok (.iconst 3, 1) := by decide +kernel
theorem dX10_keep_48 : decode cX10_keep 48 = .ok (.aload_n 0, 1) := by decide +kernel
theorem dX10_keep_49 : decode cX10_keep 49 = .ok (.getfield 26, 3) := by decide +kernel
theorem dX10_keep_52 : decode cX10_keep 52 = .ok (.iload_n 3, 1) := by decide +kernel
theorem dX10_keep_53 : decode cX10_keep 53 = .ok (.iaload, 1) := by decide +kernel
theorem dX10_keep_54 : decode cX10_keep 54 = .ok (.iastore, 1) := by decide +kernel
theorem dX10_keep_55 : decode cX10_keep 55 = .ok (.aload_n 0, 1) := by decide +kernel
theorem dX10_keep_56 : decode cX10_keep 56 = .ok (.getfield 147, 3) := by decide +kernel
theorem dX10_keep_59 : decode cX10_keep 59 = .ok (.iconst 4, 1) := by decide +kernel
theorem dX10_keep_60 : decode cX10_keep 60 = .ok (.aload_n 0, 1) := by decide +kernel
theorem dX10_keep_61 : decode cX10_keep 61 = .ok (.getfield 29, 3) := by decide +kernel
theorem dX10_keep_64 : decode cX10_keep 64 = .ok (.iload_n 3, 1) := by decide +kernel
theorem dX10_keep_65 : decode cX10_keep 65 = .ok (.iaload, 1) := by decide +kernel
theorem dX10_keep_66 : decode cX10_keep 66 = .ok (.iastore, 1) := by decide +kernel
theorem dX10_keep_67 : decode cX10_keep 67 = .ok (.return_, 1) := by decide +kernel
theorem dX10_heapOf_0 : decode cX10_heapOf 0 = .ok (.lconst 0, 1) := by decide +kernel
theorem dX10_heapOf_1 : decode cX10_heapOf 1 = .ok (.lstore_n 1, 1) := by decide +kernel
theorem dX10_heapOf_2 : decode cX10_heapOf 2 = .ok (.iconst 0, 1) := by decide +kernel
theorem dX10_heapOf_3 : decode cX10_heapOf 3 = .ok (.istore_n 3, 1) := by decide +kernel
theorem dX10_heapOf_4 : decode cX10_heapOf 4 = .ok (.iload_n 3, 1) := by decide +kernel
theorem dX10_heapOf_5 : decode cX10_heapOf 5 = .ok (.aload_n 0, 1) := by decide +kernel
theorem dX10_heapOf_6 : decode cX10_heapOf 6 = .ok (.getfield 7, 3) := by decide +kernel
theorem dX10_heapOf_9 : decode cX10_heapOf 9 = .ok (.if_icmp .ge 31, 3) := by decide +kernel
theorem dX10_heapOf_12 : decode cX10_heapOf 12 = .ok (.aload_n 0, 1) := by decide +kernel
theorem dX10_heapOf_13 : decode cX10_heapOf 13 = .ok (.getfield 127, 3) := by decide +kernel
theorem dX10_heapOf_16 : decode cX10_heapOf 16 = .ok (.iload_n 3, 1) := by decide +kernel
theorem dX10_heapOf_17 : decode cX10_heapOf 17 = .ok (.laload, 1) := by decide +kernel
theorem dX10_heapOf_18 : decode cX10_heapOf 18 = .ok (.lload_n 1, 1) := by decide +kernel
theorem dX10_heapOf_19 : decode cX10_heapOf 19 = .ok (.lcmp, 1) := by decide +kernel
theorem dX10_heapOf_20 : decode cX10_heapOf 20 = .ok (.ifCond .le 12, 3) := by decide +kernel
theorem dX10_heapOf_23 : decode cX10_heapOf 23 = .ok (.aload_n 0, 1) := by decide +kernel
theorem dX10_heapOf_24 : decode cX10_heapOf 24 = .ok (.getfield 127, 3) := by decide +kernel
theorem dX10_heapOf_27 : decode cX10_heapOf 27 = .ok (.iload_n 3, 1) := by decide +kernel
theorem dX10_heapOf_28 : decode cX10_heapOf 28 = .ok (.laload, 1) := by decide +kernel
theorem dX10_heapOf_29 : decode cX10_heapOf 29 = .ok (.goto 4, 3) := by decide +kernel
theorem dX10_heapOf_32 : decode cX10_heapOf 32 = .ok (.lload_n 1, 1) := by decide +kernel
theorem dX10_heapOf_33 : decode cX10_heapOf 33 = .ok (.lstore_n 1, 1) := by decide +kernel
theorem dX10_heapOf_34 : decode cX10_heapOf 34 = .ok (.iinc 3 1, 3) := by decide +kernel
theorem dX10_heapOf_37 : decode cX10_heapOf 37 = .ok (.goto (-33), 3) := by decide +kernel
theorem dX10_heapOf_40 : decode cX10_heapOf 40 = .ok (.lload_n 1, 1) := by decide +kernel
theorem dX10_heapOf_41 : decode cX10_heapOf 41 = .ok (.lreturn, 1) := by decide +kernel
theorem dX10_asBefore_0 : decode cX10_asBefore 0 = .ok (.iconst 0, 1) := by decide +kernel
theorem dX10_asBefore_1 : decode cX10_asBefore 1 = .ok (.istore_n 2, 1) := by decide +kernel
theorem dX10_asBefore_2 : decode cX10_asBefore 2 = .ok (.iload_n 2, 1) := by decide +kernel
theorem dX10_asBefore_3 : decode cX10_asBefore 3 = .ok (.aload_n 0, 1) := by decide +kernel
theorem dX10_asBefore_4 : decode cX10_asBefore 4 = .ok (.getfield 7, 3) := by decide +kernel
theorem dX10_asBefore_7 : decode cX10_asBefore 7 = .ok (.if_icmp .ge 26, 3) := by decide +kernel
theorem dX10_asBefore_10 : decode cX10_asBefore 10 = .ok (.aload_n 0, 1) := by decide +kernel
theorem dX10_asBefore_11 : decode cX10_asBefore 11 = .ok (.getfield 20, 3) := by decide +kernel
theorem dX10_asBefore_14 : decode cX10_asBefore 14 = .ok (.bipush 8, 2) := by decide +kernel
theorem dX10_asBefore_16 : decode cX10_asBefore 16 = .ok (.iload_n 1, 1) := by decide +kernel
theorem dX10_asBefore_17 : decode cX10_asBefore 17 = .ok (.imul, 1) := by decide +kernel
theorem dX10_asBefore_18 : decode cX10_asBefore 18 = .ok (.iload_n 2, 1) := by decide +kernel
theorem dX10_asBefore_19 : decode cX10_asBefore 19 = .ok (.iadd, 1) := by decide +kernel
theorem dX10_asBefore_20 : decode cX10_asBefore 20 = .ok (.aload_n 0, 1) := by decide +kernel
theorem dX10_asBefore_21 : decode cX10_asBefore 21 = .ok (.getfield 150, 3) := by decide +kernel
theorem dX10_asBefore_24 : decode cX10_asBefore 24 = .ok (.iload_n 2, 1) := by decide +kernel
theorem dX10_asBefore_25 : decode cX10_asBefore 25 = .ok (.iaload, 1) := by decide +kernel
theorem dX10_asBefore_26 : decode cX10_asBefore 26 = .ok (.iastore, 1) := by decide +kernel
theorem dX10_asBefore_27 : decode cX10_asBefore 27 = .ok (.iinc 2 1, 3) := by decide +kernel
theorem dX10_asBefore_30 : decode cX10_asBefore 30 = .ok (.goto (-28), 3) := by decide +kernel
theorem dX10_asBefore_33 : decode cX10_asBefore 33 = .ok (.return_, 1) := by decide +kernel
theorem dX10_body_0 : decode cX10_body 0 = .ok (.aload_n 0, 1) := by decide +kernel
theorem dX10_body_1 : decode cX10_body 1 = .ok (.getfield 153, 3) := by decide +kernel
theorem dX10_body_4 : decode cX10_body 4 = .ok (.bipush 20, 2) := by decide +kernel
theorem dX10_body_6 : decode cX10_body 6 = .ok (.if_icmp .ge 13, 3) := by decide +kernel
theorem dX10_body_9 : decode cX10_body 9 = .ok (.aload_n 0, 1) := by decide +kernel
theorem dX10_body_10 : decode cX10_body 10 = .ok (.getfield 156, 3) := by decide +kernel
theorem dX10_body_13 : decode cX10_body 13 = .ok (.aload_n 0, 1) := by decide +kernel
theorem dX10_body_14 : decode cX10_body 14 = .ok (.getfield 153, 3) := by decide +kernel
theorem dX10_body_17 : decode cX10_body 17 = .ok (.iload_n 1, 1) := by decide +kernel
theorem dX10_body_18 : decode cX10_body 18 = .ok (.iastore, 1) := by decide +kernel
theorem dX10_body_19 : decode cX10_body 19 = .ok (.aload_n 0, 1) := by decide +kernel
theorem dX10_body_20 : decode cX10_body 20 = .ok (.dup, 1) := by decide +kernel
theorem dX10_body_21 : decode cX10_body 21 = .ok (.getfield 153, 3) := by decide +kernel
theorem dX10_body_24 : decode cX10_body 24 = .ok (.iconst 1, 1) := by decide +kernel
theorem dX10_body_25 : decode cX10_body 25 = .ok (.iadd, 1) := by decide +kernel
theorem dX10_body_26 : decode cX10_body 26 = .ok (.putfield 153, 3) := by decide +kernel
theorem dX10_body_29 : decode cX10_body 29 = .ok (.return_, 1) := by decide +kernel
theorem dX10_count_0 : decode cX10_count 0 = .ok (.iload_n 1, 1) := by decide +kernel
theorem dX10_count_1 : decode cX10_count 1 = .ok (.tableswitch 60 0 4 #[35, 40, 45, 50, 55], 35) := by decide +kernel
theorem dX10_count_36 : decode cX10_count 36 = .ok (.aload_n 0, 1) := by decide +kernel
theorem dX10_count_37 : decode cX10_count 37 = .ok (.getfield 7, 3) := by decide +kernel
theorem dX10_count_40 : decode cX10_count 40 = .ok (.ireturn, 1) := by decide +kernel
theorem dX10_count_41 : decode cX10_count 41 = .ok (.aload_n 0, 1) := by decide +kernel
theorem dX10_count_42 : decode cX10_count 42 = .ok (.getfield 39, 3) := by decide +kernel
theorem dX10_count_45 : decode cX10_count 45 = .ok (.ireturn, 1) := by decide +kernel
theorem dX10_count_46 : decode cX10_count 46 = .ok (.aload_n 0, 1) := by decide +kernel
theorem dX10_count_47 : decode cX10_count 47 = .ok (.getfield 42, 3) := by decide +kernel
theorem dX10_count_50 : decode cX10_count 50 = .ok (.ireturn, 1) := by decide +kernel
theorem dX10_count_51 : decode cX10_count 51 = .ok (.aload_n 0, 1) := by decide +kernel
theorem dX10_count_52 : decode cX10_count 52 = .ok (.getfield 13, 3) := by decide +kernel
theorem dX10_count_55 : decode cX10_count 55 = .ok (.ireturn, 1) := by decide +kernel
theorem dX10_count_56 : decode cX10_count 56 = .ok (.aload_n 0, 1) := by decide +kernel
theorem dX10_count_57 : decode cX10_count 57 = .ok (.getfield 153, 3) := by decide +kernel
theorem dX10_count_60 : decode cX10_count 60 = .ok (.ireturn, 1) := by decide +kernel
theorem dX10_count_61 : decode cX10_count 61 = .ok (.bipush (-2), 2) := by decide +kernel
theorem dX10_count_63 : decode cX10_count 63 = .ok (.ireturn, 1) := by decide +kernel
theorem dX10_narrow_0 : decode cX10_narrow 0 = .ok (.iload_n 1, 1) := by decide +kernel
theorem dX10_narrow_1 : decode cX10_narrow 1 = .ok (.ifCond .ne 10, 3) := by decide +kernel
theorem dX10_narrow_4 : decode cX10_narrow 4 = .ok (.lload_n 2, 1) := by decide +kernel
theorem dX10_narrow_5 : decode cX10_narrow 5 = .ok (.l2i, 1) := by decide +kernel
theorem dX10_narrow_6 : decode cX10_narrow 6 = .ok (.i2b, 1) := by decide +kernel
theorem dX10_narrow_7 : decode cX10_narrow 7 = .ok (.i2l, 1) := by decide +kernel
theorem dX10_narrow_8 : decode cX10_narrow 8 = .ok (.goto 46, 3) := by decide +kernel
theorem dX10_narrow_11 : decode cX10_narrow 11 = .ok (.iload_n 1, 1) := by decide +kernel
theorem dX10_narrow_12 : decode cX10_narrow 12 = .ok (.iconst 1, 1) := by decide +kernel
theorem dX10_narrow_13 : decode cX10_narrow 13 = .ok (.if_icmp .ne 10, 3) := by decide +kernel
theorem dX10_narrow_16 : decode cX10_narrow 16 = .ok (.lload_n 2, 1) := by decide +kernel
theorem dX10_narrow_17 : decode cX10_narrow 17 = .ok (.l2i, 1) := by decide +kernel
theorem dX10_narrow_18 : decode cX10_narrow 18 = .ok (.i2s, 1) := by decide +kernel
theorem dX10_narrow_19 : decode cX10_narrow 19 = .ok (.i2l, 1) := by decide +kernel
theorem dX10_narrow_20 : decode cX10_narrow 20 = .ok (.goto 34, 3) := by decide +kernel
theorem dX10_narrow_23 : decode cX10_narrow 23 = .ok (.iload_n 1, 1) := by decide +kernel
theorem dX10_narrow_24 : decode cX10_narrow 24 = .ok (.iconst 2, 1) := by decide +kernel
theorem dX10_narrow_25 : decode cX10_narrow 25 = .ok (.if_icmp .ne 9, 3) := by decide +kernel
theorem dX10_narrow_28 : decode cX10_narrow 28 = .ok (.lload_n 2, 1) := by decide +kernel
theorem dX10_narrow_29 : decode cX10_narrow 29 = .ok (.l2i, 1) := by decide +kernel
theorem dX10_narrow_30 : decode cX10_narrow 30 = .ok (.i2l, 1) := by decide +kernel
theorem dX10_narrow_31 : decode cX10_narrow 31 = .ok (.goto 23, 3) := by decide +kernel
theorem dX10_narrow_34 : decode cX10_narrow 34 = .ok (.iload_n 1, 1) := by decide +kernel
theorem dX10_narrow_35 : decode cX10_narrow 35 = .ok (.iconst 4, 1) := by decide +kernel
theorem dX10_narrow_36 : decode cX10_narrow 36 = .ok (.if_icmp .ne 17, 3) := by decide +kernel
theorem dX10_narrow_39 : decode cX10_narrow 39 = .ok (.lload_n 2, 1) := by decide +kernel
theorem dX10_narrow_40 : decode cX10_narrow 40 = .ok (.lconst 0, 1) := by decide +kernel
theorem dX10_narrow_41 : decode cX10_narrow 41 = .ok (.lcmp, 1) := by decide +kernel
theorem dX10_narrow_42 : decode cX10_narrow 42 = .ok (.ifCond .eq 7, 3) := by decide +kernel
theorem dX10_narrow_45 : decode cX10_narrow 45 = .ok (.lconst 1, 1) := by decide +kernel
theorem dX10_narrow_46 : decode cX10_narrow 46 = .ok (.goto 8, 3) := by decide +kernel
theorem dX10_narrow_49 : decode cX10_narrow 49 = .ok (.lconst 0, 1) := by decide +kernel
theorem dX10_narrow_50 : decode cX10_narrow 50 = .ok (.goto 4, 3) := by decide +kernel
theorem dX10_narrow_53 : decode cX10_narrow 53 = .ok (.lload_n 2, 1) := by decide +kernel
theorem dX10_narrow_54 : decode cX10_narrow 54 = .ok (.lreturn, 1) := by decide +kernel
theorem dX10_isMember_0 : decode cX10_isMember 0 = .ok (.aload_n 0, 1) := by decide +kernel
theorem dX10_isMember_1 : decode cX10_isMember 1 = .ok (.iload_n 1, 1) := by decide +kernel
theorem dX10_isMember_2 : decode cX10_isMember 2 = .ok (.iconst 0, 1) := by decide +kernel
theorem dX10_isMember_3 : decode cX10_isMember 3 = .ok (.aload_n 0, 1) := by decide +kernel
theorem dX10_isMember_4 : decode cX10_isMember 4 = .ok (.getfield 7, 3) := by decide +kernel
theorem dX10_isMember_7 : decode cX10_isMember 7 = .ok (.iconst 1, 1) := by decide +kernel
theorem dX10_isMember_8 : decode cX10_isMember 8 = .ok (.isub, 1) := by decide +kernel
theorem dX10_isMember_9 : decode cX10_isMember 9 = .ok (.invokevirtual 171, 3) := by decide +kernel
theorem dX10_isMember_12 : decode cX10_isMember 12 = .ok (.ireturn, 1) := by decide +kernel
theorem dX10_isMatter_0 : decode cX10_isMatter 0 = .ok (.aload_n 0, 1) := by decide +kernel
theorem dX10_isMatter_1 : decode cX10_isMatter 1 = .ok (.iload_n 1, 1) := by decide +kernel
theorem dX10_isMatter_2 : decode cX10_isMatter 2 = .ok (.iconst 0, 1) := by decide +kernel
theorem dX10_isMatter_3 : decode cX10_isMatter 3 = .ok (.iconst 2, 1) := by decide +kernel
theorem dX10_isMatter_4 : decode cX10_isMatter 4 = .ok (.invokevirtual 171, 3) := by decide +kernel
theorem dX10_isMatter_7 : decode cX10_isMatter 7 = .ok (.ireturn, 1) := by decide +kernel
theorem dX10_member_0 : decode cX10_member 0 = .ok (.aload_n 0, 1) := by decide +kernel
theorem dX10_member_1 : decode cX10_member 1 = .ok (.getfield 7, 3) := by decide +kernel
theorem dX10_member_4 : decode cX10_member 4 = .ok (.bipush 8, 2) := by decide +kernel
theorem dX10_member_6 : decode cX10_member 6 = .ok (.if_icmp .ne 6, 3) := by decide +kernel
theorem dX10_member_9 : decode cX10_member 9 = .ok (.bipush (-4), 2) := by decide +kernel
theorem dX10_member_11 : decode cX10_member 11 = .ok (.ireturn, 1) := by decide +kernel
theorem dX10_member_12 : decode cX10_member 12 = .ok (.iconst 0, 1) := by decide +kernel
theorem dX10_member_13 : decode cX10_member 13 = .ok (.istore_n 1, 1) := by decide +kernel
theorem dX10_member_14 : decode cX10_member 14 = .ok (.iload_n 1, 1) := by decide +kernel
theorem dX10_member_15 : decode cX10_member 15 = .ok (.iconst 3, 1) := by decide +kernel
theorem dX10_member_16 : decode cX10_member 16 = .ok (.if_icmp .ge 41, 3) := by decide +kernel
theorem dX10_member_19 : decode cX10_member 19 = .ok (.aload_n 0, 1) := by decide +kernel
theorem dX10_member_20 : decode cX10_member 20 = .ok (.bipush 8, 2) := by decide +kernel
theorem dX10_member_22 : decode cX10_member 22 = .ok (.iload_n 1, 1) := by decide +kernel
theorem dX10_member_23 : decode cX10_member 23 = .ok (.imul, 1) := by decide +kernel
theorem dX10_member_24 : decode cX10_member 24 = .ok (.aload_n 0, 1) := by decide +kernel
theorem dX10_member_25 : decode cX10_member 25 = .ok (.getfield 7, 3) := by decide +kernel
theorem dX10_member_28 : decode cX10_member 28 = .ok (.iadd, 1) := by decide +kernel
theorem dX10_member_29 : decode cX10_member 29 = .ok (.iconst 1, 1) := by decide +kernel
theorem dX10_member_30 : decode cX10_member 30 = .ok (.iconst (-1), 1) := by decide +kernel
theorem dX10_member_31 : decode cX10_member 31 = .ok (.iconst (-1), 1) := by decide +kernel
theorem dX10_member_32 : decode cX10_member 32 = .ok (.iconst 0, 1) := by decide +kernel
theorem dX10_member_33 : decode cX10_member 33 = .ok (.invokevirtual 175, 3) := by decide +kernel
theorem dX10_member_36 : decode cX10_member 36 = .ok (.aload_n 0, 1) := by decide +kernel
theorem dX10_member_37 : decode cX10_member 37 = .ok (.getfield 32, 3) := by decide +kernel
theorem dX10_member_40 : decode cX10_member 40 = .ok (.bipush 8, 2) := by decide +kernel
theorem dX10_member_42 : decode cX10_member 42 = .ok (.iload_n 1, 1) := by decide +kernel
theorem dX10_member_43 : decode cX10_member 43 = .ok (.imul, 1) := by decide +kernel
theorem dX10_member_44 : decode cX10_member 44 = .ok (.aload_n 0, 1) := by decide +kernel
theorem dX10_member_45 : decode cX10_member 45 = .ok (.getfield 7, 3) := by decide +kernel
theorem dX10_member_48 : decode cX10_member 48 = .ok (.iadd, 1) := by decide +kernel
theorem dX10_member_49 : decode cX10_member 49 = .ok (.iconst 5, 1) := by decide +kernel
theorem dX10_member_50 : decode cX10_member 50 = .ok (.iastore, 1) := by decide +kernel
theorem dX10_member_51 : decode cX10_member 51 = .ok (.iinc 1 1, 3) := by decide +kernel
theorem dX10_member_54 : decode cX10_member 54 = .ok (.goto (-40), 3) := by decide +kernel
theorem dX10_member_57 : decode cX10_member 57 = .ok (.aload_n 0, 1) := by decide +kernel
theorem dX10_member_58 : decode cX10_member 58 = .ok (.dup, 1) := by decide +kernel
theorem dX10_member_59 : decode cX10_member 59 = .ok (.getfield 7, 3) := by decide +kernel
theorem dX10_member_62 : decode cX10_member 62 = .ok (.iconst 1, 1) := by decide +kernel
theorem dX10_member_63 : decode cX10_member 63 = .ok (.iadd, 1) := by decide +kernel
theorem dX10_member_64 : decode cX10_member 64 = .ok (.putfield 7, 3) := by decide +kernel
theorem dX10_member_67 : decode cX10_member 67 = .ok (.aload_n 0, 1) := by decide +kernel
theorem dX10_member_68 : decode cX10_member 68 = .ok (.iconst 0, 1) := by decide +kernel
theorem dX10_member_69 : decode cX10_member 69 = .ok (.putfield 85, 3) := by decide +kernel
theorem dX10_member_72 : decode cX10_member 72 = .ok (.aload_n 0, 1) := by decide +kernel
theorem dX10_member_73 : decode cX10_member 73 = .ok (.getfield 7, 3) := by decide +kernel
theorem dX10_member_76 : decode cX10_member 76 = .ok (.iconst 1, 1) := by decide +kernel
theorem dX10_member_77 : decode cX10_member 77 = .ok (.isub, 1) := by decide +kernel
theorem dX10_member_78 : decode cX10_member 78 = .ok (.ireturn, 1) := by decide +kernel
theorem dX10_pass_0 : decode cX10_pass 0 = .ok (.aload_n 0, 1) := by decide +kernel
theorem dX10_pass_1 : decode cX10_pass 1 = .ok (.iload_n 1, 1) := by decide +kernel
theorem dX10_pass_2 : decode cX10_pass 2 = .ok (.iconst 1, 1) := by decide +kernel
theorem dX10_pass_3 : decode cX10_pass 3 = .ok (.bipush 20, 2) := by decide +kernel
theorem dX10_pass_5 : decode cX10_pass 5 = .ok (.invokevirtual 171, 3) := by decide +kernel
theorem dX10_pass_8 : decode cX10_pass 8 = .ok (.ifCond .eq 14, 3) := by decide +kernel
theorem dX10_pass_11 : decode cX10_pass 11 = .ok (.aload_n 0, 1) := by decide +kernel
theorem dX10_pass_12 : decode cX10_pass 12 = .ok (.getfield 13, 3) := by decide +kernel
theorem dX10_pass_15 : decode cX10_pass 15 = .ok (.iload_n 1, 1) := by decide +kernel
theorem dX10_pass_16 : decode cX10_pass 16 = .ok (.iadd, 1) := by decide +kernel
theorem dX10_pass_17 : decode cX10_pass 17 = .ok (.bipush 99, 2) := by decide +kernel
theorem dX10_pass_19 : decode cX10_pass 19 = .ok (.if_icmp .le 6, 3) := by decide +kernel
theorem dX10_pass_22 : decode cX10_pass 22 = .ok (.bipush (-2), 2) := by decide +kernel
theorem dX10_pass_24 : decode cX10_pass 24 = .ok (.ireturn, 1) := by decide +kernel
theorem dX10_pass_25 : decode cX10_pass 25 = .ok (.aload_n 0, 1) := by decide +kernel
theorem dX10_pass_26 : decode cX10_pass 26 = .ok (.dup, 1) := by decide +kernel
theorem dX10_pass_27 : decode cX10_pass 27 = .ok (.getfield 13, 3) := by decide +kernel
theorem dX10_pass_30 : decode cX10_pass 30 = .ok (.iload_n 1, 1) := by decide +kernel
theorem dX10_pass_31 : decode cX10_pass 31 = .ok (.iadd, 1) := by decide +kernel
theorem dX10_pass_32 : decode cX10_pass 32 = .ok (.putfield 13, 3) := by decide +kernel
theorem dX10_pass_35 : decode cX10_pass 35 = .ok (.aload_n 0, 1) := by decide +kernel
theorem dX10_pass_36 : decode cX10_pass 36 = .ok (.getfield 13, 3) := by decide +kernel
theorem dX10_pass_39 : decode cX10_pass 39 = .ok (.ireturn, 1) := by decide +kernel
theorem dX10_feed_0 : decode cX10_feed 0 = .ok (.aload_n 0, 1) := by decide +kernel
theorem dX10_feed_1 : decode cX10_feed 1 = .ok (.iload_n 2, 1) := by decide +kernel
theorem dX10_feed_2 : decode cX10_feed 2 = .ok (.iconst 0, 1) := by decide +kernel
theorem dX10_feed_3 : decode cX10_feed 3 = .ok (.iconst 4, 1) := by decide +kernel
theorem dX10_feed_4 : decode cX10_feed 4 = .ok (.invokevirtual 171, 3) := by decide +kernel
theorem dX10_feed_7 : decode cX10_feed 7 = .ok (.ifCond .ne 6, 3) := by decide +kernel
theorem dX10_feed_10 : decode cX10_feed 10 = .ok (.bipush (-2), 2) := by decide +kernel
theorem dX10_feed_12 : decode cX10_feed 12 = .ok (.ireturn, 1) := by decide +kernel
theorem dX10_feed_13 : decode cX10_feed 13 = .ok (.aload_n 0, 1) := by decide +kernel
theorem dX10_feed_14 : decode cX10_feed 14 = .ok (.getfield 42, 3) := by decide +kernel
theorem dX10_feed_17 : decode cX10_feed 17 = .ok (.iload_n 2, 1) := by decide +kernel
theorem dX10_feed_18 : decode cX10_feed 18 = .ok (.iadd, 1) := by decide +kernel
theorem dX10_feed_19 : decode cX10_feed 19 = .ok (.bipush 100, 2) := by decide +kernel
theorem dX10_feed_21 : decode cX10_feed 21 = .ok (.if_icmp .le 6, 3) := by decide +kernel
theorem dX10_feed_24 : decode cX10_feed 24 = .ok (.bipush (-4), 2) := by decide +kernel
theorem dX10_feed_26 : decode cX10_feed 26 = .ok (.ireturn, 1) := by decide +kernel
theorem dX10_feed_27 : decode cX10_feed 27 = .ok (.iload_n 2, 1) := by decide +kernel
theorem dX10_feed_28 : decode cX10_feed 28 = .ok (.iconst 1, 1) := by decide +kernel
theorem dX10_feed_29 : decode cX10_feed 29 = .ok (.isub, 1) := by decide +kernel
theorem dX10_feed_30 : decode cX10_feed 30 = .ok (.istore_n 3, 1) := by decide +kernel
theorem dX10_feed_31 : decode cX10_feed 31 = .ok (.iload_n 3, 1) := by decide +kernel
theorem dX10_feed_32 : decode cX10_feed 32 = .ok (.ifCond .lt 38, 3) := by decide +kernel
theorem dX10_feed_35 : decode cX10_feed 35 = .ok (.aload_n 0, 1) := by decide +kernel
theorem dX10_feed_36 : decode cX10_feed 36 = .ok (.getfield 45, 3) := by decide +kernel
theorem dX10_feed_39 : decode cX10_feed 39 = .ok (.bipush 100, 2) := by decide +kernel
theorem dX10_feed_41 : decode cX10_feed 41 = .ok (.aload_n 0, 1) := by decide +kernel
theorem dX10_feed_42 : decode cX10_feed 42 = .ok (.getfield 42, 3) := by decide +kernel
theorem dX10_feed_45 : decode cX10_feed 45 = .ok (.iadd, 1) := by decide +kernel
theorem dX10_feed_46 : decode cX10_feed 46 = .ok (.iload_n 1, 1) := by decide +kernel
theorem dX10_feed_47 : decode cX10_feed 47 = .ok (.bipush 8, 2) := by decide +kernel
theorem dX10_feed_49 : decode cX10_feed 49 = .ok (.iload_n 3, 1) := by decide +kernel
theorem dX10_feed_50 : decode cX10_feed 50 = .ok (.imul, 1) := by decide +kernel
theorem dX10_feed_51 : decode cX10_feed 51 = .ok (.ishr, 1) := by decide +kernel
theorem dX10_feed_52 : decode cX10_feed 52 = .ok (.i2b, 1) := by decide +kernel
theorem dX10_feed_53 : decode cX10_feed 53 = .ok (.iastore, 1) := by decide +kernel
theorem dX10_feed_54 : decode cX10_feed 54 = .ok (.aload_n 0, 1) := by decide +kernel
theorem dX10_feed_55 : decode cX10_feed 55 = .ok (.dup, 1) := by decide +kernel
theorem dX10_feed_56 : decode cX10_feed 56 = .ok (.getfield 42, 3) := by decide +kernel
theorem dX10_feed_59 : decode cX10_feed 59 = .ok (.iconst 1, 1) := by decide +kernel
theorem dX10_feed_60 : decode cX10_feed 60 = .ok (.iadd, 1) := by decide +kernel
theorem dX10_feed_61 : decode cX10_feed 61 = .ok (.putfield 42, 3) := by decide +kernel
theorem dX10_feed_64 : decode cX10_feed 64 = .ok (.iinc 3 (-1), 3) := by decide +kernel
theorem dX10_feed_67 : decode cX10_feed 67 = .ok (.goto (-36), 3) := by decide +kernel
theorem dX10_feed_70 : decode cX10_feed 70 = .ok (.aload_n 0, 1) := by decide +kernel
theorem dX10_feed_71 : decode cX10_feed 71 = .ok (.getfield 42, 3) := by decide +kernel
theorem dX10_feed_74 : decode cX10_feed 74 = .ok (.ireturn, 1) := by decide +kernel
theorem dX10_isDigit_0 : decode cX10_isDigit 0 = .ok (.aload_n 0, 1) := by decide +kernel
theorem dX10_isDigit_1 : decode cX10_isDigit 1 = .ok (.aload_n 0, 1) := by decide +kernel
theorem dX10_isDigit_2 : decode cX10_isDigit 2 = .ok (.invokevirtual 186, 3) := by decide +kernel
theorem dX10_isDigit_5 : decode cX10_isDigit 5 = .ok (.bipush 48, 2) := by decide +kernel
theorem dX10_isDigit_7 : decode cX10_isDigit 7 = .ok (.bipush 57, 2) := by decide +kernel
theorem dX10_isDigit_9 : decode cX10_isDigit 9 = .ok (.invokevirtual 171, 3) := by decide +kernel
theorem dX10_isDigit_12 : decode cX10_isDigit 12 = .ok (.ireturn, 1) := by decide +kernel
theorem dX10_takes_0 : decode cX10_takes 0 = .ok (.aload_n 0, 1) := by decide +kernel
theorem dX10_takes_1 : decode cX10_takes 1 = .ok (.invokevirtual 186, 3) := by decide +kernel
theorem dX10_takes_4 : decode cX10_takes 4 = .ok (.iload_n 1, 1) := by decide +kernel
theorem dX10_takes_5 : decode cX10_takes 5 = .ok (.if_icmp .eq 5, 3) := by decide +kernel
theorem dX10_takes_8 : decode cX10_takes 8 = .ok (.iconst 0, 1) := by decide +kernel
theorem dX10_takes_9 : decode cX10_takes 9 = .ok (.ireturn, 1) := by decide +kernel
theorem dX10_takes_10 : decode cX10_takes 10 = .ok (.aload_n 0, 1) := by decide +kernel
theorem dX10_takes_11 : decode cX10_takes 11 = .ok (.dup, 1) := by decide +kernel
theorem dX10_takes_12 : decode cX10_takes 12 = .ok (.getfield 60, 3) := by decide +kernel
theorem dX10_takes_15 : decode cX10_takes 15 = .ok (.iconst 1, 1) := by decide +kernel
theorem dX10_takes_16 : decode cX10_takes 16 = .ok (.iadd, 1) := by decide +kernel
theorem dX10_takes_17 : decode cX10_takes 17 = .ok (.putfield 60, 3) := by decide +kernel
theorem dX10_takes_20 : decode cX10_takes 20 = .ok (.iconst 1, 1) := by decide +kernel
theorem dX10_takes_21 : decode cX10_takes 21 = .ok (.ireturn, 1) := by decide +kernel
theorem dX10_lostNow_0 : decode cX10_lostNow 0 = .ok (.iconst 0, 1) := by decide +kernel
theorem dX10_lostNow_1 : decode cX10_lostNow 1 = .ok (.istore_n 1, 1) := by decide +kernel
theorem dX10_lostNow_2 : decode cX10_lostNow 2 = .ok (.iconst 1, 1) := by decide +kernel
theorem dX10_lostNow_3 : decode cX10_lostNow 3 = .ok (.istore_n 2, 1) := by decide +kernel
theorem dX10_lostNow_4 : decode cX10_lostNow 4 = .ok (.iload_n 2, 1) := by decide +kernel
theorem dX10_lostNow_5 : decode cX10_lostNow 5 = .ok (.ifCond .eq 128, 3) := by decide +kernel
theorem dX10_lostNow_8 : decode cX10_lostNow 8 = .ok (.iconst 0, 1) := by decide +kernel
theorem dX10_lostNow_9 : decode cX10_lostNow 9 = .ok (.istore_n 2, 1) := by decide +kernel
theorem dX10_lostNow_10 : decode cX10_lostNow 10 = .ok (.iconst 0, 1) := by decide +kernel
theorem dX10_lostNow_11 : decode cX10_lostNow 11 = .ok (.istore_n 3, 1) := by decide +kernel
theorem dX10_lostNow_12 : decode cX10_lostNow 12 = .ok (.iload_n 3, 1) := by decide +kernel
theorem dX10_lostNow_13 : decode cX10_lostNow 13 = .ok (.aload_n 0, 1) := by decide +kernel
theorem dX10_lostNow_14 : decode cX10_lostNow 14 = .ok (.getfield 7, 3) := by decide +kernel
theorem dX10_lostNow_17 : decode cX10_lostNow 17 = .ok (.if_icmp .ge 113, 3) := by decide +kernel
theorem dX10_lostNow_20 : decode cX10_lostNow 20 = .ok (.aload_n 0, 1) := by decide +kernel
theorem dX10_lostNow_21 : decode cX10_lostNow 21 = .ok (.iload_n 1, 1) := by decide +kernel
theorem dX10_lostNow_22 : decode cX10_lostNow 22 = .ok (.iload_n 3, 1) := by decide +kernel
theorem dX10_lostNow_23 : decode cX10_lostNow 23 = .ok (.invokevirtual 241, 3) := by decide +kernel
theorem dX10_lostNow_26 : decode cX10_lostNow 26 = .ok (.ifCond .eq 6, 3) := by decide +kernel
theorem dX10_lostNow_29 : decode cX10_lostNow 29 = .ok (.goto 95, 3) := by decide +kernel
theorem dX10_lostNow_32 : decode cX10_lostNow 32 = .ok (.aload_n 0, 1) := by decide +kernel
theorem dX10_lostNow_33 : decode cX10_lostNow 33 = .ok (.getfield 115, 3) := by decide +kernel
theorem dX10_lostNow_36 : decode cX10_lostNow 36 = .ok (.bipush 8, 2) := by decide +kernel
theorem dX10_lostNow_38 : decode cX10_lostNow 38 = .ok (.iload_n 3, 1) := by decide +kernel
theorem dX10_lostNow_39 : decode cX10_lostNow 39 = .ok (.imul, 1) := by decide +kernel
theorem dX10_lostNow_40 : decode cX10_lostNow 40 = .ok (.iload_n 3, 1) := by decide +kernel
theorem dX10_lostNow_41 : decode cX10_lostNow 41 = .ok (.iadd, 1) := by decide +kernel
theorem dX10_lostNow_42 : decode cX10_lostNow 42 = .ok (.iaload, 1) := by decide +kernel
theorem dX10_lostNow_43 : decode cX10_lostNow 43 = .ok (.ifCond .le 7, 3) := by decide +kernel
theorem dX10_lostNow_46 : decode cX10_lostNow 46 = .ok (.iconst 1, 1) := by decide +kernel
theorem dX10_lostNow_47 : decode cX10_lostNow 47 = .ok (.goto 4, 3) := by decide +kernel
theorem dX10_lostNow_50 : decode cX10_lostNow 50 = .ok (.iconst 0, 1) := by decide +kernel
theorem dX10_lostNow_51 : decode cX10_lostNow 51 = .ok (.istore 4, 2) := by decide +kernel
theorem dX10_lostNow_53 : decode cX10_lostNow 53 = .ok (.iconst 0, 1) := by decide +kernel
theorem dX10_lostNow_54 : decode cX10_lostNow 54 = .ok (.istore 5, 2) := by decide +kernel
theorem dX10_lostNow_56 : decode cX10_lostNow 56 = .ok (.iload 5, 2) := by decide +kernel
theorem dX10_lostNow_58 : decode cX10_lostNow 58 = .ok (.aload_n 0, 1) := by decide +kernel
theorem dX10_lostNow_59 : decode cX10_lostNow 59 = .ok (.getfield 7, 3) := by decide +kernel
theorem dX10_lostNow_62 : decode cX10_lostNow 62 = .ok (.if_icmp .ge 46, 3) := by decide +kernel
theorem dX10_lostNow_65 : decode cX10_lostNow 65 = .ok (.iload 4, 2) := by decide +kernel
theorem dX10_lostNow_67 : decode cX10_lostNow 67 = .ok (.ifCond .ne 28, 3) := by decide +kernel
theorem dX10_lostNow_70 : decode cX10_lostNow 70 = .ok (.aload_n 0, 1) := by decide +kernel
theorem dX10_lostNow_71 : decode cX10_lostNow 71 = .ok (.getfield 115, 3) := by decide +kernel
theorem dX10_lostNow_74 : decode cX10_lostNow 74 = .ok (.bipush 8, 2) := by decide +kernel
theorem dX10_lostNow_76 : decode cX10_lostNow 76 = .ok (.iload_n 3, 1) := by decide +kernel
theorem dX10_lostNow_77 : decode cX10_lostNow 77 = .ok (.imul, 1) := by decide +kernel
theorem dX10_lostNow_78 : decode cX10_lostNow 78 = .ok (.iload 5, 2) := by decide +kernel
theorem dX10_lostNow_80 : decode cX10_lostNow 80 = .ok (.iadd, 1) := by decide +kernel
theorem dX10_lostNow_81 : decode cX10_lostNow 81 = .ok (.iaload, 1) := by decide +kernel
theorem dX10_lostNow_82 : decode cX10_lostNow 82 = .ok (.ifCond .le 17, 3) := by decide +kernel
theorem dX10_lostNow_85 : decode cX10_lostNow 85 = .ok (.aload_n 0, 1) := by decide +kernel
theorem dX10_lostNow_86 : decode cX10_lostNow 86 = .ok (.iload_n 1, 1) := by decide +kernel
theorem dX10_lostNow_87 : decode cX10_lostNow 87 = .ok (.iload 5, 2) := by decide +kernel
theorem dX10_lostNow_89 : decode cX10_lostNow 89 = .ok (.invokevirtual 241, 3) := by decide +kernel
theorem dX10_lostNow_92 : decode cX10_lostNow 92 = .ok (.ifCond .eq 7, 3) := by decide +kernel
theorem dX10_lostNow_95 : decode cX10_lostNow 95 = .ok (.iconst 1, 1) := by decide +kernel
theorem dX10_lostNow_96 : decode cX10_lostNow 96 = .ok (.goto 4, 3) := by decide +kernel
theorem dX10_lostNow_99 : decode cX10_lostNow 99 = .ok (.iconst 0, 1) := by decide +kernel
theorem dX10_lostNow_100 : decode cX10_lostNow 100 = .ok (.istore 4, 2) := by decide +kernel
theorem dX10_lostNow_102 : decode cX10_lostNow 102 = .ok (.iinc 5 1, 3) := by decide +kernel
theorem dX10_lostNow_105 : decode cX10_lostNow 105 = .ok (.goto (-49), 3) := by decide +kernel
theorem dX10_lostNow_108 : decode cX10_lostNow 108 = .ok (.iload 4, 2) := by decide +kernel
theorem dX10_lostNow_110 : decode cX10_lostNow 110 = .ok (.ifCond .ne 6, 3) := by decide +kernel
theorem dX10_lostNow_113 : decode cX10_lostNow 113 = .ok (.goto 11, 3) := by decide +kernel
theorem dX10_lostNow_116 : decode cX10_lostNow 116 = .ok (.iload_n 1, 1) := by decide +kernel
theorem dX10_lostNow_117 : decode cX10_lostNow 117 = .ok (.iconst 1, 1) := by decide +kernel
theorem dX10_lostNow_118 : decode cX10_lostNow 118 = .ok (.iload_n 3, 1) := by decide +kernel
theorem dX10_lostNow_119 : decode cX10_lostNow 119 = .ok (.ishl, 1) := by decide +kernel
theorem dX10_lostNow_120 : decode cX10_lostNow 120 = .ok (.ior, 1) := by decide +kernel
theorem dX10_lostNow_121 : decode cX10_lostNow 121 = .ok (.istore_n 1, 1) := by decide +kernel
theorem dX10_lostNow_122 : decode cX10_lostNow 122 = .ok (.iconst 1, 1) := by decide +kernel
theorem dX10_lostNow_123 : decode cX10_lostNow 123 = .ok (.istore_n 2, 1) := by decide +kernel
theorem dX10_lostNow_124 : decode cX10_lostNow 124 = .ok (.iinc 3 1, 3) := by decide +kernel
theorem dX10_lostNow_127 : decode cX10_lostNow 127 = .ok (.goto (-115), 3) := by decide +kernel
theorem dX10_lostNow_130 : decode cX10_lostNow 130 = .ok (.goto (-126), 3) := by decide +kernel
theorem dX10_lostNow_133 : decode cX10_lostNow 133 = .ok (.iconst 1, 1) := by decide +kernel
theorem dX10_lostNow_134 : decode cX10_lostNow 134 = .ok (.aload_n 0, 1) := by decide +kernel
theorem dX10_lostNow_135 : decode cX10_lostNow 135 = .ok (.getfield 7, 3) := by decide +kernel
theorem dX10_lostNow_138 : decode cX10_lostNow 138 = .ok (.ishl, 1) := by decide +kernel
theorem dX10_lostNow_139 : decode cX10_lostNow 139 = .ok (.iconst 1, 1) := by decide +kernel
theorem dX10_lostNow_140 : decode cX10_lostNow 140 = .ok (.isub, 1) := by decide +kernel
theorem dX10_lostNow_141 : decode cX10_lostNow 141 = .ok (.iload_n 1, 1) := by decide +kernel
theorem dX10_lostNow_142 : decode cX10_lostNow 142 = .ok (.iconst (-1), 1) := by decide +kernel
theorem dX10_lostNow_143 : decode cX10_lostNow 143 = .ok (.ixor, 1) := by decide +kernel
theorem dX10_lostNow_144 : decode cX10_lostNow 144 = .ok (.iand, 1) := by decide +kernel
theorem dX10_lostNow_145 : decode cX10_lostNow 145 = .ok (.ireturn, 1) := by decide +kernel
theorem dX10_part_0 : decode cX10_part 0 = .ok (.aload_n 0, 1) := by decide +kernel
theorem dX10_part_1 : decode cX10_part 1 = .ok (.lload_n 1, 1) := by decide +kernel
theorem dX10_part_2 : decode cX10_part 2 = .ok (.lload_n 3, 1) := by decide +kernel
theorem dX10_part_3 : decode cX10_part 3 = .ok (.invokevirtual 275, 3) := by decide +kernel
theorem dX10_part_6 : decode cX10_part 6 = .ok (.lstore 6, 2) := by decide +kernel
theorem dX10_part_8 : decode cX10_part 8 = .ok (.iload 5, 2) := by decide +kernel
theorem dX10_part_10 : decode cX10_part 10 = .ok (.ifCond .ne 10, 3) := by decide +kernel
theorem dX10_part_13 : decode cX10_part 13 = .ok (.lload_n 1, 1) := by decide +kernel
theorem dX10_part_14 : decode cX10_part 14 = .ok (.lload 6, 2) := by decide +kernel
theorem dX10_part_16 : decode cX10_part 16 = .ok (.ldiv, 1) := by decide +kernel
theorem dX10_part_17 : decode cX10_part 17 = .ok (.goto 7, 3) := by decide +kernel
theorem dX10_part_20 : decode cX10_part 20 = .ok (.lload_n 3, 1) := by decide +kernel
theorem dX10_part_21 : decode cX10_part 21 = .ok (.lload 6, 2) := by decide +kernel
theorem dX10_part_23 : decode cX10_part 23 = .ok (.ldiv, 1) := by decide +kernel
theorem dX10_part_24 : decode cX10_part 24 = .ok (.lreturn, 1) := by decide +kernel
set_option maxHeartbeats 4000000 in
set_option maxRecDepth 100000 in
theorem B_X10_in {l : Launch} {e : hv_Ev}  (x1 : Int32) (x2 : Int32) (x3 : Int32) {σ : hv_S} {Φ : Int32 → hv_S → Prop} (h : ((x1 < x2 → Φ 0 σ) ∧ (¬ x1 < x2 → ((x3 < x1 → Φ 0 σ) ∧ (¬ x3 < x1 → Φ 1 σ))))) : hv_CI l (hv_e2 e) 0 m_X10_in [.ref 60, .int x1, .int x2, .int x3] σ Φ := by
  refine hv_entI (by decide) (Nat.le_of_ble_eq_true rfl) ?_
  show hv_TW l (hv_e2 e) (hv_rm 0) 0 0 m_X10_in hv_no (hv_ZI (hv_e2 e) Φ) 0 [(0, .ref 60), (1, .int x1), (2, .int x2), (3, .int x3)] [] σ
  refine T_iload_n dX10_in_0 rfl 1 rfl ?_
  refine T_iload_n dX10_in_1 rfl 2 rfl ?_
  refine T_icmp_lt (tgt := 14) dX10_in_2 (by decide) (fun c1 => ?_) (fun c1 => ?_)
  · refine T_iconst (v := 0) dX10_in_14 (by decide) ?_
    exact T_zret dX10_in_15 rfl (by decide) (h.1 c1)
  · refine T_iload_n dX10_in_5 rfl 1 rfl ?_
    refine T_iload_n dX10_in_6 rfl 3 rfl ?_
    refine T_icmp_gt (tgt := 14) dX10_in_7 (by decide) (fun c2 => ?_) (fun c2 => ?_)
    · refine T_iconst (v := 0) dX10_in_14 (by decide) ?_
      exact T_zret dX10_in_15 rfl (by decide) ((h.2 c1).1 c2)
    · refine T_iconst (v := 1) dX10_in_10 (by decide) ?_
      refine T_goto (tgt := 15) dX10_in_11 (by decide) ?_
      exact T_zret dX10_in_15 rfl (by decide) ((h.2 c1).2 c2)

def L_X10_ones_4 (l : Launch) (e : hv_Ev)  (Φ : Int32 → hv_S → Prop) (x2 : Int32) (x3 : Int32) (σ : hv_S) : Prop := hv_TW l (hv_e2 e) (hv_rm 0) 0 0 m_X10_ones hv_no (hv_ZI (hv_e2 e) Φ) 4 [(2, .int x2), (3, .int x3)] [] σ
set_option maxHeartbeats 4000000 in
set_option maxRecDepth 100000 in
theorem B_X10_ones_4 {l : Launch} {e : hv_Ev}  (x2 : Int32) (x3 : Int32) {σ : hv_S} {Φ : Int32 → hv_S → Prop} (h : ((x3 = 0 → Φ x2 σ) ∧ (¬ x3 = 0 → L_X10_ones_4 l e Φ (x2 + 1) (x3 &&& (x3 - 1)) σ))) : L_X10_ones_4 l e Φ x2 x3 σ := by
  show hv_TW l (hv_e2 e) (hv_rm 0) 0 0 m_X10_ones hv_no (hv_ZI (hv_e2 e) Φ) 4 [(2, .int x2), (3, .int x3)] [] σ
  refine T_iload_n dX10_ones_4 rfl 1 rfl ?_
  refine T_if_eq (tgt := 20) dX10_ones_5 (by decide) (fun c1 => ?_) (fun c1 => ?_)
  · refine T_iload_n dX10_ones_20 rfl 0 rfl ?_
    exact T_iret dX10_ones_21 rfl (h.1 c1)
  · refine T_iinc (v := (x2 + 1)) dX10_ones_8 0 rfl rfl (by decide) rfl ?_
    refine T_iload_n dX10_ones_11 rfl 1 rfl ?_
    refine T_iload_n dX10_ones_12 rfl 1 rfl ?_
    refine T_iconst (v := 1) dX10_ones_13 (by decide) ?_
    refine T_isub dX10_ones_14 ?_
    refine T_iand dX10_ones_15 ?_
    refine T_istore_n dX10_ones_16 rfl (by decide) rfl ?_
    refine T_goto (tgt := 4) dX10_ones_17 (by decide) ?_
    exact T_sub [1, 0] rfl (h.2 c1)
set_option maxHeartbeats 4000000 in
set_option maxRecDepth 100000 in
theorem B_X10_ones {l : Launch} {e : hv_Ev}  (x1 : Int32) {σ : hv_S} {Φ : Int32 → hv_S → Prop} (h : L_X10_ones_4 l e Φ 0 x1 σ) : hv_CI l (hv_e2 e) 0 m_X10_ones [.ref 60, .int x1] σ Φ := by
  refine hv_entI (by decide) (Nat.le_of_ble_eq_true rfl) ?_
  show hv_TW l (hv_e2 e) (hv_rm 0) 0 0 m_X10_ones hv_no (hv_ZI (hv_e2 e) Φ) 0 [(0, .ref 60), (1, .int x1)] [] σ
  refine T_iconst (v := 0) dX10_ones_0 (by decide) ?_
  refine T_istore_n dX10_ones_1 rfl (by decide) rfl ?_
  refine T_iload_n dX10_ones_2 rfl 2 rfl ?_
  refine T_istore_n dX10_ones_3 rfl (by decide) rfl ?_
  exact T_sub [1, 0] rfl h

set_option maxHeartbeats 4000000 in
set_option maxRecDepth 100000 in
theorem B_X10_has {l : Launch} {e : hv_Ev}  (x1 : Int32) (x2 : Int32) {σ : hv_S} {Φ : Int32 → hv_S → Prop} (h : ((((x1 >>> (x2 &&& 31)) &&& 1) ≠ 1 → Φ 0 σ) ∧ (((x1 >>> (x2 &&& 31)) &&& 1) = 1 → Φ 1 σ))) : hv_CI l (hv_e2 e) 0 m_X10_has [.ref 60, .int x1, .int x2] σ Φ := by
  refine hv_entI (by decide) (Nat.le_of_ble_eq_true rfl) ?_
  show hv_TW l (hv_e2 e) (hv_rm 0) 0 0 m_X10_has hv_no (hv_ZI (hv_e2 e) Φ) 0 [(0, .ref 60), (1, .int x1), (2, .int x2)] [] σ
  refine T_iload_n dX10_has_0 rfl 1 rfl ?_
  refine T_iload_n dX10_has_1 rfl 2 rfl ?_
  refine T_ishr dX10_has_2 ?_
  refine T_iconst (v := 1) dX10_has_3 (by decide) ?_
  refine T_iand dX10_has_4 ?_
  refine T_iconst (v := 1) dX10_has_5 (by decide) ?_
  refine T_icmp_ne (tgt := 13) dX10_has_6 (by decide) (fun c1 => ?_) (fun c1 => ?_)
  · refine T_iconst (v := 0) dX10_has_13 (by decide) ?_
    exact T_zret dX10_has_14 rfl (by decide) (h.1 c1)
  · refine T_iconst (v := 1) dX10_has_9 (by decide) ?_
    refine T_goto (tgt := 14) dX10_has_10 (by decide) ?_
    exact T_zret dX10_has_14 rfl (by decide) (h.2 c1)

set_option maxHeartbeats 4000000 in
set_option maxRecDepth 100000 in
theorem B_X10_put {l : Launch} {e : hv_Ev}  (x1 : Int32) (x2 : Int32) (x3 : Int32) (x4 : Int32) (x5 : Int32) {σ : hv_S} {Φ : hv_S → Prop} (h : (vp_in x1 24 ∧ (vp_in x1 24 ∧ (vp_in x1 24 ∧ (vp_in x1 24 ∧ (vp_in x1 24 ∧ Φ (hv_ui (hv_ui (hv_ui (hv_ui (hv_ui σ 61 x1.toNatClampNeg x2) 62 x1.toNatClampNeg 100) 63 x1.toNatClampNeg x3) 64 x1.toNatClampNeg x4) 65 x1.toNatClampNeg x5))))))) : hv_CV l (hv_e2 e) 0 m_X10_put [.ref 60, .int x1, .int x2, .int x3, .int x4, .int x5] σ Φ := by
  refine hv_entV (by decide) (Nat.le_of_ble_eq_true rfl) ?_
  show hv_TW l (hv_e2 e) (hv_rm 0) 0 0 m_X10_put hv_no (hv_ZV (hv_e2 e) Φ) 0 [(0, .ref 60), (1, .int x1), (2, .int x2), (3, .int x3), (4, .int x4), (5, .int x5)] [] σ
  refine T_aload_n dX10_put_0 rfl 0 rfl ?_
  refine T_get (v := .ref 61) dX10_put_1 fl_X10_16 hp_60 hs_60 rfl rfl ?_
  refine T_iload_n dX10_put_4 rfl 1 rfl ?_
  refine T_iload_n dX10_put_5 rfl 2 rfl ?_
  refine T_iast dX10_put_6 hp_61 hs_61 h.1 ?_
  refine T_aload_n dX10_put_7 rfl 0 rfl ?_
  refine T_get (v := .ref 62) dX10_put_8 fl_X10_20 hp_60 hs_60 rfl rfl ?_
  refine T_iload_n dX10_put_11 rfl 1 rfl ?_
  refine T_bipush (v := 100) dX10_put_12 (by decide) ?_
  refine T_iast dX10_put_14 hp_62 hs_62 h.2.1 ?_
  refine T_aload_n dX10_put_15 rfl 0 rfl ?_
  refine T_get (v := .ref 63) dX10_put_16 fl_X10_23 hp_60 hs_60 rfl rfl ?_
  refine T_iload_n dX10_put_19 rfl 1 rfl ?_
  refine T_iload_n dX10_put_20 rfl 3 rfl ?_
  refine T_iast dX10_put_21 hp_63 hs_63 h.2.2.1 ?_
  refine T_aload_n dX10_put_22 rfl 0 rfl ?_
  refine T_get (v := .ref 64) dX10_put_23 fl_X10_26 hp_60 hs_60 rfl rfl ?_
  refine T_iload_n dX10_put_26 rfl 1 rfl ?_
  refine T_iload dX10_put_27 4 rfl ?_
  refine T_iast dX10_put_29 hp_64 hs_64 h.2.2.2.1 ?_
  refine T_aload_n dX10_put_30 rfl 0 rfl ?_
  refine T_get (v := .ref 65) dX10_put_31 fl_X10_29 hp_60 hs_60 rfl rfl ?_
  refine T_iload_n dX10_put_34 rfl 1 rfl ?_
  refine T_iload dX10_put_35 5 rfl ?_
  refine T_iast dX10_put_37 hp_65 hs_65 h.2.2.2.2.1 ?_
  exact T_vret dX10_put_38 rfl h.2.2.2.2.2

set_option maxHeartbeats 4000000 in
set_option maxRecDepth 100000 in
theorem B_X10_next {l : Launch} {e : hv_Ev}   {σ : hv_S} {Φ : Int32 → hv_S → Prop} (h : (((σ.1 60 15) ≤ (σ.1 60 16) → Φ (-1) σ) ∧ (¬ (σ.1 60 15) ≤ (σ.1 60 16) → (vp_in ((σ.1 60 14) + (σ.1 60 16)) 200 ∧ Φ (σ.1 68 (((σ.1 60 14) + (σ.1 60 16)).toNatClampNeg)) σ)))) : hv_CI l (hv_e2 e) 0 m_X10_next [.ref 60] σ Φ := by
  refine hv_entI (by decide) (Nat.le_of_ble_eq_true rfl) ?_
  show hv_TW l (hv_e2 e) (hv_rm 0) 0 0 m_X10_next hv_no (hv_ZI (hv_e2 e) Φ) 0 [(0, .ref 60)] [] σ
  refine T_aload_n dX10_next_0 rfl 0 rfl ?_
  refine T_get (v := .int (σ.1 60 16)) dX10_next_1 fl_X10_60 hp_60 hs_60 rfl rfl ?_
  refine T_aload_n dX10_next_4 rfl 0 rfl ?_
  refine T_get (v := .int (σ.1 60 15)) dX10_next_5 fl_X10_57 hp_60 hs_60 rfl rfl ?_
  refine T_icmp_ge (tgt := 28) dX10_next_8 (by decide) (fun c1 => ?_) (fun c1 => ?_)
  · refine T_iconst (v := (-1)) dX10_next_28 (by decide) ?_
    exact T_iret dX10_next_29 rfl (h.1 c1)
  · refine T_aload_n dX10_next_11 rfl 0 rfl ?_
    refine T_get (v := .ref 68) dX10_next_12 fl_X10_45 hp_60 hs_60 rfl rfl ?_
    refine T_aload_n dX10_next_15 rfl 0 rfl ?_
    refine T_get (v := .int (σ.1 60 14)) dX10_next_16 fl_X10_54 hp_60 hs_60 rfl rfl ?_
    refine T_aload_n dX10_next_19 rfl 0 rfl ?_
    refine T_get (v := .int (σ.1 60 16)) dX10_next_20 fl_X10_60 hp_60 hs_60 rfl rfl ?_
    refine T_iadd dX10_next_23 ?_
    refine T_iald dX10_next_24 hp_68 hs_68 (h.2 c1).1 ?_
    refine T_goto (tgt := 29) dX10_next_25 (by decide) ?_
    exact T_iret dX10_next_29 rfl ((h.2 c1).2)

def L_X10_push_2 (l : Launch) (e : hv_Ev)  (Φ : hv_S → Prop) (x2 : Int32) (σ : hv_S) : Prop := hv_TW l (hv_e2 e) (hv_rm 0) 0 0 m_X10_push hv_no (hv_ZV (hv_e2 e) Φ) 2 [(0, .ref 60), (2, .int x2)] [] σ
set_option maxHeartbeats 4000000 in
set_option maxRecDepth 100000 in
theorem B_X10_push_2 {l : Launch} {e : hv_Ev}  (x2 : Int32) {σ : hv_S} {Φ : hv_S → Prop} (h : (((σ.1 60 27) ≤ 0 → (vp_in (σ.1 60 28) 101 ∧ (x2 = 0 ∨ x2 = 1) ∧ Φ (hv_ui (hv_ui σ 73 ((σ.1 60 28).toNatClampNeg) x2) 60 28 ((σ.1 60 28) + 1)))) ∧ (¬ (σ.1 60 27) ≤ 0 → (vp_in ((σ.1 60 27) - 1) 101 ∧ (((σ.1 72 (((σ.1 60 27) - 1).toNatClampNeg)) ≠ 33 → (vp_in (σ.1 60 28) 101 ∧ (x2 = 0 ∨ x2 = 1) ∧ Φ (hv_ui (hv_ui σ 73 ((σ.1 60 28).toNatClampNeg) x2) 60 28 ((σ.1 60 28) + 1)))) ∧ ((σ.1 72 (((σ.1 60 27) - 1).toNatClampNeg)) = 33 → ((x2 ≠ 0 → L_X10_push_2 l e Φ 0 (hv_ui (hv_ui σ 60 27 ((σ.1 60 27) - 1)) 60 29 ((σ.1 60 29) - 1))) ∧ (x2 = 0 → L_X10_push_2 l e Φ 1 (hv_ui (hv_ui σ 60 27 ((σ.1 60 27) - 1)) 60 29 ((σ.1 60 29) - 1)))))))))) : L_X10_push_2 l e Φ x2 σ := by
  show hv_TW l (hv_e2 e) (hv_rm 0) 0 0 m_X10_push hv_no (hv_ZV (hv_e2 e) Φ) 2 [(0, .ref 60), (2, .int x2)] [] σ
  refine T_aload_n dX10_push_2 rfl 0 rfl ?_
  refine T_get (v := .int (σ.1 60 27)) dX10_push_3 fl_X10_94 hp_60 hs_60 rfl rfl ?_
  refine T_if_le (tgt := 58) dX10_push_6 (by decide) (fun c1 => ?_) (fun c1 => ?_)
  · refine T_aload_n dX10_push_58 rfl 0 rfl ?_
    refine T_get (v := .ref 73) dX10_push_59 fl_X10_91 hp_60 hs_60 rfl rfl ?_
    refine T_aload_n dX10_push_62 rfl 0 rfl ?_
    refine T_get (v := .int (σ.1 60 28)) dX10_push_63 fl_X10_97 hp_60 hs_60 rfl rfl ?_
    refine T_iload_n dX10_push_66 rfl 1 rfl ?_
    refine T_zast dX10_push_67 hp_73 hs_73 (h.1 c1).1 (h.1 c1).2.1 ?_
    refine T_aload_n dX10_push_68 rfl 0 rfl ?_
    refine T_dup dX10_push_69 rfl ?_
    refine T_get (v := .int (σ.1 60 28)) dX10_push_70 fl_X10_97 hp_60 hs_60 rfl rfl ?_
    refine T_iconst (v := 1) dX10_push_73 (by decide) ?_
    refine T_iadd dX10_push_74 ?_
    refine T_puti dX10_push_75 fl_X10_97 pf_X10_28 hp_60 hs_60 rfl ?_
    exact T_vret dX10_push_78 rfl ((h.1 c1).2.2)
  · refine T_aload_n dX10_push_9 rfl 0 rfl ?_
    refine T_get (v := .ref 72) dX10_push_10 fl_X10_88 hp_60 hs_60 rfl rfl ?_
    refine T_aload_n dX10_push_13 rfl 0 rfl ?_
    refine T_get (v := .int (σ.1 60 27)) dX10_push_14 fl_X10_94 hp_60 hs_60 rfl rfl ?_
    refine T_iconst (v := 1) dX10_push_17 (by decide) ?_
    refine T_isub dX10_push_18 ?_
    refine T_iald dX10_push_19 hp_72 hs_72 (h.2 c1).1 ?_
    refine T_bipush (v := 33) dX10_push_20 (by decide) ?_
    refine T_icmp_ne (tgt := 58) dX10_push_22 (by decide) (fun c2 => ?_) (fun c2 => ?_)
    · refine T_aload_n dX10_push_58 rfl 0 rfl ?_
      refine T_get (v := .ref 73) dX10_push_59 fl_X10_91 hp_60 hs_60 rfl rfl ?_
      refine T_aload_n dX10_push_62 rfl 0 rfl ?_
      refine T_get (v := .int (σ.1 60 28)) dX10_push_63 fl_X10_97 hp_60 hs_60 rfl rfl ?_
      refine T_iload_n dX10_push_66 rfl 1 rfl ?_
      refine T_zast dX10_push_67 hp_73 hs_73 ((h.2 c1).2.1 c2).1 ((h.2 c1).2.1 c2).2.1 ?_
      refine T_aload_n dX10_push_68 rfl 0 rfl ?_
      refine T_dup dX10_push_69 rfl ?_
      refine T_get (v := .int (σ.1 60 28)) dX10_push_70 fl_X10_97 hp_60 hs_60 rfl rfl ?_
      refine T_iconst (v := 1) dX10_push_73 (by decide) ?_
      refine T_iadd dX10_push_74 ?_
      refine T_puti dX10_push_75 fl_X10_97 pf_X10_28 hp_60 hs_60 rfl ?_
      exact T_vret dX10_push_78 rfl (((h.2 c1).2.1 c2).2.2)
    · refine T_iload_n dX10_push_25 rfl 1 rfl ?_
      refine T_if_ne (tgt := 33) dX10_push_26 (by decide) (fun c3 => ?_) (fun c3 => ?_)
      · refine T_iconst (v := 0) dX10_push_33 (by decide) ?_
        refine T_istore_n dX10_push_34 rfl (by decide) rfl ?_
        refine T_aload_n dX10_push_35 rfl 1 rfl ?_
        refine T_dup dX10_push_36 rfl ?_
        refine T_get (v := .int (σ.1 60 27)) dX10_push_37 fl_X10_94 hp_60 hs_60 rfl rfl ?_
        refine T_iconst (v := 1) dX10_push_40 (by decide) ?_
        refine T_isub dX10_push_41 ?_
        refine T_puti dX10_push_42 fl_X10_94 pf_X10_27 hp_60 hs_60 rfl ?_
        refine T_aload_n dX10_push_45 rfl 1 rfl ?_
        refine T_dup dX10_push_46 rfl ?_
        refine T_get (v := .int (σ.1 60 29)) dX10_push_47 fl_X10_100 hp_60 hs_60 rfl rfl ?_
        refine T_iconst (v := 1) dX10_push_50 (by decide) ?_
        refine T_isub dX10_push_51 ?_
        refine T_puti dX10_push_52 fl_X10_100 pf_X10_29 hp_60 hs_60 rfl ?_
        refine T_goto (tgt := 2) dX10_push_55 (by decide) ?_
        exact T_sub [1, 0] rfl (((h.2 c1).2.2 c2).1 c3)
      · refine T_iconst (v := 1) dX10_push_29 (by decide) ?_
        refine T_goto (tgt := 34) dX10_push_30 (by decide) ?_
        refine T_istore_n dX10_push_34 rfl (by decide) rfl ?_
        refine T_aload_n dX10_push_35 rfl 1 rfl ?_
        refine T_dup dX10_push_36 rfl ?_
        refine T_get (v := .int (σ.1 60 27)) dX10_push_37 fl_X10_94 hp_60 hs_60 rfl rfl ?_
        refine T_iconst (v := 1) dX10_push_40 (by decide) ?_
        refine T_isub dX10_push_41 ?_
        refine T_puti dX10_push_42 fl_X10_94 pf_X10_27 hp_60 hs_60 rfl ?_
        refine T_aload_n dX10_push_45 rfl 1 rfl ?_
        refine T_dup dX10_push_46 rfl ?_
        refine T_get (v := .int (σ.1 60 29)) dX10_push_47 fl_X10_100 hp_60 hs_60 rfl rfl ?_
        refine T_iconst (v := 1) dX10_push_50 (by decide) ?_
        refine T_isub dX10_push_51 ?_
        refine T_puti dX10_push_52 fl_X10_100 pf_X10_29 hp_60 hs_60 rfl ?_
        refine T_goto (tgt := 2) dX10_push_55 (by decide) ?_
        exact T_sub [1, 0] rfl (((h.2 c1).2.2 c2).2 c3)
set_option maxHeartbeats 4000000 in
set_option maxRecDepth 100000 in
theorem B_X10_push {l : Launch} {e : hv_Ev}  (x1 : Int32) {σ : hv_S} {Φ : hv_S → Prop} (h : L_X10_push_2 l e Φ x1 σ) : hv_CV l (hv_e2 e) 0 m_X10_push [.ref 60, .int x1] σ Φ := by
  refine hv_entV (by decide) (Nat.le_of_ble_eq_true rfl) ?_
  show hv_TW l (hv_e2 e) (hv_rm 0) 0 0 m_X10_push hv_no (hv_ZV (hv_e2 e) Φ) 0 [(0, .ref 60), (1, .int x1)] [] σ
  refine T_iload_n dX10_push_0 rfl 1 rfl ?_
  refine T_istore_n dX10_push_1 rfl (by decide) rfl ?_
  exact T_sub [1, 0] rfl h

def L_X10_settleSigns_0 (l : Launch) (e : hv_Ev)  (Φ : hv_S → Prop) (x1 : Int32) (σ : hv_S) : Prop := hv_TW l (hv_e2 e) (hv_rm 0) 0 0 m_X10_settleSigns hv_no (hv_ZV (hv_e2 e) Φ) 0 [(0, .ref 60), (1, .int x1)] [] σ
def L_X10_settleSigns_45 (l : Launch) (e : hv_Ev)  (Φ : hv_S → Prop) (x1 : Int32) (σ : hv_S) : Prop := hv_TW l (hv_e2 e) (hv_rm 0) 0 0 m_X10_settleSigns hv_no (hv_ZV (hv_e2 e) Φ) 45 [(0, .ref 60), (1, .int x1)] [] σ
set_option maxHeartbeats 4000000 in
set_option maxRecDepth 100000 in
theorem B_X10_settleSigns_45 {l : Launch} {e : hv_Ev}  (x1 : Int32) {σ : hv_S} {Φ : hv_S → Prop} (h : (vp_in ((σ.1 60 27) - 1) 101 ∧ (((σ.1 72 (((σ.1 60 27) - 1).toNatClampNeg)) ≠ 38 → (vp_in (((σ.1 60 28) - 1) - 1) 101 ∧ (((σ.1 73 ((((σ.1 60 28) - 1) - 1).toNatClampNeg)) ≠ 0 → (vp_in (((σ.1 60 28) - 1) - 1) 101 ∧ L_X10_settleSigns_0 l e Φ x1 (hv_ui (hv_ui (hv_ui σ 60 27 ((σ.1 60 27) - 1)) 60 28 ((σ.1 60 28) - 1)) 73 ((((σ.1 60 28) - 1) - 1).toNatClampNeg) 1))) ∧ ((σ.1 73 ((((σ.1 60 28) - 1) - 1).toNatClampNeg)) = 0 → (vp_in ((σ.1 60 28) - 1) 101 ∧ (((σ.1 73 (((σ.1 60 28) - 1).toNatClampNeg)) = 0 → (vp_in (((σ.1 60 28) - 1) - 1) 101 ∧ L_X10_settleSigns_0 l e Φ x1 (hv_ui (hv_ui (hv_ui σ 60 27 ((σ.1 60 27) - 1)) 60 28 ((σ.1 60 28) - 1)) 73 ((((σ.1 60 28) - 1) - 1).toNatClampNeg) 0))) ∧ (¬ (σ.1 73 (((σ.1 60 28) - 1).toNatClampNeg)) = 0 → (vp_in (((σ.1 60 28) - 1) - 1) 101 ∧ L_X10_settleSigns_0 l e Φ x1 (hv_ui (hv_ui (hv_ui σ 60 27 ((σ.1 60 27) - 1)) 60 28 ((σ.1 60 28) - 1)) 73 ((((σ.1 60 28) - 1) - 1).toNatClampNeg) 1))))))))) ∧ ((σ.1 72 (((σ.1 60 27) - 1).toNatClampNeg)) = 38 → (vp_in (((σ.1 60 28) - 1) - 1) 101 ∧ (((σ.1 73 ((((σ.1 60 28) - 1) - 1).toNatClampNeg)) = 0 → (vp_in (((σ.1 60 28) - 1) - 1) 101 ∧ L_X10_settleSigns_0 l e Φ x1 (hv_ui (hv_ui (hv_ui σ 60 27 ((σ.1 60 27) - 1)) 60 28 ((σ.1 60 28) - 1)) 73 ((((σ.1 60 28) - 1) - 1).toNatClampNeg) 0))) ∧ (¬ (σ.1 73 ((((σ.1 60 28) - 1) - 1).toNatClampNeg)) = 0 → (vp_in ((σ.1 60 28) - 1) 101 ∧ (((σ.1 73 (((σ.1 60 28) - 1).toNatClampNeg)) = 0 → (vp_in (((σ.1 60 28) - 1) - 1) 101 ∧ L_X10_settleSigns_0 l e Φ x1 (hv_ui (hv_ui (hv_ui σ 60 27 ((σ.1 60 27) - 1)) 60 28 ((σ.1 60 28) - 1)) 73 ((((σ.1 60 28) - 1) - 1).toNatClampNeg) 0))) ∧ (¬ (σ.1 73 (((σ.1 60 28) - 1).toNatClampNeg)) = 0 → (vp_in (((σ.1 60 28) - 1) - 1) 101 ∧ L_X10_settleSigns_0 l e Φ x1 (hv_ui (hv_ui (hv_ui σ 60 27 ((σ.1 60 27) - 1)) 60 28 ((σ.1 60 28) - 1)) 73 ((((σ.1 60 28) - 1) - 1).toNatClampNeg) 1)))))))))))) : L_X10_settleSigns_45 l e Φ x1 σ := by
  show hv_TW l (hv_e2 e) (hv_rm 0) 0 0 m_X10_settleSigns hv_no (hv_ZV (hv_e2 e) Φ) 45 [(0, .ref 60), (1, .int x1)] [] σ
  refine T_aload_n dX10_settleSigns_45 rfl 0 rfl ?_
  refine T_dup dX10_settleSigns_46 rfl ?_
  refine T_get (v := .int (σ.1 60 27)) dX10_settleSigns_47 fl_X10_94 hp_60 hs_60 rfl rfl ?_
  refine T_iconst (v := 1) dX10_settleSigns_50 (by decide) ?_
  refine T_isub dX10_settleSigns_51 ?_
  refine T_puti dX10_settleSigns_52 fl_X10_94 pf_X10_27 hp_60 hs_60 rfl ?_
  refine T_aload_n dX10_settleSigns_55 rfl 0 rfl ?_
  refine T_dup dX10_settleSigns_56 rfl ?_
  refine T_get (v := .int (σ.1 60 28)) dX10_settleSigns_57 fl_X10_97 hp_60 hs_60 rfl rfl ?_
  refine T_iconst (v := 1) dX10_settleSigns_60 (by decide) ?_
  refine T_isub dX10_settleSigns_61 ?_
  refine T_puti dX10_settleSigns_62 fl_X10_97 pf_X10_28 hp_60 hs_60 rfl ?_
  refine T_aload_n dX10_settleSigns_65 rfl 0 rfl ?_
  refine T_get (v := .ref 73) dX10_settleSigns_66 fl_X10_91 hp_60 hs_60 rfl rfl ?_
  refine T_aload_n dX10_settleSigns_69 rfl 0 rfl ?_
  refine T_get (v := .int ((σ.1 60 28) - 1)) dX10_settleSigns_70 fl_X10_97 hp_60 hs_60 rfl rfl ?_
  refine T_iconst (v := 1) dX10_settleSigns_73 (by decide) ?_
  refine T_isub dX10_settleSigns_74 ?_
  refine T_aload_n dX10_settleSigns_75 rfl 0 rfl ?_
  refine T_get (v := .ref 72) dX10_settleSigns_76 fl_X10_88 hp_60 hs_60 rfl rfl ?_
  refine T_aload_n dX10_settleSigns_79 rfl 0 rfl ?_
  refine T_get (v := .int ((σ.1 60 27) - 1)) dX10_settleSigns_80 fl_X10_94 hp_60 hs_60 rfl rfl ?_
  refine T_iald dX10_settleSigns_83 hp_72 hs_72 h.1 ?_
  refine T_bipush (v := 38) dX10_settleSigns_84 (by decide) ?_
  refine T_icmp_ne (tgt := 123) dX10_settleSigns_86 (by decide) (fun c5 => ?_) (fun c5 => ?_)
  · refine T_aload_n dX10_settleSigns_123 rfl 0 rfl ?_
    refine T_get (v := .ref 73) dX10_settleSigns_124 fl_X10_91 hp_60 hs_60 rfl rfl ?_
    refine T_aload_n dX10_settleSigns_127 rfl 0 rfl ?_
    refine T_get (v := .int ((σ.1 60 28) - 1)) dX10_settleSigns_128 fl_X10_97 hp_60 hs_60 rfl rfl ?_
    refine T_iconst (v := 1) dX10_settleSigns_131 (by decide) ?_
    refine T_isub dX10_settleSigns_132 ?_
    refine T_zald dX10_settleSigns_133 hp_73 hs_73 (h.2.1 c5).1 ?_
    refine T_if_ne (tgt := 149) dX10_settleSigns_134 (by decide) (fun c6 => ?_) (fun c6 => ?_)
    · refine T_iconst (v := 1) dX10_settleSigns_149 (by decide) ?_
      refine T_goto (tgt := 154) dX10_settleSigns_150 (by decide) ?_
      refine T_zast dX10_settleSigns_154 hp_73 hs_73 ((h.2.1 c5).2.1 c6).1 (by decide) ?_
      refine T_goto (tgt := 0) dX10_settleSigns_155 (by decide) ?_
      exact T_sub [0, 1] rfl ((h.2.1 c5).2.1 c6).2
    · refine T_aload_n dX10_settleSigns_137 rfl 0 rfl ?_
      refine T_get (v := .ref 73) dX10_settleSigns_138 fl_X10_91 hp_60 hs_60 rfl rfl ?_
      refine T_aload_n dX10_settleSigns_141 rfl 0 rfl ?_
      refine T_get (v := .int ((σ.1 60 28) - 1)) dX10_settleSigns_142 fl_X10_97 hp_60 hs_60 rfl rfl ?_
      refine T_zald dX10_settleSigns_145 hp_73 hs_73 ((h.2.1 c5).2.2 c6).1 ?_
      refine T_if_eq (tgt := 153) dX10_settleSigns_146 (by decide) (fun c7 => ?_) (fun c7 => ?_)
      · refine T_iconst (v := 0) dX10_settleSigns_153 (by decide) ?_
        refine T_zast dX10_settleSigns_154 hp_73 hs_73 (((h.2.1 c5).2.2 c6).2.1 c7).1 (by decide) ?_
        refine T_goto (tgt := 0) dX10_settleSigns_155 (by decide) ?_
        exact T_sub [0, 1] rfl (((h.2.1 c5).2.2 c6).2.1 c7).2
      · refine T_iconst (v := 1) dX10_settleSigns_149 (by decide) ?_
        refine T_goto (tgt := 154) dX10_settleSigns_150 (by decide) ?_
        refine T_zast dX10_settleSigns_154 hp_73 hs_73 (((h.2.1 c5).2.2 c6).2.2 c7).1 (by decide) ?_
        refine T_goto (tgt := 0) dX10_settleSigns_155 (by decide) ?_
        exact T_sub [0, 1] rfl (((h.2.1 c5).2.2 c6).2.2 c7).2
  · refine T_aload_n dX10_settleSigns_89 rfl 0 rfl ?_
    refine T_get (v := .ref 73) dX10_settleSigns_90 fl_X10_91 hp_60 hs_60 rfl rfl ?_
    refine T_aload_n dX10_settleSigns_93 rfl 0 rfl ?_
    refine T_get (v := .int ((σ.1 60 28) - 1)) dX10_settleSigns_94 fl_X10_97 hp_60 hs_60 rfl rfl ?_
    refine T_iconst (v := 1) dX10_settleSigns_97 (by decide) ?_
    refine T_isub dX10_settleSigns_98 ?_
    refine T_zald dX10_settleSigns_99 hp_73 hs_73 (h.2.2 c5).1 ?_
    refine T_if_eq (tgt := 119) dX10_settleSigns_100 (by decide) (fun c8 => ?_) (fun c8 => ?_)
    · refine T_iconst (v := 0) dX10_settleSigns_119 (by decide) ?_
      refine T_goto (tgt := 154) dX10_settleSigns_120 (by decide) ?_
      refine T_zast dX10_settleSigns_154 hp_73 hs_73 ((h.2.2 c5).2.1 c8).1 (by decide) ?_
      refine T_goto (tgt := 0) dX10_settleSigns_155 (by decide) ?_
      exact T_sub [0, 1] rfl ((h.2.2 c5).2.1 c8).2
    · refine T_aload_n dX10_settleSigns_103 rfl 0 rfl ?_
      refine T_get (v := .ref 73) dX10_settleSigns_104 fl_X10_91 hp_60 hs_60 rfl rfl ?_
      refine T_aload_n dX10_settleSigns_107 rfl 0 rfl ?_
      refine T_get (v := .int ((σ.1 60 28) - 1)) dX10_settleSigns_108 fl_X10_97 hp_60 hs_60 rfl rfl ?_
      refine T_zald dX10_settleSigns_111 hp_73 hs_73 ((h.2.2 c5).2.2 c8).1 ?_
      refine T_if_eq (tgt := 119) dX10_settleSigns_112 (by decide) (fun c9 => ?_) (fun c9 => ?_)
      · refine T_iconst (v := 0) dX10_settleSigns_119 (by decide) ?_
        refine T_goto (tgt := 154) dX10_settleSigns_120 (by decide) ?_
        refine T_zast dX10_settleSigns_154 hp_73 hs_73 (((h.2.2 c5).2.2 c8).2.1 c9).1 (by decide) ?_
        refine T_goto (tgt := 0) dX10_settleSigns_155 (by decide) ?_
        exact T_sub [0, 1] rfl (((h.2.2 c5).2.2 c8).2.1 c9).2
      · refine T_iconst (v := 1) dX10_settleSigns_115 (by decide) ?_
        refine T_goto (tgt := 154) dX10_settleSigns_116 (by decide) ?_
        refine T_zast dX10_settleSigns_154 hp_73 hs_73 (((h.2.2 c5).2.2 c8).2.2 c9).1 (by decide) ?_
        refine T_goto (tgt := 0) dX10_settleSigns_155 (by decide) ?_
        exact T_sub [0, 1] rfl (((h.2.2 c5).2.2 c8).2.2 c9).2
set_option maxHeartbeats 4000000 in
set_option maxRecDepth 100000 in
theorem B_X10_settleSigns_0 {l : Launch} {e : hv_Ev}  (x1 : Int32) {σ : hv_S} {Φ : hv_S → Prop} (h : (((σ.1 60 27) ≤ 0 → Φ σ) ∧ (¬ (σ.1 60 27) ≤ 0 → (vp_in ((σ.1 60 27) - 1) 101 ∧ (((σ.1 72 (((σ.1 60 27) - 1).toNatClampNeg)) = 38 → L_X10_settleSigns_45 l e Φ x1 σ) ∧ (¬ (σ.1 72 (((σ.1 60 27) - 1).toNatClampNeg)) = 38 → (vp_in ((σ.1 60 27) - 1) 101 ∧ (((σ.1 72 (((σ.1 60 27) - 1).toNatClampNeg)) ≠ 124 → Φ σ) ∧ ((σ.1 72 (((σ.1 60 27) - 1).toNatClampNeg)) = 124 → ((x1 = 38 → Φ σ) ∧ (¬ x1 = 38 → L_X10_settleSigns_45 l e Φ x1 σ))))))))))) : L_X10_settleSigns_0 l e Φ x1 σ := by
  show hv_TW l (hv_e2 e) (hv_rm 0) 0 0 m_X10_settleSigns hv_no (hv_ZV (hv_e2 e) Φ) 0 [(0, .ref 60), (1, .int x1)] [] σ
  refine T_aload_n dX10_settleSigns_0 rfl 0 rfl ?_
  refine T_get (v := .int (σ.1 60 27)) dX10_settleSigns_1 fl_X10_94 hp_60 hs_60 rfl rfl ?_
  refine T_if_le (tgt := 158) dX10_settleSigns_4 (by decide) (fun c1 => ?_) (fun c1 => ?_)
  · exact T_vret dX10_settleSigns_158 rfl (h.1 c1)
  · refine T_aload_n dX10_settleSigns_7 rfl 0 rfl ?_
    refine T_get (v := .ref 72) dX10_settleSigns_8 fl_X10_88 hp_60 hs_60 rfl rfl ?_
    refine T_aload_n dX10_settleSigns_11 rfl 0 rfl ?_
    refine T_get (v := .int (σ.1 60 27)) dX10_settleSigns_12 fl_X10_94 hp_60 hs_60 rfl rfl ?_
    refine T_iconst (v := 1) dX10_settleSigns_15 (by decide) ?_
    refine T_isub dX10_settleSigns_16 ?_
    refine T_iald dX10_settleSigns_17 hp_72 hs_72 (h.2 c1).1 ?_
    refine T_bipush (v := 38) dX10_settleSigns_18 (by decide) ?_
    refine T_icmp_eq (tgt := 45) dX10_settleSigns_20 (by decide) (fun c2 => ?_) (fun c2 => ?_)
    · exact T_sub [0, 1] rfl ((h.2 c1).2.1 c2)
    · refine T_aload_n dX10_settleSigns_23 rfl 0 rfl ?_
      refine T_get (v := .ref 72) dX10_settleSigns_24 fl_X10_88 hp_60 hs_60 rfl rfl ?_
      refine T_aload_n dX10_settleSigns_27 rfl 0 rfl ?_
      refine T_get (v := .int (σ.1 60 27)) dX10_settleSigns_28 fl_X10_94 hp_60 hs_60 rfl rfl ?_
      refine T_iconst (v := 1) dX10_settleSigns_31 (by decide) ?_
      refine T_isub dX10_settleSigns_32 ?_
      refine T_iald dX10_settleSigns_33 hp_72 hs_72 ((h.2 c1).2.2 c2).1 ?_
      refine T_bipush (v := 124) dX10_settleSigns_34 (by decide) ?_
      refine T_icmp_ne (tgt := 158) dX10_settleSigns_36 (by decide) (fun c3 => ?_) (fun c3 => ?_)
      · exact T_vret dX10_settleSigns_158 rfl (((h.2 c1).2.2 c2).2.1 c3)
      · refine T_iload_n dX10_settleSigns_39 rfl 1 rfl ?_
        refine T_bipush (v := 38) dX10_settleSigns_40 (by decide) ?_
        refine T_icmp_eq (tgt := 158) dX10_settleSigns_42 (by decide) (fun c4 => ?_) (fun c4 => ?_)
        · exact T_vret dX10_settleSigns_158 rfl ((((h.2 c1).2.2 c2).2.2 c3).1 c4)
        · exact T_sub [0, 1] rfl ((((h.2 c1).2.2 c2).2.2 c3).2 c4)
set_option maxHeartbeats 4000000 in
set_option maxRecDepth 100000 in
theorem B_X10_settleSigns {l : Launch} {e : hv_Ev}  (x1 : Int32) {σ : hv_S} {Φ : hv_S → Prop} (h : L_X10_settleSigns_0 l e Φ x1 σ) : hv_CV l (hv_e2 e) 0 m_X10_settleSigns [.ref 60, .int x1] σ Φ := by
  refine hv_entV (by decide) (Nat.le_of_ble_eq_true rfl) ?_
  show hv_TW l (hv_e2 e) (hv_rm 0) 0 0 m_X10_settleSigns hv_no (hv_ZV (hv_e2 e) Φ) 0 [(0, .ref 60), (1, .int x1)] [] σ
  exact T_sub [0, 1] rfl h

set_option maxHeartbeats 4000000 in
set_option maxRecDepth 100000 in
theorem B_X10_isOrder {l : Launch} {e : hv_Ev}  (x1 : Int32) (x2 : Int32) {σ : hv_S} {Φ : Int32 → hv_S → Prop} (h : (vp_in ((8 * x2) + x1) 24 ∧ (((σ.1 61 (((8 * x2) + x1).toNatClampNeg)) ≠ 3 → Φ 0 σ) ∧ ((σ.1 61 (((8 * x2) + x1).toNatClampNeg)) = 3 → (vp_in ((8 * x2) + x1) 24 ∧ (((σ.1 62 (((8 * x2) + x1).toNatClampNeg)) ≤ (σ.1 60 35) → Φ 0 σ) ∧ (¬ (σ.1 62 (((8 * x2) + x1).toNatClampNeg)) ≤ (σ.1 60 35) → Φ 1 σ))))))) : hv_CI l (hv_e2 e) 0 m_X10_isOrder [.ref 60, .int x1, .int x2] σ Φ := by
  refine hv_entI (by decide) (Nat.le_of_ble_eq_true rfl) ?_
  show hv_TW l (hv_e2 e) (hv_rm 0) 0 0 m_X10_isOrder hv_no (hv_ZI (hv_e2 e) Φ) 0 [(0, .ref 60), (1, .int x1), (2, .int x2)] [] σ
  refine T_aload_n dX10_isOrder_0 rfl 0 rfl ?_
  refine T_get (v := .ref 61) dX10_isOrder_1 fl_X10_16 hp_60 hs_60 rfl rfl ?_
  refine T_bipush (v := 8) dX10_isOrder_4 (by decide) ?_
  refine T_iload_n dX10_isOrder_6 rfl 2 rfl ?_
  refine T_imul dX10_isOrder_7 ?_
  refine T_iload_n dX10_isOrder_8 rfl 1 rfl ?_
  refine T_iadd dX10_isOrder_9 ?_
  refine T_iald dX10_isOrder_10 hp_61 hs_61 h.1 ?_
  refine T_iconst (v := 3) dX10_isOrder_11 (by decide) ?_
  refine T_icmp_ne (tgt := 37) dX10_isOrder_12 (by decide) (fun c1 => ?_) (fun c1 => ?_)
  · refine T_iconst (v := 0) dX10_isOrder_37 (by decide) ?_
    exact T_zret dX10_isOrder_38 rfl (by decide) (h.2.1 c1)
  · refine T_aload_n dX10_isOrder_15 rfl 0 rfl ?_
    refine T_get (v := .int (σ.1 60 35)) dX10_isOrder_16 fl_X10_118 hp_60 hs_60 rfl rfl ?_
    refine T_aload_n dX10_isOrder_19 rfl 0 rfl ?_
    refine T_get (v := .ref 62) dX10_isOrder_20 fl_X10_20 hp_60 hs_60 rfl rfl ?_
    refine T_bipush (v := 8) dX10_isOrder_23 (by decide) ?_
    refine T_iload_n dX10_isOrder_25 rfl 2 rfl ?_
    refine T_imul dX10_isOrder_26 ?_
    refine T_iload_n dX10_isOrder_27 rfl 1 rfl ?_
    refine T_iadd dX10_isOrder_28 ?_
    refine T_iald dX10_isOrder_29 hp_62 hs_62 (h.2.2 c1).1 ?_
    refine T_icmp_ge (tgt := 37) dX10_isOrder_30 (by decide) (fun c2 => ?_) (fun c2 => ?_)
    · refine T_iconst (v := 0) dX10_isOrder_37 (by decide) ?_
      exact T_zret dX10_isOrder_38 rfl (by decide) ((h.2.2 c1).2.1 c2)
    · refine T_iconst (v := 1) dX10_isOrder_33 (by decide) ?_
      refine T_goto (tgt := 38) dX10_isOrder_34 (by decide) ?_
      exact T_zret dX10_isOrder_38 rfl (by decide) ((h.2.2 c1).2.2 c2)

def L_X10_divisor_6 (l : Launch) (e : hv_Ev)  (Φ : Int64 → hv_S → Prop) (y5 : Int64) (y7 : Int64) (σ : hv_S) : Prop := hv_TW l (hv_e2 e) (hv_rm 0) 0 0 m_X10_divisor hv_no (hv_ZL (hv_e2 e) Φ) 6 [(5, .long y5), (7, .long y7)] [] σ
set_option maxHeartbeats 4000000 in
set_option maxRecDepth 100000 in
theorem B_X10_divisor_6 {l : Launch} {e : hv_Ev}  (y5 : Int64) (y7 : Int64) {σ : hv_S} {Φ : Int64 → hv_S → Prop} (h : ((y7 = 0 → Φ y5 σ) ∧ (¬ y7 = 0 → (¬ y7 = 0 ∧ L_X10_divisor_6 l e Φ y7 (y5 - y5 / y7 * y7) σ)))) : L_X10_divisor_6 l e Φ y5 y7 σ := by
  show hv_TW l (hv_e2 e) (hv_rm 0) 0 0 m_X10_divisor hv_no (hv_ZL (hv_e2 e) Φ) 6 [(5, .long y5), (7, .long y7)] [] σ
  refine T_lload dX10_divisor_6 1 rfl ?_
  refine T_lconst (v := 0) dX10_divisor_8 (by decide) ?_
  refine T_lc_eq (tgt := 31) dX10_divisor_9 dX10_divisor_10 (by decide) (fun c1 => ?_) (fun c1 => ?_)
  · refine T_lload dX10_divisor_31 0 rfl ?_
    exact T_lret dX10_divisor_33 rfl (h.1 c1)
  · refine T_lload dX10_divisor_13 0 rfl ?_
    refine T_lload dX10_divisor_15 1 rfl ?_
    refine T_lrem dX10_divisor_17 ((h.2 c1).1) ?_
    refine T_lstore dX10_divisor_18 (by decide) rfl ?_
    refine T_lload dX10_divisor_20 2 rfl ?_
    refine T_lstore dX10_divisor_22 (by decide) rfl ?_
    refine T_lload dX10_divisor_24 1 rfl ?_
    refine T_lstore dX10_divisor_26 (by decide) rfl ?_
    refine T_goto (tgt := 6) dX10_divisor_28 (by decide) ?_
    exact T_sub [1, 0] rfl (h.2 c1).2
set_option maxHeartbeats 4000000 in
set_option maxRecDepth 100000 in
theorem B_X10_divisor {l : Launch} {e : hv_Ev}  (y1 : Int64) (y2 : Int64) {σ : hv_S} {Φ : Int64 → hv_S → Prop} (h : L_X10_divisor_6 l e Φ y1 y2 σ) : hv_CL l (hv_e2 e) 0 m_X10_divisor [.ref 60, .long y1, .long y2] σ Φ := by
  refine hv_entL (by decide) (Nat.le_of_ble_eq_true rfl) ?_
  show hv_TW l (hv_e2 e) (hv_rm 0) 0 0 m_X10_divisor hv_no (hv_ZL (hv_e2 e) Φ) 0 [(0, .ref 60), (1, .long y1), (3, .long y2)] [] σ
  refine T_lload_n dX10_divisor_0 rfl 1 rfl ?_
  refine T_lstore dX10_divisor_1 (by decide) rfl ?_
  refine T_lload_n dX10_divisor_3 rfl 3 rfl ?_
  refine T_lstore dX10_divisor_4 (by decide) rfl ?_
  exact T_sub [1, 0] rfl h

def L_X10_thinks_4 (l : Launch) (e : hv_Ev)  (Φ : Int32 → hv_S → Prop) (x1 : Int32) (x2 : Int32) (x3 : Int32) (σ : hv_S) : Prop := hv_TW l (hv_e2 e) (hv_rm 0) 0 0 m_X10_thinks hv_no (hv_ZI (hv_e2 e) Φ) 4 [(0, .ref 60), (1, .int x1), (2, .int x2), (3, .int x3)] [] σ
set_option maxHeartbeats 4000000 in
set_option maxRecDepth 100000 in
theorem B_X10_thinks_4 {l : Launch} {e : hv_Ev}  (x1 : Int32) (x2 : Int32) (x3 : Int32) {σ : hv_S} {Φ : Int32 → hv_S → Prop} (h : (((σ.1 60 0) ≤ x3 → Φ x2 σ) ∧ (¬ (σ.1 60 0) ≤ x3 → (vp_in ((8 * x1) + x3) 24 ∧ (((σ.1 67 (((8 * x1) + x3).toNatClampNeg)) = 0 → L_X10_thinks_4 l e Φ x1 (x2 ||| 0) (x3 + 1) σ) ∧ (¬ (σ.1 67 (((8 * x1) + x3).toNatClampNeg)) = 0 → L_X10_thinks_4 l e Φ x1 (x2 ||| ((1 : Int32) <<< (x3 &&& 31))) (x3 + 1) σ)))))) : L_X10_thinks_4 l e Φ x1 x2 x3 σ := by
  show hv_TW l (hv_e2 e) (hv_rm 0) 0 0 m_X10_thinks hv_no (hv_ZI (hv_e2 e) Φ) 4 [(0, .ref 60), (1, .int x1), (2, .int x2), (3, .int x3)] [] σ
  refine T_iload_n dX10_thinks_4 rfl 3 rfl ?_
  refine T_aload_n dX10_thinks_5 rfl 0 rfl ?_
  refine T_get (v := .int (σ.1 60 0)) dX10_thinks_6 fl_X10_7 hp_60 hs_60 rfl rfl ?_
  refine T_icmp_ge (tgt := 42) dX10_thinks_9 (by decide) (fun c1 => ?_) (fun c1 => ?_)
  · refine T_iload_n dX10_thinks_42 rfl 2 rfl ?_
    exact T_iret dX10_thinks_43 rfl (h.1 c1)
  · refine T_iload_n dX10_thinks_12 rfl 2 rfl ?_
    refine T_aload_n dX10_thinks_13 rfl 0 rfl ?_
    refine T_get (v := .ref 67) dX10_thinks_14 fl_X10_35 hp_60 hs_60 rfl rfl ?_
    refine T_bipush (v := 8) dX10_thinks_17 (by decide) ?_
    refine T_iload_n dX10_thinks_19 rfl 1 rfl ?_
    refine T_imul dX10_thinks_20 ?_
    refine T_iload_n dX10_thinks_21 rfl 3 rfl ?_
    refine T_iadd dX10_thinks_22 ?_
    refine T_zald dX10_thinks_23 hp_67 hs_67 (h.2 c1).1 ?_
    refine T_if_eq (tgt := 33) dX10_thinks_24 (by decide) (fun c2 => ?_) (fun c2 => ?_)
    · refine T_iconst (v := 0) dX10_thinks_33 (by decide) ?_
      refine T_ior dX10_thinks_34 ?_
      refine T_istore_n dX10_thinks_35 rfl (by decide) rfl ?_
      refine T_iinc (v := (x3 + 1)) dX10_thinks_36 3 rfl rfl (by decide) rfl ?_
      refine T_goto (tgt := 4) dX10_thinks_39 (by decide) ?_
      exact T_sub [2, 3, 1, 0] rfl ((h.2 c1).2.1 c2)
    · refine T_iconst (v := 1) dX10_thinks_27 (by decide) ?_
      refine T_iload_n dX10_thinks_28 rfl 3 rfl ?_
      refine T_ishl dX10_thinks_29 ?_
      refine T_goto (tgt := 34) dX10_thinks_30 (by decide) ?_
      refine T_ior dX10_thinks_34 ?_
      refine T_istore_n dX10_thinks_35 rfl (by decide) rfl ?_
      refine T_iinc (v := (x3 + 1)) dX10_thinks_36 3 rfl rfl (by decide) rfl ?_
      refine T_goto (tgt := 4) dX10_thinks_39 (by decide) ?_
      exact T_sub [2, 3, 1, 0] rfl ((h.2 c1).2.2 c2)
set_option maxHeartbeats 4000000 in
set_option maxRecDepth 100000 in
theorem B_X10_thinks {l : Launch} {e : hv_Ev}  (x1 : Int32) {σ : hv_S} {Φ : Int32 → hv_S → Prop} (h : L_X10_thinks_4 l e Φ x1 0 0 σ) : hv_CI l (hv_e2 e) 0 m_X10_thinks [.ref 60, .int x1] σ Φ := by
  refine hv_entI (by decide) (Nat.le_of_ble_eq_true rfl) ?_
  show hv_TW l (hv_e2 e) (hv_rm 0) 0 0 m_X10_thinks hv_no (hv_ZI (hv_e2 e) Φ) 0 [(0, .ref 60), (1, .int x1)] [] σ
  refine T_iconst (v := 0) dX10_thinks_0 (by decide) ?_
  refine T_istore_n dX10_thinks_1 rfl (by decide) rfl ?_
  refine T_iconst (v := 0) dX10_thinks_2 (by decide) ?_
  refine T_istore_n dX10_thinks_3 rfl (by decide) rfl ?_
  exact T_sub [2, 3, 1, 0] rfl h

def L_X10_speaking_4 (l : Launch) (e : hv_Ev)  (Φ : Int32 → hv_S → Prop) (x1 : Int32) (x2 : Int32) (σ : hv_S) : Prop := hv_TW l (hv_e2 e) (hv_rm 0) 0 0 m_X10_speaking hv_no (hv_ZI (hv_e2 e) Φ) 4 [(0, .ref 60), (1, .int x1), (2, .int x2)] [] σ
set_option maxHeartbeats 4000000 in
set_option maxRecDepth 100000 in
theorem B_X10_speaking_4 {l : Launch} {e : hv_Ev}  (x1 : Int32) (x2 : Int32) {σ : hv_S} {Φ : Int32 → hv_S → Prop} (h : (((σ.1 60 0) ≤ x2 → Φ x1 σ) ∧ (¬ (σ.1 60 0) ≤ x2 → (vp_in x2 8 ∧ (((σ.2.1 75 x2.toNatClampNeg) ≤ 0 → L_X10_speaking_4 l e Φ (x1 ||| 0) (x2 + 1) σ) ∧ (¬ (σ.2.1 75 x2.toNatClampNeg) ≤ 0 → L_X10_speaking_4 l e Φ (x1 ||| ((1 : Int32) <<< (x2 &&& 31))) (x2 + 1) σ)))))) : L_X10_speaking_4 l e Φ x1 x2 σ := by
  show hv_TW l (hv_e2 e) (hv_rm 0) 0 0 m_X10_speaking hv_no (hv_ZI (hv_e2 e) Φ) 4 [(0, .ref 60), (1, .int x1), (2, .int x2)] [] σ
  refine T_iload_n dX10_speaking_4 rfl 2 rfl ?_
  refine T_aload_n dX10_speaking_5 rfl 0 rfl ?_
  refine T_get (v := .int (σ.1 60 0)) dX10_speaking_6 fl_X10_7 hp_60 hs_60 rfl rfl ?_
  refine T_icmp_ge (tgt := 39) dX10_speaking_9 (by decide) (fun c1 => ?_) (fun c1 => ?_)
  · refine T_iload_n dX10_speaking_39 rfl 1 rfl ?_
    exact T_iret dX10_speaking_40 rfl (h.1 c1)
  · refine T_iload_n dX10_speaking_12 rfl 1 rfl ?_
    refine T_aload_n dX10_speaking_13 rfl 0 rfl ?_
    refine T_get (v := .ref 75) dX10_speaking_14 fl_X10_127 hp_60 hs_60 rfl rfl ?_
    refine T_iload_n dX10_speaking_17 rfl 2 rfl ?_
    refine T_lald dX10_speaking_18 hp_75 hs_75 (h.2 c1).1 ?_
    refine T_lconst (v := 0) dX10_speaking_19 (by decide) ?_
    refine T_lc_le (tgt := 30) dX10_speaking_20 dX10_speaking_21 (by decide) (fun c2 => ?_) (fun c2 => ?_)
    · refine T_iconst (v := 0) dX10_speaking_30 (by decide) ?_
      refine T_ior dX10_speaking_31 ?_
      refine T_istore_n dX10_speaking_32 rfl (by decide) rfl ?_
      refine T_iinc (v := (x2 + 1)) dX10_speaking_33 2 rfl rfl (by decide) rfl ?_
      refine T_goto (tgt := 4) dX10_speaking_36 (by decide) ?_
      exact T_sub [2, 1, 0] rfl ((h.2 c1).2.1 c2)
    · refine T_iconst (v := 1) dX10_speaking_24 (by decide) ?_
      refine T_iload_n dX10_speaking_25 rfl 2 rfl ?_
      refine T_ishl dX10_speaking_26 ?_
      refine T_goto (tgt := 31) dX10_speaking_27 (by decide) ?_
      refine T_ior dX10_speaking_31 ?_
      refine T_istore_n dX10_speaking_32 rfl (by decide) rfl ?_
      refine T_iinc (v := (x2 + 1)) dX10_speaking_33 2 rfl rfl (by decide) rfl ?_
      refine T_goto (tgt := 4) dX10_speaking_36 (by decide) ?_
      exact T_sub [2, 1, 0] rfl ((h.2 c1).2.2 c2)
set_option maxHeartbeats 4000000 in
set_option maxRecDepth 100000 in
theorem B_X10_speaking {l : Launch} {e : hv_Ev}   {σ : hv_S} {Φ : Int32 → hv_S → Prop} (h : L_X10_speaking_4 l e Φ 0 0 σ) : hv_CI l (hv_e2 e) 0 m_X10_speaking [.ref 60] σ Φ := by
  refine hv_entI (by decide) (Nat.le_of_ble_eq_true rfl) ?_
  show hv_TW l (hv_e2 e) (hv_rm 0) 0 0 m_X10_speaking hv_no (hv_ZI (hv_e2 e) Φ) 0 [(0, .ref 60)] [] σ
  refine T_iconst (v := 0) dX10_speaking_0 (by decide) ?_
  refine T_istore_n dX10_speaking_1 rfl (by decide) rfl ?_
  refine T_iconst (v := 0) dX10_speaking_2 (by decide) ?_
  refine T_istore_n dX10_speaking_3 rfl (by decide) rfl ?_
  exact T_sub [2, 1, 0] rfl h

def L_X10_findAlone_7 (l : Launch) (e : hv_Ev)  (Φ : hv_S → Prop) (x1 : Int32) (σ : hv_S) : Prop := hv_TW l (hv_e2 e) (hv_rm 0) 0 0 m_X10_findAlone hv_no (hv_ZV (hv_e2 e) Φ) 7 [(0, .ref 60), (1, .int x1)] [] σ
set_option maxHeartbeats 4000000 in
set_option maxRecDepth 100000 in
theorem B_X10_findAlone_7 {l : Launch} {e : hv_Ev}  (x1 : Int32) {σ : hv_S} {Φ : hv_S → Prop} (h : (((σ.1 60 0) ≤ x1 → Φ σ) ∧ (¬ (σ.1 60 0) ≤ x1 → (((σ.1 60 19) ≤ 0 → (vp_in x1 8 ∧ L_X10_findAlone_7 l e Φ (x1 + 1) (hv_ul σ 75 x1.toNatClampNeg 0))) ∧ (¬ (σ.1 60 19) ≤ 0 → (vp_in x1 8 ∧ L_X10_findAlone_7 l e Φ (x1 + 1) (hv_ul σ 75 x1.toNatClampNeg 1))))))) : L_X10_findAlone_7 l e Φ x1 σ := by
  show hv_TW l (hv_e2 e) (hv_rm 0) 0 0 m_X10_findAlone hv_no (hv_ZV (hv_e2 e) Φ) 7 [(0, .ref 60), (1, .int x1)] [] σ
  refine T_iload_n dX10_findAlone_7 rfl 1 rfl ?_
  refine T_aload_n dX10_findAlone_8 rfl 0 rfl ?_
  refine T_get (v := .int (σ.1 60 0)) dX10_findAlone_9 fl_X10_7 hp_60 hs_60 rfl rfl ?_
  refine T_icmp_ge (tgt := 39) dX10_findAlone_12 (by decide) (fun c1 => ?_) (fun c1 => ?_)
  · exact T_vret dX10_findAlone_39 rfl (h.1 c1)
  · refine T_aload_n dX10_findAlone_15 rfl 0 rfl ?_
    refine T_get (v := .ref 75) dX10_findAlone_16 fl_X10_127 hp_60 hs_60 rfl rfl ?_
    refine T_iload_n dX10_findAlone_19 rfl 1 rfl ?_
    refine T_aload_n dX10_findAlone_20 rfl 0 rfl ?_
    refine T_get (v := .int (σ.1 60 19)) dX10_findAlone_21 fl_X10_70 hp_60 hs_60 rfl rfl ?_
    refine T_if_le (tgt := 31) dX10_findAlone_24 (by decide) (fun c2 => ?_) (fun c2 => ?_)
    · refine T_lconst (v := 0) dX10_findAlone_31 (by decide) ?_
      refine T_last dX10_findAlone_32 hp_75 hs_75 ((h.2 c1).1 c2).1 ?_
      refine T_iinc (v := (x1 + 1)) dX10_findAlone_33 1 rfl rfl (by decide) rfl ?_
      refine T_goto (tgt := 7) dX10_findAlone_36 (by decide) ?_
      exact T_sub [1, 0] rfl ((h.2 c1).1 c2).2
    · refine T_lconst (v := 1) dX10_findAlone_27 (by decide) ?_
      refine T_goto (tgt := 32) dX10_findAlone_28 (by decide) ?_
      refine T_last dX10_findAlone_32 hp_75 hs_75 ((h.2 c1).2 c2).1 ?_
      refine T_iinc (v := (x1 + 1)) dX10_findAlone_33 1 rfl rfl (by decide) rfl ?_
      refine T_goto (tgt := 7) dX10_findAlone_36 (by decide) ?_
      exact T_sub [1, 0] rfl ((h.2 c1).2 c2).2
set_option maxHeartbeats 4000000 in
set_option maxRecDepth 100000 in
theorem B_X10_findAlone {l : Launch} {e : hv_Ev}   {σ : hv_S} {Φ : hv_S → Prop} (h : L_X10_findAlone_7 l e Φ 0 (hv_ul σ 60 40 1)) : hv_CV l (hv_e2 e) 0 m_X10_findAlone [.ref 60] σ Φ := by
  refine hv_entV (by decide) (Nat.le_of_ble_eq_true rfl) ?_
  show hv_TW l (hv_e2 e) (hv_rm 0) 0 0 m_X10_findAlone hv_no (hv_ZV (hv_e2 e) Φ) 0 [(0, .ref 60)] [] σ
  refine T_aload_n dX10_findAlone_0 rfl 0 rfl ?_
  refine T_lconst (v := 1) dX10_findAlone_1 (by decide) ?_
  refine T_putl dX10_findAlone_2 fl_X10_134 pf_X10_40 hp_60 hs_60 rfl ?_
  refine T_iconst (v := 0) dX10_findAlone_5 (by decide) ?_
  refine T_istore_n dX10_findAlone_6 rfl (by decide) rfl ?_
  exact T_sub [1, 0] rfl h

set_option maxHeartbeats 4000000 in
set_option maxRecDepth 100000 in
theorem B_X10_keep {l : Launch} {e : hv_Ev}  (x1 : Int32) (x2 : Int32) {σ : hv_S} {Φ : hv_S → Prop} (h : (vp_in ((8 * x2) + x1) 24 ∧ (vp_in 0 24 ∧ (vp_in ((8 * x2) + x1) 24 ∧ (vp_in 1 24 ∧ (vp_in ((8 * x2) + x1) 24 ∧ (vp_in 2 24 ∧ (vp_in ((8 * x2) + x1) 24 ∧ (vp_in 3 24 ∧ (vp_in ((8 * x2) + x1) 24 ∧ (vp_in 4 24 ∧ Φ (hv_ui (hv_ui (hv_ui (hv_ui (hv_ui σ 77 0 (σ.1 61 (((8 * x2) + x1).toNatClampNeg))) 77 1 (σ.1 62 (((8 * x2) + x1).toNatClampNeg))) 77 2 (σ.1 63 (((8 * x2) + x1).toNatClampNeg))) 77 3 (σ.1 64 (((8 * x2) + x1).toNatClampNeg))) 77 4 (σ.1 65 (((8 * x2) + x1).toNatClampNeg)))))))))))))) : hv_CV l (hv_e2 e) 0 m_X10_keep [.ref 60, .int x1, .int x2] σ Φ := by
  refine hv_entV (by decide) (Nat.le_of_ble_eq_true rfl) ?_
  show hv_TW l (hv_e2 e) (hv_rm 0) 0 0 m_X10_keep hv_no (hv_ZV (hv_e2 e) Φ) 0 [(0, .ref 60), (1, .int x1), (2, .int x2)] [] σ
  refine T_bipush (v := 8) dX10_keep_0 (by decide) ?_
  refine T_iload_n dX10_keep_2 rfl 2 rfl ?_
  refine T_imul dX10_keep_3 ?_
  refine T_iload_n dX10_keep_4 rfl 1 rfl ?_
  refine T_iadd dX10_keep_5 ?_
  refine T_istore_n dX10_keep_6 rfl (by decide) rfl ?_
  refine T_aload_n dX10_keep_7 rfl 1 rfl ?_
  refine T_get (v := .ref 77) dX10_keep_8 fl_X10_147 hp_60 hs_60 rfl rfl ?_
  refine T_iconst (v := 0) dX10_keep_11 (by decide) ?_
  refine T_aload_n dX10_keep_12 rfl 1 rfl ?_
  refine T_get (v := .ref 61) dX10_keep_13 fl_X10_16 hp_60 hs_60 rfl rfl ?_
  refine T_iload_n dX10_keep_16 rfl 0 rfl ?_
  refine T_iald dX10_keep_17 hp_61 hs_61 h.1 ?_
  refine T_iast dX10_keep_18 hp_77 hs_77 h.2.1 ?_
  refine T_aload_n dX10_keep_19 rfl 1 rfl ?_
  refine T_get (v := .ref 77) dX10_keep_20 fl_X10_147 hp_60 hs_60 rfl rfl ?_
  refine T_iconst (v := 1) dX10_keep_23 (by decide) ?_
  refine T_aload_n dX10_keep_24 rfl 1 rfl ?_
  refine T_get (v := .ref 62) dX10_keep_25 fl_X10_20 hp_60 hs_60 rfl rfl ?_
  refine T_iload_n dX10_keep_28 rfl 0 rfl ?_
  refine T_iald dX10_keep_29 hp_62 hs_62 h.2.2.1 ?_
  refine T_iast dX10_keep_30 hp_77 hs_77 h.2.2.2.1 ?_
  refine T_aload_n dX10_keep_31 rfl 1 rfl ?_
  refine T_get (v := .ref 77) dX10_keep_32 fl_X10_147 hp_60 hs_60 rfl rfl ?_
  refine T_iconst (v := 2) dX10_keep_35 (by decide) ?_
  refine T_aload_n dX10_keep_36 rfl 1 rfl ?_
  refine T_get (v := .ref 63) dX10_keep_37 fl_X10_23 hp_60 hs_60 rfl rfl ?_
  refine T_iload_n dX10_keep_40 rfl 0 rfl ?_
  refine T_iald dX10_keep_41 hp_63 hs_63 h.2.2.2.2.1 ?_
  refine T_iast dX10_keep_42 hp_77 hs_77 h.2.2.2.2.2.1 ?_
  refine T_aload_n dX10_keep_43 rfl 1 rfl ?_
  refine T_get (v := .ref 77) dX10_keep_44 fl_X10_147 hp_60 hs_60 rfl rfl ?_
  refine T_iconst (v := 3) dX10_keep_47 (by decide) ?_
  refine T_aload_n dX10_keep_48 rfl 1 rfl ?_
  refine T_get (v := .ref 64) dX10_keep_49 fl_X10_26 hp_60 hs_60 rfl rfl ?_
  refine T_iload_n dX10_keep_52 rfl 0 rfl ?_
  refine T_iald dX10_keep_53 hp_64 hs_64 h.2.2.2.2.2.2.1 ?_
  refine T_iast dX10_keep_54 hp_77 hs_77 h.2.2.2.2.2.2.2.1 ?_
  refine T_aload_n dX10_keep_55 rfl 1 rfl ?_
  refine T_get (v := .ref 77) dX10_keep_56 fl_X10_147 hp_60 hs_60 rfl rfl ?_
  refine T_iconst (v := 4) dX10_keep_59 (by decide) ?_
  refine T_aload_n dX10_keep_60 rfl 1 rfl ?_
  refine T_get (v := .ref 65) dX10_keep_61 fl_X10_29 hp_60 hs_60 rfl rfl ?_
  refine T_iload_n dX10_keep_64 rfl 0 rfl ?_
  refine T_iald dX10_keep_65 hp_65 hs_65 h.2.2.2.2.2.2.2.2.1 ?_
  refine T_iast dX10_keep_66 hp_77 hs_77 h.2.2.2.2.2.2.2.2.2.1 ?_
  exact T_vret dX10_keep_67 rfl h.2.2.2.2.2.2.2.2.2.2

def L_X10_heapOf_4 (l : Launch) (e : hv_Ev)  (Φ : Int64 → hv_S → Prop) (y1 : Int64) (x3 : Int32) (σ : hv_S) : Prop := hv_TW l (hv_e2 e) (hv_rm 0) 0 0 m_X10_heapOf hv_no (hv_ZL (hv_e2 e) Φ) 4 [(0, .ref 60), (1, .long y1), (3, .int x3)] [] σ
set_option maxHeartbeats 4000000 in
set_option maxRecDepth 100000 in
theorem B_X10_heapOf_4 {l : Launch} {e : hv_Ev}  (y1 : Int64) (x3 : Int32) {σ : hv_S} {Φ : Int64 → hv_S → Prop} (h : (((σ.1 60 0) ≤ x3 → Φ y1 σ) ∧ (¬ (σ.1 60 0) ≤ x3 → (vp_in x3 8 ∧ (((σ.2.1 75 x3.toNatClampNeg) ≤ y1 → L_X10_heapOf_4 l e Φ y1 (x3 + 1) σ) ∧ (¬ (σ.2.1 75 x3.toNatClampNeg) ≤ y1 → (vp_in x3 8 ∧ L_X10_heapOf_4 l e Φ (σ.2.1 75 x3.toNatClampNeg) (x3 + 1) σ))))))) : L_X10_heapOf_4 l e Φ y1 x3 σ := by
  show hv_TW l (hv_e2 e) (hv_rm 0) 0 0 m_X10_heapOf hv_no (hv_ZL (hv_e2 e) Φ) 4 [(0, .ref 60), (1, .long y1), (3, .int x3)] [] σ
  refine T_iload_n dX10_heapOf_4 rfl 2 rfl ?_
  refine T_aload_n dX10_heapOf_5 rfl 0 rfl ?_
  refine T_get (v := .int (σ.1 60 0)) dX10_heapOf_6 fl_X10_7 hp_60 hs_60 rfl rfl ?_
  refine T_icmp_ge (tgt := 40) dX10_heapOf_9 (by decide) (fun c1 => ?_) (fun c1 => ?_)
  · refine T_lload_n dX10_heapOf_40 rfl 1 rfl ?_
    exact T_lret dX10_heapOf_41 rfl (h.1 c1)
  · refine T_aload_n dX10_heapOf_12 rfl 0 rfl ?_
    refine T_get (v := .ref 75) dX10_heapOf_13 fl_X10_127 hp_60 hs_60 rfl rfl ?_
    refine T_iload_n dX10_heapOf_16 rfl 2 rfl ?_
    refine T_lald dX10_heapOf_17 hp_75 hs_75 (h.2 c1).1 ?_
    refine T_lload_n dX10_heapOf_18 rfl 1 rfl ?_
    refine T_lc_le (tgt := 32) dX10_heapOf_19 dX10_heapOf_20 (by decide) (fun c2 => ?_) (fun c2 => ?_)
    · refine T_lload_n dX10_heapOf_32 rfl 1 rfl ?_
      refine T_lstore_n dX10_heapOf_33 rfl (by decide) rfl ?_
      refine T_iinc (v := (x3 + 1)) dX10_heapOf_34 2 rfl rfl (by decide) rfl ?_
      refine T_goto (tgt := 4) dX10_heapOf_37 (by decide) ?_
      exact T_sub [2, 1, 0] rfl ((h.2 c1).2.1 c2)
    · refine T_aload_n dX10_heapOf_23 rfl 0 rfl ?_
      refine T_get (v := .ref 75) dX10_heapOf_24 fl_X10_127 hp_60 hs_60 rfl rfl ?_
      refine T_iload_n dX10_heapOf_27 rfl 2 rfl ?_
      refine T_lald dX10_heapOf_28 hp_75 hs_75 ((h.2 c1).2.2 c2).1 ?_
      refine T_goto (tgt := 33) dX10_heapOf_29 (by decide) ?_
      refine T_lstore_n dX10_heapOf_33 rfl (by decide) rfl ?_
      refine T_iinc (v := (x3 + 1)) dX10_heapOf_34 2 rfl rfl (by decide) rfl ?_
      refine T_goto (tgt := 4) dX10_heapOf_37 (by decide) ?_
      exact T_sub [2, 1, 0] rfl ((h.2 c1).2.2 c2).2
set_option maxHeartbeats 4000000 in
set_option maxRecDepth 100000 in
theorem B_X10_heapOf {l : Launch} {e : hv_Ev}   {σ : hv_S} {Φ : Int64 → hv_S → Prop} (h : L_X10_heapOf_4 l e Φ 0 0 σ) : hv_CL l (hv_e2 e) 0 m_X10_heapOf [.ref 60] σ Φ := by
  refine hv_entL (by decide) (Nat.le_of_ble_eq_true rfl) ?_
  show hv_TW l (hv_e2 e) (hv_rm 0) 0 0 m_X10_heapOf hv_no (hv_ZL (hv_e2 e) Φ) 0 [(0, .ref 60)] [] σ
  refine T_lconst (v := 0) dX10_heapOf_0 (by decide) ?_
  refine T_lstore_n dX10_heapOf_1 rfl (by decide) rfl ?_
  refine T_iconst (v := 0) dX10_heapOf_2 (by decide) ?_
  refine T_istore_n dX10_heapOf_3 rfl (by decide) rfl ?_
  exact T_sub [2, 1, 0] rfl h

def L_X10_asBefore_2 (l : Launch) (e : hv_Ev)  (Φ : hv_S → Prop) (x1 : Int32) (x2 : Int32) (σ : hv_S) : Prop := hv_TW l (hv_e2 e) (hv_rm 0) 0 0 m_X10_asBefore hv_no (hv_ZV (hv_e2 e) Φ) 2 [(0, .ref 60), (1, .int x1), (2, .int x2)] [] σ
set_option maxHeartbeats 4000000 in
set_option maxRecDepth 100000 in
theorem B_X10_asBefore_2 {l : Launch} {e : hv_Ev}  (x1 : Int32) (x2 : Int32) {σ : hv_S} {Φ : hv_S → Prop} (h : (((σ.1 60 0) ≤ x2 → Φ σ) ∧ (¬ (σ.1 60 0) ≤ x2 → (vp_in x2 8 ∧ (vp_in ((8 * x1) + x2) 24 ∧ L_X10_asBefore_2 l e Φ x1 (x2 + 1) (hv_ui σ 62 (((8 * x1) + x2).toNatClampNeg) (σ.1 78 x2.toNatClampNeg))))))) : L_X10_asBefore_2 l e Φ x1 x2 σ := by
  show hv_TW l (hv_e2 e) (hv_rm 0) 0 0 m_X10_asBefore hv_no (hv_ZV (hv_e2 e) Φ) 2 [(0, .ref 60), (1, .int x1), (2, .int x2)] [] σ
  refine T_iload_n dX10_asBefore_2 rfl 2 rfl ?_
  refine T_aload_n dX10_asBefore_3 rfl 0 rfl ?_
  refine T_get (v := .int (σ.1 60 0)) dX10_asBefore_4 fl_X10_7 hp_60 hs_60 rfl rfl ?_
  refine T_icmp_ge (tgt := 33) dX10_asBefore_7 (by decide) (fun c1 => ?_) (fun c1 => ?_)
  · exact T_vret dX10_asBefore_33 rfl (h.1 c1)
  · refine T_aload_n dX10_asBefore_10 rfl 0 rfl ?_
    refine T_get (v := .ref 62) dX10_asBefore_11 fl_X10_20 hp_60 hs_60 rfl rfl ?_
    refine T_bipush (v := 8) dX10_asBefore_14 (by decide) ?_
    refine T_iload_n dX10_asBefore_16 rfl 1 rfl ?_
    refine T_imul dX10_asBefore_17 ?_
    refine T_iload_n dX10_asBefore_18 rfl 2 rfl ?_
    refine T_iadd dX10_asBefore_19 ?_
    refine T_aload_n dX10_asBefore_20 rfl 0 rfl ?_
    refine T_get (v := .ref 78) dX10_asBefore_21 fl_X10_150 hp_60 hs_60 rfl rfl ?_
    refine T_iload_n dX10_asBefore_24 rfl 2 rfl ?_
    refine T_iald dX10_asBefore_25 hp_78 hs_78 (h.2 c1).1 ?_
    refine T_iast dX10_asBefore_26 hp_62 hs_62 (h.2 c1).2.1 ?_
    refine T_iinc (v := (x2 + 1)) dX10_asBefore_27 2 rfl rfl (by decide) rfl ?_
    refine T_goto (tgt := 2) dX10_asBefore_30 (by decide) ?_
    exact T_sub [1, 2, 0] rfl (h.2 c1).2.2
set_option maxHeartbeats 4000000 in
set_option maxRecDepth 100000 in
theorem B_X10_asBefore {l : Launch} {e : hv_Ev}  (x1 : Int32) {σ : hv_S} {Φ : hv_S → Prop} (h : L_X10_asBefore_2 l e Φ x1 0 σ) : hv_CV l (hv_e2 e) 0 m_X10_asBefore [.ref 60, .int x1] σ Φ := by
  refine hv_entV (by decide) (Nat.le_of_ble_eq_true rfl) ?_
  show hv_TW l (hv_e2 e) (hv_rm 0) 0 0 m_X10_asBefore hv_no (hv_ZV (hv_e2 e) Φ) 0 [(0, .ref 60), (1, .int x1)] [] σ
  refine T_iconst (v := 0) dX10_asBefore_0 (by decide) ?_
  refine T_istore_n dX10_asBefore_1 rfl (by decide) rfl ?_
  exact T_sub [1, 2, 0] rfl h

set_option maxHeartbeats 4000000 in
set_option maxRecDepth 100000 in
theorem B_X10_body {l : Launch} {e : hv_Ev}  (x1 : Int32) {σ : hv_S} {Φ : hv_S → Prop} (h : ((20 ≤ (σ.1 60 46) → Φ (hv_ui σ 60 46 ((σ.1 60 46) + 1))) ∧ (¬ 20 ≤ (σ.1 60 46) → (vp_in (σ.1 60 46) 20 ∧ Φ (hv_ui (hv_ui σ 79 ((σ.1 60 46).toNatClampNeg) x1) 60 46 ((σ.1 60 46) + 1)))))) : hv_CV l (hv_e2 e) 0 m_X10_body [.ref 60, .int x1] σ Φ := by
  refine hv_entV (by decide) (Nat.le_of_ble_eq_true rfl) ?_
  show hv_TW l (hv_e2 e) (hv_rm 0) 0 0 m_X10_body hv_no (hv_ZV (hv_e2 e) Φ) 0 [(0, .ref 60), (1, .int x1)] [] σ
  refine T_aload_n dX10_body_0 rfl 0 rfl ?_
  refine T_get (v := .int (σ.1 60 46)) dX10_body_1 fl_X10_153 hp_60 hs_60 rfl rfl ?_
  refine T_bipush (v := 20) dX10_body_4 (by decide) ?_
  refine T_icmp_ge (tgt := 19) dX10_body_6 (by decide) (fun c1 => ?_) (fun c1 => ?_)
  · refine T_aload_n dX10_body_19 rfl 0 rfl ?_
    refine T_dup dX10_body_20 rfl ?_
    refine T_get (v := .int (σ.1 60 46)) dX10_body_21 fl_X10_153 hp_60 hs_60 rfl rfl ?_
    refine T_iconst (v := 1) dX10_body_24 (by decide) ?_
    refine T_iadd dX10_body_25 ?_
    refine T_puti dX10_body_26 fl_X10_153 pf_X10_46 hp_60 hs_60 rfl ?_
    exact T_vret dX10_body_29 rfl (h.1 c1)
  · refine T_aload_n dX10_body_9 rfl 0 rfl ?_
    refine T_get (v := .ref 79) dX10_body_10 fl_X10_156 hp_60 hs_60 rfl rfl ?_
    refine T_aload_n dX10_body_13 rfl 0 rfl ?_
    refine T_get (v := .int (σ.1 60 46)) dX10_body_14 fl_X10_153 hp_60 hs_60 rfl rfl ?_
    refine T_iload_n dX10_body_17 rfl 1 rfl ?_
    refine T_iast dX10_body_18 hp_79 hs_79 (h.2 c1).1 ?_
    refine T_aload_n dX10_body_19 rfl 0 rfl ?_
    refine T_dup dX10_body_20 rfl ?_
    refine T_get (v := .int (σ.1 60 46)) dX10_body_21 fl_X10_153 hp_60 hs_60 rfl rfl ?_
    refine T_iconst (v := 1) dX10_body_24 (by decide) ?_
    refine T_iadd dX10_body_25 ?_
    refine T_puti dX10_body_26 fl_X10_153 pf_X10_46 hp_60 hs_60 rfl ?_
    exact T_vret dX10_body_29 rfl ((h.2 c1).2)

set_option maxHeartbeats 4000000 in
set_option maxRecDepth 100000 in
theorem B_X10_count {l : Launch} {e : hv_Ev}  (x1 : Int32) {σ : hv_S} {Φ : Int32 → hv_S → Prop} (h : ((x1 = 0 → Φ (σ.1 60 0) σ) ∧ (x1 = 1 → Φ (σ.1 60 9) σ) ∧ (x1 = 2 → Φ (σ.1 60 10) σ) ∧ (x1 = 3 → Φ (σ.1 60 1) σ) ∧ (x1 = 4 → Φ (σ.1 60 46) σ) ∧ (¬ x1 = 0 → ¬ x1 = 1 → ¬ x1 = 2 → ¬ x1 = 3 → ¬ x1 = 4 → Φ (-2) σ))) : hv_CI l (hv_e2 e) 0 m_X10_count [.ref 60, .int x1] σ Φ := by
  refine hv_entI (by decide) (Nat.le_of_ble_eq_true rfl) ?_
  show hv_TW l (hv_e2 e) (hv_rm 0) 0 0 m_X10_count hv_no (hv_ZI (hv_e2 e) Φ) 0 [(0, .ref 60), (1, .int x1)] [] σ
  refine T_iload_n dX10_count_0 rfl 1 rfl ?_
  by_cases c1 : x1 = 0
  · refine T_tableIn (off := 35) (tgt := 36) dX10_count_1 (by rw [c1]; decide) (by rw [c1]; decide) (by rw [c1]; rfl) (by decide) ?_
    refine T_aload_n dX10_count_36 rfl 0 rfl ?_
    refine T_get (v := .int (σ.1 60 0)) dX10_count_37 fl_X10_7 hp_60 hs_60 rfl rfl ?_
    exact T_iret dX10_count_40 rfl (h.1 c1)
  · skip
    by_cases c2 : x1 = 1
    · refine T_tableIn (off := 40) (tgt := 41) dX10_count_1 (by rw [c2]; decide) (by rw [c2]; decide) (by rw [c2]; rfl) (by decide) ?_
      refine T_aload_n dX10_count_41 rfl 0 rfl ?_
      refine T_get (v := .int (σ.1 60 9)) dX10_count_42 fl_X10_39 hp_60 hs_60 rfl rfl ?_
      exact T_iret dX10_count_45 rfl (h.2.1 c2)
    · skip
      by_cases c3 : x1 = 2
      · refine T_tableIn (off := 45) (tgt := 46) dX10_count_1 (by rw [c3]; decide) (by rw [c3]; decide) (by rw [c3]; rfl) (by decide) ?_
        refine T_aload_n dX10_count_46 rfl 0 rfl ?_
        refine T_get (v := .int (σ.1 60 10)) dX10_count_47 fl_X10_42 hp_60 hs_60 rfl rfl ?_
        exact T_iret dX10_count_50 rfl (h.2.2.1 c3)
      · skip
        by_cases c4 : x1 = 3
        · refine T_tableIn (off := 50) (tgt := 51) dX10_count_1 (by rw [c4]; decide) (by rw [c4]; decide) (by rw [c4]; rfl) (by decide) ?_
          refine T_aload_n dX10_count_51 rfl 0 rfl ?_
          refine T_get (v := .int (σ.1 60 1)) dX10_count_52 fl_X10_13 hp_60 hs_60 rfl rfl ?_
          exact T_iret dX10_count_55 rfl (h.2.2.2.1 c4)
        · skip
          by_cases c5 : x1 = 4
          · refine T_tableIn (off := 55) (tgt := 56) dX10_count_1 (by rw [c5]; decide) (by rw [c5]; decide) (by rw [c5]; rfl) (by decide) ?_
            refine T_aload_n dX10_count_56 rfl 0 rfl ?_
            refine T_get (v := .int (σ.1 60 46)) dX10_count_57 fl_X10_153 hp_60 hs_60 rfl rfl ?_
            exact T_iret dX10_count_60 rfl (h.2.2.2.2.1 c5)
          · skip
            refine T_tableOut (tgt := 61) dX10_count_1 (by have q0 := lv_neT c1 (a := 0) (by decide); have q1 := lv_neT c2 (a := 1) (by decide); have q2 := lv_neT c3 (a := 2) (by decide); have q3 := lv_neT c4 (a := 3) (by decide); have q4 := lv_neT c5 (a := 4) (by decide); omega) (by decide) ?_
            refine T_bipush (v := (-2)) dX10_count_61 (by decide) ?_
            exact T_iret dX10_count_63 rfl (h.2.2.2.2.2 c1 c2 c3 c4 c5)

set_option maxHeartbeats 4000000 in
set_option maxRecDepth 100000 in
theorem B_X10_narrow {l : Launch} {e : hv_Ev}  (x1 : Int32) (y2 : Int64) {σ : hv_S} {Φ : Int64 → hv_S → Prop} (h : ((x1 ≠ 0 → ((x1 ≠ 1 → ((x1 ≠ 2 → ((x1 ≠ 4 → Φ y2 σ) ∧ (x1 = 4 → ((y2 = 0 → Φ 0 σ) ∧ (¬ y2 = 0 → Φ 1 σ))))) ∧ (x1 = 2 → Φ y2.toInt32.toInt64 σ))) ∧ (x1 = 1 → Φ y2.toInt32.toInt16.toInt32.toInt64 σ))) ∧ (x1 = 0 → Φ y2.toInt32.toInt8.toInt32.toInt64 σ))) : hv_CL l (hv_e2 e) 0 m_X10_narrow [.ref 60, .int x1, .long y2] σ Φ := by
  refine hv_entL (by decide) (Nat.le_of_ble_eq_true rfl) ?_
  show hv_TW l (hv_e2 e) (hv_rm 0) 0 0 m_X10_narrow hv_no (hv_ZL (hv_e2 e) Φ) 0 [(0, .ref 60), (1, .int x1), (2, .long y2)] [] σ
  refine T_iload_n dX10_narrow_0 rfl 1 rfl ?_
  refine T_if_ne (tgt := 11) dX10_narrow_1 (by decide) (fun c1 => ?_) (fun c1 => ?_)
  · refine T_iload_n dX10_narrow_11 rfl 1 rfl ?_
    refine T_iconst (v := 1) dX10_narrow_12 (by decide) ?_
    refine T_icmp_ne (tgt := 23) dX10_narrow_13 (by decide) (fun c2 => ?_) (fun c2 => ?_)
    · refine T_iload_n dX10_narrow_23 rfl 1 rfl ?_
      refine T_iconst (v := 2) dX10_narrow_24 (by decide) ?_
      refine T_icmp_ne (tgt := 34) dX10_narrow_25 (by decide) (fun c3 => ?_) (fun c3 => ?_)
      · refine T_iload_n dX10_narrow_34 rfl 1 rfl ?_
        refine T_iconst (v := 4) dX10_narrow_35 (by decide) ?_
        refine T_icmp_ne (tgt := 53) dX10_narrow_36 (by decide) (fun c4 => ?_) (fun c4 => ?_)
        · refine T_lload_n dX10_narrow_53 rfl 2 rfl ?_
          exact T_lret dX10_narrow_54 rfl ((((h.1 c1).1 c2).1 c3).1 c4)
        · refine T_lload_n dX10_narrow_39 rfl 2 rfl ?_
          refine T_lconst (v := 0) dX10_narrow_40 (by decide) ?_
          refine T_lc_eq (tgt := 49) dX10_narrow_41 dX10_narrow_42 (by decide) (fun c5 => ?_) (fun c5 => ?_)
          · refine T_lconst (v := 0) dX10_narrow_49 (by decide) ?_
            refine T_goto (tgt := 54) dX10_narrow_50 (by decide) ?_
            exact T_lret dX10_narrow_54 rfl (((((h.1 c1).1 c2).1 c3).2 c4).1 c5)
          · refine T_lconst (v := 1) dX10_narrow_45 (by decide) ?_
            refine T_goto (tgt := 54) dX10_narrow_46 (by decide) ?_
            exact T_lret dX10_narrow_54 rfl (((((h.1 c1).1 c2).1 c3).2 c4).2 c5)
      · refine T_lload_n dX10_narrow_28 rfl 2 rfl ?_
        refine T_l2i dX10_narrow_29 ?_
        refine T_i2l dX10_narrow_30 ?_
        refine T_goto (tgt := 54) dX10_narrow_31 (by decide) ?_
        exact T_lret dX10_narrow_54 rfl (((h.1 c1).1 c2).2 c3)
    · refine T_lload_n dX10_narrow_16 rfl 2 rfl ?_
      refine T_l2i dX10_narrow_17 ?_
      refine T_i2s dX10_narrow_18 ?_
      refine T_i2l dX10_narrow_19 ?_
      refine T_goto (tgt := 54) dX10_narrow_20 (by decide) ?_
      exact T_lret dX10_narrow_54 rfl ((h.1 c1).2 c2)
  · refine T_lload_n dX10_narrow_4 rfl 2 rfl ?_
    refine T_l2i dX10_narrow_5 ?_
    refine T_i2b dX10_narrow_6 ?_
    refine T_i2l dX10_narrow_7 ?_
    refine T_goto (tgt := 54) dX10_narrow_8 (by decide) ?_
    exact T_lret dX10_narrow_54 rfl (h.2 c1)

set_option maxHeartbeats 4000000 in
set_option maxRecDepth 100000 in
theorem B_X10_isMember {l : Launch} {e : hv_Ev}  (x1 : Int32) {σ : hv_S} {Φ : Int32 → hv_S → Prop} (h : hv_CI l (hv_e2 e) 0 m_X10_in [.ref 60, .int x1, .int 0, .int ((σ.1 60 0) - 1)] σ (fun v2 s1 => ((v2 = 0 ∨ v2 = 1) ∧ Φ v2 s1))) : hv_CI l (hv_e2 e) 1 m_X10_isMember [.ref 60, .int x1] σ Φ := by
  refine hv_entI (by decide) (Nat.le_of_ble_eq_true rfl) ?_
  show hv_TW l (hv_e2 e) (hv_rm 1) 0 0 m_X10_isMember hv_no (hv_ZI (hv_e2 e) Φ) 0 [(0, .ref 60), (1, .int x1)] [] σ
  refine T_aload_n dX10_isMember_0 rfl 0 rfl ?_
  refine T_iload_n dX10_isMember_1 rfl 1 rfl ?_
  refine T_iconst (v := 0) dX10_isMember_2 (by decide) ?_
  refine T_aload_n dX10_isMember_3 rfl 0 rfl ?_
  refine T_get (v := .int (σ.1 60 0)) dX10_isMember_4 fl_X10_7 hp_60 hs_60 rfl rfl ?_
  refine T_iconst (v := 1) dX10_isMember_7 (by decide) ?_
  refine T_isub dX10_isMember_8 ?_
  refine T_VI (As := [.int x1, .int 0, .int ((σ.1 60 0) - 1)]) dX10_isMember_9 mv_X10_171 hp_60 hs_60 rfl (Nat.le_of_ble_eq_true rfl) (hv_ok1 rfl) rfl h (fun v2 s1 h3 => ?_)
  exact T_zret dX10_isMember_12 rfl h3.1 h3.2

set_option maxHeartbeats 4000000 in
set_option maxRecDepth 100000 in
theorem B_X10_isMatter {l : Launch} {e : hv_Ev}  (x1 : Int32) {σ : hv_S} {Φ : Int32 → hv_S → Prop} (h : hv_CI l (hv_e2 e) 0 m_X10_in [.ref 60, .int x1, .int 0, .int 2] σ (fun v2 s1 => ((v2 = 0 ∨ v2 = 1) ∧ Φ v2 s1))) : hv_CI l (hv_e2 e) 1 m_X10_isMatter [.ref 60, .int x1] σ Φ := by
  refine hv_entI (by decide) (Nat.le_of_ble_eq_true rfl) ?_
  show hv_TW l (hv_e2 e) (hv_rm 1) 0 0 m_X10_isMatter hv_no (hv_ZI (hv_e2 e) Φ) 0 [(0, .ref 60), (1, .int x1)] [] σ
  refine T_aload_n dX10_isMatter_0 rfl 0 rfl ?_
  refine T_iload_n dX10_isMatter_1 rfl 1 rfl ?_
  refine T_iconst (v := 0) dX10_isMatter_2 (by decide) ?_
  refine T_iconst (v := 2) dX10_isMatter_3 (by decide) ?_
  refine T_VI (As := [.int x1, .int 0, .int 2]) dX10_isMatter_4 mv_X10_171 hp_60 hs_60 rfl (Nat.le_of_ble_eq_true rfl) (hv_ok1 rfl) rfl h (fun v2 s1 h3 => ?_)
  exact T_zret dX10_isMatter_7 rfl h3.1 h3.2

def L_X10_member_14 (l : Launch) (e : hv_Ev)  (Φ : Int32 → hv_S → Prop) (x1 : Int32) (σ : hv_S) : Prop := hv_TW l (hv_e2 e) (hv_rm 1) 0 0 m_X10_member hv_no (hv_ZI (hv_e2 e) Φ) 14 [(0, .ref 60), (1, .int x1)] [] σ
set_option maxHeartbeats 4000000 in
set_option maxRecDepth 100000 in
theorem B_X10_member_14 {l : Launch} {e : hv_Ev}  (x1 : Int32) {σ : hv_S} {Φ : Int32 → hv_S → Prop} (h : ((3 ≤ x1 → Φ (((σ.1 60 0) + 1) - 1) (hv_ui (hv_ui σ 60 0 ((σ.1 60 0) + 1)) 60 24 0)) ∧ (¬ 3 ≤ x1 → hv_CV l (hv_e2 e) 0 m_X10_put [.ref 60, .int ((8 * x1) + (σ.1 60 0)), .int 1, .int (-1), .int (-1), .int 0] σ (fun s2 => (vp_in ((8 * x1) + (s2.1 60 0)) 24 ∧ L_X10_member_14 l e Φ (x1 + 1) (hv_ui s2 66 (((8 * x1) + (s2.1 60 0)).toNatClampNeg) 5)))))) : L_X10_member_14 l e Φ x1 σ := by
  show hv_TW l (hv_e2 e) (hv_rm 1) 0 0 m_X10_member hv_no (hv_ZI (hv_e2 e) Φ) 14 [(0, .ref 60), (1, .int x1)] [] σ
  refine T_iload_n dX10_member_14 rfl 1 rfl ?_
  refine T_iconst (v := 3) dX10_member_15 (by decide) ?_
  refine T_icmp_ge (tgt := 57) dX10_member_16 (by decide) (fun c5 => ?_) (fun c5 => ?_)
  · refine T_aload_n dX10_member_57 rfl 0 rfl ?_
    refine T_dup dX10_member_58 rfl ?_
    refine T_get (v := .int (σ.1 60 0)) dX10_member_59 fl_X10_7 hp_60 hs_60 rfl rfl ?_
    refine T_iconst (v := 1) dX10_member_62 (by decide) ?_
    refine T_iadd dX10_member_63 ?_
    refine T_puti dX10_member_64 fl_X10_7 pf_X10_0 hp_60 hs_60 rfl ?_
    refine T_aload_n dX10_member_67 rfl 0 rfl ?_
    refine T_iconst (v := 0) dX10_member_68 (by decide) ?_
    refine T_putz dX10_member_69 fl_X10_85 pf_X10_24 hp_60 hs_60 rfl (by decide) ?_
    refine T_aload_n dX10_member_72 rfl 0 rfl ?_
    refine T_get (v := .int ((σ.1 60 0) + 1)) dX10_member_73 fl_X10_7 hp_60 hs_60 rfl rfl ?_
    refine T_iconst (v := 1) dX10_member_76 (by decide) ?_
    refine T_isub dX10_member_77 ?_
    exact T_iret dX10_member_78 rfl (h.1 c5)
  · refine T_aload_n dX10_member_19 rfl 0 rfl ?_
    refine T_bipush (v := 8) dX10_member_20 (by decide) ?_
    refine T_iload_n dX10_member_22 rfl 1 rfl ?_
    refine T_imul dX10_member_23 ?_
    refine T_aload_n dX10_member_24 rfl 0 rfl ?_
    refine T_get (v := .int (σ.1 60 0)) dX10_member_25 fl_X10_7 hp_60 hs_60 rfl rfl ?_
    refine T_iadd dX10_member_28 ?_
    refine T_iconst (v := 1) dX10_member_29 (by decide) ?_
    refine T_iconst (v := (-1)) dX10_member_30 (by decide) ?_
    refine T_iconst (v := (-1)) dX10_member_31 (by decide) ?_
    refine T_iconst (v := 0) dX10_member_32 (by decide) ?_
    refine T_VV (As := [.int ((8 * x1) + (σ.1 60 0)), .int 1, .int (-1), .int (-1), .int 0]) dX10_member_33 mv_X10_175 hp_60 hs_60 rfl (Nat.le_of_ble_eq_true rfl) (hv_ok1 rfl) rfl (h.2 c5) (fun s2 h4 => ?_)
    refine T_aload_n dX10_member_36 rfl 0 rfl ?_
    refine T_get (v := .ref 66) dX10_member_37 fl_X10_32 hp_60 hs_60 rfl rfl ?_
    refine T_bipush (v := 8) dX10_member_40 (by decide) ?_
    refine T_iload_n dX10_member_42 rfl 1 rfl ?_
    refine T_imul dX10_member_43 ?_
    refine T_aload_n dX10_member_44 rfl 0 rfl ?_
    refine T_get (v := .int (s2.1 60 0)) dX10_member_45 fl_X10_7 hp_60 hs_60 rfl rfl ?_
    refine T_iadd dX10_member_48 ?_
    refine T_iconst (v := 5) dX10_member_49 (by decide) ?_
    refine T_iast dX10_member_50 hp_66 hs_66 h4.1 ?_
    refine T_iinc (v := (x1 + 1)) dX10_member_51 1 rfl rfl (by decide) rfl ?_
    refine T_goto (tgt := 14) dX10_member_54 (by decide) ?_
    exact T_sub [1, 0] rfl h4.2
set_option maxHeartbeats 4000000 in
set_option maxRecDepth 100000 in
theorem B_X10_member {l : Launch} {e : hv_Ev}   {σ : hv_S} {Φ : Int32 → hv_S → Prop} (h : (((σ.1 60 0) ≠ 8 → L_X10_member_14 l e Φ 0 σ) ∧ ((σ.1 60 0) = 8 → Φ (-4) σ))) : hv_CI l (hv_e2 e) 1 m_X10_member [.ref 60] σ Φ := by
  refine hv_entI (by decide) (Nat.le_of_ble_eq_true rfl) ?_
  show hv_TW l (hv_e2 e) (hv_rm 1) 0 0 m_X10_member hv_no (hv_ZI (hv_e2 e) Φ) 0 [(0, .ref 60)] [] σ
  refine T_aload_n dX10_member_0 rfl 0 rfl ?_
  refine T_get (v := .int (σ.1 60 0)) dX10_member_1 fl_X10_7 hp_60 hs_60 rfl rfl ?_
  refine T_bipush (v := 8) dX10_member_4 (by decide) ?_
  refine T_icmp_ne (tgt := 12) dX10_member_6 (by decide) (fun c1 => ?_) (fun c1 => ?_)
  · refine T_iconst (v := 0) dX10_member_12 (by decide) ?_
    refine T_istore_n dX10_member_13 rfl (by decide) rfl ?_
    exact T_sub [1, 0] rfl (h.1 c1)
  · refine T_bipush (v := (-4)) dX10_member_9 (by decide) ?_
    exact T_iret dX10_member_11 rfl (h.2 c1)

set_option maxHeartbeats 4000000 in
set_option maxRecDepth 100000 in
theorem B_X10_pass {l : Launch} {e : hv_Ev}  (x1 : Int32) {σ : hv_S} {Φ : Int32 → hv_S → Prop} (h : hv_CI l (hv_e2 e) 0 m_X10_in [.ref 60, .int x1, .int 1, .int 20] σ (fun v2 s1 => ((v2 = 0 → Φ (-2) s1) ∧ (¬ v2 = 0 → ((((s1.1 60 1) + x1) ≤ 99 → Φ ((s1.1 60 1) + x1) (hv_ui s1 60 1 ((s1.1 60 1) + x1))) ∧ (¬ ((s1.1 60 1) + x1) ≤ 99 → Φ (-2) s1)))))) : hv_CI l (hv_e2 e) 1 m_X10_pass [.ref 60, .int x1] σ Φ := by
  refine hv_entI (by decide) (Nat.le_of_ble_eq_true rfl) ?_
  show hv_TW l (hv_e2 e) (hv_rm 1) 0 0 m_X10_pass hv_no (hv_ZI (hv_e2 e) Φ) 0 [(0, .ref 60), (1, .int x1)] [] σ
  refine T_aload_n dX10_pass_0 rfl 0 rfl ?_
  refine T_iload_n dX10_pass_1 rfl 1 rfl ?_
  refine T_iconst (v := 1) dX10_pass_2 (by decide) ?_
  refine T_bipush (v := 20) dX10_pass_3 (by decide) ?_
  refine T_VI (As := [.int x1, .int 1, .int 20]) dX10_pass_5 mv_X10_171 hp_60 hs_60 rfl (Nat.le_of_ble_eq_true rfl) (hv_ok1 rfl) rfl h (fun v2 s1 h3 => ?_)
  refine T_if_eq (tgt := 22) dX10_pass_8 (by decide) (fun c4 => ?_) (fun c4 => ?_)
  · refine T_bipush (v := (-2)) dX10_pass_22 (by decide) ?_
    exact T_iret dX10_pass_24 rfl (h3.1 c4)
  · refine T_aload_n dX10_pass_11 rfl 0 rfl ?_
    refine T_get (v := .int (s1.1 60 1)) dX10_pass_12 fl_X10_13 hp_60 hs_60 rfl rfl ?_
    refine T_iload_n dX10_pass_15 rfl 1 rfl ?_
    refine T_iadd dX10_pass_16 ?_
    refine T_bipush (v := 99) dX10_pass_17 (by decide) ?_
    refine T_icmp_le (tgt := 25) dX10_pass_19 (by decide) (fun c5 => ?_) (fun c5 => ?_)
    · refine T_aload_n dX10_pass_25 rfl 0 rfl ?_
      refine T_dup dX10_pass_26 rfl ?_
      refine T_get (v := .int (s1.1 60 1)) dX10_pass_27 fl_X10_13 hp_60 hs_60 rfl rfl ?_
      refine T_iload_n dX10_pass_30 rfl 1 rfl ?_
      refine T_iadd dX10_pass_31 ?_
      refine T_puti dX10_pass_32 fl_X10_13 pf_X10_1 hp_60 hs_60 rfl ?_
      refine T_aload_n dX10_pass_35 rfl 0 rfl ?_
      refine T_get (v := .int ((s1.1 60 1) + x1)) dX10_pass_36 fl_X10_13 hp_60 hs_60 rfl rfl ?_
      exact T_iret dX10_pass_39 rfl ((h3.2 c4).1 c5)
    · refine T_bipush (v := (-2)) dX10_pass_22 (by decide) ?_
      exact T_iret dX10_pass_24 rfl ((h3.2 c4).2 c5)

def L_X10_feed_31 (l : Launch) (e : hv_Ev)  (Φ : Int32 → hv_S → Prop) (x1 : Int32) (x3 : Int32) (σ : hv_S) : Prop := hv_TW l (hv_e2 e) (hv_rm 1) 0 0 m_X10_feed hv_no (hv_ZI (hv_e2 e) Φ) 31 [(0, .ref 60), (1, .int x1), (3, .int x3)] [] σ
set_option maxHeartbeats 4000000 in
set_option maxRecDepth 100000 in
theorem B_X10_feed_31 {l : Launch} {e : hv_Ev}  (x1 : Int32) (x3 : Int32) {σ : hv_S} {Φ : Int32 → hv_S → Prop} (h : ((x3 < 0 → Φ (σ.1 60 10) σ) ∧ (¬ x3 < 0 → (vp_in (100 + (σ.1 60 10)) 200 ∧ L_X10_feed_31 l e Φ x1 (x3 + (-1)) (hv_ui (hv_ui σ 68 ((100 + (σ.1 60 10)).toNatClampNeg) ((x1 >>> ((8 * x3) &&& 31)).toInt8.toInt32)) 60 10 ((σ.1 60 10) + 1)))))) : L_X10_feed_31 l e Φ x1 x3 σ := by
  show hv_TW l (hv_e2 e) (hv_rm 1) 0 0 m_X10_feed hv_no (hv_ZI (hv_e2 e) Φ) 31 [(0, .ref 60), (1, .int x1), (3, .int x3)] [] σ
  refine T_iload_n dX10_feed_31 rfl 2 rfl ?_
  refine T_if_lt (tgt := 70) dX10_feed_32 (by decide) (fun c6 => ?_) (fun c6 => ?_)
  · refine T_aload_n dX10_feed_70 rfl 0 rfl ?_
    refine T_get (v := .int (σ.1 60 10)) dX10_feed_71 fl_X10_42 hp_60 hs_60 rfl rfl ?_
    exact T_iret dX10_feed_74 rfl (h.1 c6)
  · refine T_aload_n dX10_feed_35 rfl 0 rfl ?_
    refine T_get (v := .ref 68) dX10_feed_36 fl_X10_45 hp_60 hs_60 rfl rfl ?_
    refine T_bipush (v := 100) dX10_feed_39 (by decide) ?_
    refine T_aload_n dX10_feed_41 rfl 0 rfl ?_
    refine T_get (v := .int (σ.1 60 10)) dX10_feed_42 fl_X10_42 hp_60 hs_60 rfl rfl ?_
    refine T_iadd dX10_feed_45 ?_
    refine T_iload_n dX10_feed_46 rfl 1 rfl ?_
    refine T_bipush (v := 8) dX10_feed_47 (by decide) ?_
    refine T_iload_n dX10_feed_49 rfl 2 rfl ?_
    refine T_imul dX10_feed_50 ?_
    refine T_ishr dX10_feed_51 ?_
    refine T_i2b dX10_feed_52 ?_
    refine T_iast dX10_feed_53 hp_68 hs_68 (h.2 c6).1 ?_
    refine T_aload_n dX10_feed_54 rfl 0 rfl ?_
    refine T_dup dX10_feed_55 rfl ?_
    refine T_get (v := .int (σ.1 60 10)) dX10_feed_56 fl_X10_42 hp_60 hs_60 rfl rfl ?_
    refine T_iconst (v := 1) dX10_feed_59 (by decide) ?_
    refine T_iadd dX10_feed_60 ?_
    refine T_puti dX10_feed_61 fl_X10_42 pf_X10_10 hp_60 hs_60 rfl ?_
    refine T_iinc (v := (x3 + (-1))) dX10_feed_64 2 rfl rfl (by decide) rfl ?_
    refine T_goto (tgt := 31) dX10_feed_67 (by decide) ?_
    exact T_sub [1, 2, 0] rfl (h.2 c6).2
set_option maxHeartbeats 4000000 in
set_option maxRecDepth 100000 in
theorem B_X10_feed {l : Launch} {e : hv_Ev}  (x1 : Int32) (x2 : Int32) {σ : hv_S} {Φ : Int32 → hv_S → Prop} (h : hv_CI l (hv_e2 e) 0 m_X10_in [.ref 60, .int x2, .int 0, .int 4] σ (fun v2 s1 => ((v2 ≠ 0 → ((((s1.1 60 10) + x2) ≤ 100 → L_X10_feed_31 l e Φ x1 (x2 - 1) s1) ∧ (¬ ((s1.1 60 10) + x2) ≤ 100 → Φ (-4) s1))) ∧ (v2 = 0 → Φ (-2) s1)))) : hv_CI l (hv_e2 e) 1 m_X10_feed [.ref 60, .int x1, .int x2] σ Φ := by
  refine hv_entI (by decide) (Nat.le_of_ble_eq_true rfl) ?_
  show hv_TW l (hv_e2 e) (hv_rm 1) 0 0 m_X10_feed hv_no (hv_ZI (hv_e2 e) Φ) 0 [(0, .ref 60), (1, .int x1), (2, .int x2)] [] σ
  refine T_aload_n dX10_feed_0 rfl 0 rfl ?_
  refine T_iload_n dX10_feed_1 rfl 2 rfl ?_
  refine T_iconst (v := 0) dX10_feed_2 (by decide) ?_
  refine T_iconst (v := 4) dX10_feed_3 (by decide) ?_
  refine T_VI (As := [.int x2, .int 0, .int 4]) dX10_feed_4 mv_X10_171 hp_60 hs_60 rfl (Nat.le_of_ble_eq_true rfl) (hv_ok1 rfl) rfl h (fun v2 s1 h3 => ?_)
  refine T_if_ne (tgt := 13) dX10_feed_7 (by decide) (fun c4 => ?_) (fun c4 => ?_)
  · refine T_aload_n dX10_feed_13 rfl 0 rfl ?_
    refine T_get (v := .int (s1.1 60 10)) dX10_feed_14 fl_X10_42 hp_60 hs_60 rfl rfl ?_
    refine T_iload_n dX10_feed_17 rfl 2 rfl ?_
    refine T_iadd dX10_feed_18 ?_
    refine T_bipush (v := 100) dX10_feed_19 (by decide) ?_
    refine T_icmp_le (tgt := 27) dX10_feed_21 (by decide) (fun c5 => ?_) (fun c5 => ?_)
    · refine T_iload_n dX10_feed_27 rfl 2 rfl ?_
      refine T_iconst (v := 1) dX10_feed_28 (by decide) ?_
      refine T_isub dX10_feed_29 ?_
      refine T_istore_n dX10_feed_30 rfl (by decide) rfl ?_
      exact T_sub [1, 2, 0] rfl ((h3.1 c4).1 c5)
    · refine T_bipush (v := (-4)) dX10_feed_24 (by decide) ?_
      exact T_iret dX10_feed_26 rfl ((h3.1 c4).2 c5)
  · refine T_bipush (v := (-2)) dX10_feed_10 (by decide) ?_
    exact T_iret dX10_feed_12 rfl (h3.2 c4)

set_option maxHeartbeats 4000000 in
set_option maxRecDepth 100000 in
theorem B_X10_isDigit {l : Launch} {e : hv_Ev}   {σ : hv_S} {Φ : Int32 → hv_S → Prop} (h : hv_CI l (hv_e2 e) 0 m_X10_next [.ref 60] σ (fun v2 s1 => hv_CI l (hv_e2 e) 0 m_X10_in [.ref 60, .int v2, .int 48, .int 57] s1 (fun v5 s4 => ((v5 = 0 ∨ v5 = 1) ∧ Φ v5 s4)))) : hv_CI l (hv_e2 e) 1 m_X10_isDigit [.ref 60] σ Φ := by
  refine hv_entI (by decide) (Nat.le_of_ble_eq_true rfl) ?_
  show hv_TW l (hv_e2 e) (hv_rm 1) 0 0 m_X10_isDigit hv_no (hv_ZI (hv_e2 e) Φ) 0 [(0, .ref 60)] [] σ
  refine T_aload_n dX10_isDigit_0 rfl 0 rfl ?_
  refine T_aload_n dX10_isDigit_1 rfl 0 rfl ?_
  refine T_VI (As := []) dX10_isDigit_2 mv_X10_186 hp_60 hs_60 rfl (Nat.le_of_ble_eq_true rfl) (hv_ok1 rfl) rfl h (fun v2 s1 h3 => ?_)
  refine T_bipush (v := 48) dX10_isDigit_5 (by decide) ?_
  refine T_bipush (v := 57) dX10_isDigit_7 (by decide) ?_
  refine T_VI (As := [.int v2, .int 48, .int 57]) dX10_isDigit_9 mv_X10_171 hp_60 hs_60 rfl (Nat.le_of_ble_eq_true rfl) (hv_ok1 rfl) rfl h3 (fun v5 s4 h6 => ?_)
  exact T_zret dX10_isDigit_12 rfl h6.1 h6.2

set_option maxHeartbeats 4000000 in
set_option maxRecDepth 100000 in
theorem B_X10_takes {l : Launch} {e : hv_Ev}  (x1 : Int32) {σ : hv_S} {Φ : Int32 → hv_S → Prop} (h : hv_CI l (hv_e2 e) 0 m_X10_next [.ref 60] σ (fun v2 s1 => ((v2 = x1 → Φ 1 (hv_ui s1 60 16 ((s1.1 60 16) + 1))) ∧ (¬ v2 = x1 → Φ 0 s1)))) : hv_CI l (hv_e2 e) 1 m_X10_takes [.ref 60, .int x1] σ Φ := by
  refine hv_entI (by decide) (Nat.le_of_ble_eq_true rfl) ?_
  show hv_TW l (hv_e2 e) (hv_rm 1) 0 0 m_X10_takes hv_no (hv_ZI (hv_e2 e) Φ) 0 [(0, .ref 60), (1, .int x1)] [] σ
  refine T_aload_n dX10_takes_0 rfl 0 rfl ?_
  refine T_VI (As := []) dX10_takes_1 mv_X10_186 hp_60 hs_60 rfl (Nat.le_of_ble_eq_true rfl) (hv_ok1 rfl) rfl h (fun v2 s1 h3 => ?_)
  refine T_iload_n dX10_takes_4 rfl 1 rfl ?_
  refine T_icmp_eq (tgt := 10) dX10_takes_5 (by decide) (fun c4 => ?_) (fun c4 => ?_)
  · refine T_aload_n dX10_takes_10 rfl 0 rfl ?_
    refine T_dup dX10_takes_11 rfl ?_
    refine T_get (v := .int (s1.1 60 16)) dX10_takes_12 fl_X10_60 hp_60 hs_60 rfl rfl ?_
    refine T_iconst (v := 1) dX10_takes_15 (by decide) ?_
    refine T_iadd dX10_takes_16 ?_
    refine T_puti dX10_takes_17 fl_X10_60 pf_X10_16 hp_60 hs_60 rfl ?_
    refine T_iconst (v := 1) dX10_takes_20 (by decide) ?_
    exact T_zret dX10_takes_21 rfl (by decide) (h3.1 c4)
  · refine T_iconst (v := 0) dX10_takes_8 (by decide) ?_
    exact T_zret dX10_takes_9 rfl (by decide) (h3.2 c4)

def L_X10_lostNow_4 (l : Launch) (e : hv_Ev)  (Φ : Int32 → hv_S → Prop) (x1 : Int32) (x2 : Int32) (σ : hv_S) : Prop := hv_TW l (hv_e2 e) (hv_rm 1) 0 0 m_X10_lostNow hv_no (hv_ZI (hv_e2 e) Φ) 4 [(0, .ref 60), (1, .int x1), (2, .int x2)] [] σ
def L_X10_lostNow_12 (l : Launch) (e : hv_Ev)  (Φ : Int32 → hv_S → Prop) (x1 : Int32) (x2 : Int32) (x3 : Int32) (σ : hv_S) : Prop := hv_TW l (hv_e2 e) (hv_rm 1) 0 0 m_X10_lostNow hv_no (hv_ZI (hv_e2 e) Φ) 12 [(0, .ref 60), (1, .int x1), (2, .int x2), (3, .int x3)] [] σ
def L_X10_lostNow_56 (l : Launch) (e : hv_Ev)  (Φ : Int32 → hv_S → Prop) (x1 : Int32) (x2 : Int32) (x3 : Int32) (x4 : Int32) (x5 : Int32) (σ : hv_S) : Prop := hv_TW l (hv_e2 e) (hv_rm 1) 0 0 m_X10_lostNow hv_no (hv_ZI (hv_e2 e) Φ) 56 [(0, .ref 60), (1, .int x1), (2, .int x2), (3, .int x3), (4, .int x4), (5, .int x5)] [] σ
set_option maxHeartbeats 4000000 in
set_option maxRecDepth 100000 in
theorem B_X10_lostNow_56 {l : Launch} {e : hv_Ev}  (x1 : Int32) (x2 : Int32) (x3 : Int32) (x4 : Int32) (x5 : Int32) {σ : hv_S} {Φ : Int32 → hv_S → Prop} (h : (((σ.1 60 0) ≤ x5 → ((x4 ≠ 0 → L_X10_lostNow_12 l e Φ (x1 ||| ((1 : Int32) <<< (x3 &&& 31))) 1 (x3 + 1) σ) ∧ (x4 = 0 → L_X10_lostNow_12 l e Φ x1 x2 (x3 + 1) σ))) ∧ (¬ (σ.1 60 0) ≤ x5 → ((x4 ≠ 0 → L_X10_lostNow_56 l e Φ x1 x2 x3 1 (x5 + 1) σ) ∧ (x4 = 0 → (vp_in ((8 * x3) + x5) 64 ∧ (((σ.1 74 (((8 * x3) + x5).toNatClampNeg)) ≤ 0 → L_X10_lostNow_56 l e Φ x1 x2 x3 0 (x5 + 1) σ) ∧ (¬ (σ.1 74 (((8 * x3) + x5).toNatClampNeg)) ≤ 0 → hv_CI l (hv_e2 e) 0 m_X10_has [.ref 60, .int x1, .int x5] σ (fun v9 s8 => ((v9 = 0 → L_X10_lostNow_56 l e Φ x1 x2 x3 0 (x5 + 1) s8) ∧ (¬ v9 = 0 → L_X10_lostNow_56 l e Φ x1 x2 x3 1 (x5 + 1) s8))))))))))) : L_X10_lostNow_56 l e Φ x1 x2 x3 x4 x5 σ := by
  show hv_TW l (hv_e2 e) (hv_rm 1) 0 0 m_X10_lostNow hv_no (hv_ZI (hv_e2 e) Φ) 56 [(0, .ref 60), (1, .int x1), (2, .int x2), (3, .int x3), (4, .int x4), (5, .int x5)] [] σ
  refine T_iload dX10_lostNow_56 5 rfl ?_
  refine T_aload_n dX10_lostNow_58 rfl 0 rfl ?_
  refine T_get (v := .int (σ.1 60 0)) dX10_lostNow_59 fl_X10_7 hp_60 hs_60 rfl rfl ?_
  refine T_icmp_ge (tgt := 108) dX10_lostNow_62 (by decide) (fun c11 => ?_) (fun c11 => ?_)
  · refine T_iload dX10_lostNow_108 4 rfl ?_
    refine T_if_ne (tgt := 116) dX10_lostNow_110 (by decide) (fun c12 => ?_) (fun c12 => ?_)
    · refine T_iload_n dX10_lostNow_116 rfl 1 rfl ?_
      refine T_iconst (v := 1) dX10_lostNow_117 (by decide) ?_
      refine T_iload_n dX10_lostNow_118 rfl 3 rfl ?_
      refine T_ishl dX10_lostNow_119 ?_
      refine T_ior dX10_lostNow_120 ?_
      refine T_istore_n dX10_lostNow_121 rfl (by decide) rfl ?_
      refine T_iconst (v := 1) dX10_lostNow_122 (by decide) ?_
      refine T_istore_n dX10_lostNow_123 rfl (by decide) rfl ?_
      refine T_iinc (v := (x3 + 1)) dX10_lostNow_124 3 rfl rfl (by decide) rfl ?_
      refine T_goto (tgt := 12) dX10_lostNow_127 (by decide) ?_
      exact T_sub [3, 2, 1, 0] rfl ((h.1 c11).1 c12)
    · refine T_goto (tgt := 124) dX10_lostNow_113 (by decide) ?_
      refine T_iinc (v := (x3 + 1)) dX10_lostNow_124 3 rfl rfl (by decide) rfl ?_
      refine T_goto (tgt := 12) dX10_lostNow_127 (by decide) ?_
      exact T_sub [1, 2, 3, 0] rfl ((h.1 c11).2 c12)
  · refine T_iload dX10_lostNow_65 4 rfl ?_
    refine T_if_ne (tgt := 95) dX10_lostNow_67 (by decide) (fun c13 => ?_) (fun c13 => ?_)
    · refine T_iconst (v := 1) dX10_lostNow_95 (by decide) ?_
      refine T_goto (tgt := 100) dX10_lostNow_96 (by decide) ?_
      refine T_istore dX10_lostNow_100 (by decide) rfl ?_
      refine T_iinc (v := (x5 + 1)) dX10_lostNow_102 5 rfl rfl (by decide) rfl ?_
      refine T_goto (tgt := 56) dX10_lostNow_105 (by decide) ?_
      exact T_sub [2, 3, 4, 5, 1, 0] rfl ((h.2 c11).1 c13)
    · refine T_aload_n dX10_lostNow_70 rfl 0 rfl ?_
      refine T_get (v := .ref 74) dX10_lostNow_71 fl_X10_115 hp_60 hs_60 rfl rfl ?_
      refine T_bipush (v := 8) dX10_lostNow_74 (by decide) ?_
      refine T_iload_n dX10_lostNow_76 rfl 3 rfl ?_
      refine T_imul dX10_lostNow_77 ?_
      refine T_iload dX10_lostNow_78 5 rfl ?_
      refine T_iadd dX10_lostNow_80 ?_
      refine T_iald dX10_lostNow_81 hp_74 hs_74 ((h.2 c11).2 c13).1 ?_
      refine T_if_le (tgt := 99) dX10_lostNow_82 (by decide) (fun c14 => ?_) (fun c14 => ?_)
      · refine T_iconst (v := 0) dX10_lostNow_99 (by decide) ?_
        refine T_istore dX10_lostNow_100 (by decide) rfl ?_
        refine T_iinc (v := (x5 + 1)) dX10_lostNow_102 5 rfl rfl (by decide) rfl ?_
        refine T_goto (tgt := 56) dX10_lostNow_105 (by decide) ?_
        exact T_sub [2, 3, 4, 5, 1, 0] rfl (((h.2 c11).2 c13).2.1 c14)
      · refine T_aload_n dX10_lostNow_85 rfl 0 rfl ?_
        refine T_iload_n dX10_lostNow_86 rfl 1 rfl ?_
        refine T_iload dX10_lostNow_87 5 rfl ?_
        refine T_VI (As := [.int x1, .int x5]) dX10_lostNow_89 mv_X10_241 hp_60 hs_60 rfl (Nat.le_of_ble_eq_true rfl) (hv_ok1 rfl) rfl (((h.2 c11).2 c13).2.2 c14) (fun v9 s8 h10 => ?_)
        refine T_if_eq (tgt := 99) dX10_lostNow_92 (by decide) (fun c15 => ?_) (fun c15 => ?_)
        · refine T_iconst (v := 0) dX10_lostNow_99 (by decide) ?_
          refine T_istore dX10_lostNow_100 (by decide) rfl ?_
          refine T_iinc (v := (x5 + 1)) dX10_lostNow_102 5 rfl rfl (by decide) rfl ?_
          refine T_goto (tgt := 56) dX10_lostNow_105 (by decide) ?_
          exact T_sub [2, 3, 4, 5, 1, 0] rfl (h10.1 c15)
        · refine T_iconst (v := 1) dX10_lostNow_95 (by decide) ?_
          refine T_goto (tgt := 100) dX10_lostNow_96 (by decide) ?_
          refine T_istore dX10_lostNow_100 (by decide) rfl ?_
          refine T_iinc (v := (x5 + 1)) dX10_lostNow_102 5 rfl rfl (by decide) rfl ?_
          refine T_goto (tgt := 56) dX10_lostNow_105 (by decide) ?_
          exact T_sub [2, 3, 4, 5, 1, 0] rfl (h10.2 c15)
set_option maxHeartbeats 4000000 in
set_option maxRecDepth 100000 in
theorem B_X10_lostNow_12 {l : Launch} {e : hv_Ev}  (x1 : Int32) (x2 : Int32) (x3 : Int32) {σ : hv_S} {Φ : Int32 → hv_S → Prop} (h : (((σ.1 60 0) ≤ x3 → L_X10_lostNow_4 l e Φ x1 x2 σ) ∧ (¬ (σ.1 60 0) ≤ x3 → hv_CI l (hv_e2 e) 0 m_X10_has [.ref 60, .int x1, .int x3] σ (fun v3 s2 => ((v3 = 0 → (vp_in ((8 * x3) + x3) 64 ∧ (((s2.1 74 (((8 * x3) + x3).toNatClampNeg)) ≤ 0 → L_X10_lostNow_56 l e Φ x1 x2 x3 0 0 s2) ∧ (¬ (s2.1 74 (((8 * x3) + x3).toNatClampNeg)) ≤ 0 → L_X10_lostNow_56 l e Φ x1 x2 x3 1 0 s2)))) ∧ (¬ v3 = 0 → L_X10_lostNow_12 l e Φ x1 x2 (x3 + 1) s2)))))) : L_X10_lostNow_12 l e Φ x1 x2 x3 σ := by
  show hv_TW l (hv_e2 e) (hv_rm 1) 0 0 m_X10_lostNow hv_no (hv_ZI (hv_e2 e) Φ) 12 [(0, .ref 60), (1, .int x1), (2, .int x2), (3, .int x3)] [] σ
  refine T_iload_n dX10_lostNow_12 rfl 3 rfl ?_
  refine T_aload_n dX10_lostNow_13 rfl 0 rfl ?_
  refine T_get (v := .int (σ.1 60 0)) dX10_lostNow_14 fl_X10_7 hp_60 hs_60 rfl rfl ?_
  refine T_icmp_ge (tgt := 130) dX10_lostNow_17 (by decide) (fun c5 => ?_) (fun c5 => ?_)
  · refine T_goto (tgt := 4) dX10_lostNow_130 (by decide) ?_
    exact T_sub [0, 1, 2] rfl (h.1 c5)
  · refine T_aload_n dX10_lostNow_20 rfl 0 rfl ?_
    refine T_iload_n dX10_lostNow_21 rfl 1 rfl ?_
    refine T_iload_n dX10_lostNow_22 rfl 3 rfl ?_
    refine T_VI (As := [.int x1, .int x3]) dX10_lostNow_23 mv_X10_241 hp_60 hs_60 rfl (Nat.le_of_ble_eq_true rfl) (hv_ok1 rfl) rfl (h.2 c5) (fun v3 s2 h4 => ?_)
    refine T_if_eq (tgt := 32) dX10_lostNow_26 (by decide) (fun c6 => ?_) (fun c6 => ?_)
    · refine T_aload_n dX10_lostNow_32 rfl 0 rfl ?_
      refine T_get (v := .ref 74) dX10_lostNow_33 fl_X10_115 hp_60 hs_60 rfl rfl ?_
      refine T_bipush (v := 8) dX10_lostNow_36 (by decide) ?_
      refine T_iload_n dX10_lostNow_38 rfl 3 rfl ?_
      refine T_imul dX10_lostNow_39 ?_
      refine T_iload_n dX10_lostNow_40 rfl 3 rfl ?_
      refine T_iadd dX10_lostNow_41 ?_
      refine T_iald dX10_lostNow_42 hp_74 hs_74 (h4.1 c6).1 ?_
      refine T_if_le (tgt := 50) dX10_lostNow_43 (by decide) (fun c7 => ?_) (fun c7 => ?_)
      · refine T_iconst (v := 0) dX10_lostNow_50 (by decide) ?_
        refine T_istore dX10_lostNow_51 (by decide) rfl ?_
        refine T_iconst (v := 0) dX10_lostNow_53 (by decide) ?_
        refine T_istore dX10_lostNow_54 (by decide) rfl ?_
        exact T_sub [2, 3, 4, 5, 1, 0] rfl ((h4.1 c6).2.1 c7)
      · refine T_iconst (v := 1) dX10_lostNow_46 (by decide) ?_
        refine T_goto (tgt := 51) dX10_lostNow_47 (by decide) ?_
        refine T_istore dX10_lostNow_51 (by decide) rfl ?_
        refine T_iconst (v := 0) dX10_lostNow_53 (by decide) ?_
        refine T_istore dX10_lostNow_54 (by decide) rfl ?_
        exact T_sub [2, 3, 4, 5, 1, 0] rfl ((h4.1 c6).2.2 c7)
    · refine T_goto (tgt := 124) dX10_lostNow_29 (by decide) ?_
      refine T_iinc (v := (x3 + 1)) dX10_lostNow_124 3 rfl rfl (by decide) rfl ?_
      refine T_goto (tgt := 12) dX10_lostNow_127 (by decide) ?_
      exact T_sub [1, 2, 3, 0] rfl (h4.2 c6)
set_option maxHeartbeats 4000000 in
set_option maxRecDepth 100000 in
theorem B_X10_lostNow_4 {l : Launch} {e : hv_Ev}  (x1 : Int32) (x2 : Int32) {σ : hv_S} {Φ : Int32 → hv_S → Prop} (h : ((x2 = 0 → Φ ((((1 : Int32) <<< ((σ.1 60 0) &&& 31)) - 1) &&& (x1 ^^^ (-1))) σ) ∧ (¬ x2 = 0 → L_X10_lostNow_12 l e Φ x1 0 0 σ))) : L_X10_lostNow_4 l e Φ x1 x2 σ := by
  show hv_TW l (hv_e2 e) (hv_rm 1) 0 0 m_X10_lostNow hv_no (hv_ZI (hv_e2 e) Φ) 4 [(0, .ref 60), (1, .int x1), (2, .int x2)] [] σ
  refine T_iload_n dX10_lostNow_4 rfl 2 rfl ?_
  refine T_if_eq (tgt := 133) dX10_lostNow_5 (by decide) (fun c1 => ?_) (fun c1 => ?_)
  · refine T_iconst (v := 1) dX10_lostNow_133 (by decide) ?_
    refine T_aload_n dX10_lostNow_134 rfl 0 rfl ?_
    refine T_get (v := .int (σ.1 60 0)) dX10_lostNow_135 fl_X10_7 hp_60 hs_60 rfl rfl ?_
    refine T_ishl dX10_lostNow_138 ?_
    refine T_iconst (v := 1) dX10_lostNow_139 (by decide) ?_
    refine T_isub dX10_lostNow_140 ?_
    refine T_iload_n dX10_lostNow_141 rfl 1 rfl ?_
    refine T_iconst (v := (-1)) dX10_lostNow_142 (by decide) ?_
    refine T_ixor dX10_lostNow_143 ?_
    refine T_iand dX10_lostNow_144 ?_
    exact T_iret dX10_lostNow_145 rfl (h.1 c1)
  · refine T_iconst (v := 0) dX10_lostNow_8 (by decide) ?_
    refine T_istore_n dX10_lostNow_9 rfl (by decide) rfl ?_
    refine T_iconst (v := 0) dX10_lostNow_10 (by decide) ?_
    refine T_istore_n dX10_lostNow_11 rfl (by decide) rfl ?_
    exact T_sub [2, 3, 1, 0] rfl (h.2 c1)
set_option maxHeartbeats 4000000 in
set_option maxRecDepth 100000 in
theorem B_X10_lostNow {l : Launch} {e : hv_Ev}   {σ : hv_S} {Φ : Int32 → hv_S → Prop} (h : L_X10_lostNow_4 l e Φ 0 1 σ) : hv_CI l (hv_e2 e) 1 m_X10_lostNow [.ref 60] σ Φ := by
  refine hv_entI (by decide) (Nat.le_of_ble_eq_true rfl) ?_
  show hv_TW l (hv_e2 e) (hv_rm 1) 0 0 m_X10_lostNow hv_no (hv_ZI (hv_e2 e) Φ) 0 [(0, .ref 60)] [] σ
  refine T_iconst (v := 0) dX10_lostNow_0 (by decide) ?_
  refine T_istore_n dX10_lostNow_1 rfl (by decide) rfl ?_
  refine T_iconst (v := 1) dX10_lostNow_2 (by decide) ?_
  refine T_istore_n dX10_lostNow_3 rfl (by decide) rfl ?_
  exact T_sub [2, 1, 0] rfl h

set_option maxHeartbeats 4000000 in
set_option maxRecDepth 100000 in
theorem B_X10_part {l : Launch} {e : hv_Ev}  (y1 : Int64) (y2 : Int64) (x3 : Int32) {σ : hv_S} {Φ : Int64 → hv_S → Prop} (h : hv_CL l (hv_e2 e) 0 m_X10_divisor [.ref 60, .long y1, .long y2] σ (fun v2 s1 => ((x3 ≠ 0 → (¬ v2 = 0 ∧ Φ (y2 / v2) s1)) ∧ (x3 = 0 → (¬ v2 = 0 ∧ Φ (y1 / v2) s1))))) : hv_CL l (hv_e2 e) 1 m_X10_part [.ref 60, .long y1, .long y2, .int x3] σ Φ := by
  refine hv_entL (by decide) (Nat.le_of_ble_eq_true rfl) ?_
  show hv_TW l (hv_e2 e) (hv_rm 1) 0 0 m_X10_part hv_no (hv_ZL (hv_e2 e) Φ) 0 [(0, .ref 60), (1, .long y1), (3, .long y2), (5, .int x3)] [] σ
  refine T_aload_n dX10_part_0 rfl 0 rfl ?_
  refine T_lload_n dX10_part_1 rfl 1 rfl ?_
  refine T_lload_n dX10_part_2 rfl 2 rfl ?_
  refine T_VL (As := [.long y1, .long y2]) dX10_part_3 mv_X10_275 hp_60 hs_60 rfl (Nat.le_of_ble_eq_true rfl) (hv_ok1 rfl) rfl h (fun v2 s1 h3 => ?_)
  refine T_lstore dX10_part_6 (by decide) rfl ?_
  refine T_iload dX10_part_8 4 rfl ?_
  refine T_if_ne (tgt := 20) dX10_part_10 (by decide) (fun c4 => ?_) (fun c4 => ?_)
  · refine T_lload_n dX10_part_20 rfl 3 rfl ?_
    refine T_lload dX10_part_21 0 rfl ?_
    refine T_ldiv dX10_part_23 ((h3.1 c4).1) ?_
    exact T_lret dX10_part_24 rfl ((h3.1 c4).2)
  · refine T_lload_n dX10_part_13 rfl 2 rfl ?_
    refine T_lload dX10_part_14 0 rfl ?_
    refine T_ldiv dX10_part_16 ((h3.2 c4).1) ?_
    refine T_goto (tgt := 24) dX10_part_17 (by decide) ?_
    exact T_lret dX10_part_24 rfl ((h3.2 c4).2)
