-- printed by wip/gen/p10d.py: the reference, 2
theorem dX10_decides_0 : decode cX10_decides 0 = .ok (.lconst 0, 1) := by decide +kernel
theorem dX10_decides_1 : decode cX10_decides 1 = .ok (.lstore_n 2, 1) := by decide +kernel
theorem dX10_decides_2 : decode cX10_decides 2 = .ok (.lconst 0, 1) := by decide +kernel
theorem dX10_decides_3 : decode cX10_decides 3 = .ok (.lstore 4, 2) := by decide +kernel
theorem dX10_decides_5 : decode cX10_decides 5 = .ok (.iconst 0, 1) := by decide +kernel
theorem dX10_decides_6 : decode cX10_decides 6 = .ok (.istore 6, 2) := by decide +kernel
theorem dX10_decides_8 : decode cX10_decides 8 = .ok (.iload 6, 2) := by decide +kernel
theorem dX10_decides_10 : decode cX10_decides 10 = .ok (.aload_n 0, 1) := by decide +kernel
theorem dX10_decides_11 : decode cX10_decides 11 = .ok (.getfield 7, 3) := by decide +kernel
theorem dX10_decides_14 : decode cX10_decides 14 = .ok (.if_icmp .ge 45, 3) := by decide +kernel
theorem dX10_decides_17 : decode cX10_decides 17 = .ok (.lload 4, 2) := by decide +kernel
theorem dX10_decides_19 : decode cX10_decides 19 = .ok (.aload_n 0, 1) := by decide +kernel
theorem dX10_decides_20 : decode cX10_decides 20 = .ok (.getfield 127, 3) := by decide +kernel
theorem dX10_decides_23 : decode cX10_decides 23 = .ok (.iload 6, 2) := by decide +kernel
theorem dX10_decides_25 : decode cX10_decides 25 = .ok (.laload, 1) := by decide +kernel
theorem dX10_decides_26 : decode cX10_decides 26 = .ok (.ladd, 1) := by decide +kernel
theorem dX10_decides_27 : decode cX10_decides 27 = .ok (.lstore 4, 2) := by decide +kernel
theorem dX10_decides_29 : decode cX10_decides 29 = .ok (.lload_n 2, 1) := by decide +kernel
theorem dX10_decides_30 : decode cX10_decides 30 = .ok (.aload_n 0, 1) := by decide +kernel
theorem dX10_decides_31 : decode cX10_decides 31 = .ok (.iload_n 1, 1) := by decide +kernel
theorem dX10_decides_32 : decode cX10_decides 32 = .ok (.iload 6, 2) := by decide +kernel
theorem dX10_decides_34 : decode cX10_decides 34 = .ok (.invokevirtual 241, 3) := by decide +kernel
theorem dX10_decides_37 : decode cX10_decides 37 = .ok (.ifCond .eq 13, 3) := by decide +kernel
theorem dX10_decides_40 : decode cX10_decides 40 = .ok (.aload_n 0, 1) := by decide +kernel
theorem dX10_decides_41 : decode cX10_decides 41 = .ok (.getfield 127, 3) := by decide +kernel
theorem dX10_decides_44 : decode cX10_decides 44 = .ok (.iload 6, 2) := by decide +kernel
theorem dX10_decides_46 : decode cX10_decides 46 = .ok (.laload, 1) := by decide +kernel
theorem dX10_decides_47 : decode cX10_decides 47 = .ok (.goto 4, 3) := by decide +kernel
theorem dX10_decides_50 : decode cX10_decides 50 = .ok (.lconst 0, 1) := by decide +kernel
theorem dX10_decides_51 : decode cX10_decides 51 = .ok (.ladd, 1) := by decide +kernel
theorem dX10_decides_52 : decode cX10_decides 52 = .ok (.lstore_n 2, 1) := by decide +kernel
theorem dX10_decides_53 : decode cX10_decides 53 = .ok (.iinc 6 1, 3) := by decide +kernel
theorem dX10_decides_56 : decode cX10_decides 56 = .ok (.goto (-48), 3) := by decide +kernel
theorem dX10_decides_59 : decode cX10_decides 59 = .ok (.aload_n 0, 1) := by decide +kernel
theorem dX10_decides_60 : decode cX10_decides 60 = .ok (.getfield 76, 3) := by decide +kernel
theorem dX10_decides_63 : decode cX10_decides 63 = .ok (.i2l, 1) := by decide +kernel
theorem dX10_decides_64 : decode cX10_decides 64 = .ok (.lload_n 2, 1) := by decide +kernel
theorem dX10_decides_65 : decode cX10_decides 65 = .ok (.lmul, 1) := by decide +kernel
theorem dX10_decides_66 : decode cX10_decides 66 = .ok (.aload_n 0, 1) := by decide +kernel
theorem dX10_decides_67 : decode cX10_decides 67 = .ok (.getfield 73, 3) := by decide +kernel
theorem dX10_decides_70 : decode cX10_decides 70 = .ok (.i2l, 1) := by decide +kernel
theorem dX10_decides_71 : decode cX10_decides 71 = .ok (.lload 4, 2) := by decide +kernel
theorem dX10_decides_73 : decode cX10_decides 73 = .ok (.lmul, 1) := by decide +kernel
theorem dX10_decides_74 : decode cX10_decides 74 = .ok (.lcmp, 1) := by decide +kernel
theorem dX10_decides_75 : decode cX10_decides 75 = .ok (.ifCond .le 7, 3) := by decide +kernel
theorem dX10_decides_78 : decode cX10_decides 78 = .ok (.iconst 1, 1) := by decide +kernel
theorem dX10_decides_79 : decode cX10_decides 79 = .ok (.goto 4, 3) := by decide +kernel
theorem dX10_decides_82 : decode cX10_decides 82 = .ok (.iconst 0, 1) := by decide +kernel
theorem dX10_decides_83 : decode cX10_decides 83 = .ok (.ireturn, 1) := by decide +kernel
theorem dX10_putBack_0 : decode cX10_putBack 0 = .ok (.bipush 8, 2) := by decide +kernel
theorem dX10_putBack_2 : decode cX10_putBack 2 = .ok (.iload_n 2, 1) := by decide +kernel
theorem dX10_putBack_3 : decode cX10_putBack 3 = .ok (.imul, 1) := by decide +kernel
theorem dX10_putBack_4 : decode cX10_putBack 4 = .ok (.iload_n 1, 1) := by decide +kernel
theorem dX10_putBack_5 : decode cX10_putBack 5 = .ok (.iadd, 1) := by decide +kernel
theorem dX10_putBack_6 : decode cX10_putBack 6 = .ok (.istore_n 3, 1) := by decide +kernel
theorem dX10_putBack_7 : decode cX10_putBack 7 = .ok (.aload_n 0, 1) := by decide +kernel
theorem dX10_putBack_8 : decode cX10_putBack 8 = .ok (.iload_n 3, 1) := by decide +kernel
theorem dX10_putBack_9 : decode cX10_putBack 9 = .ok (.aload_n 0, 1) := by decide +kernel
theorem dX10_putBack_10 : decode cX10_putBack 10 = .ok (.getfield 147, 3) := by decide +kernel
theorem dX10_putBack_13 : decode cX10_putBack 13 = .ok (.iconst 0, 1) := by decide +kernel
theorem dX10_putBack_14 : decode cX10_putBack 14 = .ok (.iaload, 1) := by decide +kernel
theorem dX10_putBack_15 : decode cX10_putBack 15 = .ok (.aload_n 0, 1) := by decide +kernel
theorem dX10_putBack_16 : decode cX10_putBack 16 = .ok (.getfield 147, 3) := by decide +kernel
theorem dX10_putBack_19 : decode cX10_putBack 19 = .ok (.iconst 2, 1) := by decide +kernel
theorem dX10_putBack_20 : decode cX10_putBack 20 = .ok (.iaload, 1) := by decide +kernel
theorem dX10_putBack_21 : decode cX10_putBack 21 = .ok (.aload_n 0, 1) := by decide +kernel
theorem dX10_putBack_22 : decode cX10_putBack 22 = .ok (.getfield 147, 3) := by decide +kernel
theorem dX10_putBack_25 : decode cX10_putBack 25 = .ok (.iconst 3, 1) := by decide +kernel
theorem dX10_putBack_26 : decode cX10_putBack 26 = .ok (.iaload, 1) := by decide +kernel
theorem dX10_putBack_27 : decode cX10_putBack 27 = .ok (.aload_n 0, 1) := by decide +kernel
theorem dX10_putBack_28 : decode cX10_putBack 28 = .ok (.getfield 147, 3) := by decide +kernel
theorem dX10_putBack_31 : decode cX10_putBack 31 = .ok (.iconst 4, 1) := by decide +kernel
theorem dX10_putBack_32 : decode cX10_putBack 32 = .ok (.iaload, 1) := by decide +kernel
theorem dX10_putBack_33 : decode cX10_putBack 33 = .ok (.invokevirtual 175, 3) := by decide +kernel
theorem dX10_putBack_36 : decode cX10_putBack 36 = .ok (.aload_n 0, 1) := by decide +kernel
theorem dX10_putBack_37 : decode cX10_putBack 37 = .ok (.getfield 20, 3) := by decide +kernel
theorem dX10_putBack_40 : decode cX10_putBack 40 = .ok (.iload_n 3, 1) := by decide +kernel
theorem dX10_putBack_41 : decode cX10_putBack 41 = .ok (.aload_n 0, 1) := by decide +kernel
theorem dX10_putBack_42 : decode cX10_putBack 42 = .ok (.getfield 147, 3) := by decide +kernel
theorem dX10_putBack_45 : decode cX10_putBack 45 = .ok (.iconst 1, 1) := by decide +kernel
theorem dX10_putBack_46 : decode cX10_putBack 46 = .ok (.iaload, 1) := by decide +kernel
theorem dX10_putBack_47 : decode cX10_putBack 47 = .ok (.iastore, 1) := by decide +kernel
theorem dX10_putBack_48 : decode cX10_putBack 48 = .ok (.return_, 1) := by decide +kernel
theorem dX10_isLess_0 : decode cX10_isLess 0 = .ok (.aload_n 0, 1) := by decide +kernel
theorem dX10_isLess_1 : decode cX10_isLess 1 = .ok (.lload_n 1, 1) := by decide +kernel
theorem dX10_isLess_2 : decode cX10_isLess 2 = .ok (.lload_n 3, 1) := by decide +kernel
theorem dX10_isLess_3 : decode cX10_isLess 3 = .ok (.invokevirtual 275, 3) := by decide +kernel
theorem dX10_isLess_6 : decode cX10_isLess 6 = .ok (.lstore 9, 2) := by decide +kernel
theorem dX10_isLess_8 : decode cX10_isLess 8 = .ok (.aload_n 0, 1) := by decide +kernel
theorem dX10_isLess_9 : decode cX10_isLess 9 = .ok (.lload 5, 2) := by decide +kernel
theorem dX10_isLess_11 : decode cX10_isLess 11 = .ok (.lload 7, 2) := by decide +kernel
theorem dX10_isLess_13 : decode cX10_isLess 13 = .ok (.invokevirtual 275, 3) := by decide +kernel
theorem dX10_isLess_16 : decode cX10_isLess 16 = .ok (.lstore 11, 2) := by decide +kernel
theorem dX10_isLess_18 : decode cX10_isLess 18 = .ok (.lload_n 1, 1) := by decide +kernel
theorem dX10_isLess_19 : decode cX10_isLess 19 = .ok (.lload 9, 2) := by decide +kernel
theorem dX10_isLess_21 : decode cX10_isLess 21 = .ok (.ldiv, 1) := by decide +kernel
theorem dX10_isLess_22 : decode cX10_isLess 22 = .ok (.lload 7, 2) := by decide +kernel
theorem dX10_isLess_24 : decode cX10_isLess 24 = .ok (.lload 11, 2) := by decide +kernel
theorem dX10_isLess_26 : decode cX10_isLess 26 = .ok (.ldiv, 1) := by decide +kernel
theorem dX10_isLess_27 : decode cX10_isLess 27 = .ok (.lmul, 1) := by decide +kernel
theorem dX10_isLess_28 : decode cX10_isLess 28 = .ok (.lload 5, 2) := by decide +kernel
theorem dX10_isLess_30 : decode cX10_isLess 30 = .ok (.lload 11, 2) := by decide +kernel
theorem dX10_isLess_32 : decode cX10_isLess 32 = .ok (.ldiv, 1) := by decide +kernel
theorem dX10_isLess_33 : decode cX10_isLess 33 = .ok (.lload_n 3, 1) := by decide +kernel
theorem dX10_isLess_34 : decode cX10_isLess 34 = .ok (.lload 9, 2) := by decide +kernel
theorem dX10_isLess_36 : decode cX10_isLess 36 = .ok (.ldiv, 1) := by decide +kernel
theorem dX10_isLess_37 : decode cX10_isLess 37 = .ok (.lmul, 1) := by decide +kernel
theorem dX10_isLess_38 : decode cX10_isLess 38 = .ok (.lcmp, 1) := by decide +kernel
theorem dX10_isLess_39 : decode cX10_isLess 39 = .ok (.ifCond .ge 7, 3) := by decide +kernel
theorem dX10_isLess_42 : decode cX10_isLess 42 = .ok (.iconst 1, 1) := by decide +kernel
theorem dX10_isLess_43 : decode cX10_isLess 43 = .ok (.goto 4, 3) := by decide +kernel
theorem dX10_isLess_46 : decode cX10_isLess 46 = .ok (.iconst 0, 1) := by decide +kernel
theorem dX10_isLess_47 : decode cX10_isLess 47 = .ok (.ireturn, 1) := by decide +kernel
theorem dX10_asSelf_0 : decode cX10_asSelf 0 = .ok (.iconst 0, 1) := by decide +kernel
theorem dX10_asSelf_1 : decode cX10_asSelf 1 = .ok (.istore_n 3, 1) := by decide +kernel
theorem dX10_asSelf_2 : decode cX10_asSelf 2 = .ok (.iload_n 3, 1) := by decide +kernel
theorem dX10_asSelf_3 : decode cX10_asSelf 3 = .ok (.aload_n 0, 1) := by decide +kernel
theorem dX10_asSelf_4 : decode cX10_asSelf 4 = .ok (.getfield 7, 3) := by decide +kernel
theorem dX10_asSelf_7 : decode cX10_asSelf 7 = .ok (.if_icmp .ge 47, 3) := by decide +kernel
theorem dX10_asSelf_10 : decode cX10_asSelf 10 = .ok (.aload_n 0, 1) := by decide +kernel
theorem dX10_asSelf_11 : decode cX10_asSelf 11 = .ok (.getfield 150, 3) := by decide +kernel
theorem dX10_asSelf_14 : decode cX10_asSelf 14 = .ok (.iload_n 3, 1) := by decide +kernel
theorem dX10_asSelf_15 : decode cX10_asSelf 15 = .ok (.aload_n 0, 1) := by decide +kernel
theorem dX10_asSelf_16 : decode cX10_asSelf 16 = .ok (.getfield 20, 3) := by decide +kernel
theorem dX10_asSelf_19 : decode cX10_asSelf 19 = .ok (.bipush 8, 2) := by decide +kernel
theorem dX10_asSelf_21 : decode cX10_asSelf 21 = .ok (.iload_n 2, 1) := by decide +kernel
theorem dX10_asSelf_22 : decode cX10_asSelf 22 = .ok (.imul, 1) := by decide +kernel
theorem dX10_asSelf_23 : decode cX10_asSelf 23 = .ok (.iload_n 3, 1) := by decide +kernel
theorem dX10_asSelf_24 : decode cX10_asSelf 24 = .ok (.iadd, 1) := by decide +kernel
theorem dX10_asSelf_25 : decode cX10_asSelf 25 = .ok (.iaload, 1) := by decide +kernel
theorem dX10_asSelf_26 : decode cX10_asSelf 26 = .ok (.iastore, 1) := by decide +kernel
theorem dX10_asSelf_27 : decode cX10_asSelf 27 = .ok (.aload_n 0, 1) := by decide +kernel
theorem dX10_asSelf_28 : decode cX10_asSelf 28 = .ok (.iload_n 1, 1) := by decide +kernel
theorem dX10_asSelf_29 : decode cX10_asSelf 29 = .ok (.iload_n 3, 1) := by decide +kernel
theorem dX10_asSelf_30 : decode cX10_asSelf 30 = .ok (.invokevirtual 241, 3) := by decide +kernel
theorem dX10_asSelf_33 : decode cX10_asSelf 33 = .ok (.ifCond .eq 15, 3) := by decide +kernel
theorem dX10_asSelf_36 : decode cX10_asSelf 36 = .ok (.aload_n 0, 1) := by decide +kernel
theorem dX10_asSelf_37 : decode cX10_asSelf 37 = .ok (.getfield 20, 3) := by decide +kernel
theorem dX10_asSelf_40 : decode cX10_asSelf 40 = .ok (.bipush 8, 2) := by decide +kernel
theorem dX10_asSelf_42 : decode cX10_asSelf 42 = .ok (.iload_n 2, 1) := by decide +kernel
theorem dX10_asSelf_43 : decode cX10_asSelf 43 = .ok (.imul, 1) := by decide +kernel
theorem dX10_asSelf_44 : decode cX10_asSelf 44 = .ok (.iload_n 3, 1) := by decide +kernel
theorem dX10_asSelf_45 : decode cX10_asSelf 45 = .ok (.iadd, 1) := by decide +kernel
theorem dX10_asSelf_46 : decode cX10_asSelf 46 = .ok (.iconst 0, 1) := by decide +kernel
theorem dX10_asSelf_47 : decode cX10_asSelf 47 = .ok (.iastore, 1) := by decide +kernel
theorem dX10_asSelf_48 : decode cX10_asSelf 48 = .ok (.iinc 3 1, 3) := by decide +kernel
theorem dX10_asSelf_51 : decode cX10_asSelf 51 = .ok (.goto (-49), 3) := by decide +kernel
theorem dX10_asSelf_54 : decode cX10_asSelf 54 = .ok (.return_, 1) := by decide +kernel
theorem dX10_plainGives_0 : decode cX10_plainGives 0 = .ok (.aload_n 0, 1) := by decide +kernel
theorem dX10_plainGives_1 : decode cX10_plainGives 1 = .ok (.bipush 10, 2) := by decide +kernel
theorem dX10_plainGives_3 : decode cX10_plainGives 3 = .ok (.invokevirtual 329, 3) := by decide +kernel
theorem dX10_plainGives_6 : decode cX10_plainGives 6 = .ok (.iload_n 2, 1) := by decide +kernel
theorem dX10_plainGives_7 : decode cX10_plainGives 7 = .ok (.iload_n 1, 1) := by decide +kernel
theorem dX10_plainGives_8 : decode cX10_plainGives 8 = .ok (.iadd, 1) := by decide +kernel
theorem dX10_plainGives_9 : decode cX10_plainGives 9 = .ok (.ireturn, 1) := by decide +kernel
theorem dX10_trace_0 : decode cX10_trace 0 = .ok (.aload_n 0, 1) := by decide +kernel
theorem dX10_trace_1 : decode cX10_trace 1 = .ok (.iload_n 1, 1) := by decide +kernel
theorem dX10_trace_2 : decode cX10_trace 2 = .ok (.iconst 0, 1) := by decide +kernel
theorem dX10_trace_3 : decode cX10_trace 3 = .ok (.bipush 19, 2) := by decide +kernel
theorem dX10_trace_5 : decode cX10_trace 5 = .ok (.invokevirtual 171, 3) := by decide +kernel
theorem dX10_trace_8 : decode cX10_trace 8 = .ok (.ifCond .eq 20, 3) := by decide +kernel
theorem dX10_trace_11 : decode cX10_trace 11 = .ok (.iload_n 1, 1) := by decide +kernel
theorem dX10_trace_12 : decode cX10_trace 12 = .ok (.aload_n 0, 1) := by decide +kernel
theorem dX10_trace_13 : decode cX10_trace 13 = .ok (.getfield 153, 3) := by decide +kernel
theorem dX10_trace_16 : decode cX10_trace 16 = .ok (.if_icmp .ge 12, 3) := by decide +kernel
theorem dX10_trace_19 : decode cX10_trace 19 = .ok (.aload_n 0, 1) := by decide +kernel
theorem dX10_trace_20 : decode cX10_trace 20 = .ok (.getfield 156, 3) := by decide +kernel
theorem dX10_trace_23 : decode cX10_trace 23 = .ok (.iload_n 1, 1) := by decide +kernel
theorem dX10_trace_24 : decode cX10_trace 24 = .ok (.iaload, 1) := by decide +kernel
theorem dX10_trace_25 : decode cX10_trace 25 = .ok (.goto 4, 3) := by decide +kernel
theorem dX10_trace_28 : decode cX10_trace 28 = .ok (.iconst (-1), 1) := by decide +kernel
theorem dX10_trace_29 : decode cX10_trace 29 = .ok (.ireturn, 1) := by decide +kernel
theorem dX10_isTape_0 : decode cX10_isTape 0 = .ok (.aload_n 0, 1) := by decide +kernel
theorem dX10_isTape_1 : decode cX10_isTape 1 = .ok (.iload_n 1, 1) := by decide +kernel
theorem dX10_isTape_2 : decode cX10_isTape 2 = .ok (.iconst 0, 1) := by decide +kernel
theorem dX10_isTape_3 : decode cX10_isTape 3 = .ok (.iconst 5, 1) := by decide +kernel
theorem dX10_isTape_4 : decode cX10_isTape 4 = .ok (.invokevirtual 171, 3) := by decide +kernel
theorem dX10_isTape_7 : decode cX10_isTape 7 = .ok (.ireturn, 1) := by decide +kernel
theorem dX10_think_0 : decode cX10_think 0 = .ok (.aload_n 0, 1) := by decide +kernel
theorem dX10_think_1 : decode cX10_think 1 = .ok (.iload_n 1, 1) := by decide +kernel
theorem dX10_think_2 : decode cX10_think 2 = .ok (.invokevirtual 179, 3) := by decide +kernel
theorem dX10_think_5 : decode cX10_think 5 = .ok (.ifCond .eq 11, 3) := by decide +kernel
theorem dX10_think_8 : decode cX10_think 8 = .ok (.aload_n 0, 1) := by decide +kernel
theorem dX10_think_9 : decode cX10_think 9 = .ok (.iload_n 2, 1) := by decide +kernel
theorem dX10_think_10 : decode cX10_think 10 = .ok (.invokevirtual 183, 3) := by decide +kernel
theorem dX10_think_13 : decode cX10_think 13 = .ok (.ifCond .ne 5, 3) := by decide +kernel
theorem dX10_think_16 : decode cX10_think 16 = .ok (.iconst (-1), 1) := by decide +kernel
theorem dX10_think_17 : decode cX10_think 17 = .ok (.ireturn, 1) := by decide +kernel
theorem dX10_think_18 : decode cX10_think 18 = .ok (.aload_n 0, 1) := by decide +kernel
theorem dX10_think_19 : decode cX10_think 19 = .ok (.iload 4, 2) := by decide +kernel
theorem dX10_think_21 : decode cX10_think 21 = .ok (.iconst 0, 1) := by decide +kernel
theorem dX10_think_22 : decode cX10_think 22 = .ok (.bipush 10, 2) := by decide +kernel
theorem dX10_think_24 : decode cX10_think 24 = .ok (.invokevirtual 171, 3) := by decide +kernel
theorem dX10_think_27 : decode cX10_think 27 = .ok (.ifCond .ne 6, 3) := by decide +kernel
theorem dX10_think_30 : decode cX10_think 30 = .ok (.bipush (-2), 2) := by decide +kernel
theorem dX10_think_32 : decode cX10_think 32 = .ok (.ireturn, 1) := by decide +kernel
theorem dX10_think_33 : decode cX10_think 33 = .ok (.bipush 8, 2) := by decide +kernel
theorem dX10_think_35 : decode cX10_think 35 = .ok (.iload_n 2, 1) := by decide +kernel
theorem dX10_think_36 : decode cX10_think 36 = .ok (.imul, 1) := by decide +kernel
theorem dX10_think_37 : decode cX10_think 37 = .ok (.iload_n 1, 1) := by decide +kernel
theorem dX10_think_38 : decode cX10_think 38 = .ok (.iadd, 1) := by decide +kernel
theorem dX10_think_39 : decode cX10_think 39 = .ok (.istore 5, 2) := by decide +kernel
theorem dX10_think_41 : decode cX10_think 41 = .ok (.aload_n 0, 1) := by decide +kernel
theorem dX10_think_42 : decode cX10_think 42 = .ok (.getfield 35, 3) := by decide +kernel
theorem dX10_think_45 : decode cX10_think 45 = .ok (.iload 5, 2) := by decide +kernel
theorem dX10_think_47 : decode cX10_think 47 = .ok (.baload, 1) := by decide +kernel
theorem dX10_think_48 : decode cX10_think 48 = .ok (.ifCond .eq 8, 3) := by decide +kernel
theorem dX10_think_51 : decode cX10_think 51 = .ok (.bipush 100, 2) := by decide +kernel
theorem dX10_think_53 : decode cX10_think 53 = .ok (.goto 4, 3) := by decide +kernel
theorem dX10_think_56 : decode cX10_think 56 = .ok (.iconst 0, 1) := by decide +kernel
theorem dX10_think_57 : decode cX10_think 57 = .ok (.aload_n 0, 1) := by decide +kernel
theorem dX10_think_58 : decode cX10_think 58 = .ok (.getfield 32, 3) := by decide +kernel
theorem dX10_think_61 : decode cX10_think 61 = .ok (.iload 5, 2) := by decide +kernel
theorem dX10_think_63 : decode cX10_think 63 = .ok (.iaload, 1) := by decide +kernel
theorem dX10_think_64 : decode cX10_think 64 = .ok (.iadd, 1) := by decide +kernel
theorem dX10_think_65 : decode cX10_think 65 = .ok (.istore 6, 2) := by decide +kernel
theorem dX10_think_67 : decode cX10_think 67 = .ok (.aload_n 0, 1) := by decide +kernel
theorem dX10_think_68 : decode cX10_think 68 = .ok (.getfield 35, 3) := by decide +kernel
theorem dX10_think_71 : decode cX10_think 71 = .ok (.iload 5, 2) := by decide +kernel
theorem dX10_think_73 : decode cX10_think 73 = .ok (.iload_n 3, 1) := by decide +kernel
theorem dX10_think_74 : decode cX10_think 74 = .ok (.bastore, 1) := by decide +kernel
theorem dX10_think_75 : decode cX10_think 75 = .ok (.aload_n 0, 1) := by decide +kernel
theorem dX10_think_76 : decode cX10_think 76 = .ok (.getfield 32, 3) := by decide +kernel
theorem dX10_think_79 : decode cX10_think 79 = .ok (.iload 5, 2) := by decide +kernel
theorem dX10_think_81 : decode cX10_think 81 = .ok (.iload 4, 2) := by decide +kernel
theorem dX10_think_83 : decode cX10_think 83 = .ok (.iastore, 1) := by decide +kernel
theorem dX10_think_84 : decode cX10_think 84 = .ok (.aload_n 0, 1) := by decide +kernel
theorem dX10_think_85 : decode cX10_think 85 = .ok (.iconst 0, 1) := by decide +kernel
theorem dX10_think_86 : decode cX10_think 86 = .ok (.putfield 85, 3) := by decide +kernel
theorem dX10_think_89 : decode cX10_think 89 = .ok (.iload 6, 2) := by decide +kernel
theorem dX10_think_91 : decode cX10_think 91 = .ok (.ireturn, 1) := by decide +kernel
theorem dX10_hand_0 : decode cX10_hand 0 = .ok (.aload_n 0, 1) := by decide +kernel
theorem dX10_hand_1 : decode cX10_hand 1 = .ok (.iload_n 1, 1) := by decide +kernel
theorem dX10_hand_2 : decode cX10_hand 2 = .ok (.invokevirtual 179, 3) := by decide +kernel
theorem dX10_hand_5 : decode cX10_hand 5 = .ok (.ifCond .eq 11, 3) := by decide +kernel
theorem dX10_hand_8 : decode cX10_hand 8 = .ok (.aload_n 0, 1) := by decide +kernel
theorem dX10_hand_9 : decode cX10_hand 9 = .ok (.iload_n 2, 1) := by decide +kernel
theorem dX10_hand_10 : decode cX10_hand 10 = .ok (.invokevirtual 183, 3) := by decide +kernel
theorem dX10_hand_13 : decode cX10_hand 13 = .ok (.ifCond .ne 5, 3) := by decide +kernel
theorem dX10_hand_16 : decode cX10_hand 16 = .ok (.iconst (-1), 1) := by decide +kernel
theorem dX10_hand_17 : decode cX10_hand 17 = .ok (.ireturn, 1) := by decide +kernel
theorem dX10_hand_18 : decode cX10_hand 18 = .ok (.iload_n 3, 1) := by decide +kernel
theorem dX10_hand_19 : decode cX10_hand 19 = .ok (.ifCond .eq 16, 3) := by decide +kernel
theorem dX10_hand_22 : decode cX10_hand 22 = .ok (.iload_n 3, 1) := by decide +kernel
theorem dX10_hand_23 : decode cX10_hand 23 = .ok (.iconst 1, 1) := by decide +kernel
theorem dX10_hand_24 : decode cX10_hand 24 = .ok (.if_icmp .eq 11, 3) := by decide +kernel
theorem dX10_hand_27 : decode cX10_hand 27 = .ok (.iload_n 3, 1) := by decide +kernel
theorem dX10_hand_28 : decode cX10_hand 28 = .ok (.iconst 5, 1) := by decide +kernel
theorem dX10_hand_29 : decode cX10_hand 29 = .ok (.if_icmp .eq 6, 3) := by decide +kernel
theorem dX10_hand_32 : decode cX10_hand 32 = .ok (.bipush (-2), 2) := by decide +kernel
theorem dX10_hand_34 : decode cX10_hand 34 = .ok (.ireturn, 1) := by decide +kernel
theorem dX10_hand_35 : decode cX10_hand 35 = .ok (.aload_n 0, 1) := by decide +kernel
theorem dX10_hand_36 : decode cX10_hand 36 = .ok (.getfield 16, 3) := by decide +kernel
theorem dX10_hand_39 : decode cX10_hand 39 = .ok (.bipush 8, 2) := by decide +kernel
theorem dX10_hand_41 : decode cX10_hand 41 = .ok (.iload_n 2, 1) := by decide +kernel
theorem dX10_hand_42 : decode cX10_hand 42 = .ok (.imul, 1) := by decide +kernel
theorem dX10_hand_43 : decode cX10_hand 43 = .ok (.iload_n 1, 1) := by decide +kernel
theorem dX10_hand_44 : decode cX10_hand 44 = .ok (.iadd, 1) := by decide +kernel
theorem dX10_hand_45 : decode cX10_hand 45 = .ok (.iaload, 1) := by decide +kernel
theorem dX10_hand_46 : decode cX10_hand 46 = .ok (.istore 4, 2) := by decide +kernel
theorem dX10_hand_48 : decode cX10_hand 48 = .ok (.aload_n 0, 1) := by decide +kernel
theorem dX10_hand_49 : decode cX10_hand 49 = .ok (.bipush 8, 2) := by decide +kernel
theorem dX10_hand_51 : decode cX10_hand 51 = .ok (.iload_n 2, 1) := by decide +kernel
theorem dX10_hand_52 : decode cX10_hand 52 = .ok (.imul, 1) := by decide +kernel
theorem dX10_hand_53 : decode cX10_hand 53 = .ok (.iload_n 1, 1) := by decide +kernel
theorem dX10_hand_54 : decode cX10_hand 54 = .ok (.iadd, 1) := by decide +kernel
theorem dX10_hand_55 : decode cX10_hand 55 = .ok (.iload_n 3, 1) := by decide +kernel
theorem dX10_hand_56 : decode cX10_hand 56 = .ok (.iconst (-1), 1) := by decide +kernel
theorem dX10_hand_57 : decode cX10_hand 57 = .ok (.iconst (-1), 1) := by decide +kernel
theorem dX10_hand_58 : decode cX10_hand 58 = .ok (.iconst 0, 1) := by decide +kernel
theorem dX10_hand_59 : decode cX10_hand 59 = .ok (.invokevirtual 175, 3) := by decide +kernel
theorem dX10_hand_62 : decode cX10_hand 62 = .ok (.iload 4, 2) := by decide +kernel
theorem dX10_hand_64 : decode cX10_hand 64 = .ok (.ireturn, 1) := by decide +kernel
theorem dX10_give_0 : decode cX10_give 0 = .ok (.aload_n 0, 1) := by decide +kernel
theorem dX10_give_1 : decode cX10_give 1 = .ok (.iload_n 1, 1) := by decide +kernel
theorem dX10_give_2 : decode cX10_give 2 = .ok (.invokevirtual 179, 3) := by decide +kernel
theorem dX10_give_5 : decode cX10_give 5 = .ok (.ifCond .eq 19, 3) := by decide +kernel
theorem dX10_give_8 : decode cX10_give 8 = .ok (.aload_n 0, 1) := by decide +kernel
theorem dX10_give_9 : decode cX10_give 9 = .ok (.iload_n 2, 1) := by decide +kernel
theorem dX10_give_10 : decode cX10_give 10 = .ok (.invokevirtual 183, 3) := by decide +kernel
theorem dX10_give_13 : decode cX10_give 13 = .ok (.ifCond .eq 11, 3) := by decide +kernel
theorem dX10_give_16 : decode cX10_give 16 = .ok (.aload_n 0, 1) := by decide +kernel
theorem dX10_give_17 : decode cX10_give 17 = .ok (.iload_n 3, 1) := by decide +kernel
theorem dX10_give_18 : decode cX10_give 18 = .ok (.invokevirtual 179, 3) := by decide +kernel
theorem dX10_give_21 : decode cX10_give 21 = .ok (.ifCond .ne 5, 3) := by decide +kernel
theorem dX10_give_24 : decode cX10_give 24 = .ok (.iconst (-1), 1) := by decide +kernel
theorem dX10_give_25 : decode cX10_give 25 = .ok (.ireturn, 1) := by decide +kernel
theorem dX10_give_26 : decode cX10_give 26 = .ok (.iload_n 1, 1) := by decide +kernel
theorem dX10_give_27 : decode cX10_give 27 = .ok (.iload_n 3, 1) := by decide +kernel
theorem dX10_give_28 : decode cX10_give 28 = .ok (.if_icmp .ne 6, 3) := by decide +kernel
theorem dX10_give_31 : decode cX10_give 31 = .ok (.bipush (-2), 2) := by decide +kernel
theorem dX10_give_33 : decode cX10_give 33 = .ok (.ireturn, 1) := by decide +kernel
theorem dX10_give_34 : decode cX10_give 34 = .ok (.aload_n 0, 1) := by decide +kernel
theorem dX10_give_35 : decode cX10_give 35 = .ok (.getfield 16, 3) := by decide +kernel
theorem dX10_give_38 : decode cX10_give 38 = .ok (.bipush 8, 2) := by decide +kernel
theorem dX10_give_40 : decode cX10_give 40 = .ok (.iload_n 2, 1) := by decide +kernel
theorem dX10_give_41 : decode cX10_give 41 = .ok (.imul, 1) := by decide +kernel
theorem dX10_give_42 : decode cX10_give 42 = .ok (.iload_n 1, 1) := by decide +kernel
theorem dX10_give_43 : decode cX10_give 43 = .ok (.iadd, 1) := by decide +kernel
theorem dX10_give_44 : decode cX10_give 44 = .ok (.iaload, 1) := by decide +kernel
theorem dX10_give_45 : decode cX10_give 45 = .ok (.istore 4, 2) := by decide +kernel
theorem dX10_give_47 : decode cX10_give 47 = .ok (.aload_n 0, 1) := by decide +kernel
theorem dX10_give_48 : decode cX10_give 48 = .ok (.bipush 8, 2) := by decide +kernel
theorem dX10_give_50 : decode cX10_give 50 = .ok (.iload_n 2, 1) := by decide +kernel
theorem dX10_give_51 : decode cX10_give 51 = .ok (.imul, 1) := by decide +kernel
theorem dX10_give_52 : decode cX10_give 52 = .ok (.iload_n 1, 1) := by decide +kernel
theorem dX10_give_53 : decode cX10_give 53 = .ok (.iadd, 1) := by decide +kernel
theorem dX10_give_54 : decode cX10_give 54 = .ok (.iconst 2, 1) := by decide +kernel
theorem dX10_give_55 : decode cX10_give 55 = .ok (.iload_n 3, 1) := by decide +kernel
theorem dX10_give_56 : decode cX10_give 56 = .ok (.iconst (-1), 1) := by decide +kernel
theorem dX10_give_57 : decode cX10_give 57 = .ok (.bipush 10, 2) := by decide +kernel
theorem dX10_give_59 : decode cX10_give 59 = .ok (.invokevirtual 175, 3) := by decide +kernel
theorem dX10_give_62 : decode cX10_give 62 = .ok (.iload 4, 2) := by decide +kernel
theorem dX10_give_64 : decode cX10_give 64 = .ok (.ireturn, 1) := by decide +kernel
theorem dX10_names_0 : decode cX10_names 0 = .ok (.aload_n 0, 1) := by decide +kernel
theorem dX10_names_1 : decode cX10_names 1 = .ok (.iload_n 1, 1) := by decide +kernel
theorem dX10_names_2 : decode cX10_names 2 = .ok (.invokevirtual 179, 3) := by decide +kernel
theorem dX10_names_5 : decode cX10_names 5 = .ok (.ifCond .eq 28, 3) := by decide +kernel
theorem dX10_names_8 : decode cX10_names 8 = .ok (.aload_n 0, 1) := by decide +kernel
theorem dX10_names_9 : decode cX10_names 9 = .ok (.iload_n 2, 1) := by decide +kernel
theorem dX10_names_10 : decode cX10_names 10 = .ok (.invokevirtual 183, 3) := by decide +kernel
theorem dX10_names_13 : decode cX10_names 13 = .ok (.ifCond .eq 20, 3) := by decide +kernel
theorem dX10_names_16 : decode cX10_names 16 = .ok (.aload_n 0, 1) := by decide +kernel
theorem dX10_names_17 : decode cX10_names 17 = .ok (.iload_n 3, 1) := by decide +kernel
theorem dX10_names_18 : decode cX10_names 18 = .ok (.invokevirtual 179, 3) := by decide +kernel
theorem dX10_names_21 : decode cX10_names 21 = .ok (.ifCond .eq 12, 3) := by decide +kernel
theorem dX10_names_24 : decode cX10_names 24 = .ok (.aload_n 0, 1) := by decide +kernel
theorem dX10_names_25 : decode cX10_names 25 = .ok (.iload 4, 2) := by decide +kernel
theorem dX10_names_27 : decode cX10_names 27 = .ok (.invokevirtual 179, 3) := by decide +kernel
theorem dX10_names_30 : decode cX10_names 30 = .ok (.ifCond .ne 5, 3) := by decide +kernel
theorem dX10_names_33 : decode cX10_names 33 = .ok (.iconst (-1), 1) := by decide +kernel
theorem dX10_names_34 : decode cX10_names 34 = .ok (.ireturn, 1) := by decide +kernel
theorem dX10_names_35 : decode cX10_names 35 = .ok (.iload_n 1, 1) := by decide +kernel
theorem dX10_names_36 : decode cX10_names 36 = .ok (.iload_n 3, 1) := by decide +kernel
theorem dX10_names_37 : decode cX10_names 37 = .ok (.if_icmp .eq 27, 3) := by decide +kernel
theorem dX10_names_40 : decode cX10_names 40 = .ok (.iload_n 1, 1) := by decide +kernel
theorem dX10_names_41 : decode cX10_names 41 = .ok (.iload 4, 2) := by decide +kernel
theorem dX10_names_43 : decode cX10_names 43 = .ok (.if_icmp .eq 21, 3) := by decide +kernel
theorem dX10_names_46 : decode cX10_names 46 = .ok (.iload_n 3, 1) := by decide +kernel
theorem dX10_names_47 : decode cX10_names 47 = .ok (.iload 4, 2) := by decide +kernel
theorem dX10_names_49 : decode cX10_names 49 = .ok (.if_icmp .eq 15, 3) := by decide +kernel
theorem dX10_names_52 : decode cX10_names 52 = .ok (.aload_n 0, 1) := by decide +kernel
theorem dX10_names_53 : decode cX10_names 53 = .ok (.iload 5, 2) := by decide +kernel
theorem dX10_names_55 : decode cX10_names 55 = .ok (.iconst 0, 1) := by decide +kernel
theorem dX10_names_56 : decode cX10_names 56 = .ok (.bipush 9, 2) := by decide +kernel
theorem dX10_names_58 : decode cX10_names 58 = .ok (.invokevirtual 171, 3) := by decide +kernel
theorem dX10_names_61 : decode cX10_names 61 = .ok (.ifCond .ne 6, 3) := by decide +kernel
theorem dX10_names_64 : decode cX10_names 64 = .ok (.bipush (-2), 2) := by decide +kernel
theorem dX10_names_66 : decode cX10_names 66 = .ok (.ireturn, 1) := by decide +kernel
theorem dX10_names_67 : decode cX10_names 67 = .ok (.aload_n 0, 1) := by decide +kernel
theorem dX10_names_68 : decode cX10_names 68 = .ok (.getfield 16, 3) := by decide +kernel
theorem dX10_names_71 : decode cX10_names 71 = .ok (.bipush 8, 2) := by decide +kernel
theorem dX10_names_73 : decode cX10_names 73 = .ok (.iload_n 2, 1) := by decide +kernel
theorem dX10_names_74 : decode cX10_names 74 = .ok (.imul, 1) := by decide +kernel
theorem dX10_names_75 : decode cX10_names 75 = .ok (.iload_n 1, 1) := by decide +kernel
theorem dX10_names_76 : decode cX10_names 76 = .ok (.iadd, 1) := by decide +kernel
theorem dX10_names_77 : decode cX10_names 77 = .ok (.iaload, 1) := by decide +kernel
theorem dX10_names_78 : decode cX10_names 78 = .ok (.istore 6, 2) := by decide +kernel
theorem dX10_names_80 : decode cX10_names 80 = .ok (.aload_n 0, 1) := by decide +kernel
theorem dX10_names_81 : decode cX10_names 81 = .ok (.bipush 8, 2) := by decide +kernel
theorem dX10_names_83 : decode cX10_names 83 = .ok (.iload_n 2, 1) := by decide +kernel
theorem dX10_names_84 : decode cX10_names 84 = .ok (.imul, 1) := by decide +kernel
theorem dX10_names_85 : decode cX10_names 85 = .ok (.iload_n 1, 1) := by decide +kernel
theorem dX10_names_86 : decode cX10_names 86 = .ok (.iadd, 1) := by decide +kernel
theorem dX10_names_87 : decode cX10_names 87 = .ok (.iload 5, 2) := by decide +kernel
theorem dX10_names_89 : decode cX10_names 89 = .ok (.ifCond .ne 7, 3) := by decide +kernel
theorem dX10_names_92 : decode cX10_names 92 = .ok (.iconst 3, 1) := by decide +kernel
theorem dX10_names_93 : decode cX10_names 93 = .ok (.goto 4, 3) := by decide +kernel
theorem dX10_names_96 : decode cX10_names 96 = .ok (.iconst 4, 1) := by decide +kernel
theorem dX10_names_97 : decode cX10_names 97 = .ok (.iload_n 3, 1) := by decide +kernel
theorem dX10_names_98 : decode cX10_names 98 = .ok (.iload 4, 2) := by decide +kernel
theorem dX10_names_100 : decode cX10_names 100 = .ok (.iload 5, 2) := by decide +kernel
theorem dX10_names_102 : decode cX10_names 102 = .ok (.ifCond .ne 8, 3) := by decide +kernel
theorem dX10_names_105 : decode cX10_names 105 = .ok (.bipush 10, 2) := by decide +kernel
theorem dX10_names_107 : decode cX10_names 107 = .ok (.goto 5, 3) := by decide +kernel
theorem dX10_names_110 : decode cX10_names 110 = .ok (.iload 5, 2) := by decide +kernel
theorem dX10_names_112 : decode cX10_names 112 = .ok (.invokevirtual 175, 3) := by decide +kernel
theorem dX10_names_115 : decode cX10_names 115 = .ok (.iload 6, 2) := by decide +kernel
theorem dX10_names_117 : decode cX10_names 117 = .ok (.ireturn, 1) := by decide +kernel
theorem dX10_back_0 : decode cX10_back 0 = .ok (.aload_n 0, 1) := by decide +kernel
theorem dX10_back_1 : decode cX10_back 1 = .ok (.iload_n 1, 1) := by decide +kernel
theorem dX10_back_2 : decode cX10_back 2 = .ok (.invokevirtual 179, 3) := by decide +kernel
theorem dX10_back_5 : decode cX10_back 5 = .ok (.ifCond .eq 11, 3) := by decide +kernel
theorem dX10_back_8 : decode cX10_back 8 = .ok (.aload_n 0, 1) := by decide +kernel
theorem dX10_back_9 : decode cX10_back 9 = .ok (.iload_n 2, 1) := by decide +kernel
theorem dX10_back_10 : decode cX10_back 10 = .ok (.invokevirtual 183, 3) := by decide +kernel
theorem dX10_back_13 : decode cX10_back 13 = .ok (.ifCond .ne 5, 3) := by decide +kernel
theorem dX10_back_16 : decode cX10_back 16 = .ok (.iconst (-1), 1) := by decide +kernel
theorem dX10_back_17 : decode cX10_back 17 = .ok (.ireturn, 1) := by decide +kernel
theorem dX10_back_18 : decode cX10_back 18 = .ok (.aload_n 0, 1) := by decide +kernel
theorem dX10_back_19 : decode cX10_back 19 = .ok (.iload_n 3, 1) := by decide +kernel
theorem dX10_back_20 : decode cX10_back 20 = .ok (.iconst 0, 1) := by decide +kernel
theorem dX10_back_21 : decode cX10_back 21 = .ok (.bipush 100, 2) := by decide +kernel
theorem dX10_back_23 : decode cX10_back 23 = .ok (.invokevirtual 171, 3) := by decide +kernel
theorem dX10_back_26 : decode cX10_back 26 = .ok (.ifCond .ne 6, 3) := by decide +kernel
theorem dX10_back_29 : decode cX10_back 29 = .ok (.bipush (-2), 2) := by decide +kernel
theorem dX10_back_31 : decode cX10_back 31 = .ok (.ireturn, 1) := by decide +kernel
theorem dX10_back_32 : decode cX10_back 32 = .ok (.aload_n 0, 1) := by decide +kernel
theorem dX10_back_33 : decode cX10_back 33 = .ok (.getfield 20, 3) := by decide +kernel
theorem dX10_back_36 : decode cX10_back 36 = .ok (.bipush 8, 2) := by decide +kernel
theorem dX10_back_38 : decode cX10_back 38 = .ok (.iload_n 2, 1) := by decide +kernel
theorem dX10_back_39 : decode cX10_back 39 = .ok (.imul, 1) := by decide +kernel
theorem dX10_back_40 : decode cX10_back 40 = .ok (.iload_n 1, 1) := by decide +kernel
theorem dX10_back_41 : decode cX10_back 41 = .ok (.iadd, 1) := by decide +kernel
theorem dX10_back_42 : decode cX10_back 42 = .ok (.iaload, 1) := by decide +kernel
theorem dX10_back_43 : decode cX10_back 43 = .ok (.istore 4, 2) := by decide +kernel
theorem dX10_back_45 : decode cX10_back 45 = .ok (.aload_n 0, 1) := by decide +kernel
theorem dX10_back_46 : decode cX10_back 46 = .ok (.getfield 20, 3) := by decide +kernel
theorem dX10_back_49 : decode cX10_back 49 = .ok (.bipush 8, 2) := by decide +kernel
theorem dX10_back_51 : decode cX10_back 51 = .ok (.iload_n 2, 1) := by decide +kernel
theorem dX10_back_52 : decode cX10_back 52 = .ok (.imul, 1) := by decide +kernel
theorem dX10_back_53 : decode cX10_back 53 = .ok (.iload_n 1, 1) := by decide +kernel
theorem dX10_back_54 : decode cX10_back 54 = .ok (.iadd, 1) := by decide +kernel
theorem dX10_back_55 : decode cX10_back 55 = .ok (.iload_n 3, 1) := by decide +kernel
theorem dX10_back_56 : decode cX10_back 56 = .ok (.iastore, 1) := by decide +kernel
theorem dX10_back_57 : decode cX10_back 57 = .ok (.iload 4, 2) := by decide +kernel
theorem dX10_back_59 : decode cX10_back 59 = .ok (.ireturn, 1) := by decide +kernel
theorem dX10_of_0 : decode cX10_of 0 = .ok (.aload_n 0, 1) := by decide +kernel
theorem dX10_of_1 : decode cX10_of 1 = .ok (.iload_n 1, 1) := by decide +kernel
theorem dX10_of_2 : decode cX10_of 2 = .ok (.invokevirtual 179, 3) := by decide +kernel
theorem dX10_of_5 : decode cX10_of 5 = .ok (.ifCond .eq 11, 3) := by decide +kernel
theorem dX10_of_8 : decode cX10_of 8 = .ok (.aload_n 0, 1) := by decide +kernel
theorem dX10_of_9 : decode cX10_of 9 = .ok (.iload_n 2, 1) := by decide +kernel
theorem dX10_of_10 : decode cX10_of 10 = .ok (.invokevirtual 183, 3) := by decide +kernel
theorem dX10_of_13 : decode cX10_of 13 = .ok (.ifCond .ne 5, 3) := by decide +kernel
theorem dX10_of_16 : decode cX10_of 16 = .ok (.iconst (-1), 1) := by decide +kernel
theorem dX10_of_17 : decode cX10_of 17 = .ok (.ireturn, 1) := by decide +kernel
theorem dX10_of_18 : decode cX10_of 18 = .ok (.bipush 8, 2) := by decide +kernel
theorem dX10_of_20 : decode cX10_of 20 = .ok (.iload_n 2, 1) := by decide +kernel
theorem dX10_of_21 : decode cX10_of 21 = .ok (.imul, 1) := by decide +kernel
theorem dX10_of_22 : decode cX10_of 22 = .ok (.iload_n 1, 1) := by decide +kernel
theorem dX10_of_23 : decode cX10_of 23 = .ok (.iadd, 1) := by decide +kernel
theorem dX10_of_24 : decode cX10_of 24 = .ok (.istore 4, 2) := by decide +kernel
theorem dX10_of_26 : decode cX10_of 26 = .ok (.iload_n 3, 1) := by decide +kernel
theorem dX10_of_27 : decode cX10_of 27 = .ok (.tableswitch 135 0 6 #[41, 49, 57, 80, 103, 111, 127], 41) := by decide +kernel
theorem dX10_of_68 : decode cX10_of 68 = .ok (.aload_n 0, 1) := by decide +kernel
theorem dX10_of_69 : decode cX10_of 69 = .ok (.getfield 16, 3) := by decide +kernel
theorem dX10_of_72 : decode cX10_of 72 = .ok (.iload 4, 2) := by decide +kernel
theorem dX10_of_74 : decode cX10_of 74 = .ok (.iaload, 1) := by decide +kernel
theorem dX10_of_75 : decode cX10_of 75 = .ok (.ireturn, 1) := by decide +kernel
theorem dX10_of_76 : decode cX10_of 76 = .ok (.aload_n 0, 1) := by decide +kernel
theorem dX10_of_77 : decode cX10_of 77 = .ok (.getfield 20, 3) := by decide +kernel
theorem dX10_of_80 : decode cX10_of 80 = .ok (.iload 4, 2) := by decide +kernel
theorem dX10_of_82 : decode cX10_of 82 = .ok (.iaload, 1) := by decide +kernel
theorem dX10_of_83 : decode cX10_of 83 = .ok (.ireturn, 1) := by decide +kernel
theorem dX10_of_84 : decode cX10_of 84 = .ok (.aload_n 0, 1) := by decide +kernel
theorem dX10_of_85 : decode cX10_of 85 = .ok (.getfield 23, 3) := by decide +kernel
theorem dX10_of_88 : decode cX10_of 88 = .ok (.iload 4, 2) := by decide +kernel
theorem dX10_of_90 : decode cX10_of 90 = .ok (.iaload, 1) := by decide +kernel
theorem dX10_of_91 : decode cX10_of 91 = .ok (.ifCond .ge 8, 3) := by decide +kernel
theorem dX10_of_94 : decode cX10_of 94 = .ok (.bipush (-5), 2) := by decide +kernel
theorem dX10_of_96 : decode cX10_of 96 = .ok (.goto 10, 3) := by decide +kernel
theorem dX10_of_99 : decode cX10_of 99 = .ok (.aload_n 0, 1) := by decide +kernel
theorem dX10_of_100 : decode cX10_of 100 = .ok (.getfield 23, 3) := by decide +kernel
theorem dX10_of_103 : decode cX10_of 103 = .ok (.iload 4, 2) := by decide +kernel
theorem dX10_of_105 : decode cX10_of 105 = .ok (.iaload, 1) := by decide +kernel
theorem dX10_of_106 : decode cX10_of 106 = .ok (.ireturn, 1) := by decide +kernel
theorem dX10_of_107 : decode cX10_of 107 = .ok (.aload_n 0, 1) := by decide +kernel
theorem dX10_of_108 : decode cX10_of 108 = .ok (.getfield 26, 3) := by decide +kernel
theorem dX10_of_111 : decode cX10_of 111 = .ok (.iload 4, 2) := by decide +kernel
theorem dX10_of_113 : decode cX10_of 113 = .ok (.iaload, 1) := by decide +kernel
theorem dX10_of_114 : decode cX10_of 114 = .ok (.ifCond .ge 8, 3) := by decide +kernel
theorem dX10_of_117 : decode cX10_of 117 = .ok (.bipush (-5), 2) := by decide +kernel
theorem dX10_of_119 : decode cX10_of 119 = .ok (.goto 10, 3) := by decide +kernel
theorem dX10_of_122 : decode cX10_of 122 = .ok (.aload_n 0, 1) := by decide +kernel
theorem dX10_of_123 : decode cX10_of 123 = .ok (.getfield 26, 3) := by decide +kernel
theorem dX10_of_126 : decode cX10_of 126 = .ok (.iload 4, 2) := by decide +kernel
theorem dX10_of_128 : decode cX10_of 128 = .ok (.iaload, 1) := by decide +kernel
theorem dX10_of_129 : decode cX10_of 129 = .ok (.ireturn, 1) := by decide +kernel
theorem dX10_of_130 : decode cX10_of 130 = .ok (.aload_n 0, 1) := by decide +kernel
theorem dX10_of_131 : decode cX10_of 131 = .ok (.getfield 29, 3) := by decide +kernel
theorem dX10_of_134 : decode cX10_of 134 = .ok (.iload 4, 2) := by decide +kernel
theorem dX10_of_136 : decode cX10_of 136 = .ok (.iaload, 1) := by decide +kernel
theorem dX10_of_137 : decode cX10_of 137 = .ok (.ireturn, 1) := by decide +kernel
theorem dX10_of_138 : decode cX10_of 138 = .ok (.aload_n 0, 1) := by decide +kernel
theorem dX10_of_139 : decode cX10_of 139 = .ok (.getfield 35, 3) := by decide +kernel
theorem dX10_of_142 : decode cX10_of 142 = .ok (.iload 4, 2) := by decide +kernel
theorem dX10_of_144 : decode cX10_of 144 = .ok (.baload, 1) := by decide +kernel
theorem dX10_of_145 : decode cX10_of 145 = .ok (.ifCond .eq 7, 3) := by decide +kernel
theorem dX10_of_148 : decode cX10_of 148 = .ok (.iconst 1, 1) := by decide +kernel
theorem dX10_of_149 : decode cX10_of 149 = .ok (.goto 4, 3) := by decide +kernel
theorem dX10_of_152 : decode cX10_of 152 = .ok (.iconst 0, 1) := by decide +kernel
theorem dX10_of_153 : decode cX10_of 153 = .ok (.ireturn, 1) := by decide +kernel
theorem dX10_of_154 : decode cX10_of 154 = .ok (.aload_n 0, 1) := by decide +kernel
theorem dX10_of_155 : decode cX10_of 155 = .ok (.getfield 32, 3) := by decide +kernel
theorem dX10_of_158 : decode cX10_of 158 = .ok (.iload 4, 2) := by decide +kernel
theorem dX10_of_160 : decode cX10_of 160 = .ok (.iaload, 1) := by decide +kernel
theorem dX10_of_161 : decode cX10_of 161 = .ok (.ireturn, 1) := by decide +kernel
theorem dX10_of_162 : decode cX10_of 162 = .ok (.iconst (-1), 1) := by decide +kernel
theorem dX10_of_163 : decode cX10_of 163 = .ok (.ireturn, 1) := by decide +kernel
theorem dX10_takesWord_0 : decode cX10_takesWord 0 = .ok (.iload_n 2, 1) := by decide +kernel
theorem dX10_takesWord_1 : decode cX10_takesWord 1 = .ok (.iconst 1, 1) := by decide +kernel
theorem dX10_takesWord_2 : decode cX10_takesWord 2 = .ok (.isub, 1) := by decide +kernel
theorem dX10_takesWord_3 : decode cX10_takesWord 3 = .ok (.istore_n 3, 1) := by decide +kernel
theorem dX10_takesWord_4 : decode cX10_takesWord 4 = .ok (.iload_n 3, 1) := by decide +kernel
theorem dX10_takesWord_5 : decode cX10_takesWord 5 = .ok (.ifCond .lt 29, 3) := by decide +kernel
theorem dX10_takesWord_8 : decode cX10_takesWord 8 = .ok (.aload_n 0, 1) := by decide +kernel
theorem dX10_takesWord_9 : decode cX10_takesWord 9 = .ok (.bipush 96, 2) := by decide +kernel
theorem dX10_takesWord_11 : decode cX10_takesWord 11 = .ok (.iload_n 1, 1) := by decide +kernel
theorem dX10_takesWord_12 : decode cX10_takesWord 12 = .ok (.iconst 5, 1) := by decide +kernel
theorem dX10_takesWord_13 : decode cX10_takesWord 13 = .ok (.iload_n 3, 1) := by decide +kernel
theorem dX10_takesWord_14 : decode cX10_takesWord 14 = .ok (.imul, 1) := by decide +kernel
theorem dX10_takesWord_15 : decode cX10_takesWord 15 = .ok (.ishr, 1) := by decide +kernel
theorem dX10_takesWord_16 : decode cX10_takesWord 16 = .ok (.bipush 31, 2) := by decide +kernel
theorem dX10_takesWord_18 : decode cX10_takesWord 18 = .ok (.iand, 1) := by decide +kernel
theorem dX10_takesWord_19 : decode cX10_takesWord 19 = .ok (.iadd, 1) := by decide +kernel
theorem dX10_takesWord_20 : decode cX10_takesWord 20 = .ok (.invokevirtual 190, 3) := by decide +kernel
theorem dX10_takesWord_23 : decode cX10_takesWord 23 = .ok (.ifCond .ne 5, 3) := by decide +kernel
theorem dX10_takesWord_26 : decode cX10_takesWord 26 = .ok (.iconst 0, 1) := by decide +kernel
theorem dX10_takesWord_27 : decode cX10_takesWord 27 = .ok (.ireturn, 1) := by decide +kernel
theorem dX10_takesWord_28 : decode cX10_takesWord 28 = .ok (.iinc 3 (-1), 3) := by decide +kernel
theorem dX10_takesWord_31 : decode cX10_takesWord 31 = .ok (.goto (-27), 3) := by decide +kernel
theorem dX10_takesWord_34 : decode cX10_takesWord 34 = .ok (.aload_n 0, 1) := by decide +kernel
theorem dX10_takesWord_35 : decode cX10_takesWord 35 = .ok (.bipush 32, 2) := by decide +kernel
theorem dX10_takesWord_37 : decode cX10_takesWord 37 = .ok (.invokevirtual 190, 3) := by decide +kernel
theorem dX10_takesWord_40 : decode cX10_takesWord 40 = .ok (.ireturn, 1) := by decide +kernel
theorem dX10_takesNumber_0 : decode cX10_takesNumber 0 = .ok (.aload_n 0, 1) := by decide +kernel
theorem dX10_takesNumber_1 : decode cX10_takesNumber 1 = .ok (.invokevirtual 193, 3) := by decide +kernel
theorem dX10_takesNumber_4 : decode cX10_takesNumber 4 = .ok (.ifCond .ne 5, 3) := by decide +kernel
theorem dX10_takesNumber_7 : decode cX10_takesNumber 7 = .ok (.iconst 0, 1) := by decide +kernel
theorem dX10_takesNumber_8 : decode cX10_takesNumber 8 = .ok (.ireturn, 1) := by decide +kernel
theorem dX10_takesNumber_9 : decode cX10_takesNumber 9 = .ok (.aload_n 0, 1) := by decide +kernel
theorem dX10_takesNumber_10 : decode cX10_takesNumber 10 = .ok (.iconst 0, 1) := by decide +kernel
theorem dX10_takesNumber_11 : decode cX10_takesNumber 11 = .ok (.putfield 63, 3) := by decide +kernel
theorem dX10_takesNumber_14 : decode cX10_takesNumber 14 = .ok (.iconst 0, 1) := by decide +kernel
theorem dX10_takesNumber_15 : decode cX10_takesNumber 15 = .ok (.istore_n 2, 1) := by decide +kernel
theorem dX10_takesNumber_16 : decode cX10_takesNumber 16 = .ok (.iload_n 2, 1) := by decide +kernel
theorem dX10_takesNumber_17 : decode cX10_takesNumber 17 = .ok (.iconst 3, 1) := by decide +kernel
theorem dX10_takesNumber_18 : decode cX10_takesNumber 18 = .ok (.if_icmp .ge 72, 3) := by decide +kernel
theorem dX10_takesNumber_21 : decode cX10_takesNumber 21 = .ok (.aload_n 0, 1) := by decide +kernel
theorem dX10_takesNumber_22 : decode cX10_takesNumber 22 = .ok (.invokevirtual 193, 3) := by decide +kernel
theorem dX10_takesNumber_25 : decode cX10_takesNumber 25 = .ok (.ifCond .eq 65, 3) := by decide +kernel
theorem dX10_takesNumber_28 : decode cX10_takesNumber 28 = .ok (.iload_n 1, 1) := by decide +kernel
theorem dX10_takesNumber_29 : decode cX10_takesNumber 29 = .ok (.ifCond .eq 26, 3) := by decide +kernel
theorem dX10_takesNumber_32 : decode cX10_takesNumber 32 = .ok (.iload_n 2, 1) := by decide +kernel
theorem dX10_takesNumber_33 : decode cX10_takesNumber 33 = .ok (.iconst 2, 1) := by decide +kernel
theorem dX10_takesNumber_34 : decode cX10_takesNumber 34 = .ok (.if_icmp .ne 21, 3) := by decide +kernel
theorem dX10_takesNumber_37 : decode cX10_takesNumber 37 = .ok (.aload_n 0, 1) := by decide +kernel
theorem dX10_takesNumber_38 : decode cX10_takesNumber 38 = .ok (.getfield 63, 3) := by decide +kernel
theorem dX10_takesNumber_41 : decode cX10_takesNumber 41 = .ok (.ifCond .ne 14, 3) := by decide +kernel
theorem dX10_takesNumber_44 : decode cX10_takesNumber 44 = .ok (.aload_n 0, 1) := by decide +kernel
theorem dX10_takesNumber_45 : decode cX10_takesNumber 45 = .ok (.invokevirtual 186, 3) := by decide +kernel
theorem dX10_takesNumber_48 : decode cX10_takesNumber 48 = .ok (.bipush 48, 2) := by decide +kernel
theorem dX10_takesNumber_50 : decode cX10_takesNumber 50 = .ok (.if_icmp .ne 5, 3) := by decide +kernel
theorem dX10_takesNumber_53 : decode cX10_takesNumber 53 = .ok (.iconst 0, 1) := by decide +kernel
theorem dX10_takesNumber_54 : decode cX10_takesNumber 54 = .ok (.ireturn, 1) := by decide +kernel
theorem dX10_takesNumber_55 : decode cX10_takesNumber 55 = .ok (.aload_n 0, 1) := by decide +kernel
theorem dX10_takesNumber_56 : decode cX10_takesNumber 56 = .ok (.bipush 10, 2) := by decide +kernel
theorem dX10_takesNumber_58 : decode cX10_takesNumber 58 = .ok (.aload_n 0, 1) := by decide +kernel
theorem dX10_takesNumber_59 : decode cX10_takesNumber 59 = .ok (.getfield 63, 3) := by decide +kernel
theorem dX10_takesNumber_62 : decode cX10_takesNumber 62 = .ok (.imul, 1) := by decide +kernel
theorem dX10_takesNumber_63 : decode cX10_takesNumber 63 = .ok (.aload_n 0, 1) := by decide +kernel
theorem dX10_takesNumber_64 : decode cX10_takesNumber 64 = .ok (.invokevirtual 186, 3) := by decide +kernel
theorem dX10_takesNumber_67 : decode cX10_takesNumber 67 = .ok (.iadd, 1) := by decide +kernel
theorem dX10_takesNumber_68 : decode cX10_takesNumber 68 = .ok (.bipush 48, 2) := by decide +kernel
theorem dX10_takesNumber_70 : decode cX10_takesNumber 70 = .ok (.isub, 1) := by decide +kernel
theorem dX10_takesNumber_71 : decode cX10_takesNumber 71 = .ok (.putfield 63, 3) := by decide +kernel
theorem dX10_takesNumber_74 : decode cX10_takesNumber 74 = .ok (.aload_n 0, 1) := by decide +kernel
theorem dX10_takesNumber_75 : decode cX10_takesNumber 75 = .ok (.dup, 1) := by decide +kernel
theorem dX10_takesNumber_76 : decode cX10_takesNumber 76 = .ok (.getfield 60, 3) := by decide +kernel
theorem dX10_takesNumber_79 : decode cX10_takesNumber 79 = .ok (.iconst 1, 1) := by decide +kernel
theorem dX10_takesNumber_80 : decode cX10_takesNumber 80 = .ok (.iadd, 1) := by decide +kernel
theorem dX10_takesNumber_81 : decode cX10_takesNumber 81 = .ok (.putfield 60, 3) := by decide +kernel
theorem dX10_takesNumber_84 : decode cX10_takesNumber 84 = .ok (.iinc 2 1, 3) := by decide +kernel
theorem dX10_takesNumber_87 : decode cX10_takesNumber 87 = .ok (.goto (-71), 3) := by decide +kernel
theorem dX10_takesNumber_90 : decode cX10_takesNumber 90 = .ok (.iload_n 1, 1) := by decide +kernel
theorem dX10_takesNumber_91 : decode cX10_takesNumber 91 = .ok (.ifCond .eq 10, 3) := by decide +kernel
theorem dX10_takesNumber_94 : decode cX10_takesNumber 94 = .ok (.aload_n 0, 1) := by decide +kernel
theorem dX10_takesNumber_95 : decode cX10_takesNumber 95 = .ok (.getfield 63, 3) := by decide +kernel
theorem dX10_takesNumber_98 : decode cX10_takesNumber 98 = .ok (.ifCond .le 7, 3) := by decide +kernel
theorem dX10_takesNumber_101 : decode cX10_takesNumber 101 = .ok (.iconst 1, 1) := by decide +kernel
theorem dX10_takesNumber_102 : decode cX10_takesNumber 102 = .ok (.goto 4, 3) := by decide +kernel
theorem dX10_takesNumber_105 : decode cX10_takesNumber 105 = .ok (.iconst 0, 1) := by decide +kernel
theorem dX10_takesNumber_106 : decode cX10_takesNumber 106 = .ok (.ireturn, 1) := by decide +kernel
theorem dX10_unroll_0 : decode cX10_unroll 0 = .ok (.aload_n 0, 1) := by decide +kernel
theorem dX10_unroll_1 : decode cX10_unroll 1 = .ok (.aload_n 0, 1) := by decide +kernel
theorem dX10_unroll_2 : decode cX10_unroll 2 = .ok (.invokevirtual 250, 3) := by decide +kernel
theorem dX10_unroll_5 : decode cX10_unroll 5 = .ok (.putfield 138, 3) := by decide +kernel
theorem dX10_unroll_8 : decode cX10_unroll 8 = .ok (.aload_n 0, 1) := by decide +kernel
theorem dX10_unroll_9 : decode cX10_unroll 9 = .ok (.getfield 7, 3) := by decide +kernel
theorem dX10_unroll_12 : decode cX10_unroll 12 = .ok (.istore_n 1, 1) := by decide +kernel
theorem dX10_unroll_13 : decode cX10_unroll 13 = .ok (.iconst 0, 1) := by decide +kernel
theorem dX10_unroll_14 : decode cX10_unroll 14 = .ok (.istore_n 2, 1) := by decide +kernel
theorem dX10_unroll_15 : decode cX10_unroll 15 = .ok (.iload_n 2, 1) := by decide +kernel
theorem dX10_unroll_16 : decode cX10_unroll 16 = .ok (.iload_n 1, 1) := by decide +kernel
theorem dX10_unroll_17 : decode cX10_unroll 17 = .ok (.if_icmp .ge 116, 3) := by decide +kernel
theorem dX10_unroll_20 : decode cX10_unroll 20 = .ok (.iconst 0, 1) := by decide +kernel
theorem dX10_unroll_21 : decode cX10_unroll 21 = .ok (.istore_n 3, 1) := by decide +kernel
theorem dX10_unroll_22 : decode cX10_unroll 22 = .ok (.iload_n 3, 1) := by decide +kernel
theorem dX10_unroll_23 : decode cX10_unroll 23 = .ok (.iload_n 1, 1) := by decide +kernel
theorem dX10_unroll_24 : decode cX10_unroll 24 = .ok (.if_icmp .ge 72, 3) := by decide +kernel
theorem dX10_unroll_27 : decode cX10_unroll 27 = .ok (.aload_n 0, 1) := by decide +kernel
theorem dX10_unroll_28 : decode cX10_unroll 28 = .ok (.getfield 131, 3) := by decide +kernel
theorem dX10_unroll_31 : decode cX10_unroll 31 = .ok (.bipush 9, 2) := by decide +kernel
theorem dX10_unroll_33 : decode cX10_unroll 33 = .ok (.iload_n 2, 1) := by decide +kernel
theorem dX10_unroll_34 : decode cX10_unroll 34 = .ok (.imul, 1) := by decide +kernel
theorem dX10_unroll_35 : decode cX10_unroll 35 = .ok (.iload_n 3, 1) := by decide +kernel
theorem dX10_unroll_36 : decode cX10_unroll 36 = .ok (.iadd, 1) := by decide +kernel
theorem dX10_unroll_37 : decode cX10_unroll 37 = .ok (.iload_n 3, 1) := by decide +kernel
theorem dX10_unroll_38 : decode cX10_unroll 38 = .ok (.iload_n 2, 1) := by decide +kernel
theorem dX10_unroll_39 : decode cX10_unroll 39 = .ok (.if_icmp .ne 9, 3) := by decide +kernel
theorem dX10_unroll_42 : decode cX10_unroll 42 = .ok (.ldc2_w 270, 3) := by decide +kernel
theorem dX10_unroll_45 : decode cX10_unroll 45 = .ok (.goto 44, 3) := by decide +kernel
theorem dX10_unroll_48 : decode cX10_unroll 48 = .ok (.aload_n 0, 1) := by decide +kernel
theorem dX10_unroll_49 : decode cX10_unroll 49 = .ok (.aload_n 0, 1) := by decide +kernel
theorem dX10_unroll_50 : decode cX10_unroll 50 = .ok (.getfield 138, 3) := by decide +kernel
theorem dX10_unroll_53 : decode cX10_unroll 53 = .ok (.iload_n 3, 1) := by decide +kernel
theorem dX10_unroll_54 : decode cX10_unroll 54 = .ok (.invokevirtual 241, 3) := by decide +kernel
theorem dX10_unroll_57 : decode cX10_unroll 57 = .ok (.ifCond .ne 15, 3) := by decide +kernel
theorem dX10_unroll_60 : decode cX10_unroll 60 = .ok (.aload_n 0, 1) := by decide +kernel
theorem dX10_unroll_61 : decode cX10_unroll 61 = .ok (.aload_n 0, 1) := by decide +kernel
theorem dX10_unroll_62 : decode cX10_unroll 62 = .ok (.getfield 138, 3) := by decide +kernel
theorem dX10_unroll_65 : decode cX10_unroll 65 = .ok (.iload_n 2, 1) := by decide +kernel
theorem dX10_unroll_66 : decode cX10_unroll 66 = .ok (.invokevirtual 241, 3) := by decide +kernel
theorem dX10_unroll_69 : decode cX10_unroll 69 = .ok (.ifCond .eq 7, 3) := by decide +kernel
theorem dX10_unroll_72 : decode cX10_unroll 72 = .ok (.lconst 0, 1) := by decide +kernel
theorem dX10_unroll_73 : decode cX10_unroll 73 = .ok (.goto 16, 3) := by decide +kernel
theorem dX10_unroll_76 : decode cX10_unroll 76 = .ok (.aload_n 0, 1) := by decide +kernel
theorem dX10_unroll_77 : decode cX10_unroll 77 = .ok (.getfield 115, 3) := by decide +kernel
theorem dX10_unroll_80 : decode cX10_unroll 80 = .ok (.bipush 8, 2) := by decide +kernel
theorem dX10_unroll_82 : decode cX10_unroll 82 = .ok (.iload_n 3, 1) := by decide +kernel
theorem dX10_unroll_83 : decode cX10_unroll 83 = .ok (.imul, 1) := by decide +kernel
theorem dX10_unroll_84 : decode cX10_unroll 84 = .ok (.iload_n 2, 1) := by decide +kernel
theorem dX10_unroll_85 : decode cX10_unroll 85 = .ok (.iadd, 1) := by decide +kernel
theorem dX10_unroll_86 : decode cX10_unroll 86 = .ok (.iaload, 1) := by decide +kernel
theorem dX10_unroll_87 : decode cX10_unroll 87 = .ok (.ineg, 1) := by decide +kernel
theorem dX10_unroll_88 : decode cX10_unroll 88 = .ok (.i2l, 1) := by decide +kernel
theorem dX10_unroll_89 : decode cX10_unroll 89 = .ok (.lastore, 1) := by decide +kernel
theorem dX10_unroll_90 : decode cX10_unroll 90 = .ok (.iinc 3 1, 3) := by decide +kernel
theorem dX10_unroll_93 : decode cX10_unroll 93 = .ok (.goto (-71), 3) := by decide +kernel
theorem dX10_unroll_96 : decode cX10_unroll 96 = .ok (.aload_n 0, 1) := by decide +kernel
theorem dX10_unroll_97 : decode cX10_unroll 97 = .ok (.getfield 131, 3) := by decide +kernel
theorem dX10_unroll_100 : decode cX10_unroll 100 = .ok (.bipush 9, 2) := by decide +kernel
theorem dX10_unroll_102 : decode cX10_unroll 102 = .ok (.iload_n 2, 1) := by decide +kernel
theorem dX10_unroll_103 : decode cX10_unroll 103 = .ok (.imul, 1) := by decide +kernel
theorem dX10_unroll_104 : decode cX10_unroll 104 = .ok (.bipush 8, 2) := by decide +kernel
theorem dX10_unroll_106 : decode cX10_unroll 106 = .ok (.iadd, 1) := by decide +kernel
theorem dX10_unroll_107 : decode cX10_unroll 107 = .ok (.aload_n 0, 1) := by decide +kernel
theorem dX10_unroll_108 : decode cX10_unroll 108 = .ok (.aload_n 0, 1) := by decide +kernel
theorem dX10_unroll_109 : decode cX10_unroll 109 = .ok (.getfield 138, 3) := by decide +kernel
theorem dX10_unroll_112 : decode cX10_unroll 112 = .ok (.iload_n 2, 1) := by decide +kernel
theorem dX10_unroll_113 : decode cX10_unroll 113 = .ok (.invokevirtual 241, 3) := by decide +kernel
theorem dX10_unroll_116 : decode cX10_unroll 116 = .ok (.ifCond .eq 7, 3) := by decide +kernel
theorem dX10_unroll_119 : decode cX10_unroll 119 = .ok (.lconst 0, 1) := by decide +kernel
theorem dX10_unroll_120 : decode cX10_unroll 120 = .ok (.goto 6, 3) := by decide +kernel
theorem dX10_unroll_123 : decode cX10_unroll 123 = .ok (.ldc2_w 270, 3) := by decide +kernel
theorem dX10_unroll_126 : decode cX10_unroll 126 = .ok (.lastore, 1) := by decide +kernel
theorem dX10_unroll_127 : decode cX10_unroll 127 = .ok (.iinc 2 1, 3) := by decide +kernel
theorem dX10_unroll_130 : decode cX10_unroll 130 = .ok (.goto (-115), 3) := by decide +kernel
theorem dX10_unroll_133 : decode cX10_unroll 133 = .ok (.lconst 1, 1) := by decide +kernel
theorem dX10_unroll_134 : decode cX10_unroll 134 = .ok (.lstore_n 2, 1) := by decide +kernel
theorem dX10_unroll_135 : decode cX10_unroll 135 = .ok (.iconst 0, 1) := by decide +kernel
theorem dX10_unroll_136 : decode cX10_unroll 136 = .ok (.istore 4, 2) := by decide +kernel
theorem dX10_unroll_138 : decode cX10_unroll 138 = .ok (.iload 4, 2) := by decide +kernel
theorem dX10_unroll_140 : decode cX10_unroll 140 = .ok (.iload_n 1, 1) := by decide +kernel
theorem dX10_unroll_141 : decode cX10_unroll 141 = .ok (.if_icmp .ge 183, 3) := by decide +kernel
theorem dX10_unroll_144 : decode cX10_unroll 144 = .ok (.aload_n 0, 1) := by decide +kernel
theorem dX10_unroll_145 : decode cX10_unroll 145 = .ok (.getfield 131, 3) := by decide +kernel
theorem dX10_unroll_148 : decode cX10_unroll 148 = .ok (.bipush 9, 2) := by decide +kernel
theorem dX10_unroll_150 : decode cX10_unroll 150 = .ok (.iload 4, 2) := by decide +kernel
theorem dX10_unroll_152 : decode cX10_unroll 152 = .ok (.imul, 1) := by decide +kernel
theorem dX10_unroll_153 : decode cX10_unroll 153 = .ok (.iload 4, 2) := by decide +kernel
theorem dX10_unroll_155 : decode cX10_unroll 155 = .ok (.iadd, 1) := by decide +kernel
theorem dX10_unroll_156 : decode cX10_unroll 156 = .ok (.laload, 1) := by decide +kernel
theorem dX10_unroll_157 : decode cX10_unroll 157 = .ok (.lstore 5, 2) := by decide +kernel
theorem dX10_unroll_159 : decode cX10_unroll 159 = .ok (.iconst 0, 1) := by decide +kernel
theorem dX10_unroll_160 : decode cX10_unroll 160 = .ok (.istore 7, 2) := by decide +kernel
theorem dX10_unroll_162 : decode cX10_unroll 162 = .ok (.iload 7, 2) := by decide +kernel
theorem dX10_unroll_164 : decode cX10_unroll 164 = .ok (.iload_n 1, 1) := by decide +kernel
theorem dX10_unroll_165 : decode cX10_unroll 165 = .ok (.if_icmp .ge 119, 3) := by decide +kernel
theorem dX10_unroll_168 : decode cX10_unroll 168 = .ok (.iload 7, 2) := by decide +kernel
theorem dX10_unroll_170 : decode cX10_unroll 170 = .ok (.iload 4, 2) := by decide +kernel
theorem dX10_unroll_172 : decode cX10_unroll 172 = .ok (.if_icmp .ne 6, 3) := by decide +kernel
theorem dX10_unroll_175 : decode cX10_unroll 175 = .ok (.goto 103, 3) := by decide +kernel
theorem dX10_unroll_178 : decode cX10_unroll 178 = .ok (.aload_n 0, 1) := by decide +kernel
theorem dX10_unroll_179 : decode cX10_unroll 179 = .ok (.getfield 131, 3) := by decide +kernel
theorem dX10_unroll_182 : decode cX10_unroll 182 = .ok (.bipush 9, 2) := by decide +kernel
theorem dX10_unroll_184 : decode cX10_unroll 184 = .ok (.iload 7, 2) := by decide +kernel
theorem dX10_unroll_186 : decode cX10_unroll 186 = .ok (.imul, 1) := by decide +kernel
theorem dX10_unroll_187 : decode cX10_unroll 187 = .ok (.iload 4, 2) := by decide +kernel
theorem dX10_unroll_189 : decode cX10_unroll 189 = .ok (.iadd, 1) := by decide +kernel
theorem dX10_unroll_190 : decode cX10_unroll 190 = .ok (.laload, 1) := by decide +kernel
theorem dX10_unroll_191 : decode cX10_unroll 191 = .ok (.lstore 8, 2) := by decide +kernel
theorem dX10_unroll_193 : decode cX10_unroll 193 = .ok (.iconst 0, 1) := by decide +kernel
theorem dX10_unroll_194 : decode cX10_unroll 194 = .ok (.istore 10, 2) := by decide +kernel
theorem dX10_unroll_196 : decode cX10_unroll 196 = .ok (.iload 10, 2) := by decide +kernel
theorem dX10_unroll_198 : decode cX10_unroll 198 = .ok (.bipush 9, 2) := by decide +kernel
theorem dX10_unroll_200 : decode cX10_unroll 200 = .ok (.if_icmp .ge 64, 3) := by decide +kernel
theorem dX10_unroll_203 : decode cX10_unroll 203 = .ok (.iload 10, 2) := by decide +kernel
theorem dX10_unroll_205 : decode cX10_unroll 205 = .ok (.iload 4, 2) := by decide +kernel
theorem dX10_unroll_207 : decode cX10_unroll 207 = .ok (.if_icmp .eq 51, 3) := by decide +kernel
theorem dX10_unroll_210 : decode cX10_unroll 210 = .ok (.aload_n 0, 1) := by decide +kernel
theorem dX10_unroll_211 : decode cX10_unroll 211 = .ok (.getfield 131, 3) := by decide +kernel
theorem dX10_unroll_214 : decode cX10_unroll 214 = .ok (.bipush 9, 2) := by decide +kernel
theorem dX10_unroll_216 : decode cX10_unroll 216 = .ok (.iload 7, 2) := by decide +kernel
theorem dX10_unroll_218 : decode cX10_unroll 218 = .ok (.imul, 1) := by decide +kernel
theorem dX10_unroll_219 : decode cX10_unroll 219 = .ok (.iload 10, 2) := by decide +kernel
theorem dX10_unroll_221 : decode cX10_unroll 221 = .ok (.iadd, 1) := by decide +kernel
theorem dX10_unroll_222 : decode cX10_unroll 222 = .ok (.lload 5, 2) := by decide +kernel
theorem dX10_unroll_224 : decode cX10_unroll 224 = .ok (.aload_n 0, 1) := by decide +kernel
theorem dX10_unroll_225 : decode cX10_unroll 225 = .ok (.getfield 131, 3) := by decide +kernel
theorem dX10_unroll_228 : decode cX10_unroll 228 = .ok (.bipush 9, 2) := by decide +kernel
theorem dX10_unroll_230 : decode cX10_unroll 230 = .ok (.iload 7, 2) := by decide +kernel
theorem dX10_unroll_232 : decode cX10_unroll 232 = .ok (.imul, 1) := by decide +kernel
theorem dX10_unroll_233 : decode cX10_unroll 233 = .ok (.iload 10, 2) := by decide +kernel
theorem dX10_unroll_235 : decode cX10_unroll 235 = .ok (.iadd, 1) := by decide +kernel
theorem dX10_unroll_236 : decode cX10_unroll 236 = .ok (.laload, 1) := by decide +kernel
theorem dX10_unroll_237 : decode cX10_unroll 237 = .ok (.lmul, 1) := by decide +kernel
theorem dX10_unroll_238 : decode cX10_unroll 238 = .ok (.lload 8, 2) := by decide +kernel
theorem dX10_unroll_240 : decode cX10_unroll 240 = .ok (.aload_n 0, 1) := by decide +kernel
theorem dX10_unroll_241 : decode cX10_unroll 241 = .ok (.getfield 131, 3) := by decide +kernel
theorem dX10_unroll_244 : decode cX10_unroll 244 = .ok (.bipush 9, 2) := by decide +kernel
theorem dX10_unroll_246 : decode cX10_unroll 246 = .ok (.iload 4, 2) := by decide +kernel
theorem dX10_unroll_248 : decode cX10_unroll 248 = .ok (.imul, 1) := by decide +kernel
theorem dX10_unroll_249 : decode cX10_unroll 249 = .ok (.iload 10, 2) := by decide +kernel
theorem dX10_unroll_251 : decode cX10_unroll 251 = .ok (.iadd, 1) := by decide +kernel
theorem dX10_unroll_252 : decode cX10_unroll 252 = .ok (.laload, 1) := by decide +kernel
theorem dX10_unroll_253 : decode cX10_unroll 253 = .ok (.lmul, 1) := by decide +kernel
theorem dX10_unroll_254 : decode cX10_unroll 254 = .ok (.lsub, 1) := by decide +kernel
theorem dX10_unroll_255 : decode cX10_unroll 255 = .ok (.lload_n 2, 1) := by decide +kernel
theorem dX10_unroll_256 : decode cX10_unroll 256 = .ok (.ldiv, 1) := by decide +kernel
theorem dX10_unroll_257 : decode cX10_unroll 257 = .ok (.lastore, 1) := by decide +kernel
theorem dX10_unroll_258 : decode cX10_unroll 258 = .ok (.iinc 10 1, 3) := by decide +kernel
theorem dX10_unroll_261 : decode cX10_unroll 261 = .ok (.goto (-65), 3) := by decide +kernel
theorem dX10_unroll_264 : decode cX10_unroll 264 = .ok (.aload_n 0, 1) := by decide +kernel
theorem dX10_unroll_265 : decode cX10_unroll 265 = .ok (.getfield 131, 3) := by decide +kernel
theorem dX10_unroll_268 : decode cX10_unroll 268 = .ok (.bipush 9, 2) := by decide +kernel
theorem dX10_unroll_270 : decode cX10_unroll 270 = .ok (.iload 7, 2) := by decide +kernel
theorem dX10_unroll_272 : decode cX10_unroll 272 = .ok (.imul, 1) := by decide +kernel
theorem dX10_unroll_273 : decode cX10_unroll 273 = .ok (.iload 4, 2) := by decide +kernel
theorem dX10_unroll_275 : decode cX10_unroll 275 = .ok (.iadd, 1) := by decide +kernel
theorem dX10_unroll_276 : decode cX10_unroll 276 = .ok (.lconst 0, 1) := by decide +kernel
theorem dX10_unroll_277 : decode cX10_unroll 277 = .ok (.lastore, 1) := by decide +kernel
theorem dX10_unroll_278 : decode cX10_unroll 278 = .ok (.iinc 7 1, 3) := by decide +kernel
theorem dX10_unroll_281 : decode cX10_unroll 281 = .ok (.goto (-119), 3) := by decide +kernel
theorem dX10_unroll_284 : decode cX10_unroll 284 = .ok (.iconst 0, 1) := by decide +kernel
theorem dX10_unroll_285 : decode cX10_unroll 285 = .ok (.istore 7, 2) := by decide +kernel
theorem dX10_unroll_287 : decode cX10_unroll 287 = .ok (.iload 7, 2) := by decide +kernel
theorem dX10_unroll_289 : decode cX10_unroll 289 = .ok (.iload 4, 2) := by decide +kernel
theorem dX10_unroll_291 : decode cX10_unroll 291 = .ok (.if_icmp .ge 24, 3) := by decide +kernel
theorem dX10_unroll_294 : decode cX10_unroll 294 = .ok (.aload_n 0, 1) := by decide +kernel
theorem dX10_unroll_295 : decode cX10_unroll 295 = .ok (.getfield 131, 3) := by decide +kernel
theorem dX10_unroll_298 : decode cX10_unroll 298 = .ok (.bipush 9, 2) := by decide +kernel
theorem dX10_unroll_300 : decode cX10_unroll 300 = .ok (.iload 7, 2) := by decide +kernel
theorem dX10_unroll_302 : decode cX10_unroll 302 = .ok (.imul, 1) := by decide +kernel
theorem dX10_unroll_303 : decode cX10_unroll 303 = .ok (.iload 7, 2) := by decide +kernel
theorem dX10_unroll_305 : decode cX10_unroll 305 = .ok (.iadd, 1) := by decide +kernel
theorem dX10_unroll_306 : decode cX10_unroll 306 = .ok (.lload 5, 2) := by decide +kernel
theorem dX10_unroll_308 : decode cX10_unroll 308 = .ok (.lastore, 1) := by decide +kernel
theorem dX10_unroll_309 : decode cX10_unroll 309 = .ok (.iinc 7 1, 3) := by decide +kernel
theorem dX10_unroll_312 : decode cX10_unroll 312 = .ok (.goto (-25), 3) := by decide +kernel
theorem dX10_unroll_315 : decode cX10_unroll 315 = .ok (.lload 5, 2) := by decide +kernel
theorem dX10_unroll_317 : decode cX10_unroll 317 = .ok (.lstore_n 2, 1) := by decide +kernel
theorem dX10_unroll_318 : decode cX10_unroll 318 = .ok (.iinc 4 1, 3) := by decide +kernel
theorem dX10_unroll_321 : decode cX10_unroll 321 = .ok (.goto (-183), 3) := by decide +kernel
theorem dX10_unroll_324 : decode cX10_unroll 324 = .ok (.aload_n 0, 1) := by decide +kernel
theorem dX10_unroll_325 : decode cX10_unroll 325 = .ok (.ldc2_w 270, 3) := by decide +kernel
theorem dX10_unroll_328 : decode cX10_unroll 328 = .ok (.lload_n 2, 1) := by decide +kernel
theorem dX10_unroll_329 : decode cX10_unroll 329 = .ok (.lmul, 1) := by decide +kernel
theorem dX10_unroll_330 : decode cX10_unroll 330 = .ok (.putfield 134, 3) := by decide +kernel
theorem dX10_unroll_333 : decode cX10_unroll 333 = .ok (.iconst 0, 1) := by decide +kernel
theorem dX10_unroll_334 : decode cX10_unroll 334 = .ok (.istore 4, 2) := by decide +kernel
theorem dX10_unroll_336 : decode cX10_unroll 336 = .ok (.iload 4, 2) := by decide +kernel
theorem dX10_unroll_338 : decode cX10_unroll 338 = .ok (.iload_n 1, 1) := by decide +kernel
theorem dX10_unroll_339 : decode cX10_unroll 339 = .ok (.if_icmp .ge 94, 3) := by decide +kernel
theorem dX10_unroll_342 : decode cX10_unroll 342 = .ok (.aload_n 0, 1) := by decide +kernel
theorem dX10_unroll_343 : decode cX10_unroll 343 = .ok (.aload_n 0, 1) := by decide +kernel
theorem dX10_unroll_344 : decode cX10_unroll 344 = .ok (.getfield 138, 3) := by decide +kernel
theorem dX10_unroll_347 : decode cX10_unroll 347 = .ok (.iload 4, 2) := by decide +kernel
theorem dX10_unroll_349 : decode cX10_unroll 349 = .ok (.invokevirtual 241, 3) := by decide +kernel
theorem dX10_unroll_352 : decode cX10_unroll 352 = .ok (.ifCond .eq 7, 3) := by decide +kernel
theorem dX10_unroll_355 : decode cX10_unroll 355 = .ok (.lconst 0, 1) := by decide +kernel
theorem dX10_unroll_356 : decode cX10_unroll 356 = .ok (.goto 31, 3) := by decide +kernel
theorem dX10_unroll_359 : decode cX10_unroll 359 = .ok (.aload_n 0, 1) := by decide +kernel
theorem dX10_unroll_360 : decode cX10_unroll 360 = .ok (.getfield 131, 3) := by decide +kernel
theorem dX10_unroll_363 : decode cX10_unroll 363 = .ok (.bipush 9, 2) := by decide +kernel
theorem dX10_unroll_365 : decode cX10_unroll 365 = .ok (.iload 4, 2) := by decide +kernel
theorem dX10_unroll_367 : decode cX10_unroll 367 = .ok (.imul, 1) := by decide +kernel
theorem dX10_unroll_368 : decode cX10_unroll 368 = .ok (.bipush 8, 2) := by decide +kernel
theorem dX10_unroll_370 : decode cX10_unroll 370 = .ok (.iadd, 1) := by decide +kernel
theorem dX10_unroll_371 : decode cX10_unroll 371 = .ok (.laload, 1) := by decide +kernel
theorem dX10_unroll_372 : decode cX10_unroll 372 = .ok (.aload_n 0, 1) := by decide +kernel
theorem dX10_unroll_373 : decode cX10_unroll 373 = .ok (.getfield 115, 3) := by decide +kernel
theorem dX10_unroll_376 : decode cX10_unroll 376 = .ok (.bipush 8, 2) := by decide +kernel
theorem dX10_unroll_378 : decode cX10_unroll 378 = .ok (.iload 4, 2) := by decide +kernel
theorem dX10_unroll_380 : decode cX10_unroll 380 = .ok (.imul, 1) := by decide +kernel
theorem dX10_unroll_381 : decode cX10_unroll 381 = .ok (.iload 4, 2) := by decide +kernel
theorem dX10_unroll_383 : decode cX10_unroll 383 = .ok (.iadd, 1) := by decide +kernel
theorem dX10_unroll_384 : decode cX10_unroll 384 = .ok (.iaload, 1) := by decide +kernel
theorem dX10_unroll_385 : decode cX10_unroll 385 = .ok (.i2l, 1) := by decide +kernel
theorem dX10_unroll_386 : decode cX10_unroll 386 = .ok (.lmul, 1) := by decide +kernel
theorem dX10_unroll_387 : decode cX10_unroll 387 = .ok (.lstore 5, 2) := by decide +kernel
theorem dX10_unroll_389 : decode cX10_unroll 389 = .ok (.aload_n 0, 1) := by decide +kernel
theorem dX10_unroll_390 : decode cX10_unroll 390 = .ok (.getfield 127, 3) := by decide +kernel
theorem dX10_unroll_393 : decode cX10_unroll 393 = .ok (.iload 4, 2) := by decide +kernel
theorem dX10_unroll_395 : decode cX10_unroll 395 = .ok (.lload 5, 2) := by decide +kernel
theorem dX10_unroll_397 : decode cX10_unroll 397 = .ok (.aload_n 0, 1) := by decide +kernel
theorem dX10_unroll_398 : decode cX10_unroll 398 = .ok (.getfield 70, 3) := by decide +kernel
theorem dX10_unroll_401 : decode cX10_unroll 401 = .ok (.i2l, 1) := by decide +kernel
theorem dX10_unroll_402 : decode cX10_unroll 402 = .ok (.aload_n 0, 1) := by decide +kernel
theorem dX10_unroll_403 : decode cX10_unroll 403 = .ok (.getfield 134, 3) := by decide +kernel
theorem dX10_unroll_406 : decode cX10_unroll 406 = .ok (.lmul, 1) := by decide +kernel
theorem dX10_unroll_407 : decode cX10_unroll 407 = .ok (.lcmp, 1) := by decide +kernel
theorem dX10_unroll_408 : decode cX10_unroll 408 = .ok (.ifCond .le 16, 3) := by decide +kernel
theorem dX10_unroll_411 : decode cX10_unroll 411 = .ok (.aload_n 0, 1) := by decide +kernel
theorem dX10_unroll_412 : decode cX10_unroll 412 = .ok (.getfield 70, 3) := by decide +kernel
theorem dX10_unroll_415 : decode cX10_unroll 415 = .ok (.i2l, 1) := by decide +kernel
theorem dX10_unroll_416 : decode cX10_unroll 416 = .ok (.aload_n 0, 1) := by decide +kernel
theorem dX10_unroll_417 : decode cX10_unroll 417 = .ok (.getfield 134, 3) := by decide +kernel
theorem dX10_unroll_420 : decode cX10_unroll 420 = .ok (.lmul, 1) := by decide +kernel
theorem dX10_unroll_421 : decode cX10_unroll 421 = .ok (.goto 5, 3) := by decide +kernel
theorem dX10_unroll_424 : decode cX10_unroll 424 = .ok (.lload 5, 2) := by decide +kernel
theorem dX10_unroll_426 : decode cX10_unroll 426 = .ok (.lastore, 1) := by decide +kernel
theorem dX10_unroll_427 : decode cX10_unroll 427 = .ok (.iinc 4 1, 3) := by decide +kernel
theorem dX10_unroll_430 : decode cX10_unroll 430 = .ok (.goto (-94), 3) := by decide +kernel
theorem dX10_unroll_433 : decode cX10_unroll 433 = .ok (.return_, 1) := by decide +kernel
def L_X10_decides_8 (l : Launch) (e : hv_Ev)  (Φ : Int32 → hv_S → Prop) (x1 : Int32) (y2 : Int64) (y4 : Int64) (x6 : Int32) (σ : hv_S) : Prop := hv_TW l (hv_e2 e) (hv_rm 1) 0 0 m_X10_decides hv_no (hv_ZI (hv_e2 e) Φ) 8 [(0, .ref 60), (1, .int x1), (2, .long y2), (4, .long y4), (6, .int x6)] [] σ
set_option maxHeartbeats 4000000 in
set_option maxRecDepth 100000 in
theorem B_X10_decides_8 {l : Launch} {e : hv_Ev}  (x1 : Int32) (y2 : Int64) (y4 : Int64) (x6 : Int32) {σ : hv_S} {Φ : Int32 → hv_S → Prop} (h : (((σ.1 60 0) ≤ x6 → ((((σ.1 60 21).toInt64 * y2) ≤ ((σ.1 60 20).toInt64 * y4) → Φ 0 σ) ∧ (¬ ((σ.1 60 21).toInt64 * y2) ≤ ((σ.1 60 20).toInt64 * y4) → Φ 1 σ))) ∧ (¬ (σ.1 60 0) ≤ x6 → (vp_in x6 8 ∧ hv_CI l (hv_e2 e) 0 m_X10_has [.ref 60, .int x1, .int x6] σ (fun v2 s1 => ((v2 = 0 → L_X10_decides_8 l e Φ x1 (y2 + 0) (y4 + (σ.2.1 75 x6.toNatClampNeg)) (x6 + 1) s1) ∧ (¬ v2 = 0 → (vp_in x6 8 ∧ L_X10_decides_8 l e Φ x1 (y2 + (s1.2.1 75 x6.toNatClampNeg)) (y4 + (σ.2.1 75 x6.toNatClampNeg)) (x6 + 1) s1)))))))) : L_X10_decides_8 l e Φ x1 y2 y4 x6 σ := by
  show hv_TW l (hv_e2 e) (hv_rm 1) 0 0 m_X10_decides hv_no (hv_ZI (hv_e2 e) Φ) 8 [(0, .ref 60), (1, .int x1), (2, .long y2), (4, .long y4), (6, .int x6)] [] σ
  refine T_iload dX10_decides_8 4 rfl ?_
  refine T_aload_n dX10_decides_10 rfl 0 rfl ?_
  refine T_get (v := .int (σ.1 60 0)) dX10_decides_11 fl_X10_7 hp_60 hs_60 rfl rfl ?_
  refine T_icmp_ge (tgt := 59) dX10_decides_14 (by decide) (fun c4 => ?_) (fun c4 => ?_)
  · refine T_aload_n dX10_decides_59 rfl 0 rfl ?_
    refine T_get (v := .int (σ.1 60 21)) dX10_decides_60 fl_X10_76 hp_60 hs_60 rfl rfl ?_
    refine T_i2l dX10_decides_63 ?_
    refine T_lload_n dX10_decides_64 rfl 2 rfl ?_
    refine T_lmul dX10_decides_65 ?_
    refine T_aload_n dX10_decides_66 rfl 0 rfl ?_
    refine T_get (v := .int (σ.1 60 20)) dX10_decides_67 fl_X10_73 hp_60 hs_60 rfl rfl ?_
    refine T_i2l dX10_decides_70 ?_
    refine T_lload dX10_decides_71 3 rfl ?_
    refine T_lmul dX10_decides_73 ?_
    refine T_lc_le (tgt := 82) dX10_decides_74 dX10_decides_75 (by decide) (fun c5 => ?_) (fun c5 => ?_)
    · refine T_iconst (v := 0) dX10_decides_82 (by decide) ?_
      exact T_zret dX10_decides_83 rfl (by decide) ((h.1 c4).1 c5)
    · refine T_iconst (v := 1) dX10_decides_78 (by decide) ?_
      refine T_goto (tgt := 83) dX10_decides_79 (by decide) ?_
      exact T_zret dX10_decides_83 rfl (by decide) ((h.1 c4).2 c5)
  · refine T_lload dX10_decides_17 3 rfl ?_
    refine T_aload_n dX10_decides_19 rfl 0 rfl ?_
    refine T_get (v := .ref 75) dX10_decides_20 fl_X10_127 hp_60 hs_60 rfl rfl ?_
    refine T_iload dX10_decides_23 4 rfl ?_
    refine T_lald dX10_decides_25 hp_75 hs_75 (h.2 c4).1 ?_
    refine T_ladd dX10_decides_26 ?_
    refine T_lstore dX10_decides_27 (by decide) rfl ?_
    refine T_lload_n dX10_decides_29 rfl 3 rfl ?_
    refine T_aload_n dX10_decides_30 rfl 1 rfl ?_
    refine T_iload_n dX10_decides_31 rfl 2 rfl ?_
    refine T_iload dX10_decides_32 4 rfl ?_
    refine T_VI (As := [.int x1, .int x6]) dX10_decides_34 mv_X10_241 hp_60 hs_60 rfl (Nat.le_of_ble_eq_true rfl) (hv_ok1 rfl) rfl ((h.2 c4).2) (fun v2 s1 h3 => ?_)
    refine T_if_eq (tgt := 50) dX10_decides_37 (by decide) (fun c6 => ?_) (fun c6 => ?_)
    · refine T_lconst (v := 0) dX10_decides_50 (by decide) ?_
      refine T_ladd dX10_decides_51 ?_
      refine T_lstore_n dX10_decides_52 rfl (by decide) rfl ?_
      refine T_iinc (v := (x6 + 1)) dX10_decides_53 4 rfl rfl (by decide) rfl ?_
      refine T_goto (tgt := 8) dX10_decides_56 (by decide) ?_
      exact T_sub [3, 4, 1, 2, 0] rfl (h3.1 c6)
    · refine T_aload_n dX10_decides_40 rfl 1 rfl ?_
      refine T_get (v := .ref 75) dX10_decides_41 fl_X10_127 hp_60 hs_60 rfl rfl ?_
      refine T_iload dX10_decides_44 4 rfl ?_
      refine T_lald dX10_decides_46 hp_75 hs_75 (h3.2 c6).1 ?_
      refine T_goto (tgt := 51) dX10_decides_47 (by decide) ?_
      refine T_ladd dX10_decides_51 ?_
      refine T_lstore_n dX10_decides_52 rfl (by decide) rfl ?_
      refine T_iinc (v := (x6 + 1)) dX10_decides_53 4 rfl rfl (by decide) rfl ?_
      refine T_goto (tgt := 8) dX10_decides_56 (by decide) ?_
      exact T_sub [3, 4, 1, 2, 0] rfl (h3.2 c6).2
set_option maxHeartbeats 4000000 in
set_option maxRecDepth 100000 in
theorem B_X10_decides {l : Launch} {e : hv_Ev}  (x1 : Int32) {σ : hv_S} {Φ : Int32 → hv_S → Prop} (h : L_X10_decides_8 l e Φ x1 0 0 0 σ) : hv_CI l (hv_e2 e) 1 m_X10_decides [.ref 60, .int x1] σ Φ := by
  refine hv_entI (by decide) (Nat.le_of_ble_eq_true rfl) ?_
  show hv_TW l (hv_e2 e) (hv_rm 1) 0 0 m_X10_decides hv_no (hv_ZI (hv_e2 e) Φ) 0 [(0, .ref 60), (1, .int x1)] [] σ
  refine T_lconst (v := 0) dX10_decides_0 (by decide) ?_
  refine T_lstore_n dX10_decides_1 rfl (by decide) rfl ?_
  refine T_lconst (v := 0) dX10_decides_2 (by decide) ?_
  refine T_lstore dX10_decides_3 (by decide) rfl ?_
  refine T_iconst (v := 0) dX10_decides_5 (by decide) ?_
  refine T_istore dX10_decides_6 (by decide) rfl ?_
  exact T_sub [3, 4, 2, 1, 0] rfl h

set_option maxHeartbeats 4000000 in
set_option maxRecDepth 100000 in
theorem B_X10_putBack {l : Launch} {e : hv_Ev}  (x1 : Int32) (x2 : Int32) {σ : hv_S} {Φ : hv_S → Prop} (h : (vp_in 0 24 ∧ (vp_in 2 24 ∧ (vp_in 3 24 ∧ (vp_in 4 24 ∧ hv_CV l (hv_e2 e) 0 m_X10_put [.ref 60, .int ((8 * x2) + x1), .int (σ.1 77 0), .int (σ.1 77 2), .int (σ.1 77 3), .int (σ.1 77 4)] σ (fun s1 => (vp_in 1 24 ∧ (vp_in ((8 * x2) + x1) 24 ∧ Φ (hv_ui s1 62 (((8 * x2) + x1).toNatClampNeg) (s1.1 77 1)))))))))) : hv_CV l (hv_e2 e) 1 m_X10_putBack [.ref 60, .int x1, .int x2] σ Φ := by
  refine hv_entV (by decide) (Nat.le_of_ble_eq_true rfl) ?_
  show hv_TW l (hv_e2 e) (hv_rm 1) 0 0 m_X10_putBack hv_no (hv_ZV (hv_e2 e) Φ) 0 [(0, .ref 60), (1, .int x1), (2, .int x2)] [] σ
  refine T_bipush (v := 8) dX10_putBack_0 (by decide) ?_
  refine T_iload_n dX10_putBack_2 rfl 2 rfl ?_
  refine T_imul dX10_putBack_3 ?_
  refine T_iload_n dX10_putBack_4 rfl 1 rfl ?_
  refine T_iadd dX10_putBack_5 ?_
  refine T_istore_n dX10_putBack_6 rfl (by decide) rfl ?_
  refine T_aload_n dX10_putBack_7 rfl 1 rfl ?_
  refine T_iload_n dX10_putBack_8 rfl 0 rfl ?_
  refine T_aload_n dX10_putBack_9 rfl 1 rfl ?_
  refine T_get (v := .ref 77) dX10_putBack_10 fl_X10_147 hp_60 hs_60 rfl rfl ?_
  refine T_iconst (v := 0) dX10_putBack_13 (by decide) ?_
  refine T_iald dX10_putBack_14 hp_77 hs_77 h.1 ?_
  refine T_aload_n dX10_putBack_15 rfl 1 rfl ?_
  refine T_get (v := .ref 77) dX10_putBack_16 fl_X10_147 hp_60 hs_60 rfl rfl ?_
  refine T_iconst (v := 2) dX10_putBack_19 (by decide) ?_
  refine T_iald dX10_putBack_20 hp_77 hs_77 h.2.1 ?_
  refine T_aload_n dX10_putBack_21 rfl 1 rfl ?_
  refine T_get (v := .ref 77) dX10_putBack_22 fl_X10_147 hp_60 hs_60 rfl rfl ?_
  refine T_iconst (v := 3) dX10_putBack_25 (by decide) ?_
  refine T_iald dX10_putBack_26 hp_77 hs_77 h.2.2.1 ?_
  refine T_aload_n dX10_putBack_27 rfl 1 rfl ?_
  refine T_get (v := .ref 77) dX10_putBack_28 fl_X10_147 hp_60 hs_60 rfl rfl ?_
  refine T_iconst (v := 4) dX10_putBack_31 (by decide) ?_
  refine T_iald dX10_putBack_32 hp_77 hs_77 h.2.2.2.1 ?_
  refine T_VV (As := [.int ((8 * x2) + x1), .int (σ.1 77 0), .int (σ.1 77 2), .int (σ.1 77 3), .int (σ.1 77 4)]) dX10_putBack_33 mv_X10_175 hp_60 hs_60 rfl (Nat.le_of_ble_eq_true rfl) (hv_ok1 rfl) rfl h.2.2.2.2 (fun s1 h3 => ?_)
  refine T_aload_n dX10_putBack_36 rfl 1 rfl ?_
  refine T_get (v := .ref 62) dX10_putBack_37 fl_X10_20 hp_60 hs_60 rfl rfl ?_
  refine T_iload_n dX10_putBack_40 rfl 0 rfl ?_
  refine T_aload_n dX10_putBack_41 rfl 1 rfl ?_
  refine T_get (v := .ref 77) dX10_putBack_42 fl_X10_147 hp_60 hs_60 rfl rfl ?_
  refine T_iconst (v := 1) dX10_putBack_45 (by decide) ?_
  refine T_iald dX10_putBack_46 hp_77 hs_77 h3.1 ?_
  refine T_iast dX10_putBack_47 hp_62 hs_62 h3.2.1 ?_
  exact T_vret dX10_putBack_48 rfl h3.2.2

set_option maxHeartbeats 4000000 in
set_option maxRecDepth 100000 in
theorem B_X10_isLess {l : Launch} {e : hv_Ev}  (y1 : Int64) (y2 : Int64) (y3 : Int64) (y4 : Int64) {σ : hv_S} {Φ : Int32 → hv_S → Prop} (h : hv_CL l (hv_e2 e) 0 m_X10_divisor [.ref 60, .long y1, .long y2] σ (fun v2 s1 => hv_CL l (hv_e2 e) 0 m_X10_divisor [.ref 60, .long y3, .long y4] s1 (fun v5 s4 => (¬ v2 = 0 ∧ (¬ v5 = 0 ∧ (¬ v5 = 0 ∧ (¬ v2 = 0 ∧ ((((y3 / v5) * (y2 / v2)) ≤ ((y1 / v2) * (y4 / v5)) → Φ 0 s4) ∧ (¬ ((y3 / v5) * (y2 / v2)) ≤ ((y1 / v2) * (y4 / v5)) → Φ 1 s4))))))))) : hv_CI l (hv_e2 e) 1 m_X10_isLess [.ref 60, .long y1, .long y2, .long y3, .long y4] σ Φ := by
  refine hv_entI (by decide) (Nat.le_of_ble_eq_true rfl) ?_
  show hv_TW l (hv_e2 e) (hv_rm 1) 0 0 m_X10_isLess hv_no (hv_ZI (hv_e2 e) Φ) 0 [(0, .ref 60), (1, .long y1), (3, .long y2), (5, .long y3), (7, .long y4)] [] σ
  refine T_aload_n dX10_isLess_0 rfl 0 rfl ?_
  refine T_lload_n dX10_isLess_1 rfl 1 rfl ?_
  refine T_lload_n dX10_isLess_2 rfl 2 rfl ?_
  refine T_VL (As := [.long y1, .long y2]) dX10_isLess_3 mv_X10_275 hp_60 hs_60 rfl (Nat.le_of_ble_eq_true rfl) (hv_ok1 rfl) rfl h (fun v2 s1 h3 => ?_)
  refine T_lstore dX10_isLess_6 (by decide) rfl ?_
  refine T_aload_n dX10_isLess_8 rfl 1 rfl ?_
  refine T_lload dX10_isLess_9 4 rfl ?_
  refine T_lload dX10_isLess_11 5 rfl ?_
  refine T_VL (As := [.long y3, .long y4]) dX10_isLess_13 mv_X10_275 hp_60 hs_60 rfl (Nat.le_of_ble_eq_true rfl) (hv_ok1 rfl) rfl h3 (fun v5 s4 h6 => ?_)
  refine T_lstore dX10_isLess_16 (by decide) rfl ?_
  refine T_lload_n dX10_isLess_18 rfl 3 rfl ?_
  refine T_lload dX10_isLess_19 1 rfl ?_
  refine T_ldiv dX10_isLess_21 h6.1 ?_
  refine T_lload dX10_isLess_22 6 rfl ?_
  refine T_lload dX10_isLess_24 0 rfl ?_
  refine T_ldiv dX10_isLess_26 h6.2.1 ?_
  refine T_lmul dX10_isLess_27 ?_
  refine T_lload dX10_isLess_28 5 rfl ?_
  refine T_lload dX10_isLess_30 0 rfl ?_
  refine T_ldiv dX10_isLess_32 h6.2.2.1 ?_
  refine T_lload_n dX10_isLess_33 rfl 4 rfl ?_
  refine T_lload dX10_isLess_34 1 rfl ?_
  refine T_ldiv dX10_isLess_36 h6.2.2.2.1 ?_
  refine T_lmul dX10_isLess_37 ?_
  refine T_lc_ge (tgt := 46) dX10_isLess_38 dX10_isLess_39 (by decide) (fun c7 => ?_) (fun c7 => ?_)
  · refine T_iconst (v := 0) dX10_isLess_46 (by decide) ?_
    exact T_zret dX10_isLess_47 rfl (by decide) (h6.2.2.2.2.1 c7)
  · refine T_iconst (v := 1) dX10_isLess_42 (by decide) ?_
    refine T_goto (tgt := 47) dX10_isLess_43 (by decide) ?_
    exact T_zret dX10_isLess_47 rfl (by decide) (h6.2.2.2.2.2 c7)

def L_X10_asSelf_2 (l : Launch) (e : hv_Ev)  (Φ : hv_S → Prop) (x1 : Int32) (x2 : Int32) (x3 : Int32) (σ : hv_S) : Prop := hv_TW l (hv_e2 e) (hv_rm 1) 0 0 m_X10_asSelf hv_no (hv_ZV (hv_e2 e) Φ) 2 [(0, .ref 60), (1, .int x1), (2, .int x2), (3, .int x3)] [] σ
set_option maxHeartbeats 4000000 in
set_option maxRecDepth 100000 in
theorem B_X10_asSelf_2 {l : Launch} {e : hv_Ev}  (x1 : Int32) (x2 : Int32) (x3 : Int32) {σ : hv_S} {Φ : hv_S → Prop} (h : (((σ.1 60 0) ≤ x3 → Φ σ) ∧ (¬ (σ.1 60 0) ≤ x3 → (vp_in ((8 * x2) + x3) 24 ∧ (vp_in x3 8 ∧ hv_CI l (hv_e2 e) 0 m_X10_has [.ref 60, .int x1, .int x3] (hv_ui σ 78 x3.toNatClampNeg (σ.1 62 (((8 * x2) + x3).toNatClampNeg))) (fun v2 s1 => ((v2 = 0 → L_X10_asSelf_2 l e Φ x1 x2 (x3 + 1) s1) ∧ (¬ v2 = 0 → (vp_in ((8 * x2) + x3) 24 ∧ L_X10_asSelf_2 l e Φ x1 x2 (x3 + 1) (hv_ui s1 62 (((8 * x2) + x3).toNatClampNeg) 0)))))))))) : L_X10_asSelf_2 l e Φ x1 x2 x3 σ := by
  show hv_TW l (hv_e2 e) (hv_rm 1) 0 0 m_X10_asSelf hv_no (hv_ZV (hv_e2 e) Φ) 2 [(0, .ref 60), (1, .int x1), (2, .int x2), (3, .int x3)] [] σ
  refine T_iload_n dX10_asSelf_2 rfl 3 rfl ?_
  refine T_aload_n dX10_asSelf_3 rfl 0 rfl ?_
  refine T_get (v := .int (σ.1 60 0)) dX10_asSelf_4 fl_X10_7 hp_60 hs_60 rfl rfl ?_
  refine T_icmp_ge (tgt := 54) dX10_asSelf_7 (by decide) (fun c4 => ?_) (fun c4 => ?_)
  · exact T_vret dX10_asSelf_54 rfl (h.1 c4)
  · refine T_aload_n dX10_asSelf_10 rfl 0 rfl ?_
    refine T_get (v := .ref 78) dX10_asSelf_11 fl_X10_150 hp_60 hs_60 rfl rfl ?_
    refine T_iload_n dX10_asSelf_14 rfl 3 rfl ?_
    refine T_aload_n dX10_asSelf_15 rfl 0 rfl ?_
    refine T_get (v := .ref 62) dX10_asSelf_16 fl_X10_20 hp_60 hs_60 rfl rfl ?_
    refine T_bipush (v := 8) dX10_asSelf_19 (by decide) ?_
    refine T_iload_n dX10_asSelf_21 rfl 2 rfl ?_
    refine T_imul dX10_asSelf_22 ?_
    refine T_iload_n dX10_asSelf_23 rfl 3 rfl ?_
    refine T_iadd dX10_asSelf_24 ?_
    refine T_iald dX10_asSelf_25 hp_62 hs_62 (h.2 c4).1 ?_
    refine T_iast dX10_asSelf_26 hp_78 hs_78 (h.2 c4).2.1 ?_
    refine T_aload_n dX10_asSelf_27 rfl 0 rfl ?_
    refine T_iload_n dX10_asSelf_28 rfl 1 rfl ?_
    refine T_iload_n dX10_asSelf_29 rfl 3 rfl ?_
    refine T_VI (As := [.int x1, .int x3]) dX10_asSelf_30 mv_X10_241 hp_60 hs_60 rfl (Nat.le_of_ble_eq_true rfl) (hv_ok1 rfl) rfl ((h.2 c4).2.2) (fun v2 s1 h3 => ?_)
    refine T_if_eq (tgt := 48) dX10_asSelf_33 (by decide) (fun c5 => ?_) (fun c5 => ?_)
    · refine T_iinc (v := (x3 + 1)) dX10_asSelf_48 3 rfl rfl (by decide) rfl ?_
      refine T_goto (tgt := 2) dX10_asSelf_51 (by decide) ?_
      exact T_sub [1, 2, 3, 0] rfl (h3.1 c5)
    · refine T_aload_n dX10_asSelf_36 rfl 0 rfl ?_
      refine T_get (v := .ref 62) dX10_asSelf_37 fl_X10_20 hp_60 hs_60 rfl rfl ?_
      refine T_bipush (v := 8) dX10_asSelf_40 (by decide) ?_
      refine T_iload_n dX10_asSelf_42 rfl 2 rfl ?_
      refine T_imul dX10_asSelf_43 ?_
      refine T_iload_n dX10_asSelf_44 rfl 3 rfl ?_
      refine T_iadd dX10_asSelf_45 ?_
      refine T_iconst (v := 0) dX10_asSelf_46 (by decide) ?_
      refine T_iast dX10_asSelf_47 hp_62 hs_62 (h3.2 c5).1 ?_
      refine T_iinc (v := (x3 + 1)) dX10_asSelf_48 3 rfl rfl (by decide) rfl ?_
      refine T_goto (tgt := 2) dX10_asSelf_51 (by decide) ?_
      exact T_sub [1, 2, 3, 0] rfl (h3.2 c5).2
set_option maxHeartbeats 4000000 in
set_option maxRecDepth 100000 in
theorem B_X10_asSelf {l : Launch} {e : hv_Ev}  (x1 : Int32) (x2 : Int32) {σ : hv_S} {Φ : hv_S → Prop} (h : L_X10_asSelf_2 l e Φ x1 x2 0 σ) : hv_CV l (hv_e2 e) 1 m_X10_asSelf [.ref 60, .int x1, .int x2] σ Φ := by
  refine hv_entV (by decide) (Nat.le_of_ble_eq_true rfl) ?_
  show hv_TW l (hv_e2 e) (hv_rm 1) 0 0 m_X10_asSelf hv_no (hv_ZV (hv_e2 e) Φ) 0 [(0, .ref 60), (1, .int x1), (2, .int x2)] [] σ
  refine T_iconst (v := 0) dX10_asSelf_0 (by decide) ?_
  refine T_istore_n dX10_asSelf_1 rfl (by decide) rfl ?_
  exact T_sub [1, 2, 3, 0] rfl h

set_option maxHeartbeats 4000000 in
set_option maxRecDepth 100000 in
theorem B_X10_plainGives {l : Launch} {e : hv_Ev}  (x1 : Int32) (x2 : Int32) {σ : hv_S} {Φ : Int32 → hv_S → Prop} (h : hv_CV l (hv_e2 e) 0 m_X10_body [.ref 60, .int 10] σ (fun s1 => Φ (x2 + x1) s1)) : hv_CI l (hv_e2 e) 1 m_X10_plainGives [.ref 60, .int x1, .int x2] σ Φ := by
  refine hv_entI (by decide) (Nat.le_of_ble_eq_true rfl) ?_
  show hv_TW l (hv_e2 e) (hv_rm 1) 0 0 m_X10_plainGives hv_no (hv_ZI (hv_e2 e) Φ) 0 [(0, .ref 60), (1, .int x1), (2, .int x2)] [] σ
  refine T_aload_n dX10_plainGives_0 rfl 0 rfl ?_
  refine T_bipush (v := 10) dX10_plainGives_1 (by decide) ?_
  refine T_VV (As := [.int 10]) dX10_plainGives_3 mv_X10_329 hp_60 hs_60 rfl (Nat.le_of_ble_eq_true rfl) (hv_ok1 rfl) rfl h (fun s1 h3 => ?_)
  refine T_iload_n dX10_plainGives_6 rfl 2 rfl ?_
  refine T_iload_n dX10_plainGives_7 rfl 1 rfl ?_
  refine T_iadd dX10_plainGives_8 ?_
  exact T_iret dX10_plainGives_9 rfl h3

set_option maxHeartbeats 4000000 in
set_option maxRecDepth 100000 in
theorem B_X10_trace {l : Launch} {e : hv_Ev}  (x1 : Int32) {σ : hv_S} {Φ : Int32 → hv_S → Prop} (h : hv_CI l (hv_e2 e) 0 m_X10_in [.ref 60, .int x1, .int 0, .int 19] σ (fun v2 s1 => ((v2 = 0 → Φ (-1) s1) ∧ (¬ v2 = 0 → (((s1.1 60 46) ≤ x1 → Φ (-1) s1) ∧ (¬ (s1.1 60 46) ≤ x1 → (vp_in x1 20 ∧ Φ (s1.1 79 x1.toNatClampNeg) s1))))))) : hv_CI l (hv_e2 e) 1 m_X10_trace [.ref 60, .int x1] σ Φ := by
  refine hv_entI (by decide) (Nat.le_of_ble_eq_true rfl) ?_
  show hv_TW l (hv_e2 e) (hv_rm 1) 0 0 m_X10_trace hv_no (hv_ZI (hv_e2 e) Φ) 0 [(0, .ref 60), (1, .int x1)] [] σ
  refine T_aload_n dX10_trace_0 rfl 0 rfl ?_
  refine T_iload_n dX10_trace_1 rfl 1 rfl ?_
  refine T_iconst (v := 0) dX10_trace_2 (by decide) ?_
  refine T_bipush (v := 19) dX10_trace_3 (by decide) ?_
  refine T_VI (As := [.int x1, .int 0, .int 19]) dX10_trace_5 mv_X10_171 hp_60 hs_60 rfl (Nat.le_of_ble_eq_true rfl) (hv_ok1 rfl) rfl h (fun v2 s1 h3 => ?_)
  refine T_if_eq (tgt := 28) dX10_trace_8 (by decide) (fun c4 => ?_) (fun c4 => ?_)
  · refine T_iconst (v := (-1)) dX10_trace_28 (by decide) ?_
    exact T_iret dX10_trace_29 rfl (h3.1 c4)
  · refine T_iload_n dX10_trace_11 rfl 1 rfl ?_
    refine T_aload_n dX10_trace_12 rfl 0 rfl ?_
    refine T_get (v := .int (s1.1 60 46)) dX10_trace_13 fl_X10_153 hp_60 hs_60 rfl rfl ?_
    refine T_icmp_ge (tgt := 28) dX10_trace_16 (by decide) (fun c5 => ?_) (fun c5 => ?_)
    · refine T_iconst (v := (-1)) dX10_trace_28 (by decide) ?_
      exact T_iret dX10_trace_29 rfl ((h3.2 c4).1 c5)
    · refine T_aload_n dX10_trace_19 rfl 0 rfl ?_
      refine T_get (v := .ref 79) dX10_trace_20 fl_X10_156 hp_60 hs_60 rfl rfl ?_
      refine T_iload_n dX10_trace_23 rfl 1 rfl ?_
      refine T_iald dX10_trace_24 hp_79 hs_79 ((h3.2 c4).2 c5).1 ?_
      refine T_goto (tgt := 29) dX10_trace_25 (by decide) ?_
      exact T_iret dX10_trace_29 rfl (((h3.2 c4).2 c5).2)

set_option maxHeartbeats 4000000 in
set_option maxRecDepth 100000 in
theorem B_X10_isTape {l : Launch} {e : hv_Ev}  (x1 : Int32) {σ : hv_S} {Φ : Int32 → hv_S → Prop} (h : hv_CI l (hv_e2 e) 0 m_X10_in [.ref 60, .int x1, .int 0, .int 5] σ (fun v2 s1 => ((v2 = 0 ∨ v2 = 1) ∧ Φ v2 s1))) : hv_CI l (hv_e2 e) 1 m_X10_isTape [.ref 60, .int x1] σ Φ := by
  refine hv_entI (by decide) (Nat.le_of_ble_eq_true rfl) ?_
  show hv_TW l (hv_e2 e) (hv_rm 1) 0 0 m_X10_isTape hv_no (hv_ZI (hv_e2 e) Φ) 0 [(0, .ref 60), (1, .int x1)] [] σ
  refine T_aload_n dX10_isTape_0 rfl 0 rfl ?_
  refine T_iload_n dX10_isTape_1 rfl 1 rfl ?_
  refine T_iconst (v := 0) dX10_isTape_2 (by decide) ?_
  refine T_iconst (v := 5) dX10_isTape_3 (by decide) ?_
  refine T_VI (As := [.int x1, .int 0, .int 5]) dX10_isTape_4 mv_X10_171 hp_60 hs_60 rfl (Nat.le_of_ble_eq_true rfl) (hv_ok1 rfl) rfl h (fun v2 s1 h3 => ?_)
  exact T_zret dX10_isTape_7 rfl h3.1 h3.2

set_option maxHeartbeats 4000000 in
set_option maxRecDepth 100000 in
theorem B_X10_think {l : Launch} {e : hv_Ev}  (x1 : Int32) (x2 : Int32) (x3 : Int32) (x4 : Int32) {σ : hv_S} {Φ : Int32 → hv_S → Prop} (h : hv_CI l (hv_e2 e) 1 m_X10_isMember [.ref 60, .int x1] σ (fun v2 s1 => ((v2 = 0 → Φ (-1) s1) ∧ (¬ v2 = 0 → hv_CI l (hv_e2 e) 1 m_X10_isMatter [.ref 60, .int x2] s1 (fun v5 s4 => ((v5 ≠ 0 → hv_CI l (hv_e2 e) 0 m_X10_in [.ref 60, .int x4, .int 0, .int 10] s4 (fun v8 s7 => ((v8 ≠ 0 → (vp_in ((8 * x2) + x1) 24 ∧ (((s7.1 67 (((8 * x2) + x1).toNatClampNeg)) = 0 → (vp_in ((8 * x2) + x1) 24 ∧ (vp_in ((8 * x2) + x1) 24 ∧ (x3 = 0 ∨ x3 = 1) ∧ (vp_in ((8 * x2) + x1) 24 ∧ Φ (0 + (s7.1 66 (((8 * x2) + x1).toNatClampNeg))) (hv_ui (hv_ui (hv_ui s7 67 (((8 * x2) + x1).toNatClampNeg) x3) 66 (((8 * x2) + x1).toNatClampNeg) x4) 60 24 0))))) ∧ (¬ (s7.1 67 (((8 * x2) + x1).toNatClampNeg)) = 0 → (vp_in ((8 * x2) + x1) 24 ∧ (vp_in ((8 * x2) + x1) 24 ∧ (x3 = 0 ∨ x3 = 1) ∧ (vp_in ((8 * x2) + x1) 24 ∧ Φ (100 + (s7.1 66 (((8 * x2) + x1).toNatClampNeg))) (hv_ui (hv_ui (hv_ui s7 67 (((8 * x2) + x1).toNatClampNeg) x3) 66 (((8 * x2) + x1).toNatClampNeg) x4) 60 24 0)))))))) ∧ (v8 = 0 → Φ (-2) s7)))) ∧ (v5 = 0 → Φ (-1) s4))))))) : hv_CI l (hv_e2 e) 2 m_X10_think [.ref 60, .int x1, .int x2, .int x3, .int x4] σ Φ := by
  refine hv_entI (by decide) (Nat.le_of_ble_eq_true rfl) ?_
  show hv_TW l (hv_e2 e) (hv_rm 2) 0 0 m_X10_think hv_no (hv_ZI (hv_e2 e) Φ) 0 [(0, .ref 60), (1, .int x1), (2, .int x2), (3, .int x3), (4, .int x4)] [] σ
  refine T_aload_n dX10_think_0 rfl 0 rfl ?_
  refine T_iload_n dX10_think_1 rfl 1 rfl ?_
  refine T_VI (As := [.int x1]) dX10_think_2 mv_X10_179 hp_60 hs_60 rfl (Nat.le_of_ble_eq_true rfl) (hv_ok1 rfl) rfl h (fun v2 s1 h3 => ?_)
  refine T_if_eq (tgt := 16) dX10_think_5 (by decide) (fun c10 => ?_) (fun c10 => ?_)
  · refine T_iconst (v := (-1)) dX10_think_16 (by decide) ?_
    exact T_iret dX10_think_17 rfl (h3.1 c10)
  · refine T_aload_n dX10_think_8 rfl 0 rfl ?_
    refine T_iload_n dX10_think_9 rfl 2 rfl ?_
    refine T_VI (As := [.int x2]) dX10_think_10 mv_X10_183 hp_60 hs_60 rfl (Nat.le_of_ble_eq_true rfl) (hv_ok1 rfl) rfl (h3.2 c10) (fun v5 s4 h6 => ?_)
    refine T_if_ne (tgt := 18) dX10_think_13 (by decide) (fun c11 => ?_) (fun c11 => ?_)
    · refine T_aload_n dX10_think_18 rfl 0 rfl ?_
      refine T_iload dX10_think_19 4 rfl ?_
      refine T_iconst (v := 0) dX10_think_21 (by decide) ?_
      refine T_bipush (v := 10) dX10_think_22 (by decide) ?_
      refine T_VI (As := [.int x4, .int 0, .int 10]) dX10_think_24 mv_X10_171 hp_60 hs_60 rfl (Nat.le_of_ble_eq_true rfl) (hv_ok1 rfl) rfl (h6.1 c11) (fun v8 s7 h9 => ?_)
      refine T_if_ne (tgt := 33) dX10_think_27 (by decide) (fun c12 => ?_) (fun c12 => ?_)
      · refine T_bipush (v := 8) dX10_think_33 (by decide) ?_
        refine T_iload_n dX10_think_35 rfl 2 rfl ?_
        refine T_imul dX10_think_36 ?_
        refine T_iload_n dX10_think_37 rfl 1 rfl ?_
        refine T_iadd dX10_think_38 ?_
        refine T_istore dX10_think_39 (by decide) rfl ?_
        refine T_aload_n dX10_think_41 rfl 1 rfl ?_
        refine T_get (v := .ref 67) dX10_think_42 fl_X10_35 hp_60 hs_60 rfl rfl ?_
        refine T_iload dX10_think_45 0 rfl ?_
        refine T_zald dX10_think_47 hp_67 hs_67 (h9.1 c12).1 ?_
        refine T_if_eq (tgt := 56) dX10_think_48 (by decide) (fun c13 => ?_) (fun c13 => ?_)
        · refine T_iconst (v := 0) dX10_think_56 (by decide) ?_
          refine T_aload_n dX10_think_57 rfl 1 rfl ?_
          refine T_get (v := .ref 66) dX10_think_58 fl_X10_32 hp_60 hs_60 rfl rfl ?_
          refine T_iload dX10_think_61 0 rfl ?_
          refine T_iald dX10_think_63 hp_66 hs_66 ((h9.1 c12).2.1 c13).1 ?_
          refine T_iadd dX10_think_64 ?_
          refine T_istore dX10_think_65 (by decide) rfl ?_
          refine T_aload_n dX10_think_67 rfl 2 rfl ?_
          refine T_get (v := .ref 67) dX10_think_68 fl_X10_35 hp_60 hs_60 rfl rfl ?_
          refine T_iload dX10_think_71 1 rfl ?_
          refine T_iload_n dX10_think_73 rfl 5 rfl ?_
          refine T_zast dX10_think_74 hp_67 hs_67 ((h9.1 c12).2.1 c13).2.1 ((h9.1 c12).2.1 c13).2.2.1 ?_
          refine T_aload_n dX10_think_75 rfl 2 rfl ?_
          refine T_get (v := .ref 66) dX10_think_76 fl_X10_32 hp_60 hs_60 rfl rfl ?_
          refine T_iload dX10_think_79 1 rfl ?_
          refine T_iload dX10_think_81 6 rfl ?_
          refine T_iast dX10_think_83 hp_66 hs_66 ((h9.1 c12).2.1 c13).2.2.2.1 ?_
          refine T_aload_n dX10_think_84 rfl 2 rfl ?_
          refine T_iconst (v := 0) dX10_think_85 (by decide) ?_
          refine T_putz dX10_think_86 fl_X10_85 pf_X10_24 hp_60 hs_60 rfl (by decide) ?_
          refine T_iload dX10_think_89 0 rfl ?_
          exact T_iret dX10_think_91 rfl (((h9.1 c12).2.1 c13).2.2.2.2)
        · refine T_bipush (v := 100) dX10_think_51 (by decide) ?_
          refine T_goto (tgt := 57) dX10_think_53 (by decide) ?_
          refine T_aload_n dX10_think_57 rfl 1 rfl ?_
          refine T_get (v := .ref 66) dX10_think_58 fl_X10_32 hp_60 hs_60 rfl rfl ?_
          refine T_iload dX10_think_61 0 rfl ?_
          refine T_iald dX10_think_63 hp_66 hs_66 ((h9.1 c12).2.2 c13).1 ?_
          refine T_iadd dX10_think_64 ?_
          refine T_istore dX10_think_65 (by decide) rfl ?_
          refine T_aload_n dX10_think_67 rfl 2 rfl ?_
          refine T_get (v := .ref 67) dX10_think_68 fl_X10_35 hp_60 hs_60 rfl rfl ?_
          refine T_iload dX10_think_71 1 rfl ?_
          refine T_iload_n dX10_think_73 rfl 5 rfl ?_
          refine T_zast dX10_think_74 hp_67 hs_67 ((h9.1 c12).2.2 c13).2.1 ((h9.1 c12).2.2 c13).2.2.1 ?_
          refine T_aload_n dX10_think_75 rfl 2 rfl ?_
          refine T_get (v := .ref 66) dX10_think_76 fl_X10_32 hp_60 hs_60 rfl rfl ?_
          refine T_iload dX10_think_79 1 rfl ?_
          refine T_iload dX10_think_81 6 rfl ?_
          refine T_iast dX10_think_83 hp_66 hs_66 ((h9.1 c12).2.2 c13).2.2.2.1 ?_
          refine T_aload_n dX10_think_84 rfl 2 rfl ?_
          refine T_iconst (v := 0) dX10_think_85 (by decide) ?_
          refine T_putz dX10_think_86 fl_X10_85 pf_X10_24 hp_60 hs_60 rfl (by decide) ?_
          refine T_iload dX10_think_89 0 rfl ?_
          exact T_iret dX10_think_91 rfl (((h9.1 c12).2.2 c13).2.2.2.2)
      · refine T_bipush (v := (-2)) dX10_think_30 (by decide) ?_
        exact T_iret dX10_think_32 rfl (h9.2 c12)
    · refine T_iconst (v := (-1)) dX10_think_16 (by decide) ?_
      exact T_iret dX10_think_17 rfl (h6.2 c11)

def L_X10_hand_35 (l : Launch) (e : hv_Ev)  (Φ : Int32 → hv_S → Prop) (x1 : Int32) (x2 : Int32) (x3 : Int32) (σ : hv_S) : Prop := hv_TW l (hv_e2 e) (hv_rm 2) 0 0 m_X10_hand hv_no (hv_ZI (hv_e2 e) Φ) 35 [(0, .ref 60), (1, .int x1), (2, .int x2), (3, .int x3)] [] σ
set_option maxHeartbeats 4000000 in
set_option maxRecDepth 100000 in
theorem B_X10_hand_35 {l : Launch} {e : hv_Ev}  (x1 : Int32) (x2 : Int32) (x3 : Int32) {σ : hv_S} {Φ : Int32 → hv_S → Prop} (h : (vp_in ((8 * x2) + x1) 24 ∧ hv_CV l (hv_e2 e) 0 m_X10_put [.ref 60, .int ((8 * x2) + x1), .int x3, .int (-1), .int (-1), .int 0] σ (fun s12 => Φ (σ.1 61 (((8 * x2) + x1).toNatClampNeg)) s12))) : L_X10_hand_35 l e Φ x1 x2 x3 σ := by
  show hv_TW l (hv_e2 e) (hv_rm 2) 0 0 m_X10_hand hv_no (hv_ZI (hv_e2 e) Φ) 35 [(0, .ref 60), (1, .int x1), (2, .int x2), (3, .int x3)] [] σ
  refine T_aload_n dX10_hand_35 rfl 0 rfl ?_
  refine T_get (v := .ref 61) dX10_hand_36 fl_X10_16 hp_60 hs_60 rfl rfl ?_
  refine T_bipush (v := 8) dX10_hand_39 (by decide) ?_
  refine T_iload_n dX10_hand_41 rfl 2 rfl ?_
  refine T_imul dX10_hand_42 ?_
  refine T_iload_n dX10_hand_43 rfl 1 rfl ?_
  refine T_iadd dX10_hand_44 ?_
  refine T_iald dX10_hand_45 hp_61 hs_61 h.1 ?_
  refine T_istore dX10_hand_46 (by decide) rfl ?_
  refine T_aload_n dX10_hand_48 rfl 1 rfl ?_
  refine T_bipush (v := 8) dX10_hand_49 (by decide) ?_
  refine T_iload_n dX10_hand_51 rfl 3 rfl ?_
  refine T_imul dX10_hand_52 ?_
  refine T_iload_n dX10_hand_53 rfl 2 rfl ?_
  refine T_iadd dX10_hand_54 ?_
  refine T_iload_n dX10_hand_55 rfl 4 rfl ?_
  refine T_iconst (v := (-1)) dX10_hand_56 (by decide) ?_
  refine T_iconst (v := (-1)) dX10_hand_57 (by decide) ?_
  refine T_iconst (v := 0) dX10_hand_58 (by decide) ?_
  refine T_VV (As := [.int ((8 * x2) + x1), .int x3, .int (-1), .int (-1), .int 0]) dX10_hand_59 mv_X10_175 hp_60 hs_60 rfl (Nat.le_of_ble_eq_true rfl) (hv_ok1 rfl) rfl h.2 (fun s12 h14 => ?_)
  refine T_iload dX10_hand_62 0 rfl ?_
  exact T_iret dX10_hand_64 rfl h14
set_option maxHeartbeats 4000000 in
set_option maxRecDepth 100000 in
theorem B_X10_hand {l : Launch} {e : hv_Ev}  (x1 : Int32) (x2 : Int32) (x3 : Int32) {σ : hv_S} {Φ : Int32 → hv_S → Prop} (h : hv_CI l (hv_e2 e) 1 m_X10_isMember [.ref 60, .int x1] σ (fun v2 s1 => ((v2 = 0 → Φ (-1) s1) ∧ (¬ v2 = 0 → hv_CI l (hv_e2 e) 1 m_X10_isMatter [.ref 60, .int x2] s1 (fun v5 s4 => ((v5 ≠ 0 → ((x3 = 0 → L_X10_hand_35 l e Φ x1 x2 x3 s4) ∧ (¬ x3 = 0 → ((x3 = 1 → L_X10_hand_35 l e Φ x1 x2 x3 s4) ∧ (¬ x3 = 1 → ((x3 = 5 → L_X10_hand_35 l e Φ x1 x2 x3 s4) ∧ (¬ x3 = 5 → Φ (-2) s4))))))) ∧ (v5 = 0 → Φ (-1) s4))))))) : hv_CI l (hv_e2 e) 2 m_X10_hand [.ref 60, .int x1, .int x2, .int x3] σ Φ := by
  refine hv_entI (by decide) (Nat.le_of_ble_eq_true rfl) ?_
  show hv_TW l (hv_e2 e) (hv_rm 2) 0 0 m_X10_hand hv_no (hv_ZI (hv_e2 e) Φ) 0 [(0, .ref 60), (1, .int x1), (2, .int x2), (3, .int x3)] [] σ
  refine T_aload_n dX10_hand_0 rfl 0 rfl ?_
  refine T_iload_n dX10_hand_1 rfl 1 rfl ?_
  refine T_VI (As := [.int x1]) dX10_hand_2 mv_X10_179 hp_60 hs_60 rfl (Nat.le_of_ble_eq_true rfl) (hv_ok1 rfl) rfl h (fun v2 s1 h3 => ?_)
  refine T_if_eq (tgt := 16) dX10_hand_5 (by decide) (fun c7 => ?_) (fun c7 => ?_)
  · refine T_iconst (v := (-1)) dX10_hand_16 (by decide) ?_
    exact T_iret dX10_hand_17 rfl (h3.1 c7)
  · refine T_aload_n dX10_hand_8 rfl 0 rfl ?_
    refine T_iload_n dX10_hand_9 rfl 2 rfl ?_
    refine T_VI (As := [.int x2]) dX10_hand_10 mv_X10_183 hp_60 hs_60 rfl (Nat.le_of_ble_eq_true rfl) (hv_ok1 rfl) rfl (h3.2 c7) (fun v5 s4 h6 => ?_)
    refine T_if_ne (tgt := 18) dX10_hand_13 (by decide) (fun c8 => ?_) (fun c8 => ?_)
    · refine T_iload_n dX10_hand_18 rfl 3 rfl ?_
      refine T_if_eq (tgt := 35) dX10_hand_19 (by decide) (fun c9 => ?_) (fun c9 => ?_)
      · exact T_sub [0, 1, 2, 3] rfl ((h6.1 c8).1 c9)
      · refine T_iload_n dX10_hand_22 rfl 3 rfl ?_
        refine T_iconst (v := 1) dX10_hand_23 (by decide) ?_
        refine T_icmp_eq (tgt := 35) dX10_hand_24 (by decide) (fun c10 => ?_) (fun c10 => ?_)
        · exact T_sub [0, 1, 2, 3] rfl (((h6.1 c8).2 c9).1 c10)
        · refine T_iload_n dX10_hand_27 rfl 3 rfl ?_
          refine T_iconst (v := 5) dX10_hand_28 (by decide) ?_
          refine T_icmp_eq (tgt := 35) dX10_hand_29 (by decide) (fun c11 => ?_) (fun c11 => ?_)
          · exact T_sub [0, 1, 2, 3] rfl ((((h6.1 c8).2 c9).2 c10).1 c11)
          · refine T_bipush (v := (-2)) dX10_hand_32 (by decide) ?_
            exact T_iret dX10_hand_34 rfl ((((h6.1 c8).2 c9).2 c10).2 c11)
    · refine T_iconst (v := (-1)) dX10_hand_16 (by decide) ?_
      exact T_iret dX10_hand_17 rfl (h6.2 c8)

set_option maxHeartbeats 4000000 in
set_option maxRecDepth 100000 in
theorem B_X10_give {l : Launch} {e : hv_Ev}  (x1 : Int32) (x2 : Int32) (x3 : Int32) {σ : hv_S} {Φ : Int32 → hv_S → Prop} (h : hv_CI l (hv_e2 e) 1 m_X10_isMember [.ref 60, .int x1] σ (fun v2 s1 => ((v2 = 0 → Φ (-1) s1) ∧ (¬ v2 = 0 → hv_CI l (hv_e2 e) 1 m_X10_isMatter [.ref 60, .int x2] s1 (fun v5 s4 => ((v5 = 0 → Φ (-1) s4) ∧ (¬ v5 = 0 → hv_CI l (hv_e2 e) 1 m_X10_isMember [.ref 60, .int x3] s4 (fun v8 s7 => ((v8 ≠ 0 → ((x1 ≠ x3 → (vp_in ((8 * x2) + x1) 24 ∧ hv_CV l (hv_e2 e) 0 m_X10_put [.ref 60, .int ((8 * x2) + x1), .int 2, .int x3, .int (-1), .int 10] s7 (fun s10 => Φ (s7.1 61 (((8 * x2) + x1).toNatClampNeg)) s10))) ∧ (x1 = x3 → Φ (-2) s7))) ∧ (v8 = 0 → Φ (-1) s7)))))))))) : hv_CI l (hv_e2 e) 2 m_X10_give [.ref 60, .int x1, .int x2, .int x3] σ Φ := by
  refine hv_entI (by decide) (Nat.le_of_ble_eq_true rfl) ?_
  show hv_TW l (hv_e2 e) (hv_rm 2) 0 0 m_X10_give hv_no (hv_ZI (hv_e2 e) Φ) 0 [(0, .ref 60), (1, .int x1), (2, .int x2), (3, .int x3)] [] σ
  refine T_aload_n dX10_give_0 rfl 0 rfl ?_
  refine T_iload_n dX10_give_1 rfl 1 rfl ?_
  refine T_VI (As := [.int x1]) dX10_give_2 mv_X10_179 hp_60 hs_60 rfl (Nat.le_of_ble_eq_true rfl) (hv_ok1 rfl) rfl h (fun v2 s1 h3 => ?_)
  refine T_if_eq (tgt := 24) dX10_give_5 (by decide) (fun c13 => ?_) (fun c13 => ?_)
  · refine T_iconst (v := (-1)) dX10_give_24 (by decide) ?_
    exact T_iret dX10_give_25 rfl (h3.1 c13)
  · refine T_aload_n dX10_give_8 rfl 0 rfl ?_
    refine T_iload_n dX10_give_9 rfl 2 rfl ?_
    refine T_VI (As := [.int x2]) dX10_give_10 mv_X10_183 hp_60 hs_60 rfl (Nat.le_of_ble_eq_true rfl) (hv_ok1 rfl) rfl (h3.2 c13) (fun v5 s4 h6 => ?_)
    refine T_if_eq (tgt := 24) dX10_give_13 (by decide) (fun c14 => ?_) (fun c14 => ?_)
    · refine T_iconst (v := (-1)) dX10_give_24 (by decide) ?_
      exact T_iret dX10_give_25 rfl (h6.1 c14)
    · refine T_aload_n dX10_give_16 rfl 0 rfl ?_
      refine T_iload_n dX10_give_17 rfl 3 rfl ?_
      refine T_VI (As := [.int x3]) dX10_give_18 mv_X10_179 hp_60 hs_60 rfl (Nat.le_of_ble_eq_true rfl) (hv_ok1 rfl) rfl (h6.2 c14) (fun v8 s7 h9 => ?_)
      refine T_if_ne (tgt := 26) dX10_give_21 (by decide) (fun c15 => ?_) (fun c15 => ?_)
      · refine T_iload_n dX10_give_26 rfl 1 rfl ?_
        refine T_iload_n dX10_give_27 rfl 3 rfl ?_
        refine T_icmp_ne (tgt := 34) dX10_give_28 (by decide) (fun c16 => ?_) (fun c16 => ?_)
        · refine T_aload_n dX10_give_34 rfl 0 rfl ?_
          refine T_get (v := .ref 61) dX10_give_35 fl_X10_16 hp_60 hs_60 rfl rfl ?_
          refine T_bipush (v := 8) dX10_give_38 (by decide) ?_
          refine T_iload_n dX10_give_40 rfl 2 rfl ?_
          refine T_imul dX10_give_41 ?_
          refine T_iload_n dX10_give_42 rfl 1 rfl ?_
          refine T_iadd dX10_give_43 ?_
          refine T_iald dX10_give_44 hp_61 hs_61 ((h9.1 c15).1 c16).1 ?_
          refine T_istore dX10_give_45 (by decide) rfl ?_
          refine T_aload_n dX10_give_47 rfl 1 rfl ?_
          refine T_bipush (v := 8) dX10_give_48 (by decide) ?_
          refine T_iload_n dX10_give_50 rfl 3 rfl ?_
          refine T_imul dX10_give_51 ?_
          refine T_iload_n dX10_give_52 rfl 2 rfl ?_
          refine T_iadd dX10_give_53 ?_
          refine T_iconst (v := 2) dX10_give_54 (by decide) ?_
          refine T_iload_n dX10_give_55 rfl 4 rfl ?_
          refine T_iconst (v := (-1)) dX10_give_56 (by decide) ?_
          refine T_bipush (v := 10) dX10_give_57 (by decide) ?_
          refine T_VV (As := [.int ((8 * x2) + x1), .int 2, .int x3, .int (-1), .int 10]) dX10_give_59 mv_X10_175 hp_60 hs_60 rfl (Nat.le_of_ble_eq_true rfl) (hv_ok1 rfl) rfl (((h9.1 c15).1 c16).2) (fun s10 h12 => ?_)
          refine T_iload dX10_give_62 0 rfl ?_
          exact T_iret dX10_give_64 rfl h12
        · refine T_bipush (v := (-2)) dX10_give_31 (by decide) ?_
          exact T_iret dX10_give_33 rfl ((h9.1 c15).2 c16)
      · refine T_iconst (v := (-1)) dX10_give_24 (by decide) ?_
        exact T_iret dX10_give_25 rfl (h9.2 c15)

set_option maxHeartbeats 4000000 in
set_option maxRecDepth 100000 in
theorem B_X10_names {l : Launch} {e : hv_Ev}  (x1 : Int32) (x2 : Int32) (x3 : Int32) (x4 : Int32) (x5 : Int32) {σ : hv_S} {Φ : Int32 → hv_S → Prop} (h : hv_CI l (hv_e2 e) 1 m_X10_isMember [.ref 60, .int x1] σ (fun v2 s1 => ((v2 = 0 → Φ (-1) s1) ∧ (¬ v2 = 0 → hv_CI l (hv_e2 e) 1 m_X10_isMatter [.ref 60, .int x2] s1 (fun v5 s4 => ((v5 = 0 → Φ (-1) s4) ∧ (¬ v5 = 0 → hv_CI l (hv_e2 e) 1 m_X10_isMember [.ref 60, .int x3] s4 (fun v8 s7 => ((v8 = 0 → Φ (-1) s7) ∧ (¬ v8 = 0 → hv_CI l (hv_e2 e) 1 m_X10_isMember [.ref 60, .int x4] s7 (fun v11 s10 => ((v11 ≠ 0 → ((x1 = x3 → Φ (-2) s10) ∧ (¬ x1 = x3 → ((x1 = x4 → Φ (-2) s10) ∧ (¬ x1 = x4 → ((x3 = x4 → Φ (-2) s10) ∧ (¬ x3 = x4 → hv_CI l (hv_e2 e) 0 m_X10_in [.ref 60, .int x5, .int 0, .int 9] s10 (fun v14 s13 => ((v14 ≠ 0 → (vp_in ((8 * x2) + x1) 24 ∧ ((x5 ≠ 0 → ((x5 ≠ 0 → hv_CV l (hv_e2 e) 0 m_X10_put [.ref 60, .int ((8 * x2) + x1), .int 4, .int x3, .int x4, .int x5] s13 (fun s16 => Φ (s13.1 61 (((8 * x2) + x1).toNatClampNeg)) s16)) ∧ (x5 = 0 → hv_CV l (hv_e2 e) 0 m_X10_put [.ref 60, .int ((8 * x2) + x1), .int 4, .int x3, .int x4, .int 10] s13 (fun s19 => Φ (s13.1 61 (((8 * x2) + x1).toNatClampNeg)) s19)))) ∧ (x5 = 0 → ((x5 ≠ 0 → hv_CV l (hv_e2 e) 0 m_X10_put [.ref 60, .int ((8 * x2) + x1), .int 3, .int x3, .int x4, .int x5] s13 (fun s22 => Φ (s13.1 61 (((8 * x2) + x1).toNatClampNeg)) s22)) ∧ (x5 = 0 → hv_CV l (hv_e2 e) 0 m_X10_put [.ref 60, .int ((8 * x2) + x1), .int 3, .int x3, .int x4, .int 10] s13 (fun s25 => Φ (s13.1 61 (((8 * x2) + x1).toNatClampNeg)) s25))))))) ∧ (v14 = 0 → Φ (-2) s13)))))))))) ∧ (v11 = 0 → Φ (-1) s10))))))))))))) : hv_CI l (hv_e2 e) 2 m_X10_names [.ref 60, .int x1, .int x2, .int x3, .int x4, .int x5] σ Φ := by
  refine hv_entI (by decide) (Nat.le_of_ble_eq_true rfl) ?_
  show hv_TW l (hv_e2 e) (hv_rm 2) 0 0 m_X10_names hv_no (hv_ZI (hv_e2 e) Φ) 0 [(0, .ref 60), (1, .int x1), (2, .int x2), (3, .int x3), (4, .int x4), (5, .int x5)] [] σ
  refine T_aload_n dX10_names_0 rfl 0 rfl ?_
  refine T_iload_n dX10_names_1 rfl 1 rfl ?_
  refine T_VI (As := [.int x1]) dX10_names_2 mv_X10_179 hp_60 hs_60 rfl (Nat.le_of_ble_eq_true rfl) (hv_ok1 rfl) rfl h (fun v2 s1 h3 => ?_)
  refine T_if_eq (tgt := 33) dX10_names_5 (by decide) (fun c28 => ?_) (fun c28 => ?_)
  · refine T_iconst (v := (-1)) dX10_names_33 (by decide) ?_
    exact T_iret dX10_names_34 rfl (h3.1 c28)
  · refine T_aload_n dX10_names_8 rfl 0 rfl ?_
    refine T_iload_n dX10_names_9 rfl 2 rfl ?_
    refine T_VI (As := [.int x2]) dX10_names_10 mv_X10_183 hp_60 hs_60 rfl (Nat.le_of_ble_eq_true rfl) (hv_ok1 rfl) rfl (h3.2 c28) (fun v5 s4 h6 => ?_)
    refine T_if_eq (tgt := 33) dX10_names_13 (by decide) (fun c29 => ?_) (fun c29 => ?_)
    · refine T_iconst (v := (-1)) dX10_names_33 (by decide) ?_
      exact T_iret dX10_names_34 rfl (h6.1 c29)
    · refine T_aload_n dX10_names_16 rfl 0 rfl ?_
      refine T_iload_n dX10_names_17 rfl 3 rfl ?_
      refine T_VI (As := [.int x3]) dX10_names_18 mv_X10_179 hp_60 hs_60 rfl (Nat.le_of_ble_eq_true rfl) (hv_ok1 rfl) rfl (h6.2 c29) (fun v8 s7 h9 => ?_)
      refine T_if_eq (tgt := 33) dX10_names_21 (by decide) (fun c30 => ?_) (fun c30 => ?_)
      · refine T_iconst (v := (-1)) dX10_names_33 (by decide) ?_
        exact T_iret dX10_names_34 rfl (h9.1 c30)
      · refine T_aload_n dX10_names_24 rfl 0 rfl ?_
        refine T_iload dX10_names_25 4 rfl ?_
        refine T_VI (As := [.int x4]) dX10_names_27 mv_X10_179 hp_60 hs_60 rfl (Nat.le_of_ble_eq_true rfl) (hv_ok1 rfl) rfl (h9.2 c30) (fun v11 s10 h12 => ?_)
        refine T_if_ne (tgt := 35) dX10_names_30 (by decide) (fun c31 => ?_) (fun c31 => ?_)
        · refine T_iload_n dX10_names_35 rfl 1 rfl ?_
          refine T_iload_n dX10_names_36 rfl 3 rfl ?_
          refine T_icmp_eq (tgt := 64) dX10_names_37 (by decide) (fun c32 => ?_) (fun c32 => ?_)
          · refine T_bipush (v := (-2)) dX10_names_64 (by decide) ?_
            exact T_iret dX10_names_66 rfl ((h12.1 c31).1 c32)
          · refine T_iload_n dX10_names_40 rfl 1 rfl ?_
            refine T_iload dX10_names_41 4 rfl ?_
            refine T_icmp_eq (tgt := 64) dX10_names_43 (by decide) (fun c33 => ?_) (fun c33 => ?_)
            · refine T_bipush (v := (-2)) dX10_names_64 (by decide) ?_
              exact T_iret dX10_names_66 rfl (((h12.1 c31).2 c32).1 c33)
            · refine T_iload_n dX10_names_46 rfl 3 rfl ?_
              refine T_iload dX10_names_47 4 rfl ?_
              refine T_icmp_eq (tgt := 64) dX10_names_49 (by decide) (fun c34 => ?_) (fun c34 => ?_)
              · refine T_bipush (v := (-2)) dX10_names_64 (by decide) ?_
                exact T_iret dX10_names_66 rfl ((((h12.1 c31).2 c32).2 c33).1 c34)
              · refine T_aload_n dX10_names_52 rfl 0 rfl ?_
                refine T_iload dX10_names_53 5 rfl ?_
                refine T_iconst (v := 0) dX10_names_55 (by decide) ?_
                refine T_bipush (v := 9) dX10_names_56 (by decide) ?_
                refine T_VI (As := [.int x5, .int 0, .int 9]) dX10_names_58 mv_X10_171 hp_60 hs_60 rfl (Nat.le_of_ble_eq_true rfl) (hv_ok1 rfl) rfl ((((h12.1 c31).2 c32).2 c33).2 c34) (fun v14 s13 h15 => ?_)
                refine T_if_ne (tgt := 67) dX10_names_61 (by decide) (fun c35 => ?_) (fun c35 => ?_)
                · refine T_aload_n dX10_names_67 rfl 0 rfl ?_
                  refine T_get (v := .ref 61) dX10_names_68 fl_X10_16 hp_60 hs_60 rfl rfl ?_
                  refine T_bipush (v := 8) dX10_names_71 (by decide) ?_
                  refine T_iload_n dX10_names_73 rfl 2 rfl ?_
                  refine T_imul dX10_names_74 ?_
                  refine T_iload_n dX10_names_75 rfl 1 rfl ?_
                  refine T_iadd dX10_names_76 ?_
                  refine T_iald dX10_names_77 hp_61 hs_61 (h15.1 c35).1 ?_
                  refine T_istore dX10_names_78 (by decide) rfl ?_
                  refine T_aload_n dX10_names_80 rfl 1 rfl ?_
                  refine T_bipush (v := 8) dX10_names_81 (by decide) ?_
                  refine T_iload_n dX10_names_83 rfl 3 rfl ?_
                  refine T_imul dX10_names_84 ?_
                  refine T_iload_n dX10_names_85 rfl 2 rfl ?_
                  refine T_iadd dX10_names_86 ?_
                  refine T_iload dX10_names_87 6 rfl ?_
                  refine T_if_ne (tgt := 96) dX10_names_89 (by decide) (fun c36 => ?_) (fun c36 => ?_)
                  · refine T_iconst (v := 4) dX10_names_96 (by decide) ?_
                    refine T_iload_n dX10_names_97 rfl 4 rfl ?_
                    refine T_iload dX10_names_98 5 rfl ?_
                    refine T_iload dX10_names_100 6 rfl ?_
                    refine T_if_ne (tgt := 110) dX10_names_102 (by decide) (fun c37 => ?_) (fun c37 => ?_)
                    · refine T_iload dX10_names_110 6 rfl ?_
                      refine T_VV (As := [.int ((8 * x2) + x1), .int 4, .int x3, .int x4, .int x5]) dX10_names_112 mv_X10_175 hp_60 hs_60 rfl (Nat.le_of_ble_eq_true rfl) (hv_ok1 rfl) rfl (((h15.1 c35).2.1 c36).1 c37) (fun s16 h18 => ?_)
                      refine T_iload dX10_names_115 0 rfl ?_
                      exact T_iret dX10_names_117 rfl h18
                    · refine T_bipush (v := 10) dX10_names_105 (by decide) ?_
                      refine T_goto (tgt := 112) dX10_names_107 (by decide) ?_
                      refine T_VV (As := [.int ((8 * x2) + x1), .int 4, .int x3, .int x4, .int 10]) dX10_names_112 mv_X10_175 hp_60 hs_60 rfl (Nat.le_of_ble_eq_true rfl) (hv_ok1 rfl) rfl (((h15.1 c35).2.1 c36).2 c37) (fun s19 h21 => ?_)
                      refine T_iload dX10_names_115 0 rfl ?_
                      exact T_iret dX10_names_117 rfl h21
                  · refine T_iconst (v := 3) dX10_names_92 (by decide) ?_
                    refine T_goto (tgt := 97) dX10_names_93 (by decide) ?_
                    refine T_iload_n dX10_names_97 rfl 4 rfl ?_
                    refine T_iload dX10_names_98 5 rfl ?_
                    refine T_iload dX10_names_100 6 rfl ?_
                    refine T_if_ne (tgt := 110) dX10_names_102 (by decide) (fun c38 => ?_) (fun c38 => ?_)
                    · refine T_iload dX10_names_110 6 rfl ?_
                      refine T_VV (As := [.int ((8 * x2) + x1), .int 3, .int x3, .int x4, .int x5]) dX10_names_112 mv_X10_175 hp_60 hs_60 rfl (Nat.le_of_ble_eq_true rfl) (hv_ok1 rfl) rfl (((h15.1 c35).2.2 c36).1 c38) (fun s22 h24 => ?_)
                      refine T_iload dX10_names_115 0 rfl ?_
                      exact T_iret dX10_names_117 rfl h24
                    · refine T_bipush (v := 10) dX10_names_105 (by decide) ?_
                      refine T_goto (tgt := 112) dX10_names_107 (by decide) ?_
                      refine T_VV (As := [.int ((8 * x2) + x1), .int 3, .int x3, .int x4, .int 10]) dX10_names_112 mv_X10_175 hp_60 hs_60 rfl (Nat.le_of_ble_eq_true rfl) (hv_ok1 rfl) rfl (((h15.1 c35).2.2 c36).2 c38) (fun s25 h27 => ?_)
                      refine T_iload dX10_names_115 0 rfl ?_
                      exact T_iret dX10_names_117 rfl h27
                · refine T_bipush (v := (-2)) dX10_names_64 (by decide) ?_
                  exact T_iret dX10_names_66 rfl (h15.2 c35)
        · refine T_iconst (v := (-1)) dX10_names_33 (by decide) ?_
          exact T_iret dX10_names_34 rfl (h12.2 c31)

set_option maxHeartbeats 4000000 in
set_option maxRecDepth 100000 in
theorem B_X10_back {l : Launch} {e : hv_Ev}  (x1 : Int32) (x2 : Int32) (x3 : Int32) {σ : hv_S} {Φ : Int32 → hv_S → Prop} (h : hv_CI l (hv_e2 e) 1 m_X10_isMember [.ref 60, .int x1] σ (fun v2 s1 => ((v2 = 0 → Φ (-1) s1) ∧ (¬ v2 = 0 → hv_CI l (hv_e2 e) 1 m_X10_isMatter [.ref 60, .int x2] s1 (fun v5 s4 => ((v5 ≠ 0 → hv_CI l (hv_e2 e) 0 m_X10_in [.ref 60, .int x3, .int 0, .int 100] s4 (fun v8 s7 => ((v8 ≠ 0 → (vp_in ((8 * x2) + x1) 24 ∧ (vp_in ((8 * x2) + x1) 24 ∧ Φ (s7.1 62 (((8 * x2) + x1).toNatClampNeg)) (hv_ui s7 62 (((8 * x2) + x1).toNatClampNeg) x3)))) ∧ (v8 = 0 → Φ (-2) s7)))) ∧ (v5 = 0 → Φ (-1) s4))))))) : hv_CI l (hv_e2 e) 2 m_X10_back [.ref 60, .int x1, .int x2, .int x3] σ Φ := by
  refine hv_entI (by decide) (Nat.le_of_ble_eq_true rfl) ?_
  show hv_TW l (hv_e2 e) (hv_rm 2) 0 0 m_X10_back hv_no (hv_ZI (hv_e2 e) Φ) 0 [(0, .ref 60), (1, .int x1), (2, .int x2), (3, .int x3)] [] σ
  refine T_aload_n dX10_back_0 rfl 0 rfl ?_
  refine T_iload_n dX10_back_1 rfl 1 rfl ?_
  refine T_VI (As := [.int x1]) dX10_back_2 mv_X10_179 hp_60 hs_60 rfl (Nat.le_of_ble_eq_true rfl) (hv_ok1 rfl) rfl h (fun v2 s1 h3 => ?_)
  refine T_if_eq (tgt := 16) dX10_back_5 (by decide) (fun c10 => ?_) (fun c10 => ?_)
  · refine T_iconst (v := (-1)) dX10_back_16 (by decide) ?_
    exact T_iret dX10_back_17 rfl (h3.1 c10)
  · refine T_aload_n dX10_back_8 rfl 0 rfl ?_
    refine T_iload_n dX10_back_9 rfl 2 rfl ?_
    refine T_VI (As := [.int x2]) dX10_back_10 mv_X10_183 hp_60 hs_60 rfl (Nat.le_of_ble_eq_true rfl) (hv_ok1 rfl) rfl (h3.2 c10) (fun v5 s4 h6 => ?_)
    refine T_if_ne (tgt := 18) dX10_back_13 (by decide) (fun c11 => ?_) (fun c11 => ?_)
    · refine T_aload_n dX10_back_18 rfl 0 rfl ?_
      refine T_iload_n dX10_back_19 rfl 3 rfl ?_
      refine T_iconst (v := 0) dX10_back_20 (by decide) ?_
      refine T_bipush (v := 100) dX10_back_21 (by decide) ?_
      refine T_VI (As := [.int x3, .int 0, .int 100]) dX10_back_23 mv_X10_171 hp_60 hs_60 rfl (Nat.le_of_ble_eq_true rfl) (hv_ok1 rfl) rfl (h6.1 c11) (fun v8 s7 h9 => ?_)
      refine T_if_ne (tgt := 32) dX10_back_26 (by decide) (fun c12 => ?_) (fun c12 => ?_)
      · refine T_aload_n dX10_back_32 rfl 0 rfl ?_
        refine T_get (v := .ref 62) dX10_back_33 fl_X10_20 hp_60 hs_60 rfl rfl ?_
        refine T_bipush (v := 8) dX10_back_36 (by decide) ?_
        refine T_iload_n dX10_back_38 rfl 2 rfl ?_
        refine T_imul dX10_back_39 ?_
        refine T_iload_n dX10_back_40 rfl 1 rfl ?_
        refine T_iadd dX10_back_41 ?_
        refine T_iald dX10_back_42 hp_62 hs_62 (h9.1 c12).1 ?_
        refine T_istore dX10_back_43 (by decide) rfl ?_
        refine T_aload_n dX10_back_45 rfl 1 rfl ?_
        refine T_get (v := .ref 62) dX10_back_46 fl_X10_20 hp_60 hs_60 rfl rfl ?_
        refine T_bipush (v := 8) dX10_back_49 (by decide) ?_
        refine T_iload_n dX10_back_51 rfl 3 rfl ?_
        refine T_imul dX10_back_52 ?_
        refine T_iload_n dX10_back_53 rfl 2 rfl ?_
        refine T_iadd dX10_back_54 ?_
        refine T_iload_n dX10_back_55 rfl 4 rfl ?_
        refine T_iast dX10_back_56 hp_62 hs_62 (h9.1 c12).2.1 ?_
        refine T_iload dX10_back_57 0 rfl ?_
        exact T_iret dX10_back_59 rfl ((h9.1 c12).2.2)
      · refine T_bipush (v := (-2)) dX10_back_29 (by decide) ?_
        exact T_iret dX10_back_31 rfl (h9.2 c12)
    · refine T_iconst (v := (-1)) dX10_back_16 (by decide) ?_
      exact T_iret dX10_back_17 rfl (h6.2 c11)

set_option maxHeartbeats 4000000 in
set_option maxRecDepth 100000 in
theorem B_X10_of {l : Launch} {e : hv_Ev}  (x1 : Int32) (x2 : Int32) (x3 : Int32) {σ : hv_S} {Φ : Int32 → hv_S → Prop} (h : hv_CI l (hv_e2 e) 1 m_X10_isMember [.ref 60, .int x1] σ (fun v2 s1 => ((v2 = 0 → Φ (-1) s1) ∧ (¬ v2 = 0 → hv_CI l (hv_e2 e) 1 m_X10_isMatter [.ref 60, .int x2] s1 (fun v5 s4 => ((v5 ≠ 0 → ((x3 = 0 → (vp_in ((8 * x2) + x1) 24 ∧ Φ (s4.1 61 (((8 * x2) + x1).toNatClampNeg)) s4)) ∧ (x3 = 1 → (vp_in ((8 * x2) + x1) 24 ∧ Φ (s4.1 62 (((8 * x2) + x1).toNatClampNeg)) s4)) ∧ (x3 = 2 → (vp_in ((8 * x2) + x1) 24 ∧ ((0 ≤ (s4.1 63 (((8 * x2) + x1).toNatClampNeg)) → (vp_in ((8 * x2) + x1) 24 ∧ Φ (s4.1 63 (((8 * x2) + x1).toNatClampNeg)) s4)) ∧ (¬ 0 ≤ (s4.1 63 (((8 * x2) + x1).toNatClampNeg)) → Φ (-5) s4)))) ∧ (x3 = 3 → (vp_in ((8 * x2) + x1) 24 ∧ ((0 ≤ (s4.1 64 (((8 * x2) + x1).toNatClampNeg)) → (vp_in ((8 * x2) + x1) 24 ∧ Φ (s4.1 64 (((8 * x2) + x1).toNatClampNeg)) s4)) ∧ (¬ 0 ≤ (s4.1 64 (((8 * x2) + x1).toNatClampNeg)) → Φ (-5) s4)))) ∧ (x3 = 4 → (vp_in ((8 * x2) + x1) 24 ∧ Φ (s4.1 65 (((8 * x2) + x1).toNatClampNeg)) s4)) ∧ (x3 = 5 → (vp_in ((8 * x2) + x1) 24 ∧ (((s4.1 67 (((8 * x2) + x1).toNatClampNeg)) = 0 → Φ 0 s4) ∧ (¬ (s4.1 67 (((8 * x2) + x1).toNatClampNeg)) = 0 → Φ 1 s4)))) ∧ (x3 = 6 → (vp_in ((8 * x2) + x1) 24 ∧ Φ (s4.1 66 (((8 * x2) + x1).toNatClampNeg)) s4)) ∧ (¬ x3 = 0 → ¬ x3 = 1 → ¬ x3 = 2 → ¬ x3 = 3 → ¬ x3 = 4 → ¬ x3 = 5 → ¬ x3 = 6 → Φ (-1) s4))) ∧ (v5 = 0 → Φ (-1) s4))))))) : hv_CI l (hv_e2 e) 2 m_X10_of [.ref 60, .int x1, .int x2, .int x3] σ Φ := by
  refine hv_entI (by decide) (Nat.le_of_ble_eq_true rfl) ?_
  show hv_TW l (hv_e2 e) (hv_rm 2) 0 0 m_X10_of hv_no (hv_ZI (hv_e2 e) Φ) 0 [(0, .ref 60), (1, .int x1), (2, .int x2), (3, .int x3)] [] σ
  refine T_aload_n dX10_of_0 rfl 0 rfl ?_
  refine T_iload_n dX10_of_1 rfl 1 rfl ?_
  refine T_VI (As := [.int x1]) dX10_of_2 mv_X10_179 hp_60 hs_60 rfl (Nat.le_of_ble_eq_true rfl) (hv_ok1 rfl) rfl h (fun v2 s1 h3 => ?_)
  refine T_if_eq (tgt := 16) dX10_of_5 (by decide) (fun c7 => ?_) (fun c7 => ?_)
  · refine T_iconst (v := (-1)) dX10_of_16 (by decide) ?_
    exact T_iret dX10_of_17 rfl (h3.1 c7)
  · refine T_aload_n dX10_of_8 rfl 0 rfl ?_
    refine T_iload_n dX10_of_9 rfl 2 rfl ?_
    refine T_VI (As := [.int x2]) dX10_of_10 mv_X10_183 hp_60 hs_60 rfl (Nat.le_of_ble_eq_true rfl) (hv_ok1 rfl) rfl (h3.2 c7) (fun v5 s4 h6 => ?_)
    refine T_if_ne (tgt := 18) dX10_of_13 (by decide) (fun c8 => ?_) (fun c8 => ?_)
    · refine T_bipush (v := 8) dX10_of_18 (by decide) ?_
      refine T_iload_n dX10_of_20 rfl 2 rfl ?_
      refine T_imul dX10_of_21 ?_
      refine T_iload_n dX10_of_22 rfl 1 rfl ?_
      refine T_iadd dX10_of_23 ?_
      refine T_istore dX10_of_24 (by decide) rfl ?_
      refine T_iload_n dX10_of_26 rfl 4 rfl ?_
      by_cases c9 : x3 = 0
      · refine T_tableIn (off := 41) (tgt := 68) dX10_of_27 (by rw [c9]; decide) (by rw [c9]; decide) (by rw [c9]; rfl) (by decide) ?_
        refine T_aload_n dX10_of_68 rfl 1 rfl ?_
        refine T_get (v := .ref 61) dX10_of_69 fl_X10_16 hp_60 hs_60 rfl rfl ?_
        refine T_iload dX10_of_72 0 rfl ?_
        refine T_iald dX10_of_74 hp_61 hs_61 ((h6.1 c8).1 c9).1 ?_
        exact T_iret dX10_of_75 rfl (((h6.1 c8).1 c9).2)
      · skip
        by_cases c10 : x3 = 1
        · refine T_tableIn (off := 49) (tgt := 76) dX10_of_27 (by rw [c10]; decide) (by rw [c10]; decide) (by rw [c10]; rfl) (by decide) ?_
          refine T_aload_n dX10_of_76 rfl 1 rfl ?_
          refine T_get (v := .ref 62) dX10_of_77 fl_X10_20 hp_60 hs_60 rfl rfl ?_
          refine T_iload dX10_of_80 0 rfl ?_
          refine T_iald dX10_of_82 hp_62 hs_62 ((h6.1 c8).2.1 c10).1 ?_
          exact T_iret dX10_of_83 rfl (((h6.1 c8).2.1 c10).2)
        · skip
          by_cases c11 : x3 = 2
          · refine T_tableIn (off := 57) (tgt := 84) dX10_of_27 (by rw [c11]; decide) (by rw [c11]; decide) (by rw [c11]; rfl) (by decide) ?_
            refine T_aload_n dX10_of_84 rfl 1 rfl ?_
            refine T_get (v := .ref 63) dX10_of_85 fl_X10_23 hp_60 hs_60 rfl rfl ?_
            refine T_iload dX10_of_88 0 rfl ?_
            refine T_iald dX10_of_90 hp_63 hs_63 ((h6.1 c8).2.2.1 c11).1 ?_
            refine T_if_ge (tgt := 99) dX10_of_91 (by decide) (fun c12 => ?_) (fun c12 => ?_)
            · refine T_aload_n dX10_of_99 rfl 1 rfl ?_
              refine T_get (v := .ref 63) dX10_of_100 fl_X10_23 hp_60 hs_60 rfl rfl ?_
              refine T_iload dX10_of_103 0 rfl ?_
              refine T_iald dX10_of_105 hp_63 hs_63 (((h6.1 c8).2.2.1 c11).2.1 c12).1 ?_
              exact T_iret dX10_of_106 rfl ((((h6.1 c8).2.2.1 c11).2.1 c12).2)
            · refine T_bipush (v := (-5)) dX10_of_94 (by decide) ?_
              refine T_goto (tgt := 106) dX10_of_96 (by decide) ?_
              exact T_iret dX10_of_106 rfl (((h6.1 c8).2.2.1 c11).2.2 c12)
          · skip
            by_cases c13 : x3 = 3
            · refine T_tableIn (off := 80) (tgt := 107) dX10_of_27 (by rw [c13]; decide) (by rw [c13]; decide) (by rw [c13]; rfl) (by decide) ?_
              refine T_aload_n dX10_of_107 rfl 1 rfl ?_
              refine T_get (v := .ref 64) dX10_of_108 fl_X10_26 hp_60 hs_60 rfl rfl ?_
              refine T_iload dX10_of_111 0 rfl ?_
              refine T_iald dX10_of_113 hp_64 hs_64 ((h6.1 c8).2.2.2.1 c13).1 ?_
              refine T_if_ge (tgt := 122) dX10_of_114 (by decide) (fun c14 => ?_) (fun c14 => ?_)
              · refine T_aload_n dX10_of_122 rfl 1 rfl ?_
                refine T_get (v := .ref 64) dX10_of_123 fl_X10_26 hp_60 hs_60 rfl rfl ?_
                refine T_iload dX10_of_126 0 rfl ?_
                refine T_iald dX10_of_128 hp_64 hs_64 (((h6.1 c8).2.2.2.1 c13).2.1 c14).1 ?_
                exact T_iret dX10_of_129 rfl ((((h6.1 c8).2.2.2.1 c13).2.1 c14).2)
              · refine T_bipush (v := (-5)) dX10_of_117 (by decide) ?_
                refine T_goto (tgt := 129) dX10_of_119 (by decide) ?_
                exact T_iret dX10_of_129 rfl (((h6.1 c8).2.2.2.1 c13).2.2 c14)
            · skip
              by_cases c15 : x3 = 4
              · refine T_tableIn (off := 103) (tgt := 130) dX10_of_27 (by rw [c15]; decide) (by rw [c15]; decide) (by rw [c15]; rfl) (by decide) ?_
                refine T_aload_n dX10_of_130 rfl 1 rfl ?_
                refine T_get (v := .ref 65) dX10_of_131 fl_X10_29 hp_60 hs_60 rfl rfl ?_
                refine T_iload dX10_of_134 0 rfl ?_
                refine T_iald dX10_of_136 hp_65 hs_65 ((h6.1 c8).2.2.2.2.1 c15).1 ?_
                exact T_iret dX10_of_137 rfl (((h6.1 c8).2.2.2.2.1 c15).2)
              · skip
                by_cases c16 : x3 = 5
                · refine T_tableIn (off := 111) (tgt := 138) dX10_of_27 (by rw [c16]; decide) (by rw [c16]; decide) (by rw [c16]; rfl) (by decide) ?_
                  refine T_aload_n dX10_of_138 rfl 1 rfl ?_
                  refine T_get (v := .ref 67) dX10_of_139 fl_X10_35 hp_60 hs_60 rfl rfl ?_
                  refine T_iload dX10_of_142 0 rfl ?_
                  refine T_zald dX10_of_144 hp_67 hs_67 ((h6.1 c8).2.2.2.2.2.1 c16).1 ?_
                  refine T_if_eq (tgt := 152) dX10_of_145 (by decide) (fun c17 => ?_) (fun c17 => ?_)
                  · refine T_iconst (v := 0) dX10_of_152 (by decide) ?_
                    exact T_iret dX10_of_153 rfl (((h6.1 c8).2.2.2.2.2.1 c16).2.1 c17)
                  · refine T_iconst (v := 1) dX10_of_148 (by decide) ?_
                    refine T_goto (tgt := 153) dX10_of_149 (by decide) ?_
                    exact T_iret dX10_of_153 rfl (((h6.1 c8).2.2.2.2.2.1 c16).2.2 c17)
                · skip
                  by_cases c18 : x3 = 6
                  · refine T_tableIn (off := 127) (tgt := 154) dX10_of_27 (by rw [c18]; decide) (by rw [c18]; decide) (by rw [c18]; rfl) (by decide) ?_
                    refine T_aload_n dX10_of_154 rfl 1 rfl ?_
                    refine T_get (v := .ref 66) dX10_of_155 fl_X10_32 hp_60 hs_60 rfl rfl ?_
                    refine T_iload dX10_of_158 0 rfl ?_
                    refine T_iald dX10_of_160 hp_66 hs_66 ((h6.1 c8).2.2.2.2.2.2.1 c18).1 ?_
                    exact T_iret dX10_of_161 rfl (((h6.1 c8).2.2.2.2.2.2.1 c18).2)
                  · skip
                    refine T_tableOut (tgt := 162) dX10_of_27 (by have q0 := lv_neT c9 (a := 0) (by decide); have q1 := lv_neT c10 (a := 1) (by decide); have q2 := lv_neT c11 (a := 2) (by decide); have q3 := lv_neT c13 (a := 3) (by decide); have q4 := lv_neT c15 (a := 4) (by decide); have q5 := lv_neT c16 (a := 5) (by decide); have q6 := lv_neT c18 (a := 6) (by decide); omega) (by decide) ?_
                    refine T_iconst (v := (-1)) dX10_of_162 (by decide) ?_
                    exact T_iret dX10_of_163 rfl ((h6.1 c8).2.2.2.2.2.2.2 c9 c10 c11 c13 c15 c16 c18)
    · refine T_iconst (v := (-1)) dX10_of_16 (by decide) ?_
      exact T_iret dX10_of_17 rfl (h6.2 c8)

def L_X10_takesWord_4 (l : Launch) (e : hv_Ev)  (Φ : Int32 → hv_S → Prop) (x1 : Int32) (x3 : Int32) (σ : hv_S) : Prop := hv_TW l (hv_e2 e) (hv_rm 2) 0 0 m_X10_takesWord hv_no (hv_ZI (hv_e2 e) Φ) 4 [(0, .ref 60), (1, .int x1), (3, .int x3)] [] σ
set_option maxHeartbeats 4000000 in
set_option maxRecDepth 100000 in
theorem B_X10_takesWord_4 {l : Launch} {e : hv_Ev}  (x1 : Int32) (x3 : Int32) {σ : hv_S} {Φ : Int32 → hv_S → Prop} (h : ((x3 < 0 → hv_CI l (hv_e2 e) 1 m_X10_takes [.ref 60, .int 32] σ (fun v2 s1 => ((v2 = 0 ∨ v2 = 1) ∧ Φ v2 s1))) ∧ (¬ x3 < 0 → hv_CI l (hv_e2 e) 1 m_X10_takes [.ref 60, .int (96 + ((x1 >>> ((5 * x3) &&& 31)) &&& 31))] σ (fun v5 s4 => ((v5 ≠ 0 → L_X10_takesWord_4 l e Φ x1 (x3 + (-1)) s4) ∧ (v5 = 0 → Φ 0 s4)))))) : L_X10_takesWord_4 l e Φ x1 x3 σ := by
  show hv_TW l (hv_e2 e) (hv_rm 2) 0 0 m_X10_takesWord hv_no (hv_ZI (hv_e2 e) Φ) 4 [(0, .ref 60), (1, .int x1), (3, .int x3)] [] σ
  refine T_iload_n dX10_takesWord_4 rfl 2 rfl ?_
  refine T_if_lt (tgt := 34) dX10_takesWord_5 (by decide) (fun c7 => ?_) (fun c7 => ?_)
  · refine T_aload_n dX10_takesWord_34 rfl 0 rfl ?_
    refine T_bipush (v := 32) dX10_takesWord_35 (by decide) ?_
    refine T_VI (As := [.int 32]) dX10_takesWord_37 mv_X10_190 hp_60 hs_60 rfl (Nat.le_of_ble_eq_true rfl) (hv_ok1 rfl) rfl (h.1 c7) (fun v2 s1 h3 => ?_)
    exact T_zret dX10_takesWord_40 rfl h3.1 h3.2
  · refine T_aload_n dX10_takesWord_8 rfl 0 rfl ?_
    refine T_bipush (v := 96) dX10_takesWord_9 (by decide) ?_
    refine T_iload_n dX10_takesWord_11 rfl 1 rfl ?_
    refine T_iconst (v := 5) dX10_takesWord_12 (by decide) ?_
    refine T_iload_n dX10_takesWord_13 rfl 2 rfl ?_
    refine T_imul dX10_takesWord_14 ?_
    refine T_ishr dX10_takesWord_15 ?_
    refine T_bipush (v := 31) dX10_takesWord_16 (by decide) ?_
    refine T_iand dX10_takesWord_18 ?_
    refine T_iadd dX10_takesWord_19 ?_
    refine T_VI (As := [.int (96 + ((x1 >>> ((5 * x3) &&& 31)) &&& 31))]) dX10_takesWord_20 mv_X10_190 hp_60 hs_60 rfl (Nat.le_of_ble_eq_true rfl) (hv_ok1 rfl) rfl (h.2 c7) (fun v5 s4 h6 => ?_)
    refine T_if_ne (tgt := 28) dX10_takesWord_23 (by decide) (fun c8 => ?_) (fun c8 => ?_)
    · refine T_iinc (v := (x3 + (-1))) dX10_takesWord_28 2 rfl rfl (by decide) rfl ?_
      refine T_goto (tgt := 4) dX10_takesWord_31 (by decide) ?_
      exact T_sub [1, 2, 0] rfl (h6.1 c8)
    · refine T_iconst (v := 0) dX10_takesWord_26 (by decide) ?_
      exact T_zret dX10_takesWord_27 rfl (by decide) (h6.2 c8)
set_option maxHeartbeats 4000000 in
set_option maxRecDepth 100000 in
theorem B_X10_takesWord {l : Launch} {e : hv_Ev}  (x1 : Int32) (x2 : Int32) {σ : hv_S} {Φ : Int32 → hv_S → Prop} (h : L_X10_takesWord_4 l e Φ x1 (x2 - 1) σ) : hv_CI l (hv_e2 e) 2 m_X10_takesWord [.ref 60, .int x1, .int x2] σ Φ := by
  refine hv_entI (by decide) (Nat.le_of_ble_eq_true rfl) ?_
  show hv_TW l (hv_e2 e) (hv_rm 2) 0 0 m_X10_takesWord hv_no (hv_ZI (hv_e2 e) Φ) 0 [(0, .ref 60), (1, .int x1), (2, .int x2)] [] σ
  refine T_iload_n dX10_takesWord_0 rfl 2 rfl ?_
  refine T_iconst (v := 1) dX10_takesWord_1 (by decide) ?_
  refine T_isub dX10_takesWord_2 ?_
  refine T_istore_n dX10_takesWord_3 rfl (by decide) rfl ?_
  exact T_sub [1, 2, 0] rfl h

def L_X10_takesNumber_16 (l : Launch) (e : hv_Ev)  (Φ : Int32 → hv_S → Prop) (x1 : Int32) (x2 : Int32) (σ : hv_S) : Prop := hv_TW l (hv_e2 e) (hv_rm 2) 0 0 m_X10_takesNumber hv_no (hv_ZI (hv_e2 e) Φ) 16 [(0, .ref 60), (1, .int x1), (2, .int x2)] [] σ
def L_X10_takesNumber_55 (l : Launch) (e : hv_Ev)  (Φ : Int32 → hv_S → Prop) (x1 : Int32) (x2 : Int32) (σ : hv_S) : Prop := hv_TW l (hv_e2 e) (hv_rm 2) 0 0 m_X10_takesNumber hv_no (hv_ZI (hv_e2 e) Φ) 55 [(0, .ref 60), (1, .int x1), (2, .int x2)] [] σ
set_option maxHeartbeats 4000000 in
set_option maxRecDepth 100000 in
theorem B_X10_takesNumber_55 {l : Launch} {e : hv_Ev}  (x1 : Int32) (x2 : Int32) {σ : hv_S} {Φ : Int32 → hv_S → Prop} (h : hv_CI l (hv_e2 e) 0 m_X10_next [.ref 60] σ (fun v22 s21 => L_X10_takesNumber_16 l e Φ x1 (x2 + 1) (hv_ui (hv_ui s21 60 17 (((10 * (σ.1 60 17)) + v22) - 48)) 60 16 ((s21.1 60 16) + 1)))) : L_X10_takesNumber_55 l e Φ x1 x2 σ := by
  show hv_TW l (hv_e2 e) (hv_rm 2) 0 0 m_X10_takesNumber hv_no (hv_ZI (hv_e2 e) Φ) 55 [(0, .ref 60), (1, .int x1), (2, .int x2)] [] σ
  refine T_aload_n dX10_takesNumber_55 rfl 0 rfl ?_
  refine T_bipush (v := 10) dX10_takesNumber_56 (by decide) ?_
  refine T_aload_n dX10_takesNumber_58 rfl 0 rfl ?_
  refine T_get (v := .int (σ.1 60 17)) dX10_takesNumber_59 fl_X10_63 hp_60 hs_60 rfl rfl ?_
  refine T_imul dX10_takesNumber_62 ?_
  refine T_aload_n dX10_takesNumber_63 rfl 0 rfl ?_
  refine T_VI (As := []) dX10_takesNumber_64 mv_X10_186 hp_60 hs_60 rfl (Nat.le_of_ble_eq_true rfl) (hv_ok1 rfl) rfl h (fun v22 s21 h23 => ?_)
  refine T_iadd dX10_takesNumber_67 ?_
  refine T_bipush (v := 48) dX10_takesNumber_68 (by decide) ?_
  refine T_isub dX10_takesNumber_70 ?_
  refine T_puti dX10_takesNumber_71 fl_X10_63 pf_X10_17 hp_60 hs_60 rfl ?_
  refine T_aload_n dX10_takesNumber_74 rfl 0 rfl ?_
  refine T_dup dX10_takesNumber_75 rfl ?_
  refine T_get (v := .int (s21.1 60 16)) dX10_takesNumber_76 fl_X10_60 hp_60 hs_60 rfl rfl ?_
  refine T_iconst (v := 1) dX10_takesNumber_79 (by decide) ?_
  refine T_iadd dX10_takesNumber_80 ?_
  refine T_puti dX10_takesNumber_81 fl_X10_60 pf_X10_16 hp_60 hs_60 rfl ?_
  refine T_iinc (v := (x2 + 1)) dX10_takesNumber_84 2 rfl rfl (by decide) rfl ?_
  refine T_goto (tgt := 16) dX10_takesNumber_87 (by decide) ?_
  exact T_sub [1, 2, 0] rfl h23
set_option maxHeartbeats 4000000 in
set_option maxRecDepth 100000 in
theorem B_X10_takesNumber_16 {l : Launch} {e : hv_Ev}  (x1 : Int32) (x2 : Int32) {σ : hv_S} {Φ : Int32 → hv_S → Prop} (h : ((3 ≤ x2 → ((x1 = 0 → Φ 1 σ) ∧ (¬ x1 = 0 → (((σ.1 60 17) ≤ 0 → Φ 0 σ) ∧ (¬ (σ.1 60 17) ≤ 0 → Φ 1 σ))))) ∧ (¬ 3 ≤ x2 → hv_CI l (hv_e2 e) 1 m_X10_isDigit [.ref 60] σ (fun v6 s5 => ((v6 = 0 → ((x1 = 0 → Φ 1 s5) ∧ (¬ x1 = 0 → (((s5.1 60 17) ≤ 0 → Φ 0 s5) ∧ (¬ (s5.1 60 17) ≤ 0 → Φ 1 s5))))) ∧ (¬ v6 = 0 → ((x1 = 0 → L_X10_takesNumber_55 l e Φ x1 x2 s5) ∧ (¬ x1 = 0 → ((x2 ≠ 2 → L_X10_takesNumber_55 l e Φ x1 x2 s5) ∧ (x2 = 2 → (((s5.1 60 17) ≠ 0 → L_X10_takesNumber_55 l e Φ x1 x2 s5) ∧ ((s5.1 60 17) = 0 → hv_CI l (hv_e2 e) 0 m_X10_next [.ref 60] s5 (fun v9 s8 => ((v9 ≠ 48 → L_X10_takesNumber_55 l e Φ x1 x2 s8) ∧ (v9 = 48 → Φ 0 s8))))))))))))))) : L_X10_takesNumber_16 l e Φ x1 x2 σ := by
  show hv_TW l (hv_e2 e) (hv_rm 2) 0 0 m_X10_takesNumber hv_no (hv_ZI (hv_e2 e) Φ) 16 [(0, .ref 60), (1, .int x1), (2, .int x2)] [] σ
  refine T_iload_n dX10_takesNumber_16 rfl 2 rfl ?_
  refine T_iconst (v := 3) dX10_takesNumber_17 (by decide) ?_
  refine T_icmp_ge (tgt := 90) dX10_takesNumber_18 (by decide) (fun c11 => ?_) (fun c11 => ?_)
  · refine T_iload_n dX10_takesNumber_90 rfl 1 rfl ?_
    refine T_if_eq (tgt := 101) dX10_takesNumber_91 (by decide) (fun c12 => ?_) (fun c12 => ?_)
    · refine T_iconst (v := 1) dX10_takesNumber_101 (by decide) ?_
      refine T_goto (tgt := 106) dX10_takesNumber_102 (by decide) ?_
      exact T_zret dX10_takesNumber_106 rfl (by decide) ((h.1 c11).1 c12)
    · refine T_aload_n dX10_takesNumber_94 rfl 0 rfl ?_
      refine T_get (v := .int (σ.1 60 17)) dX10_takesNumber_95 fl_X10_63 hp_60 hs_60 rfl rfl ?_
      refine T_if_le (tgt := 105) dX10_takesNumber_98 (by decide) (fun c13 => ?_) (fun c13 => ?_)
      · refine T_iconst (v := 0) dX10_takesNumber_105 (by decide) ?_
        exact T_zret dX10_takesNumber_106 rfl (by decide) (((h.1 c11).2 c12).1 c13)
      · refine T_iconst (v := 1) dX10_takesNumber_101 (by decide) ?_
        refine T_goto (tgt := 106) dX10_takesNumber_102 (by decide) ?_
        exact T_zret dX10_takesNumber_106 rfl (by decide) (((h.1 c11).2 c12).2 c13)
  · refine T_aload_n dX10_takesNumber_21 rfl 0 rfl ?_
    refine T_VI (As := []) dX10_takesNumber_22 mv_X10_193 hp_60 hs_60 rfl (Nat.le_of_ble_eq_true rfl) (hv_ok1 rfl) rfl (h.2 c11) (fun v6 s5 h7 => ?_)
    refine T_if_eq (tgt := 90) dX10_takesNumber_25 (by decide) (fun c14 => ?_) (fun c14 => ?_)
    · refine T_iload_n dX10_takesNumber_90 rfl 1 rfl ?_
      refine T_if_eq (tgt := 101) dX10_takesNumber_91 (by decide) (fun c15 => ?_) (fun c15 => ?_)
      · refine T_iconst (v := 1) dX10_takesNumber_101 (by decide) ?_
        refine T_goto (tgt := 106) dX10_takesNumber_102 (by decide) ?_
        exact T_zret dX10_takesNumber_106 rfl (by decide) ((h7.1 c14).1 c15)
      · refine T_aload_n dX10_takesNumber_94 rfl 0 rfl ?_
        refine T_get (v := .int (s5.1 60 17)) dX10_takesNumber_95 fl_X10_63 hp_60 hs_60 rfl rfl ?_
        refine T_if_le (tgt := 105) dX10_takesNumber_98 (by decide) (fun c16 => ?_) (fun c16 => ?_)
        · refine T_iconst (v := 0) dX10_takesNumber_105 (by decide) ?_
          exact T_zret dX10_takesNumber_106 rfl (by decide) (((h7.1 c14).2 c15).1 c16)
        · refine T_iconst (v := 1) dX10_takesNumber_101 (by decide) ?_
          refine T_goto (tgt := 106) dX10_takesNumber_102 (by decide) ?_
          exact T_zret dX10_takesNumber_106 rfl (by decide) (((h7.1 c14).2 c15).2 c16)
    · refine T_iload_n dX10_takesNumber_28 rfl 1 rfl ?_
      refine T_if_eq (tgt := 55) dX10_takesNumber_29 (by decide) (fun c17 => ?_) (fun c17 => ?_)
      · exact T_sub [0, 1, 2] rfl ((h7.2 c14).1 c17)
      · refine T_iload_n dX10_takesNumber_32 rfl 2 rfl ?_
        refine T_iconst (v := 2) dX10_takesNumber_33 (by decide) ?_
        refine T_icmp_ne (tgt := 55) dX10_takesNumber_34 (by decide) (fun c18 => ?_) (fun c18 => ?_)
        · exact T_sub [0, 1, 2] rfl (((h7.2 c14).2 c17).1 c18)
        · refine T_aload_n dX10_takesNumber_37 rfl 0 rfl ?_
          refine T_get (v := .int (s5.1 60 17)) dX10_takesNumber_38 fl_X10_63 hp_60 hs_60 rfl rfl ?_
          refine T_if_ne (tgt := 55) dX10_takesNumber_41 (by decide) (fun c19 => ?_) (fun c19 => ?_)
          · exact T_sub [0, 1, 2] rfl ((((h7.2 c14).2 c17).2 c18).1 c19)
          · refine T_aload_n dX10_takesNumber_44 rfl 0 rfl ?_
            refine T_VI (As := []) dX10_takesNumber_45 mv_X10_186 hp_60 hs_60 rfl (Nat.le_of_ble_eq_true rfl) (hv_ok1 rfl) rfl ((((h7.2 c14).2 c17).2 c18).2 c19) (fun v9 s8 h10 => ?_)
            refine T_bipush (v := 48) dX10_takesNumber_48 (by decide) ?_
            refine T_icmp_ne (tgt := 55) dX10_takesNumber_50 (by decide) (fun c20 => ?_) (fun c20 => ?_)
            · exact T_sub [0, 1, 2] rfl (h10.1 c20)
            · refine T_iconst (v := 0) dX10_takesNumber_53 (by decide) ?_
              exact T_zret dX10_takesNumber_54 rfl (by decide) (h10.2 c20)
set_option maxHeartbeats 4000000 in
set_option maxRecDepth 100000 in
theorem B_X10_takesNumber {l : Launch} {e : hv_Ev}  (x1 : Int32) {σ : hv_S} {Φ : Int32 → hv_S → Prop} (h : hv_CI l (hv_e2 e) 1 m_X10_isDigit [.ref 60] σ (fun v2 s1 => ((v2 ≠ 0 → L_X10_takesNumber_16 l e Φ x1 0 (hv_ui s1 60 17 0)) ∧ (v2 = 0 → Φ 0 s1)))) : hv_CI l (hv_e2 e) 2 m_X10_takesNumber [.ref 60, .int x1] σ Φ := by
  refine hv_entI (by decide) (Nat.le_of_ble_eq_true rfl) ?_
  show hv_TW l (hv_e2 e) (hv_rm 2) 0 0 m_X10_takesNumber hv_no (hv_ZI (hv_e2 e) Φ) 0 [(0, .ref 60), (1, .int x1)] [] σ
  refine T_aload_n dX10_takesNumber_0 rfl 0 rfl ?_
  refine T_VI (As := []) dX10_takesNumber_1 mv_X10_193 hp_60 hs_60 rfl (Nat.le_of_ble_eq_true rfl) (hv_ok1 rfl) rfl h (fun v2 s1 h3 => ?_)
  refine T_if_ne (tgt := 9) dX10_takesNumber_4 (by decide) (fun c4 => ?_) (fun c4 => ?_)
  · refine T_aload_n dX10_takesNumber_9 rfl 0 rfl ?_
    refine T_iconst (v := 0) dX10_takesNumber_10 (by decide) ?_
    refine T_puti dX10_takesNumber_11 fl_X10_63 pf_X10_17 hp_60 hs_60 rfl ?_
    refine T_iconst (v := 0) dX10_takesNumber_14 (by decide) ?_
    refine T_istore_n dX10_takesNumber_15 rfl (by decide) rfl ?_
    exact T_sub [1, 2, 0] rfl (h3.1 c4)
  · refine T_iconst (v := 0) dX10_takesNumber_7 (by decide) ?_
    exact T_zret dX10_takesNumber_8 rfl (by decide) (h3.2 c4)

def L_X10_unroll_15 (l : Launch) (e : hv_Ev)  (Φ : hv_S → Prop) (x1 : Int32) (x2 : Int32) (σ : hv_S) : Prop := hv_TW l (hv_e2 e) (hv_rm 2) 0 0 m_X10_unroll hv_no (hv_ZV (hv_e2 e) Φ) 15 [(0, .ref 60), (1, .int x1), (2, .int x2)] [] σ
def L_X10_unroll_138 (l : Launch) (e : hv_Ev)  (Φ : hv_S → Prop) (x1 : Int32) (y2 : Int64) (x4 : Int32) (σ : hv_S) : Prop := hv_TW l (hv_e2 e) (hv_rm 2) 0 0 m_X10_unroll hv_no (hv_ZV (hv_e2 e) Φ) 138 [(0, .ref 60), (1, .int x1), (2, .long y2), (4, .int x4)] [] σ
def L_X10_unroll_22 (l : Launch) (e : hv_Ev)  (Φ : hv_S → Prop) (x1 : Int32) (x2 : Int32) (x3 : Int32) (σ : hv_S) : Prop := hv_TW l (hv_e2 e) (hv_rm 2) 0 0 m_X10_unroll hv_no (hv_ZV (hv_e2 e) Φ) 22 [(0, .ref 60), (1, .int x1), (2, .int x2), (3, .int x3)] [] σ
def L_X10_unroll_336 (l : Launch) (e : hv_Ev)  (Φ : hv_S → Prop) (x1 : Int32) (x4 : Int32) (σ : hv_S) : Prop := hv_TW l (hv_e2 e) (hv_rm 2) 0 0 m_X10_unroll hv_no (hv_ZV (hv_e2 e) Φ) 336 [(0, .ref 60), (1, .int x1), (4, .int x4)] [] σ
def L_X10_unroll_162 (l : Launch) (e : hv_Ev)  (Φ : hv_S → Prop) (x1 : Int32) (y2 : Int64) (x4 : Int32) (y5 : Int64) (x7 : Int32) (σ : hv_S) : Prop := hv_TW l (hv_e2 e) (hv_rm 2) 0 0 m_X10_unroll hv_no (hv_ZV (hv_e2 e) Φ) 162 [(0, .ref 60), (1, .int x1), (2, .long y2), (4, .int x4), (5, .long y5), (7, .int x7)] [] σ
def L_X10_unroll_287 (l : Launch) (e : hv_Ev)  (Φ : hv_S → Prop) (x1 : Int32) (x4 : Int32) (y5 : Int64) (x7 : Int32) (σ : hv_S) : Prop := hv_TW l (hv_e2 e) (hv_rm 2) 0 0 m_X10_unroll hv_no (hv_ZV (hv_e2 e) Φ) 287 [(0, .ref 60), (1, .int x1), (4, .int x4), (5, .long y5), (7, .int x7)] [] σ
def L_X10_unroll_196 (l : Launch) (e : hv_Ev)  (Φ : hv_S → Prop) (x1 : Int32) (y2 : Int64) (x4 : Int32) (y5 : Int64) (x7 : Int32) (y8 : Int64) (x10 : Int32) (σ : hv_S) : Prop := hv_TW l (hv_e2 e) (hv_rm 2) 0 0 m_X10_unroll hv_no (hv_ZV (hv_e2 e) Φ) 196 [(0, .ref 60), (1, .int x1), (2, .long y2), (4, .int x4), (5, .long y5), (7, .int x7), (8, .long y8), (10, .int x10)] [] σ
set_option maxHeartbeats 4000000 in
set_option maxRecDepth 100000 in
theorem B_X10_unroll_196 {l : Launch} {e : hv_Ev}  (x1 : Int32) (y2 : Int64) (x4 : Int32) (y5 : Int64) (x7 : Int32) (y8 : Int64) (x10 : Int32) {σ : hv_S} {Φ : hv_S → Prop} (h : ((9 ≤ x10 → (vp_in ((9 * x7) + x4) 72 ∧ L_X10_unroll_162 l e Φ x1 y2 x4 y5 (x7 + 1) (hv_ul σ 76 (((9 * x7) + x4).toNatClampNeg) 0))) ∧ (¬ 9 ≤ x10 → ((x10 = x4 → L_X10_unroll_196 l e Φ x1 y2 x4 y5 x7 y8 (x10 + 1) σ) ∧ (¬ x10 = x4 → (vp_in ((9 * x7) + x10) 72 ∧ (vp_in ((9 * x4) + x10) 72 ∧ (¬ y2 = 0 ∧ (vp_in ((9 * x7) + x10) 72 ∧ L_X10_unroll_196 l e Φ x1 y2 x4 y5 x7 y8 (x10 + 1) (hv_ul σ 76 (((9 * x7) + x10).toNatClampNeg) (((y5 * (σ.2.1 76 (((9 * x7) + x10).toNatClampNeg))) - (y8 * (σ.2.1 76 (((9 * x4) + x10).toNatClampNeg)))) / y2))))))))))) : L_X10_unroll_196 l e Φ x1 y2 x4 y5 x7 y8 x10 σ := by
  show hv_TW l (hv_e2 e) (hv_rm 2) 0 0 m_X10_unroll hv_no (hv_ZV (hv_e2 e) Φ) 196 [(0, .ref 60), (1, .int x1), (2, .long y2), (4, .int x4), (5, .long y5), (7, .int x7), (8, .long y8), (10, .int x10)] [] σ
  refine T_iload dX10_unroll_196 7 rfl ?_
  refine T_bipush (v := 9) dX10_unroll_198 (by decide) ?_
  refine T_icmp_ge (tgt := 264) dX10_unroll_200 (by decide) (fun c31 => ?_) (fun c31 => ?_)
  · refine T_aload_n dX10_unroll_264 rfl 0 rfl ?_
    refine T_get (v := .ref 76) dX10_unroll_265 fl_X10_131 hp_60 hs_60 rfl rfl ?_
    refine T_bipush (v := 9) dX10_unroll_268 (by decide) ?_
    refine T_iload dX10_unroll_270 5 rfl ?_
    refine T_imul dX10_unroll_272 ?_
    refine T_iload dX10_unroll_273 3 rfl ?_
    refine T_iadd dX10_unroll_275 ?_
    refine T_lconst (v := 0) dX10_unroll_276 (by decide) ?_
    refine T_last dX10_unroll_277 hp_76 hs_76 (h.1 c31).1 ?_
    refine T_iinc (v := (x7 + 1)) dX10_unroll_278 5 rfl rfl (by decide) rfl ?_
    refine T_goto (tgt := 162) dX10_unroll_281 (by decide) ?_
    exact T_sub [1, 2, 3, 4, 5, 0] rfl (h.1 c31).2
  · refine T_iload dX10_unroll_203 7 rfl ?_
    refine T_iload dX10_unroll_205 3 rfl ?_
    refine T_icmp_eq (tgt := 258) dX10_unroll_207 (by decide) (fun c32 => ?_) (fun c32 => ?_)
    · refine T_iinc (v := (x10 + 1)) dX10_unroll_258 7 rfl rfl (by decide) rfl ?_
      refine T_goto (tgt := 196) dX10_unroll_261 (by decide) ?_
      exact T_sub [1, 2, 3, 4, 5, 6, 7, 0] rfl ((h.2 c31).1 c32)
    · refine T_aload_n dX10_unroll_210 rfl 0 rfl ?_
      refine T_get (v := .ref 76) dX10_unroll_211 fl_X10_131 hp_60 hs_60 rfl rfl ?_
      refine T_bipush (v := 9) dX10_unroll_214 (by decide) ?_
      refine T_iload dX10_unroll_216 5 rfl ?_
      refine T_imul dX10_unroll_218 ?_
      refine T_iload dX10_unroll_219 7 rfl ?_
      refine T_iadd dX10_unroll_221 ?_
      refine T_lload dX10_unroll_222 4 rfl ?_
      refine T_aload_n dX10_unroll_224 rfl 0 rfl ?_
      refine T_get (v := .ref 76) dX10_unroll_225 fl_X10_131 hp_60 hs_60 rfl rfl ?_
      refine T_bipush (v := 9) dX10_unroll_228 (by decide) ?_
      refine T_iload dX10_unroll_230 5 rfl ?_
      refine T_imul dX10_unroll_232 ?_
      refine T_iload dX10_unroll_233 7 rfl ?_
      refine T_iadd dX10_unroll_235 ?_
      refine T_lald dX10_unroll_236 hp_76 hs_76 ((h.2 c31).2 c32).1 ?_
      refine T_lmul dX10_unroll_237 ?_
      refine T_lload dX10_unroll_238 6 rfl ?_
      refine T_aload_n dX10_unroll_240 rfl 0 rfl ?_
      refine T_get (v := .ref 76) dX10_unroll_241 fl_X10_131 hp_60 hs_60 rfl rfl ?_
      refine T_bipush (v := 9) dX10_unroll_244 (by decide) ?_
      refine T_iload dX10_unroll_246 3 rfl ?_
      refine T_imul dX10_unroll_248 ?_
      refine T_iload dX10_unroll_249 7 rfl ?_
      refine T_iadd dX10_unroll_251 ?_
      refine T_lald dX10_unroll_252 hp_76 hs_76 ((h.2 c31).2 c32).2.1 ?_
      refine T_lmul dX10_unroll_253 ?_
      refine T_lsub dX10_unroll_254 ?_
      refine T_lload_n dX10_unroll_255 rfl 2 rfl ?_
      refine T_ldiv dX10_unroll_256 (((h.2 c31).2 c32).2.2.1) ?_
      refine T_last dX10_unroll_257 hp_76 hs_76 ((h.2 c31).2 c32).2.2.2.1 ?_
      refine T_iinc (v := (x10 + 1)) dX10_unroll_258 7 rfl rfl (by decide) rfl ?_
      refine T_goto (tgt := 196) dX10_unroll_261 (by decide) ?_
      exact T_sub [1, 2, 3, 4, 5, 6, 7, 0] rfl ((h.2 c31).2 c32).2.2.2.2
set_option maxHeartbeats 4000000 in
set_option maxRecDepth 100000 in
theorem B_X10_unroll_287 {l : Launch} {e : hv_Ev}  (x1 : Int32) (x4 : Int32) (y5 : Int64) (x7 : Int32) {σ : hv_S} {Φ : hv_S → Prop} (h : ((x4 ≤ x7 → L_X10_unroll_138 l e Φ x1 y5 (x4 + 1) σ) ∧ (¬ x4 ≤ x7 → (vp_in ((9 * x7) + x7) 72 ∧ L_X10_unroll_287 l e Φ x1 x4 y5 (x7 + 1) (hv_ul σ 76 (((9 * x7) + x7).toNatClampNeg) y5))))) : L_X10_unroll_287 l e Φ x1 x4 y5 x7 σ := by
  show hv_TW l (hv_e2 e) (hv_rm 2) 0 0 m_X10_unroll hv_no (hv_ZV (hv_e2 e) Φ) 287 [(0, .ref 60), (1, .int x1), (4, .int x4), (5, .long y5), (7, .int x7)] [] σ
  refine T_iload dX10_unroll_287 4 rfl ?_
  refine T_iload dX10_unroll_289 2 rfl ?_
  refine T_icmp_ge (tgt := 315) dX10_unroll_291 (by decide) (fun c30 => ?_) (fun c30 => ?_)
  · refine T_lload dX10_unroll_315 3 rfl ?_
    refine T_lstore_n dX10_unroll_317 rfl (by decide) rfl ?_
    refine T_iinc (v := (x4 + 1)) dX10_unroll_318 3 rfl rfl (by decide) rfl ?_
    refine T_goto (tgt := 138) dX10_unroll_321 (by decide) ?_
    exact T_sub [2, 3, 1, 0] rfl (h.1 c30)
  · refine T_aload_n dX10_unroll_294 rfl 0 rfl ?_
    refine T_get (v := .ref 76) dX10_unroll_295 fl_X10_131 hp_60 hs_60 rfl rfl ?_
    refine T_bipush (v := 9) dX10_unroll_298 (by decide) ?_
    refine T_iload dX10_unroll_300 4 rfl ?_
    refine T_imul dX10_unroll_302 ?_
    refine T_iload dX10_unroll_303 4 rfl ?_
    refine T_iadd dX10_unroll_305 ?_
    refine T_lload dX10_unroll_306 3 rfl ?_
    refine T_last dX10_unroll_308 hp_76 hs_76 (h.2 c30).1 ?_
    refine T_iinc (v := (x7 + 1)) dX10_unroll_309 4 rfl rfl (by decide) rfl ?_
    refine T_goto (tgt := 287) dX10_unroll_312 (by decide) ?_
    exact T_sub [1, 2, 3, 4, 0] rfl (h.2 c30).2
set_option maxHeartbeats 4000000 in
set_option maxRecDepth 100000 in
theorem B_X10_unroll_162 {l : Launch} {e : hv_Ev}  (x1 : Int32) (y2 : Int64) (x4 : Int32) (y5 : Int64) (x7 : Int32) {σ : hv_S} {Φ : hv_S → Prop} (h : ((x1 ≤ x7 → L_X10_unroll_287 l e Φ x1 x4 y5 0 σ) ∧ (¬ x1 ≤ x7 → ((x7 ≠ x4 → (vp_in ((9 * x7) + x4) 72 ∧ L_X10_unroll_196 l e Φ x1 y2 x4 y5 x7 (σ.2.1 76 (((9 * x7) + x4).toNatClampNeg)) 0 σ)) ∧ (x7 = x4 → L_X10_unroll_162 l e Φ x1 y2 x4 y5 (x7 + 1) σ))))) : L_X10_unroll_162 l e Φ x1 y2 x4 y5 x7 σ := by
  show hv_TW l (hv_e2 e) (hv_rm 2) 0 0 m_X10_unroll hv_no (hv_ZV (hv_e2 e) Φ) 162 [(0, .ref 60), (1, .int x1), (2, .long y2), (4, .int x4), (5, .long y5), (7, .int x7)] [] σ
  refine T_iload dX10_unroll_162 5 rfl ?_
  refine T_iload_n dX10_unroll_164 rfl 1 rfl ?_
  refine T_icmp_ge (tgt := 284) dX10_unroll_165 (by decide) (fun c28 => ?_) (fun c28 => ?_)
  · refine T_iconst (v := 0) dX10_unroll_284 (by decide) ?_
    refine T_istore dX10_unroll_285 (by decide) rfl ?_
    exact T_sub [1, 2, 4, 5, 0] rfl (h.1 c28)
  · refine T_iload dX10_unroll_168 5 rfl ?_
    refine T_iload dX10_unroll_170 3 rfl ?_
    refine T_icmp_ne (tgt := 178) dX10_unroll_172 (by decide) (fun c29 => ?_) (fun c29 => ?_)
    · refine T_aload_n dX10_unroll_178 rfl 0 rfl ?_
      refine T_get (v := .ref 76) dX10_unroll_179 fl_X10_131 hp_60 hs_60 rfl rfl ?_
      refine T_bipush (v := 9) dX10_unroll_182 (by decide) ?_
      refine T_iload dX10_unroll_184 5 rfl ?_
      refine T_imul dX10_unroll_186 ?_
      refine T_iload dX10_unroll_187 3 rfl ?_
      refine T_iadd dX10_unroll_189 ?_
      refine T_lald dX10_unroll_190 hp_76 hs_76 ((h.2 c28).1 c29).1 ?_
      refine T_lstore dX10_unroll_191 (by decide) rfl ?_
      refine T_iconst (v := 0) dX10_unroll_193 (by decide) ?_
      refine T_istore dX10_unroll_194 (by decide) rfl ?_
      exact T_sub [2, 3, 4, 5, 6, 7, 1, 0] rfl ((h.2 c28).1 c29).2
    · refine T_goto (tgt := 278) dX10_unroll_175 (by decide) ?_
      refine T_iinc (v := (x7 + 1)) dX10_unroll_278 5 rfl rfl (by decide) rfl ?_
      refine T_goto (tgt := 162) dX10_unroll_281 (by decide) ?_
      exact T_sub [1, 2, 3, 4, 5, 0] rfl ((h.2 c28).2 c29)
set_option maxHeartbeats 4000000 in
set_option maxRecDepth 100000 in
theorem B_X10_unroll_336 {l : Launch} {e : hv_Ev}  (x1 : Int32) (x4 : Int32) {σ : hv_S} {Φ : hv_S → Prop} (h : ((x1 ≤ x4 → Φ σ) ∧ (¬ x1 ≤ x4 → hv_CI l (hv_e2 e) 0 m_X10_has [.ref 60, .int (σ.1 60 41), .int x4] σ (fun v21 s20 => ((v21 = 0 → (vp_in ((9 * x4) + 8) 72 ∧ (vp_in ((8 * x4) + x4) 64 ∧ (∀ z23 : Int64, z23 = ((s20.2.1 76 (((9 * x4) + 8).toNatClampNeg)) * (s20.1 74 (((8 * x4) + x4).toNatClampNeg)).toInt64) → ((z23 ≤ ((s20.1 60 19).toInt64 * (s20.2.1 60 40)) → (vp_in x4 8 ∧ L_X10_unroll_336 l e Φ x1 (x4 + 1) (hv_ul s20 75 x4.toNatClampNeg z23))) ∧ (¬ z23 ≤ ((s20.1 60 19).toInt64 * (s20.2.1 60 40)) → (vp_in x4 8 ∧ L_X10_unroll_336 l e Φ x1 (x4 + 1) (hv_ul s20 75 x4.toNatClampNeg ((s20.1 60 19).toInt64 * (s20.2.1 60 40)))))))))) ∧ (¬ v21 = 0 → ((0 ≤ ((s20.1 60 19).toInt64 * (s20.2.1 60 40)) → (vp_in x4 8 ∧ L_X10_unroll_336 l e Φ x1 (x4 + 1) (hv_ul s20 75 x4.toNatClampNeg 0))) ∧ (¬ 0 ≤ ((s20.1 60 19).toInt64 * (s20.2.1 60 40)) → (vp_in x4 8 ∧ L_X10_unroll_336 l e Φ x1 (x4 + 1) (hv_ul s20 75 x4.toNatClampNeg ((s20.1 60 19).toInt64 * (s20.2.1 60 40)))))))))))) : L_X10_unroll_336 l e Φ x1 x4 σ := by
  show hv_TW l (hv_e2 e) (hv_rm 2) 0 0 m_X10_unroll hv_no (hv_ZV (hv_e2 e) Φ) 336 [(0, .ref 60), (1, .int x1), (4, .int x4)] [] σ
  refine T_iload dX10_unroll_336 2 rfl ?_
  refine T_iload_n dX10_unroll_338 rfl 1 rfl ?_
  refine T_icmp_ge (tgt := 433) dX10_unroll_339 (by decide) (fun c24 => ?_) (fun c24 => ?_)
  · exact T_vret dX10_unroll_433 rfl (h.1 c24)
  · refine T_aload_n dX10_unroll_342 rfl 0 rfl ?_
    refine T_aload_n dX10_unroll_343 rfl 0 rfl ?_
    refine T_get (v := .int (σ.1 60 41)) dX10_unroll_344 fl_X10_138 hp_60 hs_60 rfl rfl ?_
    refine T_iload dX10_unroll_347 2 rfl ?_
    refine T_VI (As := [.int (σ.1 60 41), .int x4]) dX10_unroll_349 mv_X10_241 hp_60 hs_60 rfl (Nat.le_of_ble_eq_true rfl) (hv_ok1 rfl) rfl (h.2 c24) (fun v21 s20 h22 => ?_)
    refine T_if_eq (tgt := 359) dX10_unroll_352 (by decide) (fun c25 => ?_) (fun c25 => ?_)
    · refine T_aload_n dX10_unroll_359 rfl 0 rfl ?_
      refine T_get (v := .ref 76) dX10_unroll_360 fl_X10_131 hp_60 hs_60 rfl rfl ?_
      refine T_bipush (v := 9) dX10_unroll_363 (by decide) ?_
      refine T_iload dX10_unroll_365 2 rfl ?_
      refine T_imul dX10_unroll_367 ?_
      refine T_bipush (v := 8) dX10_unroll_368 (by decide) ?_
      refine T_iadd dX10_unroll_370 ?_
      refine T_lald dX10_unroll_371 hp_76 hs_76 (h22.1 c25).1 ?_
      refine T_aload_n dX10_unroll_372 rfl 0 rfl ?_
      refine T_get (v := .ref 74) dX10_unroll_373 fl_X10_115 hp_60 hs_60 rfl rfl ?_
      refine T_bipush (v := 8) dX10_unroll_376 (by decide) ?_
      refine T_iload dX10_unroll_378 2 rfl ?_
      refine T_imul dX10_unroll_380 ?_
      refine T_iload dX10_unroll_381 2 rfl ?_
      refine T_iadd dX10_unroll_383 ?_
      refine T_iald dX10_unroll_384 hp_74 hs_74 (h22.1 c25).2.1 ?_
      refine T_i2l dX10_unroll_385 ?_
      refine T_lmul dX10_unroll_386 ?_
      refine T_topl (fun z23 ez23 => ?_)
      refine T_lstore dX10_unroll_387 (by decide) rfl ?_
      refine T_aload_n dX10_unroll_389 rfl 1 rfl ?_
      refine T_get (v := .ref 75) dX10_unroll_390 fl_X10_127 hp_60 hs_60 rfl rfl ?_
      refine T_iload dX10_unroll_393 3 rfl ?_
      refine T_lload dX10_unroll_395 0 rfl ?_
      refine T_aload_n dX10_unroll_397 rfl 1 rfl ?_
      refine T_get (v := .int (s20.1 60 19)) dX10_unroll_398 fl_X10_70 hp_60 hs_60 rfl rfl ?_
      refine T_i2l dX10_unroll_401 ?_
      refine T_aload_n dX10_unroll_402 rfl 1 rfl ?_
      refine T_get (v := .long (s20.2.1 60 40)) dX10_unroll_403 fl_X10_134 hp_60 hs_60 rfl rfl ?_
      refine T_lmul dX10_unroll_406 ?_
      refine T_lc_le (tgt := 424) dX10_unroll_407 dX10_unroll_408 (by decide) (fun c26 => ?_) (fun c26 => ?_)
      · refine T_lload dX10_unroll_424 0 rfl ?_
        refine T_last dX10_unroll_426 hp_75 hs_75 (((h22.1 c25).2.2 z23 ez23).1 c26).1 ?_
        refine T_iinc (v := (x4 + 1)) dX10_unroll_427 3 rfl rfl (by decide) rfl ?_
        refine T_goto (tgt := 336) dX10_unroll_430 (by decide) ?_
        exact T_sub [2, 3, 0] rfl (((h22.1 c25).2.2 z23 ez23).1 c26).2
      · refine T_aload_n dX10_unroll_411 rfl 1 rfl ?_
        refine T_get (v := .int (s20.1 60 19)) dX10_unroll_412 fl_X10_70 hp_60 hs_60 rfl rfl ?_
        refine T_i2l dX10_unroll_415 ?_
        refine T_aload_n dX10_unroll_416 rfl 1 rfl ?_
        refine T_get (v := .long (s20.2.1 60 40)) dX10_unroll_417 fl_X10_134 hp_60 hs_60 rfl rfl ?_
        refine T_lmul dX10_unroll_420 ?_
        refine T_goto (tgt := 426) dX10_unroll_421 (by decide) ?_
        refine T_last dX10_unroll_426 hp_75 hs_75 (((h22.1 c25).2.2 z23 ez23).2 c26).1 ?_
        refine T_iinc (v := (x4 + 1)) dX10_unroll_427 3 rfl rfl (by decide) rfl ?_
        refine T_goto (tgt := 336) dX10_unroll_430 (by decide) ?_
        exact T_sub [2, 3, 0] rfl (((h22.1 c25).2.2 z23 ez23).2 c26).2
    · refine T_lconst (v := 0) dX10_unroll_355 (by decide) ?_
      refine T_goto (tgt := 387) dX10_unroll_356 (by decide) ?_
      refine T_lstore dX10_unroll_387 (by decide) rfl ?_
      refine T_aload_n dX10_unroll_389 rfl 1 rfl ?_
      refine T_get (v := .ref 75) dX10_unroll_390 fl_X10_127 hp_60 hs_60 rfl rfl ?_
      refine T_iload dX10_unroll_393 3 rfl ?_
      refine T_lload dX10_unroll_395 0 rfl ?_
      refine T_aload_n dX10_unroll_397 rfl 1 rfl ?_
      refine T_get (v := .int (s20.1 60 19)) dX10_unroll_398 fl_X10_70 hp_60 hs_60 rfl rfl ?_
      refine T_i2l dX10_unroll_401 ?_
      refine T_aload_n dX10_unroll_402 rfl 1 rfl ?_
      refine T_get (v := .long (s20.2.1 60 40)) dX10_unroll_403 fl_X10_134 hp_60 hs_60 rfl rfl ?_
      refine T_lmul dX10_unroll_406 ?_
      refine T_lc_le (tgt := 424) dX10_unroll_407 dX10_unroll_408 (by decide) (fun c27 => ?_) (fun c27 => ?_)
      · refine T_lload dX10_unroll_424 0 rfl ?_
        refine T_last dX10_unroll_426 hp_75 hs_75 ((h22.2 c25).1 c27).1 ?_
        refine T_iinc (v := (x4 + 1)) dX10_unroll_427 3 rfl rfl (by decide) rfl ?_
        refine T_goto (tgt := 336) dX10_unroll_430 (by decide) ?_
        exact T_sub [2, 3, 0] rfl ((h22.2 c25).1 c27).2
      · refine T_aload_n dX10_unroll_411 rfl 1 rfl ?_
        refine T_get (v := .int (s20.1 60 19)) dX10_unroll_412 fl_X10_70 hp_60 hs_60 rfl rfl ?_
        refine T_i2l dX10_unroll_415 ?_
        refine T_aload_n dX10_unroll_416 rfl 1 rfl ?_
        refine T_get (v := .long (s20.2.1 60 40)) dX10_unroll_417 fl_X10_134 hp_60 hs_60 rfl rfl ?_
        refine T_lmul dX10_unroll_420 ?_
        refine T_goto (tgt := 426) dX10_unroll_421 (by decide) ?_
        refine T_last dX10_unroll_426 hp_75 hs_75 ((h22.2 c25).2 c27).1 ?_
        refine T_iinc (v := (x4 + 1)) dX10_unroll_427 3 rfl rfl (by decide) rfl ?_
        refine T_goto (tgt := 336) dX10_unroll_430 (by decide) ?_
        exact T_sub [2, 3, 0] rfl ((h22.2 c25).2 c27).2
set_option maxHeartbeats 4000000 in
set_option maxRecDepth 100000 in
theorem B_X10_unroll_22 {l : Launch} {e : hv_Ev}  (x1 : Int32) (x2 : Int32) (x3 : Int32) {σ : hv_S} {Φ : hv_S → Prop} (h : ((x1 ≤ x3 → hv_CI l (hv_e2 e) 0 m_X10_has [.ref 60, .int (σ.1 60 41), .int x2] σ (fun v7 s6 => ((v7 = 0 → (vp_in ((9 * x2) + 8) 72 ∧ L_X10_unroll_15 l e Φ x1 (x2 + 1) (hv_ul s6 76 (((9 * x2) + 8).toNatClampNeg) 10))) ∧ (¬ v7 = 0 → (vp_in ((9 * x2) + 8) 72 ∧ L_X10_unroll_15 l e Φ x1 (x2 + 1) (hv_ul s6 76 (((9 * x2) + 8).toNatClampNeg) 0)))))) ∧ (¬ x1 ≤ x3 → ((x3 ≠ x2 → hv_CI l (hv_e2 e) 0 m_X10_has [.ref 60, .int (σ.1 60 41), .int x3] σ (fun v10 s9 => ((v10 ≠ 0 → (vp_in ((9 * x2) + x3) 72 ∧ L_X10_unroll_22 l e Φ x1 x2 (x3 + 1) (hv_ul s9 76 (((9 * x2) + x3).toNatClampNeg) 0))) ∧ (v10 = 0 → hv_CI l (hv_e2 e) 0 m_X10_has [.ref 60, .int (s9.1 60 41), .int x2] s9 (fun v13 s12 => ((v13 = 0 → (vp_in ((8 * x3) + x2) 64 ∧ (vp_in ((9 * x2) + x3) 72 ∧ L_X10_unroll_22 l e Φ x1 x2 (x3 + 1) (hv_ul s12 76 (((9 * x2) + x3).toNatClampNeg) ((-(s12.1 74 (((8 * x3) + x2).toNatClampNeg))).toInt64))))) ∧ (¬ v13 = 0 → (vp_in ((9 * x2) + x3) 72 ∧ L_X10_unroll_22 l e Φ x1 x2 (x3 + 1) (hv_ul s12 76 (((9 * x2) + x3).toNatClampNeg) 0))))))))) ∧ (x3 = x2 → (vp_in ((9 * x2) + x3) 72 ∧ L_X10_unroll_22 l e Φ x1 x2 (x3 + 1) (hv_ul σ 76 (((9 * x2) + x3).toNatClampNeg) 10))))))) : L_X10_unroll_22 l e Φ x1 x2 x3 σ := by
  show hv_TW l (hv_e2 e) (hv_rm 2) 0 0 m_X10_unroll hv_no (hv_ZV (hv_e2 e) Φ) 22 [(0, .ref 60), (1, .int x1), (2, .int x2), (3, .int x3)] [] σ
  refine T_iload_n dX10_unroll_22 rfl 3 rfl ?_
  refine T_iload_n dX10_unroll_23 rfl 1 rfl ?_
  refine T_icmp_ge (tgt := 96) dX10_unroll_24 (by decide) (fun c15 => ?_) (fun c15 => ?_)
  · refine T_aload_n dX10_unroll_96 rfl 0 rfl ?_
    refine T_get (v := .ref 76) dX10_unroll_97 fl_X10_131 hp_60 hs_60 rfl rfl ?_
    refine T_bipush (v := 9) dX10_unroll_100 (by decide) ?_
    refine T_iload_n dX10_unroll_102 rfl 2 rfl ?_
    refine T_imul dX10_unroll_103 ?_
    refine T_bipush (v := 8) dX10_unroll_104 (by decide) ?_
    refine T_iadd dX10_unroll_106 ?_
    refine T_aload_n dX10_unroll_107 rfl 0 rfl ?_
    refine T_aload_n dX10_unroll_108 rfl 0 rfl ?_
    refine T_get (v := .int (σ.1 60 41)) dX10_unroll_109 fl_X10_138 hp_60 hs_60 rfl rfl ?_
    refine T_iload_n dX10_unroll_112 rfl 2 rfl ?_
    refine T_VI (As := [.int (σ.1 60 41), .int x2]) dX10_unroll_113 mv_X10_241 hp_60 hs_60 rfl (Nat.le_of_ble_eq_true rfl) (hv_ok1 rfl) rfl (h.1 c15) (fun v7 s6 h8 => ?_)
    refine T_if_eq (tgt := 123) dX10_unroll_116 (by decide) (fun c16 => ?_) (fun c16 => ?_)
    · refine T_ldc2 dX10_unroll_123 kl_X10_270 ?_
      refine T_last dX10_unroll_126 hp_76 hs_76 (h8.1 c16).1 ?_
      refine T_iinc (v := (x2 + 1)) dX10_unroll_127 2 rfl rfl (by decide) rfl ?_
      refine T_goto (tgt := 15) dX10_unroll_130 (by decide) ?_
      exact T_sub [1, 2, 0] rfl (h8.1 c16).2
    · refine T_lconst (v := 0) dX10_unroll_119 (by decide) ?_
      refine T_goto (tgt := 126) dX10_unroll_120 (by decide) ?_
      refine T_last dX10_unroll_126 hp_76 hs_76 (h8.2 c16).1 ?_
      refine T_iinc (v := (x2 + 1)) dX10_unroll_127 2 rfl rfl (by decide) rfl ?_
      refine T_goto (tgt := 15) dX10_unroll_130 (by decide) ?_
      exact T_sub [1, 2, 0] rfl (h8.2 c16).2
  · refine T_aload_n dX10_unroll_27 rfl 0 rfl ?_
    refine T_get (v := .ref 76) dX10_unroll_28 fl_X10_131 hp_60 hs_60 rfl rfl ?_
    refine T_bipush (v := 9) dX10_unroll_31 (by decide) ?_
    refine T_iload_n dX10_unroll_33 rfl 2 rfl ?_
    refine T_imul dX10_unroll_34 ?_
    refine T_iload_n dX10_unroll_35 rfl 3 rfl ?_
    refine T_iadd dX10_unroll_36 ?_
    refine T_iload_n dX10_unroll_37 rfl 3 rfl ?_
    refine T_iload_n dX10_unroll_38 rfl 2 rfl ?_
    refine T_icmp_ne (tgt := 48) dX10_unroll_39 (by decide) (fun c17 => ?_) (fun c17 => ?_)
    · refine T_aload_n dX10_unroll_48 rfl 0 rfl ?_
      refine T_aload_n dX10_unroll_49 rfl 0 rfl ?_
      refine T_get (v := .int (σ.1 60 41)) dX10_unroll_50 fl_X10_138 hp_60 hs_60 rfl rfl ?_
      refine T_iload_n dX10_unroll_53 rfl 3 rfl ?_
      refine T_VI (As := [.int (σ.1 60 41), .int x3]) dX10_unroll_54 mv_X10_241 hp_60 hs_60 rfl (Nat.le_of_ble_eq_true rfl) (hv_ok1 rfl) rfl ((h.2 c15).1 c17) (fun v10 s9 h11 => ?_)
      refine T_if_ne (tgt := 72) dX10_unroll_57 (by decide) (fun c18 => ?_) (fun c18 => ?_)
      · refine T_lconst (v := 0) dX10_unroll_72 (by decide) ?_
        refine T_goto (tgt := 89) dX10_unroll_73 (by decide) ?_
        refine T_last dX10_unroll_89 hp_76 hs_76 (h11.1 c18).1 ?_
        refine T_iinc (v := (x3 + 1)) dX10_unroll_90 3 rfl rfl (by decide) rfl ?_
        refine T_goto (tgt := 22) dX10_unroll_93 (by decide) ?_
        exact T_sub [1, 2, 3, 0] rfl (h11.1 c18).2
      · refine T_aload_n dX10_unroll_60 rfl 0 rfl ?_
        refine T_aload_n dX10_unroll_61 rfl 0 rfl ?_
        refine T_get (v := .int (s9.1 60 41)) dX10_unroll_62 fl_X10_138 hp_60 hs_60 rfl rfl ?_
        refine T_iload_n dX10_unroll_65 rfl 2 rfl ?_
        refine T_VI (As := [.int (s9.1 60 41), .int x2]) dX10_unroll_66 mv_X10_241 hp_60 hs_60 rfl (Nat.le_of_ble_eq_true rfl) (hv_ok1 rfl) rfl (h11.2 c18) (fun v13 s12 h14 => ?_)
        refine T_if_eq (tgt := 76) dX10_unroll_69 (by decide) (fun c19 => ?_) (fun c19 => ?_)
        · refine T_aload_n dX10_unroll_76 rfl 0 rfl ?_
          refine T_get (v := .ref 74) dX10_unroll_77 fl_X10_115 hp_60 hs_60 rfl rfl ?_
          refine T_bipush (v := 8) dX10_unroll_80 (by decide) ?_
          refine T_iload_n dX10_unroll_82 rfl 3 rfl ?_
          refine T_imul dX10_unroll_83 ?_
          refine T_iload_n dX10_unroll_84 rfl 2 rfl ?_
          refine T_iadd dX10_unroll_85 ?_
          refine T_iald dX10_unroll_86 hp_74 hs_74 (h14.1 c19).1 ?_
          refine T_ineg dX10_unroll_87 ?_
          refine T_i2l dX10_unroll_88 ?_
          refine T_last dX10_unroll_89 hp_76 hs_76 (h14.1 c19).2.1 ?_
          refine T_iinc (v := (x3 + 1)) dX10_unroll_90 3 rfl rfl (by decide) rfl ?_
          refine T_goto (tgt := 22) dX10_unroll_93 (by decide) ?_
          exact T_sub [1, 2, 3, 0] rfl (h14.1 c19).2.2
        · refine T_lconst (v := 0) dX10_unroll_72 (by decide) ?_
          refine T_goto (tgt := 89) dX10_unroll_73 (by decide) ?_
          refine T_last dX10_unroll_89 hp_76 hs_76 (h14.2 c19).1 ?_
          refine T_iinc (v := (x3 + 1)) dX10_unroll_90 3 rfl rfl (by decide) rfl ?_
          refine T_goto (tgt := 22) dX10_unroll_93 (by decide) ?_
          exact T_sub [1, 2, 3, 0] rfl (h14.2 c19).2
    · refine T_ldc2 dX10_unroll_42 kl_X10_270 ?_
      refine T_goto (tgt := 89) dX10_unroll_45 (by decide) ?_
      refine T_last dX10_unroll_89 hp_76 hs_76 ((h.2 c15).2 c17).1 ?_
      refine T_iinc (v := (x3 + 1)) dX10_unroll_90 3 rfl rfl (by decide) rfl ?_
      refine T_goto (tgt := 22) dX10_unroll_93 (by decide) ?_
      exact T_sub [1, 2, 3, 0] rfl ((h.2 c15).2 c17).2
set_option maxHeartbeats 4000000 in
set_option maxRecDepth 100000 in
theorem B_X10_unroll_138 {l : Launch} {e : hv_Ev}  (x1 : Int32) (y2 : Int64) (x4 : Int32) {σ : hv_S} {Φ : hv_S → Prop} (h : ((x1 ≤ x4 → L_X10_unroll_336 l e Φ x1 0 (hv_ul σ 60 40 (10 * y2))) ∧ (¬ x1 ≤ x4 → (vp_in ((9 * x4) + x4) 72 ∧ L_X10_unroll_162 l e Φ x1 y2 x4 (σ.2.1 76 (((9 * x4) + x4).toNatClampNeg)) 0 σ)))) : L_X10_unroll_138 l e Φ x1 y2 x4 σ := by
  show hv_TW l (hv_e2 e) (hv_rm 2) 0 0 m_X10_unroll hv_no (hv_ZV (hv_e2 e) Φ) 138 [(0, .ref 60), (1, .int x1), (2, .long y2), (4, .int x4)] [] σ
  refine T_iload dX10_unroll_138 3 rfl ?_
  refine T_iload_n dX10_unroll_140 rfl 1 rfl ?_
  refine T_icmp_ge (tgt := 324) dX10_unroll_141 (by decide) (fun c5 => ?_) (fun c5 => ?_)
  · refine T_aload_n dX10_unroll_324 rfl 0 rfl ?_
    refine T_ldc2 dX10_unroll_325 kl_X10_270 ?_
    refine T_lload_n dX10_unroll_328 rfl 2 rfl ?_
    refine T_lmul dX10_unroll_329 ?_
    refine T_putl dX10_unroll_330 fl_X10_134 pf_X10_40 hp_60 hs_60 rfl ?_
    refine T_iconst (v := 0) dX10_unroll_333 (by decide) ?_
    refine T_istore dX10_unroll_334 (by decide) rfl ?_
    exact T_sub [1, 2, 0] rfl (h.1 c5)
  · refine T_aload_n dX10_unroll_144 rfl 0 rfl ?_
    refine T_get (v := .ref 76) dX10_unroll_145 fl_X10_131 hp_60 hs_60 rfl rfl ?_
    refine T_bipush (v := 9) dX10_unroll_148 (by decide) ?_
    refine T_iload dX10_unroll_150 3 rfl ?_
    refine T_imul dX10_unroll_152 ?_
    refine T_iload dX10_unroll_153 3 rfl ?_
    refine T_iadd dX10_unroll_155 ?_
    refine T_lald dX10_unroll_156 hp_76 hs_76 (h.2 c5).1 ?_
    refine T_lstore dX10_unroll_157 (by decide) rfl ?_
    refine T_iconst (v := 0) dX10_unroll_159 (by decide) ?_
    refine T_istore dX10_unroll_160 (by decide) rfl ?_
    exact T_sub [2, 3, 4, 5, 1, 0] rfl (h.2 c5).2
set_option maxHeartbeats 4000000 in
set_option maxRecDepth 100000 in
theorem B_X10_unroll_15 {l : Launch} {e : hv_Ev}  (x1 : Int32) (x2 : Int32) {σ : hv_S} {Φ : hv_S → Prop} (h : ((x1 ≤ x2 → L_X10_unroll_138 l e Φ x1 1 0 σ) ∧ (¬ x1 ≤ x2 → L_X10_unroll_22 l e Φ x1 x2 0 σ))) : L_X10_unroll_15 l e Φ x1 x2 σ := by
  show hv_TW l (hv_e2 e) (hv_rm 2) 0 0 m_X10_unroll hv_no (hv_ZV (hv_e2 e) Φ) 15 [(0, .ref 60), (1, .int x1), (2, .int x2)] [] σ
  refine T_iload_n dX10_unroll_15 rfl 2 rfl ?_
  refine T_iload_n dX10_unroll_16 rfl 1 rfl ?_
  refine T_icmp_ge (tgt := 133) dX10_unroll_17 (by decide) (fun c4 => ?_) (fun c4 => ?_)
  · refine T_lconst (v := 1) dX10_unroll_133 (by decide) ?_
    refine T_lstore_n dX10_unroll_134 rfl (by decide) rfl ?_
    refine T_iconst (v := 0) dX10_unroll_135 (by decide) ?_
    refine T_istore dX10_unroll_136 (by decide) rfl ?_
    exact T_sub [2, 3, 1, 0] rfl (h.1 c4)
  · refine T_iconst (v := 0) dX10_unroll_20 (by decide) ?_
    refine T_istore_n dX10_unroll_21 rfl (by decide) rfl ?_
    exact T_sub [1, 2, 3, 0] rfl (h.2 c4)
set_option maxHeartbeats 4000000 in
set_option maxRecDepth 100000 in
theorem B_X10_unroll {l : Launch} {e : hv_Ev}   {σ : hv_S} {Φ : hv_S → Prop} (h : hv_CI l (hv_e2 e) 1 m_X10_lostNow [.ref 60] σ (fun v2 s1 => L_X10_unroll_15 l e Φ (s1.1 60 0) 0 (hv_ui s1 60 41 v2))) : hv_CV l (hv_e2 e) 2 m_X10_unroll [.ref 60] σ Φ := by
  refine hv_entV (by decide) (Nat.le_of_ble_eq_true rfl) ?_
  show hv_TW l (hv_e2 e) (hv_rm 2) 0 0 m_X10_unroll hv_no (hv_ZV (hv_e2 e) Φ) 0 [(0, .ref 60)] [] σ
  refine T_aload_n dX10_unroll_0 rfl 0 rfl ?_
  refine T_aload_n dX10_unroll_1 rfl 0 rfl ?_
  refine T_VI (As := []) dX10_unroll_2 mv_X10_250 hp_60 hs_60 rfl (Nat.le_of_ble_eq_true rfl) (hv_ok1 rfl) rfl h (fun v2 s1 h3 => ?_)
  refine T_puti dX10_unroll_5 fl_X10_138 pf_X10_41 hp_60 hs_60 rfl ?_
  refine T_aload_n dX10_unroll_8 rfl 0 rfl ?_
  refine T_get (v := .int (s1.1 60 0)) dX10_unroll_9 fl_X10_7 hp_60 hs_60 rfl rfl ?_
  refine T_istore_n dX10_unroll_12 rfl (by decide) rfl ?_
  refine T_iconst (v := 0) dX10_unroll_13 (by decide) ?_
  refine T_istore_n dX10_unroll_14 rfl (by decide) rfl ?_
  exact T_sub [2, 1, 0] rfl h3
