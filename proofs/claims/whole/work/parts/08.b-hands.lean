-- printed by wip/gen/p10a.py: Rules, Hands
theorem dX9_isMatter_0 : decode cX9_isMatter 0 = .ok (.iload_n 0, 1) := by decide +kernel
theorem dX9_isMatter_1 : decode cX9_isMatter 1 = .ok (.ifCond .lt 12, 3) := by decide +kernel
theorem dX9_isMatter_4 : decode cX9_isMatter 4 = .ok (.iload_n 0, 1) := by decide +kernel
theorem dX9_isMatter_5 : decode cX9_isMatter 5 = .ok (.iconst 3, 1) := by decide +kernel
theorem dX9_isMatter_6 : decode cX9_isMatter 6 = .ok (.if_icmp .ge 7, 3) := by decide +kernel
theorem dX9_isMatter_9 : decode cX9_isMatter 9 = .ok (.iconst 1, 1) := by decide +kernel
theorem dX9_isMatter_10 : decode cX9_isMatter 10 = .ok (.goto 4, 3) := by decide +kernel
theorem dX9_isMatter_13 : decode cX9_isMatter 13 = .ok (.iconst 0, 1) := by decide +kernel
theorem dX9_isMatter_14 : decode cX9_isMatter 14 = .ok (.ireturn, 1) := by decide +kernel
theorem dX9_isPart_0 : decode cX9_isPart 0 = .ok (.iload_n 0, 1) := by decide +kernel
theorem dX9_isPart_1 : decode cX9_isPart 1 = .ok (.ifCond .eq 8, 3) := by decide +kernel
theorem dX9_isPart_4 : decode cX9_isPart 4 = .ok (.iload_n 0, 1) := by decide +kernel
theorem dX9_isPart_5 : decode cX9_isPart 5 = .ok (.iconst 1, 1) := by decide +kernel
theorem dX9_isPart_6 : decode cX9_isPart 6 = .ok (.if_icmp .ne 7, 3) := by decide +kernel
theorem dX9_isPart_9 : decode cX9_isPart 9 = .ok (.iconst 1, 1) := by decide +kernel
theorem dX9_isPart_10 : decode cX9_isPart 10 = .ok (.goto 4, 3) := by decide +kernel
theorem dX9_isPart_13 : decode cX9_isPart 13 = .ok (.iconst 0, 1) := by decide +kernel
theorem dX9_isPart_14 : decode cX9_isPart 14 = .ok (.ireturn, 1) := by decide +kernel
theorem dX9_cell_0 : decode cX9_cell 0 = .ok (.iload_n 1, 1) := by decide +kernel
theorem dX9_cell_1 : decode cX9_cell 1 = .ok (.bipush 8, 2) := by decide +kernel
theorem dX9_cell_3 : decode cX9_cell 3 = .ok (.imul, 1) := by decide +kernel
theorem dX9_cell_4 : decode cX9_cell 4 = .ok (.iload_n 0, 1) := by decide +kernel
theorem dX9_cell_5 : decode cX9_cell 5 = .ok (.iadd, 1) := by decide +kernel
theorem dX9_cell_6 : decode cX9_cell 6 = .ok (.ireturn, 1) := by decide +kernel
theorem dX4_clear_0 : decode cX4_clear 0 = .ok (.aload_n 0, 1) := by decide +kernel
theorem dX4_clear_1 : decode cX4_clear 1 = .ok (.iconst 0, 1) := by decide +kernel
theorem dX4_clear_2 : decode cX4_clear 2 = .ok (.putfield 18, 3) := by decide +kernel
theorem dX4_clear_5 : decode cX4_clear 5 = .ok (.aload_n 0, 1) := by decide +kernel
theorem dX4_clear_6 : decode cX4_clear 6 = .ok (.sipush 999, 3) := by decide +kernel
theorem dX4_clear_9 : decode cX4_clear 9 = .ok (.putfield 22, 3) := by decide +kernel
theorem dX4_clear_12 : decode cX4_clear 12 = .ok (.aload_n 0, 1) := by decide +kernel
theorem dX4_clear_13 : decode cX4_clear 13 = .ok (.iconst 1, 1) := by decide +kernel
theorem dX4_clear_14 : decode cX4_clear 14 = .ok (.putfield 25, 3) := by decide +kernel
theorem dX4_clear_17 : decode cX4_clear 17 = .ok (.aload_n 0, 1) := by decide +kernel
theorem dX4_clear_18 : decode cX4_clear 18 = .ok (.iconst 2, 1) := by decide +kernel
theorem dX4_clear_19 : decode cX4_clear 19 = .ok (.putfield 28, 3) := by decide +kernel
theorem dX4_clear_22 : decode cX4_clear 22 = .ok (.aload_n 0, 1) := by decide +kernel
theorem dX4_clear_23 : decode cX4_clear 23 = .ok (.iconst 0, 1) := by decide +kernel
theorem dX4_clear_24 : decode cX4_clear 24 = .ok (.putfield 31, 3) := by decide +kernel
theorem dX4_clear_27 : decode cX4_clear 27 = .ok (.return_, 1) := by decide +kernel
theorem dX4_add_0 : decode cX4_add 0 = .ok (.aload_n 0, 1) := by decide +kernel
theorem dX4_add_1 : decode cX4_add 1 = .ok (.getfield 18, 3) := by decide +kernel
theorem dX4_add_4 : decode cX4_add 4 = .ok (.aload_n 0, 1) := by decide +kernel
theorem dX4_add_5 : decode cX4_add 5 = .ok (.getfield 9, 3) := by decide +kernel
theorem dX4_add_8 : decode cX4_add 8 = .ok (.arraylength, 1) := by decide +kernel
theorem dX4_add_9 : decode cX4_add 9 = .ok (.if_icmp .ge 23, 3) := by decide +kernel
theorem dX4_add_12 : decode cX4_add 12 = .ok (.aload_n 0, 1) := by decide +kernel
theorem dX4_add_13 : decode cX4_add 13 = .ok (.getfield 9, 3) := by decide +kernel
theorem dX4_add_16 : decode cX4_add 16 = .ok (.aload_n 0, 1) := by decide +kernel
theorem dX4_add_17 : decode cX4_add 17 = .ok (.getfield 18, 3) := by decide +kernel
theorem dX4_add_20 : decode cX4_add 20 = .ok (.iload_n 1, 1) := by decide +kernel
theorem dX4_add_21 : decode cX4_add 21 = .ok (.iastore, 1) := by decide +kernel
theorem dX4_add_22 : decode cX4_add 22 = .ok (.aload_n 0, 1) := by decide +kernel
theorem dX4_add_23 : decode cX4_add 23 = .ok (.dup, 1) := by decide +kernel
theorem dX4_add_24 : decode cX4_add 24 = .ok (.getfield 18, 3) := by decide +kernel
theorem dX4_add_27 : decode cX4_add 27 = .ok (.iconst 1, 1) := by decide +kernel
theorem dX4_add_28 : decode cX4_add 28 = .ok (.iadd, 1) := by decide +kernel
theorem dX4_add_29 : decode cX4_add 29 = .ok (.putfield 18, 3) := by decide +kernel
theorem dX4_add_32 : decode cX4_add 32 = .ok (.return_, 1) := by decide +kernel
theorem dX4_test_0 : decode cX4_test 0 = .ok (.iload_n 0, 1) := by decide +kernel
theorem dX4_test_1 : decode cX4_test 1 = .ok (.iconst 3, 1) := by decide +kernel
theorem dX4_test_2 : decode cX4_test 2 = .ok (.imul, 1) := by decide +kernel
theorem dX4_test_3 : decode cX4_test 3 = .ok (.iload_n 1, 1) := by decide +kernel
theorem dX4_test_4 : decode cX4_test 4 = .ok (.iadd, 1) := by decide +kernel
theorem dX4_test_5 : decode cX4_test 5 = .ok (.sipush 1000, 3) := by decide +kernel
theorem dX4_test_8 : decode cX4_test 8 = .ok (.imul, 1) := by decide +kernel
theorem dX4_test_9 : decode cX4_test 9 = .ok (.iload_n 2, 1) := by decide +kernel
theorem dX4_test_10 : decode cX4_test 10 = .ok (.iadd, 1) := by decide +kernel
theorem dX4_test_11 : decode cX4_test 11 = .ok (.ireturn, 1) := by decide +kernel
theorem dX4_isTrue_0 : decode cX4_isTrue 0 = .ok (.iload_n 0, 1) := by decide +kernel
theorem dX4_isTrue_1 : decode cX4_isTrue 1 = .ok (.sipush 1000, 3) := by decide +kernel
theorem dX4_isTrue_4 : decode cX4_isTrue 4 = .ok (.irem, 1) := by decide +kernel
theorem dX4_isTrue_5 : decode cX4_isTrue 5 = .ok (.istore_n 2, 1) := by decide +kernel
theorem dX4_isTrue_6 : decode cX4_isTrue 6 = .ok (.iload_n 0, 1) := by decide +kernel
theorem dX4_isTrue_7 : decode cX4_isTrue 7 = .ok (.sipush 1000, 3) := by decide +kernel
theorem dX4_isTrue_10 : decode cX4_isTrue 10 = .ok (.idiv, 1) := by decide +kernel
theorem dX4_isTrue_11 : decode cX4_isTrue 11 = .ok (.iconst 3, 1) := by decide +kernel
theorem dX4_isTrue_12 : decode cX4_isTrue 12 = .ok (.irem, 1) := by decide +kernel
theorem dX4_isTrue_13 : decode cX4_isTrue 13 = .ok (.istore_n 3, 1) := by decide +kernel
theorem dX4_isTrue_14 : decode cX4_isTrue 14 = .ok (.iload_n 0, 1) := by decide +kernel
theorem dX4_isTrue_15 : decode cX4_isTrue 15 = .ok (.sipush 1000, 3) := by decide +kernel
theorem dX4_isTrue_18 : decode cX4_isTrue 18 = .ok (.idiv, 1) := by decide +kernel
theorem dX4_isTrue_19 : decode cX4_isTrue 19 = .ok (.iconst 3, 1) := by decide +kernel
theorem dX4_isTrue_20 : decode cX4_isTrue 20 = .ok (.idiv, 1) := by decide +kernel
theorem dX4_isTrue_21 : decode cX4_isTrue 21 = .ok (.istore 4, 2) := by decide +kernel
theorem dX4_isTrue_23 : decode cX4_isTrue 23 = .ok (.iload 4, 2) := by decide +kernel
theorem dX4_isTrue_25 : decode cX4_isTrue 25 = .ok (.aload_n 1, 1) := by decide +kernel
theorem dX4_isTrue_26 : decode cX4_isTrue 26 = .ok (.arraylength, 1) := by decide +kernel
theorem dX4_isTrue_27 : decode cX4_isTrue 27 = .ok (.if_icmp .lt 5, 3) := by decide +kernel
theorem dX4_isTrue_30 : decode cX4_isTrue 30 = .ok (.iconst 0, 1) := by decide +kernel
theorem dX4_isTrue_31 : decode cX4_isTrue 31 = .ok (.ireturn, 1) := by decide +kernel
theorem dX4_isTrue_32 : decode cX4_isTrue 32 = .ok (.iload_n 3, 1) := by decide +kernel
theorem dX4_isTrue_33 : decode cX4_isTrue 33 = .ok (.lookupswitch 55 #[(0, 27), (1, 41)], 27) := by decide +kernel
theorem dX4_isTrue_60 : decode cX4_isTrue 60 = .ok (.aload_n 1, 1) := by decide +kernel
theorem dX4_isTrue_61 : decode cX4_isTrue 61 = .ok (.iload 4, 2) := by decide +kernel
theorem dX4_isTrue_63 : decode cX4_isTrue 63 = .ok (.iaload, 1) := by decide +kernel
theorem dX4_isTrue_64 : decode cX4_isTrue 64 = .ok (.iload_n 2, 1) := by decide +kernel
theorem dX4_isTrue_65 : decode cX4_isTrue 65 = .ok (.if_icmp .ge 7, 3) := by decide +kernel
theorem dX4_isTrue_68 : decode cX4_isTrue 68 = .ok (.iconst 1, 1) := by decide +kernel
theorem dX4_isTrue_69 : decode cX4_isTrue 69 = .ok (.goto 4, 3) := by decide +kernel
theorem dX4_isTrue_72 : decode cX4_isTrue 72 = .ok (.iconst 0, 1) := by decide +kernel
theorem dX4_isTrue_73 : decode cX4_isTrue 73 = .ok (.ireturn, 1) := by decide +kernel
theorem dX4_isTrue_74 : decode cX4_isTrue 74 = .ok (.aload_n 1, 1) := by decide +kernel
theorem dX4_isTrue_75 : decode cX4_isTrue 75 = .ok (.iload 4, 2) := by decide +kernel
theorem dX4_isTrue_77 : decode cX4_isTrue 77 = .ok (.iaload, 1) := by decide +kernel
theorem dX4_isTrue_78 : decode cX4_isTrue 78 = .ok (.iload_n 2, 1) := by decide +kernel
theorem dX4_isTrue_79 : decode cX4_isTrue 79 = .ok (.if_icmp .ne 7, 3) := by decide +kernel
theorem dX4_isTrue_82 : decode cX4_isTrue 82 = .ok (.iconst 1, 1) := by decide +kernel
theorem dX4_isTrue_83 : decode cX4_isTrue 83 = .ok (.goto 4, 3) := by decide +kernel
theorem dX4_isTrue_86 : decode cX4_isTrue 86 = .ok (.iconst 0, 1) := by decide +kernel
theorem dX4_isTrue_87 : decode cX4_isTrue 87 = .ok (.ireturn, 1) := by decide +kernel
theorem dX4_isTrue_88 : decode cX4_isTrue 88 = .ok (.aload_n 1, 1) := by decide +kernel
theorem dX4_isTrue_89 : decode cX4_isTrue 89 = .ok (.iload 4, 2) := by decide +kernel
theorem dX4_isTrue_91 : decode cX4_isTrue 91 = .ok (.iaload, 1) := by decide +kernel
theorem dX4_isTrue_92 : decode cX4_isTrue 92 = .ok (.iload_n 2, 1) := by decide +kernel
theorem dX4_isTrue_93 : decode cX4_isTrue 93 = .ok (.if_icmp .le 7, 3) := by decide +kernel
theorem dX4_isTrue_96 : decode cX4_isTrue 96 = .ok (.iconst 1, 1) := by decide +kernel
theorem dX4_isTrue_97 : decode cX4_isTrue 97 = .ok (.goto 4, 3) := by decide +kernel
theorem dX4_isTrue_100 : decode cX4_isTrue 100 = .ok (.iconst 0, 1) := by decide +kernel
theorem dX4_isTrue_101 : decode cX4_isTrue 101 = .ok (.ireturn, 1) := by decide +kernel
theorem dX4_forbid_0 : decode cX4_forbid 0 = .ok (.iconst 0, 1) := by decide +kernel
theorem dX4_forbid_1 : decode cX4_forbid 1 = .ok (.istore_n 2, 1) := by decide +kernel
theorem dX4_forbid_2 : decode cX4_forbid 2 = .ok (.iconst 0, 1) := by decide +kernel
theorem dX4_forbid_3 : decode cX4_forbid 3 = .ok (.istore_n 3, 1) := by decide +kernel
theorem dX4_forbid_4 : decode cX4_forbid 4 = .ok (.iload_n 3, 1) := by decide +kernel
theorem dX4_forbid_5 : decode cX4_forbid 5 = .ok (.aload_n 0, 1) := by decide +kernel
theorem dX4_forbid_6 : decode cX4_forbid 6 = .ok (.getfield 18, 3) := by decide +kernel
theorem dX4_forbid_9 : decode cX4_forbid 9 = .ok (.if_icmp .ge 88, 3) := by decide +kernel
theorem dX4_forbid_12 : decode cX4_forbid 12 = .ok (.aload_n 0, 1) := by decide +kernel
theorem dX4_forbid_13 : decode cX4_forbid 13 = .ok (.getfield 9, 3) := by decide +kernel
theorem dX4_forbid_16 : decode cX4_forbid 16 = .ok (.iload_n 3, 1) := by decide +kernel
theorem dX4_forbid_17 : decode cX4_forbid 17 = .ok (.iaload, 1) := by decide +kernel
theorem dX4_forbid_18 : decode cX4_forbid 18 = .ok (.istore 4, 2) := by decide +kernel
theorem dX4_forbid_20 : decode cX4_forbid 20 = .ok (.iload 4, 2) := by decide +kernel
theorem dX4_forbid_22 : decode cX4_forbid 22 = .ok (.ifCond .lt 25, 3) := by decide +kernel
theorem dX4_forbid_25 : decode cX4_forbid 25 = .ok (.iload_n 2, 1) := by decide +kernel
theorem dX4_forbid_26 : decode cX4_forbid 26 = .ok (.iconst 1, 1) := by decide +kernel
theorem dX4_forbid_27 : decode cX4_forbid 27 = .ok (.ishl, 1) := by decide +kernel
theorem dX4_forbid_28 : decode cX4_forbid 28 = .ok (.iload 4, 2) := by decide +kernel
theorem dX4_forbid_30 : decode cX4_forbid 30 = .ok (.aload_n 1, 1) := by decide +kernel
theorem dX4_forbid_31 : decode cX4_forbid 31 = .ok (.invokestatic 35, 3) := by decide +kernel
theorem dX4_forbid_34 : decode cX4_forbid 34 = .ok (.ifCond .eq 7, 3) := by decide +kernel
theorem dX4_forbid_37 : decode cX4_forbid 37 = .ok (.iconst 1, 1) := by decide +kernel
theorem dX4_forbid_38 : decode cX4_forbid 38 = .ok (.goto 4, 3) := by decide +kernel
theorem dX4_forbid_41 : decode cX4_forbid 41 = .ok (.iconst 0, 1) := by decide +kernel
theorem dX4_forbid_42 : decode cX4_forbid 42 = .ok (.ior, 1) := by decide +kernel
theorem dX4_forbid_43 : decode cX4_forbid 43 = .ok (.istore_n 2, 1) := by decide +kernel
theorem dX4_forbid_44 : decode cX4_forbid 44 = .ok (.goto 47, 3) := by decide +kernel
theorem dX4_forbid_47 : decode cX4_forbid 47 = .ok (.iload 4, 2) := by decide +kernel
theorem dX4_forbid_49 : decode cX4_forbid 49 = .ok (.iconst (-1), 1) := by decide +kernel
theorem dX4_forbid_50 : decode cX4_forbid 50 = .ok (.if_icmp .ne 10, 3) := by decide +kernel
theorem dX4_forbid_53 : decode cX4_forbid 53 = .ok (.iload_n 2, 1) := by decide +kernel
theorem dX4_forbid_54 : decode cX4_forbid 54 = .ok (.iconst 1, 1) := by decide +kernel
theorem dX4_forbid_55 : decode cX4_forbid 55 = .ok (.ixor, 1) := by decide +kernel
theorem dX4_forbid_56 : decode cX4_forbid 56 = .ok (.istore_n 2, 1) := by decide +kernel
theorem dX4_forbid_57 : decode cX4_forbid 57 = .ok (.goto 34, 3) := by decide +kernel
theorem dX4_forbid_60 : decode cX4_forbid 60 = .ok (.iload_n 2, 1) := by decide +kernel
theorem dX4_forbid_61 : decode cX4_forbid 61 = .ok (.iconst 1, 1) := by decide +kernel
theorem dX4_forbid_62 : decode cX4_forbid 62 = .ok (.iand, 1) := by decide +kernel
theorem dX4_forbid_63 : decode cX4_forbid 63 = .ok (.istore 5, 2) := by decide +kernel
theorem dX4_forbid_65 : decode cX4_forbid 65 = .ok (.iload_n 2, 1) := by decide +kernel
theorem dX4_forbid_66 : decode cX4_forbid 66 = .ok (.iconst 1, 1) := by decide +kernel
theorem dX4_forbid_67 : decode cX4_forbid 67 = .ok (.iushr, 1) := by decide +kernel
theorem dX4_forbid_68 : decode cX4_forbid 68 = .ok (.istore_n 2, 1) := by decide +kernel
theorem dX4_forbid_69 : decode cX4_forbid 69 = .ok (.iload 4, 2) := by decide +kernel
theorem dX4_forbid_71 : decode cX4_forbid 71 = .ok (.bipush (-3), 2) := by decide +kernel
theorem dX4_forbid_73 : decode cX4_forbid 73 = .ok (.if_icmp .ne 10, 3) := by decide +kernel
theorem dX4_forbid_76 : decode cX4_forbid 76 = .ok (.iload_n 2, 1) := by decide +kernel
theorem dX4_forbid_77 : decode cX4_forbid 77 = .ok (.iload 5, 2) := by decide +kernel
theorem dX4_forbid_79 : decode cX4_forbid 79 = .ok (.ior, 1) := by decide +kernel
theorem dX4_forbid_80 : decode cX4_forbid 80 = .ok (.goto 10, 3) := by decide +kernel
theorem dX4_forbid_83 : decode cX4_forbid 83 = .ok (.iload_n 2, 1) := by decide +kernel
theorem dX4_forbid_84 : decode cX4_forbid 84 = .ok (.iload 5, 2) := by decide +kernel
theorem dX4_forbid_86 : decode cX4_forbid 86 = .ok (.bipush (-2), 2) := by decide +kernel
theorem dX4_forbid_88 : decode cX4_forbid 88 = .ok (.ior, 1) := by decide +kernel
theorem dX4_forbid_89 : decode cX4_forbid 89 = .ok (.iand, 1) := by decide +kernel
theorem dX4_forbid_90 : decode cX4_forbid 90 = .ok (.istore_n 2, 1) := by decide +kernel
theorem dX4_forbid_91 : decode cX4_forbid 91 = .ok (.iinc 3 1, 3) := by decide +kernel
theorem dX4_forbid_94 : decode cX4_forbid 94 = .ok (.goto (-90), 3) := by decide +kernel
theorem dX4_forbid_97 : decode cX4_forbid 97 = .ok (.iload_n 2, 1) := by decide +kernel
theorem dX4_forbid_98 : decode cX4_forbid 98 = .ok (.ifCond .eq 7, 3) := by decide +kernel
theorem dX4_forbid_101 : decode cX4_forbid 101 = .ok (.iconst 1, 1) := by decide +kernel
theorem dX4_forbid_102 : decode cX4_forbid 102 = .ok (.goto 4, 3) := by decide +kernel
theorem dX4_forbid_105 : decode cX4_forbid 105 = .ok (.iconst 0, 1) := by decide +kernel
theorem dX4_forbid_106 : decode cX4_forbid 106 = .ok (.ireturn, 1) := by decide +kernel
theorem dX2_sits_0 : decode cX2_sits 0 = .ok (.iload_n 1, 1) := by decide +kernel
theorem dX2_sits_1 : decode cX2_sits 1 = .ok (.ifCond .lt 15, 3) := by decide +kernel
theorem dX2_sits_4 : decode cX2_sits 4 = .ok (.iload_n 1, 1) := by decide +kernel
theorem dX2_sits_5 : decode cX2_sits 5 = .ok (.aload_n 0, 1) := by decide +kernel
theorem dX2_sits_6 : decode cX2_sits 6 = .ok (.getfield 39, 3) := by decide +kernel
theorem dX2_sits_9 : decode cX2_sits 9 = .ok (.if_icmp .ge 7, 3) := by decide +kernel
theorem dX2_sits_12 : decode cX2_sits 12 = .ok (.iconst 1, 1) := by decide +kernel
theorem dX2_sits_13 : decode cX2_sits 13 = .ok (.goto 4, 3) := by decide +kernel
theorem dX2_sits_16 : decode cX2_sits 16 = .ok (.iconst 0, 1) := by decide +kernel
theorem dX2_sits_17 : decode cX2_sits 17 = .ok (.ireturn, 1) := by decide +kernel
theorem dX2_opinion_0 : decode cX2_opinion 0 = .ok (.aload_n 0, 1) := by decide +kernel
theorem dX2_opinion_1 : decode cX2_opinion 1 = .ok (.getfield 9, 3) := by decide +kernel
theorem dX2_opinion_4 : decode cX2_opinion 4 = .ok (.iload_n 2, 1) := by decide +kernel
theorem dX2_opinion_5 : decode cX2_opinion 5 = .ok (.iaload, 1) := by decide +kernel
theorem dX2_opinion_6 : decode cX2_opinion 6 = .ok (.iload_n 1, 1) := by decide +kernel
theorem dX2_opinion_7 : decode cX2_opinion 7 = .ok (.ishr, 1) := by decide +kernel
theorem dX2_opinion_8 : decode cX2_opinion 8 = .ok (.iconst 1, 1) := by decide +kernel
theorem dX2_opinion_9 : decode cX2_opinion 9 = .ok (.iand, 1) := by decide +kernel
theorem dX2_opinion_10 : decode cX2_opinion 10 = .ok (.ireturn, 1) := by decide +kernel
theorem dX2_form_0 : decode cX2_form 0 = .ok (.iconst 1, 1) := by decide +kernel
theorem dX2_form_1 : decode cX2_form 1 = .ok (.iload_n 1, 1) := by decide +kernel
theorem dX2_form_2 : decode cX2_form 2 = .ok (.ishl, 1) := by decide +kernel
theorem dX2_form_3 : decode cX2_form 3 = .ok (.istore 5, 2) := by decide +kernel
theorem dX2_form_5 : decode cX2_form 5 = .ok (.aload_n 0, 1) := by decide +kernel
theorem dX2_form_6 : decode cX2_form 6 = .ok (.getfield 9, 3) := by decide +kernel
theorem dX2_form_9 : decode cX2_form 9 = .ok (.iload_n 2, 1) := by decide +kernel
theorem dX2_form_10 : decode cX2_form 10 = .ok (.iload_n 3, 1) := by decide +kernel
theorem dX2_form_11 : decode cX2_form 11 = .ok (.ifCond .eq 15, 3) := by decide +kernel
theorem dX2_form_14 : decode cX2_form 14 = .ok (.aload_n 0, 1) := by decide +kernel
theorem dX2_form_15 : decode cX2_form 15 = .ok (.getfield 9, 3) := by decide +kernel
theorem dX2_form_18 : decode cX2_form 18 = .ok (.iload_n 2, 1) := by decide +kernel
theorem dX2_form_19 : decode cX2_form 19 = .ok (.iaload, 1) := by decide +kernel
theorem dX2_form_20 : decode cX2_form 20 = .ok (.iload 5, 2) := by decide +kernel
theorem dX2_form_22 : decode cX2_form 22 = .ok (.ior, 1) := by decide +kernel
theorem dX2_form_23 : decode cX2_form 23 = .ok (.goto 14, 3) := by decide +kernel
theorem dX2_form_26 : decode cX2_form 26 = .ok (.aload_n 0, 1) := by decide +kernel
theorem dX2_form_27 : decode cX2_form 27 = .ok (.getfield 9, 3) := by decide +kernel
theorem dX2_form_30 : decode cX2_form 30 = .ok (.iload_n 2, 1) := by decide +kernel
theorem dX2_form_31 : decode cX2_form 31 = .ok (.iaload, 1) := by decide +kernel
theorem dX2_form_32 : decode cX2_form 32 = .ok (.iload 5, 2) := by decide +kernel
theorem dX2_form_34 : decode cX2_form 34 = .ok (.iconst (-1), 1) := by decide +kernel
theorem dX2_form_35 : decode cX2_form 35 = .ok (.ixor, 1) := by decide +kernel
theorem dX2_form_36 : decode cX2_form 36 = .ok (.iand, 1) := by decide +kernel
theorem dX2_form_37 : decode cX2_form 37 = .ok (.iastore, 1) := by decide +kernel
theorem dX2_form_38 : decode cX2_form 38 = .ok (.aload_n 0, 1) := by decide +kernel
theorem dX2_form_39 : decode cX2_form 39 = .ok (.getfield 15, 3) := by decide +kernel
theorem dX2_form_42 : decode cX2_form 42 = .ok (.iload_n 1, 1) := by decide +kernel
theorem dX2_form_43 : decode cX2_form 43 = .ok (.iload_n 2, 1) := by decide +kernel
theorem dX2_form_44 : decode cX2_form 44 = .ok (.invokestatic 43, 3) := by decide +kernel
theorem dX2_form_47 : decode cX2_form 47 = .ok (.iload 4, 2) := by decide +kernel
theorem dX2_form_49 : decode cX2_form 49 = .ok (.iastore, 1) := by decide +kernel
theorem dX2_form_50 : decode cX2_form 50 = .ok (.return_, 1) := by decide +kernel
theorem dX2_renew_0 : decode cX2_renew 0 = .ok (.aload_n 0, 1) := by decide +kernel
theorem dX2_renew_1 : decode cX2_renew 1 = .ok (.getfield 18, 3) := by decide +kernel
theorem dX2_renew_4 : decode cX2_renew 4 = .ok (.iload_n 1, 1) := by decide +kernel
theorem dX2_renew_5 : decode cX2_renew 5 = .ok (.iaload, 1) := by decide +kernel
theorem dX2_renew_6 : decode cX2_renew 6 = .ok (.istore 6, 2) := by decide +kernel
theorem dX2_renew_8 : decode cX2_renew 8 = .ok (.aload_n 0, 1) := by decide +kernel
theorem dX2_renew_9 : decode cX2_renew 9 = .ok (.getfield 18, 3) := by decide +kernel
theorem dX2_renew_12 : decode cX2_renew 12 = .ok (.iload_n 1, 1) := by decide +kernel
theorem dX2_renew_13 : decode cX2_renew 13 = .ok (.iload_n 2, 1) := by decide +kernel
theorem dX2_renew_14 : decode cX2_renew 14 = .ok (.iastore, 1) := by decide +kernel
theorem dX2_renew_15 : decode cX2_renew 15 = .ok (.aload_n 0, 1) := by decide +kernel
theorem dX2_renew_16 : decode cX2_renew 16 = .ok (.getfield 21, 3) := by decide +kernel
theorem dX2_renew_19 : decode cX2_renew 19 = .ok (.iload_n 1, 1) := by decide +kernel
theorem dX2_renew_20 : decode cX2_renew 20 = .ok (.bipush 100, 2) := by decide +kernel
theorem dX2_renew_22 : decode cX2_renew 22 = .ok (.iastore, 1) := by decide +kernel
theorem dX2_renew_23 : decode cX2_renew 23 = .ok (.aload_n 0, 1) := by decide +kernel
theorem dX2_renew_24 : decode cX2_renew 24 = .ok (.getfield 24, 3) := by decide +kernel
theorem dX2_renew_27 : decode cX2_renew 27 = .ok (.iload_n 1, 1) := by decide +kernel
theorem dX2_renew_28 : decode cX2_renew 28 = .ok (.iload_n 3, 1) := by decide +kernel
theorem dX2_renew_29 : decode cX2_renew 29 = .ok (.iastore, 1) := by decide +kernel
theorem dX2_renew_30 : decode cX2_renew 30 = .ok (.aload_n 0, 1) := by decide +kernel
theorem dX2_renew_31 : decode cX2_renew 31 = .ok (.getfield 27, 3) := by decide +kernel
theorem dX2_renew_34 : decode cX2_renew 34 = .ok (.iload_n 1, 1) := by decide +kernel
theorem dX2_renew_35 : decode cX2_renew 35 = .ok (.iload 4, 2) := by decide +kernel
theorem dX2_renew_37 : decode cX2_renew 37 = .ok (.iastore, 1) := by decide +kernel
theorem dX2_renew_38 : decode cX2_renew 38 = .ok (.aload_n 0, 1) := by decide +kernel
theorem dX2_renew_39 : decode cX2_renew 39 = .ok (.getfield 30, 3) := by decide +kernel
theorem dX2_renew_42 : decode cX2_renew 42 = .ok (.iload_n 1, 1) := by decide +kernel
theorem dX2_renew_43 : decode cX2_renew 43 = .ok (.iload 5, 2) := by decide +kernel
theorem dX2_renew_45 : decode cX2_renew 45 = .ok (.iastore, 1) := by decide +kernel
theorem dX2_renew_46 : decode cX2_renew 46 = .ok (.iload 6, 2) := by decide +kernel
theorem dX2_renew_48 : decode cX2_renew 48 = .ok (.ireturn, 1) := by decide +kernel
theorem dX2_isSelf_0 : decode cX2_isSelf 0 = .ok (.aload_n 0, 1) := by decide +kernel
theorem dX2_isSelf_1 : decode cX2_isSelf 1 = .ok (.getfield 18, 3) := by decide +kernel
theorem dX2_isSelf_4 : decode cX2_isSelf 4 = .ok (.iload_n 1, 1) := by decide +kernel
theorem dX2_isSelf_5 : decode cX2_isSelf 5 = .ok (.iaload, 1) := by decide +kernel
theorem dX2_isSelf_6 : decode cX2_isSelf 6 = .ok (.iconst 1, 1) := by decide +kernel
theorem dX2_isSelf_7 : decode cX2_isSelf 7 = .ok (.if_icmp .le 13, 3) := by decide +kernel
theorem dX2_isSelf_10 : decode cX2_isSelf 10 = .ok (.iload_n 2, 1) := by decide +kernel
theorem dX2_isSelf_11 : decode cX2_isSelf 11 = .ok (.aload_n 0, 1) := by decide +kernel
theorem dX2_isSelf_12 : decode cX2_isSelf 12 = .ok (.getfield 21, 3) := by decide +kernel
theorem dX2_isSelf_15 : decode cX2_isSelf 15 = .ok (.iload_n 1, 1) := by decide +kernel
theorem dX2_isSelf_16 : decode cX2_isSelf 16 = .ok (.iaload, 1) := by decide +kernel
theorem dX2_isSelf_17 : decode cX2_isSelf 17 = .ok (.if_icmp .lt 7, 3) := by decide +kernel
theorem dX2_isSelf_20 : decode cX2_isSelf 20 = .ok (.iconst 1, 1) := by decide +kernel
theorem dX2_isSelf_21 : decode cX2_isSelf 21 = .ok (.goto 4, 3) := by decide +kernel
theorem dX2_isSelf_24 : decode cX2_isSelf 24 = .ok (.iconst 0, 1) := by decide +kernel
theorem dX2_isSelf_25 : decode cX2_isSelf 25 = .ok (.ireturn, 1) := by decide +kernel
theorem dX2_surestOf_0 : decode cX2_surestOf 0 = .ok (.bipush (-5), 2) := by decide +kernel
theorem dX2_surestOf_2 : decode cX2_surestOf 2 = .ok (.istore_n 3, 1) := by decide +kernel
theorem dX2_surestOf_3 : decode cX2_surestOf 3 = .ok (.iconst (-1), 1) := by decide +kernel
theorem dX2_surestOf_4 : decode cX2_surestOf 4 = .ok (.istore 4, 2) := by decide +kernel
theorem dX2_surestOf_6 : decode cX2_surestOf 6 = .ok (.iconst 0, 1) := by decide +kernel
theorem dX2_surestOf_7 : decode cX2_surestOf 7 = .ok (.istore 5, 2) := by decide +kernel
theorem dX2_surestOf_9 : decode cX2_surestOf 9 = .ok (.iload 5, 2) := by decide +kernel
theorem dX2_surestOf_11 : decode cX2_surestOf 11 = .ok (.aload_n 0, 1) := by decide +kernel
theorem dX2_surestOf_12 : decode cX2_surestOf 12 = .ok (.getfield 39, 3) := by decide +kernel
theorem dX2_surestOf_15 : decode cX2_surestOf 15 = .ok (.if_icmp .ge 45, 3) := by decide +kernel
theorem dX2_surestOf_18 : decode cX2_surestOf 18 = .ok (.aload_n 0, 1) := by decide +kernel
theorem dX2_surestOf_19 : decode cX2_surestOf 19 = .ok (.getfield 15, 3) := by decide +kernel
theorem dX2_surestOf_22 : decode cX2_surestOf 22 = .ok (.iload 5, 2) := by decide +kernel
theorem dX2_surestOf_24 : decode cX2_surestOf 24 = .ok (.iload_n 1, 1) := by decide +kernel
theorem dX2_surestOf_25 : decode cX2_surestOf 25 = .ok (.invokestatic 43, 3) := by decide +kernel
theorem dX2_surestOf_28 : decode cX2_surestOf 28 = .ok (.iaload, 1) := by decide +kernel
theorem dX2_surestOf_29 : decode cX2_surestOf 29 = .ok (.istore 6, 2) := by decide +kernel
theorem dX2_surestOf_31 : decode cX2_surestOf 31 = .ok (.iload_n 2, 1) := by decide +kernel
theorem dX2_surestOf_32 : decode cX2_surestOf 32 = .ok (.iload 5, 2) := by decide +kernel
theorem dX2_surestOf_34 : decode cX2_surestOf 34 = .ok (.ishr, 1) := by decide +kernel
theorem dX2_surestOf_35 : decode cX2_surestOf 35 = .ok (.iconst 1, 1) := by decide +kernel
theorem dX2_surestOf_36 : decode cX2_surestOf 36 = .ok (.iand, 1) := by decide +kernel
theorem dX2_surestOf_37 : decode cX2_surestOf 37 = .ok (.ifCond .eq 17, 3) := by decide +kernel
theorem dX2_surestOf_40 : decode cX2_surestOf 40 = .ok (.iload 6, 2) := by decide +kernel
theorem dX2_surestOf_42 : decode cX2_surestOf 42 = .ok (.iload 4, 2) := by decide +kernel
theorem dX2_surestOf_44 : decode cX2_surestOf 44 = .ok (.if_icmp .le 10, 3) := by decide +kernel
theorem dX2_surestOf_47 : decode cX2_surestOf 47 = .ok (.iload 5, 2) := by decide +kernel
theorem dX2_surestOf_49 : decode cX2_surestOf 49 = .ok (.istore_n 3, 1) := by decide +kernel
theorem dX2_surestOf_50 : decode cX2_surestOf 50 = .ok (.iload 6, 2) := by decide +kernel
theorem dX2_surestOf_52 : decode cX2_surestOf 52 = .ok (.istore 4, 2) := by decide +kernel
theorem dX2_surestOf_54 : decode cX2_surestOf 54 = .ok (.iinc 5 1, 3) := by decide +kernel
theorem dX2_surestOf_57 : decode cX2_surestOf 57 = .ok (.goto (-48), 3) := by decide +kernel
theorem dX2_surestOf_60 : decode cX2_surestOf 60 = .ok (.iload_n 3, 1) := by decide +kernel
theorem dX2_surestOf_61 : decode cX2_surestOf 61 = .ok (.ireturn, 1) := by decide +kernel
theorem dX2_takenBackAt_0 : decode cX2_takenBackAt 0 = .ok (.iconst 0, 1) := by decide +kernel
theorem dX2_takenBackAt_1 : decode cX2_takenBackAt 1 = .ok (.istore_n 3, 1) := by decide +kernel
theorem dX2_takenBackAt_2 : decode cX2_takenBackAt 2 = .ok (.iconst 0, 1) := by decide +kernel
theorem dX2_takenBackAt_3 : decode cX2_takenBackAt 3 = .ok (.istore 4, 2) := by decide +kernel
theorem dX2_takenBackAt_5 : decode cX2_takenBackAt 5 = .ok (.iload 4, 2) := by decide +kernel
theorem dX2_takenBackAt_7 : decode cX2_takenBackAt 7 = .ok (.aload_n 0, 1) := by decide +kernel
theorem dX2_takenBackAt_8 : decode cX2_takenBackAt 8 = .ok (.getfield 39, 3) := by decide +kernel
theorem dX2_takenBackAt_11 : decode cX2_takenBackAt 11 = .ok (.if_icmp .ge 31, 3) := by decide +kernel
theorem dX2_takenBackAt_14 : decode cX2_takenBackAt 14 = .ok (.iload_n 2, 1) := by decide +kernel
theorem dX2_takenBackAt_15 : decode cX2_takenBackAt 15 = .ok (.aload_n 0, 1) := by decide +kernel
theorem dX2_takenBackAt_16 : decode cX2_takenBackAt 16 = .ok (.getfield 21, 3) := by decide +kernel
theorem dX2_takenBackAt_19 : decode cX2_takenBackAt 19 = .ok (.iload 4, 2) := by decide +kernel
theorem dX2_takenBackAt_21 : decode cX2_takenBackAt 21 = .ok (.iload_n 1, 1) := by decide +kernel
theorem dX2_takenBackAt_22 : decode cX2_takenBackAt 22 = .ok (.invokestatic 43, 3) := by decide +kernel
theorem dX2_takenBackAt_25 : decode cX2_takenBackAt 25 = .ok (.iaload, 1) := by decide +kernel
theorem dX2_takenBackAt_26 : decode cX2_takenBackAt 26 = .ok (.if_icmp .lt 10, 3) := by decide +kernel
theorem dX2_takenBackAt_29 : decode cX2_takenBackAt 29 = .ok (.iload_n 3, 1) := by decide +kernel
theorem dX2_takenBackAt_30 : decode cX2_takenBackAt 30 = .ok (.iconst 1, 1) := by decide +kernel
theorem dX2_takenBackAt_31 : decode cX2_takenBackAt 31 = .ok (.iload 4, 2) := by decide +kernel
theorem dX2_takenBackAt_33 : decode cX2_takenBackAt 33 = .ok (.ishl, 1) := by decide +kernel
theorem dX2_takenBackAt_34 : decode cX2_takenBackAt 34 = .ok (.ior, 1) := by decide +kernel
theorem dX2_takenBackAt_35 : decode cX2_takenBackAt 35 = .ok (.istore_n 3, 1) := by decide +kernel
theorem dX2_takenBackAt_36 : decode cX2_takenBackAt 36 = .ok (.iinc 4 1, 3) := by decide +kernel
theorem dX2_takenBackAt_39 : decode cX2_takenBackAt 39 = .ok (.goto (-34), 3) := by decide +kernel
theorem dX2_takenBackAt_42 : decode cX2_takenBackAt 42 = .ok (.iload_n 3, 1) := by decide +kernel
theorem dX2_takenBackAt_43 : decode cX2_takenBackAt 43 = .ok (.ireturn, 1) := by decide +kernel
set_option maxHeartbeats 4000000 in
set_option maxRecDepth 100000 in
theorem B_X9_isMatter {l : Launch} {e : hv_Ev}  (x1 : Int32) {σ : hv_S} {Φ : Int32 → hv_S → Prop} (h : ((x1 < 0 → Φ 0 σ) ∧ (¬ x1 < 0 → ((3 ≤ x1 → Φ 0 σ) ∧ (¬ 3 ≤ x1 → Φ 1 σ))))) : hv_CI l (hv_e1 e) 0 m_X9_isMatter [.int x1] σ Φ := by
  refine hv_entI (by decide) (Nat.le_of_ble_eq_true rfl) ?_
  show hv_TW l (hv_e1 e) (hv_rm 0) 0 0 m_X9_isMatter hv_no (hv_ZI (hv_e1 e) Φ) 0 [(0, .int x1)] [] σ
  refine T_iload_n dX9_isMatter_0 rfl 0 rfl ?_
  refine T_if_lt (tgt := 13) dX9_isMatter_1 (by decide) (fun c1 => ?_) (fun c1 => ?_)
  · refine T_iconst (v := 0) dX9_isMatter_13 (by decide) ?_
    exact T_zret dX9_isMatter_14 rfl (by decide) (h.1 c1)
  · refine T_iload_n dX9_isMatter_4 rfl 0 rfl ?_
    refine T_iconst (v := 3) dX9_isMatter_5 (by decide) ?_
    refine T_icmp_ge (tgt := 13) dX9_isMatter_6 (by decide) (fun c2 => ?_) (fun c2 => ?_)
    · refine T_iconst (v := 0) dX9_isMatter_13 (by decide) ?_
      exact T_zret dX9_isMatter_14 rfl (by decide) ((h.2 c1).1 c2)
    · refine T_iconst (v := 1) dX9_isMatter_9 (by decide) ?_
      refine T_goto (tgt := 14) dX9_isMatter_10 (by decide) ?_
      exact T_zret dX9_isMatter_14 rfl (by decide) ((h.2 c1).2 c2)

set_option maxHeartbeats 4000000 in
set_option maxRecDepth 100000 in
theorem B_X9_isPart {l : Launch} {e : hv_Ev}  (x1 : Int32) {σ : hv_S} {Φ : Int32 → hv_S → Prop} (h : ((x1 = 0 → Φ 1 σ) ∧ (¬ x1 = 0 → ((x1 ≠ 1 → Φ 0 σ) ∧ (x1 = 1 → Φ 1 σ))))) : hv_CI l (hv_e1 e) 0 m_X9_isPart [.int x1] σ Φ := by
  refine hv_entI (by decide) (Nat.le_of_ble_eq_true rfl) ?_
  show hv_TW l (hv_e1 e) (hv_rm 0) 0 0 m_X9_isPart hv_no (hv_ZI (hv_e1 e) Φ) 0 [(0, .int x1)] [] σ
  refine T_iload_n dX9_isPart_0 rfl 0 rfl ?_
  refine T_if_eq (tgt := 9) dX9_isPart_1 (by decide) (fun c1 => ?_) (fun c1 => ?_)
  · refine T_iconst (v := 1) dX9_isPart_9 (by decide) ?_
    refine T_goto (tgt := 14) dX9_isPart_10 (by decide) ?_
    exact T_zret dX9_isPart_14 rfl (by decide) (h.1 c1)
  · refine T_iload_n dX9_isPart_4 rfl 0 rfl ?_
    refine T_iconst (v := 1) dX9_isPart_5 (by decide) ?_
    refine T_icmp_ne (tgt := 13) dX9_isPart_6 (by decide) (fun c2 => ?_) (fun c2 => ?_)
    · refine T_iconst (v := 0) dX9_isPart_13 (by decide) ?_
      exact T_zret dX9_isPart_14 rfl (by decide) ((h.2 c1).1 c2)
    · refine T_iconst (v := 1) dX9_isPart_9 (by decide) ?_
      refine T_goto (tgt := 14) dX9_isPart_10 (by decide) ?_
      exact T_zret dX9_isPart_14 rfl (by decide) ((h.2 c1).2 c2)

set_option maxHeartbeats 4000000 in
set_option maxRecDepth 100000 in
theorem B_X9_cell {l : Launch} {e : hv_Ev}  (x1 : Int32) (x2 : Int32) {σ : hv_S} {Φ : Int32 → hv_S → Prop} (h : Φ ((x2 * 8) + x1) σ) : hv_CI l (hv_e1 e) 0 m_X9_cell [.int x1, .int x2] σ Φ := by
  refine hv_entI (by decide) (Nat.le_of_ble_eq_true rfl) ?_
  show hv_TW l (hv_e1 e) (hv_rm 0) 0 0 m_X9_cell hv_no (hv_ZI (hv_e1 e) Φ) 0 [(0, .int x1), (1, .int x2)] [] σ
  refine T_iload_n dX9_cell_0 rfl 1 rfl ?_
  refine T_bipush (v := 8) dX9_cell_1 (by decide) ?_
  refine T_imul dX9_cell_3 ?_
  refine T_iload_n dX9_cell_4 rfl 0 rfl ?_
  refine T_iadd dX9_cell_5 ?_
  exact T_iret dX9_cell_6 rfl h

set_option maxHeartbeats 4000000 in
set_option maxRecDepth 100000 in
theorem B_X4_clear {l : Launch} {e : hv_Ev} (r : Nat) (hr : hv_isR r)  {σ : hv_S} {Φ : hv_S → Prop} (h : Φ (hv_ui (hv_ui (hv_ui (hv_ui (hv_ui σ r 1 0) r 2 999) r 3 1) r 4 2) r 5 0)) : hv_CV l (hv_e1 e) 0 m_X4_clear [.ref r] σ Φ := by
  refine hv_entV (by decide) (Nat.le_of_ble_eq_true rfl) ?_
  show hv_TW l (hv_e1 e) (hv_rm 0) 0 0 m_X4_clear hv_no (hv_ZV (hv_e1 e) Φ) 0 [(0, .ref r)] [] σ
  refine T_aload_n dX4_clear_0 rfl 0 rfl ?_
  refine T_iconst (v := 0) dX4_clear_1 (by decide) ?_
  refine T_puti dX4_clear_2 fl_X4_18 pf_X4_1 (hv_isRp hr) (hv_isRs hr) rfl ?_
  refine T_aload_n dX4_clear_5 rfl 0 rfl ?_
  refine T_sipush (v := 999) dX4_clear_6 (by decide) ?_
  refine T_puti dX4_clear_9 fl_X4_22 pf_X4_2 (hv_isRp hr) (hv_isRs hr) rfl ?_
  refine T_aload_n dX4_clear_12 rfl 0 rfl ?_
  refine T_iconst (v := 1) dX4_clear_13 (by decide) ?_
  refine T_puti dX4_clear_14 fl_X4_25 pf_X4_3 (hv_isRp hr) (hv_isRs hr) rfl ?_
  refine T_aload_n dX4_clear_17 rfl 0 rfl ?_
  refine T_iconst (v := 2) dX4_clear_18 (by decide) ?_
  refine T_puti dX4_clear_19 fl_X4_28 pf_X4_4 (hv_isRp hr) (hv_isRs hr) rfl ?_
  refine T_aload_n dX4_clear_22 rfl 0 rfl ?_
  refine T_iconst (v := 0) dX4_clear_23 (by decide) ?_
  refine T_putz dX4_clear_24 fl_X4_31 pf_X4_5 (hv_isRp hr) (hv_isRs hr) rfl (by decide) ?_
  exact T_vret dX4_clear_27 rfl h

set_option maxHeartbeats 4000000 in
set_option maxRecDepth 100000 in
theorem B_X4_add {l : Launch} {e : hv_Ev} (r : Nat) (hr : hv_isR r) (x1 : Int32) {σ : hv_S} {Φ : hv_S → Prop} (h : ((100 ≤ (σ.1 r 1) → Φ σ) ∧ (¬ 100 ≤ (σ.1 r 1) → (vp_in (σ.1 r 1) 100 ∧ Φ (hv_ui (hv_ui σ (r + 1) ((σ.1 r 1).toNatClampNeg) x1) r 1 (((hv_ui σ (r + 1) ((σ.1 r 1).toNatClampNeg) x1).1 r 1) + 1)))))) : hv_CV l (hv_e1 e) 0 m_X4_add [.ref r, .int x1] σ Φ := by
  refine hv_entV (by decide) (Nat.le_of_ble_eq_true rfl) ?_
  show hv_TW l (hv_e1 e) (hv_rm 0) 0 0 m_X4_add hv_no (hv_ZV (hv_e1 e) Φ) 0 [(0, .ref r), (1, .int x1)] [] σ
  refine T_aload_n dX4_add_0 rfl 0 rfl ?_
  refine T_get (v := .int (σ.1 r 1)) dX4_add_1 fl_X4_18 (hv_isRp hr) (hv_isRs hr) rfl rfl ?_
  refine T_aload_n dX4_add_4 rfl 0 rfl ?_
  refine T_get (v := .ref (r + 1)) dX4_add_5 fl_X4_9 (hv_isRp hr) (hv_isRs hr) rfl rfl ?_
  refine T_alen (v := 100) dX4_add_8 (hv_isRq hr) (hv_isRt hr) (by decide) (by decide) ?_
  refine T_icmp_ge (tgt := 32) dX4_add_9 (by decide) (fun c1 => ?_) (fun c1 => ?_)
  · exact T_vret dX4_add_32 rfl (h.1 c1)
  · refine T_aload_n dX4_add_12 rfl 0 rfl ?_
    refine T_get (v := .ref (r + 1)) dX4_add_13 fl_X4_9 (hv_isRp hr) (hv_isRs hr) rfl rfl ?_
    refine T_aload_n dX4_add_16 rfl 0 rfl ?_
    refine T_get (v := .int (σ.1 r 1)) dX4_add_17 fl_X4_18 (hv_isRp hr) (hv_isRs hr) rfl rfl ?_
    refine T_iload_n dX4_add_20 rfl 1 rfl ?_
    refine T_iast dX4_add_21 (hv_isRq hr) (hv_isRt hr) (h.2 c1).1 ?_
    refine T_aload_n dX4_add_22 rfl 0 rfl ?_
    refine T_dup dX4_add_23 rfl ?_
    refine T_get (v := .int ((hv_ui σ (r + 1) ((σ.1 r 1).toNatClampNeg) x1).1 r 1)) dX4_add_24 fl_X4_18 (hv_isRp hr) (hv_isRs hr) rfl rfl ?_
    refine T_iconst (v := 1) dX4_add_27 (by decide) ?_
    refine T_iadd dX4_add_28 ?_
    refine T_puti dX4_add_29 fl_X4_18 pf_X4_1 (hv_isRp hr) (hv_isRs hr) rfl ?_
    exact T_vret dX4_add_32 rfl ((h.2 c1).2)

set_option maxHeartbeats 4000000 in
set_option maxRecDepth 100000 in
theorem B_X4_test {l : Launch} {e : hv_Ev}  (x1 : Int32) (x2 : Int32) (x3 : Int32) {σ : hv_S} {Φ : Int32 → hv_S → Prop} (h : Φ ((((x1 * 3) + x2) * 1000) + x3) σ) : hv_CI l (hv_e1 e) 0 m_X4_test [.int x1, .int x2, .int x3] σ Φ := by
  refine hv_entI (by decide) (Nat.le_of_ble_eq_true rfl) ?_
  show hv_TW l (hv_e1 e) (hv_rm 0) 0 0 m_X4_test hv_no (hv_ZI (hv_e1 e) Φ) 0 [(0, .int x1), (1, .int x2), (2, .int x3)] [] σ
  refine T_iload_n dX4_test_0 rfl 0 rfl ?_
  refine T_iconst (v := 3) dX4_test_1 (by decide) ?_
  refine T_imul dX4_test_2 ?_
  refine T_iload_n dX4_test_3 rfl 1 rfl ?_
  refine T_iadd dX4_test_4 ?_
  refine T_sipush (v := 1000) dX4_test_5 (by decide) ?_
  refine T_imul dX4_test_8 ?_
  refine T_iload_n dX4_test_9 rfl 2 rfl ?_
  refine T_iadd dX4_test_10 ?_
  exact T_iret dX4_test_11 rfl h

set_option maxHeartbeats 4000000 in
set_option maxRecDepth 100000 in
theorem B_X4_isTrue {l : Launch} {e : hv_Ev}  (x1 : Int32) {σ : hv_S} {Φ : Int32 → hv_S → Prop} (h : ((((x1 / 1000) / 3) < 5 → ((((x1 / 1000) - (x1 / 1000) / 3 * 3) = 0 → (vp_in ((x1 / 1000) / 3) 5 ∧ (((x1 - x1 / 1000 * 1000) ≤ (σ.1 17 (((x1 / 1000) / 3).toNatClampNeg)) → Φ 0 σ) ∧ (¬ (x1 - x1 / 1000 * 1000) ≤ (σ.1 17 (((x1 / 1000) / 3).toNatClampNeg)) → Φ 1 σ)))) ∧ (((x1 / 1000) - (x1 / 1000) / 3 * 3) = 1 → (vp_in ((x1 / 1000) / 3) 5 ∧ (((σ.1 17 (((x1 / 1000) / 3).toNatClampNeg)) ≠ (x1 - x1 / 1000 * 1000) → Φ 0 σ) ∧ ((σ.1 17 (((x1 / 1000) / 3).toNatClampNeg)) = (x1 - x1 / 1000 * 1000) → Φ 1 σ)))) ∧ (¬ ((x1 / 1000) - (x1 / 1000) / 3 * 3) = 0 → ¬ ((x1 / 1000) - (x1 / 1000) / 3 * 3) = 1 → (vp_in ((x1 / 1000) / 3) 5 ∧ (((σ.1 17 (((x1 / 1000) / 3).toNatClampNeg)) ≤ (x1 - x1 / 1000 * 1000) → Φ 0 σ) ∧ (¬ (σ.1 17 (((x1 / 1000) / 3).toNatClampNeg)) ≤ (x1 - x1 / 1000 * 1000) → Φ 1 σ)))))) ∧ (¬ ((x1 / 1000) / 3) < 5 → Φ 0 σ))) : hv_CI l (hv_e1 e) 0 m_X4_isTrue [.int x1, .ref 17] σ Φ := by
  refine hv_entI (by decide) (Nat.le_of_ble_eq_true rfl) ?_
  show hv_TW l (hv_e1 e) (hv_rm 0) 0 0 m_X4_isTrue hv_no (hv_ZI (hv_e1 e) Φ) 0 [(0, .int x1), (1, .ref 17)] [] σ
  refine T_iload_n dX4_isTrue_0 rfl 0 rfl ?_
  refine T_sipush (v := 1000) dX4_isTrue_1 (by decide) ?_
  refine T_irem dX4_isTrue_4 (by decide) ?_
  refine T_istore_n dX4_isTrue_5 rfl (by decide) rfl ?_
  refine T_iload_n dX4_isTrue_6 rfl 1 rfl ?_
  refine T_sipush (v := 1000) dX4_isTrue_7 (by decide) ?_
  refine T_idiv dX4_isTrue_10 (by decide) ?_
  refine T_iconst (v := 3) dX4_isTrue_11 (by decide) ?_
  refine T_irem dX4_isTrue_12 (by decide) ?_
  refine T_istore_n dX4_isTrue_13 rfl (by decide) rfl ?_
  refine T_iload_n dX4_isTrue_14 rfl 2 rfl ?_
  refine T_sipush (v := 1000) dX4_isTrue_15 (by decide) ?_
  refine T_idiv dX4_isTrue_18 (by decide) ?_
  refine T_iconst (v := 3) dX4_isTrue_19 (by decide) ?_
  refine T_idiv dX4_isTrue_20 (by decide) ?_
  refine T_istore dX4_isTrue_21 (by decide) rfl ?_
  refine T_iload dX4_isTrue_23 0 rfl ?_
  refine T_aload_n dX4_isTrue_25 rfl 4 rfl ?_
  refine T_alen (v := 5) dX4_isTrue_26 hp_17 hs_17 (by decide) (by decide) ?_
  refine T_icmp_lt (tgt := 32) dX4_isTrue_27 (by decide) (fun c1 => ?_) (fun c1 => ?_)
  · refine T_iload_n dX4_isTrue_32 rfl 1 rfl ?_
    by_cases c2 : ((x1 / 1000) - (x1 / 1000) / 3 * 3) = 0
    · refine T_lookup (off := 27) (tgt := 60) dX4_isTrue_33 (by decide) (by rw [c2]; decide) (by decide) ?_
      refine T_aload_n dX4_isTrue_60 rfl 4 rfl ?_
      refine T_iload dX4_isTrue_61 0 rfl ?_
      refine T_iald dX4_isTrue_63 hp_17 hs_17 ((h.1 c1).1 c2).1 ?_
      refine T_iload_n dX4_isTrue_64 rfl 2 rfl ?_
      refine T_icmp_ge (tgt := 72) dX4_isTrue_65 (by decide) (fun c3 => ?_) (fun c3 => ?_)
      · refine T_iconst (v := 0) dX4_isTrue_72 (by decide) ?_
        exact T_zret dX4_isTrue_73 rfl (by decide) (((h.1 c1).1 c2).2.1 c3)
      · refine T_iconst (v := 1) dX4_isTrue_68 (by decide) ?_
        refine T_goto (tgt := 73) dX4_isTrue_69 (by decide) ?_
        exact T_zret dX4_isTrue_73 rfl (by decide) (((h.1 c1).1 c2).2.2 c3)
    · skip
      by_cases c4 : ((x1 / 1000) - (x1 / 1000) / 3 * 3) = 1
      · refine T_lookup (off := 41) (tgt := 74) dX4_isTrue_33 (by decide) (by rw [c4]; decide) (by decide) ?_
        refine T_aload_n dX4_isTrue_74 rfl 4 rfl ?_
        refine T_iload dX4_isTrue_75 0 rfl ?_
        refine T_iald dX4_isTrue_77 hp_17 hs_17 ((h.1 c1).2.1 c4).1 ?_
        refine T_iload_n dX4_isTrue_78 rfl 2 rfl ?_
        refine T_icmp_ne (tgt := 86) dX4_isTrue_79 (by decide) (fun c5 => ?_) (fun c5 => ?_)
        · refine T_iconst (v := 0) dX4_isTrue_86 (by decide) ?_
          exact T_zret dX4_isTrue_87 rfl (by decide) (((h.1 c1).2.1 c4).2.1 c5)
        · refine T_iconst (v := 1) dX4_isTrue_82 (by decide) ?_
          refine T_goto (tgt := 87) dX4_isTrue_83 (by decide) ?_
          exact T_zret dX4_isTrue_87 rfl (by decide) (((h.1 c1).2.1 c4).2.2 c5)
      · skip
        refine T_lookup (off := 55) (tgt := 88) dX4_isTrue_33 (by decide) (by show Op.lookupswitch.offset [(0, 27), (1, 41)] _ _ = _; rw [lv_osw c2 (a := 0) (by decide), lv_osw c4 (a := 1) (by decide)]; rfl) (by decide) ?_
        refine T_aload_n dX4_isTrue_88 rfl 4 rfl ?_
        refine T_iload dX4_isTrue_89 0 rfl ?_
        refine T_iald dX4_isTrue_91 hp_17 hs_17 ((h.1 c1).2.2 c2 c4).1 ?_
        refine T_iload_n dX4_isTrue_92 rfl 2 rfl ?_
        refine T_icmp_le (tgt := 100) dX4_isTrue_93 (by decide) (fun c6 => ?_) (fun c6 => ?_)
        · refine T_iconst (v := 0) dX4_isTrue_100 (by decide) ?_
          exact T_zret dX4_isTrue_101 rfl (by decide) (((h.1 c1).2.2 c2 c4).2.1 c6)
        · refine T_iconst (v := 1) dX4_isTrue_96 (by decide) ?_
          refine T_goto (tgt := 101) dX4_isTrue_97 (by decide) ?_
          exact T_zret dX4_isTrue_101 rfl (by decide) (((h.1 c1).2.2 c2 c4).2.2 c6)
  · refine T_iconst (v := 0) dX4_isTrue_30 (by decide) ?_
    exact T_zret dX4_isTrue_31 rfl (by decide) (h.2 c1)

def L_X4_forbid_4 (l : Launch) (e : hv_Ev) (r : Nat) (Φ : Int32 → hv_S → Prop) (x2 : Int32) (x3 : Int32) (σ : hv_S) : Prop := hv_TW l (hv_e1 e) (hv_rm 1) 0 0 m_X4_forbid hv_no (hv_ZI (hv_e1 e) Φ) 4 [(0, .ref r), (1, .ref 17), (2, .int x2), (3, .int x3)] [] σ
set_option maxHeartbeats 4000000 in
set_option maxRecDepth 100000 in
theorem B_X4_forbid_4 {l : Launch} {e : hv_Ev} (r : Nat) (hr : hv_isR r) (x2 : Int32) (x3 : Int32) {σ : hv_S} {Φ : Int32 → hv_S → Prop} (h : (((σ.1 r 1) ≤ x3 → ((x2 = 0 → Φ 0 σ) ∧ (¬ x2 = 0 → Φ 1 σ))) ∧ (¬ (σ.1 r 1) ≤ x3 → (vp_in x3 100 ∧ (((σ.1 (r + 1) x3.toNatClampNeg) < 0 → (((σ.1 (r + 1) x3.toNatClampNeg) ≠ (-1) → (∀ z1 : Int32, z1 = (x2.toUInt32 >>> ((1 : Int32).toUInt32 &&& Int32.toUInt32 31)).toInt32 → (((σ.1 (r + 1) x3.toNatClampNeg) ≠ (-3) → L_X4_forbid_4 l e r Φ (z1 &&& ((x2 &&& 1) ||| (-2))) (x3 + 1) σ) ∧ ((σ.1 (r + 1) x3.toNatClampNeg) = (-3) → L_X4_forbid_4 l e r Φ (z1 ||| (x2 &&& 1)) (x3 + 1) σ)))) ∧ ((σ.1 (r + 1) x3.toNatClampNeg) = (-1) → L_X4_forbid_4 l e r Φ (x2 ^^^ 1) (x3 + 1) σ))) ∧ (¬ (σ.1 (r + 1) x3.toNatClampNeg) < 0 → hv_CI l (hv_e1 e) 0 m_X4_isTrue [.int (σ.1 (r + 1) x3.toNatClampNeg), .ref 17] σ (fun v3 s2 => ((v3 = 0 → L_X4_forbid_4 l e r Φ ((x2 <<< ((1 : Int32) &&& 31)) ||| 0) (x3 + 1) s2) ∧ (¬ v3 = 0 → L_X4_forbid_4 l e r Φ ((x2 <<< ((1 : Int32) &&& 31)) ||| 1) (x3 + 1) s2))))))))) : L_X4_forbid_4 l e r Φ x2 x3 σ := by
  show hv_TW l (hv_e1 e) (hv_rm 1) 0 0 m_X4_forbid hv_no (hv_ZI (hv_e1 e) Φ) 4 [(0, .ref r), (1, .ref 17), (2, .int x2), (3, .int x3)] [] σ
  refine T_iload_n dX4_forbid_4 rfl 3 rfl ?_
  refine T_aload_n dX4_forbid_5 rfl 0 rfl ?_
  refine T_get (v := .int (σ.1 r 1)) dX4_forbid_6 fl_X4_18 (hv_isRp hr) (hv_isRs hr) rfl rfl ?_
  refine T_icmp_ge (tgt := 97) dX4_forbid_9 (by decide) (fun c5 => ?_) (fun c5 => ?_)
  · refine T_iload_n dX4_forbid_97 rfl 2 rfl ?_
    refine T_if_eq (tgt := 105) dX4_forbid_98 (by decide) (fun c6 => ?_) (fun c6 => ?_)
    · refine T_iconst (v := 0) dX4_forbid_105 (by decide) ?_
      exact T_zret dX4_forbid_106 rfl (by decide) ((h.1 c5).1 c6)
    · refine T_iconst (v := 1) dX4_forbid_101 (by decide) ?_
      refine T_goto (tgt := 106) dX4_forbid_102 (by decide) ?_
      exact T_zret dX4_forbid_106 rfl (by decide) ((h.1 c5).2 c6)
  · refine T_aload_n dX4_forbid_12 rfl 0 rfl ?_
    refine T_get (v := .ref (r + 1)) dX4_forbid_13 fl_X4_9 (hv_isRp hr) (hv_isRs hr) rfl rfl ?_
    refine T_iload_n dX4_forbid_16 rfl 3 rfl ?_
    refine T_iald dX4_forbid_17 (hv_isRq hr) (hv_isRt hr) (h.2 c5).1 ?_
    refine T_istore dX4_forbid_18 (by decide) rfl ?_
    refine T_iload dX4_forbid_20 0 rfl ?_
    refine T_if_lt (tgt := 47) dX4_forbid_22 (by decide) (fun c7 => ?_) (fun c7 => ?_)
    · refine T_iload dX4_forbid_47 0 rfl ?_
      refine T_iconst (v := (-1)) dX4_forbid_49 (by decide) ?_
      refine T_icmp_ne (tgt := 60) dX4_forbid_50 (by decide) (fun c8 => ?_) (fun c8 => ?_)
      · refine T_iload_n dX4_forbid_60 rfl 3 rfl ?_
        refine T_iconst (v := 1) dX4_forbid_61 (by decide) ?_
        refine T_iand dX4_forbid_62 ?_
        refine T_istore dX4_forbid_63 (by decide) rfl ?_
        refine T_iload_n dX4_forbid_65 rfl 4 rfl ?_
        refine T_iconst (v := 1) dX4_forbid_66 (by decide) ?_
        refine T_iushr dX4_forbid_67 ?_
        refine T_topi (fun z1 ez1 => ?_)
        refine T_istore_n dX4_forbid_68 rfl (by decide) rfl ?_
        refine T_iload dX4_forbid_69 2 rfl ?_
        refine T_bipush (v := (-3)) dX4_forbid_71 (by decide) ?_
        refine T_icmp_ne (tgt := 83) dX4_forbid_73 (by decide) (fun c9 => ?_) (fun c9 => ?_)
        · refine T_iload_n dX4_forbid_83 rfl 0 rfl ?_
          refine T_iload dX4_forbid_84 1 rfl ?_
          refine T_bipush (v := (-2)) dX4_forbid_86 (by decide) ?_
          refine T_ior dX4_forbid_88 ?_
          refine T_iand dX4_forbid_89 ?_
          refine T_istore_n dX4_forbid_90 rfl (by decide) rfl ?_
          refine T_iinc (v := (x3 + 1)) dX4_forbid_91 5 rfl rfl (by decide) rfl ?_
          refine T_goto (tgt := 4) dX4_forbid_94 (by decide) ?_
          exact T_sub [4, 5, 1, 0] rfl (((((h.2 c5).2.1 c7).1 c8) z1 ez1).1 c9)
        · refine T_iload_n dX4_forbid_76 rfl 0 rfl ?_
          refine T_iload dX4_forbid_77 1 rfl ?_
          refine T_ior dX4_forbid_79 ?_
          refine T_goto (tgt := 90) dX4_forbid_80 (by decide) ?_
          refine T_istore_n dX4_forbid_90 rfl (by decide) rfl ?_
          refine T_iinc (v := (x3 + 1)) dX4_forbid_91 5 rfl rfl (by decide) rfl ?_
          refine T_goto (tgt := 4) dX4_forbid_94 (by decide) ?_
          exact T_sub [4, 5, 1, 0] rfl (((((h.2 c5).2.1 c7).1 c8) z1 ez1).2 c9)
      · refine T_iload_n dX4_forbid_53 rfl 3 rfl ?_
        refine T_iconst (v := 1) dX4_forbid_54 (by decide) ?_
        refine T_ixor dX4_forbid_55 ?_
        refine T_istore_n dX4_forbid_56 rfl (by decide) rfl ?_
        refine T_goto (tgt := 91) dX4_forbid_57 (by decide) ?_
        refine T_iinc (v := (x3 + 1)) dX4_forbid_91 4 rfl rfl (by decide) rfl ?_
        refine T_goto (tgt := 4) dX4_forbid_94 (by decide) ?_
        exact T_sub [3, 4, 1, 0] rfl (((h.2 c5).2.1 c7).2 c8)
    · refine T_iload_n dX4_forbid_25 rfl 3 rfl ?_
      refine T_iconst (v := 1) dX4_forbid_26 (by decide) ?_
      refine T_ishl dX4_forbid_27 ?_
      refine T_iload dX4_forbid_28 0 rfl ?_
      refine T_aload_n dX4_forbid_30 rfl 2 rfl ?_
      refine T_SI (As := [.int (σ.1 (r + 1) x3.toNatClampNeg), .ref 17]) dX4_forbid_31 ms_X4_35 rfl (Nat.le_of_ble_eq_true rfl) (hv_ok1 rfl) rfl ((h.2 c5).2.2 c7) (fun v3 s2 h4 => ?_)
      refine T_if_eq (tgt := 41) dX4_forbid_34 (by decide) (fun c10 => ?_) (fun c10 => ?_)
      · refine T_iconst (v := 0) dX4_forbid_41 (by decide) ?_
        refine T_ior dX4_forbid_42 ?_
        refine T_istore_n dX4_forbid_43 rfl (by decide) rfl ?_
        refine T_goto (tgt := 91) dX4_forbid_44 (by decide) ?_
        refine T_iinc (v := (x3 + 1)) dX4_forbid_91 4 rfl rfl (by decide) rfl ?_
        refine T_goto (tgt := 4) dX4_forbid_94 (by decide) ?_
        exact T_sub [3, 4, 1, 0] rfl (h4.1 c10)
      · refine T_iconst (v := 1) dX4_forbid_37 (by decide) ?_
        refine T_goto (tgt := 42) dX4_forbid_38 (by decide) ?_
        refine T_ior dX4_forbid_42 ?_
        refine T_istore_n dX4_forbid_43 rfl (by decide) rfl ?_
        refine T_goto (tgt := 91) dX4_forbid_44 (by decide) ?_
        refine T_iinc (v := (x3 + 1)) dX4_forbid_91 4 rfl rfl (by decide) rfl ?_
        refine T_goto (tgt := 4) dX4_forbid_94 (by decide) ?_
        exact T_sub [3, 4, 1, 0] rfl (h4.2 c10)
set_option maxHeartbeats 4000000 in
set_option maxRecDepth 100000 in
theorem B_X4_forbid {l : Launch} {e : hv_Ev} (r : Nat) (hr : hv_isR r)  {σ : hv_S} {Φ : Int32 → hv_S → Prop} (h : L_X4_forbid_4 l e r Φ 0 0 σ) : hv_CI l (hv_e1 e) 1 m_X4_forbid [.ref r, .ref 17] σ Φ := by
  refine hv_entI (by decide) (Nat.le_of_ble_eq_true rfl) ?_
  show hv_TW l (hv_e1 e) (hv_rm 1) 0 0 m_X4_forbid hv_no (hv_ZI (hv_e1 e) Φ) 0 [(0, .ref r), (1, .ref 17)] [] σ
  refine T_iconst (v := 0) dX4_forbid_0 (by decide) ?_
  refine T_istore_n dX4_forbid_1 rfl (by decide) rfl ?_
  refine T_iconst (v := 0) dX4_forbid_2 (by decide) ?_
  refine T_istore_n dX4_forbid_3 rfl (by decide) rfl ?_
  exact T_sub [2, 3, 1, 0] rfl h

set_option maxHeartbeats 4000000 in
set_option maxRecDepth 100000 in
theorem B_X2_sits {l : Launch} {e : hv_Ev}  (x1 : Int32) {σ : hv_S} {Φ : Int32 → hv_S → Prop} (h : ((x1 < 0 → Φ 0 σ) ∧ (¬ x1 < 0 → (((σ.1 1 7) ≤ x1 → Φ 0 σ) ∧ (¬ (σ.1 1 7) ≤ x1 → Φ 1 σ))))) : hv_CI l (hv_e1 e) 0 m_X2_sits [.ref 1, .int x1] σ Φ := by
  refine hv_entI (by decide) (Nat.le_of_ble_eq_true rfl) ?_
  show hv_TW l (hv_e1 e) (hv_rm 0) 0 0 m_X2_sits hv_no (hv_ZI (hv_e1 e) Φ) 0 [(0, .ref 1), (1, .int x1)] [] σ
  refine T_iload_n dX2_sits_0 rfl 1 rfl ?_
  refine T_if_lt (tgt := 16) dX2_sits_1 (by decide) (fun c1 => ?_) (fun c1 => ?_)
  · refine T_iconst (v := 0) dX2_sits_16 (by decide) ?_
    exact T_zret dX2_sits_17 rfl (by decide) (h.1 c1)
  · refine T_iload_n dX2_sits_4 rfl 1 rfl ?_
    refine T_aload_n dX2_sits_5 rfl 0 rfl ?_
    refine T_get (v := .int (σ.1 1 7)) dX2_sits_6 fl_X2_39 hp_1 hs_1 rfl rfl ?_
    refine T_icmp_ge (tgt := 16) dX2_sits_9 (by decide) (fun c2 => ?_) (fun c2 => ?_)
    · refine T_iconst (v := 0) dX2_sits_16 (by decide) ?_
      exact T_zret dX2_sits_17 rfl (by decide) ((h.2 c1).1 c2)
    · refine T_iconst (v := 1) dX2_sits_12 (by decide) ?_
      refine T_goto (tgt := 17) dX2_sits_13 (by decide) ?_
      exact T_zret dX2_sits_17 rfl (by decide) ((h.2 c1).2 c2)

set_option maxHeartbeats 4000000 in
set_option maxRecDepth 100000 in
theorem B_X2_opinion {l : Launch} {e : hv_Ev}  (x1 : Int32) (x2 : Int32) {σ : hv_S} {Φ : Int32 → hv_S → Prop} (h : (vp_in x2 3 ∧ Φ (((σ.1 2 x2.toNatClampNeg) >>> (x1 &&& 31)) &&& 1) σ)) : hv_CI l (hv_e1 e) 0 m_X2_opinion [.ref 1, .int x1, .int x2] σ Φ := by
  refine hv_entI (by decide) (Nat.le_of_ble_eq_true rfl) ?_
  show hv_TW l (hv_e1 e) (hv_rm 0) 0 0 m_X2_opinion hv_no (hv_ZI (hv_e1 e) Φ) 0 [(0, .ref 1), (1, .int x1), (2, .int x2)] [] σ
  refine T_aload_n dX2_opinion_0 rfl 0 rfl ?_
  refine T_get (v := .ref 2) dX2_opinion_1 fl_X2_9 hp_1 hs_1 rfl rfl ?_
  refine T_iload_n dX2_opinion_4 rfl 2 rfl ?_
  refine T_iald dX2_opinion_5 hp_2 hs_2 h.1 ?_
  refine T_iload_n dX2_opinion_6 rfl 1 rfl ?_
  refine T_ishr dX2_opinion_7 ?_
  refine T_iconst (v := 1) dX2_opinion_8 (by decide) ?_
  refine T_iand dX2_opinion_9 ?_
  exact T_iret dX2_opinion_10 rfl h.2

set_option maxHeartbeats 4000000 in
set_option maxRecDepth 100000 in
theorem B_X2_form {l : Launch} {e : hv_Ev}  (x1 : Int32) (x2 : Int32) (x3 : Int32) (x4 : Int32) {σ : hv_S} {Φ : hv_S → Prop} (h : ((x3 = 0 → (vp_in x2 3 ∧ (vp_in x2 3 ∧ hv_CI l (hv_e1 e) 0 m_X9_cell [.int x1, .int x2] (hv_ui σ 2 x2.toNatClampNeg ((σ.1 2 x2.toNatClampNeg) &&& (((1 : Int32) <<< (x1 &&& 31)) ^^^ (-1)))) (fun v2 s1 => (vp_in v2 24 ∧ Φ (hv_ui s1 3 v2.toNatClampNeg x4)))))) ∧ (¬ x3 = 0 → (vp_in x2 3 ∧ (vp_in x2 3 ∧ hv_CI l (hv_e1 e) 0 m_X9_cell [.int x1, .int x2] (hv_ui σ 2 x2.toNatClampNeg ((σ.1 2 x2.toNatClampNeg) ||| ((1 : Int32) <<< (x1 &&& 31)))) (fun v5 s4 => (vp_in v5 24 ∧ Φ (hv_ui s4 3 v5.toNatClampNeg x4)))))))) : hv_CV l (hv_e1 e) 1 m_X2_form [.ref 1, .int x1, .int x2, .int x3, .int x4] σ Φ := by
  refine hv_entV (by decide) (Nat.le_of_ble_eq_true rfl) ?_
  show hv_TW l (hv_e1 e) (hv_rm 1) 0 0 m_X2_form hv_no (hv_ZV (hv_e1 e) Φ) 0 [(0, .ref 1), (1, .int x1), (2, .int x2), (3, .int x3), (4, .int x4)] [] σ
  refine T_iconst (v := 1) dX2_form_0 (by decide) ?_
  refine T_iload_n dX2_form_1 rfl 1 rfl ?_
  refine T_ishl dX2_form_2 ?_
  refine T_istore dX2_form_3 (by decide) rfl ?_
  refine T_aload_n dX2_form_5 rfl 1 rfl ?_
  refine T_get (v := .ref 2) dX2_form_6 fl_X2_9 hp_1 hs_1 rfl rfl ?_
  refine T_iload_n dX2_form_9 rfl 3 rfl ?_
  refine T_iload_n dX2_form_10 rfl 4 rfl ?_
  refine T_if_eq (tgt := 26) dX2_form_11 (by decide) (fun c7 => ?_) (fun c7 => ?_)
  · refine T_aload_n dX2_form_26 rfl 1 rfl ?_
    refine T_get (v := .ref 2) dX2_form_27 fl_X2_9 hp_1 hs_1 rfl rfl ?_
    refine T_iload_n dX2_form_30 rfl 3 rfl ?_
    refine T_iald dX2_form_31 hp_2 hs_2 (h.1 c7).1 ?_
    refine T_iload dX2_form_32 0 rfl ?_
    refine T_iconst (v := (-1)) dX2_form_34 (by decide) ?_
    refine T_ixor dX2_form_35 ?_
    refine T_iand dX2_form_36 ?_
    refine T_iast dX2_form_37 hp_2 hs_2 (h.1 c7).2.1 ?_
    refine T_aload_n dX2_form_38 rfl 1 rfl ?_
    refine T_get (v := .ref 3) dX2_form_39 fl_X2_15 hp_1 hs_1 rfl rfl ?_
    refine T_iload_n dX2_form_42 rfl 2 rfl ?_
    refine T_iload_n dX2_form_43 rfl 3 rfl ?_
    refine T_SI (As := [.int x1, .int x2]) dX2_form_44 ms_X2_43 rfl (Nat.le_of_ble_eq_true rfl) (hv_ok1 rfl) rfl ((h.1 c7).2.2) (fun v2 s1 h3 => ?_)
    refine T_iload dX2_form_47 5 rfl ?_
    refine T_iast dX2_form_49 hp_3 hs_3 h3.1 ?_
    exact T_vret dX2_form_50 rfl h3.2
  · refine T_aload_n dX2_form_14 rfl 1 rfl ?_
    refine T_get (v := .ref 2) dX2_form_15 fl_X2_9 hp_1 hs_1 rfl rfl ?_
    refine T_iload_n dX2_form_18 rfl 3 rfl ?_
    refine T_iald dX2_form_19 hp_2 hs_2 (h.2 c7).1 ?_
    refine T_iload dX2_form_20 0 rfl ?_
    refine T_ior dX2_form_22 ?_
    refine T_goto (tgt := 37) dX2_form_23 (by decide) ?_
    refine T_iast dX2_form_37 hp_2 hs_2 (h.2 c7).2.1 ?_
    refine T_aload_n dX2_form_38 rfl 1 rfl ?_
    refine T_get (v := .ref 3) dX2_form_39 fl_X2_15 hp_1 hs_1 rfl rfl ?_
    refine T_iload_n dX2_form_42 rfl 2 rfl ?_
    refine T_iload_n dX2_form_43 rfl 3 rfl ?_
    refine T_SI (As := [.int x1, .int x2]) dX2_form_44 ms_X2_43 rfl (Nat.le_of_ble_eq_true rfl) (hv_ok1 rfl) rfl ((h.2 c7).2.2) (fun v5 s4 h6 => ?_)
    refine T_iload dX2_form_47 5 rfl ?_
    refine T_iast dX2_form_49 hp_3 hs_3 h6.1 ?_
    exact T_vret dX2_form_50 rfl h6.2

set_option maxHeartbeats 4000000 in
set_option maxRecDepth 100000 in
theorem B_X2_renew {l : Launch} {e : hv_Ev}  (x1 : Int32) (x2 : Int32) (x3 : Int32) (x4 : Int32) (x5 : Int32) {σ : hv_S} {Φ : Int32 → hv_S → Prop} (h : (vp_in x1 24 ∧ (vp_in x1 24 ∧ (vp_in x1 24 ∧ (vp_in x1 24 ∧ (vp_in x1 24 ∧ (vp_in x1 24 ∧ Φ (σ.1 4 x1.toNatClampNeg) (hv_ui (hv_ui (hv_ui (hv_ui (hv_ui σ 4 x1.toNatClampNeg x2) 5 x1.toNatClampNeg 100) 6 x1.toNatClampNeg x3) 7 x1.toNatClampNeg x4) 8 x1.toNatClampNeg x5)))))))) : hv_CI l (hv_e1 e) 0 m_X2_renew [.ref 1, .int x1, .int x2, .int x3, .int x4, .int x5] σ Φ := by
  refine hv_entI (by decide) (Nat.le_of_ble_eq_true rfl) ?_
  show hv_TW l (hv_e1 e) (hv_rm 0) 0 0 m_X2_renew hv_no (hv_ZI (hv_e1 e) Φ) 0 [(0, .ref 1), (1, .int x1), (2, .int x2), (3, .int x3), (4, .int x4), (5, .int x5)] [] σ
  refine T_aload_n dX2_renew_0 rfl 0 rfl ?_
  refine T_get (v := .ref 4) dX2_renew_1 fl_X2_18 hp_1 hs_1 rfl rfl ?_
  refine T_iload_n dX2_renew_4 rfl 1 rfl ?_
  refine T_iald dX2_renew_5 hp_4 hs_4 h.1 ?_
  refine T_istore dX2_renew_6 (by decide) rfl ?_
  refine T_aload_n dX2_renew_8 rfl 1 rfl ?_
  refine T_get (v := .ref 4) dX2_renew_9 fl_X2_18 hp_1 hs_1 rfl rfl ?_
  refine T_iload_n dX2_renew_12 rfl 2 rfl ?_
  refine T_iload_n dX2_renew_13 rfl 3 rfl ?_
  refine T_iast dX2_renew_14 hp_4 hs_4 h.2.1 ?_
  refine T_aload_n dX2_renew_15 rfl 1 rfl ?_
  refine T_get (v := .ref 5) dX2_renew_16 fl_X2_21 hp_1 hs_1 rfl rfl ?_
  refine T_iload_n dX2_renew_19 rfl 2 rfl ?_
  refine T_bipush (v := 100) dX2_renew_20 (by decide) ?_
  refine T_iast dX2_renew_22 hp_5 hs_5 h.2.2.1 ?_
  refine T_aload_n dX2_renew_23 rfl 1 rfl ?_
  refine T_get (v := .ref 6) dX2_renew_24 fl_X2_24 hp_1 hs_1 rfl rfl ?_
  refine T_iload_n dX2_renew_27 rfl 2 rfl ?_
  refine T_iload_n dX2_renew_28 rfl 4 rfl ?_
  refine T_iast dX2_renew_29 hp_6 hs_6 h.2.2.2.1 ?_
  refine T_aload_n dX2_renew_30 rfl 1 rfl ?_
  refine T_get (v := .ref 7) dX2_renew_31 fl_X2_27 hp_1 hs_1 rfl rfl ?_
  refine T_iload_n dX2_renew_34 rfl 2 rfl ?_
  refine T_iload dX2_renew_35 5 rfl ?_
  refine T_iast dX2_renew_37 hp_7 hs_7 h.2.2.2.2.1 ?_
  refine T_aload_n dX2_renew_38 rfl 1 rfl ?_
  refine T_get (v := .ref 8) dX2_renew_39 fl_X2_30 hp_1 hs_1 rfl rfl ?_
  refine T_iload_n dX2_renew_42 rfl 2 rfl ?_
  refine T_iload dX2_renew_43 6 rfl ?_
  refine T_iast dX2_renew_45 hp_8 hs_8 h.2.2.2.2.2.1 ?_
  refine T_iload dX2_renew_46 0 rfl ?_
  exact T_iret dX2_renew_48 rfl h.2.2.2.2.2.2

set_option maxHeartbeats 4000000 in
set_option maxRecDepth 100000 in
theorem B_X2_isSelf {l : Launch} {e : hv_Ev}  (x1 : Int32) (x2 : Int32) {σ : hv_S} {Φ : Int32 → hv_S → Prop} (h : (vp_in x1 24 ∧ (((σ.1 4 x1.toNatClampNeg) ≤ 1 → Φ 1 σ) ∧ (¬ (σ.1 4 x1.toNatClampNeg) ≤ 1 → (vp_in x1 24 ∧ ((x2 < (σ.1 5 x1.toNatClampNeg) → Φ 0 σ) ∧ (¬ x2 < (σ.1 5 x1.toNatClampNeg) → Φ 1 σ))))))) : hv_CI l (hv_e1 e) 0 m_X2_isSelf [.ref 1, .int x1, .int x2] σ Φ := by
  refine hv_entI (by decide) (Nat.le_of_ble_eq_true rfl) ?_
  show hv_TW l (hv_e1 e) (hv_rm 0) 0 0 m_X2_isSelf hv_no (hv_ZI (hv_e1 e) Φ) 0 [(0, .ref 1), (1, .int x1), (2, .int x2)] [] σ
  refine T_aload_n dX2_isSelf_0 rfl 0 rfl ?_
  refine T_get (v := .ref 4) dX2_isSelf_1 fl_X2_18 hp_1 hs_1 rfl rfl ?_
  refine T_iload_n dX2_isSelf_4 rfl 1 rfl ?_
  refine T_iald dX2_isSelf_5 hp_4 hs_4 h.1 ?_
  refine T_iconst (v := 1) dX2_isSelf_6 (by decide) ?_
  refine T_icmp_le (tgt := 20) dX2_isSelf_7 (by decide) (fun c1 => ?_) (fun c1 => ?_)
  · refine T_iconst (v := 1) dX2_isSelf_20 (by decide) ?_
    refine T_goto (tgt := 25) dX2_isSelf_21 (by decide) ?_
    exact T_zret dX2_isSelf_25 rfl (by decide) (h.2.1 c1)
  · refine T_iload_n dX2_isSelf_10 rfl 2 rfl ?_
    refine T_aload_n dX2_isSelf_11 rfl 0 rfl ?_
    refine T_get (v := .ref 5) dX2_isSelf_12 fl_X2_21 hp_1 hs_1 rfl rfl ?_
    refine T_iload_n dX2_isSelf_15 rfl 1 rfl ?_
    refine T_iald dX2_isSelf_16 hp_5 hs_5 (h.2.2 c1).1 ?_
    refine T_icmp_lt (tgt := 24) dX2_isSelf_17 (by decide) (fun c2 => ?_) (fun c2 => ?_)
    · refine T_iconst (v := 0) dX2_isSelf_24 (by decide) ?_
      exact T_zret dX2_isSelf_25 rfl (by decide) ((h.2.2 c1).2.1 c2)
    · refine T_iconst (v := 1) dX2_isSelf_20 (by decide) ?_
      refine T_goto (tgt := 25) dX2_isSelf_21 (by decide) ?_
      exact T_zret dX2_isSelf_25 rfl (by decide) ((h.2.2 c1).2.2 c2)

def L_X2_surestOf_9 (l : Launch) (e : hv_Ev)  (Φ : Int32 → hv_S → Prop) (x1 : Int32) (x2 : Int32) (x3 : Int32) (x4 : Int32) (x5 : Int32) (σ : hv_S) : Prop := hv_TW l (hv_e1 e) (hv_rm 1) 0 0 m_X2_surestOf hv_no (hv_ZI (hv_e1 e) Φ) 9 [(0, .ref 1), (1, .int x1), (2, .int x2), (3, .int x3), (4, .int x4), (5, .int x5)] [] σ
set_option maxHeartbeats 4000000 in
set_option maxRecDepth 100000 in
theorem B_X2_surestOf_9 {l : Launch} {e : hv_Ev}  (x1 : Int32) (x2 : Int32) (x3 : Int32) (x4 : Int32) (x5 : Int32) {σ : hv_S} {Φ : Int32 → hv_S → Prop} (h : (((σ.1 1 7) ≤ x5 → Φ x3 σ) ∧ (¬ (σ.1 1 7) ≤ x5 → hv_CI l (hv_e1 e) 0 m_X9_cell [.int x5, .int x1] σ (fun v2 s1 => (vp_in v2 24 ∧ ((((x2 >>> (x5 &&& 31)) &&& 1) = 0 → L_X2_surestOf_9 l e Φ x1 x2 x3 x4 (x5 + 1) s1) ∧ (¬ ((x2 >>> (x5 &&& 31)) &&& 1) = 0 → (((s1.1 3 v2.toNatClampNeg) ≤ x4 → L_X2_surestOf_9 l e Φ x1 x2 x3 x4 (x5 + 1) s1) ∧ (¬ (s1.1 3 v2.toNatClampNeg) ≤ x4 → L_X2_surestOf_9 l e Φ x1 x2 x5 (s1.1 3 v2.toNatClampNeg) (x5 + 1) s1))))))))) : L_X2_surestOf_9 l e Φ x1 x2 x3 x4 x5 σ := by
  show hv_TW l (hv_e1 e) (hv_rm 1) 0 0 m_X2_surestOf hv_no (hv_ZI (hv_e1 e) Φ) 9 [(0, .ref 1), (1, .int x1), (2, .int x2), (3, .int x3), (4, .int x4), (5, .int x5)] [] σ
  refine T_iload dX2_surestOf_9 5 rfl ?_
  refine T_aload_n dX2_surestOf_11 rfl 0 rfl ?_
  refine T_get (v := .int (σ.1 1 7)) dX2_surestOf_12 fl_X2_39 hp_1 hs_1 rfl rfl ?_
  refine T_icmp_ge (tgt := 60) dX2_surestOf_15 (by decide) (fun c4 => ?_) (fun c4 => ?_)
  · refine T_iload_n dX2_surestOf_60 rfl 3 rfl ?_
    exact T_iret dX2_surestOf_61 rfl (h.1 c4)
  · refine T_aload_n dX2_surestOf_18 rfl 0 rfl ?_
    refine T_get (v := .ref 3) dX2_surestOf_19 fl_X2_15 hp_1 hs_1 rfl rfl ?_
    refine T_iload dX2_surestOf_22 5 rfl ?_
    refine T_iload_n dX2_surestOf_24 rfl 1 rfl ?_
    refine T_SI (As := [.int x5, .int x1]) dX2_surestOf_25 ms_X2_43 rfl (Nat.le_of_ble_eq_true rfl) (hv_ok1 rfl) rfl (h.2 c4) (fun v2 s1 h3 => ?_)
    refine T_iald dX2_surestOf_28 hp_3 hs_3 h3.1 ?_
    refine T_istore dX2_surestOf_29 (by decide) rfl ?_
    refine T_iload_n dX2_surestOf_31 rfl 3 rfl ?_
    refine T_iload dX2_surestOf_32 6 rfl ?_
    refine T_ishr dX2_surestOf_34 ?_
    refine T_iconst (v := 1) dX2_surestOf_35 (by decide) ?_
    refine T_iand dX2_surestOf_36 ?_
    refine T_if_eq (tgt := 54) dX2_surestOf_37 (by decide) (fun c5 => ?_) (fun c5 => ?_)
    · refine T_iinc (v := (x5 + 1)) dX2_surestOf_54 6 rfl rfl (by decide) rfl ?_
      refine T_goto (tgt := 9) dX2_surestOf_57 (by decide) ?_
      exact T_sub [2, 3, 4, 5, 6, 0] rfl (h3.2.1 c5)
    · refine T_iload dX2_surestOf_40 0 rfl ?_
      refine T_iload dX2_surestOf_42 5 rfl ?_
      refine T_icmp_le (tgt := 54) dX2_surestOf_44 (by decide) (fun c6 => ?_) (fun c6 => ?_)
      · refine T_iinc (v := (x5 + 1)) dX2_surestOf_54 6 rfl rfl (by decide) rfl ?_
        refine T_goto (tgt := 9) dX2_surestOf_57 (by decide) ?_
        exact T_sub [2, 3, 4, 5, 6, 0] rfl ((h3.2.2 c5).1 c6)
      · refine T_iload dX2_surestOf_47 6 rfl ?_
        refine T_istore_n dX2_surestOf_49 rfl (by decide) rfl ?_
        refine T_iload dX2_surestOf_50 1 rfl ?_
        refine T_istore dX2_surestOf_52 (by decide) rfl ?_
        refine T_iinc (v := (x5 + 1)) dX2_surestOf_54 6 rfl rfl (by decide) rfl ?_
        refine T_goto (tgt := 9) dX2_surestOf_57 (by decide) ?_
        exact T_sub [4, 5, 6, 2, 1, 0] rfl ((h3.2.2 c5).2 c6)
set_option maxHeartbeats 4000000 in
set_option maxRecDepth 100000 in
theorem B_X2_surestOf {l : Launch} {e : hv_Ev}  (x1 : Int32) (x2 : Int32) {σ : hv_S} {Φ : Int32 → hv_S → Prop} (h : L_X2_surestOf_9 l e Φ x1 x2 (-5) (-1) 0 σ) : hv_CI l (hv_e1 e) 1 m_X2_surestOf [.ref 1, .int x1, .int x2] σ Φ := by
  refine hv_entI (by decide) (Nat.le_of_ble_eq_true rfl) ?_
  show hv_TW l (hv_e1 e) (hv_rm 1) 0 0 m_X2_surestOf hv_no (hv_ZI (hv_e1 e) Φ) 0 [(0, .ref 1), (1, .int x1), (2, .int x2)] [] σ
  refine T_bipush (v := (-5)) dX2_surestOf_0 (by decide) ?_
  refine T_istore_n dX2_surestOf_2 rfl (by decide) rfl ?_
  refine T_iconst (v := (-1)) dX2_surestOf_3 (by decide) ?_
  refine T_istore dX2_surestOf_4 (by decide) rfl ?_
  refine T_iconst (v := 0) dX2_surestOf_6 (by decide) ?_
  refine T_istore dX2_surestOf_7 (by decide) rfl ?_
  exact T_sub [3, 4, 5, 2, 1, 0] rfl h

def L_X2_takenBackAt_5 (l : Launch) (e : hv_Ev)  (Φ : Int32 → hv_S → Prop) (x1 : Int32) (x2 : Int32) (x3 : Int32) (x4 : Int32) (σ : hv_S) : Prop := hv_TW l (hv_e1 e) (hv_rm 1) 0 0 m_X2_takenBackAt hv_no (hv_ZI (hv_e1 e) Φ) 5 [(0, .ref 1), (1, .int x1), (2, .int x2), (3, .int x3), (4, .int x4)] [] σ
set_option maxHeartbeats 4000000 in
set_option maxRecDepth 100000 in
theorem B_X2_takenBackAt_5 {l : Launch} {e : hv_Ev}  (x1 : Int32) (x2 : Int32) (x3 : Int32) (x4 : Int32) {σ : hv_S} {Φ : Int32 → hv_S → Prop} (h : (((σ.1 1 7) ≤ x4 → Φ x3 σ) ∧ (¬ (σ.1 1 7) ≤ x4 → hv_CI l (hv_e1 e) 0 m_X9_cell [.int x4, .int x1] σ (fun v2 s1 => (vp_in v2 24 ∧ ((x2 < (s1.1 5 v2.toNatClampNeg) → L_X2_takenBackAt_5 l e Φ x1 x2 x3 (x4 + 1) s1) ∧ (¬ x2 < (s1.1 5 v2.toNatClampNeg) → L_X2_takenBackAt_5 l e Φ x1 x2 (x3 ||| ((1 : Int32) <<< (x4 &&& 31))) (x4 + 1) s1))))))) : L_X2_takenBackAt_5 l e Φ x1 x2 x3 x4 σ := by
  show hv_TW l (hv_e1 e) (hv_rm 1) 0 0 m_X2_takenBackAt hv_no (hv_ZI (hv_e1 e) Φ) 5 [(0, .ref 1), (1, .int x1), (2, .int x2), (3, .int x3), (4, .int x4)] [] σ
  refine T_iload dX2_takenBackAt_5 4 rfl ?_
  refine T_aload_n dX2_takenBackAt_7 rfl 0 rfl ?_
  refine T_get (v := .int (σ.1 1 7)) dX2_takenBackAt_8 fl_X2_39 hp_1 hs_1 rfl rfl ?_
  refine T_icmp_ge (tgt := 42) dX2_takenBackAt_11 (by decide) (fun c4 => ?_) (fun c4 => ?_)
  · refine T_iload_n dX2_takenBackAt_42 rfl 3 rfl ?_
    exact T_iret dX2_takenBackAt_43 rfl (h.1 c4)
  · refine T_iload_n dX2_takenBackAt_14 rfl 2 rfl ?_
    refine T_aload_n dX2_takenBackAt_15 rfl 0 rfl ?_
    refine T_get (v := .ref 5) dX2_takenBackAt_16 fl_X2_21 hp_1 hs_1 rfl rfl ?_
    refine T_iload dX2_takenBackAt_19 4 rfl ?_
    refine T_iload_n dX2_takenBackAt_21 rfl 1 rfl ?_
    refine T_SI (As := [.int x4, .int x1]) dX2_takenBackAt_22 ms_X2_43 rfl (Nat.le_of_ble_eq_true rfl) (hv_ok1 rfl) rfl (h.2 c4) (fun v2 s1 h3 => ?_)
    refine T_iald dX2_takenBackAt_25 hp_5 hs_5 h3.1 ?_
    refine T_icmp_lt (tgt := 36) dX2_takenBackAt_26 (by decide) (fun c5 => ?_) (fun c5 => ?_)
    · refine T_iinc (v := (x4 + 1)) dX2_takenBackAt_36 4 rfl rfl (by decide) rfl ?_
      refine T_goto (tgt := 5) dX2_takenBackAt_39 (by decide) ?_
      exact T_sub [1, 2, 3, 4, 0] rfl (h3.2.1 c5)
    · refine T_iload_n dX2_takenBackAt_29 rfl 3 rfl ?_
      refine T_iconst (v := 1) dX2_takenBackAt_30 (by decide) ?_
      refine T_iload dX2_takenBackAt_31 4 rfl ?_
      refine T_ishl dX2_takenBackAt_33 ?_
      refine T_ior dX2_takenBackAt_34 ?_
      refine T_istore_n dX2_takenBackAt_35 rfl (by decide) rfl ?_
      refine T_iinc (v := (x4 + 1)) dX2_takenBackAt_36 4 rfl rfl (by decide) rfl ?_
      refine T_goto (tgt := 5) dX2_takenBackAt_39 (by decide) ?_
      exact T_sub [2, 3, 4, 1, 0] rfl (h3.2.2 c5)
set_option maxHeartbeats 4000000 in
set_option maxRecDepth 100000 in
theorem B_X2_takenBackAt {l : Launch} {e : hv_Ev}  (x1 : Int32) (x2 : Int32) {σ : hv_S} {Φ : Int32 → hv_S → Prop} (h : L_X2_takenBackAt_5 l e Φ x1 x2 0 0 σ) : hv_CI l (hv_e1 e) 1 m_X2_takenBackAt [.ref 1, .int x1, .int x2] σ Φ := by
  refine hv_entI (by decide) (Nat.le_of_ble_eq_true rfl) ?_
  show hv_TW l (hv_e1 e) (hv_rm 1) 0 0 m_X2_takenBackAt hv_no (hv_ZI (hv_e1 e) Φ) 0 [(0, .ref 1), (1, .int x1), (2, .int x2)] [] σ
  refine T_iconst (v := 0) dX2_takenBackAt_0 (by decide) ?_
  refine T_istore_n dX2_takenBackAt_1 rfl (by decide) rfl ?_
  refine T_iconst (v := 0) dX2_takenBackAt_2 (by decide) ?_
  refine T_istore dX2_takenBackAt_3 (by decide) rfl ?_
  exact T_sub [2, 3, 4, 1, 0] rfl h
