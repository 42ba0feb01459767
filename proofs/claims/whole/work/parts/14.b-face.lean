-- printed by wip/gen/p10c.py: HandedVoices
theorem dX9_commonDivisor_0 : decode cX9_commonDivisor 0 = .ok (.iconst 0, 1) := by decide +kernel
theorem dX9_commonDivisor_1 : decode cX9_commonDivisor 1 = .ok (.istore 4, 2) := by decide +kernel
theorem dX9_commonDivisor_3 : decode cX9_commonDivisor 3 = .ok (.iload 4, 2) := by decide +kernel
theorem dX9_commonDivisor_5 : decode cX9_commonDivisor 5 = .ok (.sipush 128, 3) := by decide +kernel
theorem dX9_commonDivisor_8 : decode cX9_commonDivisor 8 = .ok (.if_icmp .ge 25, 3) := by decide +kernel
theorem dX9_commonDivisor_11 : decode cX9_commonDivisor 11 = .ok (.lload_n 2, 1) := by decide +kernel
theorem dX9_commonDivisor_12 : decode cX9_commonDivisor 12 = .ok (.lconst 0, 1) := by decide +kernel
theorem dX9_commonDivisor_13 : decode cX9_commonDivisor 13 = .ok (.lcmp, 1) := by decide +kernel
theorem dX9_commonDivisor_14 : decode cX9_commonDivisor 14 = .ok (.ifCond .eq 19, 3) := by decide +kernel
theorem dX9_commonDivisor_17 : decode cX9_commonDivisor 17 = .ok (.lload_n 0, 1) := by decide +kernel
theorem dX9_commonDivisor_18 : decode cX9_commonDivisor 18 = .ok (.lload_n 2, 1) := by decide +kernel
theorem dX9_commonDivisor_19 : decode cX9_commonDivisor 19 = .ok (.lrem, 1) := by decide +kernel
theorem dX9_commonDivisor_20 : decode cX9_commonDivisor 20 = .ok (.lstore 5, 2) := by decide +kernel
theorem dX9_commonDivisor_22 : decode cX9_commonDivisor 22 = .ok (.lload_n 2, 1) := by decide +kernel
theorem dX9_commonDivisor_23 : decode cX9_commonDivisor 23 = .ok (.lstore_n 0, 1) := by decide +kernel
theorem dX9_commonDivisor_24 : decode cX9_commonDivisor 24 = .ok (.lload 5, 2) := by decide +kernel
theorem dX9_commonDivisor_26 : decode cX9_commonDivisor 26 = .ok (.lstore_n 2, 1) := by decide +kernel
theorem dX9_commonDivisor_27 : decode cX9_commonDivisor 27 = .ok (.iinc 4 1, 3) := by decide +kernel
theorem dX9_commonDivisor_30 : decode cX9_commonDivisor 30 = .ok (.goto (-27), 3) := by decide +kernel
theorem dX9_commonDivisor_33 : decode cX9_commonDivisor 33 = .ok (.lload_n 0, 1) := by decide +kernel
theorem dX9_commonDivisor_34 : decode cX9_commonDivisor 34 = .ok (.lreturn, 1) := by decide +kernel
theorem dX9_lowest_0 : decode cX9_lowest 0 = .ok (.lload_n 0, 1) := by decide +kernel
theorem dX9_lowest_1 : decode cX9_lowest 1 = .ok (.lload_n 2, 1) := by decide +kernel
theorem dX9_lowest_2 : decode cX9_lowest 2 = .ok (.invokestatic 290, 3) := by decide +kernel
theorem dX9_lowest_5 : decode cX9_lowest 5 = .ok (.lstore 5, 2) := by decide +kernel
theorem dX9_lowest_7 : decode cX9_lowest 7 = .ok (.lload 5, 2) := by decide +kernel
theorem dX9_lowest_9 : decode cX9_lowest 9 = .ok (.lconst 0, 1) := by decide +kernel
theorem dX9_lowest_10 : decode cX9_lowest 10 = .ok (.lcmp, 1) := by decide +kernel
theorem dX9_lowest_11 : decode cX9_lowest 11 = .ok (.ifCond .ne 7, 3) := by decide +kernel
theorem dX9_lowest_14 : decode cX9_lowest 14 = .ok (.iload 4, 2) := by decide +kernel
theorem dX9_lowest_16 : decode cX9_lowest 16 = .ok (.i2l, 1) := by decide +kernel
theorem dX9_lowest_17 : decode cX9_lowest 17 = .ok (.lreturn, 1) := by decide +kernel
theorem dX9_lowest_18 : decode cX9_lowest 18 = .ok (.iload 4, 2) := by decide +kernel
theorem dX9_lowest_20 : decode cX9_lowest 20 = .ok (.ifCond .ne 7, 3) := by decide +kernel
theorem dX9_lowest_23 : decode cX9_lowest 23 = .ok (.lload_n 0, 1) := by decide +kernel
theorem dX9_lowest_24 : decode cX9_lowest 24 = .ok (.goto 4, 3) := by decide +kernel
theorem dX9_lowest_27 : decode cX9_lowest 27 = .ok (.lload_n 2, 1) := by decide +kernel
theorem dX9_lowest_28 : decode cX9_lowest 28 = .ok (.lload 5, 2) := by decide +kernel
theorem dX9_lowest_30 : decode cX9_lowest 30 = .ok (.ldiv, 1) := by decide +kernel
theorem dX9_lowest_31 : decode cX9_lowest 31 = .ok (.lreturn, 1) := by decide +kernel
theorem dX9_member_0 : decode cX9_member 0 = .ok (.aload_n 0, 1) := by decide +kernel
theorem dX9_member_1 : decode cX9_member 1 = .ok (.getfield 14, 3) := by decide +kernel
theorem dX9_member_4 : decode cX9_member 4 = .ok (.getfield 75, 3) := by decide +kernel
theorem dX9_member_7 : decode cX9_member 7 = .ok (.bipush 8, 2) := by decide +kernel
theorem dX9_member_9 : decode cX9_member 9 = .ok (.if_icmp .lt 6, 3) := by decide +kernel
theorem dX9_member_12 : decode cX9_member 12 = .ok (.bipush (-4), 2) := by decide +kernel
theorem dX9_member_14 : decode cX9_member 14 = .ok (.ireturn, 1) := by decide +kernel
theorem dX9_member_15 : decode cX9_member 15 = .ok (.aload_n 0, 1) := by decide +kernel
theorem dX9_member_16 : decode cX9_member 16 = .ok (.getfield 14, 3) := by decide +kernel
theorem dX9_member_19 : decode cX9_member 19 = .ok (.getfield 75, 3) := by decide +kernel
theorem dX9_member_22 : decode cX9_member 22 = .ok (.istore_n 1, 1) := by decide +kernel
theorem dX9_member_23 : decode cX9_member 23 = .ok (.aload_n 0, 1) := by decide +kernel
theorem dX9_member_24 : decode cX9_member 24 = .ok (.getfield 14, 3) := by decide +kernel
theorem dX9_member_27 : decode cX9_member 27 = .ok (.iload_n 1, 1) := by decide +kernel
theorem dX9_member_28 : decode cX9_member 28 = .ok (.iconst 1, 1) := by decide +kernel
theorem dX9_member_29 : decode cX9_member 29 = .ok (.iadd, 1) := by decide +kernel
theorem dX9_member_30 : decode cX9_member 30 = .ok (.putfield 75, 3) := by decide +kernel
theorem dX9_member_33 : decode cX9_member 33 = .ok (.iload_n 1, 1) := by decide +kernel
theorem dX9_member_34 : decode cX9_member 34 = .ok (.ireturn, 1) := by decide +kernel
theorem dX9_think_0 : decode cX9_think 0 = .ok (.aload_n 0, 1) := by decide +kernel
theorem dX9_think_1 : decode cX9_think 1 = .ok (.getfield 14, 3) := by decide +kernel
theorem dX9_think_4 : decode cX9_think 4 = .ok (.iload_n 1, 1) := by decide +kernel
theorem dX9_think_5 : decode cX9_think 5 = .ok (.invokevirtual 79, 3) := by decide +kernel
theorem dX9_think_8 : decode cX9_think 8 = .ok (.ifCond .eq 10, 3) := by decide +kernel
theorem dX9_think_11 : decode cX9_think 11 = .ok (.iload_n 2, 1) := by decide +kernel
theorem dX9_think_12 : decode cX9_think 12 = .ok (.invokestatic 83, 3) := by decide +kernel
theorem dX9_think_15 : decode cX9_think 15 = .ok (.ifCond .ne 5, 3) := by decide +kernel
theorem dX9_think_18 : decode cX9_think 18 = .ok (.iconst (-1), 1) := by decide +kernel
theorem dX9_think_19 : decode cX9_think 19 = .ok (.ireturn, 1) := by decide +kernel
theorem dX9_think_20 : decode cX9_think 20 = .ok (.iload 4, 2) := by decide +kernel
theorem dX9_think_22 : decode cX9_think 22 = .ok (.ifCond .lt 10, 3) := by decide +kernel
theorem dX9_think_25 : decode cX9_think 25 = .ok (.iload 4, 2) := by decide +kernel
theorem dX9_think_27 : decode cX9_think 27 = .ok (.bipush 10, 2) := by decide +kernel
theorem dX9_think_29 : decode cX9_think 29 = .ok (.if_icmp .le 6, 3) := by decide +kernel
theorem dX9_think_32 : decode cX9_think 32 = .ok (.bipush (-2), 2) := by decide +kernel
theorem dX9_think_34 : decode cX9_think 34 = .ok (.ireturn, 1) := by decide +kernel
theorem dX9_think_35 : decode cX9_think 35 = .ok (.aload_n 0, 1) := by decide +kernel
theorem dX9_think_36 : decode cX9_think 36 = .ok (.getfield 14, 3) := by decide +kernel
theorem dX9_think_39 : decode cX9_think 39 = .ok (.iload_n 1, 1) := by decide +kernel
theorem dX9_think_40 : decode cX9_think 40 = .ok (.iload_n 2, 1) := by decide +kernel
theorem dX9_think_41 : decode cX9_think 41 = .ok (.invokevirtual 86, 3) := by decide +kernel
theorem dX9_think_44 : decode cX9_think 44 = .ok (.bipush 100, 2) := by decide +kernel
theorem dX9_think_46 : decode cX9_think 46 = .ok (.imul, 1) := by decide +kernel
theorem dX9_think_47 : decode cX9_think 47 = .ok (.aload_n 0, 1) := by decide +kernel
theorem dX9_think_48 : decode cX9_think 48 = .ok (.getfield 14, 3) := by decide +kernel
theorem dX9_think_51 : decode cX9_think 51 = .ok (.getfield 90, 3) := by decide +kernel
theorem dX9_think_54 : decode cX9_think 54 = .ok (.iload_n 1, 1) := by decide +kernel
theorem dX9_think_55 : decode cX9_think 55 = .ok (.iload_n 2, 1) := by decide +kernel
theorem dX9_think_56 : decode cX9_think 56 = .ok (.invokestatic 94, 3) := by decide +kernel
theorem dX9_think_59 : decode cX9_think 59 = .ok (.iaload, 1) := by decide +kernel
theorem dX9_think_60 : decode cX9_think 60 = .ok (.iadd, 1) := by decide +kernel
theorem dX9_think_61 : decode cX9_think 61 = .ok (.istore 5, 2) := by decide +kernel
theorem dX9_think_63 : decode cX9_think 63 = .ok (.aload_n 0, 1) := by decide +kernel
theorem dX9_think_64 : decode cX9_think 64 = .ok (.getfield 14, 3) := by decide +kernel
theorem dX9_think_67 : decode cX9_think 67 = .ok (.iload_n 1, 1) := by decide +kernel
theorem dX9_think_68 : decode cX9_think 68 = .ok (.iload_n 2, 1) := by decide +kernel
theorem dX9_think_69 : decode cX9_think 69 = .ok (.iload_n 3, 1) := by decide +kernel
theorem dX9_think_70 : decode cX9_think 70 = .ok (.iload 4, 2) := by decide +kernel
theorem dX9_think_72 : decode cX9_think 72 = .ok (.invokevirtual 97, 3) := by decide +kernel
theorem dX9_think_75 : decode cX9_think 75 = .ok (.aload_n 0, 1) := by decide +kernel
theorem dX9_think_76 : decode cX9_think 76 = .ok (.getfield 30, 3) := by decide +kernel
theorem dX9_think_79 : decode cX9_think 79 = .ok (.iload_n 2, 1) := by decide +kernel
theorem dX9_think_80 : decode cX9_think 80 = .ok (.invokevirtual 101, 3) := by decide +kernel
theorem dX9_think_83 : decode cX9_think 83 = .ok (.iload 5, 2) := by decide +kernel
theorem dX9_think_85 : decode cX9_think 85 = .ok (.ireturn, 1) := by decide +kernel
theorem dX9_hand_0 : decode cX9_hand 0 = .ok (.aload_n 0, 1) := by decide +kernel
theorem dX9_hand_1 : decode cX9_hand 1 = .ok (.getfield 14, 3) := by decide +kernel
theorem dX9_hand_4 : decode cX9_hand 4 = .ok (.iload_n 1, 1) := by decide +kernel
theorem dX9_hand_5 : decode cX9_hand 5 = .ok (.invokevirtual 79, 3) := by decide +kernel
theorem dX9_hand_8 : decode cX9_hand 8 = .ok (.ifCond .eq 10, 3) := by decide +kernel
theorem dX9_hand_11 : decode cX9_hand 11 = .ok (.iload_n 2, 1) := by decide +kernel
theorem dX9_hand_12 : decode cX9_hand 12 = .ok (.invokestatic 83, 3) := by decide +kernel
theorem dX9_hand_15 : decode cX9_hand 15 = .ok (.ifCond .ne 5, 3) := by decide +kernel
theorem dX9_hand_18 : decode cX9_hand 18 = .ok (.iconst (-1), 1) := by decide +kernel
theorem dX9_hand_19 : decode cX9_hand 19 = .ok (.ireturn, 1) := by decide +kernel
theorem dX9_hand_20 : decode cX9_hand 20 = .ok (.iload_n 3, 1) := by decide +kernel
theorem dX9_hand_21 : decode cX9_hand 21 = .ok (.ifCond .eq 16, 3) := by decide +kernel
theorem dX9_hand_24 : decode cX9_hand 24 = .ok (.iload_n 3, 1) := by decide +kernel
theorem dX9_hand_25 : decode cX9_hand 25 = .ok (.iconst 1, 1) := by decide +kernel
theorem dX9_hand_26 : decode cX9_hand 26 = .ok (.if_icmp .eq 11, 3) := by decide +kernel
theorem dX9_hand_29 : decode cX9_hand 29 = .ok (.iload_n 3, 1) := by decide +kernel
theorem dX9_hand_30 : decode cX9_hand 30 = .ok (.iconst 5, 1) := by decide +kernel
theorem dX9_hand_31 : decode cX9_hand 31 = .ok (.if_icmp .eq 6, 3) := by decide +kernel
theorem dX9_hand_34 : decode cX9_hand 34 = .ok (.bipush (-2), 2) := by decide +kernel
theorem dX9_hand_36 : decode cX9_hand 36 = .ok (.ireturn, 1) := by decide +kernel
theorem dX9_hand_37 : decode cX9_hand 37 = .ok (.aload_n 0, 1) := by decide +kernel
theorem dX9_hand_38 : decode cX9_hand 38 = .ok (.getfield 14, 3) := by decide +kernel
theorem dX9_hand_41 : decode cX9_hand 41 = .ok (.iload_n 1, 1) := by decide +kernel
theorem dX9_hand_42 : decode cX9_hand 42 = .ok (.iload_n 2, 1) := by decide +kernel
theorem dX9_hand_43 : decode cX9_hand 43 = .ok (.invokestatic 94, 3) := by decide +kernel
theorem dX9_hand_46 : decode cX9_hand 46 = .ok (.iload_n 3, 1) := by decide +kernel
theorem dX9_hand_47 : decode cX9_hand 47 = .ok (.bipush (-5), 2) := by decide +kernel
theorem dX9_hand_49 : decode cX9_hand 49 = .ok (.bipush (-5), 2) := by decide +kernel
theorem dX9_hand_51 : decode cX9_hand 51 = .ok (.iconst 0, 1) := by decide +kernel
theorem dX9_hand_52 : decode cX9_hand 52 = .ok (.invokevirtual 105, 3) := by decide +kernel
theorem dX9_hand_55 : decode cX9_hand 55 = .ok (.ireturn, 1) := by decide +kernel
theorem dX9_give_0 : decode cX9_give 0 = .ok (.aload_n 0, 1) := by decide +kernel
theorem dX9_give_1 : decode cX9_give 1 = .ok (.getfield 14, 3) := by decide +kernel
theorem dX9_give_4 : decode cX9_give 4 = .ok (.iload_n 1, 1) := by decide +kernel
theorem dX9_give_5 : decode cX9_give 5 = .ok (.invokevirtual 79, 3) := by decide +kernel
theorem dX9_give_8 : decode cX9_give 8 = .ok (.ifCond .eq 21, 3) := by decide +kernel
theorem dX9_give_11 : decode cX9_give 11 = .ok (.iload_n 2, 1) := by decide +kernel
theorem dX9_give_12 : decode cX9_give 12 = .ok (.invokestatic 83, 3) := by decide +kernel
theorem dX9_give_15 : decode cX9_give 15 = .ok (.ifCond .eq 14, 3) := by decide +kernel
theorem dX9_give_18 : decode cX9_give 18 = .ok (.aload_n 0, 1) := by decide +kernel
theorem dX9_give_19 : decode cX9_give 19 = .ok (.getfield 14, 3) := by decide +kernel
theorem dX9_give_22 : decode cX9_give 22 = .ok (.iload_n 3, 1) := by decide +kernel
theorem dX9_give_23 : decode cX9_give 23 = .ok (.invokevirtual 79, 3) := by decide +kernel
theorem dX9_give_26 : decode cX9_give 26 = .ok (.ifCond .ne 5, 3) := by decide +kernel
theorem dX9_give_29 : decode cX9_give 29 = .ok (.iconst (-1), 1) := by decide +kernel
theorem dX9_give_30 : decode cX9_give 30 = .ok (.ireturn, 1) := by decide +kernel
theorem dX9_give_31 : decode cX9_give 31 = .ok (.iload_n 1, 1) := by decide +kernel
theorem dX9_give_32 : decode cX9_give 32 = .ok (.iload_n 3, 1) := by decide +kernel
theorem dX9_give_33 : decode cX9_give 33 = .ok (.if_icmp .ne 6, 3) := by decide +kernel
theorem dX9_give_36 : decode cX9_give 36 = .ok (.bipush (-2), 2) := by decide +kernel
theorem dX9_give_38 : decode cX9_give 38 = .ok (.ireturn, 1) := by decide +kernel
theorem dX9_give_39 : decode cX9_give 39 = .ok (.aload_n 0, 1) := by decide +kernel
theorem dX9_give_40 : decode cX9_give 40 = .ok (.getfield 14, 3) := by decide +kernel
theorem dX9_give_43 : decode cX9_give 43 = .ok (.iload_n 1, 1) := by decide +kernel
theorem dX9_give_44 : decode cX9_give 44 = .ok (.iload_n 2, 1) := by decide +kernel
theorem dX9_give_45 : decode cX9_give 45 = .ok (.invokestatic 94, 3) := by decide +kernel
theorem dX9_give_48 : decode cX9_give 48 = .ok (.iconst 2, 1) := by decide +kernel
theorem dX9_give_49 : decode cX9_give 49 = .ok (.iload_n 3, 1) := by decide +kernel
theorem dX9_give_50 : decode cX9_give 50 = .ok (.bipush (-5), 2) := by decide +kernel
theorem dX9_give_52 : decode cX9_give 52 = .ok (.bipush 10, 2) := by decide +kernel
theorem dX9_give_54 : decode cX9_give 54 = .ok (.invokevirtual 105, 3) := by decide +kernel
theorem dX9_give_57 : decode cX9_give 57 = .ok (.ireturn, 1) := by decide +kernel
theorem dX9_names_0 : decode cX9_names 0 = .ok (.aload_n 0, 1) := by decide +kernel
theorem dX9_names_1 : decode cX9_names 1 = .ok (.getfield 14, 3) := by decide +kernel
theorem dX9_names_4 : decode cX9_names 4 = .ok (.iload_n 1, 1) := by decide +kernel
theorem dX9_names_5 : decode cX9_names 5 = .ok (.invokevirtual 79, 3) := by decide +kernel
theorem dX9_names_8 : decode cX9_names 8 = .ok (.ifCond .eq 33, 3) := by decide +kernel
theorem dX9_names_11 : decode cX9_names 11 = .ok (.iload_n 2, 1) := by decide +kernel
theorem dX9_names_12 : decode cX9_names 12 = .ok (.invokestatic 83, 3) := by decide +kernel
theorem dX9_names_15 : decode cX9_names 15 = .ok (.ifCond .eq 26, 3) := by decide +kernel
theorem dX9_names_18 : decode cX9_names 18 = .ok (.aload_n 0, 1) := by decide +kernel
theorem dX9_names_19 : decode cX9_names 19 = .ok (.getfield 14, 3) := by decide +kernel
theorem dX9_names_22 : decode cX9_names 22 = .ok (.iload_n 3, 1) := by decide +kernel
theorem dX9_names_23 : decode cX9_names 23 = .ok (.invokevirtual 79, 3) := by decide +kernel
theorem dX9_names_26 : decode cX9_names 26 = .ok (.ifCond .eq 15, 3) := by decide +kernel
theorem dX9_names_29 : decode cX9_names 29 = .ok (.aload_n 0, 1) := by decide +kernel
theorem dX9_names_30 : decode cX9_names 30 = .ok (.getfield 14, 3) := by decide +kernel
theorem dX9_names_33 : decode cX9_names 33 = .ok (.iload 4, 2) := by decide +kernel
theorem dX9_names_35 : decode cX9_names 35 = .ok (.invokevirtual 79, 3) := by decide +kernel
theorem dX9_names_38 : decode cX9_names 38 = .ok (.ifCond .ne 5, 3) := by decide +kernel
theorem dX9_names_41 : decode cX9_names 41 = .ok (.iconst (-1), 1) := by decide +kernel
theorem dX9_names_42 : decode cX9_names 42 = .ok (.ireturn, 1) := by decide +kernel
theorem dX9_names_43 : decode cX9_names 43 = .ok (.iload_n 1, 1) := by decide +kernel
theorem dX9_names_44 : decode cX9_names 44 = .ok (.iload_n 3, 1) := by decide +kernel
theorem dX9_names_45 : decode cX9_names 45 = .ok (.if_icmp .eq 27, 3) := by decide +kernel
theorem dX9_names_48 : decode cX9_names 48 = .ok (.iload_n 1, 1) := by decide +kernel
theorem dX9_names_49 : decode cX9_names 49 = .ok (.iload 4, 2) := by decide +kernel
theorem dX9_names_51 : decode cX9_names 51 = .ok (.if_icmp .eq 21, 3) := by decide +kernel
theorem dX9_names_54 : decode cX9_names 54 = .ok (.iload_n 3, 1) := by decide +kernel
theorem dX9_names_55 : decode cX9_names 55 = .ok (.iload 4, 2) := by decide +kernel
theorem dX9_names_57 : decode cX9_names 57 = .ok (.if_icmp .eq 15, 3) := by decide +kernel
theorem dX9_names_60 : decode cX9_names 60 = .ok (.iload 5, 2) := by decide +kernel
theorem dX9_names_62 : decode cX9_names 62 = .ok (.ifCond .lt 10, 3) := by decide +kernel
theorem dX9_names_65 : decode cX9_names 65 = .ok (.iload 5, 2) := by decide +kernel
theorem dX9_names_67 : decode cX9_names 67 = .ok (.bipush 10, 2) := by decide +kernel
theorem dX9_names_69 : decode cX9_names 69 = .ok (.if_icmp .lt 6, 3) := by decide +kernel
theorem dX9_names_72 : decode cX9_names 72 = .ok (.bipush (-2), 2) := by decide +kernel
theorem dX9_names_74 : decode cX9_names 74 = .ok (.ireturn, 1) := by decide +kernel
theorem dX9_names_75 : decode cX9_names 75 = .ok (.iload_n 1, 1) := by decide +kernel
theorem dX9_names_76 : decode cX9_names 76 = .ok (.iload_n 2, 1) := by decide +kernel
theorem dX9_names_77 : decode cX9_names 77 = .ok (.invokestatic 94, 3) := by decide +kernel
theorem dX9_names_80 : decode cX9_names 80 = .ok (.istore 6, 2) := by decide +kernel
theorem dX9_names_82 : decode cX9_names 82 = .ok (.iload 5, 2) := by decide +kernel
theorem dX9_names_84 : decode cX9_names 84 = .ok (.ifCond .ne 19, 3) := by decide +kernel
theorem dX9_names_87 : decode cX9_names 87 = .ok (.aload_n 0, 1) := by decide +kernel
theorem dX9_names_88 : decode cX9_names 88 = .ok (.getfield 14, 3) := by decide +kernel
theorem dX9_names_91 : decode cX9_names 91 = .ok (.iload 6, 2) := by decide +kernel
theorem dX9_names_93 : decode cX9_names 93 = .ok (.iconst 3, 1) := by decide +kernel
theorem dX9_names_94 : decode cX9_names 94 = .ok (.iload_n 3, 1) := by decide +kernel
theorem dX9_names_95 : decode cX9_names 95 = .ok (.iload 4, 2) := by decide +kernel
theorem dX9_names_97 : decode cX9_names 97 = .ok (.bipush 10, 2) := by decide +kernel
theorem dX9_names_99 : decode cX9_names 99 = .ok (.invokevirtual 105, 3) := by decide +kernel
theorem dX9_names_102 : decode cX9_names 102 = .ok (.ireturn, 1) := by decide +kernel
theorem dX9_names_103 : decode cX9_names 103 = .ok (.aload_n 0, 1) := by decide +kernel
theorem dX9_names_104 : decode cX9_names 104 = .ok (.getfield 14, 3) := by decide +kernel
theorem dX9_names_107 : decode cX9_names 107 = .ok (.iload 6, 2) := by decide +kernel
theorem dX9_names_109 : decode cX9_names 109 = .ok (.iconst 4, 1) := by decide +kernel
theorem dX9_names_110 : decode cX9_names 110 = .ok (.iload_n 3, 1) := by decide +kernel
theorem dX9_names_111 : decode cX9_names 111 = .ok (.iload 4, 2) := by decide +kernel
theorem dX9_names_113 : decode cX9_names 113 = .ok (.iload 5, 2) := by decide +kernel
theorem dX9_names_115 : decode cX9_names 115 = .ok (.invokevirtual 105, 3) := by decide +kernel
theorem dX9_names_118 : decode cX9_names 118 = .ok (.ireturn, 1) := by decide +kernel
theorem dX9_back_0 : decode cX9_back 0 = .ok (.aload_n 0, 1) := by decide +kernel
theorem dX9_back_1 : decode cX9_back 1 = .ok (.getfield 14, 3) := by decide +kernel
theorem dX9_back_4 : decode cX9_back 4 = .ok (.iload_n 1, 1) := by decide +kernel
theorem dX9_back_5 : decode cX9_back 5 = .ok (.invokevirtual 79, 3) := by decide +kernel
theorem dX9_back_8 : decode cX9_back 8 = .ok (.ifCond .eq 10, 3) := by decide +kernel
theorem dX9_back_11 : decode cX9_back 11 = .ok (.iload_n 2, 1) := by decide +kernel
theorem dX9_back_12 : decode cX9_back 12 = .ok (.invokestatic 83, 3) := by decide +kernel
theorem dX9_back_15 : decode cX9_back 15 = .ok (.ifCond .ne 5, 3) := by decide +kernel
theorem dX9_back_18 : decode cX9_back 18 = .ok (.iconst (-1), 1) := by decide +kernel
theorem dX9_back_19 : decode cX9_back 19 = .ok (.ireturn, 1) := by decide +kernel
theorem dX9_back_20 : decode cX9_back 20 = .ok (.iload_n 3, 1) := by decide +kernel
theorem dX9_back_21 : decode cX9_back 21 = .ok (.ifCond .lt 9, 3) := by decide +kernel
theorem dX9_back_24 : decode cX9_back 24 = .ok (.iload_n 3, 1) := by decide +kernel
theorem dX9_back_25 : decode cX9_back 25 = .ok (.bipush 100, 2) := by decide +kernel
theorem dX9_back_27 : decode cX9_back 27 = .ok (.if_icmp .le 6, 3) := by decide +kernel
theorem dX9_back_30 : decode cX9_back 30 = .ok (.bipush (-2), 2) := by decide +kernel
theorem dX9_back_32 : decode cX9_back 32 = .ok (.ireturn, 1) := by decide +kernel
theorem dX9_back_33 : decode cX9_back 33 = .ok (.iload_n 1, 1) := by decide +kernel
theorem dX9_back_34 : decode cX9_back 34 = .ok (.iload_n 2, 1) := by decide +kernel
theorem dX9_back_35 : decode cX9_back 35 = .ok (.invokestatic 94, 3) := by decide +kernel
theorem dX9_back_38 : decode cX9_back 38 = .ok (.istore 4, 2) := by decide +kernel
theorem dX9_back_40 : decode cX9_back 40 = .ok (.aload_n 0, 1) := by decide +kernel
theorem dX9_back_41 : decode cX9_back 41 = .ok (.getfield 14, 3) := by decide +kernel
theorem dX9_back_44 : decode cX9_back 44 = .ok (.getfield 109, 3) := by decide +kernel
theorem dX9_back_47 : decode cX9_back 47 = .ok (.iload 4, 2) := by decide +kernel
theorem dX9_back_49 : decode cX9_back 49 = .ok (.iaload, 1) := by decide +kernel
theorem dX9_back_50 : decode cX9_back 50 = .ok (.istore 5, 2) := by decide +kernel
theorem dX9_back_52 : decode cX9_back 52 = .ok (.aload_n 0, 1) := by decide +kernel
theorem dX9_back_53 : decode cX9_back 53 = .ok (.getfield 14, 3) := by decide +kernel
theorem dX9_back_56 : decode cX9_back 56 = .ok (.getfield 109, 3) := by decide +kernel
theorem dX9_back_59 : decode cX9_back 59 = .ok (.iload 4, 2) := by decide +kernel
theorem dX9_back_61 : decode cX9_back 61 = .ok (.iload_n 3, 1) := by decide +kernel
theorem dX9_back_62 : decode cX9_back 62 = .ok (.iastore, 1) := by decide +kernel
theorem dX9_back_63 : decode cX9_back 63 = .ok (.iload 5, 2) := by decide +kernel
theorem dX9_back_65 : decode cX9_back 65 = .ok (.ireturn, 1) := by decide +kernel
theorem dX9_pass_0 : decode cX9_pass 0 = .ok (.iload_n 1, 1) := by decide +kernel
theorem dX9_pass_1 : decode cX9_pass 1 = .ok (.iconst 1, 1) := by decide +kernel
theorem dX9_pass_2 : decode cX9_pass 2 = .ok (.if_icmp .lt 23, 3) := by decide +kernel
theorem dX9_pass_5 : decode cX9_pass 5 = .ok (.iload_n 1, 1) := by decide +kernel
theorem dX9_pass_6 : decode cX9_pass 6 = .ok (.bipush 20, 2) := by decide +kernel
theorem dX9_pass_8 : decode cX9_pass 8 = .ok (.if_icmp .gt 17, 3) := by decide +kernel
theorem dX9_pass_11 : decode cX9_pass 11 = .ok (.aload_n 0, 1) := by decide +kernel
theorem dX9_pass_12 : decode cX9_pass 12 = .ok (.getfield 14, 3) := by decide +kernel
theorem dX9_pass_15 : decode cX9_pass 15 = .ok (.getfield 112, 3) := by decide +kernel
theorem dX9_pass_18 : decode cX9_pass 18 = .ok (.iload_n 1, 1) := by decide +kernel
theorem dX9_pass_19 : decode cX9_pass 19 = .ok (.iadd, 1) := by decide +kernel
theorem dX9_pass_20 : decode cX9_pass 20 = .ok (.bipush 99, 2) := by decide +kernel
theorem dX9_pass_22 : decode cX9_pass 22 = .ok (.if_icmp .le 6, 3) := by decide +kernel
theorem dX9_pass_25 : decode cX9_pass 25 = .ok (.bipush (-2), 2) := by decide +kernel
theorem dX9_pass_27 : decode cX9_pass 27 = .ok (.ireturn, 1) := by decide +kernel
theorem dX9_pass_28 : decode cX9_pass 28 = .ok (.aload_n 0, 1) := by decide +kernel
theorem dX9_pass_29 : decode cX9_pass 29 = .ok (.getfield 14, 3) := by decide +kernel
theorem dX9_pass_32 : decode cX9_pass 32 = .ok (.dup, 1) := by decide +kernel
theorem dX9_pass_33 : decode cX9_pass 33 = .ok (.getfield 112, 3) := by decide +kernel
theorem dX9_pass_36 : decode cX9_pass 36 = .ok (.iload_n 1, 1) := by decide +kernel
theorem dX9_pass_37 : decode cX9_pass 37 = .ok (.iadd, 1) := by decide +kernel
theorem dX9_pass_38 : decode cX9_pass 38 = .ok (.putfield 112, 3) := by decide +kernel
theorem dX9_pass_41 : decode cX9_pass 41 = .ok (.aload_n 0, 1) := by decide +kernel
theorem dX9_pass_42 : decode cX9_pass 42 = .ok (.getfield 14, 3) := by decide +kernel
theorem dX9_pass_45 : decode cX9_pass 45 = .ok (.getfield 112, 3) := by decide +kernel
theorem dX9_pass_48 : decode cX9_pass 48 = .ok (.ireturn, 1) := by decide +kernel
theorem dX9_of_0 : decode cX9_of 0 = .ok (.aload_n 0, 1) := by decide +kernel
theorem dX9_of_1 : decode cX9_of 1 = .ok (.getfield 14, 3) := by decide +kernel
theorem dX9_of_4 : decode cX9_of 4 = .ok (.iload_n 1, 1) := by decide +kernel
theorem dX9_of_5 : decode cX9_of 5 = .ok (.invokevirtual 79, 3) := by decide +kernel
theorem dX9_of_8 : decode cX9_of 8 = .ok (.ifCond .eq 10, 3) := by decide +kernel
theorem dX9_of_11 : decode cX9_of 11 = .ok (.iload_n 2, 1) := by decide +kernel
theorem dX9_of_12 : decode cX9_of 12 = .ok (.invokestatic 83, 3) := by decide +kernel
theorem dX9_of_15 : decode cX9_of 15 = .ok (.ifCond .ne 5, 3) := by decide +kernel
theorem dX9_of_18 : decode cX9_of 18 = .ok (.iconst (-1), 1) := by decide +kernel
theorem dX9_of_19 : decode cX9_of 19 = .ok (.ireturn, 1) := by decide +kernel
theorem dX9_of_20 : decode cX9_of 20 = .ok (.iload_n 1, 1) := by decide +kernel
theorem dX9_of_21 : decode cX9_of 21 = .ok (.iload_n 2, 1) := by decide +kernel
theorem dX9_of_22 : decode cX9_of 22 = .ok (.invokestatic 94, 3) := by decide +kernel
theorem dX9_of_25 : decode cX9_of 25 = .ok (.istore 4, 2) := by decide +kernel
theorem dX9_of_27 : decode cX9_of 27 = .ok (.iload_n 3, 1) := by decide +kernel
theorem dX9_of_28 : decode cX9_of 28 = .ok (.tableswitch 120 0 6 #[44, 55, 66, 77, 88, 99, 109], 44) := by decide +kernel
theorem dX9_of_72 : decode cX9_of 72 = .ok (.aload_n 0, 1) := by decide +kernel
theorem dX9_of_73 : decode cX9_of 73 = .ok (.getfield 14, 3) := by decide +kernel
theorem dX9_of_76 : decode cX9_of 76 = .ok (.getfield 115, 3) := by decide +kernel
theorem dX9_of_79 : decode cX9_of 79 = .ok (.iload 4, 2) := by decide +kernel
theorem dX9_of_81 : decode cX9_of 81 = .ok (.iaload, 1) := by decide +kernel
theorem dX9_of_82 : decode cX9_of 82 = .ok (.ireturn, 1) := by decide +kernel
theorem dX9_of_83 : decode cX9_of 83 = .ok (.aload_n 0, 1) := by decide +kernel
theorem dX9_of_84 : decode cX9_of 84 = .ok (.getfield 14, 3) := by decide +kernel
theorem dX9_of_87 : decode cX9_of 87 = .ok (.getfield 109, 3) := by decide +kernel
theorem dX9_of_90 : decode cX9_of 90 = .ok (.iload 4, 2) := by decide +kernel
theorem dX9_of_92 : decode cX9_of 92 = .ok (.iaload, 1) := by decide +kernel
theorem dX9_of_93 : decode cX9_of 93 = .ok (.ireturn, 1) := by decide +kernel
theorem dX9_of_94 : decode cX9_of 94 = .ok (.aload_n 0, 1) := by decide +kernel
theorem dX9_of_95 : decode cX9_of 95 = .ok (.getfield 14, 3) := by decide +kernel
theorem dX9_of_98 : decode cX9_of 98 = .ok (.getfield 118, 3) := by decide +kernel
theorem dX9_of_101 : decode cX9_of 101 = .ok (.iload 4, 2) := by decide +kernel
theorem dX9_of_103 : decode cX9_of 103 = .ok (.iaload, 1) := by decide +kernel
theorem dX9_of_104 : decode cX9_of 104 = .ok (.ireturn, 1) := by decide +kernel
theorem dX9_of_105 : decode cX9_of 105 = .ok (.aload_n 0, 1) := by decide +kernel
theorem dX9_of_106 : decode cX9_of 106 = .ok (.getfield 14, 3) := by decide +kernel
theorem dX9_of_109 : decode cX9_of 109 = .ok (.getfield 121, 3) := by decide +kernel
theorem dX9_of_112 : decode cX9_of 112 = .ok (.iload 4, 2) := by decide +kernel
theorem dX9_of_114 : decode cX9_of 114 = .ok (.iaload, 1) := by decide +kernel
theorem dX9_of_115 : decode cX9_of 115 = .ok (.ireturn, 1) := by decide +kernel
theorem dX9_of_116 : decode cX9_of 116 = .ok (.aload_n 0, 1) := by decide +kernel
theorem dX9_of_117 : decode cX9_of 117 = .ok (.getfield 14, 3) := by decide +kernel
theorem dX9_of_120 : decode cX9_of 120 = .ok (.getfield 124, 3) := by decide +kernel
theorem dX9_of_123 : decode cX9_of 123 = .ok (.iload 4, 2) := by decide +kernel
theorem dX9_of_125 : decode cX9_of 125 = .ok (.iaload, 1) := by decide +kernel
theorem dX9_of_126 : decode cX9_of 126 = .ok (.ireturn, 1) := by decide +kernel
theorem dX9_of_127 : decode cX9_of 127 = .ok (.aload_n 0, 1) := by decide +kernel
theorem dX9_of_128 : decode cX9_of 128 = .ok (.getfield 14, 3) := by decide +kernel
theorem dX9_of_131 : decode cX9_of 131 = .ok (.iload_n 1, 1) := by decide +kernel
theorem dX9_of_132 : decode cX9_of 132 = .ok (.iload_n 2, 1) := by decide +kernel
theorem dX9_of_133 : decode cX9_of 133 = .ok (.invokevirtual 86, 3) := by decide +kernel
theorem dX9_of_136 : decode cX9_of 136 = .ok (.ireturn, 1) := by decide +kernel
theorem dX9_of_137 : decode cX9_of 137 = .ok (.aload_n 0, 1) := by decide +kernel
theorem dX9_of_138 : decode cX9_of 138 = .ok (.getfield 14, 3) := by decide +kernel
theorem dX9_of_141 : decode cX9_of 141 = .ok (.getfield 90, 3) := by decide +kernel
theorem dX9_of_144 : decode cX9_of 144 = .ok (.iload 4, 2) := by decide +kernel
theorem dX9_of_146 : decode cX9_of 146 = .ok (.iaload, 1) := by decide +kernel
theorem dX9_of_147 : decode cX9_of 147 = .ok (.ireturn, 1) := by decide +kernel
theorem dX9_of_148 : decode cX9_of 148 = .ok (.iconst (-1), 1) := by decide +kernel
theorem dX9_of_149 : decode cX9_of 149 = .ok (.ireturn, 1) := by decide +kernel
theorem dX9_feed_0 : decode cX9_feed 0 = .ok (.iload_n 2, 1) := by decide +kernel
theorem dX9_feed_1 : decode cX9_feed 1 = .ok (.ifCond .lt 8, 3) := by decide +kernel
theorem dX9_feed_4 : decode cX9_feed 4 = .ok (.iload_n 2, 1) := by decide +kernel
theorem dX9_feed_5 : decode cX9_feed 5 = .ok (.iconst 4, 1) := by decide +kernel
theorem dX9_feed_6 : decode cX9_feed 6 = .ok (.if_icmp .le 6, 3) := by decide +kernel
theorem dX9_feed_9 : decode cX9_feed 9 = .ok (.bipush (-2), 2) := by decide +kernel
theorem dX9_feed_11 : decode cX9_feed 11 = .ok (.ireturn, 1) := by decide +kernel
theorem dX9_feed_12 : decode cX9_feed 12 = .ok (.aload_n 0, 1) := by decide +kernel
theorem dX9_feed_13 : decode cX9_feed 13 = .ok (.getfield 21, 3) := by decide +kernel
theorem dX9_feed_16 : decode cX9_feed 16 = .ok (.getfield 127, 3) := by decide +kernel
theorem dX9_feed_19 : decode cX9_feed 19 = .ok (.iload_n 2, 1) := by decide +kernel
theorem dX9_feed_20 : decode cX9_feed 20 = .ok (.iadd, 1) := by decide +kernel
theorem dX9_feed_21 : decode cX9_feed 21 = .ok (.bipush 100, 2) := by decide +kernel
theorem dX9_feed_23 : decode cX9_feed 23 = .ok (.if_icmp .le 6, 3) := by decide +kernel
theorem dX9_feed_26 : decode cX9_feed 26 = .ok (.bipush (-4), 2) := by decide +kernel
theorem dX9_feed_28 : decode cX9_feed 28 = .ok (.ireturn, 1) := by decide +kernel
theorem dX9_feed_29 : decode cX9_feed 29 = .ok (.iload_n 2, 1) := by decide +kernel
theorem dX9_feed_30 : decode cX9_feed 30 = .ok (.iconst 1, 1) := by decide +kernel
theorem dX9_feed_31 : decode cX9_feed 31 = .ok (.isub, 1) := by decide +kernel
theorem dX9_feed_32 : decode cX9_feed 32 = .ok (.istore_n 3, 1) := by decide +kernel
theorem dX9_feed_33 : decode cX9_feed 33 = .ok (.iload_n 3, 1) := by decide +kernel
theorem dX9_feed_34 : decode cX9_feed 34 = .ok (.ifCond .lt 26, 3) := by decide +kernel
theorem dX9_feed_37 : decode cX9_feed 37 = .ok (.aload_n 0, 1) := by decide +kernel
theorem dX9_feed_38 : decode cX9_feed 38 = .ok (.getfield 21, 3) := by decide +kernel
theorem dX9_feed_41 : decode cX9_feed 41 = .ok (.iload_n 1, 1) := by decide +kernel
theorem dX9_feed_42 : decode cX9_feed 42 = .ok (.bipush 8, 2) := by decide +kernel
theorem dX9_feed_44 : decode cX9_feed 44 = .ok (.iload_n 3, 1) := by decide +kernel
theorem dX9_feed_45 : decode cX9_feed 45 = .ok (.imul, 1) := by decide +kernel
theorem dX9_feed_46 : decode cX9_feed 46 = .ok (.iushr, 1) := by decide +kernel
theorem dX9_feed_47 : decode cX9_feed 47 = .ok (.sipush 255, 3) := by decide +kernel
theorem dX9_feed_50 : decode cX9_feed 50 = .ok (.iand, 1) := by decide +kernel
theorem dX9_feed_51 : decode cX9_feed 51 = .ok (.invokevirtual 130, 3) := by decide +kernel
theorem dX9_feed_54 : decode cX9_feed 54 = .ok (.iinc 3 (-1), 3) := by decide +kernel
theorem dX9_feed_57 : decode cX9_feed 57 = .ok (.goto (-24), 3) := by decide +kernel
theorem dX9_feed_60 : decode cX9_feed 60 = .ok (.aload_n 0, 1) := by decide +kernel
theorem dX9_feed_61 : decode cX9_feed 61 = .ok (.getfield 21, 3) := by decide +kernel
theorem dX9_feed_64 : decode cX9_feed 64 = .ok (.getfield 127, 3) := by decide +kernel
theorem dX9_feed_67 : decode cX9_feed 67 = .ok (.ireturn, 1) := by decide +kernel
theorem dX9_hall_0 : decode cX9_hall 0 = .ok (.aload_n 0, 1) := by decide +kernel
theorem dX9_hall_1 : decode cX9_hall 1 = .ok (.getfield 21, 3) := by decide +kernel
theorem dX9_hall_4 : decode cX9_hall 4 = .ok (.invokevirtual 133, 3) := by decide +kernel
theorem dX9_hall_7 : decode cX9_hall 7 = .ok (.istore_n 1, 1) := by decide +kernel
theorem dX9_hall_8 : decode cX9_hall 8 = .ok (.aload_n 0, 1) := by decide +kernel
theorem dX9_hall_9 : decode cX9_hall 9 = .ok (.getfield 21, 3) := by decide +kernel
theorem dX9_hall_12 : decode cX9_hall 12 = .ok (.iconst 0, 1) := by decide +kernel
theorem dX9_hall_13 : decode cX9_hall 13 = .ok (.putfield 127, 3) := by decide +kernel
theorem dX9_hall_16 : decode cX9_hall 16 = .ok (.iload_n 1, 1) := by decide +kernel
theorem dX9_hall_17 : decode cX9_hall 17 = .ok (.iconst (-1), 1) := by decide +kernel
theorem dX9_hall_18 : decode cX9_hall 18 = .ok (.if_icmp .eq 8, 3) := by decide +kernel
theorem dX9_hall_21 : decode cX9_hall 21 = .ok (.bipush (-10), 2) := by decide +kernel
theorem dX9_hall_23 : decode cX9_hall 23 = .ok (.iload_n 1, 1) := by decide +kernel
theorem dX9_hall_24 : decode cX9_hall 24 = .ok (.isub, 1) := by decide +kernel
theorem dX9_hall_25 : decode cX9_hall 25 = .ok (.ireturn, 1) := by decide +kernel
theorem dX9_hall_26 : decode cX9_hall 26 = .ok (.aload_n 0, 1) := by decide +kernel
theorem dX9_hall_27 : decode cX9_hall 27 = .ok (.getfield 21, 3) := by decide +kernel
theorem dX9_hall_30 : decode cX9_hall 30 = .ok (.aload_n 0, 1) := by decide +kernel
theorem dX9_hall_31 : decode cX9_hall 31 = .ok (.getfield 30, 3) := by decide +kernel
theorem dX9_hall_34 : decode cX9_hall 34 = .ok (.aload_n 0, 1) := by decide +kernel
theorem dX9_hall_35 : decode cX9_hall 35 = .ok (.getfield 21, 3) := by decide +kernel
theorem dX9_hall_38 : decode cX9_hall 38 = .ok (.getfield 137, 3) := by decide +kernel
theorem dX9_hall_41 : decode cX9_hall 41 = .ok (.invokevirtual 141, 3) := by decide +kernel
theorem dX9_hall_44 : decode cX9_hall 44 = .ok (.putfield 137, 3) := by decide +kernel
theorem dX9_hall_47 : decode cX9_hall 47 = .ok (.aload_n 0, 1) := by decide +kernel
theorem dX9_hall_48 : decode cX9_hall 48 = .ok (.getfield 30, 3) := by decide +kernel
theorem dX9_hall_51 : decode cX9_hall 51 = .ok (.getfield 145, 3) := by decide +kernel
theorem dX9_hall_54 : decode cX9_hall 54 = .ok (.ireturn, 1) := by decide +kernel
theorem dX9_barred_0 : decode cX9_barred 0 = .ok (.aload_n 0, 1) := by decide +kernel
theorem dX9_barred_1 : decode cX9_barred 1 = .ok (.getfield 14, 3) := by decide +kernel
theorem dX9_barred_4 : decode cX9_barred 4 = .ok (.iload_n 1, 1) := by decide +kernel
theorem dX9_barred_5 : decode cX9_barred 5 = .ok (.invokevirtual 79, 3) := by decide +kernel
theorem dX9_barred_8 : decode cX9_barred 8 = .ok (.ifCond .eq 21, 3) := by decide +kernel
theorem dX9_barred_11 : decode cX9_barred 11 = .ok (.aload_n 0, 1) := by decide +kernel
theorem dX9_barred_12 : decode cX9_barred 12 = .ok (.getfield 14, 3) := by decide +kernel
theorem dX9_barred_15 : decode cX9_barred 15 = .ok (.iload_n 2, 1) := by decide +kernel
theorem dX9_barred_16 : decode cX9_barred 16 = .ok (.invokevirtual 79, 3) := by decide +kernel
theorem dX9_barred_19 : decode cX9_barred 19 = .ok (.ifCond .eq 10, 3) := by decide +kernel
theorem dX9_barred_22 : decode cX9_barred 22 = .ok (.iload_n 3, 1) := by decide +kernel
theorem dX9_barred_23 : decode cX9_barred 23 = .ok (.invokestatic 83, 3) := by decide +kernel
theorem dX9_barred_26 : decode cX9_barred 26 = .ok (.ifCond .ne 5, 3) := by decide +kernel
theorem dX9_barred_29 : decode cX9_barred 29 = .ok (.iconst (-1), 1) := by decide +kernel
theorem dX9_barred_30 : decode cX9_barred 30 = .ok (.ireturn, 1) := by decide +kernel
theorem dX9_barred_31 : decode cX9_barred 31 = .ok (.iload_n 1, 1) := by decide +kernel
theorem dX9_barred_32 : decode cX9_barred 32 = .ok (.iload_n 2, 1) := by decide +kernel
theorem dX9_barred_33 : decode cX9_barred 33 = .ok (.if_icmp .ne 6, 3) := by decide +kernel
theorem dX9_barred_36 : decode cX9_barred 36 = .ok (.bipush (-2), 2) := by decide +kernel
theorem dX9_barred_38 : decode cX9_barred 38 = .ok (.ireturn, 1) := by decide +kernel
theorem dX9_barred_39 : decode cX9_barred 39 = .ok (.aload_n 0, 1) := by decide +kernel
theorem dX9_barred_40 : decode cX9_barred 40 = .ok (.getfield 30, 3) := by decide +kernel
theorem dX9_barred_43 : decode cX9_barred 43 = .ok (.iload_n 1, 1) := by decide +kernel
theorem dX9_barred_44 : decode cX9_barred 44 = .ok (.iload_n 2, 1) := by decide +kernel
theorem dX9_barred_45 : decode cX9_barred 45 = .ok (.iload_n 3, 1) := by decide +kernel
theorem dX9_barred_46 : decode cX9_barred 46 = .ok (.invokevirtual 148, 3) := by decide +kernel
theorem dX9_barred_49 : decode cX9_barred 49 = .ok (.ifCond .eq 7, 3) := by decide +kernel
theorem dX9_barred_52 : decode cX9_barred 52 = .ok (.iconst 1, 1) := by decide +kernel
theorem dX9_barred_53 : decode cX9_barred 53 = .ok (.goto 4, 3) := by decide +kernel
theorem dX9_barred_56 : decode cX9_barred 56 = .ok (.iconst 0, 1) := by decide +kernel
theorem dX9_barred_57 : decode cX9_barred 57 = .ok (.ireturn, 1) := by decide +kernel
theorem dX9_share_0 : decode cX9_share 0 = .ok (.aload_n 0, 1) := by decide +kernel
theorem dX9_share_1 : decode cX9_share 1 = .ok (.getfield 14, 3) := by decide +kernel
theorem dX9_share_4 : decode cX9_share 4 = .ok (.iload_n 1, 1) := by decide +kernel
theorem dX9_share_5 : decode cX9_share 5 = .ok (.invokevirtual 79, 3) := by decide +kernel
theorem dX9_share_8 : decode cX9_share 8 = .ok (.ifCond .eq 21, 3) := by decide +kernel
theorem dX9_share_11 : decode cX9_share 11 = .ok (.aload_n 0, 1) := by decide +kernel
theorem dX9_share_12 : decode cX9_share 12 = .ok (.getfield 14, 3) := by decide +kernel
theorem dX9_share_15 : decode cX9_share 15 = .ok (.iload_n 2, 1) := by decide +kernel
theorem dX9_share_16 : decode cX9_share 16 = .ok (.invokevirtual 79, 3) := by decide +kernel
theorem dX9_share_19 : decode cX9_share 19 = .ok (.ifCond .eq 10, 3) := by decide +kernel
theorem dX9_share_22 : decode cX9_share 22 = .ok (.iload_n 3, 1) := by decide +kernel
theorem dX9_share_23 : decode cX9_share 23 = .ok (.invokestatic 83, 3) := by decide +kernel
theorem dX9_share_26 : decode cX9_share 26 = .ok (.ifCond .ne 5, 3) := by decide +kernel
theorem dX9_share_29 : decode cX9_share 29 = .ok (.iconst (-1), 1) := by decide +kernel
theorem dX9_share_30 : decode cX9_share 30 = .ok (.ireturn, 1) := by decide +kernel
theorem dX9_share_31 : decode cX9_share 31 = .ok (.aload_n 0, 1) := by decide +kernel
theorem dX9_share_32 : decode cX9_share 32 = .ok (.getfield 39, 3) := by decide +kernel
theorem dX9_share_35 : decode cX9_share 35 = .ok (.iload_n 3, 1) := by decide +kernel
theorem dX9_share_36 : decode cX9_share 36 = .ok (.aload_n 0, 1) := by decide +kernel
theorem dX9_share_37 : decode cX9_share 37 = .ok (.getfield 14, 3) := by decide +kernel
theorem dX9_share_40 : decode cX9_share 40 = .ok (.getfield 112, 3) := by decide +kernel
theorem dX9_share_43 : decode cX9_share 43 = .ok (.iconst 0, 1) := by decide +kernel
theorem dX9_share_44 : decode cX9_share 44 = .ok (.iconst (-1), 1) := by decide +kernel
theorem dX9_share_45 : decode cX9_share 45 = .ok (.iconst (-1), 1) := by decide +kernel
theorem dX9_share_46 : decode cX9_share 46 = .ok (.invokevirtual 152, 3) := by decide +kernel
theorem dX9_share_49 : decode cX9_share 49 = .ok (.aload_n 0, 1) := by decide +kernel
theorem dX9_share_50 : decode cX9_share 50 = .ok (.getfield 39, 3) := by decide +kernel
theorem dX9_share_53 : decode cX9_share 53 = .ok (.getfield 156, 3) := by decide +kernel
theorem dX9_share_56 : decode cX9_share 56 = .ok (.iload_n 1, 1) := by decide +kernel
theorem dX9_share_57 : decode cX9_share 57 = .ok (.bipush 8, 2) := by decide +kernel
theorem dX9_share_59 : decode cX9_share 59 = .ok (.imul, 1) := by decide +kernel
theorem dX9_share_60 : decode cX9_share 60 = .ok (.iload_n 2, 1) := by decide +kernel
theorem dX9_share_61 : decode cX9_share 61 = .ok (.iadd, 1) := by decide +kernel
theorem dX9_share_62 : decode cX9_share 62 = .ok (.iaload, 1) := by decide +kernel
theorem dX9_share_63 : decode cX9_share 63 = .ok (.ireturn, 1) := by decide +kernel
theorem dX9_voices_0 : decode cX9_voices 0 = .ok (.aload_n 0, 1) := by decide +kernel
theorem dX9_voices_1 : decode cX9_voices 1 = .ok (.getfield 14, 3) := by decide +kernel
theorem dX9_voices_4 : decode cX9_voices 4 = .ok (.iload_n 1, 1) := by decide +kernel
theorem dX9_voices_5 : decode cX9_voices 5 = .ok (.invokevirtual 79, 3) := by decide +kernel
theorem dX9_voices_8 : decode cX9_voices 8 = .ok (.ifCond .eq 17, 3) := by decide +kernel
theorem dX9_voices_11 : decode cX9_voices 11 = .ok (.iload_n 2, 1) := by decide +kernel
theorem dX9_voices_12 : decode cX9_voices 12 = .ok (.invokestatic 83, 3) := by decide +kernel
theorem dX9_voices_15 : decode cX9_voices 15 = .ok (.ifCond .eq 10, 3) := by decide +kernel
theorem dX9_voices_18 : decode cX9_voices 18 = .ok (.iload_n 3, 1) := by decide +kernel
theorem dX9_voices_19 : decode cX9_voices 19 = .ok (.invokestatic 157, 3) := by decide +kernel
theorem dX9_voices_22 : decode cX9_voices 22 = .ok (.ifCond .ne 7, 3) := by decide +kernel
theorem dX9_voices_25 : decode cX9_voices 25 = .ok (.ldc2_w 160, 3) := by decide +kernel
theorem dX9_voices_28 : decode cX9_voices 28 = .ok (.lreturn, 1) := by decide +kernel
theorem dX9_voices_29 : decode cX9_voices 29 = .ok (.aload_n 0, 1) := by decide +kernel
theorem dX9_voices_30 : decode cX9_voices 30 = .ok (.getfield 48, 3) := by decide +kernel
theorem dX9_voices_33 : decode cX9_voices 33 = .ok (.iload_n 2, 1) := by decide +kernel
theorem dX9_voices_34 : decode cX9_voices 34 = .ok (.invokevirtual 162, 3) := by decide +kernel
theorem dX9_voices_37 : decode cX9_voices 37 = .ok (.aload_n 0, 1) := by decide +kernel
theorem dX9_voices_38 : decode cX9_voices 38 = .ok (.getfield 48, 3) := by decide +kernel
theorem dX9_voices_41 : decode cX9_voices 41 = .ok (.getfield 165, 3) := by decide +kernel
theorem dX9_voices_44 : decode cX9_voices 44 = .ok (.iload_n 1, 1) := by decide +kernel
theorem dX9_voices_45 : decode cX9_voices 45 = .ok (.laload, 1) := by decide +kernel
theorem dX9_voices_46 : decode cX9_voices 46 = .ok (.aload_n 0, 1) := by decide +kernel
theorem dX9_voices_47 : decode cX9_voices 47 = .ok (.getfield 48, 3) := by decide +kernel
theorem dX9_voices_50 : decode cX9_voices 50 = .ok (.getfield 169, 3) := by decide +kernel
theorem dX9_voices_53 : decode cX9_voices 53 = .ok (.iload_n 3, 1) := by decide +kernel
theorem dX9_voices_54 : decode cX9_voices 54 = .ok (.invokestatic 173, 3) := by decide +kernel
theorem dX9_voices_57 : decode cX9_voices 57 = .ok (.lreturn, 1) := by decide +kernel
theorem dX9_lost_0 : decode cX9_lost 0 = .ok (.iload_n 1, 1) := by decide +kernel
theorem dX9_lost_1 : decode cX9_lost 1 = .ok (.invokestatic 83, 3) := by decide +kernel
theorem dX9_lost_4 : decode cX9_lost 4 = .ok (.ifCond .ne 5, 3) := by decide +kernel
theorem dX9_lost_7 : decode cX9_lost 7 = .ok (.iconst (-1), 1) := by decide +kernel
theorem dX9_lost_8 : decode cX9_lost 8 = .ok (.ireturn, 1) := by decide +kernel
theorem dX9_lost_9 : decode cX9_lost 9 = .ok (.aload_n 0, 1) := by decide +kernel
theorem dX9_lost_10 : decode cX9_lost 10 = .ok (.getfield 39, 3) := by decide +kernel
theorem dX9_lost_13 : decode cX9_lost 13 = .ok (.iload_n 1, 1) := by decide +kernel
theorem dX9_lost_14 : decode cX9_lost 14 = .ok (.aload_n 0, 1) := by decide +kernel
theorem dX9_lost_15 : decode cX9_lost 15 = .ok (.getfield 14, 3) := by decide +kernel
theorem dX9_lost_18 : decode cX9_lost 18 = .ok (.getfield 112, 3) := by decide +kernel
theorem dX9_lost_21 : decode cX9_lost 21 = .ok (.iconst 0, 1) := by decide +kernel
theorem dX9_lost_22 : decode cX9_lost 22 = .ok (.iconst (-1), 1) := by decide +kernel
theorem dX9_lost_23 : decode cX9_lost 23 = .ok (.iconst (-1), 1) := by decide +kernel
theorem dX9_lost_24 : decode cX9_lost 24 = .ok (.invokevirtual 152, 3) := by decide +kernel
theorem dX9_lost_27 : decode cX9_lost 27 = .ok (.aload_n 0, 1) := by decide +kernel
theorem dX9_lost_28 : decode cX9_lost 28 = .ok (.getfield 39, 3) := by decide +kernel
theorem dX9_lost_31 : decode cX9_lost 31 = .ok (.getfield 177, 3) := by decide +kernel
theorem dX9_lost_34 : decode cX9_lost 34 = .ok (.aload_n 0, 1) := by decide +kernel
theorem dX9_lost_35 : decode cX9_lost 35 = .ok (.getfield 39, 3) := by decide +kernel
theorem dX9_lost_38 : decode cX9_lost 38 = .ok (.invokevirtual 180, 3) := by decide +kernel
theorem dX9_lost_41 : decode cX9_lost 41 = .ok (.iconst (-1), 1) := by decide +kernel
theorem dX9_lost_42 : decode cX9_lost 42 = .ok (.ixor, 1) := by decide +kernel
theorem dX9_lost_43 : decode cX9_lost 43 = .ok (.iand, 1) := by decide +kernel
theorem dX9_lost_44 : decode cX9_lost 44 = .ok (.ireturn, 1) := by decide +kernel
theorem dX9_decided_0 : decode cX9_decided 0 = .ok (.iload_n 1, 1) := by decide +kernel
theorem dX9_decided_1 : decode cX9_decided 1 = .ok (.invokestatic 83, 3) := by decide +kernel
theorem dX9_decided_4 : decode cX9_decided 4 = .ok (.ifCond .ne 5, 3) := by decide +kernel
theorem dX9_decided_7 : decode cX9_decided 7 = .ok (.iconst (-1), 1) := by decide +kernel
theorem dX9_decided_8 : decode cX9_decided 8 = .ok (.ireturn, 1) := by decide +kernel
theorem dX9_decided_9 : decode cX9_decided 9 = .ok (.aload_n 0, 1) := by decide +kernel
theorem dX9_decided_10 : decode cX9_decided 10 = .ok (.getfield 48, 3) := by decide +kernel
theorem dX9_decided_13 : decode cX9_decided 13 = .ok (.iload_n 1, 1) := by decide +kernel
theorem dX9_decided_14 : decode cX9_decided 14 = .ok (.invokevirtual 162, 3) := by decide +kernel
theorem dX9_decided_17 : decode cX9_decided 17 = .ok (.aload_n 0, 1) := by decide +kernel
theorem dX9_decided_18 : decode cX9_decided 18 = .ok (.getfield 48, 3) := by decide +kernel
theorem dX9_decided_21 : decode cX9_decided 21 = .ok (.aload_n 0, 1) := by decide +kernel
theorem dX9_decided_22 : decode cX9_decided 22 = .ok (.getfield 48, 3) := by decide +kernel
theorem dX9_decided_25 : decode cX9_decided 25 = .ok (.aload_n 0, 1) := by decide +kernel
theorem dX9_decided_26 : decode cX9_decided 26 = .ok (.getfield 14, 3) := by decide +kernel
theorem dX9_decided_29 : decode cX9_decided 29 = .ok (.getfield 183, 3) := by decide +kernel
theorem dX9_decided_32 : decode cX9_decided 32 = .ok (.iload_n 1, 1) := by decide +kernel
theorem dX9_decided_33 : decode cX9_decided 33 = .ok (.iaload, 1) := by decide +kernel
theorem dX9_decided_34 : decode cX9_decided 34 = .ok (.invokevirtual 186, 3) := by decide +kernel
theorem dX9_decided_37 : decode cX9_decided 37 = .ok (.invokevirtual 190, 3) := by decide +kernel
theorem dX9_decided_40 : decode cX9_decided 40 = .ok (.ifCond .eq 7, 3) := by decide +kernel
theorem dX9_decided_43 : decode cX9_decided 43 = .ok (.iconst 1, 1) := by decide +kernel
theorem dX9_decided_44 : decode cX9_decided 44 = .ok (.goto 4, 3) := by decide +kernel
theorem dX9_decided_47 : decode cX9_decided 47 = .ok (.iconst 0, 1) := by decide +kernel
theorem dX9_decided_48 : decode cX9_decided 48 = .ok (.ireturn, 1) := by decide +kernel
theorem dX9_turning_0 : decode cX9_turning 0 = .ok (.iload_n 1, 1) := by decide +kernel
theorem dX9_turning_1 : decode cX9_turning 1 = .ok (.invokestatic 83, 3) := by decide +kernel
theorem dX9_turning_4 : decode cX9_turning 4 = .ok (.ifCond .ne 5, 3) := by decide +kernel
theorem dX9_turning_7 : decode cX9_turning 7 = .ok (.iconst (-1), 1) := by decide +kernel
theorem dX9_turning_8 : decode cX9_turning 8 = .ok (.ireturn, 1) := by decide +kernel
theorem dX9_turning_9 : decode cX9_turning 9 = .ok (.aload_n 0, 1) := by decide +kernel
theorem dX9_turning_10 : decode cX9_turning 10 = .ok (.getfield 48, 3) := by decide +kernel
theorem dX9_turning_13 : decode cX9_turning 13 = .ok (.iload_n 1, 1) := by decide +kernel
theorem dX9_turning_14 : decode cX9_turning 14 = .ok (.invokevirtual 162, 3) := by decide +kernel
theorem dX9_turning_17 : decode cX9_turning 17 = .ok (.aload_n 0, 1) := by decide +kernel
theorem dX9_turning_18 : decode cX9_turning 18 = .ok (.getfield 14, 3) := by decide +kernel
theorem dX9_turning_21 : decode cX9_turning 21 = .ok (.getfield 183, 3) := by decide +kernel
theorem dX9_turning_24 : decode cX9_turning 24 = .ok (.iload_n 1, 1) := by decide +kernel
theorem dX9_turning_25 : decode cX9_turning 25 = .ok (.iaload, 1) := by decide +kernel
theorem dX9_turning_26 : decode cX9_turning 26 = .ok (.istore_n 2, 1) := by decide +kernel
theorem dX9_turning_27 : decode cX9_turning 27 = .ok (.aload_n 0, 1) := by decide +kernel
theorem dX9_turning_28 : decode cX9_turning 28 = .ok (.getfield 48, 3) := by decide +kernel
theorem dX9_turning_31 : decode cX9_turning 31 = .ok (.aload_n 0, 1) := by decide +kernel
theorem dX9_turning_32 : decode cX9_turning 32 = .ok (.getfield 48, 3) := by decide +kernel
theorem dX9_turning_35 : decode cX9_turning 35 = .ok (.iload_n 2, 1) := by decide +kernel
theorem dX9_turning_36 : decode cX9_turning 36 = .ok (.invokevirtual 186, 3) := by decide +kernel
theorem dX9_turning_39 : decode cX9_turning 39 = .ok (.invokevirtual 190, 3) := by decide +kernel
theorem dX9_turning_42 : decode cX9_turning 42 = .ok (.istore_n 3, 1) := by decide +kernel
theorem dX9_turning_43 : decode cX9_turning 43 = .ok (.iconst 0, 1) := by decide +kernel
theorem dX9_turning_44 : decode cX9_turning 44 = .ok (.istore 4, 2) := by decide +kernel
theorem dX9_turning_46 : decode cX9_turning 46 = .ok (.iconst 0, 1) := by decide +kernel
theorem dX9_turning_47 : decode cX9_turning 47 = .ok (.istore 5, 2) := by decide +kernel
theorem dX9_turning_49 : decode cX9_turning 49 = .ok (.iload 5, 2) := by decide +kernel
theorem dX9_turning_51 : decode cX9_turning 51 = .ok (.aload_n 0, 1) := by decide +kernel
theorem dX9_turning_52 : decode cX9_turning 52 = .ok (.getfield 14, 3) := by decide +kernel
theorem dX9_turning_55 : decode cX9_turning 55 = .ok (.getfield 75, 3) := by decide +kernel
theorem dX9_turning_58 : decode cX9_turning 58 = .ok (.if_icmp .ge 42, 3) := by decide +kernel
theorem dX9_turning_61 : decode cX9_turning 61 = .ok (.aload_n 0, 1) := by decide +kernel
theorem dX9_turning_62 : decode cX9_turning 62 = .ok (.getfield 48, 3) := by decide +kernel
theorem dX9_turning_65 : decode cX9_turning 65 = .ok (.aload_n 0, 1) := by decide +kernel
theorem dX9_turning_66 : decode cX9_turning 66 = .ok (.getfield 48, 3) := by decide +kernel
theorem dX9_turning_69 : decode cX9_turning 69 = .ok (.iload_n 2, 1) := by decide +kernel
theorem dX9_turning_70 : decode cX9_turning 70 = .ok (.iconst 1, 1) := by decide +kernel
theorem dX9_turning_71 : decode cX9_turning 71 = .ok (.iload 5, 2) := by decide +kernel
theorem dX9_turning_73 : decode cX9_turning 73 = .ok (.ishl, 1) := by decide +kernel
theorem dX9_turning_74 : decode cX9_turning 74 = .ok (.ixor, 1) := by decide +kernel
theorem dX9_turning_75 : decode cX9_turning 75 = .ok (.invokevirtual 186, 3) := by decide +kernel
theorem dX9_turning_78 : decode cX9_turning 78 = .ok (.invokevirtual 190, 3) := by decide +kernel
theorem dX9_turning_81 : decode cX9_turning 81 = .ok (.iload_n 3, 1) := by decide +kernel
theorem dX9_turning_82 : decode cX9_turning 82 = .ok (.if_icmp .eq 12, 3) := by decide +kernel
theorem dX9_turning_85 : decode cX9_turning 85 = .ok (.iload 4, 2) := by decide +kernel
theorem dX9_turning_87 : decode cX9_turning 87 = .ok (.iconst 1, 1) := by decide +kernel
theorem dX9_turning_88 : decode cX9_turning 88 = .ok (.iload 5, 2) := by decide +kernel
theorem dX9_turning_90 : decode cX9_turning 90 = .ok (.ishl, 1) := by decide +kernel
theorem dX9_turning_91 : decode cX9_turning 91 = .ok (.ior, 1) := by decide +kernel
theorem dX9_turning_92 : decode cX9_turning 92 = .ok (.istore 4, 2) := by decide +kernel
theorem dX9_turning_94 : decode cX9_turning 94 = .ok (.iinc 5 1, 3) := by decide +kernel
theorem dX9_turning_97 : decode cX9_turning 97 = .ok (.goto (-48), 3) := by decide +kernel
theorem dX9_turning_100 : decode cX9_turning 100 = .ok (.iload 4, 2) := by decide +kernel
theorem dX9_turning_102 : decode cX9_turning 102 = .ok (.ireturn, 1) := by decide +kernel
theorem dX9_power_0 : decode cX9_power 0 = .ok (.aload_n 0, 1) := by decide +kernel
theorem dX9_power_1 : decode cX9_power 1 = .ok (.getfield 14, 3) := by decide +kernel
theorem dX9_power_4 : decode cX9_power 4 = .ok (.iload_n 1, 1) := by decide +kernel
theorem dX9_power_5 : decode cX9_power 5 = .ok (.invokevirtual 79, 3) := by decide +kernel
theorem dX9_power_8 : decode cX9_power 8 = .ok (.ifCond .eq 10, 3) := by decide +kernel
theorem dX9_power_11 : decode cX9_power 11 = .ok (.iload_n 2, 1) := by decide +kernel
theorem dX9_power_12 : decode cX9_power 12 = .ok (.invokestatic 83, 3) := by decide +kernel
theorem dX9_power_15 : decode cX9_power 15 = .ok (.ifCond .ne 5, 3) := by decide +kernel
theorem dX9_power_18 : decode cX9_power 18 = .ok (.iconst (-1), 1) := by decide +kernel
theorem dX9_power_19 : decode cX9_power 19 = .ok (.ireturn, 1) := by decide +kernel
theorem dX9_power_20 : decode cX9_power 20 = .ok (.aload_n 0, 1) := by decide +kernel
theorem dX9_power_21 : decode cX9_power 21 = .ok (.getfield 48, 3) := by decide +kernel
theorem dX9_power_24 : decode cX9_power 24 = .ok (.iload_n 2, 1) := by decide +kernel
theorem dX9_power_25 : decode cX9_power 25 = .ok (.invokevirtual 162, 3) := by decide +kernel
theorem dX9_power_28 : decode cX9_power 28 = .ok (.aload_n 0, 1) := by decide +kernel
theorem dX9_power_29 : decode cX9_power 29 = .ok (.getfield 48, 3) := by decide +kernel
theorem dX9_power_32 : decode cX9_power 32 = .ok (.invokevirtual 194, 3) := by decide +kernel
theorem dX9_power_35 : decode cX9_power 35 = .ok (.iconst 1, 1) := by decide +kernel
theorem dX9_power_36 : decode cX9_power 36 = .ok (.iload_n 1, 1) := by decide +kernel
theorem dX9_power_37 : decode cX9_power 37 = .ok (.ishl, 1) := by decide +kernel
theorem dX9_power_38 : decode cX9_power 38 = .ok (.iconst (-1), 1) := by decide +kernel
theorem dX9_power_39 : decode cX9_power 39 = .ok (.ixor, 1) := by decide +kernel
theorem dX9_power_40 : decode cX9_power 40 = .ok (.iand, 1) := by decide +kernel
theorem dX9_power_41 : decode cX9_power 41 = .ok (.istore_n 3, 1) := by decide +kernel
theorem dX9_power_42 : decode cX9_power 42 = .ok (.iconst 0, 1) := by decide +kernel
theorem dX9_power_43 : decode cX9_power 43 = .ok (.istore 4, 2) := by decide +kernel
theorem dX9_power_45 : decode cX9_power 45 = .ok (.iconst 0, 1) := by decide +kernel
theorem dX9_power_46 : decode cX9_power 46 = .ok (.istore 5, 2) := by decide +kernel
theorem dX9_power_48 : decode cX9_power 48 = .ok (.iload 5, 2) := by decide +kernel
theorem dX9_power_50 : decode cX9_power 50 = .ok (.iload_n 3, 1) := by decide +kernel
theorem dX9_power_51 : decode cX9_power 51 = .ok (.if_icmp .gt 66, 3) := by decide +kernel
theorem dX9_power_54 : decode cX9_power 54 = .ok (.iload 5, 2) := by decide +kernel
theorem dX9_power_56 : decode cX9_power 56 = .ok (.iload_n 3, 1) := by decide +kernel
theorem dX9_power_57 : decode cX9_power 57 = .ok (.iconst (-1), 1) := by decide +kernel
theorem dX9_power_58 : decode cX9_power 58 = .ok (.ixor, 1) := by decide +kernel
theorem dX9_power_59 : decode cX9_power 59 = .ok (.iand, 1) := by decide +kernel
theorem dX9_power_60 : decode cX9_power 60 = .ok (.ifCond .eq 6, 3) := by decide +kernel
theorem dX9_power_63 : decode cX9_power 63 = .ok (.goto 48, 3) := by decide +kernel
theorem dX9_power_66 : decode cX9_power 66 = .ok (.aload_n 0, 1) := by decide +kernel
theorem dX9_power_67 : decode cX9_power 67 = .ok (.getfield 48, 3) := by decide +kernel
theorem dX9_power_70 : decode cX9_power 70 = .ok (.iload 5, 2) := by decide +kernel
theorem dX9_power_72 : decode cX9_power 72 = .ok (.invokevirtual 186, 3) := by decide +kernel
theorem dX9_power_75 : decode cX9_power 75 = .ok (.lstore 6, 2) := by decide +kernel
theorem dX9_power_77 : decode cX9_power 77 = .ok (.aload_n 0, 1) := by decide +kernel
theorem dX9_power_78 : decode cX9_power 78 = .ok (.getfield 48, 3) := by decide +kernel
theorem dX9_power_81 : decode cX9_power 81 = .ok (.lload 6, 2) := by decide +kernel
theorem dX9_power_83 : decode cX9_power 83 = .ok (.aload_n 0, 1) := by decide +kernel
theorem dX9_power_84 : decode cX9_power 84 = .ok (.getfield 48, 3) := by decide +kernel
theorem dX9_power_87 : decode cX9_power 87 = .ok (.getfield 165, 3) := by decide +kernel
theorem dX9_power_90 : decode cX9_power 90 = .ok (.iload_n 1, 1) := by decide +kernel
theorem dX9_power_91 : decode cX9_power 91 = .ok (.laload, 1) := by decide +kernel
theorem dX9_power_92 : decode cX9_power 92 = .ok (.ladd, 1) := by decide +kernel
theorem dX9_power_93 : decode cX9_power 93 = .ok (.invokevirtual 190, 3) := by decide +kernel
theorem dX9_power_96 : decode cX9_power 96 = .ok (.aload_n 0, 1) := by decide +kernel
theorem dX9_power_97 : decode cX9_power 97 = .ok (.getfield 48, 3) := by decide +kernel
theorem dX9_power_100 : decode cX9_power 100 = .ok (.lload 6, 2) := by decide +kernel
theorem dX9_power_102 : decode cX9_power 102 = .ok (.invokevirtual 190, 3) := by decide +kernel
theorem dX9_power_105 : decode cX9_power 105 = .ok (.if_icmp .eq 6, 3) := by decide +kernel
theorem dX9_power_108 : decode cX9_power 108 = .ok (.iinc 4 1, 3) := by decide +kernel
theorem dX9_power_111 : decode cX9_power 111 = .ok (.iinc 5 1, 3) := by decide +kernel
theorem dX9_power_114 : decode cX9_power 114 = .ok (.goto (-66), 3) := by decide +kernel
theorem dX9_power_117 : decode cX9_power 117 = .ok (.iload 4, 2) := by decide +kernel
theorem dX9_power_119 : decode cX9_power 119 = .ok (.ireturn, 1) := by decide +kernel
theorem dX9_few_0 : decode cX9_few 0 = .ok (.iload_n 1, 1) := by decide +kernel
theorem dX9_few_1 : decode cX9_few 1 = .ok (.invokestatic 83, 3) := by decide +kernel
theorem dX9_few_4 : decode cX9_few 4 = .ok (.ifCond .ne 5, 3) := by decide +kernel
theorem dX9_few_7 : decode cX9_few 7 = .ok (.iconst (-1), 1) := by decide +kernel
theorem dX9_few_8 : decode cX9_few 8 = .ok (.ireturn, 1) := by decide +kernel
theorem dX9_few_9 : decode cX9_few 9 = .ok (.aload_n 0, 1) := by decide +kernel
theorem dX9_few_10 : decode cX9_few 10 = .ok (.getfield 48, 3) := by decide +kernel
theorem dX9_few_13 : decode cX9_few 13 = .ok (.iload_n 1, 1) := by decide +kernel
theorem dX9_few_14 : decode cX9_few 14 = .ok (.invokevirtual 162, 3) := by decide +kernel
theorem dX9_few_17 : decode cX9_few 17 = .ok (.bipush (-5), 2) := by decide +kernel
theorem dX9_few_19 : decode cX9_few 19 = .ok (.istore_n 2, 1) := by decide +kernel
theorem dX9_few_20 : decode cX9_few 20 = .ok (.bipush 9, 2) := by decide +kernel
theorem dX9_few_22 : decode cX9_few 22 = .ok (.istore_n 3, 1) := by decide +kernel
theorem dX9_few_23 : decode cX9_few 23 = .ok (.iconst 0, 1) := by decide +kernel
theorem dX9_few_24 : decode cX9_few 24 = .ok (.istore 4, 2) := by decide +kernel
theorem dX9_few_26 : decode cX9_few 26 = .ok (.iload 4, 2) := by decide +kernel
theorem dX9_few_28 : decode cX9_few 28 = .ok (.aload_n 0, 1) := by decide +kernel
theorem dX9_few_29 : decode cX9_few 29 = .ok (.getfield 39, 3) := by decide +kernel
theorem dX9_few_32 : decode cX9_few 32 = .ok (.getfield 177, 3) := by decide +kernel
theorem dX9_few_35 : decode cX9_few 35 = .ok (.if_icmp .gt 47, 3) := by decide +kernel
theorem dX9_few_38 : decode cX9_few 38 = .ok (.iload 4, 2) := by decide +kernel
theorem dX9_few_40 : decode cX9_few 40 = .ok (.invokestatic 197, 3) := by decide +kernel
theorem dX9_few_43 : decode cX9_few 43 = .ok (.istore 5, 2) := by decide +kernel
theorem dX9_few_45 : decode cX9_few 45 = .ok (.iload 5, 2) := by decide +kernel
theorem dX9_few_47 : decode cX9_few 47 = .ok (.iload_n 3, 1) := by decide +kernel
theorem dX9_few_48 : decode cX9_few 48 = .ok (.if_icmp .ge 28, 3) := by decide +kernel
theorem dX9_few_51 : decode cX9_few 51 = .ok (.aload_n 0, 1) := by decide +kernel
theorem dX9_few_52 : decode cX9_few 52 = .ok (.getfield 48, 3) := by decide +kernel
theorem dX9_few_55 : decode cX9_few 55 = .ok (.aload_n 0, 1) := by decide +kernel
theorem dX9_few_56 : decode cX9_few 56 = .ok (.getfield 48, 3) := by decide +kernel
theorem dX9_few_59 : decode cX9_few 59 = .ok (.iload 4, 2) := by decide +kernel
theorem dX9_few_61 : decode cX9_few 61 = .ok (.invokevirtual 186, 3) := by decide +kernel
theorem dX9_few_64 : decode cX9_few 64 = .ok (.invokevirtual 190, 3) := by decide +kernel
theorem dX9_few_67 : decode cX9_few 67 = .ok (.ifCond .eq 9, 3) := by decide +kernel
theorem dX9_few_70 : decode cX9_few 70 = .ok (.iload 4, 2) := by decide +kernel
theorem dX9_few_72 : decode cX9_few 72 = .ok (.istore_n 2, 1) := by decide +kernel
theorem dX9_few_73 : decode cX9_few 73 = .ok (.iload 5, 2) := by decide +kernel
theorem dX9_few_75 : decode cX9_few 75 = .ok (.istore_n 3, 1) := by decide +kernel
theorem dX9_few_76 : decode cX9_few 76 = .ok (.iinc 4 1, 3) := by decide +kernel
theorem dX9_few_79 : decode cX9_few 79 = .ok (.goto (-53), 3) := by decide +kernel
theorem dX9_few_82 : decode cX9_few 82 = .ok (.iload_n 2, 1) := by decide +kernel
theorem dX9_few_83 : decode cX9_few 83 = .ok (.ireturn, 1) := by decide +kernel
theorem dX9_best_0 : decode cX9_best 0 = .ok (.iload_n 1, 1) := by decide +kernel
theorem dX9_best_1 : decode cX9_best 1 = .ok (.invokestatic 83, 3) := by decide +kernel
theorem dX9_best_4 : decode cX9_best 4 = .ok (.ifCond .eq 19, 3) := by decide +kernel
theorem dX9_best_7 : decode cX9_best 7 = .ok (.iload_n 2, 1) := by decide +kernel
theorem dX9_best_8 : decode cX9_best 8 = .ok (.iconst (-1), 1) := by decide +kernel
theorem dX9_best_9 : decode cX9_best 9 = .ok (.if_icmp .eq 16, 3) := by decide +kernel
theorem dX9_best_12 : decode cX9_best 12 = .ok (.aload_n 0, 1) := by decide +kernel
theorem dX9_best_13 : decode cX9_best 13 = .ok (.getfield 14, 3) := by decide +kernel
theorem dX9_best_16 : decode cX9_best 16 = .ok (.iload_n 2, 1) := by decide +kernel
theorem dX9_best_17 : decode cX9_best 17 = .ok (.invokevirtual 79, 3) := by decide +kernel
theorem dX9_best_20 : decode cX9_best 20 = .ok (.ifCond .ne 5, 3) := by decide +kernel
theorem dX9_best_23 : decode cX9_best 23 = .ok (.iconst (-1), 1) := by decide +kernel
theorem dX9_best_24 : decode cX9_best 24 = .ok (.ireturn, 1) := by decide +kernel
theorem dX9_best_25 : decode cX9_best 25 = .ok (.aload_n 0, 1) := by decide +kernel
theorem dX9_best_26 : decode cX9_best 26 = .ok (.getfield 39, 3) := by decide +kernel
theorem dX9_best_29 : decode cX9_best 29 = .ok (.iload_n 1, 1) := by decide +kernel
theorem dX9_best_30 : decode cX9_best 30 = .ok (.aload_n 0, 1) := by decide +kernel
theorem dX9_best_31 : decode cX9_best 31 = .ok (.getfield 14, 3) := by decide +kernel
theorem dX9_best_34 : decode cX9_best 34 = .ok (.getfield 112, 3) := by decide +kernel
theorem dX9_best_37 : decode cX9_best 37 = .ok (.iconst 0, 1) := by decide +kernel
theorem dX9_best_38 : decode cX9_best 38 = .ok (.iconst (-1), 1) := by decide +kernel
theorem dX9_best_39 : decode cX9_best 39 = .ok (.iconst (-1), 1) := by decide +kernel
theorem dX9_best_40 : decode cX9_best 40 = .ok (.invokevirtual 203, 3) := by decide +kernel
theorem dX9_best_43 : decode cX9_best 43 = .ok (.iload_n 2, 1) := by decide +kernel
theorem dX9_best_44 : decode cX9_best 44 = .ok (.iconst (-1), 1) := by decide +kernel
theorem dX9_best_45 : decode cX9_best 45 = .ok (.if_icmp .eq 19, 3) := by decide +kernel
theorem dX9_best_48 : decode cX9_best 48 = .ok (.aload_n 0, 1) := by decide +kernel
theorem dX9_best_49 : decode cX9_best 49 = .ok (.getfield 39, 3) := by decide +kernel
theorem dX9_best_52 : decode cX9_best 52 = .ok (.getfield 206, 3) := by decide +kernel
theorem dX9_best_55 : decode cX9_best 55 = .ok (.iload_n 2, 1) := by decide +kernel
theorem dX9_best_56 : decode cX9_best 56 = .ok (.ishr, 1) := by decide +kernel
theorem dX9_best_57 : decode cX9_best 57 = .ok (.iconst 1, 1) := by decide +kernel
theorem dX9_best_58 : decode cX9_best 58 = .ok (.iand, 1) := by decide +kernel
theorem dX9_best_59 : decode cX9_best 59 = .ok (.ifCond .ne 5, 3) := by decide +kernel
theorem dX9_best_62 : decode cX9_best 62 = .ok (.iconst (-1), 1) := by decide +kernel
theorem dX9_best_63 : decode cX9_best 63 = .ok (.ireturn, 1) := by decide +kernel
theorem dX9_best_64 : decode cX9_best 64 = .ok (.aload_n 0, 1) := by decide +kernel
theorem dX9_best_65 : decode cX9_best 65 = .ok (.getfield 39, 3) := by decide +kernel
theorem dX9_best_68 : decode cX9_best 68 = .ok (.iconst 1, 1) := by decide +kernel
theorem dX9_best_69 : decode cX9_best 69 = .ok (.invokevirtual 209, 3) := by decide +kernel
theorem dX9_best_72 : decode cX9_best 72 = .ok (.iload_n 2, 1) := by decide +kernel
theorem dX9_best_73 : decode cX9_best 73 = .ok (.iconst (-1), 1) := by decide +kernel
theorem dX9_best_74 : decode cX9_best 74 = .ok (.if_icmp .ne 11, 3) := by decide +kernel
theorem dX9_best_77 : decode cX9_best 77 = .ok (.aload_n 0, 1) := by decide +kernel
theorem dX9_best_78 : decode cX9_best 78 = .ok (.getfield 39, 3) := by decide +kernel
theorem dX9_best_81 : decode cX9_best 81 = .ok (.getfield 213, 3) := by decide +kernel
theorem dX9_best_84 : decode cX9_best 84 = .ok (.ireturn, 1) := by decide +kernel
theorem dX9_best_85 : decode cX9_best 85 = .ok (.aload_n 0, 1) := by decide +kernel
theorem dX9_best_86 : decode cX9_best 86 = .ok (.getfield 39, 3) := by decide +kernel
theorem dX9_best_89 : decode cX9_best 89 = .ok (.getfield 216, 3) := by decide +kernel
theorem dX9_best_92 : decode cX9_best 92 = .ok (.ifCond .ge 8, 3) := by decide +kernel
theorem dX9_best_95 : decode cX9_best 95 = .ok (.bipush (-5), 2) := by decide +kernel
theorem dX9_best_97 : decode cX9_best 97 = .ok (.goto 14, 3) := by decide +kernel
theorem dX9_best_100 : decode cX9_best 100 = .ok (.aload_n 0, 1) := by decide +kernel
theorem dX9_best_101 : decode cX9_best 101 = .ok (.getfield 39, 3) := by decide +kernel
theorem dX9_best_104 : decode cX9_best 104 = .ok (.getfield 216, 3) := by decide +kernel
theorem dX9_best_107 : decode cX9_best 107 = .ok (.iload_n 2, 1) := by decide +kernel
theorem dX9_best_108 : decode cX9_best 108 = .ok (.ishr, 1) := by decide +kernel
theorem dX9_best_109 : decode cX9_best 109 = .ok (.iconst 1, 1) := by decide +kernel
theorem dX9_best_110 : decode cX9_best 110 = .ok (.iand, 1) := by decide +kernel
theorem dX9_best_111 : decode cX9_best 111 = .ok (.ireturn, 1) := by decide +kernel
theorem dX9_right_0 : decode cX9_right 0 = .ok (.iload_n 1, 1) := by decide +kernel
theorem dX9_right_1 : decode cX9_right 1 = .ok (.invokestatic 83, 3) := by decide +kernel
theorem dX9_right_4 : decode cX9_right 4 = .ok (.ifCond .eq 19, 3) := by decide +kernel
theorem dX9_right_7 : decode cX9_right 7 = .ok (.iload_n 2, 1) := by decide +kernel
theorem dX9_right_8 : decode cX9_right 8 = .ok (.ifCond .lt 15, 3) := by decide +kernel
theorem dX9_right_11 : decode cX9_right 11 = .ok (.iload_n 2, 1) := by decide +kernel
theorem dX9_right_12 : decode cX9_right 12 = .ok (.iconst 1, 1) := by decide +kernel
theorem dX9_right_13 : decode cX9_right 13 = .ok (.if_icmp .gt 10, 3) := by decide +kernel
theorem dX9_right_16 : decode cX9_right 16 = .ok (.iload_n 3, 1) := by decide +kernel
theorem dX9_right_17 : decode cX9_right 17 = .ok (.invokestatic 157, 3) := by decide +kernel
theorem dX9_right_20 : decode cX9_right 20 = .ok (.ifCond .ne 7, 3) := by decide +kernel
theorem dX9_right_23 : decode cX9_right 23 = .ok (.ldc2_w 160, 3) := by decide +kernel
theorem dX9_right_26 : decode cX9_right 26 = .ok (.lreturn, 1) := by decide +kernel
theorem dX9_right_27 : decode cX9_right 27 = .ok (.iload_n 2, 1) := by decide +kernel
theorem dX9_right_28 : decode cX9_right 28 = .ok (.iconst 1, 1) := by decide +kernel
theorem dX9_right_29 : decode cX9_right 29 = .ok (.if_icmp .ne 9, 3) := by decide +kernel
theorem dX9_right_32 : decode cX9_right 32 = .ok (.sipush 255, 3) := by decide +kernel
theorem dX9_right_35 : decode cX9_right 35 = .ok (.goto 4, 3) := by decide +kernel
theorem dX9_right_38 : decode cX9_right 38 = .ok (.iconst 0, 1) := by decide +kernel
theorem dX9_right_39 : decode cX9_right 39 = .ok (.istore 4, 2) := by decide +kernel
theorem dX9_right_41 : decode cX9_right 41 = .ok (.aload_n 0, 1) := by decide +kernel
theorem dX9_right_42 : decode cX9_right 42 = .ok (.getfield 48, 3) := by decide +kernel
theorem dX9_right_45 : decode cX9_right 45 = .ok (.iload_n 1, 1) := by decide +kernel
theorem dX9_right_46 : decode cX9_right 46 = .ok (.iload 4, 2) := by decide +kernel
theorem dX9_right_48 : decode cX9_right 48 = .ok (.iconst (-1), 1) := by decide +kernel
theorem dX9_right_49 : decode cX9_right 49 = .ok (.iconst (-1), 1) := by decide +kernel
theorem dX9_right_50 : decode cX9_right 50 = .ok (.invokevirtual 219, 3) := by decide +kernel
theorem dX9_right_53 : decode cX9_right 53 = .ok (.ldc2_w 223, 3) := by decide +kernel
theorem dX9_right_56 : decode cX9_right 56 = .ok (.iload_n 3, 1) := by decide +kernel
theorem dX9_right_57 : decode cX9_right 57 = .ok (.invokestatic 173, 3) := by decide +kernel
theorem dX9_right_60 : decode cX9_right 60 = .ok (.lreturn, 1) := by decide +kernel
theorem dX9_surest_0 : decode cX9_surest 0 = .ok (.iload_n 1, 1) := by decide +kernel
theorem dX9_surest_1 : decode cX9_surest 1 = .ok (.invokestatic 83, 3) := by decide +kernel
theorem dX9_surest_4 : decode cX9_surest 4 = .ok (.ifCond .ne 5, 3) := by decide +kernel
theorem dX9_surest_7 : decode cX9_surest 7 = .ok (.iconst (-1), 1) := by decide +kernel
theorem dX9_surest_8 : decode cX9_surest 8 = .ok (.ireturn, 1) := by decide +kernel
theorem dX9_surest_9 : decode cX9_surest 9 = .ok (.aload_n 0, 1) := by decide +kernel
theorem dX9_surest_10 : decode cX9_surest 10 = .ok (.getfield 14, 3) := by decide +kernel
theorem dX9_surest_13 : decode cX9_surest 13 = .ok (.iload_n 1, 1) := by decide +kernel
theorem dX9_surest_14 : decode cX9_surest 14 = .ok (.iconst 1, 1) := by decide +kernel
theorem dX9_surest_15 : decode cX9_surest 15 = .ok (.aload_n 0, 1) := by decide +kernel
theorem dX9_surest_16 : decode cX9_surest 16 = .ok (.getfield 14, 3) := by decide +kernel
theorem dX9_surest_19 : decode cX9_surest 19 = .ok (.getfield 75, 3) := by decide +kernel
theorem dX9_surest_22 : decode cX9_surest 22 = .ok (.ishl, 1) := by decide +kernel
theorem dX9_surest_23 : decode cX9_surest 23 = .ok (.iconst 1, 1) := by decide +kernel
theorem dX9_surest_24 : decode cX9_surest 24 = .ok (.isub, 1) := by decide +kernel
theorem dX9_surest_25 : decode cX9_surest 25 = .ok (.invokevirtual 225, 3) := by decide +kernel
theorem dX9_surest_28 : decode cX9_surest 28 = .ok (.ireturn, 1) := by decide +kernel
theorem dX9_breach_0 : decode cX9_breach 0 = .ok (.iload_n 1, 1) := by decide +kernel
theorem dX9_breach_1 : decode cX9_breach 1 = .ok (.invokestatic 83, 3) := by decide +kernel
theorem dX9_breach_4 : decode cX9_breach 4 = .ok (.ifCond .eq 14, 3) := by decide +kernel
theorem dX9_breach_7 : decode cX9_breach 7 = .ok (.aload_n 0, 1) := by decide +kernel
theorem dX9_breach_8 : decode cX9_breach 8 = .ok (.getfield 57, 3) := by decide +kernel
theorem dX9_breach_11 : decode cX9_breach 11 = .ok (.iload_n 1, 1) := by decide +kernel
theorem dX9_breach_12 : decode cX9_breach 12 = .ok (.invokevirtual 228, 3) := by decide +kernel
theorem dX9_breach_15 : decode cX9_breach 15 = .ok (.goto 4, 3) := by decide +kernel
theorem dX9_breach_18 : decode cX9_breach 18 = .ok (.iconst (-1), 1) := by decide +kernel
theorem dX9_breach_19 : decode cX9_breach 19 = .ok (.ireturn, 1) := by decide +kernel
theorem dX9_rather_0 : decode cX9_rather 0 = .ok (.iload_n 1, 1) := by decide +kernel
theorem dX9_rather_1 : decode cX9_rather 1 = .ok (.invokestatic 83, 3) := by decide +kernel
theorem dX9_rather_4 : decode cX9_rather 4 = .ok (.ifCond .eq 14, 3) := by decide +kernel
theorem dX9_rather_7 : decode cX9_rather 7 = .ok (.aload_n 0, 1) := by decide +kernel
theorem dX9_rather_8 : decode cX9_rather 8 = .ok (.getfield 57, 3) := by decide +kernel
theorem dX9_rather_11 : decode cX9_rather 11 = .ok (.iload_n 1, 1) := by decide +kernel
theorem dX9_rather_12 : decode cX9_rather 12 = .ok (.invokevirtual 231, 3) := by decide +kernel
theorem dX9_rather_15 : decode cX9_rather 15 = .ok (.goto 4, 3) := by decide +kernel
theorem dX9_rather_18 : decode cX9_rather 18 = .ok (.iconst (-1), 1) := by decide +kernel
theorem dX9_rather_19 : decode cX9_rather 19 = .ok (.ireturn, 1) := by decide +kernel
theorem dX9_settle_0 : decode cX9_settle 0 = .ok (.iload_n 1, 1) := by decide +kernel
theorem dX9_settle_1 : decode cX9_settle 1 = .ok (.invokestatic 83, 3) := by decide +kernel
theorem dX9_settle_4 : decode cX9_settle 4 = .ok (.ifCond .ne 5, 3) := by decide +kernel
theorem dX9_settle_7 : decode cX9_settle 7 = .ok (.iconst (-1), 1) := by decide +kernel
theorem dX9_settle_8 : decode cX9_settle 8 = .ok (.ireturn, 1) := by decide +kernel
theorem dX9_settle_9 : decode cX9_settle 9 = .ok (.iconst 0, 1) := by decide +kernel
theorem dX9_settle_10 : decode cX9_settle 10 = .ok (.istore_n 2, 1) := by decide +kernel
theorem dX9_settle_11 : decode cX9_settle 11 = .ok (.iload_n 2, 1) := by decide +kernel
theorem dX9_settle_12 : decode cX9_settle 12 = .ok (.bipush 12, 2) := by decide +kernel
theorem dX9_settle_14 : decode cX9_settle 14 = .ok (.if_icmp .ge 83, 3) := by decide +kernel
theorem dX9_settle_17 : decode cX9_settle 17 = .ok (.aload_n 0, 1) := by decide +kernel
theorem dX9_settle_18 : decode cX9_settle 18 = .ok (.getfield 57, 3) := by decide +kernel
theorem dX9_settle_21 : decode cX9_settle 21 = .ok (.iload_n 1, 1) := by decide +kernel
theorem dX9_settle_22 : decode cX9_settle 22 = .ok (.invokevirtual 231, 3) := by decide +kernel
theorem dX9_settle_25 : decode cX9_settle 25 = .ok (.istore_n 3, 1) := by decide +kernel
theorem dX9_settle_26 : decode cX9_settle 26 = .ok (.iload_n 3, 1) := by decide +kernel
theorem dX9_settle_27 : decode cX9_settle 27 = .ok (.ifCond .ge 5, 3) := by decide +kernel
theorem dX9_settle_30 : decode cX9_settle 30 = .ok (.iload_n 2, 1) := by decide +kernel
theorem dX9_settle_31 : decode cX9_settle 31 = .ok (.ireturn, 1) := by decide +kernel
theorem dX9_settle_32 : decode cX9_settle 32 = .ok (.iload_n 3, 1) := by decide +kernel
theorem dX9_settle_33 : decode cX9_settle 33 = .ok (.bipush 10, 2) := by decide +kernel
theorem dX9_settle_35 : decode cX9_settle 35 = .ok (.idiv, 1) := by decide +kernel
theorem dX9_settle_36 : decode cX9_settle 36 = .ok (.iload_n 1, 1) := by decide +kernel
theorem dX9_settle_37 : decode cX9_settle 37 = .ok (.invokestatic 94, 3) := by decide +kernel
theorem dX9_settle_40 : decode cX9_settle 40 = .ok (.istore 4, 2) := by decide +kernel
theorem dX9_settle_42 : decode cX9_settle 42 = .ok (.iload_n 3, 1) := by decide +kernel
theorem dX9_settle_43 : decode cX9_settle 43 = .ok (.bipush 10, 2) := by decide +kernel
theorem dX9_settle_45 : decode cX9_settle 45 = .ok (.irem, 1) := by decide +kernel
theorem dX9_settle_46 : decode cX9_settle 46 = .ok (.istore 5, 2) := by decide +kernel
theorem dX9_settle_48 : decode cX9_settle 48 = .ok (.iload 5, 2) := by decide +kernel
theorem dX9_settle_50 : decode cX9_settle 50 = .ok (.ifCond .ne 22, 3) := by decide +kernel
theorem dX9_settle_53 : decode cX9_settle 53 = .ok (.aload_n 0, 1) := by decide +kernel
theorem dX9_settle_54 : decode cX9_settle 54 = .ok (.getfield 14, 3) := by decide +kernel
theorem dX9_settle_57 : decode cX9_settle 57 = .ok (.iload 4, 2) := by decide +kernel
theorem dX9_settle_59 : decode cX9_settle 59 = .ok (.iconst 1, 1) := by decide +kernel
theorem dX9_settle_60 : decode cX9_settle 60 = .ok (.bipush (-5), 2) := by decide +kernel
theorem dX9_settle_62 : decode cX9_settle 62 = .ok (.bipush (-5), 2) := by decide +kernel
theorem dX9_settle_64 : decode cX9_settle 64 = .ok (.iconst 0, 1) := by decide +kernel
theorem dX9_settle_65 : decode cX9_settle 65 = .ok (.invokevirtual 105, 3) := by decide +kernel
theorem dX9_settle_68 : decode cX9_settle 68 = .ok (.pop, 1) := by decide +kernel
theorem dX9_settle_69 : decode cX9_settle 69 = .ok (.goto 22, 3) := by decide +kernel
theorem dX9_settle_72 : decode cX9_settle 72 = .ok (.aload_n 0, 1) := by decide +kernel
theorem dX9_settle_73 : decode cX9_settle 73 = .ok (.getfield 14, 3) := by decide +kernel
theorem dX9_settle_76 : decode cX9_settle 76 = .ok (.iload 4, 2) := by decide +kernel
theorem dX9_settle_78 : decode cX9_settle 78 = .ok (.iconst 2, 1) := by decide +kernel
theorem dX9_settle_79 : decode cX9_settle 79 = .ok (.iload 5, 2) := by decide +kernel
theorem dX9_settle_81 : decode cX9_settle 81 = .ok (.iconst 1, 1) := by decide +kernel
theorem dX9_settle_82 : decode cX9_settle 82 = .ok (.isub, 1) := by decide +kernel
theorem dX9_settle_83 : decode cX9_settle 83 = .ok (.bipush (-5), 2) := by decide +kernel
theorem dX9_settle_85 : decode cX9_settle 85 = .ok (.bipush 10, 2) := by decide +kernel
theorem dX9_settle_87 : decode cX9_settle 87 = .ok (.invokevirtual 105, 3) := by decide +kernel
theorem dX9_settle_90 : decode cX9_settle 90 = .ok (.pop, 1) := by decide +kernel
theorem dX9_settle_91 : decode cX9_settle 91 = .ok (.iinc 2 1, 3) := by decide +kernel
theorem dX9_settle_94 : decode cX9_settle 94 = .ok (.goto (-83), 3) := by decide +kernel
theorem dX9_settle_97 : decode cX9_settle 97 = .ok (.bipush 12, 2) := by decide +kernel
theorem dX9_settle_99 : decode cX9_settle 99 = .ok (.ireturn, 1) := by decide +kernel
theorem dX9_heap_0 : decode cX9_heap 0 = .ok (.iload_n 1, 1) := by decide +kernel
theorem dX9_heap_1 : decode cX9_heap 1 = .ok (.invokestatic 83, 3) := by decide +kernel
theorem dX9_heap_4 : decode cX9_heap 4 = .ok (.ifCond .eq 10, 3) := by decide +kernel
theorem dX9_heap_7 : decode cX9_heap 7 = .ok (.iload_n 2, 1) := by decide +kernel
theorem dX9_heap_8 : decode cX9_heap 8 = .ok (.invokestatic 157, 3) := by decide +kernel
theorem dX9_heap_11 : decode cX9_heap 11 = .ok (.ifCond .ne 7, 3) := by decide +kernel
theorem dX9_heap_14 : decode cX9_heap 14 = .ok (.ldc2_w 160, 3) := by decide +kernel
theorem dX9_heap_17 : decode cX9_heap 17 = .ok (.lreturn, 1) := by decide +kernel
theorem dX9_heap_18 : decode cX9_heap 18 = .ok (.aload_n 0, 1) := by decide +kernel
theorem dX9_heap_19 : decode cX9_heap 19 = .ok (.getfield 48, 3) := by decide +kernel
theorem dX9_heap_22 : decode cX9_heap 22 = .ok (.iload_n 1, 1) := by decide +kernel
theorem dX9_heap_23 : decode cX9_heap 23 = .ok (.invokevirtual 162, 3) := by decide +kernel
theorem dX9_heap_26 : decode cX9_heap 26 = .ok (.aload_n 0, 1) := by decide +kernel
theorem dX9_heap_27 : decode cX9_heap 27 = .ok (.getfield 48, 3) := by decide +kernel
theorem dX9_heap_30 : decode cX9_heap 30 = .ok (.invokevirtual 234, 3) := by decide +kernel
theorem dX9_heap_33 : decode cX9_heap 33 = .ok (.aload_n 0, 1) := by decide +kernel
theorem dX9_heap_34 : decode cX9_heap 34 = .ok (.getfield 48, 3) := by decide +kernel
theorem dX9_heap_37 : decode cX9_heap 37 = .ok (.getfield 169, 3) := by decide +kernel
theorem dX9_heap_40 : decode cX9_heap 40 = .ok (.iload_n 2, 1) := by decide +kernel
theorem dX9_heap_41 : decode cX9_heap 41 = .ok (.invokestatic 173, 3) := by decide +kernel
theorem dX9_heap_44 : decode cX9_heap 44 = .ok (.lreturn, 1) := by decide +kernel
theorem dX9_mend_0 : decode cX9_mend 0 = .ok (.iload_n 1, 1) := by decide +kernel
theorem dX9_mend_1 : decode cX9_mend 1 = .ok (.invokestatic 83, 3) := by decide +kernel
theorem dX9_mend_4 : decode cX9_mend 4 = .ok (.ifCond .ne 5, 3) := by decide +kernel
theorem dX9_mend_7 : decode cX9_mend 7 = .ok (.iconst (-1), 1) := by decide +kernel
theorem dX9_mend_8 : decode cX9_mend 8 = .ok (.ireturn, 1) := by decide +kernel
theorem dX9_mend_9 : decode cX9_mend 9 = .ok (.iload_n 2, 1) := by decide +kernel
theorem dX9_mend_10 : decode cX9_mend 10 = .ok (.ifCond .lt 19, 3) := by decide +kernel
theorem dX9_mend_13 : decode cX9_mend 13 = .ok (.iload_n 2, 1) := by decide +kernel
theorem dX9_mend_14 : decode cX9_mend 14 = .ok (.bipush 8, 2) := by decide +kernel
theorem dX9_mend_16 : decode cX9_mend 16 = .ok (.if_icmp .gt 13, 3) := by decide +kernel
theorem dX9_mend_19 : decode cX9_mend 19 = .ok (.iload_n 3, 1) := by decide +kernel
theorem dX9_mend_20 : decode cX9_mend 20 = .ok (.ifCond .lt 9, 3) := by decide +kernel
theorem dX9_mend_23 : decode cX9_mend 23 = .ok (.iload_n 3, 1) := by decide +kernel
theorem dX9_mend_24 : decode cX9_mend 24 = .ok (.bipush 8, 2) := by decide +kernel
theorem dX9_mend_26 : decode cX9_mend 26 = .ok (.if_icmp .le 6, 3) := by decide +kernel
theorem dX9_mend_29 : decode cX9_mend 29 = .ok (.bipush (-2), 2) := by decide +kernel
theorem dX9_mend_31 : decode cX9_mend 31 = .ok (.ireturn, 1) := by decide +kernel
theorem dX9_mend_32 : decode cX9_mend 32 = .ok (.aload_n 0, 1) := by decide +kernel
theorem dX9_mend_33 : decode cX9_mend 33 = .ok (.getfield 57, 3) := by decide +kernel
theorem dX9_mend_36 : decode cX9_mend 36 = .ok (.iload_n 1, 1) := by decide +kernel
theorem dX9_mend_37 : decode cX9_mend 37 = .ok (.iload_n 2, 1) := by decide +kernel
theorem dX9_mend_38 : decode cX9_mend 38 = .ok (.iload_n 3, 1) := by decide +kernel
theorem dX9_mend_39 : decode cX9_mend 39 = .ok (.invokevirtual 238, 3) := by decide +kernel
theorem dX9_mend_42 : decode cX9_mend 42 = .ok (.ireturn, 1) := by decide +kernel
theorem dX9_late_0 : decode cX9_late 0 = .ok (.iload_n 1, 1) := by decide +kernel
theorem dX9_late_1 : decode cX9_late 1 = .ok (.invokestatic 83, 3) := by decide +kernel
theorem dX9_late_4 : decode cX9_late 4 = .ok (.ifCond .eq 14, 3) := by decide +kernel
theorem dX9_late_7 : decode cX9_late 7 = .ok (.aload_n 0, 1) := by decide +kernel
theorem dX9_late_8 : decode cX9_late 8 = .ok (.getfield 57, 3) := by decide +kernel
theorem dX9_late_11 : decode cX9_late 11 = .ok (.iload_n 1, 1) := by decide +kernel
theorem dX9_late_12 : decode cX9_late 12 = .ok (.invokevirtual 242, 3) := by decide +kernel
theorem dX9_late_15 : decode cX9_late 15 = .ok (.goto 4, 3) := by decide +kernel
theorem dX9_late_18 : decode cX9_late 18 = .ok (.iconst (-1), 1) := by decide +kernel
theorem dX9_late_19 : decode cX9_late 19 = .ok (.ireturn, 1) := by decide +kernel
theorem dX9_fewest_0 : decode cX9_fewest 0 = .ok (.iload_n 1, 1) := by decide +kernel
theorem dX9_fewest_1 : decode cX9_fewest 1 = .ok (.invokestatic 83, 3) := by decide +kernel
theorem dX9_fewest_4 : decode cX9_fewest 4 = .ok (.ifCond .eq 14, 3) := by decide +kernel
theorem dX9_fewest_7 : decode cX9_fewest 7 = .ok (.aload_n 0, 1) := by decide +kernel
theorem dX9_fewest_8 : decode cX9_fewest 8 = .ok (.getfield 57, 3) := by decide +kernel
theorem dX9_fewest_11 : decode cX9_fewest 11 = .ok (.iload_n 1, 1) := by decide +kernel
theorem dX9_fewest_12 : decode cX9_fewest 12 = .ok (.invokevirtual 245, 3) := by decide +kernel
theorem dX9_fewest_15 : decode cX9_fewest 15 = .ok (.goto 4, 3) := by decide +kernel
theorem dX9_fewest_18 : decode cX9_fewest 18 = .ok (.iconst (-1), 1) := by decide +kernel
theorem dX9_fewest_19 : decode cX9_fewest 19 = .ok (.ireturn, 1) := by decide +kernel
theorem dX9_table_0 : decode cX9_table 0 = .ok (.aload_n 0, 1) := by decide +kernel
theorem dX9_table_1 : decode cX9_table 1 = .ok (.getfield 71, 3) := by decide +kernel
theorem dX9_table_4 : decode cX9_table 4 = .ok (.iload_n 1, 1) := by decide +kernel
theorem dX9_table_5 : decode cX9_table 5 = .ok (.invokevirtual 248, 3) := by decide +kernel
theorem dX9_table_8 : decode cX9_table 8 = .ok (.ifCond .eq 10, 3) := by decide +kernel
theorem dX9_table_11 : decode cX9_table 11 = .ok (.iload_n 3, 1) := by decide +kernel
theorem dX9_table_12 : decode cX9_table 12 = .ok (.invokestatic 83, 3) := by decide +kernel
theorem dX9_table_15 : decode cX9_table 15 = .ok (.ifCond .ne 5, 3) := by decide +kernel
theorem dX9_table_18 : decode cX9_table 18 = .ok (.iconst (-1), 1) := by decide +kernel
theorem dX9_table_19 : decode cX9_table 19 = .ok (.ireturn, 1) := by decide +kernel
theorem dX9_table_20 : decode cX9_table 20 = .ok (.aload_n 0, 1) := by decide +kernel
theorem dX9_table_21 : decode cX9_table 21 = .ok (.getfield 71, 3) := by decide +kernel
theorem dX9_table_24 : decode cX9_table 24 = .ok (.getfield 251, 3) := by decide +kernel
theorem dX9_table_27 : decode cX9_table 27 = .ok (.iload_n 1, 1) := by decide +kernel
theorem dX9_table_28 : decode cX9_table 28 = .ok (.iaload, 1) := by decide +kernel
theorem dX9_table_29 : decode cX9_table 29 = .ok (.iconst (-1), 1) := by decide +kernel
theorem dX9_table_30 : decode cX9_table 30 = .ok (.if_icmp .eq 19, 3) := by decide +kernel
theorem dX9_table_33 : decode cX9_table 33 = .ok (.aload_n 0, 1) := by decide +kernel
theorem dX9_table_34 : decode cX9_table 34 = .ok (.getfield 71, 3) := by decide +kernel
theorem dX9_table_37 : decode cX9_table 37 = .ok (.getfield 251, 3) := by decide +kernel
theorem dX9_table_40 : decode cX9_table 40 = .ok (.iload_n 1, 1) := by decide +kernel
theorem dX9_table_41 : decode cX9_table 41 = .ok (.iaload, 1) := by decide +kernel
theorem dX9_table_42 : decode cX9_table 42 = .ok (.iconst 3, 1) := by decide +kernel
theorem dX9_table_43 : decode cX9_table 43 = .ok (.if_icmp .eq 6, 3) := by decide +kernel
theorem dX9_table_46 : decode cX9_table 46 = .ok (.bipush (-12), 2) := by decide +kernel
theorem dX9_table_48 : decode cX9_table 48 = .ok (.ireturn, 1) := by decide +kernel
theorem dX9_table_49 : decode cX9_table 49 = .ok (.aload_n 0, 1) := by decide +kernel
theorem dX9_table_50 : decode cX9_table 50 = .ok (.getfield 48, 3) := by decide +kernel
theorem dX9_table_53 : decode cX9_table 53 = .ok (.iload_n 3, 1) := by decide +kernel
theorem dX9_table_54 : decode cX9_table 54 = .ok (.invokevirtual 162, 3) := by decide +kernel
theorem dX9_table_57 : decode cX9_table 57 = .ok (.iconst 0, 1) := by decide +kernel
theorem dX9_table_58 : decode cX9_table 58 = .ok (.istore 4, 2) := by decide +kernel
theorem dX9_table_60 : decode cX9_table 60 = .ok (.iload 4, 2) := by decide +kernel
theorem dX9_table_62 : decode cX9_table 62 = .ok (.aload_n 0, 1) := by decide +kernel
theorem dX9_table_63 : decode cX9_table 63 = .ok (.getfield 14, 3) := by decide +kernel
theorem dX9_table_66 : decode cX9_table 66 = .ok (.getfield 75, 3) := by decide +kernel
theorem dX9_table_69 : decode cX9_table 69 = .ok (.if_icmp .ge 130, 3) := by decide +kernel
theorem dX9_table_72 : decode cX9_table 72 = .ok (.iload_n 2, 1) := by decide +kernel
theorem dX9_table_73 : decode cX9_table 73 = .ok (.i2l, 1) := by decide +kernel
theorem dX9_table_74 : decode cX9_table 74 = .ok (.iconst 2, 1) := by decide +kernel
theorem dX9_table_75 : decode cX9_table 75 = .ok (.iload 4, 2) := by decide +kernel
theorem dX9_table_77 : decode cX9_table 77 = .ok (.imul, 1) := by decide +kernel
theorem dX9_table_78 : decode cX9_table 78 = .ok (.i2l, 1) := by decide +kernel
theorem dX9_table_79 : decode cX9_table 79 = .ok (.ladd, 1) := by decide +kernel
theorem dX9_table_80 : decode cX9_table 80 = .ok (.lstore 5, 2) := by decide +kernel
theorem dX9_table_82 : decode cX9_table 82 = .ok (.lload 5, 2) := by decide +kernel
theorem dX9_table_84 : decode cX9_table 84 = .ok (.lconst 0, 1) := by decide +kernel
theorem dX9_table_85 : decode cX9_table 85 = .ok (.lcmp, 1) := by decide +kernel
theorem dX9_table_86 : decode cX9_table 86 = .ok (.ifCond .lt 21, 3) := by decide +kernel
theorem dX9_table_89 : decode cX9_table 89 = .ok (.lload 5, 2) := by decide +kernel
theorem dX9_table_91 : decode cX9_table 91 = .ok (.lconst 1, 1) := by decide +kernel
theorem dX9_table_92 : decode cX9_table 92 = .ok (.ladd, 1) := by decide +kernel
theorem dX9_table_93 : decode cX9_table 93 = .ok (.aload_n 0, 1) := by decide +kernel
theorem dX9_table_94 : decode cX9_table 94 = .ok (.getfield 71, 3) := by decide +kernel
theorem dX9_table_97 : decode cX9_table 97 = .ok (.getfield 254, 3) := by decide +kernel
theorem dX9_table_100 : decode cX9_table 100 = .ok (.iload_n 1, 1) := by decide +kernel
theorem dX9_table_101 : decode cX9_table 101 = .ok (.iaload, 1) := by decide +kernel
theorem dX9_table_102 : decode cX9_table 102 = .ok (.i2l, 1) := by decide +kernel
theorem dX9_table_103 : decode cX9_table 103 = .ok (.lcmp, 1) := by decide +kernel
theorem dX9_table_104 : decode cX9_table 104 = .ok (.ifCond .lt 9, 3) := by decide +kernel
theorem dX9_table_107 : decode cX9_table 107 = .ok (.bipush 100, 2) := by decide +kernel
theorem dX9_table_109 : decode cX9_table 109 = .ok (.iload 4, 2) := by decide +kernel
theorem dX9_table_111 : decode cX9_table 111 = .ok (.iadd, 1) := by decide +kernel
theorem dX9_table_112 : decode cX9_table 112 = .ok (.ireturn, 1) := by decide +kernel
theorem dX9_table_113 : decode cX9_table 113 = .ok (.lload 5, 2) := by decide +kernel
theorem dX9_table_115 : decode cX9_table 115 = .ok (.l2i, 1) := by decide +kernel
theorem dX9_table_116 : decode cX9_table 116 = .ok (.istore 7, 2) := by decide +kernel
theorem dX9_table_118 : decode cX9_table 118 = .ok (.aload_n 0, 1) := by decide +kernel
theorem dX9_table_119 : decode cX9_table 119 = .ok (.getfield 71, 3) := by decide +kernel
theorem dX9_table_122 : decode cX9_table 122 = .ok (.iload_n 1, 1) := by decide +kernel
theorem dX9_table_123 : decode cX9_table 123 = .ok (.iload 7, 2) := by decide +kernel
theorem dX9_table_125 : decode cX9_table 125 = .ok (.invokevirtual 257, 3) := by decide +kernel
theorem dX9_table_128 : decode cX9_table 128 = .ok (.aload_n 0, 1) := by decide +kernel
theorem dX9_table_129 : decode cX9_table 129 = .ok (.getfield 48, 3) := by decide +kernel
theorem dX9_table_132 : decode cX9_table 132 = .ok (.getfield 165, 3) := by decide +kernel
theorem dX9_table_135 : decode cX9_table 135 = .ok (.iload 4, 2) := by decide +kernel
theorem dX9_table_137 : decode cX9_table 137 = .ok (.laload, 1) := by decide +kernel
theorem dX9_table_138 : decode cX9_table 138 = .ok (.aload_n 0, 1) := by decide +kernel
theorem dX9_table_139 : decode cX9_table 139 = .ok (.getfield 48, 3) := by decide +kernel
theorem dX9_table_142 : decode cX9_table 142 = .ok (.getfield 169, 3) := by decide +kernel
theorem dX9_table_145 : decode cX9_table 145 = .ok (.iconst 0, 1) := by decide +kernel
theorem dX9_table_146 : decode cX9_table 146 = .ok (.invokestatic 173, 3) := by decide +kernel
theorem dX9_table_149 : decode cX9_table 149 = .ok (.lcmp, 1) := by decide +kernel
theorem dX9_table_150 : decode cX9_table 150 = .ok (.ifCond .ne 40, 3) := by decide +kernel
theorem dX9_table_153 : decode cX9_table 153 = .ok (.aload_n 0, 1) := by decide +kernel
theorem dX9_table_154 : decode cX9_table 154 = .ok (.getfield 71, 3) := by decide +kernel
theorem dX9_table_157 : decode cX9_table 157 = .ok (.iload_n 1, 1) := by decide +kernel
theorem dX9_table_158 : decode cX9_table 158 = .ok (.iload 7, 2) := by decide +kernel
theorem dX9_table_160 : decode cX9_table 160 = .ok (.iconst 1, 1) := by decide +kernel
theorem dX9_table_161 : decode cX9_table 161 = .ok (.iadd, 1) := by decide +kernel
theorem dX9_table_162 : decode cX9_table 162 = .ok (.invokevirtual 257, 3) := by decide +kernel
theorem dX9_table_165 : decode cX9_table 165 = .ok (.aload_n 0, 1) := by decide +kernel
theorem dX9_table_166 : decode cX9_table 166 = .ok (.getfield 48, 3) := by decide +kernel
theorem dX9_table_169 : decode cX9_table 169 = .ok (.getfield 165, 3) := by decide +kernel
theorem dX9_table_172 : decode cX9_table 172 = .ok (.iload 4, 2) := by decide +kernel
theorem dX9_table_174 : decode cX9_table 174 = .ok (.laload, 1) := by decide +kernel
theorem dX9_table_175 : decode cX9_table 175 = .ok (.aload_n 0, 1) := by decide +kernel
theorem dX9_table_176 : decode cX9_table 176 = .ok (.getfield 48, 3) := by decide +kernel
theorem dX9_table_179 : decode cX9_table 179 = .ok (.getfield 169, 3) := by decide +kernel
theorem dX9_table_182 : decode cX9_table 182 = .ok (.iconst 1, 1) := by decide +kernel
theorem dX9_table_183 : decode cX9_table 183 = .ok (.invokestatic 173, 3) := by decide +kernel
theorem dX9_table_186 : decode cX9_table 186 = .ok (.lcmp, 1) := by decide +kernel
theorem dX9_table_187 : decode cX9_table 187 = .ok (.ifCond .eq 6, 3) := by decide +kernel
theorem dX9_table_190 : decode cX9_table 190 = .ok (.iload 4, 2) := by decide +kernel
theorem dX9_table_192 : decode cX9_table 192 = .ok (.ireturn, 1) := by decide +kernel
theorem dX9_table_193 : decode cX9_table 193 = .ok (.iinc 4 1, 3) := by decide +kernel
theorem dX9_table_196 : decode cX9_table 196 = .ok (.goto (-136), 3) := by decide +kernel
theorem dX9_table_199 : decode cX9_table 199 = .ok (.aload_n 0, 1) := by decide +kernel
theorem dX9_table_200 : decode cX9_table 200 = .ok (.getfield 14, 3) := by decide +kernel
theorem dX9_table_203 : decode cX9_table 203 = .ok (.getfield 75, 3) := by decide +kernel
theorem dX9_table_206 : decode cX9_table 206 = .ok (.ireturn, 1) := by decide +kernel
theorem dX9_act_0 : decode cX9_act 0 = .ok (.aload_n 0, 1) := by decide +kernel
theorem dX9_act_1 : decode cX9_act 1 = .ok (.getfield 64, 3) := by decide +kernel
theorem dX9_act_4 : decode cX9_act 4 = .ok (.invokevirtual 261, 3) := by decide +kernel
theorem dX9_act_7 : decode cX9_act 7 = .ok (.aload_n 0, 1) := by decide +kernel
theorem dX9_act_8 : decode cX9_act 8 = .ok (.getfield 14, 3) := by decide +kernel
theorem dX9_act_11 : decode cX9_act 11 = .ok (.iload_n 1, 1) := by decide +kernel
theorem dX9_act_12 : decode cX9_act 12 = .ok (.invokevirtual 79, 3) := by decide +kernel
theorem dX9_act_15 : decode cX9_act 15 = .ok (.ifCond .eq 19, 3) := by decide +kernel
theorem dX9_act_18 : decode cX9_act 18 = .ok (.iload_n 2, 1) := by decide +kernel
theorem dX9_act_19 : decode cX9_act 19 = .ok (.invokestatic 83, 3) := by decide +kernel
theorem dX9_act_22 : decode cX9_act 22 = .ok (.ifCond .eq 12, 3) := by decide +kernel
theorem dX9_act_25 : decode cX9_act 25 = .ok (.iload_n 3, 1) := by decide +kernel
theorem dX9_act_26 : decode cX9_act 26 = .ok (.ifCond .lt 8, 3) := by decide +kernel
theorem dX9_act_29 : decode cX9_act 29 = .ok (.iload_n 3, 1) := by decide +kernel
theorem dX9_act_30 : decode cX9_act 30 = .ok (.iconst 2, 1) := by decide +kernel
theorem dX9_act_31 : decode cX9_act 31 = .ok (.if_icmp .le 5, 3) := by decide +kernel
theorem dX9_act_34 : decode cX9_act 34 = .ok (.iconst 0, 1) := by decide +kernel
theorem dX9_act_35 : decode cX9_act 35 = .ok (.ireturn, 1) := by decide +kernel
theorem dX9_act_36 : decode cX9_act 36 = .ok (.aload_n 0, 1) := by decide +kernel
theorem dX9_act_37 : decode cX9_act 37 = .ok (.getfield 64, 3) := by decide +kernel
theorem dX9_act_40 : decode cX9_act 40 = .ok (.aload_n 0, 1) := by decide +kernel
theorem dX9_act_41 : decode cX9_act 41 = .ok (.getfield 14, 3) := by decide +kernel
theorem dX9_act_44 : decode cX9_act 44 = .ok (.getfield 115, 3) := by decide +kernel
theorem dX9_act_47 : decode cX9_act 47 = .ok (.iload_n 1, 1) := by decide +kernel
theorem dX9_act_48 : decode cX9_act 48 = .ok (.iload_n 2, 1) := by decide +kernel
theorem dX9_act_49 : decode cX9_act 49 = .ok (.invokestatic 94, 3) := by decide +kernel
theorem dX9_act_52 : decode cX9_act 52 = .ok (.iaload, 1) := by decide +kernel
theorem dX9_act_53 : decode cX9_act 53 = .ok (.iload_n 1, 1) := by decide +kernel
theorem dX9_act_54 : decode cX9_act 54 = .ok (.iload_n 2, 1) := by decide +kernel
theorem dX9_act_55 : decode cX9_act 55 = .ok (.iload_n 3, 1) := by decide +kernel
theorem dX9_act_56 : decode cX9_act 56 = .ok (.iload 4, 2) := by decide +kernel
theorem dX9_act_58 : decode cX9_act 58 = .ok (.invokevirtual 264, 3) := by decide +kernel
theorem dX9_act_61 : decode cX9_act 61 = .ok (.ireturn, 1) := by decide +kernel
theorem dX9_trace_0 : decode cX9_trace 0 = .ok (.iload_n 1, 1) := by decide +kernel
theorem dX9_trace_1 : decode cX9_trace 1 = .ok (.ifCond .lt 14, 3) := by decide +kernel
theorem dX9_trace_4 : decode cX9_trace 4 = .ok (.iload_n 1, 1) := by decide +kernel
theorem dX9_trace_5 : decode cX9_trace 5 = .ok (.aload_n 0, 1) := by decide +kernel
theorem dX9_trace_6 : decode cX9_trace 6 = .ok (.getfield 64, 3) := by decide +kernel
theorem dX9_trace_9 : decode cX9_trace 9 = .ok (.invokevirtual 267, 3) := by decide +kernel
theorem dX9_trace_12 : decode cX9_trace 12 = .ok (.if_icmp .lt 7, 3) := by decide +kernel
theorem dX9_trace_15 : decode cX9_trace 15 = .ok (.iconst (-1), 1) := by decide +kernel
theorem dX9_trace_16 : decode cX9_trace 16 = .ok (.goto 12, 3) := by decide +kernel
theorem dX9_trace_19 : decode cX9_trace 19 = .ok (.aload_n 0, 1) := by decide +kernel
theorem dX9_trace_20 : decode cX9_trace 20 = .ok (.getfield 64, 3) := by decide +kernel
theorem dX9_trace_23 : decode cX9_trace 23 = .ok (.getfield 270, 3) := by decide +kernel
theorem dX9_trace_26 : decode cX9_trace 26 = .ok (.iload_n 1, 1) := by decide +kernel
theorem dX9_trace_27 : decode cX9_trace 27 = .ok (.iaload, 1) := by decide +kernel
theorem dX9_trace_28 : decode cX9_trace 28 = .ok (.ireturn, 1) := by decide +kernel
theorem dX9_taken_0 : decode cX9_taken 0 = .ok (.iload_n 3, 1) := by decide +kernel
theorem dX9_taken_1 : decode cX9_taken 1 = .ok (.ifCond .lt 8, 3) := by decide +kernel
theorem dX9_taken_4 : decode cX9_taken 4 = .ok (.iload_n 3, 1) := by decide +kernel
theorem dX9_taken_5 : decode cX9_taken 5 = .ok (.iconst 5, 1) := by decide +kernel
theorem dX9_taken_6 : decode cX9_taken 6 = .ok (.if_icmp .le 6, 3) := by decide +kernel
theorem dX9_taken_9 : decode cX9_taken 9 = .ok (.bipush (-2), 2) := by decide +kernel
theorem dX9_taken_11 : decode cX9_taken 11 = .ok (.ireturn, 1) := by decide +kernel
theorem dX9_taken_12 : decode cX9_taken 12 = .ok (.aload_n 0, 1) := by decide +kernel
theorem dX9_taken_13 : decode cX9_taken 13 = .ok (.getfield 14, 3) := by decide +kernel
theorem dX9_taken_16 : decode cX9_taken 16 = .ok (.iload_n 1, 1) := by decide +kernel
theorem dX9_taken_17 : decode cX9_taken 17 = .ok (.invokevirtual 79, 3) := by decide +kernel
theorem dX9_taken_20 : decode cX9_taken 20 = .ok (.ifCond .eq 10, 3) := by decide +kernel
theorem dX9_taken_23 : decode cX9_taken 23 = .ok (.iload_n 2, 1) := by decide +kernel
theorem dX9_taken_24 : decode cX9_taken 24 = .ok (.invokestatic 83, 3) := by decide +kernel
theorem dX9_taken_27 : decode cX9_taken 27 = .ok (.ifCond .ne 6, 3) := by decide +kernel
theorem dX9_taken_30 : decode cX9_taken 30 = .ok (.bipush (-11), 2) := by decide +kernel
theorem dX9_taken_32 : decode cX9_taken 32 = .ok (.ireturn, 1) := by decide +kernel
theorem dX9_taken_33 : decode cX9_taken 33 = .ok (.aload_n 0, 1) := by decide +kernel
theorem dX9_taken_34 : decode cX9_taken 34 = .ok (.getfield 14, 3) := by decide +kernel
theorem dX9_taken_37 : decode cX9_taken 37 = .ok (.getfield 115, 3) := by decide +kernel
theorem dX9_taken_40 : decode cX9_taken 40 = .ok (.iload_n 1, 1) := by decide +kernel
theorem dX9_taken_41 : decode cX9_taken 41 = .ok (.iload_n 2, 1) := by decide +kernel
theorem dX9_taken_42 : decode cX9_taken 42 = .ok (.invokestatic 94, 3) := by decide +kernel
theorem dX9_taken_45 : decode cX9_taken 45 = .ok (.iaload, 1) := by decide +kernel
theorem dX9_taken_46 : decode cX9_taken 46 = .ok (.istore 4, 2) := by decide +kernel
theorem dX9_taken_48 : decode cX9_taken 48 = .ok (.iload_n 3, 1) := by decide +kernel
theorem dX9_taken_49 : decode cX9_taken 49 = .ok (.ifCond .eq 20, 3) := by decide +kernel
theorem dX9_taken_52 : decode cX9_taken 52 = .ok (.iload_n 3, 1) := by decide +kernel
theorem dX9_taken_53 : decode cX9_taken 53 = .ok (.iload 4, 2) := by decide +kernel
theorem dX9_taken_55 : decode cX9_taken 55 = .ok (.if_icmp .eq 14, 3) := by decide +kernel
theorem dX9_taken_58 : decode cX9_taken 58 = .ok (.iload_n 3, 1) := by decide +kernel
theorem dX9_taken_59 : decode cX9_taken 59 = .ok (.iconst 2, 1) := by decide +kernel
theorem dX9_taken_60 : decode cX9_taken 60 = .ok (.if_icmp .ne 13, 3) := by decide +kernel
theorem dX9_taken_63 : decode cX9_taken 63 = .ok (.iload 4, 2) := by decide +kernel
theorem dX9_taken_65 : decode cX9_taken 65 = .ok (.iconst 2, 1) := by decide +kernel
theorem dX9_taken_66 : decode cX9_taken 66 = .ok (.if_icmp .le 7, 3) := by decide +kernel
theorem dX9_taken_69 : decode cX9_taken 69 = .ok (.iconst 1, 1) := by decide +kernel
theorem dX9_taken_70 : decode cX9_taken 70 = .ok (.goto 4, 3) := by decide +kernel
theorem dX9_taken_73 : decode cX9_taken 73 = .ok (.iconst 0, 1) := by decide +kernel
theorem dX9_taken_74 : decode cX9_taken 74 = .ok (.istore 5, 2) := by decide +kernel
theorem dX9_taken_76 : decode cX9_taken 76 = .ok (.iload 5, 2) := by decide +kernel
theorem dX9_taken_78 : decode cX9_taken 78 = .ok (.ifCond .eq 8, 3) := by decide +kernel
theorem dX9_taken_81 : decode cX9_taken 81 = .ok (.iload 4, 2) := by decide +kernel
theorem dX9_taken_83 : decode cX9_taken 83 = .ok (.goto 5, 3) := by decide +kernel
theorem dX9_taken_86 : decode cX9_taken 86 = .ok (.bipush (-12), 2) := by decide +kernel
theorem dX9_taken_88 : decode cX9_taken 88 = .ok (.ireturn, 1) := by decide +kernel
theorem dX9_count_0 : decode cX9_count 0 = .ok (.iload_n 1, 1) := by decide +kernel
theorem dX9_count_1 : decode cX9_count 1 = .ok (.tableswitch 75 0 4 #[35, 43, 51, 59, 67], 35) := by decide +kernel
theorem dX9_count_36 : decode cX9_count 36 = .ok (.aload_n 0, 1) := by decide +kernel
theorem dX9_count_37 : decode cX9_count 37 = .ok (.getfield 14, 3) := by decide +kernel
theorem dX9_count_40 : decode cX9_count 40 = .ok (.getfield 75, 3) := by decide +kernel
theorem dX9_count_43 : decode cX9_count 43 = .ok (.ireturn, 1) := by decide +kernel
theorem dX9_count_44 : decode cX9_count 44 = .ok (.aload_n 0, 1) := by decide +kernel
theorem dX9_count_45 : decode cX9_count 45 = .ok (.getfield 30, 3) := by decide +kernel
theorem dX9_count_48 : decode cX9_count 48 = .ok (.getfield 145, 3) := by decide +kernel
theorem dX9_count_51 : decode cX9_count 51 = .ok (.ireturn, 1) := by decide +kernel
theorem dX9_count_52 : decode cX9_count 52 = .ok (.aload_n 0, 1) := by decide +kernel
theorem dX9_count_53 : decode cX9_count 53 = .ok (.getfield 21, 3) := by decide +kernel
theorem dX9_count_56 : decode cX9_count 56 = .ok (.getfield 127, 3) := by decide +kernel
theorem dX9_count_59 : decode cX9_count 59 = .ok (.ireturn, 1) := by decide +kernel
theorem dX9_count_60 : decode cX9_count 60 = .ok (.aload_n 0, 1) := by decide +kernel
theorem dX9_count_61 : decode cX9_count 61 = .ok (.getfield 14, 3) := by decide +kernel
theorem dX9_count_64 : decode cX9_count 64 = .ok (.getfield 112, 3) := by decide +kernel
theorem dX9_count_67 : decode cX9_count 67 = .ok (.ireturn, 1) := by decide +kernel
theorem dX9_count_68 : decode cX9_count 68 = .ok (.aload_n 0, 1) := by decide +kernel
theorem dX9_count_69 : decode cX9_count 69 = .ok (.getfield 64, 3) := by decide +kernel
theorem dX9_count_72 : decode cX9_count 72 = .ok (.getfield 273, 3) := by decide +kernel
theorem dX9_count_75 : decode cX9_count 75 = .ok (.ireturn, 1) := by decide +kernel
theorem dX9_count_76 : decode cX9_count 76 = .ok (.bipush (-2), 2) := by decide +kernel
theorem dX9_count_78 : decode cX9_count 78 = .ok (.ireturn, 1) := by decide +kernel
theorem dX9_tape_0 : decode cX9_tape 0 = .ok (.aload_n 0, 1) := by decide +kernel
theorem dX9_tape_1 : decode cX9_tape 1 = .ok (.getfield 71, 3) := by decide +kernel
theorem dX9_tape_4 : decode cX9_tape 4 = .ok (.iload_n 1, 1) := by decide +kernel
theorem dX9_tape_5 : decode cX9_tape 5 = .ok (.invokevirtual 248, 3) := by decide +kernel
theorem dX9_tape_8 : decode cX9_tape 8 = .ok (.ifCond .ne 5, 3) := by decide +kernel
theorem dX9_tape_11 : decode cX9_tape 11 = .ok (.iconst (-1), 1) := by decide +kernel
theorem dX9_tape_12 : decode cX9_tape 12 = .ok (.ireturn, 1) := by decide +kernel
theorem dX9_tape_13 : decode cX9_tape 13 = .ok (.iload_n 2, 1) := by decide +kernel
theorem dX9_tape_14 : decode cX9_tape 14 = .ok (.iconst (-1), 1) := by decide +kernel
theorem dX9_tape_15 : decode cX9_tape 15 = .ok (.if_icmp .ne 15, 3) := by decide +kernel
theorem dX9_tape_18 : decode cX9_tape 18 = .ok (.aload_n 0, 1) := by decide +kernel
theorem dX9_tape_19 : decode cX9_tape 19 = .ok (.getfield 71, 3) := by decide +kernel
theorem dX9_tape_22 : decode cX9_tape 22 = .ok (.iload_n 1, 1) := by decide +kernel
theorem dX9_tape_23 : decode cX9_tape 23 = .ok (.iload_n 2, 1) := by decide +kernel
theorem dX9_tape_24 : decode cX9_tape 24 = .ok (.iconst 0, 1) := by decide +kernel
theorem dX9_tape_25 : decode cX9_tape 25 = .ok (.invokevirtual 276, 3) := by decide +kernel
theorem dX9_tape_28 : decode cX9_tape 28 = .ok (.iconst 1, 1) := by decide +kernel
theorem dX9_tape_29 : decode cX9_tape 29 = .ok (.ireturn, 1) := by decide +kernel
theorem dX9_tape_30 : decode cX9_tape 30 = .ok (.iload_n 2, 1) := by decide +kernel
theorem dX9_tape_31 : decode cX9_tape 31 = .ok (.iconst (-1), 1) := by decide +kernel
theorem dX9_tape_32 : decode cX9_tape 32 = .ok (.if_icmp .lt 14, 3) := by decide +kernel
theorem dX9_tape_35 : decode cX9_tape 35 = .ok (.iload_n 2, 1) := by decide +kernel
theorem dX9_tape_36 : decode cX9_tape 36 = .ok (.iconst 4, 1) := by decide +kernel
theorem dX9_tape_37 : decode cX9_tape 37 = .ok (.if_icmp .gt 9, 3) := by decide +kernel
theorem dX9_tape_40 : decode cX9_tape 40 = .ok (.iload_n 3, 1) := by decide +kernel
theorem dX9_tape_41 : decode cX9_tape 41 = .ok (.bipush 60, 2) := by decide +kernel
theorem dX9_tape_43 : decode cX9_tape 43 = .ok (.if_icmp .le 6, 3) := by decide +kernel
theorem dX9_tape_46 : decode cX9_tape 46 = .ok (.bipush (-2), 2) := by decide +kernel
theorem dX9_tape_48 : decode cX9_tape 48 = .ok (.ireturn, 1) := by decide +kernel
theorem dX9_tape_49 : decode cX9_tape 49 = .ok (.iload_n 3, 1) := by decide +kernel
theorem dX9_tape_50 : decode cX9_tape 50 = .ok (.ifCond .ge 6, 3) := by decide +kernel
theorem dX9_tape_53 : decode cX9_tape 53 = .ok (.bipush (-14), 2) := by decide +kernel
theorem dX9_tape_55 : decode cX9_tape 55 = .ok (.ireturn, 1) := by decide +kernel
theorem dX9_tape_56 : decode cX9_tape 56 = .ok (.aload_n 0, 1) := by decide +kernel
theorem dX9_tape_57 : decode cX9_tape 57 = .ok (.getfield 71, 3) := by decide +kernel
theorem dX9_tape_60 : decode cX9_tape 60 = .ok (.iload_n 1, 1) := by decide +kernel
theorem dX9_tape_61 : decode cX9_tape 61 = .ok (.iload_n 2, 1) := by decide +kernel
theorem dX9_tape_62 : decode cX9_tape 62 = .ok (.iload_n 3, 1) := by decide +kernel
theorem dX9_tape_63 : decode cX9_tape 63 = .ok (.invokevirtual 276, 3) := by decide +kernel
theorem dX9_tape_66 : decode cX9_tape 66 = .ok (.iconst 1, 1) := by decide +kernel
theorem dX9_tape_67 : decode cX9_tape 67 = .ok (.ireturn, 1) := by decide +kernel
theorem dX9_item_0 : decode cX9_item 0 = .ok (.aload_n 0, 1) := by decide +kernel
theorem dX9_item_1 : decode cX9_item 1 = .ok (.getfield 71, 3) := by decide +kernel
theorem dX9_item_4 : decode cX9_item 4 = .ok (.iload_n 1, 1) := by decide +kernel
theorem dX9_item_5 : decode cX9_item 5 = .ok (.invokevirtual 248, 3) := by decide +kernel
theorem dX9_item_8 : decode cX9_item 8 = .ok (.ifCond .ne 5, 3) := by decide +kernel
theorem dX9_item_11 : decode cX9_item 11 = .ok (.iconst (-1), 1) := by decide +kernel
theorem dX9_item_12 : decode cX9_item 12 = .ok (.ireturn, 1) := by decide +kernel
theorem dX9_item_13 : decode cX9_item 13 = .ok (.aload_n 0, 1) := by decide +kernel
theorem dX9_item_14 : decode cX9_item 14 = .ok (.getfield 71, 3) := by decide +kernel
theorem dX9_item_17 : decode cX9_item 17 = .ok (.getfield 251, 3) := by decide +kernel
theorem dX9_item_20 : decode cX9_item 20 = .ok (.iload_n 1, 1) := by decide +kernel
theorem dX9_item_21 : decode cX9_item 21 = .ok (.iaload, 1) := by decide +kernel
theorem dX9_item_22 : decode cX9_item 22 = .ok (.iconst (-1), 1) := by decide +kernel
theorem dX9_item_23 : decode cX9_item 23 = .ok (.if_icmp .ne 6, 3) := by decide +kernel
theorem dX9_item_26 : decode cX9_item 26 = .ok (.bipush (-11), 2) := by decide +kernel
theorem dX9_item_28 : decode cX9_item 28 = .ok (.ireturn, 1) := by decide +kernel
theorem dX9_item_29 : decode cX9_item 29 = .ok (.iload_n 2, 1) := by decide +kernel
theorem dX9_item_30 : decode cX9_item 30 = .ok (.ifCond .lt 16, 3) := by decide +kernel
theorem dX9_item_33 : decode cX9_item 33 = .ok (.iload_n 2, 1) := by decide +kernel
theorem dX9_item_34 : decode cX9_item 34 = .ok (.aload_n 0, 1) := by decide +kernel
theorem dX9_item_35 : decode cX9_item 35 = .ok (.getfield 71, 3) := by decide +kernel
theorem dX9_item_38 : decode cX9_item 38 = .ok (.getfield 254, 3) := by decide +kernel
theorem dX9_item_41 : decode cX9_item 41 = .ok (.iload_n 1, 1) := by decide +kernel
theorem dX9_item_42 : decode cX9_item 42 = .ok (.iaload, 1) := by decide +kernel
theorem dX9_item_43 : decode cX9_item 43 = .ok (.if_icmp .lt 6, 3) := by decide +kernel
theorem dX9_item_46 : decode cX9_item 46 = .ok (.bipush (-13), 2) := by decide +kernel
theorem dX9_item_48 : decode cX9_item 48 = .ok (.ireturn, 1) := by decide +kernel
theorem dX9_item_49 : decode cX9_item 49 = .ok (.aload_n 0, 1) := by decide +kernel
theorem dX9_item_50 : decode cX9_item 50 = .ok (.getfield 71, 3) := by decide +kernel
theorem dX9_item_53 : decode cX9_item 53 = .ok (.iload_n 1, 1) := by decide +kernel
theorem dX9_item_54 : decode cX9_item 54 = .ok (.iload_n 2, 1) := by decide +kernel
theorem dX9_item_55 : decode cX9_item 55 = .ok (.lload_n 3, 1) := by decide +kernel
theorem dX9_item_56 : decode cX9_item 56 = .ok (.invokevirtual 280, 3) := by decide +kernel
theorem dX9_item_59 : decode cX9_item 59 = .ok (.iconst 1, 1) := by decide +kernel
theorem dX9_item_60 : decode cX9_item 60 = .ok (.ireturn, 1) := by decide +kernel
theorem dX9_read_0 : decode cX9_read 0 = .ok (.aload_n 0, 1) := by decide +kernel
theorem dX9_read_1 : decode cX9_read 1 = .ok (.getfield 71, 3) := by decide +kernel
theorem dX9_read_4 : decode cX9_read 4 = .ok (.iload_n 1, 1) := by decide +kernel
theorem dX9_read_5 : decode cX9_read 5 = .ok (.invokevirtual 248, 3) := by decide +kernel
theorem dX9_read_8 : decode cX9_read 8 = .ok (.ifCond .eq 20, 3) := by decide +kernel
theorem dX9_read_11 : decode cX9_read 11 = .ok (.iload_n 2, 1) := by decide +kernel
theorem dX9_read_12 : decode cX9_read 12 = .ok (.ifCond .lt 16, 3) := by decide +kernel
theorem dX9_read_15 : decode cX9_read 15 = .ok (.iload_n 2, 1) := by decide +kernel
theorem dX9_read_16 : decode cX9_read 16 = .ok (.aload_n 0, 1) := by decide +kernel
theorem dX9_read_17 : decode cX9_read 17 = .ok (.getfield 71, 3) := by decide +kernel
theorem dX9_read_20 : decode cX9_read 20 = .ok (.getfield 254, 3) := by decide +kernel
theorem dX9_read_23 : decode cX9_read 23 = .ok (.iload_n 1, 1) := by decide +kernel
theorem dX9_read_24 : decode cX9_read 24 = .ok (.iaload, 1) := by decide +kernel
theorem dX9_read_25 : decode cX9_read 25 = .ok (.if_icmp .lt 7, 3) := by decide +kernel
theorem dX9_read_28 : decode cX9_read 28 = .ok (.ldc2_w 160, 3) := by decide +kernel
theorem dX9_read_31 : decode cX9_read 31 = .ok (.lreturn, 1) := by decide +kernel
theorem dX9_read_32 : decode cX9_read 32 = .ok (.aload_n 0, 1) := by decide +kernel
theorem dX9_read_33 : decode cX9_read 33 = .ok (.getfield 71, 3) := by decide +kernel
theorem dX9_read_36 : decode cX9_read 36 = .ok (.iload_n 1, 1) := by decide +kernel
theorem dX9_read_37 : decode cX9_read 37 = .ok (.iload_n 2, 1) := by decide +kernel
theorem dX9_read_38 : decode cX9_read 38 = .ok (.invokevirtual 257, 3) := by decide +kernel
theorem dX9_read_41 : decode cX9_read 41 = .ok (.lreturn, 1) := by decide +kernel
theorem dX9_shift_0 : decode cX9_shift 0 = .ok (.aload_n 0, 1) := by decide +kernel
theorem dX9_shift_1 : decode cX9_shift 1 = .ok (.getfield 71, 3) := by decide +kernel
theorem dX9_shift_4 : decode cX9_shift 4 = .ok (.iload_n 1, 1) := by decide +kernel
theorem dX9_shift_5 : decode cX9_shift 5 = .ok (.invokevirtual 248, 3) := by decide +kernel
theorem dX9_shift_8 : decode cX9_shift 8 = .ok (.ifCond .eq 14, 3) := by decide +kernel
theorem dX9_shift_11 : decode cX9_shift 11 = .ok (.aload_n 0, 1) := by decide +kernel
theorem dX9_shift_12 : decode cX9_shift 12 = .ok (.getfield 71, 3) := by decide +kernel
theorem dX9_shift_15 : decode cX9_shift 15 = .ok (.iload_n 3, 1) := by decide +kernel
theorem dX9_shift_16 : decode cX9_shift 16 = .ok (.invokevirtual 248, 3) := by decide +kernel
theorem dX9_shift_19 : decode cX9_shift 19 = .ok (.ifCond .ne 5, 3) := by decide +kernel
theorem dX9_shift_22 : decode cX9_shift 22 = .ok (.iconst (-1), 1) := by decide +kernel
theorem dX9_shift_23 : decode cX9_shift 23 = .ok (.ireturn, 1) := by decide +kernel
theorem dX9_shift_24 : decode cX9_shift 24 = .ok (.aload_n 0, 1) := by decide +kernel
theorem dX9_shift_25 : decode cX9_shift 25 = .ok (.getfield 71, 3) := by decide +kernel
theorem dX9_shift_28 : decode cX9_shift 28 = .ok (.getfield 251, 3) := by decide +kernel
theorem dX9_shift_31 : decode cX9_shift 31 = .ok (.iload_n 1, 1) := by decide +kernel
theorem dX9_shift_32 : decode cX9_shift 32 = .ok (.iaload, 1) := by decide +kernel
theorem dX9_shift_33 : decode cX9_shift 33 = .ok (.iconst (-1), 1) := by decide +kernel
theorem dX9_shift_34 : decode cX9_shift 34 = .ok (.if_icmp .eq 16, 3) := by decide +kernel
theorem dX9_shift_37 : decode cX9_shift 37 = .ok (.aload_n 0, 1) := by decide +kernel
theorem dX9_shift_38 : decode cX9_shift 38 = .ok (.getfield 71, 3) := by decide +kernel
theorem dX9_shift_41 : decode cX9_shift 41 = .ok (.getfield 251, 3) := by decide +kernel
theorem dX9_shift_44 : decode cX9_shift 44 = .ok (.iload_n 3, 1) := by decide +kernel
theorem dX9_shift_45 : decode cX9_shift 45 = .ok (.iaload, 1) := by decide +kernel
theorem dX9_shift_46 : decode cX9_shift 46 = .ok (.iconst (-1), 1) := by decide +kernel
theorem dX9_shift_47 : decode cX9_shift 47 = .ok (.if_icmp .ne 6, 3) := by decide +kernel
theorem dX9_shift_50 : decode cX9_shift 50 = .ok (.bipush (-11), 2) := by decide +kernel
theorem dX9_shift_52 : decode cX9_shift 52 = .ok (.ireturn, 1) := by decide +kernel
theorem dX9_shift_53 : decode cX9_shift 53 = .ok (.aload_n 0, 1) := by decide +kernel
theorem dX9_shift_54 : decode cX9_shift 54 = .ok (.getfield 71, 3) := by decide +kernel
theorem dX9_shift_57 : decode cX9_shift 57 = .ok (.getfield 251, 3) := by decide +kernel
theorem dX9_shift_60 : decode cX9_shift 60 = .ok (.iload_n 1, 1) := by decide +kernel
theorem dX9_shift_61 : decode cX9_shift 61 = .ok (.iaload, 1) := by decide +kernel
theorem dX9_shift_62 : decode cX9_shift 62 = .ok (.aload_n 0, 1) := by decide +kernel
theorem dX9_shift_63 : decode cX9_shift 63 = .ok (.getfield 71, 3) := by decide +kernel
theorem dX9_shift_66 : decode cX9_shift 66 = .ok (.getfield 251, 3) := by decide +kernel
theorem dX9_shift_69 : decode cX9_shift 69 = .ok (.iload_n 3, 1) := by decide +kernel
theorem dX9_shift_70 : decode cX9_shift 70 = .ok (.iaload, 1) := by decide +kernel
theorem dX9_shift_71 : decode cX9_shift 71 = .ok (.if_icmp .eq 6, 3) := by decide +kernel
theorem dX9_shift_74 : decode cX9_shift 74 = .ok (.bipush (-12), 2) := by decide +kernel
theorem dX9_shift_76 : decode cX9_shift 76 = .ok (.ireturn, 1) := by decide +kernel
theorem dX9_shift_77 : decode cX9_shift 77 = .ok (.aload_n 0, 1) := by decide +kernel
theorem dX9_shift_78 : decode cX9_shift 78 = .ok (.getfield 71, 3) := by decide +kernel
theorem dX9_shift_81 : decode cX9_shift 81 = .ok (.iload_n 1, 1) := by decide +kernel
theorem dX9_shift_82 : decode cX9_shift 82 = .ok (.iload_n 2, 1) := by decide +kernel
theorem dX9_shift_83 : decode cX9_shift 83 = .ok (.iload 5, 2) := by decide +kernel
theorem dX9_shift_85 : decode cX9_shift 85 = .ok (.invokevirtual 284, 3) := by decide +kernel
theorem dX9_shift_88 : decode cX9_shift 88 = .ok (.ifCond .eq 18, 3) := by decide +kernel
theorem dX9_shift_91 : decode cX9_shift 91 = .ok (.aload_n 0, 1) := by decide +kernel
theorem dX9_shift_92 : decode cX9_shift 92 = .ok (.getfield 71, 3) := by decide +kernel
theorem dX9_shift_95 : decode cX9_shift 95 = .ok (.iload_n 3, 1) := by decide +kernel
theorem dX9_shift_96 : decode cX9_shift 96 = .ok (.iload 4, 2) := by decide +kernel
theorem dX9_shift_98 : decode cX9_shift 98 = .ok (.iload 5, 2) := by decide +kernel
theorem dX9_shift_100 : decode cX9_shift 100 = .ok (.invokevirtual 284, 3) := by decide +kernel
theorem dX9_shift_103 : decode cX9_shift 103 = .ok (.ifCond .ne 6, 3) := by decide +kernel
theorem dX9_shift_106 : decode cX9_shift 106 = .ok (.bipush (-13), 2) := by decide +kernel
theorem dX9_shift_108 : decode cX9_shift 108 = .ok (.ireturn, 1) := by decide +kernel
theorem dX9_shift_109 : decode cX9_shift 109 = .ok (.aload_n 0, 1) := by decide +kernel
theorem dX9_shift_110 : decode cX9_shift 110 = .ok (.getfield 71, 3) := by decide +kernel
theorem dX9_shift_113 : decode cX9_shift 113 = .ok (.iload_n 1, 1) := by decide +kernel
theorem dX9_shift_114 : decode cX9_shift 114 = .ok (.iload_n 2, 1) := by decide +kernel
theorem dX9_shift_115 : decode cX9_shift 115 = .ok (.iload_n 3, 1) := by decide +kernel
theorem dX9_shift_116 : decode cX9_shift 116 = .ok (.iload 4, 2) := by decide +kernel
theorem dX9_shift_118 : decode cX9_shift 118 = .ok (.iload 5, 2) := by decide +kernel
theorem dX9_shift_120 : decode cX9_shift 120 = .ok (.invokevirtual 287, 3) := by decide +kernel
theorem dX9_shift_123 : decode cX9_shift 123 = .ok (.iload 5, 2) := by decide +kernel
theorem dX9_shift_125 : decode cX9_shift 125 = .ok (.ireturn, 1) := by decide +kernel
def L_X9_commonDivisor_3 (l : Launch) (e : hv_Ev)  (Φ : Int64 → hv_S → Prop) (y0 : Int64) (y2 : Int64) (x4 : Int32) (σ : hv_S) : Prop := hv_TW l (hv_e1 e) (hv_rm 0) 0 0 m_X9_commonDivisor hv_no (hv_ZL (hv_e1 e) Φ) 3 [(0, .long y0), (2, .long y2), (4, .int x4)] [] σ
set_option maxHeartbeats 4000000 in
set_option maxRecDepth 100000 in
theorem B_X9_commonDivisor_3 {l : Launch} {e : hv_Ev}  (y0 : Int64) (y2 : Int64) (x4 : Int32) {σ : hv_S} {Φ : Int64 → hv_S → Prop} (h : ((128 ≤ x4 → Φ y0 σ) ∧ (¬ 128 ≤ x4 → ((y2 = 0 → Φ y0 σ) ∧ (¬ y2 = 0 → (¬ y2 = 0 ∧ L_X9_commonDivisor_3 l e Φ y2 (y0 - y0 / y2 * y2) (x4 + 1) σ)))))) : L_X9_commonDivisor_3 l e Φ y0 y2 x4 σ := by
  show hv_TW l (hv_e1 e) (hv_rm 0) 0 0 m_X9_commonDivisor hv_no (hv_ZL (hv_e1 e) Φ) 3 [(0, .long y0), (2, .long y2), (4, .int x4)] [] σ
  refine T_iload dX9_commonDivisor_3 2 rfl ?_
  refine T_sipush (v := 128) dX9_commonDivisor_5 (by decide) ?_
  refine T_icmp_ge (tgt := 33) dX9_commonDivisor_8 (by decide) (fun c1 => ?_) (fun c1 => ?_)
  · refine T_lload_n dX9_commonDivisor_33 rfl 0 rfl ?_
    exact T_lret dX9_commonDivisor_34 rfl (h.1 c1)
  · refine T_lload_n dX9_commonDivisor_11 rfl 1 rfl ?_
    refine T_lconst (v := 0) dX9_commonDivisor_12 (by decide) ?_
    refine T_lc_eq (tgt := 33) dX9_commonDivisor_13 dX9_commonDivisor_14 (by decide) (fun c2 => ?_) (fun c2 => ?_)
    · refine T_lload_n dX9_commonDivisor_33 rfl 0 rfl ?_
      exact T_lret dX9_commonDivisor_34 rfl ((h.2 c1).1 c2)
    · refine T_lload_n dX9_commonDivisor_17 rfl 0 rfl ?_
      refine T_lload_n dX9_commonDivisor_18 rfl 1 rfl ?_
      refine T_lrem dX9_commonDivisor_19 (((h.2 c1).2 c2).1) ?_
      refine T_lstore dX9_commonDivisor_20 (by decide) rfl ?_
      refine T_lload_n dX9_commonDivisor_22 rfl 2 rfl ?_
      refine T_lstore_n dX9_commonDivisor_23 rfl (by decide) rfl ?_
      refine T_lload dX9_commonDivisor_24 1 rfl ?_
      refine T_lstore_n dX9_commonDivisor_26 rfl (by decide) rfl ?_
      refine T_iinc (v := (x4 + 1)) dX9_commonDivisor_27 3 rfl rfl (by decide) rfl ?_
      refine T_goto (tgt := 3) dX9_commonDivisor_30 (by decide) ?_
      exact T_sub [2, 1, 0] rfl ((h.2 c1).2 c2).2
set_option maxHeartbeats 4000000 in
set_option maxRecDepth 100000 in
theorem B_X9_commonDivisor {l : Launch} {e : hv_Ev}  (y1 : Int64) (y2 : Int64) {σ : hv_S} {Φ : Int64 → hv_S → Prop} (h : L_X9_commonDivisor_3 l e Φ y1 y2 0 σ) : hv_CL l (hv_e1 e) 0 m_X9_commonDivisor [.long y1, .long y2] σ Φ := by
  refine hv_entL (by decide) (Nat.le_of_ble_eq_true rfl) ?_
  show hv_TW l (hv_e1 e) (hv_rm 0) 0 0 m_X9_commonDivisor hv_no (hv_ZL (hv_e1 e) Φ) 0 [(0, .long y1), (2, .long y2)] [] σ
  refine T_iconst (v := 0) dX9_commonDivisor_0 (by decide) ?_
  refine T_istore dX9_commonDivisor_1 (by decide) rfl ?_
  exact T_sub [1, 2, 0] rfl h

set_option maxHeartbeats 4000000 in
set_option maxRecDepth 100000 in
theorem B_X9_lowest {l : Launch} {e : hv_Ev}  (y1 : Int64) (y2 : Int64) (x3 : Int32) {σ : hv_S} {Φ : Int64 → hv_S → Prop} (h : hv_CL l (hv_e1 e) 0 m_X9_commonDivisor [.long y1, .long y2] σ (fun v2 s1 => ((v2 ≠ 0 → ((x3 ≠ 0 → (¬ v2 = 0 ∧ Φ (y2 / v2) s1)) ∧ (x3 = 0 → (¬ v2 = 0 ∧ Φ (y1 / v2) s1)))) ∧ (v2 = 0 → Φ x3.toInt64 s1)))) : hv_CL l (hv_e1 e) 1 m_X9_lowest [.long y1, .long y2, .int x3] σ Φ := by
  refine hv_entL (by decide) (Nat.le_of_ble_eq_true rfl) ?_
  show hv_TW l (hv_e1 e) (hv_rm 1) 0 0 m_X9_lowest hv_no (hv_ZL (hv_e1 e) Φ) 0 [(0, .long y1), (2, .long y2), (4, .int x3)] [] σ
  refine T_lload_n dX9_lowest_0 rfl 0 rfl ?_
  refine T_lload_n dX9_lowest_1 rfl 1 rfl ?_
  refine T_SL (As := [.long y1, .long y2]) dX9_lowest_2 ms_X9_290 rfl (Nat.le_of_ble_eq_true rfl) (hv_ok1 rfl) rfl h (fun v2 s1 h3 => ?_)
  refine T_lstore dX9_lowest_5 (by decide) rfl ?_
  refine T_lload dX9_lowest_7 0 rfl ?_
  refine T_lconst (v := 0) dX9_lowest_9 (by decide) ?_
  refine T_lc_ne (tgt := 18) dX9_lowest_10 dX9_lowest_11 (by decide) (fun c4 => ?_) (fun c4 => ?_)
  · refine T_iload dX9_lowest_18 3 rfl ?_
    refine T_if_ne (tgt := 27) dX9_lowest_20 (by decide) (fun c5 => ?_) (fun c5 => ?_)
    · refine T_lload_n dX9_lowest_27 rfl 2 rfl ?_
      refine T_lload dX9_lowest_28 0 rfl ?_
      refine T_ldiv dX9_lowest_30 (((h3.1 c4).1 c5).1) ?_
      exact T_lret dX9_lowest_31 rfl (((h3.1 c4).1 c5).2)
    · refine T_lload_n dX9_lowest_23 rfl 1 rfl ?_
      refine T_goto (tgt := 28) dX9_lowest_24 (by decide) ?_
      refine T_lload dX9_lowest_28 0 rfl ?_
      refine T_ldiv dX9_lowest_30 (((h3.1 c4).2 c5).1) ?_
      exact T_lret dX9_lowest_31 rfl (((h3.1 c4).2 c5).2)
  · refine T_iload dX9_lowest_14 3 rfl ?_
    refine T_i2l dX9_lowest_16 ?_
    exact T_lret dX9_lowest_17 rfl (h3.2 c4)

set_option maxHeartbeats 4000000 in
set_option maxRecDepth 100000 in
theorem B_X9_member {l : Launch} {e : hv_Ev}   {σ : hv_S} {Φ : Int32 → hv_S → Prop} (h : (((σ.1 1 7) < 8 → Φ (σ.1 1 7) (hv_ui σ 1 7 ((σ.1 1 7) + 1))) ∧ (¬ (σ.1 1 7) < 8 → Φ (-4) σ))) : hv_CI l (hv_e1 e) 0 m_X9_member [.ref 0] σ Φ := by
  refine hv_entI (by decide) (Nat.le_of_ble_eq_true rfl) ?_
  show hv_TW l (hv_e1 e) (hv_rm 0) 0 0 m_X9_member hv_no (hv_ZI (hv_e1 e) Φ) 0 [(0, .ref 0)] [] σ
  refine T_aload_n dX9_member_0 rfl 0 rfl ?_
  refine T_get (v := .ref 1) dX9_member_1 fl_X9_14 hp_0 hs_0 rfl rfl ?_
  refine T_get (v := .int (σ.1 1 7)) dX9_member_4 fl_X9_75 hp_1 hs_1 rfl rfl ?_
  refine T_bipush (v := 8) dX9_member_7 (by decide) ?_
  refine T_icmp_lt (tgt := 15) dX9_member_9 (by decide) (fun c1 => ?_) (fun c1 => ?_)
  · refine T_aload_n dX9_member_15 rfl 0 rfl ?_
    refine T_get (v := .ref 1) dX9_member_16 fl_X9_14 hp_0 hs_0 rfl rfl ?_
    refine T_get (v := .int (σ.1 1 7)) dX9_member_19 fl_X9_75 hp_1 hs_1 rfl rfl ?_
    refine T_istore_n dX9_member_22 rfl (by decide) rfl ?_
    refine T_aload_n dX9_member_23 rfl 1 rfl ?_
    refine T_get (v := .ref 1) dX9_member_24 fl_X9_14 hp_0 hs_0 rfl rfl ?_
    refine T_iload_n dX9_member_27 rfl 0 rfl ?_
    refine T_iconst (v := 1) dX9_member_28 (by decide) ?_
    refine T_iadd dX9_member_29 ?_
    refine T_puti dX9_member_30 fl_X9_75 pf_X2_7 hp_1 hs_1 rfl ?_
    refine T_iload_n dX9_member_33 rfl 0 rfl ?_
    exact T_iret dX9_member_34 rfl (h.1 c1)
  · refine T_bipush (v := (-4)) dX9_member_12 (by decide) ?_
    exact T_iret dX9_member_14 rfl (h.2 c1)

set_option maxHeartbeats 4000000 in
set_option maxRecDepth 100000 in
theorem B_X9_think {l : Launch} {e : hv_Ev}  (x1 : Int32) (x2 : Int32) (x3 : Int32) (x4 : Int32) {σ : hv_S} {Φ : Int32 → hv_S → Prop} (h : hv_CI l (hv_e1 e) 0 m_X2_sits [.ref 1, .int x1] σ (fun v2 s1 => ((v2 = 0 → Φ (-1) s1) ∧ (¬ v2 = 0 → hv_CI l (hv_e1 e) 0 m_X9_isMatter [.int x2] s1 (fun v5 s4 => ((v5 ≠ 0 → ((x4 < 0 → Φ (-2) s4) ∧ (¬ x4 < 0 → ((x4 ≤ 10 → hv_CI l (hv_e1 e) 0 m_X2_opinion [.ref 1, .int x1, .int x2] s4 (fun v8 s7 => hv_CI l (hv_e1 e) 0 m_X9_cell [.int x1, .int x2] s7 (fun v11 s10 => (vp_in v11 24 ∧ hv_CV l (hv_e1 e) 1 m_X2_form [.ref 1, .int x1, .int x2, .int x3, .int x4] s10 (fun s13 => hv_CV l (hv_e1 e) 3 m_X3_learn [.ref 15, .int x2] s13 (fun s16 => Φ ((v8 * 100) + (s10.1 3 v11.toNatClampNeg)) s16)))))) ∧ (¬ x4 ≤ 10 → Φ (-2) s4))))) ∧ (v5 = 0 → Φ (-1) s4))))))) : hv_CI l (hv_e1 e) 4 m_X9_think [.ref 0, .int x1, .int x2, .int x3, .int x4] σ Φ := by
  refine hv_entI (by decide) (Nat.le_of_ble_eq_true rfl) ?_
  show hv_TW l (hv_e1 e) (hv_rm 4) 0 0 m_X9_think hv_no (hv_ZI (hv_e1 e) Φ) 0 [(0, .ref 0), (1, .int x1), (2, .int x2), (3, .int x3), (4, .int x4)] [] σ
  refine T_aload_n dX9_think_0 rfl 0 rfl ?_
  refine T_get (v := .ref 1) dX9_think_1 fl_X9_14 hp_0 hs_0 rfl rfl ?_
  refine T_iload_n dX9_think_4 rfl 1 rfl ?_
  refine T_VI (As := [.int x1]) dX9_think_5 mv_X9_79 hp_1 hs_1 rfl (Nat.le_of_ble_eq_true rfl) (hv_ok1 rfl) rfl h (fun v2 s1 h3 => ?_)
  refine T_if_eq (tgt := 18) dX9_think_8 (by decide) (fun c19 => ?_) (fun c19 => ?_)
  · refine T_iconst (v := (-1)) dX9_think_18 (by decide) ?_
    exact T_iret dX9_think_19 rfl (h3.1 c19)
  · refine T_iload_n dX9_think_11 rfl 2 rfl ?_
    refine T_SI (As := [.int x2]) dX9_think_12 ms_X9_83 rfl (Nat.le_of_ble_eq_true rfl) (hv_ok1 rfl) rfl (h3.2 c19) (fun v5 s4 h6 => ?_)
    refine T_if_ne (tgt := 20) dX9_think_15 (by decide) (fun c20 => ?_) (fun c20 => ?_)
    · refine T_iload dX9_think_20 4 rfl ?_
      refine T_if_lt (tgt := 32) dX9_think_22 (by decide) (fun c21 => ?_) (fun c21 => ?_)
      · refine T_bipush (v := (-2)) dX9_think_32 (by decide) ?_
        exact T_iret dX9_think_34 rfl ((h6.1 c20).1 c21)
      · refine T_iload dX9_think_25 4 rfl ?_
        refine T_bipush (v := 10) dX9_think_27 (by decide) ?_
        refine T_icmp_le (tgt := 35) dX9_think_29 (by decide) (fun c22 => ?_) (fun c22 => ?_)
        · refine T_aload_n dX9_think_35 rfl 0 rfl ?_
          refine T_get (v := .ref 1) dX9_think_36 fl_X9_14 hp_0 hs_0 rfl rfl ?_
          refine T_iload_n dX9_think_39 rfl 1 rfl ?_
          refine T_iload_n dX9_think_40 rfl 2 rfl ?_
          refine T_VI (As := [.int x1, .int x2]) dX9_think_41 mv_X9_86 hp_1 hs_1 rfl (Nat.le_of_ble_eq_true rfl) (hv_ok1 rfl) rfl (((h6.1 c20).2 c21).1 c22) (fun v8 s7 h9 => ?_)
          refine T_bipush (v := 100) dX9_think_44 (by decide) ?_
          refine T_imul dX9_think_46 ?_
          refine T_aload_n dX9_think_47 rfl 0 rfl ?_
          refine T_get (v := .ref 1) dX9_think_48 fl_X9_14 hp_0 hs_0 rfl rfl ?_
          refine T_get (v := .ref 3) dX9_think_51 fl_X9_90 hp_1 hs_1 rfl rfl ?_
          refine T_iload_n dX9_think_54 rfl 1 rfl ?_
          refine T_iload_n dX9_think_55 rfl 2 rfl ?_
          refine T_SI (As := [.int x1, .int x2]) dX9_think_56 ms_X9_94 rfl (Nat.le_of_ble_eq_true rfl) (hv_ok1 rfl) rfl h9 (fun v11 s10 h12 => ?_)
          refine T_iald dX9_think_59 hp_3 hs_3 h12.1 ?_
          refine T_iadd dX9_think_60 ?_
          refine T_istore dX9_think_61 (by decide) rfl ?_
          refine T_aload_n dX9_think_63 rfl 1 rfl ?_
          refine T_get (v := .ref 1) dX9_think_64 fl_X9_14 hp_0 hs_0 rfl rfl ?_
          refine T_iload_n dX9_think_67 rfl 2 rfl ?_
          refine T_iload_n dX9_think_68 rfl 3 rfl ?_
          refine T_iload_n dX9_think_69 rfl 4 rfl ?_
          refine T_iload dX9_think_70 5 rfl ?_
          refine T_VV (As := [.int x1, .int x2, .int x3, .int x4]) dX9_think_72 mv_X9_97 hp_1 hs_1 rfl (Nat.le_of_ble_eq_true rfl) (hv_ok1 rfl) rfl h12.2 (fun s13 h15 => ?_)
          refine T_aload_n dX9_think_75 rfl 1 rfl ?_
          refine T_get (v := .ref 15) dX9_think_76 fl_X9_30 hp_0 hs_0 rfl rfl ?_
          refine T_iload_n dX9_think_79 rfl 3 rfl ?_
          refine T_VV (As := [.int x2]) dX9_think_80 mv_X9_101 hp_15 hs_15 rfl (Nat.le_of_ble_eq_true rfl) (hv_ok1 rfl) rfl h15 (fun s16 h18 => ?_)
          refine T_iload dX9_think_83 0 rfl ?_
          exact T_iret dX9_think_85 rfl h18
        · refine T_bipush (v := (-2)) dX9_think_32 (by decide) ?_
          exact T_iret dX9_think_34 rfl (((h6.1 c20).2 c21).2 c22)
    · refine T_iconst (v := (-1)) dX9_think_18 (by decide) ?_
      exact T_iret dX9_think_19 rfl (h6.2 c20)

def L_X9_hand_37 (l : Launch) (e : hv_Ev)  (Φ : Int32 → hv_S → Prop) (x1 : Int32) (x2 : Int32) (x3 : Int32) (σ : hv_S) : Prop := hv_TW l (hv_e1 e) (hv_rm 1) 0 0 m_X9_hand hv_no (hv_ZI (hv_e1 e) Φ) 37 [(0, .ref 0), (1, .int x1), (2, .int x2), (3, .int x3)] [] σ
set_option maxHeartbeats 4000000 in
set_option maxRecDepth 100000 in
theorem B_X9_hand_37 {l : Launch} {e : hv_Ev}  (x1 : Int32) (x2 : Int32) (x3 : Int32) {σ : hv_S} {Φ : Int32 → hv_S → Prop} (h : hv_CI l (hv_e1 e) 0 m_X9_cell [.int x1, .int x2] σ (fun v13 s12 => hv_CI l (hv_e1 e) 0 m_X2_renew [.ref 1, .int v13, .int x3, .int (-5), .int (-5), .int 0] s12 (fun v16 s15 => Φ v16 s15))) : L_X9_hand_37 l e Φ x1 x2 x3 σ := by
  show hv_TW l (hv_e1 e) (hv_rm 1) 0 0 m_X9_hand hv_no (hv_ZI (hv_e1 e) Φ) 37 [(0, .ref 0), (1, .int x1), (2, .int x2), (3, .int x3)] [] σ
  refine T_aload_n dX9_hand_37 rfl 0 rfl ?_
  refine T_get (v := .ref 1) dX9_hand_38 fl_X9_14 hp_0 hs_0 rfl rfl ?_
  refine T_iload_n dX9_hand_41 rfl 1 rfl ?_
  refine T_iload_n dX9_hand_42 rfl 2 rfl ?_
  refine T_SI (As := [.int x1, .int x2]) dX9_hand_43 ms_X9_94 rfl (Nat.le_of_ble_eq_true rfl) (hv_ok1 rfl) rfl h (fun v13 s12 h14 => ?_)
  refine T_iload_n dX9_hand_46 rfl 3 rfl ?_
  refine T_bipush (v := (-5)) dX9_hand_47 (by decide) ?_
  refine T_bipush (v := (-5)) dX9_hand_49 (by decide) ?_
  refine T_iconst (v := 0) dX9_hand_51 (by decide) ?_
  refine T_VI (As := [.int v13, .int x3, .int (-5), .int (-5), .int 0]) dX9_hand_52 mv_X9_105 hp_1 hs_1 rfl (Nat.le_of_ble_eq_true rfl) (hv_ok1 rfl) rfl h14 (fun v16 s15 h17 => ?_)
  exact T_iret dX9_hand_55 rfl h17
set_option maxHeartbeats 4000000 in
set_option maxRecDepth 100000 in
theorem B_X9_hand {l : Launch} {e : hv_Ev}  (x1 : Int32) (x2 : Int32) (x3 : Int32) {σ : hv_S} {Φ : Int32 → hv_S → Prop} (h : hv_CI l (hv_e1 e) 0 m_X2_sits [.ref 1, .int x1] σ (fun v2 s1 => ((v2 = 0 → Φ (-1) s1) ∧ (¬ v2 = 0 → hv_CI l (hv_e1 e) 0 m_X9_isMatter [.int x2] s1 (fun v5 s4 => ((v5 ≠ 0 → ((x3 = 0 → L_X9_hand_37 l e Φ x1 x2 x3 s4) ∧ (¬ x3 = 0 → ((x3 = 1 → L_X9_hand_37 l e Φ x1 x2 x3 s4) ∧ (¬ x3 = 1 → ((x3 = 5 → L_X9_hand_37 l e Φ x1 x2 x3 s4) ∧ (¬ x3 = 5 → Φ (-2) s4))))))) ∧ (v5 = 0 → Φ (-1) s4))))))) : hv_CI l (hv_e1 e) 1 m_X9_hand [.ref 0, .int x1, .int x2, .int x3] σ Φ := by
  refine hv_entI (by decide) (Nat.le_of_ble_eq_true rfl) ?_
  show hv_TW l (hv_e1 e) (hv_rm 1) 0 0 m_X9_hand hv_no (hv_ZI (hv_e1 e) Φ) 0 [(0, .ref 0), (1, .int x1), (2, .int x2), (3, .int x3)] [] σ
  refine T_aload_n dX9_hand_0 rfl 0 rfl ?_
  refine T_get (v := .ref 1) dX9_hand_1 fl_X9_14 hp_0 hs_0 rfl rfl ?_
  refine T_iload_n dX9_hand_4 rfl 1 rfl ?_
  refine T_VI (As := [.int x1]) dX9_hand_5 mv_X9_79 hp_1 hs_1 rfl (Nat.le_of_ble_eq_true rfl) (hv_ok1 rfl) rfl h (fun v2 s1 h3 => ?_)
  refine T_if_eq (tgt := 18) dX9_hand_8 (by decide) (fun c7 => ?_) (fun c7 => ?_)
  · refine T_iconst (v := (-1)) dX9_hand_18 (by decide) ?_
    exact T_iret dX9_hand_19 rfl (h3.1 c7)
  · refine T_iload_n dX9_hand_11 rfl 2 rfl ?_
    refine T_SI (As := [.int x2]) dX9_hand_12 ms_X9_83 rfl (Nat.le_of_ble_eq_true rfl) (hv_ok1 rfl) rfl (h3.2 c7) (fun v5 s4 h6 => ?_)
    refine T_if_ne (tgt := 20) dX9_hand_15 (by decide) (fun c8 => ?_) (fun c8 => ?_)
    · refine T_iload_n dX9_hand_20 rfl 3 rfl ?_
      refine T_if_eq (tgt := 37) dX9_hand_21 (by decide) (fun c9 => ?_) (fun c9 => ?_)
      · exact T_sub [0, 1, 2, 3] rfl ((h6.1 c8).1 c9)
      · refine T_iload_n dX9_hand_24 rfl 3 rfl ?_
        refine T_iconst (v := 1) dX9_hand_25 (by decide) ?_
        refine T_icmp_eq (tgt := 37) dX9_hand_26 (by decide) (fun c10 => ?_) (fun c10 => ?_)
        · exact T_sub [0, 1, 2, 3] rfl (((h6.1 c8).2 c9).1 c10)
        · refine T_iload_n dX9_hand_29 rfl 3 rfl ?_
          refine T_iconst (v := 5) dX9_hand_30 (by decide) ?_
          refine T_icmp_eq (tgt := 37) dX9_hand_31 (by decide) (fun c11 => ?_) (fun c11 => ?_)
          · exact T_sub [0, 1, 2, 3] rfl ((((h6.1 c8).2 c9).2 c10).1 c11)
          · refine T_bipush (v := (-2)) dX9_hand_34 (by decide) ?_
            exact T_iret dX9_hand_36 rfl ((((h6.1 c8).2 c9).2 c10).2 c11)
    · refine T_iconst (v := (-1)) dX9_hand_18 (by decide) ?_
      exact T_iret dX9_hand_19 rfl (h6.2 c8)

set_option maxHeartbeats 4000000 in
set_option maxRecDepth 100000 in
theorem B_X9_give {l : Launch} {e : hv_Ev}  (x1 : Int32) (x2 : Int32) (x3 : Int32) {σ : hv_S} {Φ : Int32 → hv_S → Prop} (h : hv_CI l (hv_e1 e) 0 m_X2_sits [.ref 1, .int x1] σ (fun v2 s1 => ((v2 = 0 → Φ (-1) s1) ∧ (¬ v2 = 0 → hv_CI l (hv_e1 e) 0 m_X9_isMatter [.int x2] s1 (fun v5 s4 => ((v5 = 0 → Φ (-1) s4) ∧ (¬ v5 = 0 → hv_CI l (hv_e1 e) 0 m_X2_sits [.ref 1, .int x3] s4 (fun v8 s7 => ((v8 ≠ 0 → ((x1 ≠ x3 → hv_CI l (hv_e1 e) 0 m_X9_cell [.int x1, .int x2] s7 (fun v11 s10 => hv_CI l (hv_e1 e) 0 m_X2_renew [.ref 1, .int v11, .int 2, .int x3, .int (-5), .int 10] s10 (fun v14 s13 => Φ v14 s13))) ∧ (x1 = x3 → Φ (-2) s7))) ∧ (v8 = 0 → Φ (-1) s7)))))))))) : hv_CI l (hv_e1 e) 1 m_X9_give [.ref 0, .int x1, .int x2, .int x3] σ Φ := by
  refine hv_entI (by decide) (Nat.le_of_ble_eq_true rfl) ?_
  show hv_TW l (hv_e1 e) (hv_rm 1) 0 0 m_X9_give hv_no (hv_ZI (hv_e1 e) Φ) 0 [(0, .ref 0), (1, .int x1), (2, .int x2), (3, .int x3)] [] σ
  refine T_aload_n dX9_give_0 rfl 0 rfl ?_
  refine T_get (v := .ref 1) dX9_give_1 fl_X9_14 hp_0 hs_0 rfl rfl ?_
  refine T_iload_n dX9_give_4 rfl 1 rfl ?_
  refine T_VI (As := [.int x1]) dX9_give_5 mv_X9_79 hp_1 hs_1 rfl (Nat.le_of_ble_eq_true rfl) (hv_ok1 rfl) rfl h (fun v2 s1 h3 => ?_)
  refine T_if_eq (tgt := 29) dX9_give_8 (by decide) (fun c16 => ?_) (fun c16 => ?_)
  · refine T_iconst (v := (-1)) dX9_give_29 (by decide) ?_
    exact T_iret dX9_give_30 rfl (h3.1 c16)
  · refine T_iload_n dX9_give_11 rfl 2 rfl ?_
    refine T_SI (As := [.int x2]) dX9_give_12 ms_X9_83 rfl (Nat.le_of_ble_eq_true rfl) (hv_ok1 rfl) rfl (h3.2 c16) (fun v5 s4 h6 => ?_)
    refine T_if_eq (tgt := 29) dX9_give_15 (by decide) (fun c17 => ?_) (fun c17 => ?_)
    · refine T_iconst (v := (-1)) dX9_give_29 (by decide) ?_
      exact T_iret dX9_give_30 rfl (h6.1 c17)
    · refine T_aload_n dX9_give_18 rfl 0 rfl ?_
      refine T_get (v := .ref 1) dX9_give_19 fl_X9_14 hp_0 hs_0 rfl rfl ?_
      refine T_iload_n dX9_give_22 rfl 3 rfl ?_
      refine T_VI (As := [.int x3]) dX9_give_23 mv_X9_79 hp_1 hs_1 rfl (Nat.le_of_ble_eq_true rfl) (hv_ok1 rfl) rfl (h6.2 c17) (fun v8 s7 h9 => ?_)
      refine T_if_ne (tgt := 31) dX9_give_26 (by decide) (fun c18 => ?_) (fun c18 => ?_)
      · refine T_iload_n dX9_give_31 rfl 1 rfl ?_
        refine T_iload_n dX9_give_32 rfl 3 rfl ?_
        refine T_icmp_ne (tgt := 39) dX9_give_33 (by decide) (fun c19 => ?_) (fun c19 => ?_)
        · refine T_aload_n dX9_give_39 rfl 0 rfl ?_
          refine T_get (v := .ref 1) dX9_give_40 fl_X9_14 hp_0 hs_0 rfl rfl ?_
          refine T_iload_n dX9_give_43 rfl 1 rfl ?_
          refine T_iload_n dX9_give_44 rfl 2 rfl ?_
          refine T_SI (As := [.int x1, .int x2]) dX9_give_45 ms_X9_94 rfl (Nat.le_of_ble_eq_true rfl) (hv_ok1 rfl) rfl ((h9.1 c18).1 c19) (fun v11 s10 h12 => ?_)
          refine T_iconst (v := 2) dX9_give_48 (by decide) ?_
          refine T_iload_n dX9_give_49 rfl 3 rfl ?_
          refine T_bipush (v := (-5)) dX9_give_50 (by decide) ?_
          refine T_bipush (v := 10) dX9_give_52 (by decide) ?_
          refine T_VI (As := [.int v11, .int 2, .int x3, .int (-5), .int 10]) dX9_give_54 mv_X9_105 hp_1 hs_1 rfl (Nat.le_of_ble_eq_true rfl) (hv_ok1 rfl) rfl h12 (fun v14 s13 h15 => ?_)
          exact T_iret dX9_give_57 rfl h15
        · refine T_bipush (v := (-2)) dX9_give_36 (by decide) ?_
          exact T_iret dX9_give_38 rfl ((h9.1 c18).2 c19)
      · refine T_iconst (v := (-1)) dX9_give_29 (by decide) ?_
        exact T_iret dX9_give_30 rfl (h9.2 c18)

set_option maxHeartbeats 4000000 in
set_option maxRecDepth 100000 in
theorem B_X9_names {l : Launch} {e : hv_Ev}  (x1 : Int32) (x2 : Int32) (x3 : Int32) (x4 : Int32) (x5 : Int32) {σ : hv_S} {Φ : Int32 → hv_S → Prop} (h : hv_CI l (hv_e1 e) 0 m_X2_sits [.ref 1, .int x1] σ (fun v2 s1 => ((v2 = 0 → Φ (-1) s1) ∧ (¬ v2 = 0 → hv_CI l (hv_e1 e) 0 m_X9_isMatter [.int x2] s1 (fun v5 s4 => ((v5 = 0 → Φ (-1) s4) ∧ (¬ v5 = 0 → hv_CI l (hv_e1 e) 0 m_X2_sits [.ref 1, .int x3] s4 (fun v8 s7 => ((v8 = 0 → Φ (-1) s7) ∧ (¬ v8 = 0 → hv_CI l (hv_e1 e) 0 m_X2_sits [.ref 1, .int x4] s7 (fun v11 s10 => ((v11 ≠ 0 → ((x1 = x3 → Φ (-2) s10) ∧ (¬ x1 = x3 → ((x1 = x4 → Φ (-2) s10) ∧ (¬ x1 = x4 → ((x3 = x4 → Φ (-2) s10) ∧ (¬ x3 = x4 → ((x5 < 0 → Φ (-2) s10) ∧ (¬ x5 < 0 → ((x5 < 10 → hv_CI l (hv_e1 e) 0 m_X9_cell [.int x1, .int x2] s10 (fun v14 s13 => ((x5 ≠ 0 → hv_CI l (hv_e1 e) 0 m_X2_renew [.ref 1, .int v14, .int 4, .int x3, .int x4, .int x5] s13 (fun v17 s16 => Φ v17 s16)) ∧ (x5 = 0 → hv_CI l (hv_e1 e) 0 m_X2_renew [.ref 1, .int v14, .int 3, .int x3, .int x4, .int 10] s13 (fun v20 s19 => Φ v20 s19))))) ∧ (¬ x5 < 10 → Φ (-2) s10))))))))))) ∧ (v11 = 0 → Φ (-1) s10))))))))))))) : hv_CI l (hv_e1 e) 1 m_X9_names [.ref 0, .int x1, .int x2, .int x3, .int x4, .int x5] σ Φ := by
  refine hv_entI (by decide) (Nat.le_of_ble_eq_true rfl) ?_
  show hv_TW l (hv_e1 e) (hv_rm 1) 0 0 m_X9_names hv_no (hv_ZI (hv_e1 e) Φ) 0 [(0, .ref 0), (1, .int x1), (2, .int x2), (3, .int x3), (4, .int x4), (5, .int x5)] [] σ
  refine T_aload_n dX9_names_0 rfl 0 rfl ?_
  refine T_get (v := .ref 1) dX9_names_1 fl_X9_14 hp_0 hs_0 rfl rfl ?_
  refine T_iload_n dX9_names_4 rfl 1 rfl ?_
  refine T_VI (As := [.int x1]) dX9_names_5 mv_X9_79 hp_1 hs_1 rfl (Nat.le_of_ble_eq_true rfl) (hv_ok1 rfl) rfl h (fun v2 s1 h3 => ?_)
  refine T_if_eq (tgt := 41) dX9_names_8 (by decide) (fun c22 => ?_) (fun c22 => ?_)
  · refine T_iconst (v := (-1)) dX9_names_41 (by decide) ?_
    exact T_iret dX9_names_42 rfl (h3.1 c22)
  · refine T_iload_n dX9_names_11 rfl 2 rfl ?_
    refine T_SI (As := [.int x2]) dX9_names_12 ms_X9_83 rfl (Nat.le_of_ble_eq_true rfl) (hv_ok1 rfl) rfl (h3.2 c22) (fun v5 s4 h6 => ?_)
    refine T_if_eq (tgt := 41) dX9_names_15 (by decide) (fun c23 => ?_) (fun c23 => ?_)
    · refine T_iconst (v := (-1)) dX9_names_41 (by decide) ?_
      exact T_iret dX9_names_42 rfl (h6.1 c23)
    · refine T_aload_n dX9_names_18 rfl 0 rfl ?_
      refine T_get (v := .ref 1) dX9_names_19 fl_X9_14 hp_0 hs_0 rfl rfl ?_
      refine T_iload_n dX9_names_22 rfl 3 rfl ?_
      refine T_VI (As := [.int x3]) dX9_names_23 mv_X9_79 hp_1 hs_1 rfl (Nat.le_of_ble_eq_true rfl) (hv_ok1 rfl) rfl (h6.2 c23) (fun v8 s7 h9 => ?_)
      refine T_if_eq (tgt := 41) dX9_names_26 (by decide) (fun c24 => ?_) (fun c24 => ?_)
      · refine T_iconst (v := (-1)) dX9_names_41 (by decide) ?_
        exact T_iret dX9_names_42 rfl (h9.1 c24)
      · refine T_aload_n dX9_names_29 rfl 0 rfl ?_
        refine T_get (v := .ref 1) dX9_names_30 fl_X9_14 hp_0 hs_0 rfl rfl ?_
        refine T_iload dX9_names_33 4 rfl ?_
        refine T_VI (As := [.int x4]) dX9_names_35 mv_X9_79 hp_1 hs_1 rfl (Nat.le_of_ble_eq_true rfl) (hv_ok1 rfl) rfl (h9.2 c24) (fun v11 s10 h12 => ?_)
        refine T_if_ne (tgt := 43) dX9_names_38 (by decide) (fun c25 => ?_) (fun c25 => ?_)
        · refine T_iload_n dX9_names_43 rfl 1 rfl ?_
          refine T_iload_n dX9_names_44 rfl 3 rfl ?_
          refine T_icmp_eq (tgt := 72) dX9_names_45 (by decide) (fun c26 => ?_) (fun c26 => ?_)
          · refine T_bipush (v := (-2)) dX9_names_72 (by decide) ?_
            exact T_iret dX9_names_74 rfl ((h12.1 c25).1 c26)
          · refine T_iload_n dX9_names_48 rfl 1 rfl ?_
            refine T_iload dX9_names_49 4 rfl ?_
            refine T_icmp_eq (tgt := 72) dX9_names_51 (by decide) (fun c27 => ?_) (fun c27 => ?_)
            · refine T_bipush (v := (-2)) dX9_names_72 (by decide) ?_
              exact T_iret dX9_names_74 rfl (((h12.1 c25).2 c26).1 c27)
            · refine T_iload_n dX9_names_54 rfl 3 rfl ?_
              refine T_iload dX9_names_55 4 rfl ?_
              refine T_icmp_eq (tgt := 72) dX9_names_57 (by decide) (fun c28 => ?_) (fun c28 => ?_)
              · refine T_bipush (v := (-2)) dX9_names_72 (by decide) ?_
                exact T_iret dX9_names_74 rfl ((((h12.1 c25).2 c26).2 c27).1 c28)
              · refine T_iload dX9_names_60 5 rfl ?_
                refine T_if_lt (tgt := 72) dX9_names_62 (by decide) (fun c29 => ?_) (fun c29 => ?_)
                · refine T_bipush (v := (-2)) dX9_names_72 (by decide) ?_
                  exact T_iret dX9_names_74 rfl (((((h12.1 c25).2 c26).2 c27).2 c28).1 c29)
                · refine T_iload dX9_names_65 5 rfl ?_
                  refine T_bipush (v := 10) dX9_names_67 (by decide) ?_
                  refine T_icmp_lt (tgt := 75) dX9_names_69 (by decide) (fun c30 => ?_) (fun c30 => ?_)
                  · refine T_iload_n dX9_names_75 rfl 1 rfl ?_
                    refine T_iload_n dX9_names_76 rfl 2 rfl ?_
                    refine T_SI (As := [.int x1, .int x2]) dX9_names_77 ms_X9_94 rfl (Nat.le_of_ble_eq_true rfl) (hv_ok1 rfl) rfl ((((((h12.1 c25).2 c26).2 c27).2 c28).2 c29).1 c30) (fun v14 s13 h15 => ?_)
                    refine T_istore dX9_names_80 (by decide) rfl ?_
                    refine T_iload dX9_names_82 6 rfl ?_
                    refine T_if_ne (tgt := 103) dX9_names_84 (by decide) (fun c31 => ?_) (fun c31 => ?_)
                    · refine T_aload_n dX9_names_103 rfl 1 rfl ?_
                      refine T_get (v := .ref 1) dX9_names_104 fl_X9_14 hp_0 hs_0 rfl rfl ?_
                      refine T_iload dX9_names_107 0 rfl ?_
                      refine T_iconst (v := 4) dX9_names_109 (by decide) ?_
                      refine T_iload_n dX9_names_110 rfl 4 rfl ?_
                      refine T_iload dX9_names_111 5 rfl ?_
                      refine T_iload dX9_names_113 6 rfl ?_
                      refine T_VI (As := [.int v14, .int 4, .int x3, .int x4, .int x5]) dX9_names_115 mv_X9_105 hp_1 hs_1 rfl (Nat.le_of_ble_eq_true rfl) (hv_ok1 rfl) rfl (h15.1 c31) (fun v17 s16 h18 => ?_)
                      exact T_iret dX9_names_118 rfl h18
                    · refine T_aload_n dX9_names_87 rfl 1 rfl ?_
                      refine T_get (v := .ref 1) dX9_names_88 fl_X9_14 hp_0 hs_0 rfl rfl ?_
                      refine T_iload dX9_names_91 0 rfl ?_
                      refine T_iconst (v := 3) dX9_names_93 (by decide) ?_
                      refine T_iload_n dX9_names_94 rfl 4 rfl ?_
                      refine T_iload dX9_names_95 5 rfl ?_
                      refine T_bipush (v := 10) dX9_names_97 (by decide) ?_
                      refine T_VI (As := [.int v14, .int 3, .int x3, .int x4, .int 10]) dX9_names_99 mv_X9_105 hp_1 hs_1 rfl (Nat.le_of_ble_eq_true rfl) (hv_ok1 rfl) rfl (h15.2 c31) (fun v20 s19 h21 => ?_)
                      exact T_iret dX9_names_102 rfl h21
                  · refine T_bipush (v := (-2)) dX9_names_72 (by decide) ?_
                    exact T_iret dX9_names_74 rfl ((((((h12.1 c25).2 c26).2 c27).2 c28).2 c29).2 c30)
        · refine T_iconst (v := (-1)) dX9_names_41 (by decide) ?_
          exact T_iret dX9_names_42 rfl (h12.2 c25)

set_option maxHeartbeats 4000000 in
set_option maxRecDepth 100000 in
theorem B_X9_back {l : Launch} {e : hv_Ev}  (x1 : Int32) (x2 : Int32) (x3 : Int32) {σ : hv_S} {Φ : Int32 → hv_S → Prop} (h : hv_CI l (hv_e1 e) 0 m_X2_sits [.ref 1, .int x1] σ (fun v2 s1 => ((v2 = 0 → Φ (-1) s1) ∧ (¬ v2 = 0 → hv_CI l (hv_e1 e) 0 m_X9_isMatter [.int x2] s1 (fun v5 s4 => ((v5 ≠ 0 → ((x3 < 0 → Φ (-2) s4) ∧ (¬ x3 < 0 → ((x3 ≤ 100 → hv_CI l (hv_e1 e) 0 m_X9_cell [.int x1, .int x2] s4 (fun v8 s7 => (vp_in v8 24 ∧ (vp_in v8 24 ∧ Φ (s7.1 5 v8.toNatClampNeg) (hv_ui s7 5 v8.toNatClampNeg x3))))) ∧ (¬ x3 ≤ 100 → Φ (-2) s4))))) ∧ (v5 = 0 → Φ (-1) s4))))))) : hv_CI l (hv_e1 e) 1 m_X9_back [.ref 0, .int x1, .int x2, .int x3] σ Φ := by
  refine hv_entI (by decide) (Nat.le_of_ble_eq_true rfl) ?_
  show hv_TW l (hv_e1 e) (hv_rm 1) 0 0 m_X9_back hv_no (hv_ZI (hv_e1 e) Φ) 0 [(0, .ref 0), (1, .int x1), (2, .int x2), (3, .int x3)] [] σ
  refine T_aload_n dX9_back_0 rfl 0 rfl ?_
  refine T_get (v := .ref 1) dX9_back_1 fl_X9_14 hp_0 hs_0 rfl rfl ?_
  refine T_iload_n dX9_back_4 rfl 1 rfl ?_
  refine T_VI (As := [.int x1]) dX9_back_5 mv_X9_79 hp_1 hs_1 rfl (Nat.le_of_ble_eq_true rfl) (hv_ok1 rfl) rfl h (fun v2 s1 h3 => ?_)
  refine T_if_eq (tgt := 18) dX9_back_8 (by decide) (fun c10 => ?_) (fun c10 => ?_)
  · refine T_iconst (v := (-1)) dX9_back_18 (by decide) ?_
    exact T_iret dX9_back_19 rfl (h3.1 c10)
  · refine T_iload_n dX9_back_11 rfl 2 rfl ?_
    refine T_SI (As := [.int x2]) dX9_back_12 ms_X9_83 rfl (Nat.le_of_ble_eq_true rfl) (hv_ok1 rfl) rfl (h3.2 c10) (fun v5 s4 h6 => ?_)
    refine T_if_ne (tgt := 20) dX9_back_15 (by decide) (fun c11 => ?_) (fun c11 => ?_)
    · refine T_iload_n dX9_back_20 rfl 3 rfl ?_
      refine T_if_lt (tgt := 30) dX9_back_21 (by decide) (fun c12 => ?_) (fun c12 => ?_)
      · refine T_bipush (v := (-2)) dX9_back_30 (by decide) ?_
        exact T_iret dX9_back_32 rfl ((h6.1 c11).1 c12)
      · refine T_iload_n dX9_back_24 rfl 3 rfl ?_
        refine T_bipush (v := 100) dX9_back_25 (by decide) ?_
        refine T_icmp_le (tgt := 33) dX9_back_27 (by decide) (fun c13 => ?_) (fun c13 => ?_)
        · refine T_iload_n dX9_back_33 rfl 1 rfl ?_
          refine T_iload_n dX9_back_34 rfl 2 rfl ?_
          refine T_SI (As := [.int x1, .int x2]) dX9_back_35 ms_X9_94 rfl (Nat.le_of_ble_eq_true rfl) (hv_ok1 rfl) rfl (((h6.1 c11).2 c12).1 c13) (fun v8 s7 h9 => ?_)
          refine T_istore dX9_back_38 (by decide) rfl ?_
          refine T_aload_n dX9_back_40 rfl 1 rfl ?_
          refine T_get (v := .ref 1) dX9_back_41 fl_X9_14 hp_0 hs_0 rfl rfl ?_
          refine T_get (v := .ref 5) dX9_back_44 fl_X9_109 hp_1 hs_1 rfl rfl ?_
          refine T_iload dX9_back_47 0 rfl ?_
          refine T_iald dX9_back_49 hp_5 hs_5 h9.1 ?_
          refine T_istore dX9_back_50 (by decide) rfl ?_
          refine T_aload_n dX9_back_52 rfl 2 rfl ?_
          refine T_get (v := .ref 1) dX9_back_53 fl_X9_14 hp_0 hs_0 rfl rfl ?_
          refine T_get (v := .ref 5) dX9_back_56 fl_X9_109 hp_1 hs_1 rfl rfl ?_
          refine T_iload dX9_back_59 1 rfl ?_
          refine T_iload_n dX9_back_61 rfl 5 rfl ?_
          refine T_iast dX9_back_62 hp_5 hs_5 h9.2.1 ?_
          refine T_iload dX9_back_63 0 rfl ?_
          exact T_iret dX9_back_65 rfl h9.2.2
        · refine T_bipush (v := (-2)) dX9_back_30 (by decide) ?_
          exact T_iret dX9_back_32 rfl (((h6.1 c11).2 c12).2 c13)
    · refine T_iconst (v := (-1)) dX9_back_18 (by decide) ?_
      exact T_iret dX9_back_19 rfl (h6.2 c11)

set_option maxHeartbeats 4000000 in
set_option maxRecDepth 100000 in
theorem B_X9_pass {l : Launch} {e : hv_Ev}  (x1 : Int32) {σ : hv_S} {Φ : Int32 → hv_S → Prop} (h : ((x1 < 1 → Φ (-2) σ) ∧ (¬ x1 < 1 → ((20 < x1 → Φ (-2) σ) ∧ (¬ 20 < x1 → ((((σ.1 1 8) + x1) ≤ 99 → Φ ((σ.1 1 8) + x1) (hv_ui σ 1 8 ((σ.1 1 8) + x1))) ∧ (¬ ((σ.1 1 8) + x1) ≤ 99 → Φ (-2) σ))))))) : hv_CI l (hv_e1 e) 0 m_X9_pass [.ref 0, .int x1] σ Φ := by
  refine hv_entI (by decide) (Nat.le_of_ble_eq_true rfl) ?_
  show hv_TW l (hv_e1 e) (hv_rm 0) 0 0 m_X9_pass hv_no (hv_ZI (hv_e1 e) Φ) 0 [(0, .ref 0), (1, .int x1)] [] σ
  refine T_iload_n dX9_pass_0 rfl 1 rfl ?_
  refine T_iconst (v := 1) dX9_pass_1 (by decide) ?_
  refine T_icmp_lt (tgt := 25) dX9_pass_2 (by decide) (fun c1 => ?_) (fun c1 => ?_)
  · refine T_bipush (v := (-2)) dX9_pass_25 (by decide) ?_
    exact T_iret dX9_pass_27 rfl (h.1 c1)
  · refine T_iload_n dX9_pass_5 rfl 1 rfl ?_
    refine T_bipush (v := 20) dX9_pass_6 (by decide) ?_
    refine T_icmp_gt (tgt := 25) dX9_pass_8 (by decide) (fun c2 => ?_) (fun c2 => ?_)
    · refine T_bipush (v := (-2)) dX9_pass_25 (by decide) ?_
      exact T_iret dX9_pass_27 rfl ((h.2 c1).1 c2)
    · refine T_aload_n dX9_pass_11 rfl 0 rfl ?_
      refine T_get (v := .ref 1) dX9_pass_12 fl_X9_14 hp_0 hs_0 rfl rfl ?_
      refine T_get (v := .int (σ.1 1 8)) dX9_pass_15 fl_X9_112 hp_1 hs_1 rfl rfl ?_
      refine T_iload_n dX9_pass_18 rfl 1 rfl ?_
      refine T_iadd dX9_pass_19 ?_
      refine T_bipush (v := 99) dX9_pass_20 (by decide) ?_
      refine T_icmp_le (tgt := 28) dX9_pass_22 (by decide) (fun c3 => ?_) (fun c3 => ?_)
      · refine T_aload_n dX9_pass_28 rfl 0 rfl ?_
        refine T_get (v := .ref 1) dX9_pass_29 fl_X9_14 hp_0 hs_0 rfl rfl ?_
        refine T_dup dX9_pass_32 rfl ?_
        refine T_get (v := .int (σ.1 1 8)) dX9_pass_33 fl_X9_112 hp_1 hs_1 rfl rfl ?_
        refine T_iload_n dX9_pass_36 rfl 1 rfl ?_
        refine T_iadd dX9_pass_37 ?_
        refine T_puti dX9_pass_38 fl_X9_112 pf_X2_8 hp_1 hs_1 rfl ?_
        refine T_aload_n dX9_pass_41 rfl 0 rfl ?_
        refine T_get (v := .ref 1) dX9_pass_42 fl_X9_14 hp_0 hs_0 rfl rfl ?_
        refine T_get (v := .int ((σ.1 1 8) + x1)) dX9_pass_45 fl_X9_112 hp_1 hs_1 rfl rfl ?_
        exact T_iret dX9_pass_48 rfl (((h.2 c1).2 c2).1 c3)
      · refine T_bipush (v := (-2)) dX9_pass_25 (by decide) ?_
        exact T_iret dX9_pass_27 rfl (((h.2 c1).2 c2).2 c3)

set_option maxHeartbeats 4000000 in
set_option maxRecDepth 100000 in
theorem B_X9_of {l : Launch} {e : hv_Ev}  (x1 : Int32) (x2 : Int32) (x3 : Int32) {σ : hv_S} {Φ : Int32 → hv_S → Prop} (h : hv_CI l (hv_e1 e) 0 m_X2_sits [.ref 1, .int x1] σ (fun v2 s1 => ((v2 = 0 → Φ (-1) s1) ∧ (¬ v2 = 0 → hv_CI l (hv_e1 e) 0 m_X9_isMatter [.int x2] s1 (fun v5 s4 => ((v5 ≠ 0 → hv_CI l (hv_e1 e) 0 m_X9_cell [.int x1, .int x2] s4 (fun v8 s7 => ((x3 = 0 → (vp_in v8 24 ∧ Φ (s7.1 4 v8.toNatClampNeg) s7)) ∧ (x3 = 1 → (vp_in v8 24 ∧ Φ (s7.1 5 v8.toNatClampNeg) s7)) ∧ (x3 = 2 → (vp_in v8 24 ∧ Φ (s7.1 6 v8.toNatClampNeg) s7)) ∧ (x3 = 3 → (vp_in v8 24 ∧ Φ (s7.1 7 v8.toNatClampNeg) s7)) ∧ (x3 = 4 → (vp_in v8 24 ∧ Φ (s7.1 8 v8.toNatClampNeg) s7)) ∧ (x3 = 5 → hv_CI l (hv_e1 e) 0 m_X2_opinion [.ref 1, .int x1, .int x2] s7 (fun v11 s10 => Φ v11 s10)) ∧ (x3 = 6 → (vp_in v8 24 ∧ Φ (s7.1 3 v8.toNatClampNeg) s7)) ∧ (¬ x3 = 0 → ¬ x3 = 1 → ¬ x3 = 2 → ¬ x3 = 3 → ¬ x3 = 4 → ¬ x3 = 5 → ¬ x3 = 6 → Φ (-1) s7)))) ∧ (v5 = 0 → Φ (-1) s4))))))) : hv_CI l (hv_e1 e) 1 m_X9_of [.ref 0, .int x1, .int x2, .int x3] σ Φ := by
  refine hv_entI (by decide) (Nat.le_of_ble_eq_true rfl) ?_
  show hv_TW l (hv_e1 e) (hv_rm 1) 0 0 m_X9_of hv_no (hv_ZI (hv_e1 e) Φ) 0 [(0, .ref 0), (1, .int x1), (2, .int x2), (3, .int x3)] [] σ
  refine T_aload_n dX9_of_0 rfl 0 rfl ?_
  refine T_get (v := .ref 1) dX9_of_1 fl_X9_14 hp_0 hs_0 rfl rfl ?_
  refine T_iload_n dX9_of_4 rfl 1 rfl ?_
  refine T_VI (As := [.int x1]) dX9_of_5 mv_X9_79 hp_1 hs_1 rfl (Nat.le_of_ble_eq_true rfl) (hv_ok1 rfl) rfl h (fun v2 s1 h3 => ?_)
  refine T_if_eq (tgt := 18) dX9_of_8 (by decide) (fun c13 => ?_) (fun c13 => ?_)
  · refine T_iconst (v := (-1)) dX9_of_18 (by decide) ?_
    exact T_iret dX9_of_19 rfl (h3.1 c13)
  · refine T_iload_n dX9_of_11 rfl 2 rfl ?_
    refine T_SI (As := [.int x2]) dX9_of_12 ms_X9_83 rfl (Nat.le_of_ble_eq_true rfl) (hv_ok1 rfl) rfl (h3.2 c13) (fun v5 s4 h6 => ?_)
    refine T_if_ne (tgt := 20) dX9_of_15 (by decide) (fun c14 => ?_) (fun c14 => ?_)
    · refine T_iload_n dX9_of_20 rfl 1 rfl ?_
      refine T_iload_n dX9_of_21 rfl 2 rfl ?_
      refine T_SI (As := [.int x1, .int x2]) dX9_of_22 ms_X9_94 rfl (Nat.le_of_ble_eq_true rfl) (hv_ok1 rfl) rfl (h6.1 c14) (fun v8 s7 h9 => ?_)
      refine T_istore dX9_of_25 (by decide) rfl ?_
      refine T_iload_n dX9_of_27 rfl 4 rfl ?_
      by_cases c15 : x3 = 0
      · refine T_tableIn (off := 44) (tgt := 72) dX9_of_28 (by rw [c15]; decide) (by rw [c15]; decide) (by rw [c15]; rfl) (by decide) ?_
        refine T_aload_n dX9_of_72 rfl 1 rfl ?_
        refine T_get (v := .ref 1) dX9_of_73 fl_X9_14 hp_0 hs_0 rfl rfl ?_
        refine T_get (v := .ref 4) dX9_of_76 fl_X9_115 hp_1 hs_1 rfl rfl ?_
        refine T_iload dX9_of_79 0 rfl ?_
        refine T_iald dX9_of_81 hp_4 hs_4 (h9.1 c15).1 ?_
        exact T_iret dX9_of_82 rfl ((h9.1 c15).2)
      · skip
        by_cases c16 : x3 = 1
        · refine T_tableIn (off := 55) (tgt := 83) dX9_of_28 (by rw [c16]; decide) (by rw [c16]; decide) (by rw [c16]; rfl) (by decide) ?_
          refine T_aload_n dX9_of_83 rfl 1 rfl ?_
          refine T_get (v := .ref 1) dX9_of_84 fl_X9_14 hp_0 hs_0 rfl rfl ?_
          refine T_get (v := .ref 5) dX9_of_87 fl_X9_109 hp_1 hs_1 rfl rfl ?_
          refine T_iload dX9_of_90 0 rfl ?_
          refine T_iald dX9_of_92 hp_5 hs_5 (h9.2.1 c16).1 ?_
          exact T_iret dX9_of_93 rfl ((h9.2.1 c16).2)
        · skip
          by_cases c17 : x3 = 2
          · refine T_tableIn (off := 66) (tgt := 94) dX9_of_28 (by rw [c17]; decide) (by rw [c17]; decide) (by rw [c17]; rfl) (by decide) ?_
            refine T_aload_n dX9_of_94 rfl 1 rfl ?_
            refine T_get (v := .ref 1) dX9_of_95 fl_X9_14 hp_0 hs_0 rfl rfl ?_
            refine T_get (v := .ref 6) dX9_of_98 fl_X9_118 hp_1 hs_1 rfl rfl ?_
            refine T_iload dX9_of_101 0 rfl ?_
            refine T_iald dX9_of_103 hp_6 hs_6 (h9.2.2.1 c17).1 ?_
            exact T_iret dX9_of_104 rfl ((h9.2.2.1 c17).2)
          · skip
            by_cases c18 : x3 = 3
            · refine T_tableIn (off := 77) (tgt := 105) dX9_of_28 (by rw [c18]; decide) (by rw [c18]; decide) (by rw [c18]; rfl) (by decide) ?_
              refine T_aload_n dX9_of_105 rfl 1 rfl ?_
              refine T_get (v := .ref 1) dX9_of_106 fl_X9_14 hp_0 hs_0 rfl rfl ?_
              refine T_get (v := .ref 7) dX9_of_109 fl_X9_121 hp_1 hs_1 rfl rfl ?_
              refine T_iload dX9_of_112 0 rfl ?_
              refine T_iald dX9_of_114 hp_7 hs_7 (h9.2.2.2.1 c18).1 ?_
              exact T_iret dX9_of_115 rfl ((h9.2.2.2.1 c18).2)
            · skip
              by_cases c19 : x3 = 4
              · refine T_tableIn (off := 88) (tgt := 116) dX9_of_28 (by rw [c19]; decide) (by rw [c19]; decide) (by rw [c19]; rfl) (by decide) ?_
                refine T_aload_n dX9_of_116 rfl 1 rfl ?_
                refine T_get (v := .ref 1) dX9_of_117 fl_X9_14 hp_0 hs_0 rfl rfl ?_
                refine T_get (v := .ref 8) dX9_of_120 fl_X9_124 hp_1 hs_1 rfl rfl ?_
                refine T_iload dX9_of_123 0 rfl ?_
                refine T_iald dX9_of_125 hp_8 hs_8 (h9.2.2.2.2.1 c19).1 ?_
                exact T_iret dX9_of_126 rfl ((h9.2.2.2.2.1 c19).2)
              · skip
                by_cases c20 : x3 = 5
                · refine T_tableIn (off := 99) (tgt := 127) dX9_of_28 (by rw [c20]; decide) (by rw [c20]; decide) (by rw [c20]; rfl) (by decide) ?_
                  refine T_aload_n dX9_of_127 rfl 1 rfl ?_
                  refine T_get (v := .ref 1) dX9_of_128 fl_X9_14 hp_0 hs_0 rfl rfl ?_
                  refine T_iload_n dX9_of_131 rfl 2 rfl ?_
                  refine T_iload_n dX9_of_132 rfl 3 rfl ?_
                  refine T_VI (As := [.int x1, .int x2]) dX9_of_133 mv_X9_86 hp_1 hs_1 rfl (Nat.le_of_ble_eq_true rfl) (hv_ok1 rfl) rfl (h9.2.2.2.2.2.1 c20) (fun v11 s10 h12 => ?_)
                  exact T_iret dX9_of_136 rfl h12
                · skip
                  by_cases c21 : x3 = 6
                  · refine T_tableIn (off := 109) (tgt := 137) dX9_of_28 (by rw [c21]; decide) (by rw [c21]; decide) (by rw [c21]; rfl) (by decide) ?_
                    refine T_aload_n dX9_of_137 rfl 1 rfl ?_
                    refine T_get (v := .ref 1) dX9_of_138 fl_X9_14 hp_0 hs_0 rfl rfl ?_
                    refine T_get (v := .ref 3) dX9_of_141 fl_X9_90 hp_1 hs_1 rfl rfl ?_
                    refine T_iload dX9_of_144 0 rfl ?_
                    refine T_iald dX9_of_146 hp_3 hs_3 (h9.2.2.2.2.2.2.1 c21).1 ?_
                    exact T_iret dX9_of_147 rfl ((h9.2.2.2.2.2.2.1 c21).2)
                  · skip
                    refine T_tableOut (tgt := 148) dX9_of_28 (by have q0 := lv_neT c15 (a := 0) (by decide); have q1 := lv_neT c16 (a := 1) (by decide); have q2 := lv_neT c17 (a := 2) (by decide); have q3 := lv_neT c18 (a := 3) (by decide); have q4 := lv_neT c19 (a := 4) (by decide); have q5 := lv_neT c20 (a := 5) (by decide); have q6 := lv_neT c21 (a := 6) (by decide); omega) (by decide) ?_
                    refine T_iconst (v := (-1)) dX9_of_148 (by decide) ?_
                    exact T_iret dX9_of_149 rfl (h9.2.2.2.2.2.2.2 c15 c16 c17 c18 c19 c20 c21)
    · refine T_iconst (v := (-1)) dX9_of_18 (by decide) ?_
      exact T_iret dX9_of_19 rfl (h6.2 c14)

def L_X9_feed_33 (l : Launch) (e : hv_Ev)  (Φ : Int32 → hv_S → Prop) (x1 : Int32) (x3 : Int32) (σ : hv_S) : Prop := hv_TW l (hv_e1 e) (hv_rm 1) 0 0 m_X9_feed hv_no (hv_ZI (hv_e1 e) Φ) 33 [(0, .ref 0), (1, .int x1), (3, .int x3)] [] σ
set_option maxHeartbeats 4000000 in
set_option maxRecDepth 100000 in
theorem B_X9_feed_33 {l : Launch} {e : hv_Ev}  (x1 : Int32) (x3 : Int32) {σ : hv_S} {Φ : Int32 → hv_S → Prop} (h : ((x3 < 0 → Φ (σ.1 9 1) σ) ∧ (¬ x3 < 0 → hv_CV l (hv_e1 e) 0 m_X1_append [.ref 9, .int ((x1.toUInt32 >>> ((8 * x3).toUInt32 &&& Int32.toUInt32 31)).toInt32 &&& 255)] σ (fun s4 => L_X9_feed_33 l e Φ x1 (x3 + (-1)) s4)))) : L_X9_feed_33 l e Φ x1 x3 σ := by
  show hv_TW l (hv_e1 e) (hv_rm 1) 0 0 m_X9_feed hv_no (hv_ZI (hv_e1 e) Φ) 33 [(0, .ref 0), (1, .int x1), (3, .int x3)] [] σ
  refine T_iload_n dX9_feed_33 rfl 2 rfl ?_
  refine T_if_lt (tgt := 60) dX9_feed_34 (by decide) (fun c7 => ?_) (fun c7 => ?_)
  · refine T_aload_n dX9_feed_60 rfl 0 rfl ?_
    refine T_get (v := .ref 9) dX9_feed_61 fl_X9_21 hp_0 hs_0 rfl rfl ?_
    refine T_get (v := .int (σ.1 9 1)) dX9_feed_64 fl_X9_127 hp_9 hs_9 rfl rfl ?_
    exact T_iret dX9_feed_67 rfl (h.1 c7)
  · refine T_aload_n dX9_feed_37 rfl 0 rfl ?_
    refine T_get (v := .ref 9) dX9_feed_38 fl_X9_21 hp_0 hs_0 rfl rfl ?_
    refine T_iload_n dX9_feed_41 rfl 1 rfl ?_
    refine T_bipush (v := 8) dX9_feed_42 (by decide) ?_
    refine T_iload_n dX9_feed_44 rfl 2 rfl ?_
    refine T_imul dX9_feed_45 ?_
    refine T_iushr dX9_feed_46 ?_
    refine T_sipush (v := 255) dX9_feed_47 (by decide) ?_
    refine T_iand dX9_feed_50 ?_
    refine T_VV (As := [.int ((x1.toUInt32 >>> ((8 * x3).toUInt32 &&& Int32.toUInt32 31)).toInt32 &&& 255)]) dX9_feed_51 mv_X9_130 hp_9 hs_9 rfl (Nat.le_of_ble_eq_true rfl) (hv_ok1 rfl) rfl (h.2 c7) (fun s4 h6 => ?_)
    refine T_iinc (v := (x3 + (-1))) dX9_feed_54 2 rfl rfl (by decide) rfl ?_
    refine T_goto (tgt := 33) dX9_feed_57 (by decide) ?_
    exact T_sub [1, 2, 0] rfl h6
set_option maxHeartbeats 4000000 in
set_option maxRecDepth 100000 in
theorem B_X9_feed {l : Launch} {e : hv_Ev}  (x1 : Int32) (x2 : Int32) {σ : hv_S} {Φ : Int32 → hv_S → Prop} (h : ((x2 < 0 → Φ (-2) σ) ∧ (¬ x2 < 0 → ((x2 ≤ 4 → ((((σ.1 9 1) + x2) ≤ 100 → L_X9_feed_33 l e Φ x1 (x2 - 1) σ) ∧ (¬ ((σ.1 9 1) + x2) ≤ 100 → Φ (-4) σ))) ∧ (¬ x2 ≤ 4 → Φ (-2) σ))))) : hv_CI l (hv_e1 e) 1 m_X9_feed [.ref 0, .int x1, .int x2] σ Φ := by
  refine hv_entI (by decide) (Nat.le_of_ble_eq_true rfl) ?_
  show hv_TW l (hv_e1 e) (hv_rm 1) 0 0 m_X9_feed hv_no (hv_ZI (hv_e1 e) Φ) 0 [(0, .ref 0), (1, .int x1), (2, .int x2)] [] σ
  refine T_iload_n dX9_feed_0 rfl 2 rfl ?_
  refine T_if_lt (tgt := 9) dX9_feed_1 (by decide) (fun c1 => ?_) (fun c1 => ?_)
  · refine T_bipush (v := (-2)) dX9_feed_9 (by decide) ?_
    exact T_iret dX9_feed_11 rfl (h.1 c1)
  · refine T_iload_n dX9_feed_4 rfl 2 rfl ?_
    refine T_iconst (v := 4) dX9_feed_5 (by decide) ?_
    refine T_icmp_le (tgt := 12) dX9_feed_6 (by decide) (fun c2 => ?_) (fun c2 => ?_)
    · refine T_aload_n dX9_feed_12 rfl 0 rfl ?_
      refine T_get (v := .ref 9) dX9_feed_13 fl_X9_21 hp_0 hs_0 rfl rfl ?_
      refine T_get (v := .int (σ.1 9 1)) dX9_feed_16 fl_X9_127 hp_9 hs_9 rfl rfl ?_
      refine T_iload_n dX9_feed_19 rfl 2 rfl ?_
      refine T_iadd dX9_feed_20 ?_
      refine T_bipush (v := 100) dX9_feed_21 (by decide) ?_
      refine T_icmp_le (tgt := 29) dX9_feed_23 (by decide) (fun c3 => ?_) (fun c3 => ?_)
      · refine T_iload_n dX9_feed_29 rfl 2 rfl ?_
        refine T_iconst (v := 1) dX9_feed_30 (by decide) ?_
        refine T_isub dX9_feed_31 ?_
        refine T_istore_n dX9_feed_32 rfl (by decide) rfl ?_
        exact T_sub [1, 2, 0] rfl (((h.2 c1).1 c2).1 c3)
      · refine T_bipush (v := (-4)) dX9_feed_26 (by decide) ?_
        exact T_iret dX9_feed_28 rfl (((h.2 c1).1 c2).2 c3)
    · refine T_bipush (v := (-2)) dX9_feed_9 (by decide) ?_
      exact T_iret dX9_feed_11 rfl ((h.2 c1).2 c2)

set_option maxHeartbeats 4000000 in
set_option maxRecDepth 100000 in
theorem B_X9_hall {l : Launch} {e : hv_Ev}   {σ : hv_S} {Φ : Int32 → hv_S → Prop} (h : hv_CI l (hv_e1 e) 18 m_X1_fault [.ref 9] σ (fun v2 s1 => ((v2 = (-1) → (hv_isR (s1.2.2 9 5) ∧ hv_CR l (hv_e1 e) 4 m_X3_adopt [.ref 15, .ref (s1.2.2 9 5)] (hv_ui s1 9 1 0) (fun v6 s5 => Φ (s5.1 15 4) (hv_ur s5 9 5 v6)))) ∧ (¬ v2 = (-1) → Φ ((-10) - v2) (hv_ui s1 9 1 0))))) : hv_CI l (hv_e1 e) 19 m_X9_hall [.ref 0] σ Φ := by
  refine hv_entI (by decide) (Nat.le_of_ble_eq_true rfl) ?_
  show hv_TW l (hv_e1 e) (hv_rm 19) 0 0 m_X9_hall hv_no (hv_ZI (hv_e1 e) Φ) 0 [(0, .ref 0)] [] σ
  refine T_aload_n dX9_hall_0 rfl 0 rfl ?_
  refine T_get (v := .ref 9) dX9_hall_1 fl_X9_21 hp_0 hs_0 rfl rfl ?_
  refine T_VI (As := []) dX9_hall_4 mv_X9_133 hp_9 hs_9 rfl (Nat.le_of_ble_eq_true rfl) (hv_ok1 rfl) rfl h (fun v2 s1 h3 => ?_)
  refine T_istore_n dX9_hall_7 rfl (by decide) rfl ?_
  refine T_aload_n dX9_hall_8 rfl 1 rfl ?_
  refine T_get (v := .ref 9) dX9_hall_9 fl_X9_21 hp_0 hs_0 rfl rfl ?_
  refine T_iconst (v := 0) dX9_hall_12 (by decide) ?_
  refine T_puti dX9_hall_13 fl_X9_127 pf_X1_1 hp_9 hs_9 rfl ?_
  refine T_iload_n dX9_hall_16 rfl 0 rfl ?_
  refine T_iconst (v := (-1)) dX9_hall_17 (by decide) ?_
  refine T_icmp_eq (tgt := 26) dX9_hall_18 (by decide) (fun c8 => ?_) (fun c8 => ?_)
  · refine T_aload_n dX9_hall_26 rfl 1 rfl ?_
    refine T_get (v := .ref 9) dX9_hall_27 fl_X9_21 hp_0 hs_0 rfl rfl ?_
    refine T_aload_n dX9_hall_30 rfl 1 rfl ?_
    refine T_get (v := .ref 15) dX9_hall_31 fl_X9_30 hp_0 hs_0 rfl rfl ?_
    refine T_aload_n dX9_hall_34 rfl 1 rfl ?_
    refine T_get (v := .ref 9) dX9_hall_35 fl_X9_21 hp_0 hs_0 rfl rfl ?_
    have b4 := (h3.1 c8).1
    refine T_get (v := .ref (s1.2.2 9 5)) dX9_hall_38 fl_X9_137 hp_9 hs_9 rfl rfl ?_
    refine T_VR (As := [.ref (s1.2.2 9 5)]) dX9_hall_41 mv_X9_141 hp_15 hs_15 rfl (Nat.le_of_ble_eq_true rfl) (hv_ok1 rfl) rfl ((h3.1 c8).2) (fun v6 s5 h7 => ?_)
    refine T_putr dX9_hall_44 fl_X9_137 pf_X1_5 hp_9 hs_9 rfl ?_
    refine T_aload_n dX9_hall_47 rfl 1 rfl ?_
    refine T_get (v := .ref 15) dX9_hall_48 fl_X9_30 hp_0 hs_0 rfl rfl ?_
    refine T_get (v := .int (s5.1 15 4)) dX9_hall_51 fl_X9_145 hp_15 hs_15 rfl rfl ?_
    exact T_iret dX9_hall_54 rfl h7
  · refine T_bipush (v := (-10)) dX9_hall_21 (by decide) ?_
    refine T_iload_n dX9_hall_23 rfl 0 rfl ?_
    refine T_isub dX9_hall_24 ?_
    exact T_iret dX9_hall_25 rfl (h3.2 c8)

set_option maxHeartbeats 4000000 in
set_option maxRecDepth 100000 in
theorem B_X9_barred {l : Launch} {e : hv_Ev}  (x1 : Int32) (x2 : Int32) (x3 : Int32) {σ : hv_S} {Φ : Int32 → hv_S → Prop} (h : hv_CI l (hv_e1 e) 0 m_X2_sits [.ref 1, .int x1] σ (fun v2 s1 => ((v2 = 0 → Φ (-1) s1) ∧ (¬ v2 = 0 → hv_CI l (hv_e1 e) 0 m_X2_sits [.ref 1, .int x2] s1 (fun v5 s4 => ((v5 = 0 → Φ (-1) s4) ∧ (¬ v5 = 0 → hv_CI l (hv_e1 e) 0 m_X9_isMatter [.int x3] s4 (fun v8 s7 => ((v8 ≠ 0 → ((x1 ≠ x2 → hv_CI l (hv_e1 e) 1 m_X3_bars [.ref 15, .int x1, .int x2, .int x3] s7 (fun v11 s10 => ((v11 = 0 → Φ 0 s10) ∧ (¬ v11 = 0 → Φ 1 s10)))) ∧ (x1 = x2 → Φ (-2) s7))) ∧ (v8 = 0 → Φ (-1) s7)))))))))) : hv_CI l (hv_e1 e) 2 m_X9_barred [.ref 0, .int x1, .int x2, .int x3] σ Φ := by
  refine hv_entI (by decide) (Nat.le_of_ble_eq_true rfl) ?_
  show hv_TW l (hv_e1 e) (hv_rm 2) 0 0 m_X9_barred hv_no (hv_ZI (hv_e1 e) Φ) 0 [(0, .ref 0), (1, .int x1), (2, .int x2), (3, .int x3)] [] σ
  refine T_aload_n dX9_barred_0 rfl 0 rfl ?_
  refine T_get (v := .ref 1) dX9_barred_1 fl_X9_14 hp_0 hs_0 rfl rfl ?_
  refine T_iload_n dX9_barred_4 rfl 1 rfl ?_
  refine T_VI (As := [.int x1]) dX9_barred_5 mv_X9_79 hp_1 hs_1 rfl (Nat.le_of_ble_eq_true rfl) (hv_ok1 rfl) rfl h (fun v2 s1 h3 => ?_)
  refine T_if_eq (tgt := 29) dX9_barred_8 (by decide) (fun c13 => ?_) (fun c13 => ?_)
  · refine T_iconst (v := (-1)) dX9_barred_29 (by decide) ?_
    exact T_iret dX9_barred_30 rfl (h3.1 c13)
  · refine T_aload_n dX9_barred_11 rfl 0 rfl ?_
    refine T_get (v := .ref 1) dX9_barred_12 fl_X9_14 hp_0 hs_0 rfl rfl ?_
    refine T_iload_n dX9_barred_15 rfl 2 rfl ?_
    refine T_VI (As := [.int x2]) dX9_barred_16 mv_X9_79 hp_1 hs_1 rfl (Nat.le_of_ble_eq_true rfl) (hv_ok1 rfl) rfl (h3.2 c13) (fun v5 s4 h6 => ?_)
    refine T_if_eq (tgt := 29) dX9_barred_19 (by decide) (fun c14 => ?_) (fun c14 => ?_)
    · refine T_iconst (v := (-1)) dX9_barred_29 (by decide) ?_
      exact T_iret dX9_barred_30 rfl (h6.1 c14)
    · refine T_iload_n dX9_barred_22 rfl 3 rfl ?_
      refine T_SI (As := [.int x3]) dX9_barred_23 ms_X9_83 rfl (Nat.le_of_ble_eq_true rfl) (hv_ok1 rfl) rfl (h6.2 c14) (fun v8 s7 h9 => ?_)
      refine T_if_ne (tgt := 31) dX9_barred_26 (by decide) (fun c15 => ?_) (fun c15 => ?_)
      · refine T_iload_n dX9_barred_31 rfl 1 rfl ?_
        refine T_iload_n dX9_barred_32 rfl 2 rfl ?_
        refine T_icmp_ne (tgt := 39) dX9_barred_33 (by decide) (fun c16 => ?_) (fun c16 => ?_)
        · refine T_aload_n dX9_barred_39 rfl 0 rfl ?_
          refine T_get (v := .ref 15) dX9_barred_40 fl_X9_30 hp_0 hs_0 rfl rfl ?_
          refine T_iload_n dX9_barred_43 rfl 1 rfl ?_
          refine T_iload_n dX9_barred_44 rfl 2 rfl ?_
          refine T_iload_n dX9_barred_45 rfl 3 rfl ?_
          refine T_VI (As := [.int x1, .int x2, .int x3]) dX9_barred_46 mv_X9_148 hp_15 hs_15 rfl (Nat.le_of_ble_eq_true rfl) (hv_ok1 rfl) rfl ((h9.1 c15).1 c16) (fun v11 s10 h12 => ?_)
          refine T_if_eq (tgt := 56) dX9_barred_49 (by decide) (fun c17 => ?_) (fun c17 => ?_)
          · refine T_iconst (v := 0) dX9_barred_56 (by decide) ?_
            exact T_iret dX9_barred_57 rfl (h12.1 c17)
          · refine T_iconst (v := 1) dX9_barred_52 (by decide) ?_
            refine T_goto (tgt := 57) dX9_barred_53 (by decide) ?_
            exact T_iret dX9_barred_57 rfl (h12.2 c17)
        · refine T_bipush (v := (-2)) dX9_barred_36 (by decide) ?_
          exact T_iret dX9_barred_38 rfl ((h9.1 c15).2 c16)
      · refine T_iconst (v := (-1)) dX9_barred_29 (by decide) ?_
        exact T_iret dX9_barred_30 rfl (h9.2 c15)

set_option maxHeartbeats 4000000 in
set_option maxRecDepth 100000 in
theorem B_X9_share {l : Launch} {e : hv_Ev}  (x1 : Int32) (x2 : Int32) (x3 : Int32) {σ : hv_S} {Φ : Int32 → hv_S → Prop} (h : hv_CI l (hv_e1 e) 0 m_X2_sits [.ref 1, .int x1] σ (fun v2 s1 => ((v2 = 0 → Φ (-1) s1) ∧ (¬ v2 = 0 → hv_CI l (hv_e1 e) 0 m_X2_sits [.ref 1, .int x2] s1 (fun v5 s4 => ((v5 = 0 → Φ (-1) s4) ∧ (¬ v5 = 0 → hv_CI l (hv_e1 e) 0 m_X9_isMatter [.int x3] s4 (fun v8 s7 => ((v8 ≠ 0 → hv_CV l (hv_e1 e) 4 m_X5_lay [.ref 18, .int x3, .int (s7.1 1 8), .int 0, .int (-1), .int (-1)] s7 (fun s10 => (vp_in ((x1 * 8) + x2) 64 ∧ Φ (s10.1 19 (((x1 * 8) + x2).toNatClampNeg)) s10))) ∧ (v8 = 0 → Φ (-1) s7)))))))))) : hv_CI l (hv_e1 e) 5 m_X9_share [.ref 0, .int x1, .int x2, .int x3] σ Φ := by
  refine hv_entI (by decide) (Nat.le_of_ble_eq_true rfl) ?_
  show hv_TW l (hv_e1 e) (hv_rm 5) 0 0 m_X9_share hv_no (hv_ZI (hv_e1 e) Φ) 0 [(0, .ref 0), (1, .int x1), (2, .int x2), (3, .int x3)] [] σ
  refine T_aload_n dX9_share_0 rfl 0 rfl ?_
  refine T_get (v := .ref 1) dX9_share_1 fl_X9_14 hp_0 hs_0 rfl rfl ?_
  refine T_iload_n dX9_share_4 rfl 1 rfl ?_
  refine T_VI (As := [.int x1]) dX9_share_5 mv_X9_79 hp_1 hs_1 rfl (Nat.le_of_ble_eq_true rfl) (hv_ok1 rfl) rfl h (fun v2 s1 h3 => ?_)
  refine T_if_eq (tgt := 29) dX9_share_8 (by decide) (fun c13 => ?_) (fun c13 => ?_)
  · refine T_iconst (v := (-1)) dX9_share_29 (by decide) ?_
    exact T_iret dX9_share_30 rfl (h3.1 c13)
  · refine T_aload_n dX9_share_11 rfl 0 rfl ?_
    refine T_get (v := .ref 1) dX9_share_12 fl_X9_14 hp_0 hs_0 rfl rfl ?_
    refine T_iload_n dX9_share_15 rfl 2 rfl ?_
    refine T_VI (As := [.int x2]) dX9_share_16 mv_X9_79 hp_1 hs_1 rfl (Nat.le_of_ble_eq_true rfl) (hv_ok1 rfl) rfl (h3.2 c13) (fun v5 s4 h6 => ?_)
    refine T_if_eq (tgt := 29) dX9_share_19 (by decide) (fun c14 => ?_) (fun c14 => ?_)
    · refine T_iconst (v := (-1)) dX9_share_29 (by decide) ?_
      exact T_iret dX9_share_30 rfl (h6.1 c14)
    · refine T_iload_n dX9_share_22 rfl 3 rfl ?_
      refine T_SI (As := [.int x3]) dX9_share_23 ms_X9_83 rfl (Nat.le_of_ble_eq_true rfl) (hv_ok1 rfl) rfl (h6.2 c14) (fun v8 s7 h9 => ?_)
      refine T_if_ne (tgt := 31) dX9_share_26 (by decide) (fun c15 => ?_) (fun c15 => ?_)
      · refine T_aload_n dX9_share_31 rfl 0 rfl ?_
        refine T_get (v := .ref 18) dX9_share_32 fl_X9_39 hp_0 hs_0 rfl rfl ?_
        refine T_iload_n dX9_share_35 rfl 3 rfl ?_
        refine T_aload_n dX9_share_36 rfl 0 rfl ?_
        refine T_get (v := .ref 1) dX9_share_37 fl_X9_14 hp_0 hs_0 rfl rfl ?_
        refine T_get (v := .int (s7.1 1 8)) dX9_share_40 fl_X9_112 hp_1 hs_1 rfl rfl ?_
        refine T_iconst (v := 0) dX9_share_43 (by decide) ?_
        refine T_iconst (v := (-1)) dX9_share_44 (by decide) ?_
        refine T_iconst (v := (-1)) dX9_share_45 (by decide) ?_
        refine T_VV (As := [.int x3, .int (s7.1 1 8), .int 0, .int (-1), .int (-1)]) dX9_share_46 mv_X9_152 hp_18 hs_18 rfl (Nat.le_of_ble_eq_true rfl) (hv_ok1 rfl) rfl (h9.1 c15) (fun s10 h12 => ?_)
        refine T_aload_n dX9_share_49 rfl 0 rfl ?_
        refine T_get (v := .ref 18) dX9_share_50 fl_X9_39 hp_0 hs_0 rfl rfl ?_
        refine T_get (v := .ref 19) dX9_share_53 fl_X9_156 hp_18 hs_18 rfl rfl ?_
        refine T_iload_n dX9_share_56 rfl 1 rfl ?_
        refine T_bipush (v := 8) dX9_share_57 (by decide) ?_
        refine T_imul dX9_share_59 ?_
        refine T_iload_n dX9_share_60 rfl 2 rfl ?_
        refine T_iadd dX9_share_61 ?_
        refine T_iald dX9_share_62 hp_19 hs_19 h12.1 ?_
        exact T_iret dX9_share_63 rfl h12.2
      · refine T_iconst (v := (-1)) dX9_share_29 (by decide) ?_
        exact T_iret dX9_share_30 rfl (h9.2 c15)

set_option maxHeartbeats 4000000 in
set_option maxRecDepth 100000 in
theorem B_X9_voices {l : Launch} {e : hv_Ev}  (x1 : Int32) (x2 : Int32) (x3 : Int32) {σ : hv_S} {Φ : Int64 → hv_S → Prop} (h : hv_CI l (hv_e1 e) 0 m_X2_sits [.ref 1, .int x1] σ (fun v2 s1 => ((v2 = 0 → Φ (-9223372036854775808) s1) ∧ (¬ v2 = 0 → hv_CI l (hv_e1 e) 0 m_X9_isMatter [.int x2] s1 (fun v5 s4 => ((v5 = 0 → Φ (-9223372036854775808) s4) ∧ (¬ v5 = 0 → hv_CI l (hv_e1 e) 0 m_X9_isPart [.int x3] s4 (fun v8 s7 => ((v8 ≠ 0 → hv_CV l (hv_e1 e) 6 m_X6_reckonNow [.ref 21, .int x2] s7 (fun s10 => (vp_in x1 8 ∧ hv_CL l (hv_e1 e) 1 m_X9_lowest [.long (s10.2.1 32 x1.toNatClampNeg), .long (s10.2.1 21 6), .int x3] s10 (fun v14 s13 => Φ v14 s13)))) ∧ (v8 = 0 → Φ (-9223372036854775808) s7)))))))))) : hv_CL l (hv_e1 e) 7 m_X9_voices [.ref 0, .int x1, .int x2, .int x3] σ Φ := by
  refine hv_entL (by decide) (Nat.le_of_ble_eq_true rfl) ?_
  show hv_TW l (hv_e1 e) (hv_rm 7) 0 0 m_X9_voices hv_no (hv_ZL (hv_e1 e) Φ) 0 [(0, .ref 0), (1, .int x1), (2, .int x2), (3, .int x3)] [] σ
  refine T_aload_n dX9_voices_0 rfl 0 rfl ?_
  refine T_get (v := .ref 1) dX9_voices_1 fl_X9_14 hp_0 hs_0 rfl rfl ?_
  refine T_iload_n dX9_voices_4 rfl 1 rfl ?_
  refine T_VI (As := [.int x1]) dX9_voices_5 mv_X9_79 hp_1 hs_1 rfl (Nat.le_of_ble_eq_true rfl) (hv_ok1 rfl) rfl h (fun v2 s1 h3 => ?_)
  refine T_if_eq (tgt := 25) dX9_voices_8 (by decide) (fun c16 => ?_) (fun c16 => ?_)
  · refine T_ldc2 dX9_voices_25 kl_X9_160 ?_
    exact T_lret dX9_voices_28 rfl (h3.1 c16)
  · refine T_iload_n dX9_voices_11 rfl 2 rfl ?_
    refine T_SI (As := [.int x2]) dX9_voices_12 ms_X9_83 rfl (Nat.le_of_ble_eq_true rfl) (hv_ok1 rfl) rfl (h3.2 c16) (fun v5 s4 h6 => ?_)
    refine T_if_eq (tgt := 25) dX9_voices_15 (by decide) (fun c17 => ?_) (fun c17 => ?_)
    · refine T_ldc2 dX9_voices_25 kl_X9_160 ?_
      exact T_lret dX9_voices_28 rfl (h6.1 c17)
    · refine T_iload_n dX9_voices_18 rfl 3 rfl ?_
      refine T_SI (As := [.int x3]) dX9_voices_19 ms_X9_157 rfl (Nat.le_of_ble_eq_true rfl) (hv_ok1 rfl) rfl (h6.2 c17) (fun v8 s7 h9 => ?_)
      refine T_if_ne (tgt := 29) dX9_voices_22 (by decide) (fun c18 => ?_) (fun c18 => ?_)
      · refine T_aload_n dX9_voices_29 rfl 0 rfl ?_
        refine T_get (v := .ref 21) dX9_voices_30 fl_X9_48 hp_0 hs_0 rfl rfl ?_
        refine T_iload_n dX9_voices_33 rfl 2 rfl ?_
        refine T_VV (As := [.int x2]) dX9_voices_34 mv_X9_162 hp_21 hs_21 rfl (Nat.le_of_ble_eq_true rfl) (hv_ok1 rfl) rfl (h9.1 c18) (fun s10 h12 => ?_)
        refine T_aload_n dX9_voices_37 rfl 0 rfl ?_
        refine T_get (v := .ref 21) dX9_voices_38 fl_X9_48 hp_0 hs_0 rfl rfl ?_
        refine T_get (v := .ref 32) dX9_voices_41 fl_X9_165 hp_21 hs_21 rfl rfl ?_
        refine T_iload_n dX9_voices_44 rfl 1 rfl ?_
        refine T_lald dX9_voices_45 hp_32 hs_32 h12.1 ?_
        refine T_aload_n dX9_voices_46 rfl 0 rfl ?_
        refine T_get (v := .ref 21) dX9_voices_47 fl_X9_48 hp_0 hs_0 rfl rfl ?_
        refine T_get (v := .long (s10.2.1 21 6)) dX9_voices_50 fl_X9_169 hp_21 hs_21 rfl rfl ?_
        refine T_iload_n dX9_voices_53 rfl 3 rfl ?_
        refine T_SL (As := [.long (s10.2.1 32 x1.toNatClampNeg), .long (s10.2.1 21 6), .int x3]) dX9_voices_54 ms_X9_173 rfl (Nat.le_of_ble_eq_true rfl) (hv_ok1 rfl) rfl h12.2 (fun v14 s13 h15 => ?_)
        exact T_lret dX9_voices_57 rfl h15
      · refine T_ldc2 dX9_voices_25 kl_X9_160 ?_
        exact T_lret dX9_voices_28 rfl (h9.2 c18)

set_option maxHeartbeats 4000000 in
set_option maxRecDepth 100000 in
theorem B_X9_lost {l : Launch} {e : hv_Ev}  (x1 : Int32) {σ : hv_S} {Φ : Int32 → hv_S → Prop} (h : hv_CI l (hv_e1 e) 0 m_X9_isMatter [.int x1] σ (fun v2 s1 => ((v2 ≠ 0 → hv_CV l (hv_e1 e) 4 m_X5_lay [.ref 18, .int x1, .int (s1.1 1 8), .int 0, .int (-1), .int (-1)] s1 (fun s4 => hv_CI l (hv_e1 e) 0 m_X5_reaching [.ref 18] s4 (fun v8 s7 => Φ ((s4.1 18 6) &&& (v8 ^^^ (-1))) s7))) ∧ (v2 = 0 → Φ (-1) s1)))) : hv_CI l (hv_e1 e) 5 m_X9_lost [.ref 0, .int x1] σ Φ := by
  refine hv_entI (by decide) (Nat.le_of_ble_eq_true rfl) ?_
  show hv_TW l (hv_e1 e) (hv_rm 5) 0 0 m_X9_lost hv_no (hv_ZI (hv_e1 e) Φ) 0 [(0, .ref 0), (1, .int x1)] [] σ
  refine T_iload_n dX9_lost_0 rfl 1 rfl ?_
  refine T_SI (As := [.int x1]) dX9_lost_1 ms_X9_83 rfl (Nat.le_of_ble_eq_true rfl) (hv_ok1 rfl) rfl h (fun v2 s1 h3 => ?_)
  refine T_if_ne (tgt := 9) dX9_lost_4 (by decide) (fun c10 => ?_) (fun c10 => ?_)
  · refine T_aload_n dX9_lost_9 rfl 0 rfl ?_
    refine T_get (v := .ref 18) dX9_lost_10 fl_X9_39 hp_0 hs_0 rfl rfl ?_
    refine T_iload_n dX9_lost_13 rfl 1 rfl ?_
    refine T_aload_n dX9_lost_14 rfl 0 rfl ?_
    refine T_get (v := .ref 1) dX9_lost_15 fl_X9_14 hp_0 hs_0 rfl rfl ?_
    refine T_get (v := .int (s1.1 1 8)) dX9_lost_18 fl_X9_112 hp_1 hs_1 rfl rfl ?_
    refine T_iconst (v := 0) dX9_lost_21 (by decide) ?_
    refine T_iconst (v := (-1)) dX9_lost_22 (by decide) ?_
    refine T_iconst (v := (-1)) dX9_lost_23 (by decide) ?_
    refine T_VV (As := [.int x1, .int (s1.1 1 8), .int 0, .int (-1), .int (-1)]) dX9_lost_24 mv_X9_152 hp_18 hs_18 rfl (Nat.le_of_ble_eq_true rfl) (hv_ok1 rfl) rfl (h3.1 c10) (fun s4 h6 => ?_)
    refine T_aload_n dX9_lost_27 rfl 0 rfl ?_
    refine T_get (v := .ref 18) dX9_lost_28 fl_X9_39 hp_0 hs_0 rfl rfl ?_
    refine T_get (v := .int (s4.1 18 6)) dX9_lost_31 fl_X9_177 hp_18 hs_18 rfl rfl ?_
    refine T_aload_n dX9_lost_34 rfl 0 rfl ?_
    refine T_get (v := .ref 18) dX9_lost_35 fl_X9_39 hp_0 hs_0 rfl rfl ?_
    refine T_VI (As := []) dX9_lost_38 mv_X9_180 hp_18 hs_18 rfl (Nat.le_of_ble_eq_true rfl) (hv_ok1 rfl) rfl h6 (fun v8 s7 h9 => ?_)
    refine T_iconst (v := (-1)) dX9_lost_41 (by decide) ?_
    refine T_ixor dX9_lost_42 ?_
    refine T_iand dX9_lost_43 ?_
    exact T_iret dX9_lost_44 rfl h9
  · refine T_iconst (v := (-1)) dX9_lost_7 (by decide) ?_
    exact T_iret dX9_lost_8 rfl (h3.2 c10)

set_option maxHeartbeats 4000000 in
set_option maxRecDepth 100000 in
theorem B_X9_decided {l : Launch} {e : hv_Ev}  (x1 : Int32) {σ : hv_S} {Φ : Int32 → hv_S → Prop} (h : hv_CI l (hv_e1 e) 0 m_X9_isMatter [.int x1] σ (fun v2 s1 => ((v2 ≠ 0 → hv_CV l (hv_e1 e) 6 m_X6_reckonNow [.ref 21, .int x1] s1 (fun s4 => (vp_in x1 3 ∧ hv_CL l (hv_e1 e) 0 m_X6_sumOf [.ref 21, .int (s4.1 2 x1.toNatClampNeg)] s4 (fun v8 s7 => hv_CI l (hv_e1 e) 0 m_X6_decides [.ref 21, .long v8] s7 (fun v11 s10 => ((v11 = 0 → Φ 0 s10) ∧ (¬ v11 = 0 → Φ 1 s10))))))) ∧ (v2 = 0 → Φ (-1) s1)))) : hv_CI l (hv_e1 e) 7 m_X9_decided [.ref 0, .int x1] σ Φ := by
  refine hv_entI (by decide) (Nat.le_of_ble_eq_true rfl) ?_
  show hv_TW l (hv_e1 e) (hv_rm 7) 0 0 m_X9_decided hv_no (hv_ZI (hv_e1 e) Φ) 0 [(0, .ref 0), (1, .int x1)] [] σ
  refine T_iload_n dX9_decided_0 rfl 1 rfl ?_
  refine T_SI (As := [.int x1]) dX9_decided_1 ms_X9_83 rfl (Nat.le_of_ble_eq_true rfl) (hv_ok1 rfl) rfl h (fun v2 s1 h3 => ?_)
  refine T_if_ne (tgt := 9) dX9_decided_4 (by decide) (fun c13 => ?_) (fun c13 => ?_)
  · refine T_aload_n dX9_decided_9 rfl 0 rfl ?_
    refine T_get (v := .ref 21) dX9_decided_10 fl_X9_48 hp_0 hs_0 rfl rfl ?_
    refine T_iload_n dX9_decided_13 rfl 1 rfl ?_
    refine T_VV (As := [.int x1]) dX9_decided_14 mv_X9_162 hp_21 hs_21 rfl (Nat.le_of_ble_eq_true rfl) (hv_ok1 rfl) rfl (h3.1 c13) (fun s4 h6 => ?_)
    refine T_aload_n dX9_decided_17 rfl 0 rfl ?_
    refine T_get (v := .ref 21) dX9_decided_18 fl_X9_48 hp_0 hs_0 rfl rfl ?_
    refine T_aload_n dX9_decided_21 rfl 0 rfl ?_
    refine T_get (v := .ref 21) dX9_decided_22 fl_X9_48 hp_0 hs_0 rfl rfl ?_
    refine T_aload_n dX9_decided_25 rfl 0 rfl ?_
    refine T_get (v := .ref 1) dX9_decided_26 fl_X9_14 hp_0 hs_0 rfl rfl ?_
    refine T_get (v := .ref 2) dX9_decided_29 fl_X9_183 hp_1 hs_1 rfl rfl ?_
    refine T_iload_n dX9_decided_32 rfl 1 rfl ?_
    refine T_iald dX9_decided_33 hp_2 hs_2 h6.1 ?_
    refine T_VL (As := [.int (s4.1 2 x1.toNatClampNeg)]) dX9_decided_34 mv_X9_186 hp_21 hs_21 rfl (Nat.le_of_ble_eq_true rfl) (hv_ok1 rfl) rfl h6.2 (fun v8 s7 h9 => ?_)
    refine T_VI (As := [.long v8]) dX9_decided_37 mv_X9_190 hp_21 hs_21 rfl (Nat.le_of_ble_eq_true rfl) (hv_ok1 rfl) rfl h9 (fun v11 s10 h12 => ?_)
    refine T_if_eq (tgt := 47) dX9_decided_40 (by decide) (fun c14 => ?_) (fun c14 => ?_)
    · refine T_iconst (v := 0) dX9_decided_47 (by decide) ?_
      exact T_iret dX9_decided_48 rfl (h12.1 c14)
    · refine T_iconst (v := 1) dX9_decided_43 (by decide) ?_
      refine T_goto (tgt := 48) dX9_decided_44 (by decide) ?_
      exact T_iret dX9_decided_48 rfl (h12.2 c14)
  · refine T_iconst (v := (-1)) dX9_decided_7 (by decide) ?_
    exact T_iret dX9_decided_8 rfl (h3.2 c13)

def L_X9_turning_49 (l : Launch) (e : hv_Ev)  (Φ : Int32 → hv_S → Prop) (x2 : Int32) (x3 : Int32) (x4 : Int32) (x5 : Int32) (σ : hv_S) : Prop := hv_TW l (hv_e1 e) (hv_rm 7) 0 0 m_X9_turning hv_no (hv_ZI (hv_e1 e) Φ) 49 [(0, .ref 0), (2, .int x2), (3, .int x3), (4, .int x4), (5, .int x5)] [] σ
set_option maxHeartbeats 4000000 in
set_option maxRecDepth 100000 in
theorem B_X9_turning_49 {l : Launch} {e : hv_Ev}  (x2 : Int32) (x3 : Int32) (x4 : Int32) (x5 : Int32) {σ : hv_S} {Φ : Int32 → hv_S → Prop} (h : (((σ.1 1 7) ≤ x5 → Φ x4 σ) ∧ (¬ (σ.1 1 7) ≤ x5 → hv_CL l (hv_e1 e) 0 m_X6_sumOf [.ref 21, .int (x2 ^^^ ((1 : Int32) <<< (x5 &&& 31)))] σ (fun v15 s14 => hv_CI l (hv_e1 e) 0 m_X6_decides [.ref 21, .long v15] s14 (fun v18 s17 => ((v18 = x3 → L_X9_turning_49 l e Φ x2 x3 x4 (x5 + 1) s17) ∧ (¬ v18 = x3 → L_X9_turning_49 l e Φ x2 x3 (x4 ||| ((1 : Int32) <<< (x5 &&& 31))) (x5 + 1) s17))))))) : L_X9_turning_49 l e Φ x2 x3 x4 x5 σ := by
  show hv_TW l (hv_e1 e) (hv_rm 7) 0 0 m_X9_turning hv_no (hv_ZI (hv_e1 e) Φ) 49 [(0, .ref 0), (2, .int x2), (3, .int x3), (4, .int x4), (5, .int x5)] [] σ
  refine T_iload dX9_turning_49 4 rfl ?_
  refine T_aload_n dX9_turning_51 rfl 0 rfl ?_
  refine T_get (v := .ref 1) dX9_turning_52 fl_X9_14 hp_0 hs_0 rfl rfl ?_
  refine T_get (v := .int (σ.1 1 7)) dX9_turning_55 fl_X9_75 hp_1 hs_1 rfl rfl ?_
  refine T_icmp_ge (tgt := 100) dX9_turning_58 (by decide) (fun c20 => ?_) (fun c20 => ?_)
  · refine T_iload dX9_turning_100 3 rfl ?_
    exact T_iret dX9_turning_102 rfl (h.1 c20)
  · refine T_aload_n dX9_turning_61 rfl 0 rfl ?_
    refine T_get (v := .ref 21) dX9_turning_62 fl_X9_48 hp_0 hs_0 rfl rfl ?_
    refine T_aload_n dX9_turning_65 rfl 0 rfl ?_
    refine T_get (v := .ref 21) dX9_turning_66 fl_X9_48 hp_0 hs_0 rfl rfl ?_
    refine T_iload_n dX9_turning_69 rfl 1 rfl ?_
    refine T_iconst (v := 1) dX9_turning_70 (by decide) ?_
    refine T_iload dX9_turning_71 4 rfl ?_
    refine T_ishl dX9_turning_73 ?_
    refine T_ixor dX9_turning_74 ?_
    refine T_VL (As := [.int (x2 ^^^ ((1 : Int32) <<< (x5 &&& 31)))]) dX9_turning_75 mv_X9_186 hp_21 hs_21 rfl (Nat.le_of_ble_eq_true rfl) (hv_ok1 rfl) rfl (h.2 c20) (fun v15 s14 h16 => ?_)
    refine T_VI (As := [.long v15]) dX9_turning_78 mv_X9_190 hp_21 hs_21 rfl (Nat.le_of_ble_eq_true rfl) (hv_ok1 rfl) rfl h16 (fun v18 s17 h19 => ?_)
    refine T_iload_n dX9_turning_81 rfl 2 rfl ?_
    refine T_icmp_eq (tgt := 94) dX9_turning_82 (by decide) (fun c21 => ?_) (fun c21 => ?_)
    · refine T_iinc (v := (x5 + 1)) dX9_turning_94 4 rfl rfl (by decide) rfl ?_
      refine T_goto (tgt := 49) dX9_turning_97 (by decide) ?_
      exact T_sub [1, 2, 3, 4, 0] rfl (h19.1 c21)
    · refine T_iload dX9_turning_85 3 rfl ?_
      refine T_iconst (v := 1) dX9_turning_87 (by decide) ?_
      refine T_iload dX9_turning_88 4 rfl ?_
      refine T_ishl dX9_turning_90 ?_
      refine T_ior dX9_turning_91 ?_
      refine T_istore dX9_turning_92 (by decide) rfl ?_
      refine T_iinc (v := (x5 + 1)) dX9_turning_94 4 rfl rfl (by decide) rfl ?_
      refine T_goto (tgt := 49) dX9_turning_97 (by decide) ?_
      exact T_sub [2, 3, 4, 1, 0] rfl (h19.2 c21)
set_option maxHeartbeats 4000000 in
set_option maxRecDepth 100000 in
theorem B_X9_turning {l : Launch} {e : hv_Ev}  (x1 : Int32) {σ : hv_S} {Φ : Int32 → hv_S → Prop} (h : hv_CI l (hv_e1 e) 0 m_X9_isMatter [.int x1] σ (fun v2 s1 => ((v2 ≠ 0 → hv_CV l (hv_e1 e) 6 m_X6_reckonNow [.ref 21, .int x1] s1 (fun s4 => (vp_in x1 3 ∧ hv_CL l (hv_e1 e) 0 m_X6_sumOf [.ref 21, .int (s4.1 2 x1.toNatClampNeg)] s4 (fun v8 s7 => hv_CI l (hv_e1 e) 0 m_X6_decides [.ref 21, .long v8] s7 (fun v11 s10 => L_X9_turning_49 l e Φ (s4.1 2 x1.toNatClampNeg) v11 0 0 s10))))) ∧ (v2 = 0 → Φ (-1) s1)))) : hv_CI l (hv_e1 e) 7 m_X9_turning [.ref 0, .int x1] σ Φ := by
  refine hv_entI (by decide) (Nat.le_of_ble_eq_true rfl) ?_
  show hv_TW l (hv_e1 e) (hv_rm 7) 0 0 m_X9_turning hv_no (hv_ZI (hv_e1 e) Φ) 0 [(0, .ref 0), (1, .int x1)] [] σ
  refine T_iload_n dX9_turning_0 rfl 1 rfl ?_
  refine T_SI (As := [.int x1]) dX9_turning_1 ms_X9_83 rfl (Nat.le_of_ble_eq_true rfl) (hv_ok1 rfl) rfl h (fun v2 s1 h3 => ?_)
  refine T_if_ne (tgt := 9) dX9_turning_4 (by decide) (fun c13 => ?_) (fun c13 => ?_)
  · refine T_aload_n dX9_turning_9 rfl 0 rfl ?_
    refine T_get (v := .ref 21) dX9_turning_10 fl_X9_48 hp_0 hs_0 rfl rfl ?_
    refine T_iload_n dX9_turning_13 rfl 1 rfl ?_
    refine T_VV (As := [.int x1]) dX9_turning_14 mv_X9_162 hp_21 hs_21 rfl (Nat.le_of_ble_eq_true rfl) (hv_ok1 rfl) rfl (h3.1 c13) (fun s4 h6 => ?_)
    refine T_aload_n dX9_turning_17 rfl 0 rfl ?_
    refine T_get (v := .ref 1) dX9_turning_18 fl_X9_14 hp_0 hs_0 rfl rfl ?_
    refine T_get (v := .ref 2) dX9_turning_21 fl_X9_183 hp_1 hs_1 rfl rfl ?_
    refine T_iload_n dX9_turning_24 rfl 1 rfl ?_
    refine T_iald dX9_turning_25 hp_2 hs_2 h6.1 ?_
    refine T_istore_n dX9_turning_26 rfl (by decide) rfl ?_
    refine T_aload_n dX9_turning_27 rfl 1 rfl ?_
    refine T_get (v := .ref 21) dX9_turning_28 fl_X9_48 hp_0 hs_0 rfl rfl ?_
    refine T_aload_n dX9_turning_31 rfl 1 rfl ?_
    refine T_get (v := .ref 21) dX9_turning_32 fl_X9_48 hp_0 hs_0 rfl rfl ?_
    refine T_iload_n dX9_turning_35 rfl 0 rfl ?_
    refine T_VL (As := [.int (s4.1 2 x1.toNatClampNeg)]) dX9_turning_36 mv_X9_186 hp_21 hs_21 rfl (Nat.le_of_ble_eq_true rfl) (hv_ok1 rfl) rfl h6.2 (fun v8 s7 h9 => ?_)
    refine T_VI (As := [.long v8]) dX9_turning_39 mv_X9_190 hp_21 hs_21 rfl (Nat.le_of_ble_eq_true rfl) (hv_ok1 rfl) rfl h9 (fun v11 s10 h12 => ?_)
    refine T_istore_n dX9_turning_42 rfl (by decide) rfl ?_
    refine T_iconst (v := 0) dX9_turning_43 (by decide) ?_
    refine T_istore dX9_turning_44 (by decide) rfl ?_
    refine T_iconst (v := 0) dX9_turning_46 (by decide) ?_
    refine T_istore dX9_turning_47 (by decide) rfl ?_
    exact T_sub [4, 3, 2, 1, 0] rfl h12
  · refine T_iconst (v := (-1)) dX9_turning_7 (by decide) ?_
    exact T_iret dX9_turning_8 rfl (h3.2 c13)

def L_X9_power_48 (l : Launch) (e : hv_Ev)  (Φ : Int32 → hv_S → Prop) (x1 : Int32) (x3 : Int32) (x4 : Int32) (x5 : Int32) (σ : hv_S) : Prop := hv_TW l (hv_e1 e) (hv_rm 7) 0 0 m_X9_power hv_no (hv_ZI (hv_e1 e) Φ) 48 [(0, .ref 0), (1, .int x1), (3, .int x3), (4, .int x4), (5, .int x5)] [] σ
set_option maxHeartbeats 4000000 in
set_option maxRecDepth 100000 in
theorem B_X9_power_48 {l : Launch} {e : hv_Ev}  (x1 : Int32) (x3 : Int32) (x4 : Int32) (x5 : Int32) {σ : hv_S} {Φ : Int32 → hv_S → Prop} (h : ((x3 < x5 → Φ x4 σ) ∧ (¬ x3 < x5 → (((x5 &&& (x3 ^^^ (-1))) = 0 → hv_CL l (hv_e1 e) 0 m_X6_sumOf [.ref 21, .int x5] σ (fun v16 s15 => (vp_in x1 8 ∧ hv_CI l (hv_e1 e) 0 m_X6_decides [.ref 21, .long (v16 + (s15.2.1 32 x1.toNatClampNeg))] s15 (fun v19 s18 => hv_CI l (hv_e1 e) 0 m_X6_decides [.ref 21, .long v16] s18 (fun v22 s21 => ((v19 = v22 → L_X9_power_48 l e Φ x1 x3 x4 (x5 + 1) s21) ∧ (¬ v19 = v22 → L_X9_power_48 l e Φ x1 x3 (x4 + 1) (x5 + 1) s21))))))) ∧ (¬ (x5 &&& (x3 ^^^ (-1))) = 0 → L_X9_power_48 l e Φ x1 x3 x4 (x5 + 1) σ))))) : L_X9_power_48 l e Φ x1 x3 x4 x5 σ := by
  show hv_TW l (hv_e1 e) (hv_rm 7) 0 0 m_X9_power hv_no (hv_ZI (hv_e1 e) Φ) 48 [(0, .ref 0), (1, .int x1), (3, .int x3), (4, .int x4), (5, .int x5)] [] σ
  refine T_iload dX9_power_48 4 rfl ?_
  refine T_iload_n dX9_power_50 rfl 2 rfl ?_
  refine T_icmp_gt (tgt := 117) dX9_power_51 (by decide) (fun c24 => ?_) (fun c24 => ?_)
  · refine T_iload dX9_power_117 3 rfl ?_
    exact T_iret dX9_power_119 rfl (h.1 c24)
  · refine T_iload dX9_power_54 4 rfl ?_
    refine T_iload_n dX9_power_56 rfl 2 rfl ?_
    refine T_iconst (v := (-1)) dX9_power_57 (by decide) ?_
    refine T_ixor dX9_power_58 ?_
    refine T_iand dX9_power_59 ?_
    refine T_if_eq (tgt := 66) dX9_power_60 (by decide) (fun c25 => ?_) (fun c25 => ?_)
    · refine T_aload_n dX9_power_66 rfl 0 rfl ?_
      refine T_get (v := .ref 21) dX9_power_67 fl_X9_48 hp_0 hs_0 rfl rfl ?_
      refine T_iload dX9_power_70 4 rfl ?_
      refine T_VL (As := [.int x5]) dX9_power_72 mv_X9_186 hp_21 hs_21 rfl (Nat.le_of_ble_eq_true rfl) (hv_ok1 rfl) rfl ((h.2 c24).1 c25) (fun v16 s15 h17 => ?_)
      refine T_lstore dX9_power_75 (by decide) rfl ?_
      refine T_aload_n dX9_power_77 rfl 1 rfl ?_
      refine T_get (v := .ref 21) dX9_power_78 fl_X9_48 hp_0 hs_0 rfl rfl ?_
      refine T_lload dX9_power_81 0 rfl ?_
      refine T_aload_n dX9_power_83 rfl 1 rfl ?_
      refine T_get (v := .ref 21) dX9_power_84 fl_X9_48 hp_0 hs_0 rfl rfl ?_
      refine T_get (v := .ref 32) dX9_power_87 fl_X9_165 hp_21 hs_21 rfl rfl ?_
      refine T_iload_n dX9_power_90 rfl 2 rfl ?_
      refine T_lald dX9_power_91 hp_32 hs_32 h17.1 ?_
      refine T_ladd dX9_power_92 ?_
      refine T_VI (As := [.long (v16 + (s15.2.1 32 x1.toNatClampNeg))]) dX9_power_93 mv_X9_190 hp_21 hs_21 rfl (Nat.le_of_ble_eq_true rfl) (hv_ok1 rfl) rfl h17.2 (fun v19 s18 h20 => ?_)
      refine T_aload_n dX9_power_96 rfl 1 rfl ?_
      refine T_get (v := .ref 21) dX9_power_97 fl_X9_48 hp_0 hs_0 rfl rfl ?_
      refine T_lload dX9_power_100 0 rfl ?_
      refine T_VI (As := [.long v16]) dX9_power_102 mv_X9_190 hp_21 hs_21 rfl (Nat.le_of_ble_eq_true rfl) (hv_ok1 rfl) rfl h20 (fun v22 s21 h23 => ?_)
      refine T_icmp_eq (tgt := 111) dX9_power_105 (by decide) (fun c26 => ?_) (fun c26 => ?_)
      · refine T_iinc (v := (x5 + 1)) dX9_power_111 5 rfl rfl (by decide) rfl ?_
        refine T_goto (tgt := 48) dX9_power_114 (by decide) ?_
        exact T_sub [2, 3, 4, 5, 0] rfl (h23.1 c26)
      · refine T_iinc (v := (x4 + 1)) dX9_power_108 4 rfl rfl (by decide) rfl ?_
        refine T_iinc (v := (x5 + 1)) dX9_power_111 5 rfl rfl (by decide) rfl ?_
        refine T_goto (tgt := 48) dX9_power_114 (by decide) ?_
        exact T_sub [3, 4, 5, 1, 0] rfl (h23.2 c26)
    · refine T_goto (tgt := 111) dX9_power_63 (by decide) ?_
      refine T_iinc (v := (x5 + 1)) dX9_power_111 4 rfl rfl (by decide) rfl ?_
      refine T_goto (tgt := 48) dX9_power_114 (by decide) ?_
      exact T_sub [1, 2, 3, 4, 0] rfl ((h.2 c24).2 c25)
set_option maxHeartbeats 4000000 in
set_option maxRecDepth 100000 in
theorem B_X9_power {l : Launch} {e : hv_Ev}  (x1 : Int32) (x2 : Int32) {σ : hv_S} {Φ : Int32 → hv_S → Prop} (h : hv_CI l (hv_e1 e) 0 m_X2_sits [.ref 1, .int x1] σ (fun v2 s1 => ((v2 = 0 → Φ (-1) s1) ∧ (¬ v2 = 0 → hv_CI l (hv_e1 e) 0 m_X9_isMatter [.int x2] s1 (fun v5 s4 => ((v5 ≠ 0 → hv_CV l (hv_e1 e) 6 m_X6_reckonNow [.ref 21, .int x2] s4 (fun s7 => hv_CI l (hv_e1 e) 0 m_X6_withVoices [.ref 21] s7 (fun v11 s10 => L_X9_power_48 l e Φ x1 (v11 &&& (((1 : Int32) <<< (x1 &&& 31)) ^^^ (-1))) 0 0 s10))) ∧ (v5 = 0 → Φ (-1) s4))))))) : hv_CI l (hv_e1 e) 7 m_X9_power [.ref 0, .int x1, .int x2] σ Φ := by
  refine hv_entI (by decide) (Nat.le_of_ble_eq_true rfl) ?_
  show hv_TW l (hv_e1 e) (hv_rm 7) 0 0 m_X9_power hv_no (hv_ZI (hv_e1 e) Φ) 0 [(0, .ref 0), (1, .int x1), (2, .int x2)] [] σ
  refine T_aload_n dX9_power_0 rfl 0 rfl ?_
  refine T_get (v := .ref 1) dX9_power_1 fl_X9_14 hp_0 hs_0 rfl rfl ?_
  refine T_iload_n dX9_power_4 rfl 1 rfl ?_
  refine T_VI (As := [.int x1]) dX9_power_5 mv_X9_79 hp_1 hs_1 rfl (Nat.le_of_ble_eq_true rfl) (hv_ok1 rfl) rfl h (fun v2 s1 h3 => ?_)
  refine T_if_eq (tgt := 18) dX9_power_8 (by decide) (fun c13 => ?_) (fun c13 => ?_)
  · refine T_iconst (v := (-1)) dX9_power_18 (by decide) ?_
    exact T_iret dX9_power_19 rfl (h3.1 c13)
  · refine T_iload_n dX9_power_11 rfl 2 rfl ?_
    refine T_SI (As := [.int x2]) dX9_power_12 ms_X9_83 rfl (Nat.le_of_ble_eq_true rfl) (hv_ok1 rfl) rfl (h3.2 c13) (fun v5 s4 h6 => ?_)
    refine T_if_ne (tgt := 20) dX9_power_15 (by decide) (fun c14 => ?_) (fun c14 => ?_)
    · refine T_aload_n dX9_power_20 rfl 0 rfl ?_
      refine T_get (v := .ref 21) dX9_power_21 fl_X9_48 hp_0 hs_0 rfl rfl ?_
      refine T_iload_n dX9_power_24 rfl 2 rfl ?_
      refine T_VV (As := [.int x2]) dX9_power_25 mv_X9_162 hp_21 hs_21 rfl (Nat.le_of_ble_eq_true rfl) (hv_ok1 rfl) rfl (h6.1 c14) (fun s7 h9 => ?_)
      refine T_aload_n dX9_power_28 rfl 0 rfl ?_
      refine T_get (v := .ref 21) dX9_power_29 fl_X9_48 hp_0 hs_0 rfl rfl ?_
      refine T_VI (As := []) dX9_power_32 mv_X9_194 hp_21 hs_21 rfl (Nat.le_of_ble_eq_true rfl) (hv_ok1 rfl) rfl h9 (fun v11 s10 h12 => ?_)
      refine T_iconst (v := 1) dX9_power_35 (by decide) ?_
      refine T_iload_n dX9_power_36 rfl 1 rfl ?_
      refine T_ishl dX9_power_37 ?_
      refine T_iconst (v := (-1)) dX9_power_38 (by decide) ?_
      refine T_ixor dX9_power_39 ?_
      refine T_iand dX9_power_40 ?_
      refine T_istore_n dX9_power_41 rfl (by decide) rfl ?_
      refine T_iconst (v := 0) dX9_power_42 (by decide) ?_
      refine T_istore dX9_power_43 (by decide) rfl ?_
      refine T_iconst (v := 0) dX9_power_45 (by decide) ?_
      refine T_istore dX9_power_46 (by decide) rfl ?_
      exact T_sub [3, 4, 2, 1, 0] rfl h12
    · refine T_iconst (v := (-1)) dX9_power_18 (by decide) ?_
      exact T_iret dX9_power_19 rfl (h6.2 c14)

def L_X9_few_26 (l : Launch) (e : hv_Ev)  (Φ : Int32 → hv_S → Prop) (x2 : Int32) (x3 : Int32) (x4 : Int32) (σ : hv_S) : Prop := hv_TW l (hv_e1 e) (hv_rm 7) 0 0 m_X9_few hv_no (hv_ZI (hv_e1 e) Φ) 26 [(0, .ref 0), (2, .int x2), (3, .int x3), (4, .int x4)] [] σ
set_option maxHeartbeats 4000000 in
set_option maxRecDepth 100000 in
theorem B_X9_few_26 {l : Launch} {e : hv_Ev}  (x2 : Int32) (x3 : Int32) (x4 : Int32) {σ : hv_S} {Φ : Int32 → hv_S → Prop} (h : (((σ.1 18 6) < x4 → Φ x2 σ) ∧ (¬ (σ.1 18 6) < x4 → hv_CI l (hv_e1 e) 0 m_J6_bitCount_0f7a4 [.int x4] σ (fun v9 s8 => ((x3 ≤ v9 → L_X9_few_26 l e Φ x2 x3 (x4 + 1) s8) ∧ (¬ x3 ≤ v9 → hv_CL l (hv_e1 e) 0 m_X6_sumOf [.ref 21, .int x4] s8 (fun v12 s11 => hv_CI l (hv_e1 e) 0 m_X6_decides [.ref 21, .long v12] s11 (fun v15 s14 => ((v15 = 0 → L_X9_few_26 l e Φ x2 x3 (x4 + 1) s14) ∧ (¬ v15 = 0 → L_X9_few_26 l e Φ x4 v9 (x4 + 1) s14)))))))))) : L_X9_few_26 l e Φ x2 x3 x4 σ := by
  show hv_TW l (hv_e1 e) (hv_rm 7) 0 0 m_X9_few hv_no (hv_ZI (hv_e1 e) Φ) 26 [(0, .ref 0), (2, .int x2), (3, .int x3), (4, .int x4)] [] σ
  refine T_iload dX9_few_26 3 rfl ?_
  refine T_aload_n dX9_few_28 rfl 0 rfl ?_
  refine T_get (v := .ref 18) dX9_few_29 fl_X9_39 hp_0 hs_0 rfl rfl ?_
  refine T_get (v := .int (σ.1 18 6)) dX9_few_32 fl_X9_177 hp_18 hs_18 rfl rfl ?_
  refine T_icmp_gt (tgt := 82) dX9_few_35 (by decide) (fun c17 => ?_) (fun c17 => ?_)
  · refine T_iload_n dX9_few_82 rfl 1 rfl ?_
    exact T_iret dX9_few_83 rfl (h.1 c17)
  · refine T_iload dX9_few_38 3 rfl ?_
    refine T_SI (As := [.int x4]) dX9_few_40 ms_X9_197 rfl (Nat.le_of_ble_eq_true rfl) (hv_ok1 rfl) rfl (h.2 c17) (fun v9 s8 h10 => ?_)
    refine T_istore dX9_few_43 (by decide) rfl ?_
    refine T_iload dX9_few_45 0 rfl ?_
    refine T_iload_n dX9_few_47 rfl 3 rfl ?_
    refine T_icmp_ge (tgt := 76) dX9_few_48 (by decide) (fun c18 => ?_) (fun c18 => ?_)
    · refine T_iinc (v := (x4 + 1)) dX9_few_76 4 rfl rfl (by decide) rfl ?_
      refine T_goto (tgt := 26) dX9_few_79 (by decide) ?_
      exact T_sub [2, 3, 4, 0] rfl (h10.1 c18)
    · refine T_aload_n dX9_few_51 rfl 1 rfl ?_
      refine T_get (v := .ref 21) dX9_few_52 fl_X9_48 hp_0 hs_0 rfl rfl ?_
      refine T_aload_n dX9_few_55 rfl 1 rfl ?_
      refine T_get (v := .ref 21) dX9_few_56 fl_X9_48 hp_0 hs_0 rfl rfl ?_
      refine T_iload dX9_few_59 4 rfl ?_
      refine T_VL (As := [.int x4]) dX9_few_61 mv_X9_186 hp_21 hs_21 rfl (Nat.le_of_ble_eq_true rfl) (hv_ok1 rfl) rfl (h10.2 c18) (fun v12 s11 h13 => ?_)
      refine T_VI (As := [.long v12]) dX9_few_64 mv_X9_190 hp_21 hs_21 rfl (Nat.le_of_ble_eq_true rfl) (hv_ok1 rfl) rfl h13 (fun v15 s14 h16 => ?_)
      refine T_if_eq (tgt := 76) dX9_few_67 (by decide) (fun c19 => ?_) (fun c19 => ?_)
      · refine T_iinc (v := (x4 + 1)) dX9_few_76 4 rfl rfl (by decide) rfl ?_
        refine T_goto (tgt := 26) dX9_few_79 (by decide) ?_
        exact T_sub [2, 3, 4, 0] rfl (h16.1 c19)
      · refine T_iload dX9_few_70 4 rfl ?_
        refine T_istore_n dX9_few_72 rfl (by decide) rfl ?_
        refine T_iload dX9_few_73 1 rfl ?_
        refine T_istore_n dX9_few_75 rfl (by decide) rfl ?_
        refine T_iinc (v := (x4 + 1)) dX9_few_76 4 rfl rfl (by decide) rfl ?_
        refine T_goto (tgt := 26) dX9_few_79 (by decide) ?_
        exact T_sub [4, 2, 1, 0] rfl (h16.2 c19)
set_option maxHeartbeats 4000000 in
set_option maxRecDepth 100000 in
theorem B_X9_few {l : Launch} {e : hv_Ev}  (x1 : Int32) {σ : hv_S} {Φ : Int32 → hv_S → Prop} (h : hv_CI l (hv_e1 e) 0 m_X9_isMatter [.int x1] σ (fun v2 s1 => ((v2 ≠ 0 → hv_CV l (hv_e1 e) 6 m_X6_reckonNow [.ref 21, .int x1] s1 (fun s4 => L_X9_few_26 l e Φ (-5) 9 0 s4)) ∧ (v2 = 0 → Φ (-1) s1)))) : hv_CI l (hv_e1 e) 7 m_X9_few [.ref 0, .int x1] σ Φ := by
  refine hv_entI (by decide) (Nat.le_of_ble_eq_true rfl) ?_
  show hv_TW l (hv_e1 e) (hv_rm 7) 0 0 m_X9_few hv_no (hv_ZI (hv_e1 e) Φ) 0 [(0, .ref 0), (1, .int x1)] [] σ
  refine T_iload_n dX9_few_0 rfl 1 rfl ?_
  refine T_SI (As := [.int x1]) dX9_few_1 ms_X9_83 rfl (Nat.le_of_ble_eq_true rfl) (hv_ok1 rfl) rfl h (fun v2 s1 h3 => ?_)
  refine T_if_ne (tgt := 9) dX9_few_4 (by decide) (fun c7 => ?_) (fun c7 => ?_)
  · refine T_aload_n dX9_few_9 rfl 0 rfl ?_
    refine T_get (v := .ref 21) dX9_few_10 fl_X9_48 hp_0 hs_0 rfl rfl ?_
    refine T_iload_n dX9_few_13 rfl 1 rfl ?_
    refine T_VV (As := [.int x1]) dX9_few_14 mv_X9_162 hp_21 hs_21 rfl (Nat.le_of_ble_eq_true rfl) (hv_ok1 rfl) rfl (h3.1 c7) (fun s4 h6 => ?_)
    refine T_bipush (v := (-5)) dX9_few_17 (by decide) ?_
    refine T_istore_n dX9_few_19 rfl (by decide) rfl ?_
    refine T_bipush (v := 9) dX9_few_20 (by decide) ?_
    refine T_istore_n dX9_few_22 rfl (by decide) rfl ?_
    refine T_iconst (v := 0) dX9_few_23 (by decide) ?_
    refine T_istore dX9_few_24 (by decide) rfl ?_
    exact T_sub [3, 2, 1, 0] rfl h6
  · refine T_iconst (v := (-1)) dX9_few_7 (by decide) ?_
    exact T_iret dX9_few_8 rfl (h3.2 c7)

def L_X9_best_25 (l : Launch) (e : hv_Ev)  (Φ : Int32 → hv_S → Prop) (x1 : Int32) (x2 : Int32) (σ : hv_S) : Prop := hv_TW l (hv_e1 e) (hv_rm 4) 0 0 m_X9_best hv_no (hv_ZI (hv_e1 e) Φ) 25 [(0, .ref 0), (1, .int x1), (2, .int x2)] [] σ
def L_X9_best_64 (l : Launch) (e : hv_Ev)  (Φ : Int32 → hv_S → Prop) (x2 : Int32) (σ : hv_S) : Prop := hv_TW l (hv_e1 e) (hv_rm 4) 0 0 m_X9_best hv_no (hv_ZI (hv_e1 e) Φ) 64 [(0, .ref 0), (2, .int x2)] [] σ
set_option maxHeartbeats 4000000 in
set_option maxRecDepth 100000 in
theorem B_X9_best_64 {l : Launch} {e : hv_Ev}  (x2 : Int32) {σ : hv_S} {Φ : Int32 → hv_S → Prop} (h : hv_CV l (hv_e1 e) 2 m_X5_seekWays [.ref 18, .int 1] σ (fun s15 => ((x2 ≠ (-1) → ((0 ≤ (s15.1 18 10) → Φ (((s15.1 18 10) >>> (x2 &&& 31)) &&& 1) s15) ∧ (¬ 0 ≤ (s15.1 18 10) → Φ (-5) s15))) ∧ (x2 = (-1) → Φ (s15.1 18 9) s15)))) : L_X9_best_64 l e Φ x2 σ := by
  show hv_TW l (hv_e1 e) (hv_rm 4) 0 0 m_X9_best hv_no (hv_ZI (hv_e1 e) Φ) 64 [(0, .ref 0), (2, .int x2)] [] σ
  refine T_aload_n dX9_best_64 rfl 0 rfl ?_
  refine T_get (v := .ref 18) dX9_best_65 fl_X9_39 hp_0 hs_0 rfl rfl ?_
  refine T_iconst (v := 1) dX9_best_68 (by decide) ?_
  refine T_VV (As := [.int 1]) dX9_best_69 mv_X9_209 hp_18 hs_18 rfl (Nat.le_of_ble_eq_true rfl) (hv_ok1 rfl) rfl h (fun s15 h17 => ?_)
  refine T_iload_n dX9_best_72 rfl 1 rfl ?_
  refine T_iconst (v := (-1)) dX9_best_73 (by decide) ?_
  refine T_icmp_ne (tgt := 85) dX9_best_74 (by decide) (fun c18 => ?_) (fun c18 => ?_)
  · refine T_aload_n dX9_best_85 rfl 0 rfl ?_
    refine T_get (v := .ref 18) dX9_best_86 fl_X9_39 hp_0 hs_0 rfl rfl ?_
    refine T_get (v := .int (s15.1 18 10)) dX9_best_89 fl_X9_216 hp_18 hs_18 rfl rfl ?_
    refine T_if_ge (tgt := 100) dX9_best_92 (by decide) (fun c19 => ?_) (fun c19 => ?_)
    · refine T_aload_n dX9_best_100 rfl 0 rfl ?_
      refine T_get (v := .ref 18) dX9_best_101 fl_X9_39 hp_0 hs_0 rfl rfl ?_
      refine T_get (v := .int (s15.1 18 10)) dX9_best_104 fl_X9_216 hp_18 hs_18 rfl rfl ?_
      refine T_iload_n dX9_best_107 rfl 1 rfl ?_
      refine T_ishr dX9_best_108 ?_
      refine T_iconst (v := 1) dX9_best_109 (by decide) ?_
      refine T_iand dX9_best_110 ?_
      exact T_iret dX9_best_111 rfl ((h17.1 c18).1 c19)
    · refine T_bipush (v := (-5)) dX9_best_95 (by decide) ?_
      refine T_goto (tgt := 111) dX9_best_97 (by decide) ?_
      exact T_iret dX9_best_111 rfl ((h17.1 c18).2 c19)
  · refine T_aload_n dX9_best_77 rfl 0 rfl ?_
    refine T_get (v := .ref 18) dX9_best_78 fl_X9_39 hp_0 hs_0 rfl rfl ?_
    refine T_get (v := .int (s15.1 18 9)) dX9_best_81 fl_X9_213 hp_18 hs_18 rfl rfl ?_
    exact T_iret dX9_best_84 rfl (h17.2 c18)
set_option maxHeartbeats 4000000 in
set_option maxRecDepth 100000 in
theorem B_X9_best_25 {l : Launch} {e : hv_Ev}  (x1 : Int32) (x2 : Int32) {σ : hv_S} {Φ : Int32 → hv_S → Prop} (h : hv_CV l (hv_e1 e) 3 m_X5_layFirm [.ref 18, .int x1, .int (σ.1 1 8), .int 0, .int (-1), .int (-1)] σ (fun s10 => ((x2 = (-1) → L_X9_best_64 l e Φ x2 s10) ∧ (¬ x2 = (-1) → (((((s10.1 18 5) >>> (x2 &&& 31)) &&& 1) ≠ 0 → L_X9_best_64 l e Φ x2 s10) ∧ ((((s10.1 18 5) >>> (x2 &&& 31)) &&& 1) = 0 → Φ (-1) s10)))))) : L_X9_best_25 l e Φ x1 x2 σ := by
  show hv_TW l (hv_e1 e) (hv_rm 4) 0 0 m_X9_best hv_no (hv_ZI (hv_e1 e) Φ) 25 [(0, .ref 0), (1, .int x1), (2, .int x2)] [] σ
  refine T_aload_n dX9_best_25 rfl 0 rfl ?_
  refine T_get (v := .ref 18) dX9_best_26 fl_X9_39 hp_0 hs_0 rfl rfl ?_
  refine T_iload_n dX9_best_29 rfl 1 rfl ?_
  refine T_aload_n dX9_best_30 rfl 0 rfl ?_
  refine T_get (v := .ref 1) dX9_best_31 fl_X9_14 hp_0 hs_0 rfl rfl ?_
  refine T_get (v := .int (σ.1 1 8)) dX9_best_34 fl_X9_112 hp_1 hs_1 rfl rfl ?_
  refine T_iconst (v := 0) dX9_best_37 (by decide) ?_
  refine T_iconst (v := (-1)) dX9_best_38 (by decide) ?_
  refine T_iconst (v := (-1)) dX9_best_39 (by decide) ?_
  refine T_VV (As := [.int x1, .int (σ.1 1 8), .int 0, .int (-1), .int (-1)]) dX9_best_40 mv_X9_203 hp_18 hs_18 rfl (Nat.le_of_ble_eq_true rfl) (hv_ok1 rfl) rfl h (fun s10 h12 => ?_)
  refine T_iload_n dX9_best_43 rfl 2 rfl ?_
  refine T_iconst (v := (-1)) dX9_best_44 (by decide) ?_
  refine T_icmp_eq (tgt := 64) dX9_best_45 (by decide) (fun c13 => ?_) (fun c13 => ?_)
  · exact T_sub [0, 2] rfl (h12.1 c13)
  · refine T_aload_n dX9_best_48 rfl 0 rfl ?_
    refine T_get (v := .ref 18) dX9_best_49 fl_X9_39 hp_0 hs_0 rfl rfl ?_
    refine T_get (v := .int (s10.1 18 5)) dX9_best_52 fl_X9_206 hp_18 hs_18 rfl rfl ?_
    refine T_iload_n dX9_best_55 rfl 2 rfl ?_
    refine T_ishr dX9_best_56 ?_
    refine T_iconst (v := 1) dX9_best_57 (by decide) ?_
    refine T_iand dX9_best_58 ?_
    refine T_if_ne (tgt := 64) dX9_best_59 (by decide) (fun c14 => ?_) (fun c14 => ?_)
    · exact T_sub [0, 2] rfl ((h12.2 c13).1 c14)
    · refine T_iconst (v := (-1)) dX9_best_62 (by decide) ?_
      exact T_iret dX9_best_63 rfl ((h12.2 c13).2 c14)
set_option maxHeartbeats 4000000 in
set_option maxRecDepth 100000 in
theorem B_X9_best {l : Launch} {e : hv_Ev}  (x1 : Int32) (x2 : Int32) {σ : hv_S} {Φ : Int32 → hv_S → Prop} (h : hv_CI l (hv_e1 e) 0 m_X9_isMatter [.int x1] σ (fun v2 s1 => ((v2 = 0 → Φ (-1) s1) ∧ (¬ v2 = 0 → ((x2 = (-1) → L_X9_best_25 l e Φ x1 x2 s1) ∧ (¬ x2 = (-1) → hv_CI l (hv_e1 e) 0 m_X2_sits [.ref 1, .int x2] s1 (fun v5 s4 => ((v5 ≠ 0 → L_X9_best_25 l e Φ x1 x2 s4) ∧ (v5 = 0 → Φ (-1) s4))))))))) : hv_CI l (hv_e1 e) 4 m_X9_best [.ref 0, .int x1, .int x2] σ Φ := by
  refine hv_entI (by decide) (Nat.le_of_ble_eq_true rfl) ?_
  show hv_TW l (hv_e1 e) (hv_rm 4) 0 0 m_X9_best hv_no (hv_ZI (hv_e1 e) Φ) 0 [(0, .ref 0), (1, .int x1), (2, .int x2)] [] σ
  refine T_iload_n dX9_best_0 rfl 1 rfl ?_
  refine T_SI (As := [.int x1]) dX9_best_1 ms_X9_83 rfl (Nat.le_of_ble_eq_true rfl) (hv_ok1 rfl) rfl h (fun v2 s1 h3 => ?_)
  refine T_if_eq (tgt := 23) dX9_best_4 (by decide) (fun c7 => ?_) (fun c7 => ?_)
  · refine T_iconst (v := (-1)) dX9_best_23 (by decide) ?_
    exact T_iret dX9_best_24 rfl (h3.1 c7)
  · refine T_iload_n dX9_best_7 rfl 2 rfl ?_
    refine T_iconst (v := (-1)) dX9_best_8 (by decide) ?_
    refine T_icmp_eq (tgt := 25) dX9_best_9 (by decide) (fun c8 => ?_) (fun c8 => ?_)
    · exact T_sub [0, 1, 2] rfl ((h3.2 c7).1 c8)
    · refine T_aload_n dX9_best_12 rfl 0 rfl ?_
      refine T_get (v := .ref 1) dX9_best_13 fl_X9_14 hp_0 hs_0 rfl rfl ?_
      refine T_iload_n dX9_best_16 rfl 2 rfl ?_
      refine T_VI (As := [.int x2]) dX9_best_17 mv_X9_79 hp_1 hs_1 rfl (Nat.le_of_ble_eq_true rfl) (hv_ok1 rfl) rfl ((h3.2 c7).2 c8) (fun v5 s4 h6 => ?_)
      refine T_if_ne (tgt := 25) dX9_best_20 (by decide) (fun c9 => ?_) (fun c9 => ?_)
      · exact T_sub [0, 1, 2] rfl (h6.1 c9)
      · refine T_iconst (v := (-1)) dX9_best_23 (by decide) ?_
        exact T_iret dX9_best_24 rfl (h6.2 c9)

set_option maxHeartbeats 4000000 in
set_option maxRecDepth 100000 in
theorem B_X9_right {l : Launch} {e : hv_Ev}  (x1 : Int32) (x2 : Int32) (x3 : Int32) {σ : hv_S} {Φ : Int64 → hv_S → Prop} (h : hv_CI l (hv_e1 e) 0 m_X9_isMatter [.int x1] σ (fun v2 s1 => ((v2 = 0 → Φ (-9223372036854775808) s1) ∧ (¬ v2 = 0 → ((x2 < 0 → Φ (-9223372036854775808) s1) ∧ (¬ x2 < 0 → ((1 < x2 → Φ (-9223372036854775808) s1) ∧ (¬ 1 < x2 → hv_CI l (hv_e1 e) 0 m_X9_isPart [.int x3] s1 (fun v5 s4 => ((v5 ≠ 0 → ((x2 ≠ 1 → hv_CL l (hv_e1 e) 5 m_X6_chanceIf [.ref 21, .int x1, .int 0, .int (-1), .int (-1)] s4 (fun v8 s7 => hv_CL l (hv_e1 e) 1 m_X9_lowest [.long v8, .long 100000000, .int x3] s7 (fun v11 s10 => Φ v11 s10))) ∧ (x2 = 1 → hv_CL l (hv_e1 e) 5 m_X6_chanceIf [.ref 21, .int x1, .int 255, .int (-1), .int (-1)] s4 (fun v14 s13 => hv_CL l (hv_e1 e) 1 m_X9_lowest [.long v14, .long 100000000, .int x3] s13 (fun v17 s16 => Φ v17 s16))))) ∧ (v5 = 0 → Φ (-9223372036854775808) s4))))))))))) : hv_CL l (hv_e1 e) 6 m_X9_right [.ref 0, .int x1, .int x2, .int x3] σ Φ := by
  refine hv_entL (by decide) (Nat.le_of_ble_eq_true rfl) ?_
  show hv_TW l (hv_e1 e) (hv_rm 6) 0 0 m_X9_right hv_no (hv_ZL (hv_e1 e) Φ) 0 [(0, .ref 0), (1, .int x1), (2, .int x2), (3, .int x3)] [] σ
  refine T_iload_n dX9_right_0 rfl 1 rfl ?_
  refine T_SI (As := [.int x1]) dX9_right_1 ms_X9_83 rfl (Nat.le_of_ble_eq_true rfl) (hv_ok1 rfl) rfl h (fun v2 s1 h3 => ?_)
  refine T_if_eq (tgt := 23) dX9_right_4 (by decide) (fun c19 => ?_) (fun c19 => ?_)
  · refine T_ldc2 dX9_right_23 kl_X9_160 ?_
    exact T_lret dX9_right_26 rfl (h3.1 c19)
  · refine T_iload_n dX9_right_7 rfl 2 rfl ?_
    refine T_if_lt (tgt := 23) dX9_right_8 (by decide) (fun c20 => ?_) (fun c20 => ?_)
    · refine T_ldc2 dX9_right_23 kl_X9_160 ?_
      exact T_lret dX9_right_26 rfl ((h3.2 c19).1 c20)
    · refine T_iload_n dX9_right_11 rfl 2 rfl ?_
      refine T_iconst (v := 1) dX9_right_12 (by decide) ?_
      refine T_icmp_gt (tgt := 23) dX9_right_13 (by decide) (fun c21 => ?_) (fun c21 => ?_)
      · refine T_ldc2 dX9_right_23 kl_X9_160 ?_
        exact T_lret dX9_right_26 rfl (((h3.2 c19).2 c20).1 c21)
      · refine T_iload_n dX9_right_16 rfl 3 rfl ?_
        refine T_SI (As := [.int x3]) dX9_right_17 ms_X9_157 rfl (Nat.le_of_ble_eq_true rfl) (hv_ok1 rfl) rfl (((h3.2 c19).2 c20).2 c21) (fun v5 s4 h6 => ?_)
        refine T_if_ne (tgt := 27) dX9_right_20 (by decide) (fun c22 => ?_) (fun c22 => ?_)
        · refine T_iload_n dX9_right_27 rfl 2 rfl ?_
          refine T_iconst (v := 1) dX9_right_28 (by decide) ?_
          refine T_icmp_ne (tgt := 38) dX9_right_29 (by decide) (fun c23 => ?_) (fun c23 => ?_)
          · refine T_iconst (v := 0) dX9_right_38 (by decide) ?_
            refine T_istore dX9_right_39 (by decide) rfl ?_
            refine T_aload_n dX9_right_41 rfl 1 rfl ?_
            refine T_get (v := .ref 21) dX9_right_42 fl_X9_48 hp_0 hs_0 rfl rfl ?_
            refine T_iload_n dX9_right_45 rfl 2 rfl ?_
            refine T_iload dX9_right_46 0 rfl ?_
            refine T_iconst (v := (-1)) dX9_right_48 (by decide) ?_
            refine T_iconst (v := (-1)) dX9_right_49 (by decide) ?_
            refine T_VL (As := [.int x1, .int 0, .int (-1), .int (-1)]) dX9_right_50 mv_X9_219 hp_21 hs_21 rfl (Nat.le_of_ble_eq_true rfl) (hv_ok1 rfl) rfl ((h6.1 c22).1 c23) (fun v8 s7 h9 => ?_)
            refine T_ldc2 dX9_right_53 kl_X9_223 ?_
            refine T_iload_n dX9_right_56 rfl 4 rfl ?_
            refine T_SL (As := [.long v8, .long 100000000, .int x3]) dX9_right_57 ms_X9_173 rfl (Nat.le_of_ble_eq_true rfl) (hv_ok1 rfl) rfl h9 (fun v11 s10 h12 => ?_)
            exact T_lret dX9_right_60 rfl h12
          · refine T_sipush (v := 255) dX9_right_32 (by decide) ?_
            refine T_goto (tgt := 39) dX9_right_35 (by decide) ?_
            refine T_istore dX9_right_39 (by decide) rfl ?_
            refine T_aload_n dX9_right_41 rfl 1 rfl ?_
            refine T_get (v := .ref 21) dX9_right_42 fl_X9_48 hp_0 hs_0 rfl rfl ?_
            refine T_iload_n dX9_right_45 rfl 2 rfl ?_
            refine T_iload dX9_right_46 0 rfl ?_
            refine T_iconst (v := (-1)) dX9_right_48 (by decide) ?_
            refine T_iconst (v := (-1)) dX9_right_49 (by decide) ?_
            refine T_VL (As := [.int x1, .int 255, .int (-1), .int (-1)]) dX9_right_50 mv_X9_219 hp_21 hs_21 rfl (Nat.le_of_ble_eq_true rfl) (hv_ok1 rfl) rfl ((h6.1 c22).2 c23) (fun v14 s13 h15 => ?_)
            refine T_ldc2 dX9_right_53 kl_X9_223 ?_
            refine T_iload_n dX9_right_56 rfl 4 rfl ?_
            refine T_SL (As := [.long v14, .long 100000000, .int x3]) dX9_right_57 ms_X9_173 rfl (Nat.le_of_ble_eq_true rfl) (hv_ok1 rfl) rfl h15 (fun v17 s16 h18 => ?_)
            exact T_lret dX9_right_60 rfl h18
        · refine T_ldc2 dX9_right_23 kl_X9_160 ?_
          exact T_lret dX9_right_26 rfl (h6.2 c22)

set_option maxHeartbeats 4000000 in
set_option maxRecDepth 100000 in
theorem B_X9_surest {l : Launch} {e : hv_Ev}  (x1 : Int32) {σ : hv_S} {Φ : Int32 → hv_S → Prop} (h : hv_CI l (hv_e1 e) 0 m_X9_isMatter [.int x1] σ (fun v2 s1 => ((v2 ≠ 0 → hv_CI l (hv_e1 e) 1 m_X2_surestOf [.ref 1, .int x1, .int (((1 : Int32) <<< ((s1.1 1 7) &&& 31)) - 1)] s1 (fun v5 s4 => Φ v5 s4)) ∧ (v2 = 0 → Φ (-1) s1)))) : hv_CI l (hv_e1 e) 2 m_X9_surest [.ref 0, .int x1] σ Φ := by
  refine hv_entI (by decide) (Nat.le_of_ble_eq_true rfl) ?_
  show hv_TW l (hv_e1 e) (hv_rm 2) 0 0 m_X9_surest hv_no (hv_ZI (hv_e1 e) Φ) 0 [(0, .ref 0), (1, .int x1)] [] σ
  refine T_iload_n dX9_surest_0 rfl 1 rfl ?_
  refine T_SI (As := [.int x1]) dX9_surest_1 ms_X9_83 rfl (Nat.le_of_ble_eq_true rfl) (hv_ok1 rfl) rfl h (fun v2 s1 h3 => ?_)
  refine T_if_ne (tgt := 9) dX9_surest_4 (by decide) (fun c7 => ?_) (fun c7 => ?_)
  · refine T_aload_n dX9_surest_9 rfl 0 rfl ?_
    refine T_get (v := .ref 1) dX9_surest_10 fl_X9_14 hp_0 hs_0 rfl rfl ?_
    refine T_iload_n dX9_surest_13 rfl 1 rfl ?_
    refine T_iconst (v := 1) dX9_surest_14 (by decide) ?_
    refine T_aload_n dX9_surest_15 rfl 0 rfl ?_
    refine T_get (v := .ref 1) dX9_surest_16 fl_X9_14 hp_0 hs_0 rfl rfl ?_
    refine T_get (v := .int (s1.1 1 7)) dX9_surest_19 fl_X9_75 hp_1 hs_1 rfl rfl ?_
    refine T_ishl dX9_surest_22 ?_
    refine T_iconst (v := 1) dX9_surest_23 (by decide) ?_
    refine T_isub dX9_surest_24 ?_
    refine T_VI (As := [.int x1, .int (((1 : Int32) <<< ((s1.1 1 7) &&& 31)) - 1)]) dX9_surest_25 mv_X9_225 hp_1 hs_1 rfl (Nat.le_of_ble_eq_true rfl) (hv_ok1 rfl) rfl (h3.1 c7) (fun v5 s4 h6 => ?_)
    exact T_iret dX9_surest_28 rfl h6
  · refine T_iconst (v := (-1)) dX9_surest_7 (by decide) ?_
    exact T_iret dX9_surest_8 rfl (h3.2 c7)

set_option maxHeartbeats 4000000 in
set_option maxRecDepth 100000 in
theorem B_X9_breach {l : Launch} {e : hv_Ev}  (x1 : Int32) {σ : hv_S} {Φ : Int32 → hv_S → Prop} (h : hv_CI l (hv_e1 e) 0 m_X9_isMatter [.int x1] σ (fun v2 s1 => ((v2 = 0 → Φ (-1) s1) ∧ (¬ v2 = 0 → hv_CI l (hv_e1 e) 6 m_X8_firstBreach [.ref 35, .int x1] s1 (fun v5 s4 => Φ v5 s4))))) : hv_CI l (hv_e1 e) 7 m_X9_breach [.ref 0, .int x1] σ Φ := by
  refine hv_entI (by decide) (Nat.le_of_ble_eq_true rfl) ?_
  show hv_TW l (hv_e1 e) (hv_rm 7) 0 0 m_X9_breach hv_no (hv_ZI (hv_e1 e) Φ) 0 [(0, .ref 0), (1, .int x1)] [] σ
  refine T_iload_n dX9_breach_0 rfl 1 rfl ?_
  refine T_SI (As := [.int x1]) dX9_breach_1 ms_X9_83 rfl (Nat.le_of_ble_eq_true rfl) (hv_ok1 rfl) rfl h (fun v2 s1 h3 => ?_)
  refine T_if_eq (tgt := 18) dX9_breach_4 (by decide) (fun c7 => ?_) (fun c7 => ?_)
  · refine T_iconst (v := (-1)) dX9_breach_18 (by decide) ?_
    exact T_iret dX9_breach_19 rfl (h3.1 c7)
  · refine T_aload_n dX9_breach_7 rfl 0 rfl ?_
    refine T_get (v := .ref 35) dX9_breach_8 fl_X9_57 hp_0 hs_0 rfl rfl ?_
    refine T_iload_n dX9_breach_11 rfl 1 rfl ?_
    refine T_VI (As := [.int x1]) dX9_breach_12 mv_X9_228 hp_35 hs_35 rfl (Nat.le_of_ble_eq_true rfl) (hv_ok1 rfl) rfl (h3.2 c7) (fun v5 s4 h6 => ?_)
    refine T_goto (tgt := 19) dX9_breach_15 (by decide) ?_
    exact T_iret dX9_breach_19 rfl h6

set_option maxHeartbeats 4000000 in
set_option maxRecDepth 100000 in
theorem B_X9_rather {l : Launch} {e : hv_Ev}  (x1 : Int32) {σ : hv_S} {Φ : Int32 → hv_S → Prop} (h : hv_CI l (hv_e1 e) 0 m_X9_isMatter [.int x1] σ (fun v2 s1 => ((v2 = 0 → Φ (-1) s1) ∧ (¬ v2 = 0 → hv_CI l (hv_e1 e) 6 m_X8_firstWish [.ref 35, .int x1] s1 (fun v5 s4 => Φ v5 s4))))) : hv_CI l (hv_e1 e) 7 m_X9_rather [.ref 0, .int x1] σ Φ := by
  refine hv_entI (by decide) (Nat.le_of_ble_eq_true rfl) ?_
  show hv_TW l (hv_e1 e) (hv_rm 7) 0 0 m_X9_rather hv_no (hv_ZI (hv_e1 e) Φ) 0 [(0, .ref 0), (1, .int x1)] [] σ
  refine T_iload_n dX9_rather_0 rfl 1 rfl ?_
  refine T_SI (As := [.int x1]) dX9_rather_1 ms_X9_83 rfl (Nat.le_of_ble_eq_true rfl) (hv_ok1 rfl) rfl h (fun v2 s1 h3 => ?_)
  refine T_if_eq (tgt := 18) dX9_rather_4 (by decide) (fun c7 => ?_) (fun c7 => ?_)
  · refine T_iconst (v := (-1)) dX9_rather_18 (by decide) ?_
    exact T_iret dX9_rather_19 rfl (h3.1 c7)
  · refine T_aload_n dX9_rather_7 rfl 0 rfl ?_
    refine T_get (v := .ref 35) dX9_rather_8 fl_X9_57 hp_0 hs_0 rfl rfl ?_
    refine T_iload_n dX9_rather_11 rfl 1 rfl ?_
    refine T_VI (As := [.int x1]) dX9_rather_12 mv_X9_231 hp_35 hs_35 rfl (Nat.le_of_ble_eq_true rfl) (hv_ok1 rfl) rfl (h3.2 c7) (fun v5 s4 h6 => ?_)
    refine T_goto (tgt := 19) dX9_rather_15 (by decide) ?_
    exact T_iret dX9_rather_19 rfl h6

def L_X9_settle_11 (l : Launch) (e : hv_Ev)  (Φ : Int32 → hv_S → Prop) (x1 : Int32) (x2 : Int32) (σ : hv_S) : Prop := hv_TW l (hv_e1 e) (hv_rm 7) 0 0 m_X9_settle hv_no (hv_ZI (hv_e1 e) Φ) 11 [(0, .ref 0), (1, .int x1), (2, .int x2)] [] σ
set_option maxHeartbeats 4000000 in
set_option maxRecDepth 100000 in
theorem B_X9_settle_11 {l : Launch} {e : hv_Ev}  (x1 : Int32) (x2 : Int32) {σ : hv_S} {Φ : Int32 → hv_S → Prop} (h : ((12 ≤ x2 → Φ 12 σ) ∧ (¬ 12 ≤ x2 → hv_CI l (hv_e1 e) 6 m_X8_firstWish [.ref 35, .int x1] σ (fun v6 s5 => ((0 ≤ v6 → hv_CI l (hv_e1 e) 0 m_X9_cell [.int (v6 / 10), .int x1] s5 (fun v9 s8 => (((v6 - v6 / 10 * 10) ≠ 0 → hv_CI l (hv_e1 e) 0 m_X2_renew [.ref 1, .int v9, .int 2, .int ((v6 - v6 / 10 * 10) - 1), .int (-5), .int 10] s8 (fun v12 s11 => L_X9_settle_11 l e Φ x1 (x2 + 1) s11)) ∧ ((v6 - v6 / 10 * 10) = 0 → hv_CI l (hv_e1 e) 0 m_X2_renew [.ref 1, .int v9, .int 1, .int (-5), .int (-5), .int 0] s8 (fun v15 s14 => L_X9_settle_11 l e Φ x1 (x2 + 1) s14))))) ∧ (¬ 0 ≤ v6 → Φ x2 s5)))))) : L_X9_settle_11 l e Φ x1 x2 σ := by
  show hv_TW l (hv_e1 e) (hv_rm 7) 0 0 m_X9_settle hv_no (hv_ZI (hv_e1 e) Φ) 11 [(0, .ref 0), (1, .int x1), (2, .int x2)] [] σ
  refine T_iload_n dX9_settle_11 rfl 2 rfl ?_
  refine T_bipush (v := 12) dX9_settle_12 (by decide) ?_
  refine T_icmp_ge (tgt := 97) dX9_settle_14 (by decide) (fun c17 => ?_) (fun c17 => ?_)
  · refine T_bipush (v := 12) dX9_settle_97 (by decide) ?_
    exact T_iret dX9_settle_99 rfl (h.1 c17)
  · refine T_aload_n dX9_settle_17 rfl 0 rfl ?_
    refine T_get (v := .ref 35) dX9_settle_18 fl_X9_57 hp_0 hs_0 rfl rfl ?_
    refine T_iload_n dX9_settle_21 rfl 1 rfl ?_
    refine T_VI (As := [.int x1]) dX9_settle_22 mv_X9_231 hp_35 hs_35 rfl (Nat.le_of_ble_eq_true rfl) (hv_ok1 rfl) rfl (h.2 c17) (fun v6 s5 h7 => ?_)
    refine T_istore_n dX9_settle_25 rfl (by decide) rfl ?_
    refine T_iload_n dX9_settle_26 rfl 0 rfl ?_
    refine T_if_ge (tgt := 32) dX9_settle_27 (by decide) (fun c18 => ?_) (fun c18 => ?_)
    · refine T_iload_n dX9_settle_32 rfl 0 rfl ?_
      refine T_bipush (v := 10) dX9_settle_33 (by decide) ?_
      refine T_idiv dX9_settle_35 (by decide) ?_
      refine T_iload_n dX9_settle_36 rfl 2 rfl ?_
      refine T_SI (As := [.int (v6 / 10), .int x1]) dX9_settle_37 ms_X9_94 rfl (Nat.le_of_ble_eq_true rfl) (hv_ok1 rfl) rfl (h7.1 c18) (fun v9 s8 h10 => ?_)
      refine T_istore dX9_settle_40 (by decide) rfl ?_
      refine T_iload_n dX9_settle_42 rfl 1 rfl ?_
      refine T_bipush (v := 10) dX9_settle_43 (by decide) ?_
      refine T_irem dX9_settle_45 (by decide) ?_
      refine T_istore dX9_settle_46 (by decide) rfl ?_
      refine T_iload dX9_settle_48 0 rfl ?_
      refine T_if_ne (tgt := 72) dX9_settle_50 (by decide) (fun c19 => ?_) (fun c19 => ?_)
      · refine T_aload_n dX9_settle_72 rfl 3 rfl ?_
        refine T_get (v := .ref 1) dX9_settle_73 fl_X9_14 hp_0 hs_0 rfl rfl ?_
        refine T_iload dX9_settle_76 1 rfl ?_
        refine T_iconst (v := 2) dX9_settle_78 (by decide) ?_
        refine T_iload dX9_settle_79 0 rfl ?_
        refine T_iconst (v := 1) dX9_settle_81 (by decide) ?_
        refine T_isub dX9_settle_82 ?_
        refine T_bipush (v := (-5)) dX9_settle_83 (by decide) ?_
        refine T_bipush (v := 10) dX9_settle_85 (by decide) ?_
        refine T_VI (As := [.int v9, .int 2, .int ((v6 - v6 / 10 * 10) - 1), .int (-5), .int 10]) dX9_settle_87 mv_X9_105 hp_1 hs_1 rfl (Nat.le_of_ble_eq_true rfl) (hv_ok1 rfl) rfl (h10.1 c19) (fun v12 s11 h13 => ?_)
        refine T_pop dX9_settle_90 rfl ?_
        refine T_iinc (v := (x2 + 1)) dX9_settle_91 5 rfl rfl (by decide) rfl ?_
        refine T_goto (tgt := 11) dX9_settle_94 (by decide) ?_
        exact T_sub [4, 5, 0] rfl h13
      · refine T_aload_n dX9_settle_53 rfl 3 rfl ?_
        refine T_get (v := .ref 1) dX9_settle_54 fl_X9_14 hp_0 hs_0 rfl rfl ?_
        refine T_iload dX9_settle_57 1 rfl ?_
        refine T_iconst (v := 1) dX9_settle_59 (by decide) ?_
        refine T_bipush (v := (-5)) dX9_settle_60 (by decide) ?_
        refine T_bipush (v := (-5)) dX9_settle_62 (by decide) ?_
        refine T_iconst (v := 0) dX9_settle_64 (by decide) ?_
        refine T_VI (As := [.int v9, .int 1, .int (-5), .int (-5), .int 0]) dX9_settle_65 mv_X9_105 hp_1 hs_1 rfl (Nat.le_of_ble_eq_true rfl) (hv_ok1 rfl) rfl (h10.2 c19) (fun v15 s14 h16 => ?_)
        refine T_pop dX9_settle_68 rfl ?_
        refine T_goto (tgt := 91) dX9_settle_69 (by decide) ?_
        refine T_iinc (v := (x2 + 1)) dX9_settle_91 5 rfl rfl (by decide) rfl ?_
        refine T_goto (tgt := 11) dX9_settle_94 (by decide) ?_
        exact T_sub [4, 5, 0] rfl h16
    · refine T_iload_n dX9_settle_30 rfl 3 rfl ?_
      exact T_iret dX9_settle_31 rfl (h7.2 c18)
set_option maxHeartbeats 4000000 in
set_option maxRecDepth 100000 in
theorem B_X9_settle {l : Launch} {e : hv_Ev}  (x1 : Int32) {σ : hv_S} {Φ : Int32 → hv_S → Prop} (h : hv_CI l (hv_e1 e) 0 m_X9_isMatter [.int x1] σ (fun v2 s1 => ((v2 ≠ 0 → L_X9_settle_11 l e Φ x1 0 s1) ∧ (v2 = 0 → Φ (-1) s1)))) : hv_CI l (hv_e1 e) 7 m_X9_settle [.ref 0, .int x1] σ Φ := by
  refine hv_entI (by decide) (Nat.le_of_ble_eq_true rfl) ?_
  show hv_TW l (hv_e1 e) (hv_rm 7) 0 0 m_X9_settle hv_no (hv_ZI (hv_e1 e) Φ) 0 [(0, .ref 0), (1, .int x1)] [] σ
  refine T_iload_n dX9_settle_0 rfl 1 rfl ?_
  refine T_SI (As := [.int x1]) dX9_settle_1 ms_X9_83 rfl (Nat.le_of_ble_eq_true rfl) (hv_ok1 rfl) rfl h (fun v2 s1 h3 => ?_)
  refine T_if_ne (tgt := 9) dX9_settle_4 (by decide) (fun c4 => ?_) (fun c4 => ?_)
  · refine T_iconst (v := 0) dX9_settle_9 (by decide) ?_
    refine T_istore_n dX9_settle_10 rfl (by decide) rfl ?_
    exact T_sub [1, 2, 0] rfl (h3.1 c4)
  · refine T_iconst (v := (-1)) dX9_settle_7 (by decide) ?_
    exact T_iret dX9_settle_8 rfl (h3.2 c4)

set_option maxHeartbeats 4000000 in
set_option maxRecDepth 100000 in
theorem B_X9_heap {l : Launch} {e : hv_Ev}  (x1 : Int32) (x2 : Int32) {σ : hv_S} {Φ : Int64 → hv_S → Prop} (h : hv_CI l (hv_e1 e) 0 m_X9_isMatter [.int x1] σ (fun v2 s1 => ((v2 = 0 → Φ (-9223372036854775808) s1) ∧ (¬ v2 = 0 → hv_CI l (hv_e1 e) 0 m_X9_isPart [.int x2] s1 (fun v5 s4 => ((v5 ≠ 0 → hv_CV l (hv_e1 e) 6 m_X6_reckonNow [.ref 21, .int x1] s4 (fun s7 => hv_CL l (hv_e1 e) 1 m_X6_highest [.ref 21] s7 (fun v11 s10 => hv_CL l (hv_e1 e) 1 m_X9_lowest [.long v11, .long (s10.2.1 21 6), .int x2] s10 (fun v14 s13 => Φ v14 s13)))) ∧ (v5 = 0 → Φ (-9223372036854775808) s4))))))) : hv_CL l (hv_e1 e) 7 m_X9_heap [.ref 0, .int x1, .int x2] σ Φ := by
  refine hv_entL (by decide) (Nat.le_of_ble_eq_true rfl) ?_
  show hv_TW l (hv_e1 e) (hv_rm 7) 0 0 m_X9_heap hv_no (hv_ZL (hv_e1 e) Φ) 0 [(0, .ref 0), (1, .int x1), (2, .int x2)] [] σ
  refine T_iload_n dX9_heap_0 rfl 1 rfl ?_
  refine T_SI (As := [.int x1]) dX9_heap_1 ms_X9_83 rfl (Nat.le_of_ble_eq_true rfl) (hv_ok1 rfl) rfl h (fun v2 s1 h3 => ?_)
  refine T_if_eq (tgt := 14) dX9_heap_4 (by decide) (fun c16 => ?_) (fun c16 => ?_)
  · refine T_ldc2 dX9_heap_14 kl_X9_160 ?_
    exact T_lret dX9_heap_17 rfl (h3.1 c16)
  · refine T_iload_n dX9_heap_7 rfl 2 rfl ?_
    refine T_SI (As := [.int x2]) dX9_heap_8 ms_X9_157 rfl (Nat.le_of_ble_eq_true rfl) (hv_ok1 rfl) rfl (h3.2 c16) (fun v5 s4 h6 => ?_)
    refine T_if_ne (tgt := 18) dX9_heap_11 (by decide) (fun c17 => ?_) (fun c17 => ?_)
    · refine T_aload_n dX9_heap_18 rfl 0 rfl ?_
      refine T_get (v := .ref 21) dX9_heap_19 fl_X9_48 hp_0 hs_0 rfl rfl ?_
      refine T_iload_n dX9_heap_22 rfl 1 rfl ?_
      refine T_VV (As := [.int x1]) dX9_heap_23 mv_X9_162 hp_21 hs_21 rfl (Nat.le_of_ble_eq_true rfl) (hv_ok1 rfl) rfl (h6.1 c17) (fun s7 h9 => ?_)
      refine T_aload_n dX9_heap_26 rfl 0 rfl ?_
      refine T_get (v := .ref 21) dX9_heap_27 fl_X9_48 hp_0 hs_0 rfl rfl ?_
      refine T_VL (As := []) dX9_heap_30 mv_X9_234 hp_21 hs_21 rfl (Nat.le_of_ble_eq_true rfl) (hv_ok1 rfl) rfl h9 (fun v11 s10 h12 => ?_)
      refine T_aload_n dX9_heap_33 rfl 0 rfl ?_
      refine T_get (v := .ref 21) dX9_heap_34 fl_X9_48 hp_0 hs_0 rfl rfl ?_
      refine T_get (v := .long (s10.2.1 21 6)) dX9_heap_37 fl_X9_169 hp_21 hs_21 rfl rfl ?_
      refine T_iload_n dX9_heap_40 rfl 2 rfl ?_
      refine T_SL (As := [.long v11, .long (s10.2.1 21 6), .int x2]) dX9_heap_41 ms_X9_173 rfl (Nat.le_of_ble_eq_true rfl) (hv_ok1 rfl) rfl h12 (fun v14 s13 h15 => ?_)
      exact T_lret dX9_heap_44 rfl h15
    · refine T_ldc2 dX9_heap_14 kl_X9_160 ?_
      exact T_lret dX9_heap_17 rfl (h6.2 c17)

set_option maxHeartbeats 4000000 in
set_option maxRecDepth 100000 in
theorem B_X9_mend {l : Launch} {e : hv_Ev}  (x1 : Int32) (x2 : Int32) (x3 : Int32) {σ : hv_S} {Φ : Int32 → hv_S → Prop} (h : hv_CI l (hv_e1 e) 0 m_X9_isMatter [.int x1] σ (fun v2 s1 => ((v2 ≠ 0 → ((x2 < 0 → Φ (-2) s1) ∧ (¬ x2 < 0 → ((8 < x2 → Φ (-2) s1) ∧ (¬ 8 < x2 → ((x3 < 0 → Φ (-2) s1) ∧ (¬ x3 < 0 → ((x3 ≤ 8 → hv_CI l (hv_e1 e) 6 m_X8_bestMending [.ref 35, .int x1, .int x2, .int x3] s1 (fun v5 s4 => Φ v5 s4)) ∧ (¬ x3 ≤ 8 → Φ (-2) s1))))))))) ∧ (v2 = 0 → Φ (-1) s1)))) : hv_CI l (hv_e1 e) 7 m_X9_mend [.ref 0, .int x1, .int x2, .int x3] σ Φ := by
  refine hv_entI (by decide) (Nat.le_of_ble_eq_true rfl) ?_
  show hv_TW l (hv_e1 e) (hv_rm 7) 0 0 m_X9_mend hv_no (hv_ZI (hv_e1 e) Φ) 0 [(0, .ref 0), (1, .int x1), (2, .int x2), (3, .int x3)] [] σ
  refine T_iload_n dX9_mend_0 rfl 1 rfl ?_
  refine T_SI (As := [.int x1]) dX9_mend_1 ms_X9_83 rfl (Nat.le_of_ble_eq_true rfl) (hv_ok1 rfl) rfl h (fun v2 s1 h3 => ?_)
  refine T_if_ne (tgt := 9) dX9_mend_4 (by decide) (fun c7 => ?_) (fun c7 => ?_)
  · refine T_iload_n dX9_mend_9 rfl 2 rfl ?_
    refine T_if_lt (tgt := 29) dX9_mend_10 (by decide) (fun c8 => ?_) (fun c8 => ?_)
    · refine T_bipush (v := (-2)) dX9_mend_29 (by decide) ?_
      exact T_iret dX9_mend_31 rfl ((h3.1 c7).1 c8)
    · refine T_iload_n dX9_mend_13 rfl 2 rfl ?_
      refine T_bipush (v := 8) dX9_mend_14 (by decide) ?_
      refine T_icmp_gt (tgt := 29) dX9_mend_16 (by decide) (fun c9 => ?_) (fun c9 => ?_)
      · refine T_bipush (v := (-2)) dX9_mend_29 (by decide) ?_
        exact T_iret dX9_mend_31 rfl (((h3.1 c7).2 c8).1 c9)
      · refine T_iload_n dX9_mend_19 rfl 3 rfl ?_
        refine T_if_lt (tgt := 29) dX9_mend_20 (by decide) (fun c10 => ?_) (fun c10 => ?_)
        · refine T_bipush (v := (-2)) dX9_mend_29 (by decide) ?_
          exact T_iret dX9_mend_31 rfl ((((h3.1 c7).2 c8).2 c9).1 c10)
        · refine T_iload_n dX9_mend_23 rfl 3 rfl ?_
          refine T_bipush (v := 8) dX9_mend_24 (by decide) ?_
          refine T_icmp_le (tgt := 32) dX9_mend_26 (by decide) (fun c11 => ?_) (fun c11 => ?_)
          · refine T_aload_n dX9_mend_32 rfl 0 rfl ?_
            refine T_get (v := .ref 35) dX9_mend_33 fl_X9_57 hp_0 hs_0 rfl rfl ?_
            refine T_iload_n dX9_mend_36 rfl 1 rfl ?_
            refine T_iload_n dX9_mend_37 rfl 2 rfl ?_
            refine T_iload_n dX9_mend_38 rfl 3 rfl ?_
            refine T_VI (As := [.int x1, .int x2, .int x3]) dX9_mend_39 mv_X9_238 hp_35 hs_35 rfl (Nat.le_of_ble_eq_true rfl) (hv_ok1 rfl) rfl (((((h3.1 c7).2 c8).2 c9).2 c10).1 c11) (fun v5 s4 h6 => ?_)
            exact T_iret dX9_mend_42 rfl h6
          · refine T_bipush (v := (-2)) dX9_mend_29 (by decide) ?_
            exact T_iret dX9_mend_31 rfl (((((h3.1 c7).2 c8).2 c9).2 c10).2 c11)
  · refine T_iconst (v := (-1)) dX9_mend_7 (by decide) ?_
    exact T_iret dX9_mend_8 rfl (h3.2 c7)

set_option maxHeartbeats 4000000 in
set_option maxRecDepth 100000 in
theorem B_X9_late {l : Launch} {e : hv_Ev}  (x1 : Int32) {σ : hv_S} {Φ : Int32 → hv_S → Prop} (h : hv_CI l (hv_e1 e) 0 m_X9_isMatter [.int x1] σ (fun v2 s1 => ((v2 = 0 → Φ (-1) s1) ∧ (¬ v2 = 0 → hv_CI l (hv_e1 e) 6 m_X8_lastOtherwise [.ref 35, .int x1] s1 (fun v5 s4 => Φ v5 s4))))) : hv_CI l (hv_e1 e) 7 m_X9_late [.ref 0, .int x1] σ Φ := by
  refine hv_entI (by decide) (Nat.le_of_ble_eq_true rfl) ?_
  show hv_TW l (hv_e1 e) (hv_rm 7) 0 0 m_X9_late hv_no (hv_ZI (hv_e1 e) Φ) 0 [(0, .ref 0), (1, .int x1)] [] σ
  refine T_iload_n dX9_late_0 rfl 1 rfl ?_
  refine T_SI (As := [.int x1]) dX9_late_1 ms_X9_83 rfl (Nat.le_of_ble_eq_true rfl) (hv_ok1 rfl) rfl h (fun v2 s1 h3 => ?_)
  refine T_if_eq (tgt := 18) dX9_late_4 (by decide) (fun c7 => ?_) (fun c7 => ?_)
  · refine T_iconst (v := (-1)) dX9_late_18 (by decide) ?_
    exact T_iret dX9_late_19 rfl (h3.1 c7)
  · refine T_aload_n dX9_late_7 rfl 0 rfl ?_
    refine T_get (v := .ref 35) dX9_late_8 fl_X9_57 hp_0 hs_0 rfl rfl ?_
    refine T_iload_n dX9_late_11 rfl 1 rfl ?_
    refine T_VI (As := [.int x1]) dX9_late_12 mv_X9_242 hp_35 hs_35 rfl (Nat.le_of_ble_eq_true rfl) (hv_ok1 rfl) rfl (h3.2 c7) (fun v5 s4 h6 => ?_)
    refine T_goto (tgt := 19) dX9_late_15 (by decide) ?_
    exact T_iret dX9_late_19 rfl h6

set_option maxHeartbeats 4000000 in
set_option maxRecDepth 100000 in
theorem B_X9_fewest {l : Launch} {e : hv_Ev}  (x1 : Int32) {σ : hv_S} {Φ : Int32 → hv_S → Prop} (h : hv_CI l (hv_e1 e) 0 m_X9_isMatter [.int x1] σ (fun v2 s1 => ((v2 = 0 → Φ (-1) s1) ∧ (¬ v2 = 0 → hv_CI l (hv_e1 e) 6 m_X8_fewestToWin [.ref 35, .int x1] s1 (fun v5 s4 => Φ v5 s4))))) : hv_CI l (hv_e1 e) 7 m_X9_fewest [.ref 0, .int x1] σ Φ := by
  refine hv_entI (by decide) (Nat.le_of_ble_eq_true rfl) ?_
  show hv_TW l (hv_e1 e) (hv_rm 7) 0 0 m_X9_fewest hv_no (hv_ZI (hv_e1 e) Φ) 0 [(0, .ref 0), (1, .int x1)] [] σ
  refine T_iload_n dX9_fewest_0 rfl 1 rfl ?_
  refine T_SI (As := [.int x1]) dX9_fewest_1 ms_X9_83 rfl (Nat.le_of_ble_eq_true rfl) (hv_ok1 rfl) rfl h (fun v2 s1 h3 => ?_)
  refine T_if_eq (tgt := 18) dX9_fewest_4 (by decide) (fun c7 => ?_) (fun c7 => ?_)
  · refine T_iconst (v := (-1)) dX9_fewest_18 (by decide) ?_
    exact T_iret dX9_fewest_19 rfl (h3.1 c7)
  · refine T_aload_n dX9_fewest_7 rfl 0 rfl ?_
    refine T_get (v := .ref 35) dX9_fewest_8 fl_X9_57 hp_0 hs_0 rfl rfl ?_
    refine T_iload_n dX9_fewest_11 rfl 1 rfl ?_
    refine T_VI (As := [.int x1]) dX9_fewest_12 mv_X9_245 hp_35 hs_35 rfl (Nat.le_of_ble_eq_true rfl) (hv_ok1 rfl) rfl (h3.2 c7) (fun v5 s4 h6 => ?_)
    refine T_goto (tgt := 19) dX9_fewest_15 (by decide) ?_
    exact T_iret dX9_fewest_19 rfl h6

def L_X9_table_60 (l : Launch) (e : hv_Ev)  (Φ : Int32 → hv_S → Prop) (x1 : Int32) (x2 : Int32) (x4 : Int32) (σ : hv_S) : Prop := hv_TW l (hv_e1 e) (hv_rm 7) 0 0 m_X9_table hv_no (hv_ZI (hv_e1 e) Φ) 60 [(0, .ref 0), (1, .int x1), (2, .int x2), (4, .int x4)] [] σ
set_option maxHeartbeats 4000000 in
set_option maxRecDepth 100000 in
theorem B_X9_table_60 {l : Launch} {e : hv_Ev}  (x1 : Int32) (x2 : Int32) (x4 : Int32) {σ : hv_S} {Φ : Int32 → hv_S → Prop} (h : (((σ.1 1 7) ≤ x4 → Φ (σ.1 1 7) σ) ∧ (¬ (σ.1 1 7) ≤ x4 → (((x2.toInt64 + (2 * x4).toInt64) < 0 → Φ (100 + x4) σ) ∧ (¬ (x2.toInt64 + (2 * x4).toInt64) < 0 → (vp_in x1 6 ∧ ((((x2.toInt64 + (2 * x4).toInt64) + 1) < (σ.1 41 x1.toNatClampNeg).toInt64 → hv_CL l (hv_e1 e) 0 m_X7_get [.ref 39, .int x1, .int (x2.toInt64 + (2 * x4).toInt64).toInt32] σ (fun v18 s17 => (vp_in x4 8 ∧ hv_CL l (hv_e1 e) 1 m_X9_lowest [.long (s17.2.1 32 x4.toNatClampNeg), .long (s17.2.1 21 6), .int 0] s17 (fun v21 s20 => ((v18 ≠ v21 → Φ x4 s20) ∧ (v18 = v21 → hv_CL l (hv_e1 e) 0 m_X7_get [.ref 39, .int x1, .int ((x2.toInt64 + (2 * x4).toInt64).toInt32 + 1)] s20 (fun v24 s23 => (vp_in x4 8 ∧ hv_CL l (hv_e1 e) 1 m_X9_lowest [.long (s23.2.1 32 x4.toNatClampNeg), .long (s23.2.1 21 6), .int 1] s23 (fun v27 s26 => ((v24 = v27 → L_X9_table_60 l e Φ x1 x2 (x4 + 1) s26) ∧ (¬ v24 = v27 → Φ x4 s26))))))))))) ∧ (¬ ((x2.toInt64 + (2 * x4).toInt64) + 1) < (σ.1 41 x1.toNatClampNeg).toInt64 → Φ (100 + x4) σ)))))))) : L_X9_table_60 l e Φ x1 x2 x4 σ := by
  show hv_TW l (hv_e1 e) (hv_rm 7) 0 0 m_X9_table hv_no (hv_ZI (hv_e1 e) Φ) 60 [(0, .ref 0), (1, .int x1), (2, .int x2), (4, .int x4)] [] σ
  refine T_iload dX9_table_60 3 rfl ?_
  refine T_aload_n dX9_table_62 rfl 0 rfl ?_
  refine T_get (v := .ref 1) dX9_table_63 fl_X9_14 hp_0 hs_0 rfl rfl ?_
  refine T_get (v := .int (σ.1 1 7)) dX9_table_66 fl_X9_75 hp_1 hs_1 rfl rfl ?_
  refine T_icmp_ge (tgt := 199) dX9_table_69 (by decide) (fun c29 => ?_) (fun c29 => ?_)
  · refine T_aload_n dX9_table_199 rfl 0 rfl ?_
    refine T_get (v := .ref 1) dX9_table_200 fl_X9_14 hp_0 hs_0 rfl rfl ?_
    refine T_get (v := .int (σ.1 1 7)) dX9_table_203 fl_X9_75 hp_1 hs_1 rfl rfl ?_
    exact T_iret dX9_table_206 rfl (h.1 c29)
  · refine T_iload_n dX9_table_72 rfl 2 rfl ?_
    refine T_i2l dX9_table_73 ?_
    refine T_iconst (v := 2) dX9_table_74 (by decide) ?_
    refine T_iload dX9_table_75 3 rfl ?_
    refine T_imul dX9_table_77 ?_
    refine T_i2l dX9_table_78 ?_
    refine T_ladd dX9_table_79 ?_
    refine T_lstore dX9_table_80 (by decide) rfl ?_
    refine T_lload dX9_table_82 0 rfl ?_
    refine T_lconst (v := 0) dX9_table_84 (by decide) ?_
    refine T_lc_lt (tgt := 107) dX9_table_85 dX9_table_86 (by decide) (fun c30 => ?_) (fun c30 => ?_)
    · refine T_bipush (v := 100) dX9_table_107 (by decide) ?_
      refine T_iload dX9_table_109 4 rfl ?_
      refine T_iadd dX9_table_111 ?_
      exact T_iret dX9_table_112 rfl ((h.2 c29).1 c30)
    · refine T_lload dX9_table_89 0 rfl ?_
      refine T_lconst (v := 1) dX9_table_91 (by decide) ?_
      refine T_ladd dX9_table_92 ?_
      refine T_aload_n dX9_table_93 rfl 1 rfl ?_
      refine T_get (v := .ref 39) dX9_table_94 fl_X9_71 hp_0 hs_0 rfl rfl ?_
      refine T_get (v := .ref 41) dX9_table_97 fl_X9_254 hp_39 hs_39 rfl rfl ?_
      refine T_iload_n dX9_table_100 rfl 2 rfl ?_
      refine T_iald dX9_table_101 hp_41 hs_41 ((h.2 c29).2 c30).1 ?_
      refine T_i2l dX9_table_102 ?_
      refine T_lc_lt (tgt := 113) dX9_table_103 dX9_table_104 (by decide) (fun c31 => ?_) (fun c31 => ?_)
      · refine T_lload dX9_table_113 0 rfl ?_
        refine T_l2i dX9_table_115 ?_
        refine T_istore dX9_table_116 (by decide) rfl ?_
        refine T_aload_n dX9_table_118 rfl 2 rfl ?_
        refine T_get (v := .ref 39) dX9_table_119 fl_X9_71 hp_0 hs_0 rfl rfl ?_
        refine T_iload_n dX9_table_122 rfl 3 rfl ?_
        refine T_iload dX9_table_123 0 rfl ?_
        refine T_VL (As := [.int x1, .int (x2.toInt64 + (2 * x4).toInt64).toInt32]) dX9_table_125 mv_X9_257 hp_39 hs_39 rfl (Nat.le_of_ble_eq_true rfl) (hv_ok1 rfl) rfl (((h.2 c29).2 c30).2.1 c31) (fun v18 s17 h19 => ?_)
        refine T_aload_n dX9_table_128 rfl 2 rfl ?_
        refine T_get (v := .ref 21) dX9_table_129 fl_X9_48 hp_0 hs_0 rfl rfl ?_
        refine T_get (v := .ref 32) dX9_table_132 fl_X9_165 hp_21 hs_21 rfl rfl ?_
        refine T_iload dX9_table_135 5 rfl ?_
        refine T_lald dX9_table_137 hp_32 hs_32 h19.1 ?_
        refine T_aload_n dX9_table_138 rfl 2 rfl ?_
        refine T_get (v := .ref 21) dX9_table_139 fl_X9_48 hp_0 hs_0 rfl rfl ?_
        refine T_get (v := .long (s17.2.1 21 6)) dX9_table_142 fl_X9_169 hp_21 hs_21 rfl rfl ?_
        refine T_iconst (v := 0) dX9_table_145 (by decide) ?_
        refine T_SL (As := [.long (s17.2.1 32 x4.toNatClampNeg), .long (s17.2.1 21 6), .int 0]) dX9_table_146 ms_X9_173 rfl (Nat.le_of_ble_eq_true rfl) (hv_ok1 rfl) rfl h19.2 (fun v21 s20 h22 => ?_)
        refine T_lc_ne (tgt := 190) dX9_table_149 dX9_table_150 (by decide) (fun c32 => ?_) (fun c32 => ?_)
        · refine T_iload dX9_table_190 5 rfl ?_
          exact T_iret dX9_table_192 rfl (h22.1 c32)
        · refine T_aload_n dX9_table_153 rfl 2 rfl ?_
          refine T_get (v := .ref 39) dX9_table_154 fl_X9_71 hp_0 hs_0 rfl rfl ?_
          refine T_iload_n dX9_table_157 rfl 3 rfl ?_
          refine T_iload dX9_table_158 0 rfl ?_
          refine T_iconst (v := 1) dX9_table_160 (by decide) ?_
          refine T_iadd dX9_table_161 ?_
          refine T_VL (As := [.int x1, .int ((x2.toInt64 + (2 * x4).toInt64).toInt32 + 1)]) dX9_table_162 mv_X9_257 hp_39 hs_39 rfl (Nat.le_of_ble_eq_true rfl) (hv_ok1 rfl) rfl (h22.2 c32) (fun v24 s23 h25 => ?_)
          refine T_aload_n dX9_table_165 rfl 2 rfl ?_
          refine T_get (v := .ref 21) dX9_table_166 fl_X9_48 hp_0 hs_0 rfl rfl ?_
          refine T_get (v := .ref 32) dX9_table_169 fl_X9_165 hp_21 hs_21 rfl rfl ?_
          refine T_iload dX9_table_172 5 rfl ?_
          refine T_lald dX9_table_174 hp_32 hs_32 h25.1 ?_
          refine T_aload_n dX9_table_175 rfl 2 rfl ?_
          refine T_get (v := .ref 21) dX9_table_176 fl_X9_48 hp_0 hs_0 rfl rfl ?_
          refine T_get (v := .long (s23.2.1 21 6)) dX9_table_179 fl_X9_169 hp_21 hs_21 rfl rfl ?_
          refine T_iconst (v := 1) dX9_table_182 (by decide) ?_
          refine T_SL (As := [.long (s23.2.1 32 x4.toNatClampNeg), .long (s23.2.1 21 6), .int 1]) dX9_table_183 ms_X9_173 rfl (Nat.le_of_ble_eq_true rfl) (hv_ok1 rfl) rfl h25.2 (fun v27 s26 h28 => ?_)
          refine T_lc_eq (tgt := 193) dX9_table_186 dX9_table_187 (by decide) (fun c33 => ?_) (fun c33 => ?_)
          · refine T_iinc (v := (x4 + 1)) dX9_table_193 5 rfl rfl (by decide) rfl ?_
            refine T_goto (tgt := 60) dX9_table_196 (by decide) ?_
            exact T_sub [3, 4, 5, 0] rfl (h28.1 c33)
          · refine T_iload dX9_table_190 5 rfl ?_
            exact T_iret dX9_table_192 rfl (h28.2 c33)
      · refine T_bipush (v := 100) dX9_table_107 (by decide) ?_
        refine T_iload dX9_table_109 4 rfl ?_
        refine T_iadd dX9_table_111 ?_
        exact T_iret dX9_table_112 rfl (((h.2 c29).2 c30).2.2 c31)
set_option maxHeartbeats 4000000 in
set_option maxRecDepth 100000 in
theorem B_X9_table {l : Launch} {e : hv_Ev}  (x1 : Int32) (x2 : Int32) (x3 : Int32) {σ : hv_S} {Φ : Int32 → hv_S → Prop} (h : hv_CI l (hv_e1 e) 0 m_X7_exists [.ref 39, .int x1] σ (fun v2 s1 => ((v2 = 0 → Φ (-1) s1) ∧ (¬ v2 = 0 → hv_CI l (hv_e1 e) 0 m_X9_isMatter [.int x3] s1 (fun v5 s4 => ((v5 ≠ 0 → (vp_in x1 6 ∧ (((s4.1 40 x1.toNatClampNeg) = (-1) → hv_CV l (hv_e1 e) 6 m_X6_reckonNow [.ref 21, .int x3] s4 (fun s7 => L_X9_table_60 l e Φ x1 x2 0 s7)) ∧ (¬ (s4.1 40 x1.toNatClampNeg) = (-1) → (vp_in x1 6 ∧ (((s4.1 40 x1.toNatClampNeg) = 3 → hv_CV l (hv_e1 e) 6 m_X6_reckonNow [.ref 21, .int x3] s4 (fun s10 => L_X9_table_60 l e Φ x1 x2 0 s10)) ∧ (¬ (s4.1 40 x1.toNatClampNeg) = 3 → Φ (-12) s4))))))) ∧ (v5 = 0 → Φ (-1) s4))))))) : hv_CI l (hv_e1 e) 7 m_X9_table [.ref 0, .int x1, .int x2, .int x3] σ Φ := by
  refine hv_entI (by decide) (Nat.le_of_ble_eq_true rfl) ?_
  show hv_TW l (hv_e1 e) (hv_rm 7) 0 0 m_X9_table hv_no (hv_ZI (hv_e1 e) Φ) 0 [(0, .ref 0), (1, .int x1), (2, .int x2), (3, .int x3)] [] σ
  refine T_aload_n dX9_table_0 rfl 0 rfl ?_
  refine T_get (v := .ref 39) dX9_table_1 fl_X9_71 hp_0 hs_0 rfl rfl ?_
  refine T_iload_n dX9_table_4 rfl 1 rfl ?_
  refine T_VI (As := [.int x1]) dX9_table_5 mv_X9_248 hp_39 hs_39 rfl (Nat.le_of_ble_eq_true rfl) (hv_ok1 rfl) rfl h (fun v2 s1 h3 => ?_)
  refine T_if_eq (tgt := 18) dX9_table_8 (by decide) (fun c13 => ?_) (fun c13 => ?_)
  · refine T_iconst (v := (-1)) dX9_table_18 (by decide) ?_
    exact T_iret dX9_table_19 rfl (h3.1 c13)
  · refine T_iload_n dX9_table_11 rfl 3 rfl ?_
    refine T_SI (As := [.int x3]) dX9_table_12 ms_X9_83 rfl (Nat.le_of_ble_eq_true rfl) (hv_ok1 rfl) rfl (h3.2 c13) (fun v5 s4 h6 => ?_)
    refine T_if_ne (tgt := 20) dX9_table_15 (by decide) (fun c14 => ?_) (fun c14 => ?_)
    · refine T_aload_n dX9_table_20 rfl 0 rfl ?_
      refine T_get (v := .ref 39) dX9_table_21 fl_X9_71 hp_0 hs_0 rfl rfl ?_
      refine T_get (v := .ref 40) dX9_table_24 fl_X9_251 hp_39 hs_39 rfl rfl ?_
      refine T_iload_n dX9_table_27 rfl 1 rfl ?_
      refine T_iald dX9_table_28 hp_40 hs_40 (h6.1 c14).1 ?_
      refine T_iconst (v := (-1)) dX9_table_29 (by decide) ?_
      refine T_icmp_eq (tgt := 49) dX9_table_30 (by decide) (fun c15 => ?_) (fun c15 => ?_)
      · refine T_aload_n dX9_table_49 rfl 0 rfl ?_
        refine T_get (v := .ref 21) dX9_table_50 fl_X9_48 hp_0 hs_0 rfl rfl ?_
        refine T_iload_n dX9_table_53 rfl 3 rfl ?_
        refine T_VV (As := [.int x3]) dX9_table_54 mv_X9_162 hp_21 hs_21 rfl (Nat.le_of_ble_eq_true rfl) (hv_ok1 rfl) rfl ((h6.1 c14).2.1 c15) (fun s7 h9 => ?_)
        refine T_iconst (v := 0) dX9_table_57 (by decide) ?_
        refine T_istore dX9_table_58 (by decide) rfl ?_
        exact T_sub [1, 2, 3, 0] rfl h9
      · refine T_aload_n dX9_table_33 rfl 0 rfl ?_
        refine T_get (v := .ref 39) dX9_table_34 fl_X9_71 hp_0 hs_0 rfl rfl ?_
        refine T_get (v := .ref 40) dX9_table_37 fl_X9_251 hp_39 hs_39 rfl rfl ?_
        refine T_iload_n dX9_table_40 rfl 1 rfl ?_
        refine T_iald dX9_table_41 hp_40 hs_40 ((h6.1 c14).2.2 c15).1 ?_
        refine T_iconst (v := 3) dX9_table_42 (by decide) ?_
        refine T_icmp_eq (tgt := 49) dX9_table_43 (by decide) (fun c16 => ?_) (fun c16 => ?_)
        · refine T_aload_n dX9_table_49 rfl 0 rfl ?_
          refine T_get (v := .ref 21) dX9_table_50 fl_X9_48 hp_0 hs_0 rfl rfl ?_
          refine T_iload_n dX9_table_53 rfl 3 rfl ?_
          refine T_VV (As := [.int x3]) dX9_table_54 mv_X9_162 hp_21 hs_21 rfl (Nat.le_of_ble_eq_true rfl) (hv_ok1 rfl) rfl (((h6.1 c14).2.2 c15).2.1 c16) (fun s10 h12 => ?_)
          refine T_iconst (v := 0) dX9_table_57 (by decide) ?_
          refine T_istore dX9_table_58 (by decide) rfl ?_
          exact T_sub [1, 2, 3, 0] rfl h12
        · refine T_bipush (v := (-12)) dX9_table_46 (by decide) ?_
          exact T_iret dX9_table_48 rfl (((h6.1 c14).2.2 c15).2.2 c16)
    · refine T_iconst (v := (-1)) dX9_table_18 (by decide) ?_
      exact T_iret dX9_table_19 rfl (h6.2 c14)

set_option maxHeartbeats 4000000 in
set_option maxRecDepth 100000 in
theorem B_X9_act {l : Launch} {e : hv_Ev}  (x1 : Int32) (x2 : Int32) (x3 : Int32) (x4 : Int32) {σ : hv_S} {Φ : Int32 → hv_S → Prop} (h : hv_CV l (hv_e1 e) 0 m_X0_clear [.ref 37] σ (fun s1 => hv_CI l (hv_e1 e) 0 m_X2_sits [.ref 1, .int x1] s1 (fun v5 s4 => ((v5 = 0 → Φ 0 s4) ∧ (¬ v5 = 0 → hv_CI l (hv_e1 e) 0 m_X9_isMatter [.int x2] s4 (fun v8 s7 => ((v8 = 0 → Φ 0 s7) ∧ (¬ v8 = 0 → ((x3 < 0 → Φ 0 s7) ∧ (¬ x3 < 0 → ((x3 ≤ 2 → hv_CI l (hv_e1 e) 0 m_X9_cell [.int x1, .int x2] s7 (fun v11 s10 => (vp_in v11 24 ∧ hv_CI l (hv_e1 e) 5 m_X0_run [.ref 37, .int (s10.1 4 v11.toNatClampNeg), .int x1, .int x2, .int x3, .int x4] s10 (fun v14 s13 => Φ v14 s13)))) ∧ (¬ x3 ≤ 2 → Φ 0 s7)))))))))))) : hv_CI l (hv_e1 e) 6 m_X9_act [.ref 0, .int x1, .int x2, .int x3, .int x4] σ Φ := by
  refine hv_entI (by decide) (Nat.le_of_ble_eq_true rfl) ?_
  show hv_TW l (hv_e1 e) (hv_rm 6) 0 0 m_X9_act hv_no (hv_ZI (hv_e1 e) Φ) 0 [(0, .ref 0), (1, .int x1), (2, .int x2), (3, .int x3), (4, .int x4)] [] σ
  refine T_aload_n dX9_act_0 rfl 0 rfl ?_
  refine T_get (v := .ref 37) dX9_act_1 fl_X9_64 hp_0 hs_0 rfl rfl ?_
  refine T_VV (As := []) dX9_act_4 mv_X9_261 hp_37 hs_37 rfl (Nat.le_of_ble_eq_true rfl) (hv_ok1 rfl) rfl h (fun s1 h3 => ?_)
  refine T_aload_n dX9_act_7 rfl 0 rfl ?_
  refine T_get (v := .ref 1) dX9_act_8 fl_X9_14 hp_0 hs_0 rfl rfl ?_
  refine T_iload_n dX9_act_11 rfl 1 rfl ?_
  refine T_VI (As := [.int x1]) dX9_act_12 mv_X9_79 hp_1 hs_1 rfl (Nat.le_of_ble_eq_true rfl) (hv_ok1 rfl) rfl h3 (fun v5 s4 h6 => ?_)
  refine T_if_eq (tgt := 34) dX9_act_15 (by decide) (fun c16 => ?_) (fun c16 => ?_)
  · refine T_iconst (v := 0) dX9_act_34 (by decide) ?_
    exact T_iret dX9_act_35 rfl (h6.1 c16)
  · refine T_iload_n dX9_act_18 rfl 2 rfl ?_
    refine T_SI (As := [.int x2]) dX9_act_19 ms_X9_83 rfl (Nat.le_of_ble_eq_true rfl) (hv_ok1 rfl) rfl (h6.2 c16) (fun v8 s7 h9 => ?_)
    refine T_if_eq (tgt := 34) dX9_act_22 (by decide) (fun c17 => ?_) (fun c17 => ?_)
    · refine T_iconst (v := 0) dX9_act_34 (by decide) ?_
      exact T_iret dX9_act_35 rfl (h9.1 c17)
    · refine T_iload_n dX9_act_25 rfl 3 rfl ?_
      refine T_if_lt (tgt := 34) dX9_act_26 (by decide) (fun c18 => ?_) (fun c18 => ?_)
      · refine T_iconst (v := 0) dX9_act_34 (by decide) ?_
        exact T_iret dX9_act_35 rfl ((h9.2 c17).1 c18)
      · refine T_iload_n dX9_act_29 rfl 3 rfl ?_
        refine T_iconst (v := 2) dX9_act_30 (by decide) ?_
        refine T_icmp_le (tgt := 36) dX9_act_31 (by decide) (fun c19 => ?_) (fun c19 => ?_)
        · refine T_aload_n dX9_act_36 rfl 0 rfl ?_
          refine T_get (v := .ref 37) dX9_act_37 fl_X9_64 hp_0 hs_0 rfl rfl ?_
          refine T_aload_n dX9_act_40 rfl 0 rfl ?_
          refine T_get (v := .ref 1) dX9_act_41 fl_X9_14 hp_0 hs_0 rfl rfl ?_
          refine T_get (v := .ref 4) dX9_act_44 fl_X9_115 hp_1 hs_1 rfl rfl ?_
          refine T_iload_n dX9_act_47 rfl 1 rfl ?_
          refine T_iload_n dX9_act_48 rfl 2 rfl ?_
          refine T_SI (As := [.int x1, .int x2]) dX9_act_49 ms_X9_94 rfl (Nat.le_of_ble_eq_true rfl) (hv_ok1 rfl) rfl (((h9.2 c17).2 c18).1 c19) (fun v11 s10 h12 => ?_)
          refine T_iald dX9_act_52 hp_4 hs_4 h12.1 ?_
          refine T_iload_n dX9_act_53 rfl 1 rfl ?_
          refine T_iload_n dX9_act_54 rfl 2 rfl ?_
          refine T_iload_n dX9_act_55 rfl 3 rfl ?_
          refine T_iload dX9_act_56 4 rfl ?_
          refine T_VI (As := [.int (s10.1 4 v11.toNatClampNeg), .int x1, .int x2, .int x3, .int x4]) dX9_act_58 mv_X9_264 hp_37 hs_37 rfl (Nat.le_of_ble_eq_true rfl) (hv_ok1 rfl) rfl h12.2 (fun v14 s13 h15 => ?_)
          exact T_iret dX9_act_61 rfl h15
        · refine T_iconst (v := 0) dX9_act_34 (by decide) ?_
          exact T_iret dX9_act_35 rfl (((h9.2 c17).2 c18).2 c19)

set_option maxHeartbeats 4000000 in
set_option maxRecDepth 100000 in
theorem B_X9_trace {l : Launch} {e : hv_Ev}  (x1 : Int32) {σ : hv_S} {Φ : Int32 → hv_S → Prop} (h : ((x1 < 0 → Φ (-1) σ) ∧ (¬ x1 < 0 → hv_CI l (hv_e1 e) 1 m_X0_kept [.ref 37] σ (fun v2 s1 => ((x1 < v2 → (vp_in x1 20 ∧ Φ (s1.1 38 x1.toNatClampNeg) s1)) ∧ (¬ x1 < v2 → Φ (-1) s1)))))) : hv_CI l (hv_e1 e) 2 m_X9_trace [.ref 0, .int x1] σ Φ := by
  refine hv_entI (by decide) (Nat.le_of_ble_eq_true rfl) ?_
  show hv_TW l (hv_e1 e) (hv_rm 2) 0 0 m_X9_trace hv_no (hv_ZI (hv_e1 e) Φ) 0 [(0, .ref 0), (1, .int x1)] [] σ
  refine T_iload_n dX9_trace_0 rfl 1 rfl ?_
  refine T_if_lt (tgt := 15) dX9_trace_1 (by decide) (fun c4 => ?_) (fun c4 => ?_)
  · refine T_iconst (v := (-1)) dX9_trace_15 (by decide) ?_
    refine T_goto (tgt := 28) dX9_trace_16 (by decide) ?_
    exact T_iret dX9_trace_28 rfl (h.1 c4)
  · refine T_iload_n dX9_trace_4 rfl 1 rfl ?_
    refine T_aload_n dX9_trace_5 rfl 0 rfl ?_
    refine T_get (v := .ref 37) dX9_trace_6 fl_X9_64 hp_0 hs_0 rfl rfl ?_
    refine T_VI (As := []) dX9_trace_9 mv_X9_267 hp_37 hs_37 rfl (Nat.le_of_ble_eq_true rfl) (hv_ok1 rfl) rfl (h.2 c4) (fun v2 s1 h3 => ?_)
    refine T_icmp_lt (tgt := 19) dX9_trace_12 (by decide) (fun c5 => ?_) (fun c5 => ?_)
    · refine T_aload_n dX9_trace_19 rfl 0 rfl ?_
      refine T_get (v := .ref 37) dX9_trace_20 fl_X9_64 hp_0 hs_0 rfl rfl ?_
      refine T_get (v := .ref 38) dX9_trace_23 fl_X9_270 hp_37 hs_37 rfl rfl ?_
      refine T_iload_n dX9_trace_26 rfl 1 rfl ?_
      refine T_iald dX9_trace_27 hp_38 hs_38 (h3.1 c5).1 ?_
      exact T_iret dX9_trace_28 rfl ((h3.1 c5).2)
    · refine T_iconst (v := (-1)) dX9_trace_15 (by decide) ?_
      refine T_goto (tgt := 28) dX9_trace_16 (by decide) ?_
      exact T_iret dX9_trace_28 rfl (h3.2 c5)

def L_X9_taken_69 (l : Launch) (e : hv_Ev)  (Φ : Int32 → hv_S → Prop) (x4 : Int32) (σ : hv_S) : Prop := hv_TW l (hv_e1 e) (hv_rm 1) 0 0 m_X9_taken hv_no (hv_ZI (hv_e1 e) Φ) 69 [(4, .int x4)] [] σ
set_option maxHeartbeats 4000000 in
set_option maxRecDepth 100000 in
theorem B_X9_taken_69 {l : Launch} {e : hv_Ev}  (x4 : Int32) {σ : hv_S} {Φ : Int32 → hv_S → Prop} (h : Φ x4 σ) : L_X9_taken_69 l e Φ x4 σ := by
  show hv_TW l (hv_e1 e) (hv_rm 1) 0 0 m_X9_taken hv_no (hv_ZI (hv_e1 e) Φ) 69 [(4, .int x4)] [] σ
  refine T_iconst (v := 1) dX9_taken_69 (by decide) ?_
  refine T_goto (tgt := 74) dX9_taken_70 (by decide) ?_
  refine T_istore dX9_taken_74 (by decide) rfl ?_
  refine T_iload dX9_taken_76 0 rfl ?_
  refine T_if_eq (tgt := 86) dX9_taken_78 (by decide) (fun q => absurd q (by decide)) (fun _ => ?_)
  refine T_iload dX9_taken_81 1 rfl ?_
  refine T_goto (tgt := 88) dX9_taken_83 (by decide) ?_
  exact T_iret dX9_taken_88 rfl h
set_option maxHeartbeats 4000000 in
set_option maxRecDepth 100000 in
theorem B_X9_taken {l : Launch} {e : hv_Ev}  (x1 : Int32) (x2 : Int32) (x3 : Int32) {σ : hv_S} {Φ : Int32 → hv_S → Prop} (h : ((x3 < 0 → Φ (-2) σ) ∧ (¬ x3 < 0 → ((x3 ≤ 5 → hv_CI l (hv_e1 e) 0 m_X2_sits [.ref 1, .int x1] σ (fun v2 s1 => ((v2 = 0 → Φ (-11) s1) ∧ (¬ v2 = 0 → hv_CI l (hv_e1 e) 0 m_X9_isMatter [.int x2] s1 (fun v5 s4 => ((v5 ≠ 0 → hv_CI l (hv_e1 e) 0 m_X9_cell [.int x1, .int x2] s4 (fun v8 s7 => (vp_in v8 24 ∧ ((x3 = 0 → L_X9_taken_69 l e Φ (s7.1 4 v8.toNatClampNeg) s7) ∧ (¬ x3 = 0 → ((x3 = (s7.1 4 v8.toNatClampNeg) → L_X9_taken_69 l e Φ (s7.1 4 v8.toNatClampNeg) s7) ∧ (¬ x3 = (s7.1 4 v8.toNatClampNeg) → ((x3 ≠ 2 → Φ (-12) s7) ∧ (x3 = 2 → (((s7.1 4 v8.toNatClampNeg) ≤ 2 → Φ (-12) s7) ∧ (¬ (s7.1 4 v8.toNatClampNeg) ≤ 2 → L_X9_taken_69 l e Φ (s7.1 4 v8.toNatClampNeg) s7))))))))))) ∧ (v5 = 0 → Φ (-11) s4))))))) ∧ (¬ x3 ≤ 5 → Φ (-2) σ))))) : hv_CI l (hv_e1 e) 1 m_X9_taken [.ref 0, .int x1, .int x2, .int x3] σ Φ := by
  refine hv_entI (by decide) (Nat.le_of_ble_eq_true rfl) ?_
  show hv_TW l (hv_e1 e) (hv_rm 1) 0 0 m_X9_taken hv_no (hv_ZI (hv_e1 e) Φ) 0 [(0, .ref 0), (1, .int x1), (2, .int x2), (3, .int x3)] [] σ
  refine T_iload_n dX9_taken_0 rfl 3 rfl ?_
  refine T_if_lt (tgt := 9) dX9_taken_1 (by decide) (fun c10 => ?_) (fun c10 => ?_)
  · refine T_bipush (v := (-2)) dX9_taken_9 (by decide) ?_
    exact T_iret dX9_taken_11 rfl (h.1 c10)
  · refine T_iload_n dX9_taken_4 rfl 3 rfl ?_
    refine T_iconst (v := 5) dX9_taken_5 (by decide) ?_
    refine T_icmp_le (tgt := 12) dX9_taken_6 (by decide) (fun c11 => ?_) (fun c11 => ?_)
    · refine T_aload_n dX9_taken_12 rfl 0 rfl ?_
      refine T_get (v := .ref 1) dX9_taken_13 fl_X9_14 hp_0 hs_0 rfl rfl ?_
      refine T_iload_n dX9_taken_16 rfl 1 rfl ?_
      refine T_VI (As := [.int x1]) dX9_taken_17 mv_X9_79 hp_1 hs_1 rfl (Nat.le_of_ble_eq_true rfl) (hv_ok1 rfl) rfl ((h.2 c10).1 c11) (fun v2 s1 h3 => ?_)
      refine T_if_eq (tgt := 30) dX9_taken_20 (by decide) (fun c12 => ?_) (fun c12 => ?_)
      · refine T_bipush (v := (-11)) dX9_taken_30 (by decide) ?_
        exact T_iret dX9_taken_32 rfl (h3.1 c12)
      · refine T_iload_n dX9_taken_23 rfl 2 rfl ?_
        refine T_SI (As := [.int x2]) dX9_taken_24 ms_X9_83 rfl (Nat.le_of_ble_eq_true rfl) (hv_ok1 rfl) rfl (h3.2 c12) (fun v5 s4 h6 => ?_)
        refine T_if_ne (tgt := 33) dX9_taken_27 (by decide) (fun c13 => ?_) (fun c13 => ?_)
        · refine T_aload_n dX9_taken_33 rfl 0 rfl ?_
          refine T_get (v := .ref 1) dX9_taken_34 fl_X9_14 hp_0 hs_0 rfl rfl ?_
          refine T_get (v := .ref 4) dX9_taken_37 fl_X9_115 hp_1 hs_1 rfl rfl ?_
          refine T_iload_n dX9_taken_40 rfl 1 rfl ?_
          refine T_iload_n dX9_taken_41 rfl 2 rfl ?_
          refine T_SI (As := [.int x1, .int x2]) dX9_taken_42 ms_X9_94 rfl (Nat.le_of_ble_eq_true rfl) (hv_ok1 rfl) rfl (h6.1 c13) (fun v8 s7 h9 => ?_)
          refine T_iald dX9_taken_45 hp_4 hs_4 h9.1 ?_
          refine T_istore dX9_taken_46 (by decide) rfl ?_
          refine T_iload_n dX9_taken_48 rfl 4 rfl ?_
          refine T_if_eq (tgt := 69) dX9_taken_49 (by decide) (fun c14 => ?_) (fun c14 => ?_)
          · exact T_sub [0] rfl (h9.2.1 c14)
          · refine T_iload_n dX9_taken_52 rfl 4 rfl ?_
            refine T_iload dX9_taken_53 0 rfl ?_
            refine T_icmp_eq (tgt := 69) dX9_taken_55 (by decide) (fun c15 => ?_) (fun c15 => ?_)
            · exact T_sub [0] rfl ((h9.2.2 c14).1 c15)
            · refine T_iload_n dX9_taken_58 rfl 4 rfl ?_
              refine T_iconst (v := 2) dX9_taken_59 (by decide) ?_
              refine T_icmp_ne (tgt := 73) dX9_taken_60 (by decide) (fun c16 => ?_) (fun c16 => ?_)
              · refine T_iconst (v := 0) dX9_taken_73 (by decide) ?_
                refine T_istore dX9_taken_74 (by decide) rfl ?_
                refine T_iload dX9_taken_76 0 rfl ?_
                refine T_if_eq (tgt := 86) dX9_taken_78 (by decide) (fun _ => ?_) (fun q => absurd q (by decide))
                refine T_bipush (v := (-12)) dX9_taken_86 (by decide) ?_
                exact T_iret dX9_taken_88 rfl (((h9.2.2 c14).2 c15).1 c16)
              · refine T_iload dX9_taken_63 0 rfl ?_
                refine T_iconst (v := 2) dX9_taken_65 (by decide) ?_
                refine T_icmp_le (tgt := 73) dX9_taken_66 (by decide) (fun c17 => ?_) (fun c17 => ?_)
                · refine T_iconst (v := 0) dX9_taken_73 (by decide) ?_
                  refine T_istore dX9_taken_74 (by decide) rfl ?_
                  refine T_iload dX9_taken_76 0 rfl ?_
                  refine T_if_eq (tgt := 86) dX9_taken_78 (by decide) (fun _ => ?_) (fun q => absurd q (by decide))
                  refine T_bipush (v := (-12)) dX9_taken_86 (by decide) ?_
                  exact T_iret dX9_taken_88 rfl ((((h9.2.2 c14).2 c15).2 c16).1 c17)
                · exact T_sub [0] rfl ((((h9.2.2 c14).2 c15).2 c16).2 c17)
        · refine T_bipush (v := (-11)) dX9_taken_30 (by decide) ?_
          exact T_iret dX9_taken_32 rfl (h6.2 c13)
    · refine T_bipush (v := (-2)) dX9_taken_9 (by decide) ?_
      exact T_iret dX9_taken_11 rfl ((h.2 c10).2 c11)

set_option maxHeartbeats 4000000 in
set_option maxRecDepth 100000 in
theorem B_X9_count {l : Launch} {e : hv_Ev}  (x1 : Int32) {σ : hv_S} {Φ : Int32 → hv_S → Prop} (h : ((x1 = 0 → Φ (σ.1 1 7) σ) ∧ (x1 = 1 → Φ (σ.1 15 4) σ) ∧ (x1 = 2 → Φ (σ.1 9 1) σ) ∧ (x1 = 3 → Φ (σ.1 1 8) σ) ∧ (x1 = 4 → Φ (σ.1 37 1) σ) ∧ (¬ x1 = 0 → ¬ x1 = 1 → ¬ x1 = 2 → ¬ x1 = 3 → ¬ x1 = 4 → Φ (-2) σ))) : hv_CI l (hv_e1 e) 0 m_X9_count [.ref 0, .int x1] σ Φ := by
  refine hv_entI (by decide) (Nat.le_of_ble_eq_true rfl) ?_
  show hv_TW l (hv_e1 e) (hv_rm 0) 0 0 m_X9_count hv_no (hv_ZI (hv_e1 e) Φ) 0 [(0, .ref 0), (1, .int x1)] [] σ
  refine T_iload_n dX9_count_0 rfl 1 rfl ?_
  by_cases c1 : x1 = 0
  · refine T_tableIn (off := 35) (tgt := 36) dX9_count_1 (by rw [c1]; decide) (by rw [c1]; decide) (by rw [c1]; rfl) (by decide) ?_
    refine T_aload_n dX9_count_36 rfl 0 rfl ?_
    refine T_get (v := .ref 1) dX9_count_37 fl_X9_14 hp_0 hs_0 rfl rfl ?_
    refine T_get (v := .int (σ.1 1 7)) dX9_count_40 fl_X9_75 hp_1 hs_1 rfl rfl ?_
    exact T_iret dX9_count_43 rfl (h.1 c1)
  · skip
    by_cases c2 : x1 = 1
    · refine T_tableIn (off := 43) (tgt := 44) dX9_count_1 (by rw [c2]; decide) (by rw [c2]; decide) (by rw [c2]; rfl) (by decide) ?_
      refine T_aload_n dX9_count_44 rfl 0 rfl ?_
      refine T_get (v := .ref 15) dX9_count_45 fl_X9_30 hp_0 hs_0 rfl rfl ?_
      refine T_get (v := .int (σ.1 15 4)) dX9_count_48 fl_X9_145 hp_15 hs_15 rfl rfl ?_
      exact T_iret dX9_count_51 rfl (h.2.1 c2)
    · skip
      by_cases c3 : x1 = 2
      · refine T_tableIn (off := 51) (tgt := 52) dX9_count_1 (by rw [c3]; decide) (by rw [c3]; decide) (by rw [c3]; rfl) (by decide) ?_
        refine T_aload_n dX9_count_52 rfl 0 rfl ?_
        refine T_get (v := .ref 9) dX9_count_53 fl_X9_21 hp_0 hs_0 rfl rfl ?_
        refine T_get (v := .int (σ.1 9 1)) dX9_count_56 fl_X9_127 hp_9 hs_9 rfl rfl ?_
        exact T_iret dX9_count_59 rfl (h.2.2.1 c3)
      · skip
        by_cases c4 : x1 = 3
        · refine T_tableIn (off := 59) (tgt := 60) dX9_count_1 (by rw [c4]; decide) (by rw [c4]; decide) (by rw [c4]; rfl) (by decide) ?_
          refine T_aload_n dX9_count_60 rfl 0 rfl ?_
          refine T_get (v := .ref 1) dX9_count_61 fl_X9_14 hp_0 hs_0 rfl rfl ?_
          refine T_get (v := .int (σ.1 1 8)) dX9_count_64 fl_X9_112 hp_1 hs_1 rfl rfl ?_
          exact T_iret dX9_count_67 rfl (h.2.2.2.1 c4)
        · skip
          by_cases c5 : x1 = 4
          · refine T_tableIn (off := 67) (tgt := 68) dX9_count_1 (by rw [c5]; decide) (by rw [c5]; decide) (by rw [c5]; rfl) (by decide) ?_
            refine T_aload_n dX9_count_68 rfl 0 rfl ?_
            refine T_get (v := .ref 37) dX9_count_69 fl_X9_64 hp_0 hs_0 rfl rfl ?_
            refine T_get (v := .int (σ.1 37 1)) dX9_count_72 fl_X9_273 hp_37 hs_37 rfl rfl ?_
            exact T_iret dX9_count_75 rfl (h.2.2.2.2.1 c5)
          · skip
            refine T_tableOut (tgt := 76) dX9_count_1 (by have q0 := lv_neT c1 (a := 0) (by decide); have q1 := lv_neT c2 (a := 1) (by decide); have q2 := lv_neT c3 (a := 2) (by decide); have q3 := lv_neT c4 (a := 3) (by decide); have q4 := lv_neT c5 (a := 4) (by decide); omega) (by decide) ?_
            refine T_bipush (v := (-2)) dX9_count_76 (by decide) ?_
            exact T_iret dX9_count_78 rfl (h.2.2.2.2.2 c1 c2 c3 c4 c5)

set_option maxHeartbeats 4000000 in
set_option maxRecDepth 100000 in
theorem B_X9_tape {l : Launch} {e : hv_Ev}  (x1 : Int32) (x2 : Int32) (x3 : Int32) {σ : hv_S} {Φ : Int32 → hv_S → Prop} (h : hv_CI l (hv_e1 e) 0 m_X7_exists [.ref 39, .int x1] σ (fun v2 s1 => ((v2 ≠ 0 → ((x2 ≠ (-1) → ((x2 < (-1) → Φ (-2) s1) ∧ (¬ x2 < (-1) → ((4 < x2 → Φ (-2) s1) ∧ (¬ 4 < x2 → ((x3 ≤ 60 → ((0 ≤ x3 → hv_CV l (hv_e1 e) 0 m_X7_reset [.ref 39, .int x1, .int x2, .int x3] s1 (fun s4 => Φ 1 s4)) ∧ (¬ 0 ≤ x3 → Φ (-14) s1))) ∧ (¬ x3 ≤ 60 → Φ (-2) s1))))))) ∧ (x2 = (-1) → hv_CV l (hv_e1 e) 0 m_X7_reset [.ref 39, .int x1, .int x2, .int 0] s1 (fun s7 => Φ 1 s7)))) ∧ (v2 = 0 → Φ (-1) s1)))) : hv_CI l (hv_e1 e) 1 m_X9_tape [.ref 0, .int x1, .int x2, .int x3] σ Φ := by
  refine hv_entI (by decide) (Nat.le_of_ble_eq_true rfl) ?_
  show hv_TW l (hv_e1 e) (hv_rm 1) 0 0 m_X9_tape hv_no (hv_ZI (hv_e1 e) Φ) 0 [(0, .ref 0), (1, .int x1), (2, .int x2), (3, .int x3)] [] σ
  refine T_aload_n dX9_tape_0 rfl 0 rfl ?_
  refine T_get (v := .ref 39) dX9_tape_1 fl_X9_71 hp_0 hs_0 rfl rfl ?_
  refine T_iload_n dX9_tape_4 rfl 1 rfl ?_
  refine T_VI (As := [.int x1]) dX9_tape_5 mv_X9_248 hp_39 hs_39 rfl (Nat.le_of_ble_eq_true rfl) (hv_ok1 rfl) rfl h (fun v2 s1 h3 => ?_)
  refine T_if_ne (tgt := 13) dX9_tape_8 (by decide) (fun c10 => ?_) (fun c10 => ?_)
  · refine T_iload_n dX9_tape_13 rfl 2 rfl ?_
    refine T_iconst (v := (-1)) dX9_tape_14 (by decide) ?_
    refine T_icmp_ne (tgt := 30) dX9_tape_15 (by decide) (fun c11 => ?_) (fun c11 => ?_)
    · refine T_iload_n dX9_tape_30 rfl 2 rfl ?_
      refine T_iconst (v := (-1)) dX9_tape_31 (by decide) ?_
      refine T_icmp_lt (tgt := 46) dX9_tape_32 (by decide) (fun c12 => ?_) (fun c12 => ?_)
      · refine T_bipush (v := (-2)) dX9_tape_46 (by decide) ?_
        exact T_iret dX9_tape_48 rfl (((h3.1 c10).1 c11).1 c12)
      · refine T_iload_n dX9_tape_35 rfl 2 rfl ?_
        refine T_iconst (v := 4) dX9_tape_36 (by decide) ?_
        refine T_icmp_gt (tgt := 46) dX9_tape_37 (by decide) (fun c13 => ?_) (fun c13 => ?_)
        · refine T_bipush (v := (-2)) dX9_tape_46 (by decide) ?_
          exact T_iret dX9_tape_48 rfl ((((h3.1 c10).1 c11).2 c12).1 c13)
        · refine T_iload_n dX9_tape_40 rfl 3 rfl ?_
          refine T_bipush (v := 60) dX9_tape_41 (by decide) ?_
          refine T_icmp_le (tgt := 49) dX9_tape_43 (by decide) (fun c14 => ?_) (fun c14 => ?_)
          · refine T_iload_n dX9_tape_49 rfl 3 rfl ?_
            refine T_if_ge (tgt := 56) dX9_tape_50 (by decide) (fun c15 => ?_) (fun c15 => ?_)
            · refine T_aload_n dX9_tape_56 rfl 0 rfl ?_
              refine T_get (v := .ref 39) dX9_tape_57 fl_X9_71 hp_0 hs_0 rfl rfl ?_
              refine T_iload_n dX9_tape_60 rfl 1 rfl ?_
              refine T_iload_n dX9_tape_61 rfl 2 rfl ?_
              refine T_iload_n dX9_tape_62 rfl 3 rfl ?_
              refine T_VV (As := [.int x1, .int x2, .int x3]) dX9_tape_63 mv_X9_276 hp_39 hs_39 rfl (Nat.le_of_ble_eq_true rfl) (hv_ok1 rfl) rfl ((((((h3.1 c10).1 c11).2 c12).2 c13).1 c14).1 c15) (fun s4 h6 => ?_)
              refine T_iconst (v := 1) dX9_tape_66 (by decide) ?_
              exact T_iret dX9_tape_67 rfl h6
            · refine T_bipush (v := (-14)) dX9_tape_53 (by decide) ?_
              exact T_iret dX9_tape_55 rfl ((((((h3.1 c10).1 c11).2 c12).2 c13).1 c14).2 c15)
          · refine T_bipush (v := (-2)) dX9_tape_46 (by decide) ?_
            exact T_iret dX9_tape_48 rfl (((((h3.1 c10).1 c11).2 c12).2 c13).2 c14)
    · refine T_aload_n dX9_tape_18 rfl 0 rfl ?_
      refine T_get (v := .ref 39) dX9_tape_19 fl_X9_71 hp_0 hs_0 rfl rfl ?_
      refine T_iload_n dX9_tape_22 rfl 1 rfl ?_
      refine T_iload_n dX9_tape_23 rfl 2 rfl ?_
      refine T_iconst (v := 0) dX9_tape_24 (by decide) ?_
      refine T_VV (As := [.int x1, .int x2, .int 0]) dX9_tape_25 mv_X9_276 hp_39 hs_39 rfl (Nat.le_of_ble_eq_true rfl) (hv_ok1 rfl) rfl ((h3.1 c10).2 c11) (fun s7 h9 => ?_)
      refine T_iconst (v := 1) dX9_tape_28 (by decide) ?_
      exact T_iret dX9_tape_29 rfl h9
  · refine T_iconst (v := (-1)) dX9_tape_11 (by decide) ?_
    exact T_iret dX9_tape_12 rfl (h3.2 c10)

set_option maxHeartbeats 4000000 in
set_option maxRecDepth 100000 in
theorem B_X9_item {l : Launch} {e : hv_Ev}  (x1 : Int32) (x2 : Int32) (y3 : Int64) {σ : hv_S} {Φ : Int32 → hv_S → Prop} (h : hv_CI l (hv_e1 e) 0 m_X7_exists [.ref 39, .int x1] σ (fun v2 s1 => ((v2 ≠ 0 → (vp_in x1 6 ∧ (((s1.1 40 x1.toNatClampNeg) ≠ (-1) → ((x2 < 0 → Φ (-13) s1) ∧ (¬ x2 < 0 → (vp_in x1 6 ∧ ((x2 < (s1.1 41 x1.toNatClampNeg) → hv_CV l (hv_e1 e) 1 m_X7_put [.ref 39, .int x1, .int x2, .long y3] s1 (fun s4 => Φ 1 s4)) ∧ (¬ x2 < (s1.1 41 x1.toNatClampNeg) → Φ (-13) s1)))))) ∧ ((s1.1 40 x1.toNatClampNeg) = (-1) → Φ (-11) s1)))) ∧ (v2 = 0 → Φ (-1) s1)))) : hv_CI l (hv_e1 e) 2 m_X9_item [.ref 0, .int x1, .int x2, .long y3] σ Φ := by
  refine hv_entI (by decide) (Nat.le_of_ble_eq_true rfl) ?_
  show hv_TW l (hv_e1 e) (hv_rm 2) 0 0 m_X9_item hv_no (hv_ZI (hv_e1 e) Φ) 0 [(0, .ref 0), (1, .int x1), (2, .int x2), (3, .long y3)] [] σ
  refine T_aload_n dX9_item_0 rfl 0 rfl ?_
  refine T_get (v := .ref 39) dX9_item_1 fl_X9_71 hp_0 hs_0 rfl rfl ?_
  refine T_iload_n dX9_item_4 rfl 1 rfl ?_
  refine T_VI (As := [.int x1]) dX9_item_5 mv_X9_248 hp_39 hs_39 rfl (Nat.le_of_ble_eq_true rfl) (hv_ok1 rfl) rfl h (fun v2 s1 h3 => ?_)
  refine T_if_ne (tgt := 13) dX9_item_8 (by decide) (fun c7 => ?_) (fun c7 => ?_)
  · refine T_aload_n dX9_item_13 rfl 0 rfl ?_
    refine T_get (v := .ref 39) dX9_item_14 fl_X9_71 hp_0 hs_0 rfl rfl ?_
    refine T_get (v := .ref 40) dX9_item_17 fl_X9_251 hp_39 hs_39 rfl rfl ?_
    refine T_iload_n dX9_item_20 rfl 1 rfl ?_
    refine T_iald dX9_item_21 hp_40 hs_40 (h3.1 c7).1 ?_
    refine T_iconst (v := (-1)) dX9_item_22 (by decide) ?_
    refine T_icmp_ne (tgt := 29) dX9_item_23 (by decide) (fun c8 => ?_) (fun c8 => ?_)
    · refine T_iload_n dX9_item_29 rfl 2 rfl ?_
      refine T_if_lt (tgt := 46) dX9_item_30 (by decide) (fun c9 => ?_) (fun c9 => ?_)
      · refine T_bipush (v := (-13)) dX9_item_46 (by decide) ?_
        exact T_iret dX9_item_48 rfl (((h3.1 c7).2.1 c8).1 c9)
      · refine T_iload_n dX9_item_33 rfl 2 rfl ?_
        refine T_aload_n dX9_item_34 rfl 0 rfl ?_
        refine T_get (v := .ref 39) dX9_item_35 fl_X9_71 hp_0 hs_0 rfl rfl ?_
        refine T_get (v := .ref 41) dX9_item_38 fl_X9_254 hp_39 hs_39 rfl rfl ?_
        refine T_iload_n dX9_item_41 rfl 1 rfl ?_
        refine T_iald dX9_item_42 hp_41 hs_41 (((h3.1 c7).2.1 c8).2 c9).1 ?_
        refine T_icmp_lt (tgt := 49) dX9_item_43 (by decide) (fun c10 => ?_) (fun c10 => ?_)
        · refine T_aload_n dX9_item_49 rfl 0 rfl ?_
          refine T_get (v := .ref 39) dX9_item_50 fl_X9_71 hp_0 hs_0 rfl rfl ?_
          refine T_iload_n dX9_item_53 rfl 1 rfl ?_
          refine T_iload_n dX9_item_54 rfl 2 rfl ?_
          refine T_lload_n dX9_item_55 rfl 3 rfl ?_
          refine T_VV (As := [.int x1, .int x2, .long y3]) dX9_item_56 mv_X9_280 hp_39 hs_39 rfl (Nat.le_of_ble_eq_true rfl) (hv_ok1 rfl) rfl ((((h3.1 c7).2.1 c8).2 c9).2.1 c10) (fun s4 h6 => ?_)
          refine T_iconst (v := 1) dX9_item_59 (by decide) ?_
          exact T_iret dX9_item_60 rfl h6
        · refine T_bipush (v := (-13)) dX9_item_46 (by decide) ?_
          exact T_iret dX9_item_48 rfl ((((h3.1 c7).2.1 c8).2 c9).2.2 c10)
    · refine T_bipush (v := (-11)) dX9_item_26 (by decide) ?_
      exact T_iret dX9_item_28 rfl ((h3.1 c7).2.2 c8)
  · refine T_iconst (v := (-1)) dX9_item_11 (by decide) ?_
    exact T_iret dX9_item_12 rfl (h3.2 c7)

set_option maxHeartbeats 4000000 in
set_option maxRecDepth 100000 in
theorem B_X9_read {l : Launch} {e : hv_Ev}  (x1 : Int32) (x2 : Int32) {σ : hv_S} {Φ : Int64 → hv_S → Prop} (h : hv_CI l (hv_e1 e) 0 m_X7_exists [.ref 39, .int x1] σ (fun v2 s1 => ((v2 = 0 → Φ (-9223372036854775808) s1) ∧ (¬ v2 = 0 → ((x2 < 0 → Φ (-9223372036854775808) s1) ∧ (¬ x2 < 0 → (vp_in x1 6 ∧ ((x2 < (s1.1 41 x1.toNatClampNeg) → hv_CL l (hv_e1 e) 0 m_X7_get [.ref 39, .int x1, .int x2] s1 (fun v5 s4 => Φ v5 s4)) ∧ (¬ x2 < (s1.1 41 x1.toNatClampNeg) → Φ (-9223372036854775808) s1))))))))) : hv_CL l (hv_e1 e) 1 m_X9_read [.ref 0, .int x1, .int x2] σ Φ := by
  refine hv_entL (by decide) (Nat.le_of_ble_eq_true rfl) ?_
  show hv_TW l (hv_e1 e) (hv_rm 1) 0 0 m_X9_read hv_no (hv_ZL (hv_e1 e) Φ) 0 [(0, .ref 0), (1, .int x1), (2, .int x2)] [] σ
  refine T_aload_n dX9_read_0 rfl 0 rfl ?_
  refine T_get (v := .ref 39) dX9_read_1 fl_X9_71 hp_0 hs_0 rfl rfl ?_
  refine T_iload_n dX9_read_4 rfl 1 rfl ?_
  refine T_VI (As := [.int x1]) dX9_read_5 mv_X9_248 hp_39 hs_39 rfl (Nat.le_of_ble_eq_true rfl) (hv_ok1 rfl) rfl h (fun v2 s1 h3 => ?_)
  refine T_if_eq (tgt := 28) dX9_read_8 (by decide) (fun c7 => ?_) (fun c7 => ?_)
  · refine T_ldc2 dX9_read_28 kl_X9_160 ?_
    exact T_lret dX9_read_31 rfl (h3.1 c7)
  · refine T_iload_n dX9_read_11 rfl 2 rfl ?_
    refine T_if_lt (tgt := 28) dX9_read_12 (by decide) (fun c8 => ?_) (fun c8 => ?_)
    · refine T_ldc2 dX9_read_28 kl_X9_160 ?_
      exact T_lret dX9_read_31 rfl ((h3.2 c7).1 c8)
    · refine T_iload_n dX9_read_15 rfl 2 rfl ?_
      refine T_aload_n dX9_read_16 rfl 0 rfl ?_
      refine T_get (v := .ref 39) dX9_read_17 fl_X9_71 hp_0 hs_0 rfl rfl ?_
      refine T_get (v := .ref 41) dX9_read_20 fl_X9_254 hp_39 hs_39 rfl rfl ?_
      refine T_iload_n dX9_read_23 rfl 1 rfl ?_
      refine T_iald dX9_read_24 hp_41 hs_41 ((h3.2 c7).2 c8).1 ?_
      refine T_icmp_lt (tgt := 32) dX9_read_25 (by decide) (fun c9 => ?_) (fun c9 => ?_)
      · refine T_aload_n dX9_read_32 rfl 0 rfl ?_
        refine T_get (v := .ref 39) dX9_read_33 fl_X9_71 hp_0 hs_0 rfl rfl ?_
        refine T_iload_n dX9_read_36 rfl 1 rfl ?_
        refine T_iload_n dX9_read_37 rfl 2 rfl ?_
        refine T_VL (As := [.int x1, .int x2]) dX9_read_38 mv_X9_257 hp_39 hs_39 rfl (Nat.le_of_ble_eq_true rfl) (hv_ok1 rfl) rfl (((h3.2 c7).2 c8).2.1 c9) (fun v5 s4 h6 => ?_)
        exact T_lret dX9_read_41 rfl h6
      · refine T_ldc2 dX9_read_28 kl_X9_160 ?_
        exact T_lret dX9_read_31 rfl (((h3.2 c7).2 c8).2.2 c9)

set_option maxHeartbeats 4000000 in
set_option maxRecDepth 100000 in
theorem B_X9_shift {l : Launch} {e : hv_Ev}  (x1 : Int32) (x2 : Int32) (x3 : Int32) (x4 : Int32) (x5 : Int32) {σ : hv_S} {Φ : Int32 → hv_S → Prop} (h : hv_CI l (hv_e1 e) 0 m_X7_exists [.ref 39, .int x1] σ (fun v2 s1 => ((v2 = 0 → Φ (-1) s1) ∧ (¬ v2 = 0 → hv_CI l (hv_e1 e) 0 m_X7_exists [.ref 39, .int x3] s1 (fun v5 s4 => ((v5 ≠ 0 → (vp_in x1 6 ∧ (((s4.1 40 x1.toNatClampNeg) = (-1) → Φ (-11) s4) ∧ (¬ (s4.1 40 x1.toNatClampNeg) = (-1) → (vp_in x3 6 ∧ (((s4.1 40 x3.toNatClampNeg) ≠ (-1) → (vp_in x1 6 ∧ (vp_in x3 6 ∧ (((s4.1 40 x1.toNatClampNeg) = (s4.1 40 x3.toNatClampNeg) → hv_CI l (hv_e1 e) 0 m_X7_holds [.ref 39, .int x1, .int x2, .int x5] s4 (fun v8 s7 => ((v8 = 0 → Φ (-13) s7) ∧ (¬ v8 = 0 → hv_CI l (hv_e1 e) 0 m_X7_holds [.ref 39, .int x3, .int x4, .int x5] s7 (fun v11 s10 => ((v11 ≠ 0 → hv_CV l (hv_e1 e) 1 m_X7_copy [.ref 39, .int x1, .int x2, .int x3, .int x4, .int x5] s10 (fun s13 => Φ x5 s13)) ∧ (v11 = 0 → Φ (-13) s10))))))) ∧ (¬ (s4.1 40 x1.toNatClampNeg) = (s4.1 40 x3.toNatClampNeg) → Φ (-12) s4))))) ∧ ((s4.1 40 x3.toNatClampNeg) = (-1) → Φ (-11) s4))))))) ∧ (v5 = 0 → Φ (-1) s4))))))) : hv_CI l (hv_e1 e) 2 m_X9_shift [.ref 0, .int x1, .int x2, .int x3, .int x4, .int x5] σ Φ := by
  refine hv_entI (by decide) (Nat.le_of_ble_eq_true rfl) ?_
  show hv_TW l (hv_e1 e) (hv_rm 2) 0 0 m_X9_shift hv_no (hv_ZI (hv_e1 e) Φ) 0 [(0, .ref 0), (1, .int x1), (2, .int x2), (3, .int x3), (4, .int x4), (5, .int x5)] [] σ
  refine T_aload_n dX9_shift_0 rfl 0 rfl ?_
  refine T_get (v := .ref 39) dX9_shift_1 fl_X9_71 hp_0 hs_0 rfl rfl ?_
  refine T_iload_n dX9_shift_4 rfl 1 rfl ?_
  refine T_VI (As := [.int x1]) dX9_shift_5 mv_X9_248 hp_39 hs_39 rfl (Nat.le_of_ble_eq_true rfl) (hv_ok1 rfl) rfl h (fun v2 s1 h3 => ?_)
  refine T_if_eq (tgt := 22) dX9_shift_8 (by decide) (fun c16 => ?_) (fun c16 => ?_)
  · refine T_iconst (v := (-1)) dX9_shift_22 (by decide) ?_
    exact T_iret dX9_shift_23 rfl (h3.1 c16)
  · refine T_aload_n dX9_shift_11 rfl 0 rfl ?_
    refine T_get (v := .ref 39) dX9_shift_12 fl_X9_71 hp_0 hs_0 rfl rfl ?_
    refine T_iload_n dX9_shift_15 rfl 3 rfl ?_
    refine T_VI (As := [.int x3]) dX9_shift_16 mv_X9_248 hp_39 hs_39 rfl (Nat.le_of_ble_eq_true rfl) (hv_ok1 rfl) rfl (h3.2 c16) (fun v5 s4 h6 => ?_)
    refine T_if_ne (tgt := 24) dX9_shift_19 (by decide) (fun c17 => ?_) (fun c17 => ?_)
    · refine T_aload_n dX9_shift_24 rfl 0 rfl ?_
      refine T_get (v := .ref 39) dX9_shift_25 fl_X9_71 hp_0 hs_0 rfl rfl ?_
      refine T_get (v := .ref 40) dX9_shift_28 fl_X9_251 hp_39 hs_39 rfl rfl ?_
      refine T_iload_n dX9_shift_31 rfl 1 rfl ?_
      refine T_iald dX9_shift_32 hp_40 hs_40 (h6.1 c17).1 ?_
      refine T_iconst (v := (-1)) dX9_shift_33 (by decide) ?_
      refine T_icmp_eq (tgt := 50) dX9_shift_34 (by decide) (fun c18 => ?_) (fun c18 => ?_)
      · refine T_bipush (v := (-11)) dX9_shift_50 (by decide) ?_
        exact T_iret dX9_shift_52 rfl ((h6.1 c17).2.1 c18)
      · refine T_aload_n dX9_shift_37 rfl 0 rfl ?_
        refine T_get (v := .ref 39) dX9_shift_38 fl_X9_71 hp_0 hs_0 rfl rfl ?_
        refine T_get (v := .ref 40) dX9_shift_41 fl_X9_251 hp_39 hs_39 rfl rfl ?_
        refine T_iload_n dX9_shift_44 rfl 3 rfl ?_
        refine T_iald dX9_shift_45 hp_40 hs_40 ((h6.1 c17).2.2 c18).1 ?_
        refine T_iconst (v := (-1)) dX9_shift_46 (by decide) ?_
        refine T_icmp_ne (tgt := 53) dX9_shift_47 (by decide) (fun c19 => ?_) (fun c19 => ?_)
        · refine T_aload_n dX9_shift_53 rfl 0 rfl ?_
          refine T_get (v := .ref 39) dX9_shift_54 fl_X9_71 hp_0 hs_0 rfl rfl ?_
          refine T_get (v := .ref 40) dX9_shift_57 fl_X9_251 hp_39 hs_39 rfl rfl ?_
          refine T_iload_n dX9_shift_60 rfl 1 rfl ?_
          refine T_iald dX9_shift_61 hp_40 hs_40 (((h6.1 c17).2.2 c18).2.1 c19).1 ?_
          refine T_aload_n dX9_shift_62 rfl 0 rfl ?_
          refine T_get (v := .ref 39) dX9_shift_63 fl_X9_71 hp_0 hs_0 rfl rfl ?_
          refine T_get (v := .ref 40) dX9_shift_66 fl_X9_251 hp_39 hs_39 rfl rfl ?_
          refine T_iload_n dX9_shift_69 rfl 3 rfl ?_
          refine T_iald dX9_shift_70 hp_40 hs_40 (((h6.1 c17).2.2 c18).2.1 c19).2.1 ?_
          refine T_icmp_eq (tgt := 77) dX9_shift_71 (by decide) (fun c20 => ?_) (fun c20 => ?_)
          · refine T_aload_n dX9_shift_77 rfl 0 rfl ?_
            refine T_get (v := .ref 39) dX9_shift_78 fl_X9_71 hp_0 hs_0 rfl rfl ?_
            refine T_iload_n dX9_shift_81 rfl 1 rfl ?_
            refine T_iload_n dX9_shift_82 rfl 2 rfl ?_
            refine T_iload dX9_shift_83 5 rfl ?_
            refine T_VI (As := [.int x1, .int x2, .int x5]) dX9_shift_85 mv_X9_284 hp_39 hs_39 rfl (Nat.le_of_ble_eq_true rfl) (hv_ok1 rfl) rfl ((((h6.1 c17).2.2 c18).2.1 c19).2.2.1 c20) (fun v8 s7 h9 => ?_)
            refine T_if_eq (tgt := 106) dX9_shift_88 (by decide) (fun c21 => ?_) (fun c21 => ?_)
            · refine T_bipush (v := (-13)) dX9_shift_106 (by decide) ?_
              exact T_iret dX9_shift_108 rfl (h9.1 c21)
            · refine T_aload_n dX9_shift_91 rfl 0 rfl ?_
              refine T_get (v := .ref 39) dX9_shift_92 fl_X9_71 hp_0 hs_0 rfl rfl ?_
              refine T_iload_n dX9_shift_95 rfl 3 rfl ?_
              refine T_iload dX9_shift_96 4 rfl ?_
              refine T_iload dX9_shift_98 5 rfl ?_
              refine T_VI (As := [.int x3, .int x4, .int x5]) dX9_shift_100 mv_X9_284 hp_39 hs_39 rfl (Nat.le_of_ble_eq_true rfl) (hv_ok1 rfl) rfl (h9.2 c21) (fun v11 s10 h12 => ?_)
              refine T_if_ne (tgt := 109) dX9_shift_103 (by decide) (fun c22 => ?_) (fun c22 => ?_)
              · refine T_aload_n dX9_shift_109 rfl 0 rfl ?_
                refine T_get (v := .ref 39) dX9_shift_110 fl_X9_71 hp_0 hs_0 rfl rfl ?_
                refine T_iload_n dX9_shift_113 rfl 1 rfl ?_
                refine T_iload_n dX9_shift_114 rfl 2 rfl ?_
                refine T_iload_n dX9_shift_115 rfl 3 rfl ?_
                refine T_iload dX9_shift_116 4 rfl ?_
                refine T_iload dX9_shift_118 5 rfl ?_
                refine T_VV (As := [.int x1, .int x2, .int x3, .int x4, .int x5]) dX9_shift_120 mv_X9_287 hp_39 hs_39 rfl (Nat.le_of_ble_eq_true rfl) (hv_ok1 rfl) rfl (h12.1 c22) (fun s13 h15 => ?_)
                refine T_iload dX9_shift_123 5 rfl ?_
                exact T_iret dX9_shift_125 rfl h15
              · refine T_bipush (v := (-13)) dX9_shift_106 (by decide) ?_
                exact T_iret dX9_shift_108 rfl (h12.2 c22)
          · refine T_bipush (v := (-12)) dX9_shift_74 (by decide) ?_
            exact T_iret dX9_shift_76 rfl ((((h6.1 c17).2.2 c18).2.1 c19).2.2.2 c20)
        · refine T_bipush (v := (-11)) dX9_shift_50 (by decide) ?_
          exact T_iret dX9_shift_52 rfl (((h6.1 c17).2.2 c18).2.2 c19)
    · refine T_iconst (v := (-1)) dX9_shift_22 (by decide) ?_
      exact T_iret dX9_shift_23 rfl (h6.2 c17)
