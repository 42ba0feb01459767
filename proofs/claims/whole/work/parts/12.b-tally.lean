-- printed by wip/gen/p10c.py: Tally
theorem dX6_listHeard_0 : decode cX6_listHeard 0 = .ok (.iconst 0, 1) := by decide +kernel
theorem dX6_listHeard_1 : decode cX6_listHeard 1 = .ok (.istore_n 2, 1) := by decide +kernel
theorem dX6_listHeard_2 : decode cX6_listHeard 2 = .ok (.iconst 0, 1) := by decide +kernel
theorem dX6_listHeard_3 : decode cX6_listHeard 3 = .ok (.istore_n 3, 1) := by decide +kernel
theorem dX6_listHeard_4 : decode cX6_listHeard 4 = .ok (.iload_n 3, 1) := by decide +kernel
theorem dX6_listHeard_5 : decode cX6_listHeard 5 = .ok (.aload_n 0, 1) := by decide +kernel
theorem dX6_listHeard_6 : decode cX6_listHeard 6 = .ok (.getfield 34, 3) := by decide +kernel
theorem dX6_listHeard_9 : decode cX6_listHeard 9 = .ok (.getfield 109, 3) := by decide +kernel
theorem dX6_listHeard_12 : decode cX6_listHeard 12 = .ok (.if_icmp .ge 27, 3) := by decide +kernel
theorem dX6_listHeard_15 : decode cX6_listHeard 15 = .ok (.iload_n 1, 1) := by decide +kernel
theorem dX6_listHeard_16 : decode cX6_listHeard 16 = .ok (.iload_n 3, 1) := by decide +kernel
theorem dX6_listHeard_17 : decode cX6_listHeard 17 = .ok (.ishr, 1) := by decide +kernel
theorem dX6_listHeard_18 : decode cX6_listHeard 18 = .ok (.iconst 1, 1) := by decide +kernel
theorem dX6_listHeard_19 : decode cX6_listHeard 19 = .ok (.iand, 1) := by decide +kernel
theorem dX6_listHeard_20 : decode cX6_listHeard 20 = .ok (.ifCond .eq 13, 3) := by decide +kernel
theorem dX6_listHeard_23 : decode cX6_listHeard 23 = .ok (.aload_n 0, 1) := by decide +kernel
theorem dX6_listHeard_24 : decode cX6_listHeard 24 = .ok (.getfield 9, 3) := by decide +kernel
theorem dX6_listHeard_27 : decode cX6_listHeard 27 = .ok (.iload_n 2, 1) := by decide +kernel
theorem dX6_listHeard_28 : decode cX6_listHeard 28 = .ok (.iload_n 3, 1) := by decide +kernel
theorem dX6_listHeard_29 : decode cX6_listHeard 29 = .ok (.iastore, 1) := by decide +kernel
theorem dX6_listHeard_30 : decode cX6_listHeard 30 = .ok (.iinc 2 1, 3) := by decide +kernel
theorem dX6_listHeard_33 : decode cX6_listHeard 33 = .ok (.iinc 3 1, 3) := by decide +kernel
theorem dX6_listHeard_36 : decode cX6_listHeard 36 = .ok (.goto (-32), 3) := by decide +kernel
theorem dX6_listHeard_39 : decode cX6_listHeard 39 = .ok (.iload_n 2, 1) := by decide +kernel
theorem dX6_listHeard_40 : decode cX6_listHeard 40 = .ok (.ireturn, 1) := by decide +kernel
theorem dX6_fillRows_0 : decode cX6_fillRows 0 = .ok (.iconst 0, 1) := by decide +kernel
theorem dX6_fillRows_1 : decode cX6_fillRows 1 = .ok (.istore_n 2, 1) := by decide +kernel
theorem dX6_fillRows_2 : decode cX6_fillRows 2 = .ok (.iload_n 2, 1) := by decide +kernel
theorem dX6_fillRows_3 : decode cX6_fillRows 3 = .ok (.iload_n 1, 1) := by decide +kernel
theorem dX6_fillRows_4 : decode cX6_fillRows 4 = .ok (.if_icmp .ge 76, 3) := by decide +kernel
theorem dX6_fillRows_7 : decode cX6_fillRows 7 = .ok (.iconst 0, 1) := by decide +kernel
theorem dX6_fillRows_8 : decode cX6_fillRows 8 = .ok (.istore_n 3, 1) := by decide +kernel
theorem dX6_fillRows_9 : decode cX6_fillRows 9 = .ok (.iload_n 3, 1) := by decide +kernel
theorem dX6_fillRows_10 : decode cX6_fillRows 10 = .ok (.iload_n 1, 1) := by decide +kernel
theorem dX6_fillRows_11 : decode cX6_fillRows 11 = .ok (.if_icmp .ge 54, 3) := by decide +kernel
theorem dX6_fillRows_14 : decode cX6_fillRows 14 = .ok (.aload_n 0, 1) := by decide +kernel
theorem dX6_fillRows_15 : decode cX6_fillRows 15 = .ok (.getfield 17, 3) := by decide +kernel
theorem dX6_fillRows_18 : decode cX6_fillRows 18 = .ok (.iload_n 2, 1) := by decide +kernel
theorem dX6_fillRows_19 : decode cX6_fillRows 19 = .ok (.aaload, 1) := by decide +kernel
theorem dX6_fillRows_20 : decode cX6_fillRows 20 = .ok (.iload_n 3, 1) := by decide +kernel
theorem dX6_fillRows_21 : decode cX6_fillRows 21 = .ok (.iload_n 2, 1) := by decide +kernel
theorem dX6_fillRows_22 : decode cX6_fillRows 22 = .ok (.iload_n 3, 1) := by decide +kernel
theorem dX6_fillRows_23 : decode cX6_fillRows 23 = .ok (.if_icmp .ne 9, 3) := by decide +kernel
theorem dX6_fillRows_26 : decode cX6_fillRows 26 = .ok (.ldc2_w 112, 3) := by decide +kernel
theorem dX6_fillRows_29 : decode cX6_fillRows 29 = .ok (.goto 29, 3) := by decide +kernel
theorem dX6_fillRows_32 : decode cX6_fillRows 32 = .ok (.aload_n 0, 1) := by decide +kernel
theorem dX6_fillRows_33 : decode cX6_fillRows 33 = .ok (.getfield 42, 3) := by decide +kernel
theorem dX6_fillRows_36 : decode cX6_fillRows 36 = .ok (.getfield 100, 3) := by decide +kernel
theorem dX6_fillRows_39 : decode cX6_fillRows 39 = .ok (.aload_n 0, 1) := by decide +kernel
theorem dX6_fillRows_40 : decode cX6_fillRows 40 = .ok (.getfield 9, 3) := by decide +kernel
theorem dX6_fillRows_43 : decode cX6_fillRows 43 = .ok (.iload_n 3, 1) := by decide +kernel
theorem dX6_fillRows_44 : decode cX6_fillRows 44 = .ok (.iaload, 1) := by decide +kernel
theorem dX6_fillRows_45 : decode cX6_fillRows 45 = .ok (.bipush 8, 2) := by decide +kernel
theorem dX6_fillRows_47 : decode cX6_fillRows 47 = .ok (.imul, 1) := by decide +kernel
theorem dX6_fillRows_48 : decode cX6_fillRows 48 = .ok (.aload_n 0, 1) := by decide +kernel
theorem dX6_fillRows_49 : decode cX6_fillRows 49 = .ok (.getfield 9, 3) := by decide +kernel
theorem dX6_fillRows_52 : decode cX6_fillRows 52 = .ok (.iload_n 2, 1) := by decide +kernel
theorem dX6_fillRows_53 : decode cX6_fillRows 53 = .ok (.iaload, 1) := by decide +kernel
theorem dX6_fillRows_54 : decode cX6_fillRows 54 = .ok (.iadd, 1) := by decide +kernel
theorem dX6_fillRows_55 : decode cX6_fillRows 55 = .ok (.iaload, 1) := by decide +kernel
theorem dX6_fillRows_56 : decode cX6_fillRows 56 = .ok (.ineg, 1) := by decide +kernel
theorem dX6_fillRows_57 : decode cX6_fillRows 57 = .ok (.i2l, 1) := by decide +kernel
theorem dX6_fillRows_58 : decode cX6_fillRows 58 = .ok (.lastore, 1) := by decide +kernel
theorem dX6_fillRows_59 : decode cX6_fillRows 59 = .ok (.iinc 3 1, 3) := by decide +kernel
theorem dX6_fillRows_62 : decode cX6_fillRows 62 = .ok (.goto (-53), 3) := by decide +kernel
theorem dX6_fillRows_65 : decode cX6_fillRows 65 = .ok (.aload_n 0, 1) := by decide +kernel
theorem dX6_fillRows_66 : decode cX6_fillRows 66 = .ok (.getfield 17, 3) := by decide +kernel
theorem dX6_fillRows_69 : decode cX6_fillRows 69 = .ok (.iload_n 2, 1) := by decide +kernel
theorem dX6_fillRows_70 : decode cX6_fillRows 70 = .ok (.aaload, 1) := by decide +kernel
theorem dX6_fillRows_71 : decode cX6_fillRows 71 = .ok (.iload_n 1, 1) := by decide +kernel
theorem dX6_fillRows_72 : decode cX6_fillRows 72 = .ok (.lconst 1, 1) := by decide +kernel
theorem dX6_fillRows_73 : decode cX6_fillRows 73 = .ok (.lastore, 1) := by decide +kernel
theorem dX6_fillRows_74 : decode cX6_fillRows 74 = .ok (.iinc 2 1, 3) := by decide +kernel
theorem dX6_fillRows_77 : decode cX6_fillRows 77 = .ok (.goto (-75), 3) := by decide +kernel
theorem dX6_fillRows_80 : decode cX6_fillRows 80 = .ok (.return_, 1) := by decide +kernel
theorem dX6_clear_0 : decode cX6_clear 0 = .ok (.aload_n 0, 1) := by decide +kernel
theorem dX6_clear_1 : decode cX6_clear 1 = .ok (.iload_n 2, 1) := by decide +kernel
theorem dX6_clear_2 : decode cX6_clear 2 = .ok (.laload, 1) := by decide +kernel
theorem dX6_clear_3 : decode cX6_clear 3 = .ok (.lstore 6, 2) := by decide +kernel
theorem dX6_clear_5 : decode cX6_clear 5 = .ok (.aload_n 1, 1) := by decide +kernel
theorem dX6_clear_6 : decode cX6_clear 6 = .ok (.iload_n 2, 1) := by decide +kernel
theorem dX6_clear_7 : decode cX6_clear 7 = .ok (.laload, 1) := by decide +kernel
theorem dX6_clear_8 : decode cX6_clear 8 = .ok (.lstore 8, 2) := by decide +kernel
theorem dX6_clear_10 : decode cX6_clear 10 = .ok (.lload 4, 2) := by decide +kernel
theorem dX6_clear_12 : decode cX6_clear 12 = .ok (.lconst 0, 1) := by decide +kernel
theorem dX6_clear_13 : decode cX6_clear 13 = .ok (.lcmp, 1) := by decide +kernel
theorem dX6_clear_14 : decode cX6_clear 14 = .ok (.ifCond .ne 4, 3) := by decide +kernel
theorem dX6_clear_17 : decode cX6_clear 17 = .ok (.return_, 1) := by decide +kernel
theorem dX6_clear_18 : decode cX6_clear 18 = .ok (.iload_n 2, 1) := by decide +kernel
theorem dX6_clear_19 : decode cX6_clear 19 = .ok (.iconst 1, 1) := by decide +kernel
theorem dX6_clear_20 : decode cX6_clear 20 = .ok (.iadd, 1) := by decide +kernel
theorem dX6_clear_21 : decode cX6_clear 21 = .ok (.istore 10, 2) := by decide +kernel
theorem dX6_clear_23 : decode cX6_clear 23 = .ok (.iload 10, 2) := by decide +kernel
theorem dX6_clear_25 : decode cX6_clear 25 = .ok (.iload_n 3, 1) := by decide +kernel
theorem dX6_clear_26 : decode cX6_clear 26 = .ok (.if_icmp .gt 31, 3) := by decide +kernel
theorem dX6_clear_29 : decode cX6_clear 29 = .ok (.aload_n 0, 1) := by decide +kernel
theorem dX6_clear_30 : decode cX6_clear 30 = .ok (.iload 10, 2) := by decide +kernel
theorem dX6_clear_32 : decode cX6_clear 32 = .ok (.lload 8, 2) := by decide +kernel
theorem dX6_clear_34 : decode cX6_clear 34 = .ok (.aload_n 0, 1) := by decide +kernel
theorem dX6_clear_35 : decode cX6_clear 35 = .ok (.iload 10, 2) := by decide +kernel
theorem dX6_clear_37 : decode cX6_clear 37 = .ok (.laload, 1) := by decide +kernel
theorem dX6_clear_38 : decode cX6_clear 38 = .ok (.lmul, 1) := by decide +kernel
theorem dX6_clear_39 : decode cX6_clear 39 = .ok (.lload 6, 2) := by decide +kernel
theorem dX6_clear_41 : decode cX6_clear 41 = .ok (.aload_n 1, 1) := by decide +kernel
theorem dX6_clear_42 : decode cX6_clear 42 = .ok (.iload 10, 2) := by decide +kernel
theorem dX6_clear_44 : decode cX6_clear 44 = .ok (.laload, 1) := by decide +kernel
theorem dX6_clear_45 : decode cX6_clear 45 = .ok (.lmul, 1) := by decide +kernel
theorem dX6_clear_46 : decode cX6_clear 46 = .ok (.lsub, 1) := by decide +kernel
theorem dX6_clear_47 : decode cX6_clear 47 = .ok (.lload 4, 2) := by decide +kernel
theorem dX6_clear_49 : decode cX6_clear 49 = .ok (.ldiv, 1) := by decide +kernel
theorem dX6_clear_50 : decode cX6_clear 50 = .ok (.lastore, 1) := by decide +kernel
theorem dX6_clear_51 : decode cX6_clear 51 = .ok (.iinc 10 1, 3) := by decide +kernel
theorem dX6_clear_54 : decode cX6_clear 54 = .ok (.goto (-31), 3) := by decide +kernel
theorem dX6_clear_57 : decode cX6_clear 57 = .ok (.return_, 1) := by decide +kernel
theorem dX6_unroll_0 : decode cX6_unroll 0 = .ok (.lconst 1, 1) := by decide +kernel
theorem dX6_unroll_1 : decode cX6_unroll 1 = .ok (.lstore_n 2, 1) := by decide +kernel
theorem dX6_unroll_2 : decode cX6_unroll 2 = .ok (.iconst 0, 1) := by decide +kernel
theorem dX6_unroll_3 : decode cX6_unroll 3 = .ok (.istore 4, 2) := by decide +kernel
theorem dX6_unroll_5 : decode cX6_unroll 5 = .ok (.iload 4, 2) := by decide +kernel
theorem dX6_unroll_7 : decode cX6_unroll 7 = .ok (.iload_n 1, 1) := by decide +kernel
theorem dX6_unroll_8 : decode cX6_unroll 8 = .ok (.if_icmp .ge 76, 3) := by decide +kernel
theorem dX6_unroll_11 : decode cX6_unroll 11 = .ok (.aload_n 0, 1) := by decide +kernel
theorem dX6_unroll_12 : decode cX6_unroll 12 = .ok (.getfield 17, 3) := by decide +kernel
theorem dX6_unroll_15 : decode cX6_unroll 15 = .ok (.iload 4, 2) := by decide +kernel
theorem dX6_unroll_17 : decode cX6_unroll 17 = .ok (.aaload, 1) := by decide +kernel
theorem dX6_unroll_18 : decode cX6_unroll 18 = .ok (.iload 4, 2) := by decide +kernel
theorem dX6_unroll_20 : decode cX6_unroll 20 = .ok (.laload, 1) := by decide +kernel
theorem dX6_unroll_21 : decode cX6_unroll 21 = .ok (.lstore 5, 2) := by decide +kernel
theorem dX6_unroll_23 : decode cX6_unroll 23 = .ok (.lload 5, 2) := by decide +kernel
theorem dX6_unroll_25 : decode cX6_unroll 25 = .ok (.lconst 0, 1) := by decide +kernel
theorem dX6_unroll_26 : decode cX6_unroll 26 = .ok (.lcmp, 1) := by decide +kernel
theorem dX6_unroll_27 : decode cX6_unroll 27 = .ok (.ifCond .gt 5, 3) := by decide +kernel
theorem dX6_unroll_30 : decode cX6_unroll 30 = .ok (.lconst 1, 1) := by decide +kernel
theorem dX6_unroll_31 : decode cX6_unroll 31 = .ok (.lreturn, 1) := by decide +kernel
theorem dX6_unroll_32 : decode cX6_unroll 32 = .ok (.iconst 0, 1) := by decide +kernel
theorem dX6_unroll_33 : decode cX6_unroll 33 = .ok (.istore 7, 2) := by decide +kernel
theorem dX6_unroll_35 : decode cX6_unroll 35 = .ok (.iload 7, 2) := by decide +kernel
theorem dX6_unroll_37 : decode cX6_unroll 37 = .ok (.iload_n 1, 1) := by decide +kernel
theorem dX6_unroll_38 : decode cX6_unroll 38 = .ok (.if_icmp .ge 37, 3) := by decide +kernel
theorem dX6_unroll_41 : decode cX6_unroll 41 = .ok (.iload 7, 2) := by decide +kernel
theorem dX6_unroll_43 : decode cX6_unroll 43 = .ok (.iload 4, 2) := by decide +kernel
theorem dX6_unroll_45 : decode cX6_unroll 45 = .ok (.if_icmp .eq 24, 3) := by decide +kernel
theorem dX6_unroll_48 : decode cX6_unroll 48 = .ok (.aload_n 0, 1) := by decide +kernel
theorem dX6_unroll_49 : decode cX6_unroll 49 = .ok (.getfield 17, 3) := by decide +kernel
theorem dX6_unroll_52 : decode cX6_unroll 52 = .ok (.iload 7, 2) := by decide +kernel
theorem dX6_unroll_54 : decode cX6_unroll 54 = .ok (.aaload, 1) := by decide +kernel
theorem dX6_unroll_55 : decode cX6_unroll 55 = .ok (.aload_n 0, 1) := by decide +kernel
theorem dX6_unroll_56 : decode cX6_unroll 56 = .ok (.getfield 17, 3) := by decide +kernel
theorem dX6_unroll_59 : decode cX6_unroll 59 = .ok (.iload 4, 2) := by decide +kernel
theorem dX6_unroll_61 : decode cX6_unroll 61 = .ok (.aaload, 1) := by decide +kernel
theorem dX6_unroll_62 : decode cX6_unroll 62 = .ok (.iload 4, 2) := by decide +kernel
theorem dX6_unroll_64 : decode cX6_unroll 64 = .ok (.iload_n 1, 1) := by decide +kernel
theorem dX6_unroll_65 : decode cX6_unroll 65 = .ok (.lload_n 2, 1) := by decide +kernel
theorem dX6_unroll_66 : decode cX6_unroll 66 = .ok (.invokestatic 114, 3) := by decide +kernel
theorem dX6_unroll_69 : decode cX6_unroll 69 = .ok (.iinc 7 1, 3) := by decide +kernel
theorem dX6_unroll_72 : decode cX6_unroll 72 = .ok (.goto (-37), 3) := by decide +kernel
theorem dX6_unroll_75 : decode cX6_unroll 75 = .ok (.lload 5, 2) := by decide +kernel
theorem dX6_unroll_77 : decode cX6_unroll 77 = .ok (.lstore_n 2, 1) := by decide +kernel
theorem dX6_unroll_78 : decode cX6_unroll 78 = .ok (.iinc 4 1, 3) := by decide +kernel
theorem dX6_unroll_81 : decode cX6_unroll 81 = .ok (.goto (-76), 3) := by decide +kernel
theorem dX6_unroll_84 : decode cX6_unroll 84 = .ok (.lload_n 2, 1) := by decide +kernel
theorem dX6_unroll_85 : decode cX6_unroll 85 = .ok (.lreturn, 1) := by decide +kernel
theorem dX6_weigh_0 : decode cX6_weigh 0 = .ok (.aload_n 0, 1) := by decide +kernel
theorem dX6_weigh_1 : decode cX6_weigh 1 = .ok (.getfield 20, 3) := by decide +kernel
theorem dX6_weigh_4 : decode cX6_weigh 4 = .ok (.lconst 0, 1) := by decide +kernel
theorem dX6_weigh_5 : decode cX6_weigh 5 = .ok (.invokestatic 64, 3) := by decide +kernel
theorem dX6_weigh_8 : decode cX6_weigh 8 = .ok (.aload_n 0, 1) := by decide +kernel
theorem dX6_weigh_9 : decode cX6_weigh 9 = .ok (.lconst 0, 1) := by decide +kernel
theorem dX6_weigh_10 : decode cX6_weigh 10 = .ok (.putfield 70, 3) := by decide +kernel
theorem dX6_weigh_13 : decode cX6_weigh 13 = .ok (.aload_n 0, 1) := by decide +kernel
theorem dX6_weigh_14 : decode cX6_weigh 14 = .ok (.aload_n 0, 1) := by decide +kernel
theorem dX6_weigh_15 : decode cX6_weigh 15 = .ok (.getfield 42, 3) := by decide +kernel
theorem dX6_weigh_18 : decode cX6_weigh 18 = .ok (.invokevirtual 73, 3) := by decide +kernel
theorem dX6_weigh_21 : decode cX6_weigh 21 = .ok (.invokevirtual 77, 3) := by decide +kernel
theorem dX6_weigh_24 : decode cX6_weigh 24 = .ok (.istore_n 1, 1) := by decide +kernel
theorem dX6_weigh_25 : decode cX6_weigh 25 = .ok (.aload_n 0, 1) := by decide +kernel
theorem dX6_weigh_26 : decode cX6_weigh 26 = .ok (.iload_n 1, 1) := by decide +kernel
theorem dX6_weigh_27 : decode cX6_weigh 27 = .ok (.invokevirtual 81, 3) := by decide +kernel
theorem dX6_weigh_30 : decode cX6_weigh 30 = .ok (.aload_n 0, 1) := by decide +kernel
theorem dX6_weigh_31 : decode cX6_weigh 31 = .ok (.aload_n 0, 1) := by decide +kernel
theorem dX6_weigh_32 : decode cX6_weigh 32 = .ok (.iload_n 1, 1) := by decide +kernel
theorem dX6_weigh_33 : decode cX6_weigh 33 = .ok (.invokevirtual 85, 3) := by decide +kernel
theorem dX6_weigh_36 : decode cX6_weigh 36 = .ok (.putfield 24, 3) := by decide +kernel
theorem dX6_weigh_39 : decode cX6_weigh 39 = .ok (.aload_n 0, 1) := by decide +kernel
theorem dX6_weigh_40 : decode cX6_weigh 40 = .ok (.getfield 38, 3) := by decide +kernel
theorem dX6_weigh_43 : decode cX6_weigh 43 = .ok (.getfield 89, 3) := by decide +kernel
theorem dX6_weigh_46 : decode cX6_weigh 46 = .ok (.getfield 95, 3) := by decide +kernel
theorem dX6_weigh_49 : decode cX6_weigh 49 = .ok (.i2l, 1) := by decide +kernel
theorem dX6_weigh_50 : decode cX6_weigh 50 = .ok (.aload_n 0, 1) := by decide +kernel
theorem dX6_weigh_51 : decode cX6_weigh 51 = .ok (.getfield 24, 3) := by decide +kernel
theorem dX6_weigh_54 : decode cX6_weigh 54 = .ok (.lmul, 1) := by decide +kernel
theorem dX6_weigh_55 : decode cX6_weigh 55 = .ok (.lstore_n 2, 1) := by decide +kernel
theorem dX6_weigh_56 : decode cX6_weigh 56 = .ok (.iconst 0, 1) := by decide +kernel
theorem dX6_weigh_57 : decode cX6_weigh 57 = .ok (.istore 4, 2) := by decide +kernel
theorem dX6_weigh_59 : decode cX6_weigh 59 = .ok (.iload 4, 2) := by decide +kernel
theorem dX6_weigh_61 : decode cX6_weigh 61 = .ok (.iload_n 1, 1) := by decide +kernel
theorem dX6_weigh_62 : decode cX6_weigh 62 = .ok (.if_icmp .ge 72, 3) := by decide +kernel
theorem dX6_weigh_65 : decode cX6_weigh 65 = .ok (.aload_n 0, 1) := by decide +kernel
theorem dX6_weigh_66 : decode cX6_weigh 66 = .ok (.getfield 9, 3) := by decide +kernel
theorem dX6_weigh_69 : decode cX6_weigh 69 = .ok (.iload 4, 2) := by decide +kernel
theorem dX6_weigh_71 : decode cX6_weigh 71 = .ok (.iaload, 1) := by decide +kernel
theorem dX6_weigh_72 : decode cX6_weigh 72 = .ok (.istore 5, 2) := by decide +kernel
theorem dX6_weigh_74 : decode cX6_weigh 74 = .ok (.aload_n 0, 1) := by decide +kernel
theorem dX6_weigh_75 : decode cX6_weigh 75 = .ok (.getfield 20, 3) := by decide +kernel
theorem dX6_weigh_78 : decode cX6_weigh 78 = .ok (.iload 5, 2) := by decide +kernel
theorem dX6_weigh_80 : decode cX6_weigh 80 = .ok (.aload_n 0, 1) := by decide +kernel
theorem dX6_weigh_81 : decode cX6_weigh 81 = .ok (.getfield 17, 3) := by decide +kernel
theorem dX6_weigh_84 : decode cX6_weigh 84 = .ok (.iload 4, 2) := by decide +kernel
theorem dX6_weigh_86 : decode cX6_weigh 86 = .ok (.aaload, 1) := by decide +kernel
theorem dX6_weigh_87 : decode cX6_weigh 87 = .ok (.iload_n 1, 1) := by decide +kernel
theorem dX6_weigh_88 : decode cX6_weigh 88 = .ok (.laload, 1) := by decide +kernel
theorem dX6_weigh_89 : decode cX6_weigh 89 = .ok (.aload_n 0, 1) := by decide +kernel
theorem dX6_weigh_90 : decode cX6_weigh 90 = .ok (.getfield 42, 3) := by decide +kernel
theorem dX6_weigh_93 : decode cX6_weigh 93 = .ok (.getfield 100, 3) := by decide +kernel
theorem dX6_weigh_96 : decode cX6_weigh 96 = .ok (.iload 5, 2) := by decide +kernel
theorem dX6_weigh_98 : decode cX6_weigh 98 = .ok (.bipush 8, 2) := by decide +kernel
theorem dX6_weigh_100 : decode cX6_weigh 100 = .ok (.imul, 1) := by decide +kernel
theorem dX6_weigh_101 : decode cX6_weigh 101 = .ok (.iload 5, 2) := by decide +kernel
theorem dX6_weigh_103 : decode cX6_weigh 103 = .ok (.iadd, 1) := by decide +kernel
theorem dX6_weigh_104 : decode cX6_weigh 104 = .ok (.iaload, 1) := by decide +kernel
theorem dX6_weigh_105 : decode cX6_weigh 105 = .ok (.i2l, 1) := by decide +kernel
theorem dX6_weigh_106 : decode cX6_weigh 106 = .ok (.lmul, 1) := by decide +kernel
theorem dX6_weigh_107 : decode cX6_weigh 107 = .ok (.lload_n 2, 1) := by decide +kernel
theorem dX6_weigh_108 : decode cX6_weigh 108 = .ok (.invokestatic 103, 3) := by decide +kernel
theorem dX6_weigh_111 : decode cX6_weigh 111 = .ok (.lastore, 1) := by decide +kernel
theorem dX6_weigh_112 : decode cX6_weigh 112 = .ok (.aload_n 0, 1) := by decide +kernel
theorem dX6_weigh_113 : decode cX6_weigh 113 = .ok (.dup, 1) := by decide +kernel
theorem dX6_weigh_114 : decode cX6_weigh 114 = .ok (.getfield 70, 3) := by decide +kernel
theorem dX6_weigh_117 : decode cX6_weigh 117 = .ok (.aload_n 0, 1) := by decide +kernel
theorem dX6_weigh_118 : decode cX6_weigh 118 = .ok (.getfield 20, 3) := by decide +kernel
theorem dX6_weigh_121 : decode cX6_weigh 121 = .ok (.iload 5, 2) := by decide +kernel
theorem dX6_weigh_123 : decode cX6_weigh 123 = .ok (.laload, 1) := by decide +kernel
theorem dX6_weigh_124 : decode cX6_weigh 124 = .ok (.ladd, 1) := by decide +kernel
theorem dX6_weigh_125 : decode cX6_weigh 125 = .ok (.putfield 70, 3) := by decide +kernel
theorem dX6_weigh_128 : decode cX6_weigh 128 = .ok (.iinc 4 1, 3) := by decide +kernel
theorem dX6_weigh_131 : decode cX6_weigh 131 = .ok (.goto (-72), 3) := by decide +kernel
theorem dX6_weigh_134 : decode cX6_weigh 134 = .ok (.return_, 1) := by decide +kernel
theorem dX6_reckon_0 : decode cX6_reckon 0 = .ok (.aload_n 0, 1) := by decide +kernel
theorem dX6_reckon_1 : decode cX6_reckon 1 = .ok (.getfield 42, 3) := by decide +kernel
theorem dX6_reckon_4 : decode cX6_reckon 4 = .ok (.iload_n 1, 1) := by decide +kernel
theorem dX6_reckon_5 : decode cX6_reckon 5 = .ok (.iload_n 2, 1) := by decide +kernel
theorem dX6_reckon_6 : decode cX6_reckon 6 = .ok (.iload_n 3, 1) := by decide +kernel
theorem dX6_reckon_7 : decode cX6_reckon 7 = .ok (.iload 4, 2) := by decide +kernel
theorem dX6_reckon_9 : decode cX6_reckon 9 = .ok (.iload 5, 2) := by decide +kernel
theorem dX6_reckon_11 : decode cX6_reckon 11 = .ok (.invokevirtual 56, 3) := by decide +kernel
theorem dX6_reckon_14 : decode cX6_reckon 14 = .ok (.aload_n 0, 1) := by decide +kernel
theorem dX6_reckon_15 : decode cX6_reckon 15 = .ok (.invokevirtual 61, 3) := by decide +kernel
theorem dX6_reckon_18 : decode cX6_reckon 18 = .ok (.return_, 1) := by decide +kernel
theorem dX6_reckonNow_0 : decode cX6_reckonNow 0 = .ok (.aload_n 0, 1) := by decide +kernel
theorem dX6_reckonNow_1 : decode cX6_reckonNow 1 = .ok (.iload_n 1, 1) := by decide +kernel
theorem dX6_reckonNow_2 : decode cX6_reckonNow 2 = .ok (.aload_n 0, 1) := by decide +kernel
theorem dX6_reckonNow_3 : decode cX6_reckonNow 3 = .ok (.getfield 34, 3) := by decide +kernel
theorem dX6_reckonNow_6 : decode cX6_reckonNow 6 = .ok (.getfield 46, 3) := by decide +kernel
theorem dX6_reckonNow_9 : decode cX6_reckonNow 9 = .ok (.iconst 0, 1) := by decide +kernel
theorem dX6_reckonNow_10 : decode cX6_reckonNow 10 = .ok (.iconst (-1), 1) := by decide +kernel
theorem dX6_reckonNow_11 : decode cX6_reckonNow 11 = .ok (.iconst (-1), 1) := by decide +kernel
theorem dX6_reckonNow_12 : decode cX6_reckonNow 12 = .ok (.invokevirtual 52, 3) := by decide +kernel
theorem dX6_reckonNow_15 : decode cX6_reckonNow 15 = .ok (.return_, 1) := by decide +kernel
theorem dX6_sumOf_0 : decode cX6_sumOf 0 = .ok (.lconst 0, 1) := by decide +kernel
theorem dX6_sumOf_1 : decode cX6_sumOf 1 = .ok (.lstore_n 2, 1) := by decide +kernel
theorem dX6_sumOf_2 : decode cX6_sumOf 2 = .ok (.iconst 0, 1) := by decide +kernel
theorem dX6_sumOf_3 : decode cX6_sumOf 3 = .ok (.istore 4, 2) := by decide +kernel
theorem dX6_sumOf_5 : decode cX6_sumOf 5 = .ok (.iload 4, 2) := by decide +kernel
theorem dX6_sumOf_7 : decode cX6_sumOf 7 = .ok (.aload_n 0, 1) := by decide +kernel
theorem dX6_sumOf_8 : decode cX6_sumOf 8 = .ok (.getfield 34, 3) := by decide +kernel
theorem dX6_sumOf_11 : decode cX6_sumOf 11 = .ok (.getfield 109, 3) := by decide +kernel
theorem dX6_sumOf_14 : decode cX6_sumOf 14 = .ok (.if_icmp .ge 28, 3) := by decide +kernel
theorem dX6_sumOf_17 : decode cX6_sumOf 17 = .ok (.iload_n 1, 1) := by decide +kernel
theorem dX6_sumOf_18 : decode cX6_sumOf 18 = .ok (.iload 4, 2) := by decide +kernel
theorem dX6_sumOf_20 : decode cX6_sumOf 20 = .ok (.ishr, 1) := by decide +kernel
theorem dX6_sumOf_21 : decode cX6_sumOf 21 = .ok (.iconst 1, 1) := by decide +kernel
theorem dX6_sumOf_22 : decode cX6_sumOf 22 = .ok (.iand, 1) := by decide +kernel
theorem dX6_sumOf_23 : decode cX6_sumOf 23 = .ok (.ifCond .eq 13, 3) := by decide +kernel
theorem dX6_sumOf_26 : decode cX6_sumOf 26 = .ok (.lload_n 2, 1) := by decide +kernel
theorem dX6_sumOf_27 : decode cX6_sumOf 27 = .ok (.aload_n 0, 1) := by decide +kernel
theorem dX6_sumOf_28 : decode cX6_sumOf 28 = .ok (.getfield 20, 3) := by decide +kernel
theorem dX6_sumOf_31 : decode cX6_sumOf 31 = .ok (.iload 4, 2) := by decide +kernel
theorem dX6_sumOf_33 : decode cX6_sumOf 33 = .ok (.laload, 1) := by decide +kernel
theorem dX6_sumOf_34 : decode cX6_sumOf 34 = .ok (.ladd, 1) := by decide +kernel
theorem dX6_sumOf_35 : decode cX6_sumOf 35 = .ok (.lstore_n 2, 1) := by decide +kernel
theorem dX6_sumOf_36 : decode cX6_sumOf 36 = .ok (.iinc 4 1, 3) := by decide +kernel
theorem dX6_sumOf_39 : decode cX6_sumOf 39 = .ok (.goto (-34), 3) := by decide +kernel
theorem dX6_sumOf_42 : decode cX6_sumOf 42 = .ok (.lload_n 2, 1) := by decide +kernel
theorem dX6_sumOf_43 : decode cX6_sumOf 43 = .ok (.lreturn, 1) := by decide +kernel
theorem dX6_decides_0 : decode cX6_decides 0 = .ok (.aload_n 0, 1) := by decide +kernel
theorem dX6_decides_1 : decode cX6_decides 1 = .ok (.getfield 38, 3) := by decide +kernel
theorem dX6_decides_4 : decode cX6_decides 4 = .ok (.getfield 89, 3) := by decide +kernel
theorem dX6_decides_7 : decode cX6_decides 7 = .ok (.getfield 118, 3) := by decide +kernel
theorem dX6_decides_10 : decode cX6_decides 10 = .ok (.i2l, 1) := by decide +kernel
theorem dX6_decides_11 : decode cX6_decides 11 = .ok (.lload_n 1, 1) := by decide +kernel
theorem dX6_decides_12 : decode cX6_decides 12 = .ok (.lmul, 1) := by decide +kernel
theorem dX6_decides_13 : decode cX6_decides 13 = .ok (.aload_n 0, 1) := by decide +kernel
theorem dX6_decides_14 : decode cX6_decides 14 = .ok (.getfield 38, 3) := by decide +kernel
theorem dX6_decides_17 : decode cX6_decides 17 = .ok (.getfield 89, 3) := by decide +kernel
theorem dX6_decides_20 : decode cX6_decides 20 = .ok (.getfield 121, 3) := by decide +kernel
theorem dX6_decides_23 : decode cX6_decides 23 = .ok (.i2l, 1) := by decide +kernel
theorem dX6_decides_24 : decode cX6_decides 24 = .ok (.aload_n 0, 1) := by decide +kernel
theorem dX6_decides_25 : decode cX6_decides 25 = .ok (.getfield 70, 3) := by decide +kernel
theorem dX6_decides_28 : decode cX6_decides 28 = .ok (.lmul, 1) := by decide +kernel
theorem dX6_decides_29 : decode cX6_decides 29 = .ok (.lcmp, 1) := by decide +kernel
theorem dX6_decides_30 : decode cX6_decides 30 = .ok (.ifCond .le 7, 3) := by decide +kernel
theorem dX6_decides_33 : decode cX6_decides 33 = .ok (.iconst 1, 1) := by decide +kernel
theorem dX6_decides_34 : decode cX6_decides 34 = .ok (.goto 4, 3) := by decide +kernel
theorem dX6_decides_37 : decode cX6_decides 37 = .ok (.iconst 0, 1) := by decide +kernel
theorem dX6_decides_38 : decode cX6_decides 38 = .ok (.ireturn, 1) := by decide +kernel
theorem dX6_withVoices_0 : decode cX6_withVoices 0 = .ok (.iconst 0, 1) := by decide +kernel
theorem dX6_withVoices_1 : decode cX6_withVoices 1 = .ok (.istore_n 1, 1) := by decide +kernel
theorem dX6_withVoices_2 : decode cX6_withVoices 2 = .ok (.iconst 0, 1) := by decide +kernel
theorem dX6_withVoices_3 : decode cX6_withVoices 3 = .ok (.istore_n 2, 1) := by decide +kernel
theorem dX6_withVoices_4 : decode cX6_withVoices 4 = .ok (.iload_n 2, 1) := by decide +kernel
theorem dX6_withVoices_5 : decode cX6_withVoices 5 = .ok (.aload_n 0, 1) := by decide +kernel
theorem dX6_withVoices_6 : decode cX6_withVoices 6 = .ok (.getfield 34, 3) := by decide +kernel
theorem dX6_withVoices_9 : decode cX6_withVoices 9 = .ok (.getfield 109, 3) := by decide +kernel
theorem dX6_withVoices_12 : decode cX6_withVoices 12 = .ok (.if_icmp .ge 26, 3) := by decide +kernel
theorem dX6_withVoices_15 : decode cX6_withVoices 15 = .ok (.aload_n 0, 1) := by decide +kernel
theorem dX6_withVoices_16 : decode cX6_withVoices 16 = .ok (.getfield 20, 3) := by decide +kernel
theorem dX6_withVoices_19 : decode cX6_withVoices 19 = .ok (.iload_n 2, 1) := by decide +kernel
theorem dX6_withVoices_20 : decode cX6_withVoices 20 = .ok (.laload, 1) := by decide +kernel
theorem dX6_withVoices_21 : decode cX6_withVoices 21 = .ok (.lconst 0, 1) := by decide +kernel
theorem dX6_withVoices_22 : decode cX6_withVoices 22 = .ok (.lcmp, 1) := by decide +kernel
theorem dX6_withVoices_23 : decode cX6_withVoices 23 = .ok (.ifCond .le 9, 3) := by decide +kernel
theorem dX6_withVoices_26 : decode cX6_withVoices 26 = .ok (.iload_n 1, 1) := by decide +kernel
theorem dX6_withVoices_27 : decode cX6_withVoices 27 = .ok (.iconst 1, 1) := by decide +kernel
theorem dX6_withVoices_28 : decode cX6_withVoices 28 = .ok (.iload_n 2, 1) := by decide +kernel
theorem dX6_withVoices_29 : decode cX6_withVoices 29 = .ok (.ishl, 1) := by decide +kernel
theorem dX6_withVoices_30 : decode cX6_withVoices 30 = .ok (.ior, 1) := by decide +kernel
theorem dX6_withVoices_31 : decode cX6_withVoices 31 = .ok (.istore_n 1, 1) := by decide +kernel
theorem dX6_withVoices_32 : decode cX6_withVoices 32 = .ok (.iinc 2 1, 3) := by decide +kernel
theorem dX6_withVoices_35 : decode cX6_withVoices 35 = .ok (.goto (-31), 3) := by decide +kernel
theorem dX6_withVoices_38 : decode cX6_withVoices 38 = .ok (.iload_n 1, 1) := by decide +kernel
theorem dX6_withVoices_39 : decode cX6_withVoices 39 = .ok (.ireturn, 1) := by decide +kernel
theorem dX6_highest_0 : decode cX6_highest 0 = .ok (.lconst 0, 1) := by decide +kernel
theorem dX6_highest_1 : decode cX6_highest 1 = .ok (.lstore_n 1, 1) := by decide +kernel
theorem dX6_highest_2 : decode cX6_highest 2 = .ok (.iconst 0, 1) := by decide +kernel
theorem dX6_highest_3 : decode cX6_highest 3 = .ok (.istore_n 3, 1) := by decide +kernel
theorem dX6_highest_4 : decode cX6_highest 4 = .ok (.iload_n 3, 1) := by decide +kernel
theorem dX6_highest_5 : decode cX6_highest 5 = .ok (.aload_n 0, 1) := by decide +kernel
theorem dX6_highest_6 : decode cX6_highest 6 = .ok (.getfield 34, 3) := by decide +kernel
theorem dX6_highest_9 : decode cX6_highest 9 = .ok (.getfield 109, 3) := by decide +kernel
theorem dX6_highest_12 : decode cX6_highest 12 = .ok (.if_icmp .ge 20, 3) := by decide +kernel
theorem dX6_highest_15 : decode cX6_highest 15 = .ok (.lload_n 1, 1) := by decide +kernel
theorem dX6_highest_16 : decode cX6_highest 16 = .ok (.aload_n 0, 1) := by decide +kernel
theorem dX6_highest_17 : decode cX6_highest 17 = .ok (.getfield 20, 3) := by decide +kernel
theorem dX6_highest_20 : decode cX6_highest 20 = .ok (.iload_n 3, 1) := by decide +kernel
theorem dX6_highest_21 : decode cX6_highest 21 = .ok (.laload, 1) := by decide +kernel
theorem dX6_highest_22 : decode cX6_highest 22 = .ok (.invokestatic 124, 3) := by decide +kernel
theorem dX6_highest_25 : decode cX6_highest 25 = .ok (.lstore_n 1, 1) := by decide +kernel
theorem dX6_highest_26 : decode cX6_highest 26 = .ok (.iinc 3 1, 3) := by decide +kernel
theorem dX6_highest_29 : decode cX6_highest 29 = .ok (.goto (-25), 3) := by decide +kernel
theorem dX6_highest_32 : decode cX6_highest 32 = .ok (.lload_n 1, 1) := by decide +kernel
theorem dX6_highest_33 : decode cX6_highest 33 = .ok (.lreturn, 1) := by decide +kernel
theorem dX6_fork_0 : decode cX6_fork 0 = .ok (.iconst 0, 1) := by decide +kernel
theorem dX6_fork_1 : decode cX6_fork 1 = .ok (.istore 5, 2) := by decide +kernel
theorem dX6_fork_3 : decode cX6_fork 3 = .ok (.iload 5, 2) := by decide +kernel
theorem dX6_fork_5 : decode cX6_fork 5 = .ok (.iload_n 1, 1) := by decide +kernel
theorem dX6_fork_6 : decode cX6_fork 6 = .ok (.if_icmp .ge 75, 3) := by decide +kernel
theorem dX6_fork_9 : decode cX6_fork 9 = .ok (.iload_n 1, 1) := by decide +kernel
theorem dX6_fork_10 : decode cX6_fork 10 = .ok (.iload 5, 2) := by decide +kernel
theorem dX6_fork_12 : decode cX6_fork 12 = .ok (.iadd, 1) := by decide +kernel
theorem dX6_fork_13 : decode cX6_fork 13 = .ok (.aload_n 0, 1) := by decide +kernel
theorem dX6_fork_14 : decode cX6_fork 14 = .ok (.getfield 28, 3) := by decide +kernel
theorem dX6_fork_17 : decode cX6_fork 17 = .ok (.arraylength, 1) := by decide +kernel
theorem dX6_fork_18 : decode cX6_fork 18 = .ok (.if_icmp .ge 63, 3) := by decide +kernel
theorem dX6_fork_21 : decode cX6_fork 21 = .ok (.aload_n 0, 1) := by decide +kernel
theorem dX6_fork_22 : decode cX6_fork 22 = .ok (.getfield 28, 3) := by decide +kernel
theorem dX6_fork_25 : decode cX6_fork 25 = .ok (.iload_n 1, 1) := by decide +kernel
theorem dX6_fork_26 : decode cX6_fork 26 = .ok (.iload 5, 2) := by decide +kernel
theorem dX6_fork_28 : decode cX6_fork 28 = .ok (.iadd, 1) := by decide +kernel
theorem dX6_fork_29 : decode cX6_fork 29 = .ok (.aload_n 0, 1) := by decide +kernel
theorem dX6_fork_30 : decode cX6_fork 30 = .ok (.getfield 28, 3) := by decide +kernel
theorem dX6_fork_33 : decode cX6_fork 33 = .ok (.iload 5, 2) := by decide +kernel
theorem dX6_fork_35 : decode cX6_fork 35 = .ok (.laload, 1) := by decide +kernel
theorem dX6_fork_36 : decode cX6_fork 36 = .ok (.iload 4, 2) := by decide +kernel
theorem dX6_fork_38 : decode cX6_fork 38 = .ok (.i2l, 1) := by decide +kernel
theorem dX6_fork_39 : decode cX6_fork 39 = .ok (.lmul, 1) := by decide +kernel
theorem dX6_fork_40 : decode cX6_fork 40 = .ok (.lastore, 1) := by decide +kernel
theorem dX6_fork_41 : decode cX6_fork 41 = .ok (.aload_n 0, 1) := by decide +kernel
theorem dX6_fork_42 : decode cX6_fork 42 = .ok (.getfield 31, 3) := by decide +kernel
theorem dX6_fork_45 : decode cX6_fork 45 = .ok (.iload_n 1, 1) := by decide +kernel
theorem dX6_fork_46 : decode cX6_fork 46 = .ok (.iload 5, 2) := by decide +kernel
theorem dX6_fork_48 : decode cX6_fork 48 = .ok (.iadd, 1) := by decide +kernel
theorem dX6_fork_49 : decode cX6_fork 49 = .ok (.aload_n 0, 1) := by decide +kernel
theorem dX6_fork_50 : decode cX6_fork 50 = .ok (.getfield 31, 3) := by decide +kernel
theorem dX6_fork_53 : decode cX6_fork 53 = .ok (.iload 5, 2) := by decide +kernel
theorem dX6_fork_55 : decode cX6_fork 55 = .ok (.laload, 1) := by decide +kernel
theorem dX6_fork_56 : decode cX6_fork 56 = .ok (.lload_n 2, 1) := by decide +kernel
theorem dX6_fork_57 : decode cX6_fork 57 = .ok (.ladd, 1) := by decide +kernel
theorem dX6_fork_58 : decode cX6_fork 58 = .ok (.lastore, 1) := by decide +kernel
theorem dX6_fork_59 : decode cX6_fork 59 = .ok (.aload_n 0, 1) := by decide +kernel
theorem dX6_fork_60 : decode cX6_fork 60 = .ok (.getfield 28, 3) := by decide +kernel
theorem dX6_fork_63 : decode cX6_fork 63 = .ok (.iload 5, 2) := by decide +kernel
theorem dX6_fork_65 : decode cX6_fork 65 = .ok (.dup2, 1) := by decide +kernel
theorem dX6_fork_66 : decode cX6_fork 66 = .ok (.laload, 1) := by decide +kernel
theorem dX6_fork_67 : decode cX6_fork 67 = .ok (.bipush 10, 2) := by decide +kernel
theorem dX6_fork_69 : decode cX6_fork 69 = .ok (.iload 4, 2) := by decide +kernel
theorem dX6_fork_71 : decode cX6_fork 71 = .ok (.isub, 1) := by decide +kernel
theorem dX6_fork_72 : decode cX6_fork 72 = .ok (.i2l, 1) := by decide +kernel
theorem dX6_fork_73 : decode cX6_fork 73 = .ok (.lmul, 1) := by decide +kernel
theorem dX6_fork_74 : decode cX6_fork 74 = .ok (.lastore, 1) := by decide +kernel
theorem dX6_fork_75 : decode cX6_fork 75 = .ok (.iinc 5 1, 3) := by decide +kernel
theorem dX6_fork_78 : decode cX6_fork 78 = .ok (.goto (-75), 3) := by decide +kernel
theorem dX6_fork_81 : decode cX6_fork 81 = .ok (.return_, 1) := by decide +kernel
theorem dX6_chance_0 : decode cX6_chance 0 = .ok (.aload_n 0, 1) := by decide +kernel
theorem dX6_chance_1 : decode cX6_chance 1 = .ok (.invokevirtual 130, 3) := by decide +kernel
theorem dX6_chance_4 : decode cX6_chance 4 = .ok (.istore_n 2, 1) := by decide +kernel
theorem dX6_chance_5 : decode cX6_chance 5 = .ok (.aload_n 0, 1) := by decide +kernel
theorem dX6_chance_6 : decode cX6_chance 6 = .ok (.getfield 28, 3) := by decide +kernel
theorem dX6_chance_9 : decode cX6_chance 9 = .ok (.iconst 0, 1) := by decide +kernel
theorem dX6_chance_10 : decode cX6_chance 10 = .ok (.lconst 1, 1) := by decide +kernel
theorem dX6_chance_11 : decode cX6_chance 11 = .ok (.lastore, 1) := by decide +kernel
theorem dX6_chance_12 : decode cX6_chance 12 = .ok (.aload_n 0, 1) := by decide +kernel
theorem dX6_chance_13 : decode cX6_chance 13 = .ok (.getfield 31, 3) := by decide +kernel
theorem dX6_chance_16 : decode cX6_chance 16 = .ok (.iconst 0, 1) := by decide +kernel
theorem dX6_chance_17 : decode cX6_chance 17 = .ok (.lconst 0, 1) := by decide +kernel
theorem dX6_chance_18 : decode cX6_chance 18 = .ok (.lastore, 1) := by decide +kernel
theorem dX6_chance_19 : decode cX6_chance 19 = .ok (.iload_n 2, 1) := by decide +kernel
theorem dX6_chance_20 : decode cX6_chance 20 = .ok (.invokestatic 133, 3) := by decide +kernel
theorem dX6_chance_23 : decode cX6_chance 23 = .ok (.istore_n 3, 1) := by decide +kernel
theorem dX6_chance_24 : decode cX6_chance 24 = .ok (.iload_n 3, 1) := by decide +kernel
theorem dX6_chance_25 : decode cX6_chance 25 = .ok (.bipush 8, 2) := by decide +kernel
theorem dX6_chance_27 : decode cX6_chance 27 = .ok (.if_icmp .ge 21, 3) := by decide +kernel
theorem dX6_chance_30 : decode cX6_chance 30 = .ok (.aload_n 0, 1) := by decide +kernel
theorem dX6_chance_31 : decode cX6_chance 31 = .ok (.getfield 28, 3) := by decide +kernel
theorem dX6_chance_34 : decode cX6_chance 34 = .ok (.iconst 0, 1) := by decide +kernel
theorem dX6_chance_35 : decode cX6_chance 35 = .ok (.dup2, 1) := by decide +kernel
theorem dX6_chance_36 : decode cX6_chance 36 = .ok (.laload, 1) := by decide +kernel
theorem dX6_chance_37 : decode cX6_chance 37 = .ok (.ldc2_w 112, 3) := by decide +kernel
theorem dX6_chance_40 : decode cX6_chance 40 = .ok (.lmul, 1) := by decide +kernel
theorem dX6_chance_41 : decode cX6_chance 41 = .ok (.lastore, 1) := by decide +kernel
theorem dX6_chance_42 : decode cX6_chance 42 = .ok (.iinc 3 1, 3) := by decide +kernel
theorem dX6_chance_45 : decode cX6_chance 45 = .ok (.goto (-21), 3) := by decide +kernel
theorem dX6_chance_48 : decode cX6_chance 48 = .ok (.iconst 1, 1) := by decide +kernel
theorem dX6_chance_49 : decode cX6_chance 49 = .ok (.istore_n 3, 1) := by decide +kernel
theorem dX6_chance_50 : decode cX6_chance 50 = .ok (.iconst 0, 1) := by decide +kernel
theorem dX6_chance_51 : decode cX6_chance 51 = .ok (.istore 4, 2) := by decide +kernel
theorem dX6_chance_53 : decode cX6_chance 53 = .ok (.iload 4, 2) := by decide +kernel
theorem dX6_chance_55 : decode cX6_chance 55 = .ok (.aload_n 0, 1) := by decide +kernel
theorem dX6_chance_56 : decode cX6_chance 56 = .ok (.getfield 34, 3) := by decide +kernel
theorem dX6_chance_59 : decode cX6_chance 59 = .ok (.getfield 109, 3) := by decide +kernel
theorem dX6_chance_62 : decode cX6_chance 62 = .ok (.if_icmp .ge 48, 3) := by decide +kernel
theorem dX6_chance_65 : decode cX6_chance 65 = .ok (.iload_n 2, 1) := by decide +kernel
theorem dX6_chance_66 : decode cX6_chance 66 = .ok (.iload 4, 2) := by decide +kernel
theorem dX6_chance_68 : decode cX6_chance 68 = .ok (.ishr, 1) := by decide +kernel
theorem dX6_chance_69 : decode cX6_chance 69 = .ok (.iconst 1, 1) := by decide +kernel
theorem dX6_chance_70 : decode cX6_chance 70 = .ok (.iand, 1) := by decide +kernel
theorem dX6_chance_71 : decode cX6_chance 71 = .ok (.ifCond .eq 33, 3) := by decide +kernel
theorem dX6_chance_74 : decode cX6_chance 74 = .ok (.aload_n 0, 1) := by decide +kernel
theorem dX6_chance_75 : decode cX6_chance 75 = .ok (.iload_n 3, 1) := by decide +kernel
theorem dX6_chance_76 : decode cX6_chance 76 = .ok (.aload_n 0, 1) := by decide +kernel
theorem dX6_chance_77 : decode cX6_chance 77 = .ok (.getfield 20, 3) := by decide +kernel
theorem dX6_chance_80 : decode cX6_chance 80 = .ok (.iload 4, 2) := by decide +kernel
theorem dX6_chance_82 : decode cX6_chance 82 = .ok (.laload, 1) := by decide +kernel
theorem dX6_chance_83 : decode cX6_chance 83 = .ok (.aload_n 0, 1) := by decide +kernel
theorem dX6_chance_84 : decode cX6_chance 84 = .ok (.getfield 34, 3) := by decide +kernel
theorem dX6_chance_87 : decode cX6_chance 87 = .ok (.getfield 138, 3) := by decide +kernel
theorem dX6_chance_90 : decode cX6_chance 90 = .ok (.iload 4, 2) := by decide +kernel
theorem dX6_chance_92 : decode cX6_chance 92 = .ok (.iload_n 1, 1) := by decide +kernel
theorem dX6_chance_93 : decode cX6_chance 93 = .ok (.invokestatic 141, 3) := by decide +kernel
theorem dX6_chance_96 : decode cX6_chance 96 = .ok (.iaload, 1) := by decide +kernel
theorem dX6_chance_97 : decode cX6_chance 97 = .ok (.invokevirtual 145, 3) := by decide +kernel
theorem dX6_chance_100 : decode cX6_chance 100 = .ok (.iload_n 3, 1) := by decide +kernel
theorem dX6_chance_101 : decode cX6_chance 101 = .ok (.iconst 2, 1) := by decide +kernel
theorem dX6_chance_102 : decode cX6_chance 102 = .ok (.imul, 1) := by decide +kernel
theorem dX6_chance_103 : decode cX6_chance 103 = .ok (.istore_n 3, 1) := by decide +kernel
theorem dX6_chance_104 : decode cX6_chance 104 = .ok (.iinc 4 1, 3) := by decide +kernel
theorem dX6_chance_107 : decode cX6_chance 107 = .ok (.goto (-54), 3) := by decide +kernel
theorem dX6_chance_110 : decode cX6_chance 110 = .ok (.lconst 0, 1) := by decide +kernel
theorem dX6_chance_111 : decode cX6_chance 111 = .ok (.lstore 4, 2) := by decide +kernel
theorem dX6_chance_113 : decode cX6_chance 113 = .ok (.iconst 0, 1) := by decide +kernel
theorem dX6_chance_114 : decode cX6_chance 114 = .ok (.istore 6, 2) := by decide +kernel
theorem dX6_chance_116 : decode cX6_chance 116 = .ok (.iload 6, 2) := by decide +kernel
theorem dX6_chance_118 : decode cX6_chance 118 = .ok (.iload_n 3, 1) := by decide +kernel
theorem dX6_chance_119 : decode cX6_chance 119 = .ok (.if_icmp .ge 35, 3) := by decide +kernel
theorem dX6_chance_122 : decode cX6_chance 122 = .ok (.aload_n 0, 1) := by decide +kernel
theorem dX6_chance_123 : decode cX6_chance 123 = .ok (.aload_n 0, 1) := by decide +kernel
theorem dX6_chance_124 : decode cX6_chance 124 = .ok (.getfield 31, 3) := by decide +kernel
theorem dX6_chance_127 : decode cX6_chance 127 = .ok (.iload 6, 2) := by decide +kernel
theorem dX6_chance_129 : decode cX6_chance 129 = .ok (.laload, 1) := by decide +kernel
theorem dX6_chance_130 : decode cX6_chance 130 = .ok (.invokevirtual 149, 3) := by decide +kernel
theorem dX6_chance_133 : decode cX6_chance 133 = .ok (.ifCond .eq 15, 3) := by decide +kernel
theorem dX6_chance_136 : decode cX6_chance 136 = .ok (.lload 4, 2) := by decide +kernel
theorem dX6_chance_138 : decode cX6_chance 138 = .ok (.aload_n 0, 1) := by decide +kernel
theorem dX6_chance_139 : decode cX6_chance 139 = .ok (.getfield 28, 3) := by decide +kernel
theorem dX6_chance_142 : decode cX6_chance 142 = .ok (.iload 6, 2) := by decide +kernel
theorem dX6_chance_144 : decode cX6_chance 144 = .ok (.laload, 1) := by decide +kernel
theorem dX6_chance_145 : decode cX6_chance 145 = .ok (.ladd, 1) := by decide +kernel
theorem dX6_chance_146 : decode cX6_chance 146 = .ok (.lstore 4, 2) := by decide +kernel
theorem dX6_chance_148 : decode cX6_chance 148 = .ok (.iinc 6 1, 3) := by decide +kernel
theorem dX6_chance_151 : decode cX6_chance 151 = .ok (.goto (-35), 3) := by decide +kernel
theorem dX6_chance_154 : decode cX6_chance 154 = .ok (.lload 4, 2) := by decide +kernel
theorem dX6_chance_156 : decode cX6_chance 156 = .ok (.lreturn, 1) := by decide +kernel
theorem dX6_chanceIf_0 : decode cX6_chanceIf 0 = .ok (.aload_n 0, 1) := by decide +kernel
theorem dX6_chanceIf_1 : decode cX6_chanceIf 1 = .ok (.getfield 42, 3) := by decide +kernel
theorem dX6_chanceIf_4 : decode cX6_chanceIf 4 = .ok (.iload_n 1, 1) := by decide +kernel
theorem dX6_chanceIf_5 : decode cX6_chanceIf 5 = .ok (.aload_n 0, 1) := by decide +kernel
theorem dX6_chanceIf_6 : decode cX6_chanceIf 6 = .ok (.getfield 34, 3) := by decide +kernel
theorem dX6_chanceIf_9 : decode cX6_chanceIf 9 = .ok (.getfield 46, 3) := by decide +kernel
theorem dX6_chanceIf_12 : decode cX6_chanceIf 12 = .ok (.iload_n 2, 1) := by decide +kernel
theorem dX6_chanceIf_13 : decode cX6_chanceIf 13 = .ok (.iload_n 3, 1) := by decide +kernel
theorem dX6_chanceIf_14 : decode cX6_chanceIf 14 = .ok (.iload 4, 2) := by decide +kernel
theorem dX6_chanceIf_16 : decode cX6_chanceIf 16 = .ok (.invokevirtual 56, 3) := by decide +kernel
theorem dX6_chanceIf_19 : decode cX6_chanceIf 19 = .ok (.aload_n 0, 1) := by decide +kernel
theorem dX6_chanceIf_20 : decode cX6_chanceIf 20 = .ok (.invokevirtual 61, 3) := by decide +kernel
theorem dX6_chanceIf_23 : decode cX6_chanceIf 23 = .ok (.aload_n 0, 1) := by decide +kernel
theorem dX6_chanceIf_24 : decode cX6_chanceIf 24 = .ok (.iload_n 1, 1) := by decide +kernel
theorem dX6_chanceIf_25 : decode cX6_chanceIf 25 = .ok (.invokevirtual 127, 3) := by decide +kernel
theorem dX6_chanceIf_28 : decode cX6_chanceIf 28 = .ok (.lreturn, 1) := by decide +kernel
def L_X6_listHeard_4 (l : Launch) (e : hv_Ev)  (Φ : Int32 → hv_S → Prop) (x1 : Int32) (x2 : Int32) (x3 : Int32) (σ : hv_S) : Prop := hv_TW l (hv_e1 e) (hv_rm 0) 0 0 m_X6_listHeard hv_no (hv_ZI (hv_e1 e) Φ) 4 [(0, .ref 21), (1, .int x1), (2, .int x2), (3, .int x3)] [] σ
set_option maxHeartbeats 4000000 in
set_option maxRecDepth 100000 in
theorem B_X6_listHeard_4 {l : Launch} {e : hv_Ev}  (x1 : Int32) (x2 : Int32) (x3 : Int32) {σ : hv_S} {Φ : Int32 → hv_S → Prop} (h : (((σ.1 1 7) ≤ x3 → Φ x2 σ) ∧ (¬ (σ.1 1 7) ≤ x3 → ((((x1 >>> (x3 &&& 31)) &&& 1) = 0 → L_X6_listHeard_4 l e Φ x1 x2 (x3 + 1) σ) ∧ (¬ ((x1 >>> (x3 &&& 31)) &&& 1) = 0 → (vp_in x2 8 ∧ L_X6_listHeard_4 l e Φ x1 (x2 + 1) (x3 + 1) (hv_ui σ 22 x2.toNatClampNeg x3))))))) : L_X6_listHeard_4 l e Φ x1 x2 x3 σ := by
  show hv_TW l (hv_e1 e) (hv_rm 0) 0 0 m_X6_listHeard hv_no (hv_ZI (hv_e1 e) Φ) 4 [(0, .ref 21), (1, .int x1), (2, .int x2), (3, .int x3)] [] σ
  refine T_iload_n dX6_listHeard_4 rfl 3 rfl ?_
  refine T_aload_n dX6_listHeard_5 rfl 0 rfl ?_
  refine T_get (v := .ref 1) dX6_listHeard_6 fl_X6_34 hp_21 hs_21 rfl rfl ?_
  refine T_get (v := .int (σ.1 1 7)) dX6_listHeard_9 fl_X6_109 hp_1 hs_1 rfl rfl ?_
  refine T_icmp_ge (tgt := 39) dX6_listHeard_12 (by decide) (fun c1 => ?_) (fun c1 => ?_)
  · refine T_iload_n dX6_listHeard_39 rfl 2 rfl ?_
    exact T_iret dX6_listHeard_40 rfl (h.1 c1)
  · refine T_iload_n dX6_listHeard_15 rfl 1 rfl ?_
    refine T_iload_n dX6_listHeard_16 rfl 3 rfl ?_
    refine T_ishr dX6_listHeard_17 ?_
    refine T_iconst (v := 1) dX6_listHeard_18 (by decide) ?_
    refine T_iand dX6_listHeard_19 ?_
    refine T_if_eq (tgt := 33) dX6_listHeard_20 (by decide) (fun c2 => ?_) (fun c2 => ?_)
    · refine T_iinc (v := (x3 + 1)) dX6_listHeard_33 3 rfl rfl (by decide) rfl ?_
      refine T_goto (tgt := 4) dX6_listHeard_36 (by decide) ?_
      exact T_sub [1, 2, 3, 0] rfl ((h.2 c1).1 c2)
    · refine T_aload_n dX6_listHeard_23 rfl 0 rfl ?_
      refine T_get (v := .ref 22) dX6_listHeard_24 fl_X6_9 hp_21 hs_21 rfl rfl ?_
      refine T_iload_n dX6_listHeard_27 rfl 2 rfl ?_
      refine T_iload_n dX6_listHeard_28 rfl 3 rfl ?_
      refine T_iast dX6_listHeard_29 hp_22 hs_22 ((h.2 c1).2 c2).1 ?_
      refine T_iinc (v := (x2 + 1)) dX6_listHeard_30 2 rfl rfl (by decide) rfl ?_
      refine T_iinc (v := (x3 + 1)) dX6_listHeard_33 3 rfl rfl (by decide) rfl ?_
      refine T_goto (tgt := 4) dX6_listHeard_36 (by decide) ?_
      exact T_sub [2, 3, 1, 0] rfl ((h.2 c1).2 c2).2
set_option maxHeartbeats 4000000 in
set_option maxRecDepth 100000 in
theorem B_X6_listHeard {l : Launch} {e : hv_Ev}  (x1 : Int32) {σ : hv_S} {Φ : Int32 → hv_S → Prop} (h : L_X6_listHeard_4 l e Φ x1 0 0 σ) : hv_CI l (hv_e1 e) 0 m_X6_listHeard [.ref 21, .int x1] σ Φ := by
  refine hv_entI (by decide) (Nat.le_of_ble_eq_true rfl) ?_
  show hv_TW l (hv_e1 e) (hv_rm 0) 0 0 m_X6_listHeard hv_no (hv_ZI (hv_e1 e) Φ) 0 [(0, .ref 21), (1, .int x1)] [] σ
  refine T_iconst (v := 0) dX6_listHeard_0 (by decide) ?_
  refine T_istore_n dX6_listHeard_1 rfl (by decide) rfl ?_
  refine T_iconst (v := 0) dX6_listHeard_2 (by decide) ?_
  refine T_istore_n dX6_listHeard_3 rfl (by decide) rfl ?_
  exact T_sub [2, 3, 1, 0] rfl h

def L_X6_fillRows_2 (l : Launch) (e : hv_Ev)  (Φ : hv_S → Prop) (x1 : Int32) (x2 : Int32) (σ : hv_S) : Prop := hv_TW l (hv_e1 e) (hv_rm 0) 0 0 m_X6_fillRows hv_no (hv_ZV (hv_e1 e) Φ) 2 [(0, .ref 21), (1, .int x1), (2, .int x2)] [] σ
def L_X6_fillRows_9 (l : Launch) (e : hv_Ev)  (Φ : hv_S → Prop) (x1 : Int32) (x2 : Int32) (x3 : Int32) (σ : hv_S) : Prop := hv_TW l (hv_e1 e) (hv_rm 0) 0 0 m_X6_fillRows hv_no (hv_ZV (hv_e1 e) Φ) 9 [(0, .ref 21), (1, .int x1), (2, .int x2), (3, .int x3)] [] σ
set_option maxHeartbeats 4000000 in
set_option maxRecDepth 100000 in
theorem B_X6_fillRows_9 {l : Launch} {e : hv_Ev}  (x1 : Int32) (x2 : Int32) (x3 : Int32) {σ : hv_S} {Φ : hv_S → Prop} (h : ((x1 ≤ x3 → (vp_in x2 8 ∧ (vp_in x1 9 ∧ L_X6_fillRows_2 l e Φ x1 (x2 + 1) (hv_ul σ (24 + x2.toNatClampNeg) x1.toNatClampNeg 1)))) ∧ (¬ x1 ≤ x3 → (vp_in x2 8 ∧ ((x2 ≠ x3 → (vp_in x3 8 ∧ (vp_in x2 8 ∧ (vp_in (((σ.1 22 x3.toNatClampNeg) * 8) + (σ.1 22 x2.toNatClampNeg)) 64 ∧ (vp_in x3 9 ∧ L_X6_fillRows_9 l e Φ x1 x2 (x3 + 1) (hv_ul σ (24 + x2.toNatClampNeg) x3.toNatClampNeg ((-(σ.1 19 ((((σ.1 22 x3.toNatClampNeg) * 8) + (σ.1 22 x2.toNatClampNeg)).toNatClampNeg))).toInt64))))))) ∧ (x2 = x3 → (vp_in x3 9 ∧ L_X6_fillRows_9 l e Φ x1 x2 (x3 + 1) (hv_ul σ (24 + x2.toNatClampNeg) x3.toNatClampNeg 10)))))))) : L_X6_fillRows_9 l e Φ x1 x2 x3 σ := by
  show hv_TW l (hv_e1 e) (hv_rm 0) 0 0 m_X6_fillRows hv_no (hv_ZV (hv_e1 e) Φ) 9 [(0, .ref 21), (1, .int x1), (2, .int x2), (3, .int x3)] [] σ
  refine T_iload_n dX6_fillRows_9 rfl 3 rfl ?_
  refine T_iload_n dX6_fillRows_10 rfl 1 rfl ?_
  refine T_icmp_ge (tgt := 65) dX6_fillRows_11 (by decide) (fun c4 => ?_) (fun c4 => ?_)
  · refine T_aload_n dX6_fillRows_65 rfl 0 rfl ?_
    refine T_get (v := .ref 23) dX6_fillRows_66 fl_X6_17 hp_21 hs_21 rfl rfl ?_
    refine T_iload_n dX6_fillRows_69 rfl 2 rfl ?_
    have b2 := (h.1 c4).1
    refine T_aald dX6_fillRows_70 hp_23 hs_23 b2 ?_
    refine T_iload_n dX6_fillRows_71 rfl 1 rfl ?_
    refine T_lconst (v := 1) dX6_fillRows_72 (by decide) ?_
    refine T_last dX6_fillRows_73 (hv_rowp b2) (hv_rows b2) (h.1 c4).2.1 ?_
    refine T_iinc (v := (x2 + 1)) dX6_fillRows_74 2 rfl rfl (by decide) rfl ?_
    refine T_goto (tgt := 2) dX6_fillRows_77 (by decide) ?_
    exact T_sub [1, 2, 0] rfl (h.1 c4).2.2
  · refine T_aload_n dX6_fillRows_14 rfl 0 rfl ?_
    refine T_get (v := .ref 23) dX6_fillRows_15 fl_X6_17 hp_21 hs_21 rfl rfl ?_
    refine T_iload_n dX6_fillRows_18 rfl 2 rfl ?_
    have b3 := (h.2 c4).1
    refine T_aald dX6_fillRows_19 hp_23 hs_23 b3 ?_
    refine T_iload_n dX6_fillRows_20 rfl 3 rfl ?_
    refine T_iload_n dX6_fillRows_21 rfl 2 rfl ?_
    refine T_iload_n dX6_fillRows_22 rfl 3 rfl ?_
    refine T_icmp_ne (tgt := 32) dX6_fillRows_23 (by decide) (fun c5 => ?_) (fun c5 => ?_)
    · refine T_aload_n dX6_fillRows_32 rfl 0 rfl ?_
      refine T_get (v := .ref 18) dX6_fillRows_33 fl_X6_42 hp_21 hs_21 rfl rfl ?_
      refine T_get (v := .ref 19) dX6_fillRows_36 fl_X6_100 hp_18 hs_18 rfl rfl ?_
      refine T_aload_n dX6_fillRows_39 rfl 0 rfl ?_
      refine T_get (v := .ref 22) dX6_fillRows_40 fl_X6_9 hp_21 hs_21 rfl rfl ?_
      refine T_iload_n dX6_fillRows_43 rfl 3 rfl ?_
      refine T_iald dX6_fillRows_44 hp_22 hs_22 ((h.2 c4).2.1 c5).1 ?_
      refine T_bipush (v := 8) dX6_fillRows_45 (by decide) ?_
      refine T_imul dX6_fillRows_47 ?_
      refine T_aload_n dX6_fillRows_48 rfl 0 rfl ?_
      refine T_get (v := .ref 22) dX6_fillRows_49 fl_X6_9 hp_21 hs_21 rfl rfl ?_
      refine T_iload_n dX6_fillRows_52 rfl 2 rfl ?_
      refine T_iald dX6_fillRows_53 hp_22 hs_22 ((h.2 c4).2.1 c5).2.1 ?_
      refine T_iadd dX6_fillRows_54 ?_
      refine T_iald dX6_fillRows_55 hp_19 hs_19 ((h.2 c4).2.1 c5).2.2.1 ?_
      refine T_ineg dX6_fillRows_56 ?_
      refine T_i2l dX6_fillRows_57 ?_
      refine T_last dX6_fillRows_58 (hv_rowp b3) (hv_rows b3) ((h.2 c4).2.1 c5).2.2.2.1 ?_
      refine T_iinc (v := (x3 + 1)) dX6_fillRows_59 3 rfl rfl (by decide) rfl ?_
      refine T_goto (tgt := 9) dX6_fillRows_62 (by decide) ?_
      exact T_sub [1, 2, 3, 0] rfl ((h.2 c4).2.1 c5).2.2.2.2
    · refine T_ldc2 dX6_fillRows_26 kl_X6_112 ?_
      refine T_goto (tgt := 58) dX6_fillRows_29 (by decide) ?_
      refine T_last dX6_fillRows_58 (hv_rowp b3) (hv_rows b3) ((h.2 c4).2.2 c5).1 ?_
      refine T_iinc (v := (x3 + 1)) dX6_fillRows_59 3 rfl rfl (by decide) rfl ?_
      refine T_goto (tgt := 9) dX6_fillRows_62 (by decide) ?_
      exact T_sub [1, 2, 3, 0] rfl ((h.2 c4).2.2 c5).2
set_option maxHeartbeats 4000000 in
set_option maxRecDepth 100000 in
theorem B_X6_fillRows_2 {l : Launch} {e : hv_Ev}  (x1 : Int32) (x2 : Int32) {σ : hv_S} {Φ : hv_S → Prop} (h : ((x1 ≤ x2 → Φ σ) ∧ (¬ x1 ≤ x2 → L_X6_fillRows_9 l e Φ x1 x2 0 σ))) : L_X6_fillRows_2 l e Φ x1 x2 σ := by
  show hv_TW l (hv_e1 e) (hv_rm 0) 0 0 m_X6_fillRows hv_no (hv_ZV (hv_e1 e) Φ) 2 [(0, .ref 21), (1, .int x1), (2, .int x2)] [] σ
  refine T_iload_n dX6_fillRows_2 rfl 2 rfl ?_
  refine T_iload_n dX6_fillRows_3 rfl 1 rfl ?_
  refine T_icmp_ge (tgt := 80) dX6_fillRows_4 (by decide) (fun c1 => ?_) (fun c1 => ?_)
  · exact T_vret dX6_fillRows_80 rfl (h.1 c1)
  · refine T_iconst (v := 0) dX6_fillRows_7 (by decide) ?_
    refine T_istore_n dX6_fillRows_8 rfl (by decide) rfl ?_
    exact T_sub [1, 2, 3, 0] rfl (h.2 c1)
set_option maxHeartbeats 4000000 in
set_option maxRecDepth 100000 in
theorem B_X6_fillRows {l : Launch} {e : hv_Ev}  (x1 : Int32) {σ : hv_S} {Φ : hv_S → Prop} (h : L_X6_fillRows_2 l e Φ x1 0 σ) : hv_CV l (hv_e1 e) 0 m_X6_fillRows [.ref 21, .int x1] σ Φ := by
  refine hv_entV (by decide) (Nat.le_of_ble_eq_true rfl) ?_
  show hv_TW l (hv_e1 e) (hv_rm 0) 0 0 m_X6_fillRows hv_no (hv_ZV (hv_e1 e) Φ) 0 [(0, .ref 21), (1, .int x1)] [] σ
  refine T_iconst (v := 0) dX6_fillRows_0 (by decide) ?_
  refine T_istore_n dX6_fillRows_1 rfl (by decide) rfl ?_
  exact T_sub [1, 2, 0] rfl h

def L_X6_clear_23 (l : Launch) (e : hv_Ev) (p : Nat) (q : Nat) (Φ : hv_S → Prop) (x3 : Int32) (y4 : Int64) (y6 : Int64) (y8 : Int64) (x10 : Int32) (σ : hv_S) : Prop := hv_TW l (hv_e1 e) (hv_rm 0) 0 0 m_X6_clear hv_no (hv_ZV (hv_e1 e) Φ) 23 [(0, .ref p), (1, .ref q), (3, .int x3), (4, .long y4), (6, .long y6), (8, .long y8), (10, .int x10)] [] σ
set_option maxHeartbeats 4000000 in
set_option maxRecDepth 100000 in
theorem B_X6_clear_23 {l : Launch} {e : hv_Ev} (p : Nat) (q : Nat) (hpp : p ∈ hv_pl1) (hpq : q ∈ hv_pl1) (hsp : hv_sh1 p = .inr (1, 9)) (hsq : hv_sh1 q = .inr (1, 9)) (x3 : Int32) (y4 : Int64) (y6 : Int64) (y8 : Int64) (x10 : Int32) {σ : hv_S} {Φ : hv_S → Prop} (h : ((x3 < x10 → Φ σ) ∧ (¬ x3 < x10 → (vp_in x10 9 ∧ (vp_in x10 9 ∧ (¬ y4 = 0 ∧ (vp_in x10 9 ∧ L_X6_clear_23 l e p q Φ x3 y4 y6 y8 (x10 + 1) (hv_ul σ p x10.toNatClampNeg (((y8 * (σ.2.1 p x10.toNatClampNeg)) - (y6 * (σ.2.1 q x10.toNatClampNeg))) / y4))))))))) : L_X6_clear_23 l e p q Φ x3 y4 y6 y8 x10 σ := by
  show hv_TW l (hv_e1 e) (hv_rm 0) 0 0 m_X6_clear hv_no (hv_ZV (hv_e1 e) Φ) 23 [(0, .ref p), (1, .ref q), (3, .int x3), (4, .long y4), (6, .long y6), (8, .long y8), (10, .int x10)] [] σ
  refine T_iload dX6_clear_23 6 rfl ?_
  refine T_iload_n dX6_clear_25 rfl 2 rfl ?_
  refine T_icmp_gt (tgt := 57) dX6_clear_26 (by decide) (fun c2 => ?_) (fun c2 => ?_)
  · exact T_vret dX6_clear_57 rfl (h.1 c2)
  · refine T_aload_n dX6_clear_29 rfl 0 rfl ?_
    refine T_iload dX6_clear_30 6 rfl ?_
    refine T_lload dX6_clear_32 5 rfl ?_
    refine T_aload_n dX6_clear_34 rfl 0 rfl ?_
    refine T_iload dX6_clear_35 6 rfl ?_
    refine T_lald dX6_clear_37 hpp hsp (h.2 c2).1 ?_
    refine T_lmul dX6_clear_38 ?_
    refine T_lload dX6_clear_39 4 rfl ?_
    refine T_aload_n dX6_clear_41 rfl 1 rfl ?_
    refine T_iload dX6_clear_42 6 rfl ?_
    refine T_lald dX6_clear_44 hpq hsq (h.2 c2).2.1 ?_
    refine T_lmul dX6_clear_45 ?_
    refine T_lsub dX6_clear_46 ?_
    refine T_lload dX6_clear_47 3 rfl ?_
    refine T_ldiv dX6_clear_49 ((h.2 c2).2.2.1) ?_
    refine T_last dX6_clear_50 hpp hsp (h.2 c2).2.2.2.1 ?_
    refine T_iinc (v := (x10 + 1)) dX6_clear_51 6 rfl rfl (by decide) rfl ?_
    refine T_goto (tgt := 23) dX6_clear_54 (by decide) ?_
    exact T_sub [1, 2, 3, 4, 5, 6, 0] rfl (h.2 c2).2.2.2.2
set_option maxHeartbeats 4000000 in
set_option maxRecDepth 100000 in
theorem B_X6_clear {l : Launch} {e : hv_Ev} (p : Nat) (q : Nat) (hpp : p ∈ hv_pl1) (hpq : q ∈ hv_pl1) (hsp : hv_sh1 p = .inr (1, 9)) (hsq : hv_sh1 q = .inr (1, 9)) (x3 : Int32) (x4 : Int32) (y5 : Int64) {σ : hv_S} {Φ : hv_S → Prop} (h : (vp_in x3 9 ∧ (vp_in x3 9 ∧ ((y5 ≠ 0 → L_X6_clear_23 l e p q Φ x4 y5 (σ.2.1 p x3.toNatClampNeg) (σ.2.1 q x3.toNatClampNeg) (x3 + 1) σ) ∧ (y5 = 0 → Φ σ))))) : hv_CV l (hv_e1 e) 0 m_X6_clear [.ref p, .ref q, .int x3, .int x4, .long y5] σ Φ := by
  refine hv_entV (by decide) (Nat.le_of_ble_eq_true rfl) ?_
  show hv_TW l (hv_e1 e) (hv_rm 0) 0 0 m_X6_clear hv_no (hv_ZV (hv_e1 e) Φ) 0 [(0, .ref p), (1, .ref q), (2, .int x3), (3, .int x4), (4, .long y5)] [] σ
  refine T_aload_n dX6_clear_0 rfl 0 rfl ?_
  refine T_iload_n dX6_clear_1 rfl 2 rfl ?_
  refine T_lald dX6_clear_2 hpp hsp h.1 ?_
  refine T_lstore dX6_clear_3 (by decide) rfl ?_
  refine T_aload_n dX6_clear_5 rfl 2 rfl ?_
  refine T_iload_n dX6_clear_6 rfl 3 rfl ?_
  refine T_lald dX6_clear_7 hpq hsq h.2.1 ?_
  refine T_lstore dX6_clear_8 (by decide) rfl ?_
  refine T_lload dX6_clear_10 6 rfl ?_
  refine T_lconst (v := 0) dX6_clear_12 (by decide) ?_
  refine T_lc_ne (tgt := 18) dX6_clear_13 dX6_clear_14 (by decide) (fun c1 => ?_) (fun c1 => ?_)
  · refine T_iload_n dX6_clear_18 rfl 4 rfl ?_
    refine T_iconst (v := 1) dX6_clear_19 (by decide) ?_
    refine T_iadd dX6_clear_20 ?_
    refine T_istore dX6_clear_21 (by decide) rfl ?_
    exact T_sub [3, 4, 6, 7, 2, 1, 0] rfl (h.2.2.1 c1)
  · exact T_vret dX6_clear_17 rfl (h.2.2.2 c1)

def L_X6_unroll_5 (l : Launch) (e : hv_Ev)  (Φ : Int64 → hv_S → Prop) (x1 : Int32) (y2 : Int64) (x4 : Int32) (σ : hv_S) : Prop := hv_TW l (hv_e1 e) (hv_rm 1) 0 0 m_X6_unroll hv_no (hv_ZL (hv_e1 e) Φ) 5 [(0, .ref 21), (1, .int x1), (2, .long y2), (4, .int x4)] [] σ
def L_X6_unroll_35 (l : Launch) (e : hv_Ev)  (Φ : Int64 → hv_S → Prop) (x1 : Int32) (y2 : Int64) (x4 : Int32) (y5 : Int64) (x7 : Int32) (σ : hv_S) : Prop := hv_TW l (hv_e1 e) (hv_rm 1) 0 0 m_X6_unroll hv_no (hv_ZL (hv_e1 e) Φ) 35 [(0, .ref 21), (1, .int x1), (2, .long y2), (4, .int x4), (5, .long y5), (7, .int x7)] [] σ
set_option maxHeartbeats 4000000 in
set_option maxRecDepth 100000 in
theorem B_X6_unroll_35 {l : Launch} {e : hv_Ev}  (x1 : Int32) (y2 : Int64) (x4 : Int32) (y5 : Int64) (x7 : Int32) {σ : hv_S} {Φ : Int64 → hv_S → Prop} (h : ((x1 ≤ x7 → L_X6_unroll_5 l e Φ x1 y5 (x4 + 1) σ) ∧ (¬ x1 ≤ x7 → ((x7 = x4 → L_X6_unroll_35 l e Φ x1 y2 x4 y5 (x7 + 1) σ) ∧ (¬ x7 = x4 → (vp_in x7 8 ∧ (vp_in x4 8 ∧ hv_CV l (hv_e1 e) 0 m_X6_clear [.ref (24 + x7.toNatClampNeg), .ref (24 + x4.toNatClampNeg), .int x4, .int x1, .long y2] σ (fun s6 => L_X6_unroll_35 l e Φ x1 y2 x4 y5 (x7 + 1) s6)))))))) : L_X6_unroll_35 l e Φ x1 y2 x4 y5 x7 σ := by
  show hv_TW l (hv_e1 e) (hv_rm 1) 0 0 m_X6_unroll hv_no (hv_ZL (hv_e1 e) Φ) 35 [(0, .ref 21), (1, .int x1), (2, .long y2), (4, .int x4), (5, .long y5), (7, .int x7)] [] σ
  refine T_iload dX6_unroll_35 5 rfl ?_
  refine T_iload_n dX6_unroll_37 rfl 1 rfl ?_
  refine T_icmp_ge (tgt := 75) dX6_unroll_38 (by decide) (fun c9 => ?_) (fun c9 => ?_)
  · refine T_lload dX6_unroll_75 4 rfl ?_
    refine T_lstore_n dX6_unroll_77 rfl (by decide) rfl ?_
    refine T_iinc (v := (x4 + 1)) dX6_unroll_78 3 rfl rfl (by decide) rfl ?_
    refine T_goto (tgt := 5) dX6_unroll_81 (by decide) ?_
    exact T_sub [2, 3, 1, 0] rfl (h.1 c9)
  · refine T_iload dX6_unroll_41 5 rfl ?_
    refine T_iload dX6_unroll_43 3 rfl ?_
    refine T_icmp_eq (tgt := 69) dX6_unroll_45 (by decide) (fun c10 => ?_) (fun c10 => ?_)
    · refine T_iinc (v := (x7 + 1)) dX6_unroll_69 5 rfl rfl (by decide) rfl ?_
      refine T_goto (tgt := 35) dX6_unroll_72 (by decide) ?_
      exact T_sub [1, 2, 3, 4, 5, 0] rfl ((h.2 c9).1 c10)
    · refine T_aload_n dX6_unroll_48 rfl 0 rfl ?_
      refine T_get (v := .ref 23) dX6_unroll_49 fl_X6_17 hp_21 hs_21 rfl rfl ?_
      refine T_iload dX6_unroll_52 5 rfl ?_
      have b4 := ((h.2 c9).2 c10).1
      refine T_aald dX6_unroll_54 hp_23 hs_23 b4 ?_
      refine T_aload_n dX6_unroll_55 rfl 0 rfl ?_
      refine T_get (v := .ref 23) dX6_unroll_56 fl_X6_17 hp_21 hs_21 rfl rfl ?_
      refine T_iload dX6_unroll_59 3 rfl ?_
      have b5 := ((h.2 c9).2 c10).2.1
      refine T_aald dX6_unroll_61 hp_23 hs_23 b5 ?_
      refine T_iload dX6_unroll_62 3 rfl ?_
      refine T_iload_n dX6_unroll_64 rfl 1 rfl ?_
      refine T_lload_n dX6_unroll_65 rfl 2 rfl ?_
      refine T_SV (As := [.ref (24 + x7.toNatClampNeg), .ref (24 + x4.toNatClampNeg), .int x4, .int x1, .long y2]) dX6_unroll_66 ms_X6_114 rfl (Nat.le_of_ble_eq_true rfl) (hv_ok1 rfl) rfl (((h.2 c9).2 c10).2.2) (fun s6 h8 => ?_)
      refine T_iinc (v := (x7 + 1)) dX6_unroll_69 5 rfl rfl (by decide) rfl ?_
      refine T_goto (tgt := 35) dX6_unroll_72 (by decide) ?_
      exact T_sub [1, 2, 3, 4, 5, 0] rfl h8
set_option maxHeartbeats 4000000 in
set_option maxRecDepth 100000 in
theorem B_X6_unroll_5 {l : Launch} {e : hv_Ev}  (x1 : Int32) (y2 : Int64) (x4 : Int32) {σ : hv_S} {Φ : Int64 → hv_S → Prop} (h : ((x1 ≤ x4 → Φ y2 σ) ∧ (¬ x1 ≤ x4 → (vp_in x4 8 ∧ (vp_in x4 9 ∧ ((0 < (σ.2.1 (24 + x4.toNatClampNeg) x4.toNatClampNeg) → L_X6_unroll_35 l e Φ x1 y2 x4 (σ.2.1 (24 + x4.toNatClampNeg) x4.toNatClampNeg) 0 σ) ∧ (¬ 0 < (σ.2.1 (24 + x4.toNatClampNeg) x4.toNatClampNeg) → Φ 1 σ))))))) : L_X6_unroll_5 l e Φ x1 y2 x4 σ := by
  show hv_TW l (hv_e1 e) (hv_rm 1) 0 0 m_X6_unroll hv_no (hv_ZL (hv_e1 e) Φ) 5 [(0, .ref 21), (1, .int x1), (2, .long y2), (4, .int x4)] [] σ
  refine T_iload dX6_unroll_5 3 rfl ?_
  refine T_iload_n dX6_unroll_7 rfl 1 rfl ?_
  refine T_icmp_ge (tgt := 84) dX6_unroll_8 (by decide) (fun c2 => ?_) (fun c2 => ?_)
  · refine T_lload_n dX6_unroll_84 rfl 2 rfl ?_
    exact T_lret dX6_unroll_85 rfl (h.1 c2)
  · refine T_aload_n dX6_unroll_11 rfl 0 rfl ?_
    refine T_get (v := .ref 23) dX6_unroll_12 fl_X6_17 hp_21 hs_21 rfl rfl ?_
    refine T_iload dX6_unroll_15 3 rfl ?_
    have b1 := (h.2 c2).1
    refine T_aald dX6_unroll_17 hp_23 hs_23 b1 ?_
    refine T_iload dX6_unroll_18 3 rfl ?_
    refine T_lald dX6_unroll_20 (hv_rowp b1) (hv_rows b1) (h.2 c2).2.1 ?_
    refine T_lstore dX6_unroll_21 (by decide) rfl ?_
    refine T_lload dX6_unroll_23 0 rfl ?_
    refine T_lconst (v := 0) dX6_unroll_25 (by decide) ?_
    refine T_lc_gt (tgt := 32) dX6_unroll_26 dX6_unroll_27 (by decide) (fun c3 => ?_) (fun c3 => ?_)
    · refine T_iconst (v := 0) dX6_unroll_32 (by decide) ?_
      refine T_istore dX6_unroll_33 (by decide) rfl ?_
      exact T_sub [2, 3, 4, 5, 1, 0] rfl ((h.2 c2).2.2.1 c3)
    · refine T_lconst (v := 1) dX6_unroll_30 (by decide) ?_
      exact T_lret dX6_unroll_31 rfl ((h.2 c2).2.2.2 c3)
set_option maxHeartbeats 4000000 in
set_option maxRecDepth 100000 in
theorem B_X6_unroll {l : Launch} {e : hv_Ev}  (x1 : Int32) {σ : hv_S} {Φ : Int64 → hv_S → Prop} (h : L_X6_unroll_5 l e Φ x1 1 0 σ) : hv_CL l (hv_e1 e) 1 m_X6_unroll [.ref 21, .int x1] σ Φ := by
  refine hv_entL (by decide) (Nat.le_of_ble_eq_true rfl) ?_
  show hv_TW l (hv_e1 e) (hv_rm 1) 0 0 m_X6_unroll hv_no (hv_ZL (hv_e1 e) Φ) 0 [(0, .ref 21), (1, .int x1)] [] σ
  refine T_lconst (v := 1) dX6_unroll_0 (by decide) ?_
  refine T_lstore_n dX6_unroll_1 rfl (by decide) rfl ?_
  refine T_iconst (v := 0) dX6_unroll_2 (by decide) ?_
  refine T_istore dX6_unroll_3 (by decide) rfl ?_
  exact T_sub [2, 3, 1, 0] rfl h

def L_X6_weigh_59 (l : Launch) (e : hv_Ev)  (Φ : hv_S → Prop) (x1 : Int32) (y2 : Int64) (x4 : Int32) (σ : hv_S) : Prop := hv_TW l (hv_e1 e) (hv_rm 2) 0 0 m_X6_weigh hv_no (hv_ZV (hv_e1 e) Φ) 59 [(0, .ref 21), (1, .int x1), (2, .long y2), (4, .int x4)] [] σ
set_option maxHeartbeats 4000000 in
set_option maxRecDepth 100000 in
theorem B_X6_weigh_59 {l : Launch} {e : hv_Ev}  (x1 : Int32) (y2 : Int64) (x4 : Int32) {σ : hv_S} {Φ : hv_S → Prop} (h : ((x1 ≤ x4 → Φ σ) ∧ (¬ x1 ≤ x4 → (vp_in x4 8 ∧ (vp_in x4 8 ∧ (vp_in x1 9 ∧ (vp_in (((σ.1 22 x4.toNatClampNeg) * 8) + (σ.1 22 x4.toNatClampNeg)) 64 ∧ (vp_in (σ.1 22 x4.toNatClampNeg) 8 ∧ (vp_in (σ.1 22 x4.toNatClampNeg) 8 ∧ L_X6_weigh_59 l e Φ x1 y2 (x4 + 1) (hv_ul (hv_ul σ 32 ((σ.1 22 x4.toNatClampNeg).toNatClampNeg) (if y2 < ((σ.2.1 (24 + x4.toNatClampNeg) x1.toNatClampNeg) * (σ.1 19 ((((σ.1 22 x4.toNatClampNeg) * 8) + (σ.1 22 x4.toNatClampNeg)).toNatClampNeg)).toInt64) then y2 else ((σ.2.1 (24 + x4.toNatClampNeg) x1.toNatClampNeg) * (σ.1 19 ((((σ.1 22 x4.toNatClampNeg) * 8) + (σ.1 22 x4.toNatClampNeg)).toNatClampNeg)).toInt64))) 21 7 ((σ.2.1 21 7) + ((hv_ul σ 32 ((σ.1 22 x4.toNatClampNeg).toNatClampNeg) (if y2 < ((σ.2.1 (24 + x4.toNatClampNeg) x1.toNatClampNeg) * (σ.1 19 ((((σ.1 22 x4.toNatClampNeg) * 8) + (σ.1 22 x4.toNatClampNeg)).toNatClampNeg)).toInt64) then y2 else ((σ.2.1 (24 + x4.toNatClampNeg) x1.toNatClampNeg) * (σ.1 19 ((((σ.1 22 x4.toNatClampNeg) * 8) + (σ.1 22 x4.toNatClampNeg)).toNatClampNeg)).toInt64))).2.1 32 ((σ.1 22 x4.toNatClampNeg).toNatClampNeg))))))))))))) : L_X6_weigh_59 l e Φ x1 y2 x4 σ := by
  show hv_TW l (hv_e1 e) (hv_rm 2) 0 0 m_X6_weigh hv_no (hv_ZV (hv_e1 e) Φ) 59 [(0, .ref 21), (1, .int x1), (2, .long y2), (4, .int x4)] [] σ
  refine T_iload dX6_weigh_59 3 rfl ?_
  refine T_iload_n dX6_weigh_61 rfl 1 rfl ?_
  refine T_icmp_ge (tgt := 134) dX6_weigh_62 (by decide) (fun c18 => ?_) (fun c18 => ?_)
  · exact T_vret dX6_weigh_134 rfl (h.1 c18)
  · refine T_aload_n dX6_weigh_65 rfl 0 rfl ?_
    refine T_get (v := .ref 22) dX6_weigh_66 fl_X6_9 hp_21 hs_21 rfl rfl ?_
    refine T_iload dX6_weigh_69 3 rfl ?_
    refine T_iald dX6_weigh_71 hp_22 hs_22 (h.2 c18).1 ?_
    refine T_istore dX6_weigh_72 (by decide) rfl ?_
    refine T_aload_n dX6_weigh_74 rfl 1 rfl ?_
    refine T_get (v := .ref 32) dX6_weigh_75 fl_X6_20 hp_21 hs_21 rfl rfl ?_
    refine T_iload dX6_weigh_78 0 rfl ?_
    refine T_aload_n dX6_weigh_80 rfl 1 rfl ?_
    refine T_get (v := .ref 23) dX6_weigh_81 fl_X6_17 hp_21 hs_21 rfl rfl ?_
    refine T_iload dX6_weigh_84 4 rfl ?_
    have b17 := (h.2 c18).2.1
    refine T_aald dX6_weigh_86 hp_23 hs_23 b17 ?_
    refine T_iload_n dX6_weigh_87 rfl 2 rfl ?_
    refine T_lald dX6_weigh_88 (hv_rowp b17) (hv_rows b17) (h.2 c18).2.2.1 ?_
    refine T_aload_n dX6_weigh_89 rfl 1 rfl ?_
    refine T_get (v := .ref 18) dX6_weigh_90 fl_X6_42 hp_21 hs_21 rfl rfl ?_
    refine T_get (v := .ref 19) dX6_weigh_93 fl_X6_100 hp_18 hs_18 rfl rfl ?_
    refine T_iload dX6_weigh_96 0 rfl ?_
    refine T_bipush (v := 8) dX6_weigh_98 (by decide) ?_
    refine T_imul dX6_weigh_100 ?_
    refine T_iload dX6_weigh_101 0 rfl ?_
    refine T_iadd dX6_weigh_103 ?_
    refine T_iald dX6_weigh_104 hp_19 hs_19 (h.2 c18).2.2.2.1 ?_
    refine T_i2l dX6_weigh_105 ?_
    refine T_lmul dX6_weigh_106 ?_
    refine T_lload_n dX6_weigh_107 rfl 3 rfl ?_
    refine T_mminl dX6_weigh_108 mm_X6_103 (hv_mr1 rfl) ?_
    refine T_last dX6_weigh_111 hp_32 hs_32 (h.2 c18).2.2.2.2.1 ?_
    refine T_aload_n dX6_weigh_112 rfl 1 rfl ?_
    refine T_dup dX6_weigh_113 rfl ?_
    refine T_get (v := .long (σ.2.1 21 7)) dX6_weigh_114 fl_X6_70 hp_21 hs_21 rfl rfl ?_
    refine T_aload_n dX6_weigh_117 rfl 1 rfl ?_
    refine T_get (v := .ref 32) dX6_weigh_118 fl_X6_20 hp_21 hs_21 rfl rfl ?_
    refine T_iload dX6_weigh_121 0 rfl ?_
    refine T_lald dX6_weigh_123 hp_32 hs_32 (h.2 c18).2.2.2.2.2.1 ?_
    refine T_ladd dX6_weigh_124 ?_
    refine T_putl dX6_weigh_125 fl_X6_70 pf_X6_7 hp_21 hs_21 rfl ?_
    refine T_iinc (v := (x4 + 1)) dX6_weigh_128 4 rfl rfl (by decide) rfl ?_
    refine T_goto (tgt := 59) dX6_weigh_131 (by decide) ?_
    exact T_sub [2, 3, 4, 0] rfl (h.2 c18).2.2.2.2.2.2
set_option maxHeartbeats 4000000 in
set_option maxRecDepth 100000 in
theorem B_X6_weigh {l : Launch} {e : hv_Ev}   {σ : hv_S} {Φ : hv_S → Prop} (h : hv_CV l (hv_e1 e) 0 m_J7_fill_d0a16 [.ref 32, .long 0] σ (fun s1 => hv_CI l (hv_e1 e) 0 m_X5_reaching [.ref 18] (hv_ul s1 21 7 0) (fun v5 s4 => hv_CI l (hv_e1 e) 0 m_X6_listHeard [.ref 21, .int v5] s4 (fun v8 s7 => hv_CV l (hv_e1 e) 0 m_X6_fillRows [.ref 21, .int v8] s7 (fun s10 => hv_CL l (hv_e1 e) 1 m_X6_unroll [.ref 21, .int v8] s10 (fun v14 s13 => (hv_isR (s13.2.2 15 3) ∧ L_X6_weigh_59 l e Φ v8 ((s13.1 (s13.2.2 15 3) 2).toInt64 * v14) 0 (hv_ul s13 21 6 v14)))))))) : hv_CV l (hv_e1 e) 2 m_X6_weigh [.ref 21] σ Φ := by
  refine hv_entV (by decide) (Nat.le_of_ble_eq_true rfl) ?_
  show hv_TW l (hv_e1 e) (hv_rm 2) 0 0 m_X6_weigh hv_no (hv_ZV (hv_e1 e) Φ) 0 [(0, .ref 21)] [] σ
  refine T_aload_n dX6_weigh_0 rfl 0 rfl ?_
  refine T_get (v := .ref 32) dX6_weigh_1 fl_X6_20 hp_21 hs_21 rfl rfl ?_
  refine T_lconst (v := 0) dX6_weigh_4 (by decide) ?_
  refine T_SV (As := [.ref 32, .long 0]) dX6_weigh_5 ms_X6_64 rfl (Nat.le_of_ble_eq_true rfl) (hv_ok1 rfl) rfl h (fun s1 h3 => ?_)
  refine T_aload_n dX6_weigh_8 rfl 0 rfl ?_
  refine T_lconst (v := 0) dX6_weigh_9 (by decide) ?_
  refine T_putl dX6_weigh_10 fl_X6_70 pf_X6_7 hp_21 hs_21 rfl ?_
  refine T_aload_n dX6_weigh_13 rfl 0 rfl ?_
  refine T_aload_n dX6_weigh_14 rfl 0 rfl ?_
  refine T_get (v := .ref 18) dX6_weigh_15 fl_X6_42 hp_21 hs_21 rfl rfl ?_
  refine T_VI (As := []) dX6_weigh_18 mv_X6_73 hp_18 hs_18 rfl (Nat.le_of_ble_eq_true rfl) (hv_ok1 rfl) rfl h3 (fun v5 s4 h6 => ?_)
  refine T_VI (As := [.int v5]) dX6_weigh_21 mv_X6_77 hp_21 hs_21 rfl (Nat.le_of_ble_eq_true rfl) (hv_ok1 rfl) rfl h6 (fun v8 s7 h9 => ?_)
  refine T_istore_n dX6_weigh_24 rfl (by decide) rfl ?_
  refine T_aload_n dX6_weigh_25 rfl 1 rfl ?_
  refine T_iload_n dX6_weigh_26 rfl 0 rfl ?_
  refine T_VV (As := [.int v8]) dX6_weigh_27 mv_X6_81 hp_21 hs_21 rfl (Nat.le_of_ble_eq_true rfl) (hv_ok1 rfl) rfl h9 (fun s10 h12 => ?_)
  refine T_aload_n dX6_weigh_30 rfl 1 rfl ?_
  refine T_aload_n dX6_weigh_31 rfl 1 rfl ?_
  refine T_iload_n dX6_weigh_32 rfl 0 rfl ?_
  refine T_VL (As := [.int v8]) dX6_weigh_33 mv_X6_85 hp_21 hs_21 rfl (Nat.le_of_ble_eq_true rfl) (hv_ok1 rfl) rfl h12 (fun v14 s13 h15 => ?_)
  refine T_putl dX6_weigh_36 fl_X6_24 pf_X6_6 hp_21 hs_21 rfl ?_
  refine T_aload_n dX6_weigh_39 rfl 1 rfl ?_
  refine T_get (v := .ref 15) dX6_weigh_40 fl_X6_38 hp_21 hs_21 rfl rfl ?_
  have b16 := h15.1
  refine T_get (v := .ref (s13.2.2 15 3)) dX6_weigh_43 fl_X6_89 hp_15 hs_15 rfl rfl ?_
  refine T_get (v := .int (s13.1 (s13.2.2 15 3) 2)) dX6_weigh_46 fl_X6_95 (hv_isRp b16) (hv_isRs b16) rfl rfl ?_
  refine T_i2l dX6_weigh_49 ?_
  refine T_aload_n dX6_weigh_50 rfl 1 rfl ?_
  refine T_get (v := .long v14) dX6_weigh_51 fl_X6_24 hp_21 hs_21 rfl rfl ?_
  refine T_lmul dX6_weigh_54 ?_
  refine T_lstore_n dX6_weigh_55 rfl (by decide) rfl ?_
  refine T_iconst (v := 0) dX6_weigh_56 (by decide) ?_
  refine T_istore dX6_weigh_57 (by decide) rfl ?_
  exact T_sub [3, 2, 1, 0] rfl h15.2

set_option maxHeartbeats 4000000 in
set_option maxRecDepth 100000 in
theorem B_X6_reckon {l : Launch} {e : hv_Ev}  (x1 : Int32) (x2 : Int32) (x3 : Int32) (x4 : Int32) (x5 : Int32) {σ : hv_S} {Φ : hv_S → Prop} (h : hv_CV l (hv_e1 e) 4 m_X5_lay [.ref 18, .int x1, .int x2, .int x3, .int x4, .int x5] σ (fun s1 => hv_CV l (hv_e1 e) 2 m_X6_weigh [.ref 21] s1 (fun s4 => Φ s4))) : hv_CV l (hv_e1 e) 5 m_X6_reckon [.ref 21, .int x1, .int x2, .int x3, .int x4, .int x5] σ Φ := by
  refine hv_entV (by decide) (Nat.le_of_ble_eq_true rfl) ?_
  show hv_TW l (hv_e1 e) (hv_rm 5) 0 0 m_X6_reckon hv_no (hv_ZV (hv_e1 e) Φ) 0 [(0, .ref 21), (1, .int x1), (2, .int x2), (3, .int x3), (4, .int x4), (5, .int x5)] [] σ
  refine T_aload_n dX6_reckon_0 rfl 0 rfl ?_
  refine T_get (v := .ref 18) dX6_reckon_1 fl_X6_42 hp_21 hs_21 rfl rfl ?_
  refine T_iload_n dX6_reckon_4 rfl 1 rfl ?_
  refine T_iload_n dX6_reckon_5 rfl 2 rfl ?_
  refine T_iload_n dX6_reckon_6 rfl 3 rfl ?_
  refine T_iload dX6_reckon_7 4 rfl ?_
  refine T_iload dX6_reckon_9 5 rfl ?_
  refine T_VV (As := [.int x1, .int x2, .int x3, .int x4, .int x5]) dX6_reckon_11 mv_X6_56 hp_18 hs_18 rfl (Nat.le_of_ble_eq_true rfl) (hv_ok1 rfl) rfl h (fun s1 h3 => ?_)
  refine T_aload_n dX6_reckon_14 rfl 0 rfl ?_
  refine T_VV (As := []) dX6_reckon_15 mv_X6_61 hp_21 hs_21 rfl (Nat.le_of_ble_eq_true rfl) (hv_ok1 rfl) rfl h3 (fun s4 h6 => ?_)
  exact T_vret dX6_reckon_18 rfl h6

set_option maxHeartbeats 4000000 in
set_option maxRecDepth 100000 in
theorem B_X6_reckonNow {l : Launch} {e : hv_Ev}  (x1 : Int32) {σ : hv_S} {Φ : hv_S → Prop} (h : hv_CV l (hv_e1 e) 5 m_X6_reckon [.ref 21, .int x1, .int (σ.1 1 8), .int 0, .int (-1), .int (-1)] σ (fun s1 => Φ s1)) : hv_CV l (hv_e1 e) 6 m_X6_reckonNow [.ref 21, .int x1] σ Φ := by
  refine hv_entV (by decide) (Nat.le_of_ble_eq_true rfl) ?_
  show hv_TW l (hv_e1 e) (hv_rm 6) 0 0 m_X6_reckonNow hv_no (hv_ZV (hv_e1 e) Φ) 0 [(0, .ref 21), (1, .int x1)] [] σ
  refine T_aload_n dX6_reckonNow_0 rfl 0 rfl ?_
  refine T_iload_n dX6_reckonNow_1 rfl 1 rfl ?_
  refine T_aload_n dX6_reckonNow_2 rfl 0 rfl ?_
  refine T_get (v := .ref 1) dX6_reckonNow_3 fl_X6_34 hp_21 hs_21 rfl rfl ?_
  refine T_get (v := .int (σ.1 1 8)) dX6_reckonNow_6 fl_X6_46 hp_1 hs_1 rfl rfl ?_
  refine T_iconst (v := 0) dX6_reckonNow_9 (by decide) ?_
  refine T_iconst (v := (-1)) dX6_reckonNow_10 (by decide) ?_
  refine T_iconst (v := (-1)) dX6_reckonNow_11 (by decide) ?_
  refine T_VV (As := [.int x1, .int (σ.1 1 8), .int 0, .int (-1), .int (-1)]) dX6_reckonNow_12 mv_X6_52 hp_21 hs_21 rfl (Nat.le_of_ble_eq_true rfl) (hv_ok1 rfl) rfl h (fun s1 h3 => ?_)
  exact T_vret dX6_reckonNow_15 rfl h3

def L_X6_sumOf_5 (l : Launch) (e : hv_Ev)  (Φ : Int64 → hv_S → Prop) (x1 : Int32) (y2 : Int64) (x4 : Int32) (σ : hv_S) : Prop := hv_TW l (hv_e1 e) (hv_rm 0) 0 0 m_X6_sumOf hv_no (hv_ZL (hv_e1 e) Φ) 5 [(0, .ref 21), (1, .int x1), (2, .long y2), (4, .int x4)] [] σ
set_option maxHeartbeats 4000000 in
set_option maxRecDepth 100000 in
theorem B_X6_sumOf_5 {l : Launch} {e : hv_Ev}  (x1 : Int32) (y2 : Int64) (x4 : Int32) {σ : hv_S} {Φ : Int64 → hv_S → Prop} (h : (((σ.1 1 7) ≤ x4 → Φ y2 σ) ∧ (¬ (σ.1 1 7) ≤ x4 → ((((x1 >>> (x4 &&& 31)) &&& 1) = 0 → L_X6_sumOf_5 l e Φ x1 y2 (x4 + 1) σ) ∧ (¬ ((x1 >>> (x4 &&& 31)) &&& 1) = 0 → (vp_in x4 8 ∧ L_X6_sumOf_5 l e Φ x1 (y2 + (σ.2.1 32 x4.toNatClampNeg)) (x4 + 1) σ)))))) : L_X6_sumOf_5 l e Φ x1 y2 x4 σ := by
  show hv_TW l (hv_e1 e) (hv_rm 0) 0 0 m_X6_sumOf hv_no (hv_ZL (hv_e1 e) Φ) 5 [(0, .ref 21), (1, .int x1), (2, .long y2), (4, .int x4)] [] σ
  refine T_iload dX6_sumOf_5 3 rfl ?_
  refine T_aload_n dX6_sumOf_7 rfl 0 rfl ?_
  refine T_get (v := .ref 1) dX6_sumOf_8 fl_X6_34 hp_21 hs_21 rfl rfl ?_
  refine T_get (v := .int (σ.1 1 7)) dX6_sumOf_11 fl_X6_109 hp_1 hs_1 rfl rfl ?_
  refine T_icmp_ge (tgt := 42) dX6_sumOf_14 (by decide) (fun c1 => ?_) (fun c1 => ?_)
  · refine T_lload_n dX6_sumOf_42 rfl 2 rfl ?_
    exact T_lret dX6_sumOf_43 rfl (h.1 c1)
  · refine T_iload_n dX6_sumOf_17 rfl 1 rfl ?_
    refine T_iload dX6_sumOf_18 3 rfl ?_
    refine T_ishr dX6_sumOf_20 ?_
    refine T_iconst (v := 1) dX6_sumOf_21 (by decide) ?_
    refine T_iand dX6_sumOf_22 ?_
    refine T_if_eq (tgt := 36) dX6_sumOf_23 (by decide) (fun c2 => ?_) (fun c2 => ?_)
    · refine T_iinc (v := (x4 + 1)) dX6_sumOf_36 3 rfl rfl (by decide) rfl ?_
      refine T_goto (tgt := 5) dX6_sumOf_39 (by decide) ?_
      exact T_sub [1, 2, 3, 0] rfl ((h.2 c1).1 c2)
    · refine T_lload_n dX6_sumOf_26 rfl 2 rfl ?_
      refine T_aload_n dX6_sumOf_27 rfl 0 rfl ?_
      refine T_get (v := .ref 32) dX6_sumOf_28 fl_X6_20 hp_21 hs_21 rfl rfl ?_
      refine T_iload dX6_sumOf_31 3 rfl ?_
      refine T_lald dX6_sumOf_33 hp_32 hs_32 ((h.2 c1).2 c2).1 ?_
      refine T_ladd dX6_sumOf_34 ?_
      refine T_lstore_n dX6_sumOf_35 rfl (by decide) rfl ?_
      refine T_iinc (v := (x4 + 1)) dX6_sumOf_36 3 rfl rfl (by decide) rfl ?_
      refine T_goto (tgt := 5) dX6_sumOf_39 (by decide) ?_
      exact T_sub [2, 3, 1, 0] rfl ((h.2 c1).2 c2).2
set_option maxHeartbeats 4000000 in
set_option maxRecDepth 100000 in
theorem B_X6_sumOf {l : Launch} {e : hv_Ev}  (x1 : Int32) {σ : hv_S} {Φ : Int64 → hv_S → Prop} (h : L_X6_sumOf_5 l e Φ x1 0 0 σ) : hv_CL l (hv_e1 e) 0 m_X6_sumOf [.ref 21, .int x1] σ Φ := by
  refine hv_entL (by decide) (Nat.le_of_ble_eq_true rfl) ?_
  show hv_TW l (hv_e1 e) (hv_rm 0) 0 0 m_X6_sumOf hv_no (hv_ZL (hv_e1 e) Φ) 0 [(0, .ref 21), (1, .int x1)] [] σ
  refine T_lconst (v := 0) dX6_sumOf_0 (by decide) ?_
  refine T_lstore_n dX6_sumOf_1 rfl (by decide) rfl ?_
  refine T_iconst (v := 0) dX6_sumOf_2 (by decide) ?_
  refine T_istore dX6_sumOf_3 (by decide) rfl ?_
  exact T_sub [2, 3, 1, 0] rfl h

set_option maxHeartbeats 4000000 in
set_option maxRecDepth 100000 in
theorem B_X6_decides {l : Launch} {e : hv_Ev}  (y1 : Int64) {σ : hv_S} {Φ : Int32 → hv_S → Prop} (h : (hv_isR (σ.2.2 15 3) ∧ (hv_isR (σ.2.2 15 3) ∧ ((((σ.1 (σ.2.2 15 3) 4).toInt64 * y1) ≤ ((σ.1 (σ.2.2 15 3) 3).toInt64 * (σ.2.1 21 7)) → Φ 0 σ) ∧ (¬ ((σ.1 (σ.2.2 15 3) 4).toInt64 * y1) ≤ ((σ.1 (σ.2.2 15 3) 3).toInt64 * (σ.2.1 21 7)) → Φ 1 σ))))) : hv_CI l (hv_e1 e) 0 m_X6_decides [.ref 21, .long y1] σ Φ := by
  refine hv_entI (by decide) (Nat.le_of_ble_eq_true rfl) ?_
  show hv_TW l (hv_e1 e) (hv_rm 0) 0 0 m_X6_decides hv_no (hv_ZI (hv_e1 e) Φ) 0 [(0, .ref 21), (1, .long y1)] [] σ
  refine T_aload_n dX6_decides_0 rfl 0 rfl ?_
  refine T_get (v := .ref 15) dX6_decides_1 fl_X6_38 hp_21 hs_21 rfl rfl ?_
  have b1 := h.1
  refine T_get (v := .ref (σ.2.2 15 3)) dX6_decides_4 fl_X6_89 hp_15 hs_15 rfl rfl ?_
  refine T_get (v := .int (σ.1 (σ.2.2 15 3) 4)) dX6_decides_7 fl_X6_118 (hv_isRp b1) (hv_isRs b1) rfl rfl ?_
  refine T_i2l dX6_decides_10 ?_
  refine T_lload_n dX6_decides_11 rfl 1 rfl ?_
  refine T_lmul dX6_decides_12 ?_
  refine T_aload_n dX6_decides_13 rfl 0 rfl ?_
  refine T_get (v := .ref 15) dX6_decides_14 fl_X6_38 hp_21 hs_21 rfl rfl ?_
  have b2 := h.2.1
  refine T_get (v := .ref (σ.2.2 15 3)) dX6_decides_17 fl_X6_89 hp_15 hs_15 rfl rfl ?_
  refine T_get (v := .int (σ.1 (σ.2.2 15 3) 3)) dX6_decides_20 fl_X6_121 (hv_isRp b2) (hv_isRs b2) rfl rfl ?_
  refine T_i2l dX6_decides_23 ?_
  refine T_aload_n dX6_decides_24 rfl 0 rfl ?_
  refine T_get (v := .long (σ.2.1 21 7)) dX6_decides_25 fl_X6_70 hp_21 hs_21 rfl rfl ?_
  refine T_lmul dX6_decides_28 ?_
  refine T_lc_le (tgt := 37) dX6_decides_29 dX6_decides_30 (by decide) (fun c3 => ?_) (fun c3 => ?_)
  · refine T_iconst (v := 0) dX6_decides_37 (by decide) ?_
    exact T_zret dX6_decides_38 rfl (by decide) (h.2.2.1 c3)
  · refine T_iconst (v := 1) dX6_decides_33 (by decide) ?_
    refine T_goto (tgt := 38) dX6_decides_34 (by decide) ?_
    exact T_zret dX6_decides_38 rfl (by decide) (h.2.2.2 c3)

def L_X6_withVoices_4 (l : Launch) (e : hv_Ev)  (Φ : Int32 → hv_S → Prop) (x1 : Int32) (x2 : Int32) (σ : hv_S) : Prop := hv_TW l (hv_e1 e) (hv_rm 0) 0 0 m_X6_withVoices hv_no (hv_ZI (hv_e1 e) Φ) 4 [(0, .ref 21), (1, .int x1), (2, .int x2)] [] σ
set_option maxHeartbeats 4000000 in
set_option maxRecDepth 100000 in
theorem B_X6_withVoices_4 {l : Launch} {e : hv_Ev}  (x1 : Int32) (x2 : Int32) {σ : hv_S} {Φ : Int32 → hv_S → Prop} (h : (((σ.1 1 7) ≤ x2 → Φ x1 σ) ∧ (¬ (σ.1 1 7) ≤ x2 → (vp_in x2 8 ∧ (((σ.2.1 32 x2.toNatClampNeg) ≤ 0 → L_X6_withVoices_4 l e Φ x1 (x2 + 1) σ) ∧ (¬ (σ.2.1 32 x2.toNatClampNeg) ≤ 0 → L_X6_withVoices_4 l e Φ (x1 ||| ((1 : Int32) <<< (x2 &&& 31))) (x2 + 1) σ)))))) : L_X6_withVoices_4 l e Φ x1 x2 σ := by
  show hv_TW l (hv_e1 e) (hv_rm 0) 0 0 m_X6_withVoices hv_no (hv_ZI (hv_e1 e) Φ) 4 [(0, .ref 21), (1, .int x1), (2, .int x2)] [] σ
  refine T_iload_n dX6_withVoices_4 rfl 2 rfl ?_
  refine T_aload_n dX6_withVoices_5 rfl 0 rfl ?_
  refine T_get (v := .ref 1) dX6_withVoices_6 fl_X6_34 hp_21 hs_21 rfl rfl ?_
  refine T_get (v := .int (σ.1 1 7)) dX6_withVoices_9 fl_X6_109 hp_1 hs_1 rfl rfl ?_
  refine T_icmp_ge (tgt := 38) dX6_withVoices_12 (by decide) (fun c1 => ?_) (fun c1 => ?_)
  · refine T_iload_n dX6_withVoices_38 rfl 1 rfl ?_
    exact T_iret dX6_withVoices_39 rfl (h.1 c1)
  · refine T_aload_n dX6_withVoices_15 rfl 0 rfl ?_
    refine T_get (v := .ref 32) dX6_withVoices_16 fl_X6_20 hp_21 hs_21 rfl rfl ?_
    refine T_iload_n dX6_withVoices_19 rfl 2 rfl ?_
    refine T_lald dX6_withVoices_20 hp_32 hs_32 (h.2 c1).1 ?_
    refine T_lconst (v := 0) dX6_withVoices_21 (by decide) ?_
    refine T_lc_le (tgt := 32) dX6_withVoices_22 dX6_withVoices_23 (by decide) (fun c2 => ?_) (fun c2 => ?_)
    · refine T_iinc (v := (x2 + 1)) dX6_withVoices_32 2 rfl rfl (by decide) rfl ?_
      refine T_goto (tgt := 4) dX6_withVoices_35 (by decide) ?_
      exact T_sub [1, 2, 0] rfl ((h.2 c1).2.1 c2)
    · refine T_iload_n dX6_withVoices_26 rfl 1 rfl ?_
      refine T_iconst (v := 1) dX6_withVoices_27 (by decide) ?_
      refine T_iload_n dX6_withVoices_28 rfl 2 rfl ?_
      refine T_ishl dX6_withVoices_29 ?_
      refine T_ior dX6_withVoices_30 ?_
      refine T_istore_n dX6_withVoices_31 rfl (by decide) rfl ?_
      refine T_iinc (v := (x2 + 1)) dX6_withVoices_32 2 rfl rfl (by decide) rfl ?_
      refine T_goto (tgt := 4) dX6_withVoices_35 (by decide) ?_
      exact T_sub [2, 1, 0] rfl ((h.2 c1).2.2 c2)
set_option maxHeartbeats 4000000 in
set_option maxRecDepth 100000 in
theorem B_X6_withVoices {l : Launch} {e : hv_Ev}   {σ : hv_S} {Φ : Int32 → hv_S → Prop} (h : L_X6_withVoices_4 l e Φ 0 0 σ) : hv_CI l (hv_e1 e) 0 m_X6_withVoices [.ref 21] σ Φ := by
  refine hv_entI (by decide) (Nat.le_of_ble_eq_true rfl) ?_
  show hv_TW l (hv_e1 e) (hv_rm 0) 0 0 m_X6_withVoices hv_no (hv_ZI (hv_e1 e) Φ) 0 [(0, .ref 21)] [] σ
  refine T_iconst (v := 0) dX6_withVoices_0 (by decide) ?_
  refine T_istore_n dX6_withVoices_1 rfl (by decide) rfl ?_
  refine T_iconst (v := 0) dX6_withVoices_2 (by decide) ?_
  refine T_istore_n dX6_withVoices_3 rfl (by decide) rfl ?_
  exact T_sub [2, 1, 0] rfl h

def L_X6_highest_4 (l : Launch) (e : hv_Ev)  (Φ : Int64 → hv_S → Prop) (y1 : Int64) (x3 : Int32) (σ : hv_S) : Prop := hv_TW l (hv_e1 e) (hv_rm 1) 0 0 m_X6_highest hv_no (hv_ZL (hv_e1 e) Φ) 4 [(0, .ref 21), (1, .long y1), (3, .int x3)] [] σ
set_option maxHeartbeats 4000000 in
set_option maxRecDepth 100000 in
theorem B_X6_highest_4 {l : Launch} {e : hv_Ev}  (y1 : Int64) (x3 : Int32) {σ : hv_S} {Φ : Int64 → hv_S → Prop} (h : (((σ.1 1 7) ≤ x3 → Φ y1 σ) ∧ (¬ (σ.1 1 7) ≤ x3 → (vp_in x3 8 ∧ (∀ z1 : Int64, z1 = (if (σ.2.1 32 x3.toNatClampNeg) < y1 then y1 else (σ.2.1 32 x3.toNatClampNeg)) → L_X6_highest_4 l e Φ z1 (x3 + 1) σ))))) : L_X6_highest_4 l e Φ y1 x3 σ := by
  show hv_TW l (hv_e1 e) (hv_rm 1) 0 0 m_X6_highest hv_no (hv_ZL (hv_e1 e) Φ) 4 [(0, .ref 21), (1, .long y1), (3, .int x3)] [] σ
  refine T_iload_n dX6_highest_4 rfl 2 rfl ?_
  refine T_aload_n dX6_highest_5 rfl 0 rfl ?_
  refine T_get (v := .ref 1) dX6_highest_6 fl_X6_34 hp_21 hs_21 rfl rfl ?_
  refine T_get (v := .int (σ.1 1 7)) dX6_highest_9 fl_X6_109 hp_1 hs_1 rfl rfl ?_
  refine T_icmp_ge (tgt := 32) dX6_highest_12 (by decide) (fun c2 => ?_) (fun c2 => ?_)
  · refine T_lload_n dX6_highest_32 rfl 1 rfl ?_
    exact T_lret dX6_highest_33 rfl (h.1 c2)
  · refine T_lload_n dX6_highest_15 rfl 1 rfl ?_
    refine T_aload_n dX6_highest_16 rfl 0 rfl ?_
    refine T_get (v := .ref 32) dX6_highest_17 fl_X6_20 hp_21 hs_21 rfl rfl ?_
    refine T_iload_n dX6_highest_20 rfl 2 rfl ?_
    refine T_lald dX6_highest_21 hp_32 hs_32 (h.2 c2).1 ?_
    refine T_mmaxl dX6_highest_22 mm_X6_124 (hv_mr1 rfl) ?_
    refine T_topl (fun z1 ez1 => ?_)
    refine T_lstore_n dX6_highest_25 rfl (by decide) rfl ?_
    refine T_iinc (v := (x3 + 1)) dX6_highest_26 2 rfl rfl (by decide) rfl ?_
    refine T_goto (tgt := 4) dX6_highest_29 (by decide) ?_
    exact T_sub [2, 1, 0] rfl ((h.2 c2).2 z1 ez1)
set_option maxHeartbeats 4000000 in
set_option maxRecDepth 100000 in
theorem B_X6_highest {l : Launch} {e : hv_Ev}   {σ : hv_S} {Φ : Int64 → hv_S → Prop} (h : L_X6_highest_4 l e Φ 0 0 σ) : hv_CL l (hv_e1 e) 1 m_X6_highest [.ref 21] σ Φ := by
  refine hv_entL (by decide) (Nat.le_of_ble_eq_true rfl) ?_
  show hv_TW l (hv_e1 e) (hv_rm 1) 0 0 m_X6_highest hv_no (hv_ZL (hv_e1 e) Φ) 0 [(0, .ref 21)] [] σ
  refine T_lconst (v := 0) dX6_highest_0 (by decide) ?_
  refine T_lstore_n dX6_highest_1 rfl (by decide) rfl ?_
  refine T_iconst (v := 0) dX6_highest_2 (by decide) ?_
  refine T_istore_n dX6_highest_3 rfl (by decide) rfl ?_
  exact T_sub [2, 1, 0] rfl h

def L_X6_fork_3 (l : Launch) (e : hv_Ev)  (Φ : hv_S → Prop) (x1 : Int32) (y2 : Int64) (x4 : Int32) (x5 : Int32) (σ : hv_S) : Prop := hv_TW l (hv_e1 e) (hv_rm 0) 0 0 m_X6_fork hv_no (hv_ZV (hv_e1 e) Φ) 3 [(0, .ref 21), (1, .int x1), (2, .long y2), (4, .int x4), (5, .int x5)] [] σ
set_option maxHeartbeats 4000000 in
set_option maxRecDepth 100000 in
theorem B_X6_fork_3 {l : Launch} {e : hv_Ev}  (x1 : Int32) (y2 : Int64) (x4 : Int32) (x5 : Int32) {σ : hv_S} {Φ : hv_S → Prop} (h : ((x1 ≤ x5 → Φ σ) ∧ (¬ x1 ≤ x5 → ((256 ≤ (x1 + x5) → Φ σ) ∧ (¬ 256 ≤ (x1 + x5) → (vp_in x5 256 ∧ (vp_in (x1 + x5) 256 ∧ (vp_in x5 256 ∧ (vp_in (x1 + x5) 256 ∧ (vp_in x5 256 ∧ (vp_in x5 256 ∧ L_X6_fork_3 l e Φ x1 y2 x4 (x5 + 1) (hv_ul (hv_ul (hv_ul σ 33 ((x1 + x5).toNatClampNeg) ((σ.2.1 33 x5.toNatClampNeg) * x4.toInt64)) 34 ((x1 + x5).toNatClampNeg) ((σ.2.1 34 x5.toNatClampNeg) + y2)) 33 x5.toNatClampNeg (((hv_ul σ 33 ((x1 + x5).toNatClampNeg) ((σ.2.1 33 x5.toNatClampNeg) * x4.toInt64)).2.1 33 x5.toNatClampNeg) * (10 - x4).toInt64))))))))))))) : L_X6_fork_3 l e Φ x1 y2 x4 x5 σ := by
  show hv_TW l (hv_e1 e) (hv_rm 0) 0 0 m_X6_fork hv_no (hv_ZV (hv_e1 e) Φ) 3 [(0, .ref 21), (1, .int x1), (2, .long y2), (4, .int x4), (5, .int x5)] [] σ
  refine T_iload dX6_fork_3 4 rfl ?_
  refine T_iload_n dX6_fork_5 rfl 1 rfl ?_
  refine T_icmp_ge (tgt := 81) dX6_fork_6 (by decide) (fun c1 => ?_) (fun c1 => ?_)
  · exact T_vret dX6_fork_81 rfl (h.1 c1)
  · refine T_iload_n dX6_fork_9 rfl 1 rfl ?_
    refine T_iload dX6_fork_10 4 rfl ?_
    refine T_iadd dX6_fork_12 ?_
    refine T_aload_n dX6_fork_13 rfl 0 rfl ?_
    refine T_get (v := .ref 33) dX6_fork_14 fl_X6_28 hp_21 hs_21 rfl rfl ?_
    refine T_alen (v := 256) dX6_fork_17 hp_33 hs_33 (by decide) (by decide) ?_
    refine T_icmp_ge (tgt := 81) dX6_fork_18 (by decide) (fun c2 => ?_) (fun c2 => ?_)
    · exact T_vret dX6_fork_81 rfl ((h.2 c1).1 c2)
    · refine T_aload_n dX6_fork_21 rfl 0 rfl ?_
      refine T_get (v := .ref 33) dX6_fork_22 fl_X6_28 hp_21 hs_21 rfl rfl ?_
      refine T_iload_n dX6_fork_25 rfl 1 rfl ?_
      refine T_iload dX6_fork_26 4 rfl ?_
      refine T_iadd dX6_fork_28 ?_
      refine T_aload_n dX6_fork_29 rfl 0 rfl ?_
      refine T_get (v := .ref 33) dX6_fork_30 fl_X6_28 hp_21 hs_21 rfl rfl ?_
      refine T_iload dX6_fork_33 4 rfl ?_
      refine T_lald dX6_fork_35 hp_33 hs_33 ((h.2 c1).2 c2).1 ?_
      refine T_iload dX6_fork_36 3 rfl ?_
      refine T_i2l dX6_fork_38 ?_
      refine T_lmul dX6_fork_39 ?_
      refine T_last dX6_fork_40 hp_33 hs_33 ((h.2 c1).2 c2).2.1 ?_
      refine T_aload_n dX6_fork_41 rfl 0 rfl ?_
      refine T_get (v := .ref 34) dX6_fork_42 fl_X6_31 hp_21 hs_21 rfl rfl ?_
      refine T_iload_n dX6_fork_45 rfl 1 rfl ?_
      refine T_iload dX6_fork_46 4 rfl ?_
      refine T_iadd dX6_fork_48 ?_
      refine T_aload_n dX6_fork_49 rfl 0 rfl ?_
      refine T_get (v := .ref 34) dX6_fork_50 fl_X6_31 hp_21 hs_21 rfl rfl ?_
      refine T_iload dX6_fork_53 4 rfl ?_
      refine T_lald dX6_fork_55 hp_34 hs_34 ((h.2 c1).2 c2).2.2.1 ?_
      refine T_lload_n dX6_fork_56 rfl 2 rfl ?_
      refine T_ladd dX6_fork_57 ?_
      refine T_last dX6_fork_58 hp_34 hs_34 ((h.2 c1).2 c2).2.2.2.1 ?_
      refine T_aload_n dX6_fork_59 rfl 0 rfl ?_
      refine T_get (v := .ref 33) dX6_fork_60 fl_X6_28 hp_21 hs_21 rfl rfl ?_
      refine T_iload dX6_fork_63 4 rfl ?_
      refine T_dup2 dX6_fork_65 rfl rfl ?_
      refine T_lald dX6_fork_66 hp_33 hs_33 ((h.2 c1).2 c2).2.2.2.2.1 ?_
      refine T_bipush (v := 10) dX6_fork_67 (by decide) ?_
      refine T_iload dX6_fork_69 3 rfl ?_
      refine T_isub dX6_fork_71 ?_
      refine T_i2l dX6_fork_72 ?_
      refine T_lmul dX6_fork_73 ?_
      refine T_last dX6_fork_74 hp_33 hs_33 ((h.2 c1).2 c2).2.2.2.2.2.1 ?_
      refine T_iinc (v := (x5 + 1)) dX6_fork_75 4 rfl rfl (by decide) rfl ?_
      refine T_goto (tgt := 3) dX6_fork_78 (by decide) ?_
      exact T_sub [1, 2, 3, 4, 0] rfl ((h.2 c1).2 c2).2.2.2.2.2.2
set_option maxHeartbeats 4000000 in
set_option maxRecDepth 100000 in
theorem B_X6_fork {l : Launch} {e : hv_Ev}  (x1 : Int32) (y2 : Int64) (x3 : Int32) {σ : hv_S} {Φ : hv_S → Prop} (h : L_X6_fork_3 l e Φ x1 y2 x3 0 σ) : hv_CV l (hv_e1 e) 0 m_X6_fork [.ref 21, .int x1, .long y2, .int x3] σ Φ := by
  refine hv_entV (by decide) (Nat.le_of_ble_eq_true rfl) ?_
  show hv_TW l (hv_e1 e) (hv_rm 0) 0 0 m_X6_fork hv_no (hv_ZV (hv_e1 e) Φ) 0 [(0, .ref 21), (1, .int x1), (2, .long y2), (4, .int x3)] [] σ
  refine T_iconst (v := 0) dX6_fork_0 (by decide) ?_
  refine T_istore dX6_fork_1 (by decide) rfl ?_
  exact T_sub [1, 2, 3, 4, 0] rfl h

def L_X6_chance_24 (l : Launch) (e : hv_Ev)  (Φ : Int64 → hv_S → Prop) (x1 : Int32) (x2 : Int32) (x3 : Int32) (σ : hv_S) : Prop := hv_TW l (hv_e1 e) (hv_rm 1) 0 0 m_X6_chance hv_no (hv_ZL (hv_e1 e) Φ) 24 [(0, .ref 21), (1, .int x1), (2, .int x2), (3, .int x3)] [] σ
def L_X6_chance_53 (l : Launch) (e : hv_Ev)  (Φ : Int64 → hv_S → Prop) (x1 : Int32) (x2 : Int32) (x3 : Int32) (x4 : Int32) (σ : hv_S) : Prop := hv_TW l (hv_e1 e) (hv_rm 1) 0 0 m_X6_chance hv_no (hv_ZL (hv_e1 e) Φ) 53 [(0, .ref 21), (1, .int x1), (2, .int x2), (3, .int x3), (4, .int x4)] [] σ
def L_X6_chance_116 (l : Launch) (e : hv_Ev)  (Φ : Int64 → hv_S → Prop) (x3 : Int32) (y4 : Int64) (x6 : Int32) (σ : hv_S) : Prop := hv_TW l (hv_e1 e) (hv_rm 1) 0 0 m_X6_chance hv_no (hv_ZL (hv_e1 e) Φ) 116 [(0, .ref 21), (3, .int x3), (4, .long y4), (6, .int x6)] [] σ
set_option maxHeartbeats 4000000 in
set_option maxRecDepth 100000 in
theorem B_X6_chance_116 {l : Launch} {e : hv_Ev}  (x3 : Int32) (y4 : Int64) (x6 : Int32) {σ : hv_S} {Φ : Int64 → hv_S → Prop} (h : ((x3 ≤ x6 → Φ y4 σ) ∧ (¬ x3 ≤ x6 → (vp_in x6 256 ∧ hv_CI l (hv_e1 e) 0 m_X6_decides [.ref 21, .long (σ.2.1 34 x6.toNatClampNeg)] σ (fun v17 s16 => ((v17 = 0 → L_X6_chance_116 l e Φ x3 y4 (x6 + 1) s16) ∧ (¬ v17 = 0 → (vp_in x6 256 ∧ L_X6_chance_116 l e Φ x3 (y4 + (s16.2.1 33 x6.toNatClampNeg)) (x6 + 1) s16)))))))) : L_X6_chance_116 l e Φ x3 y4 x6 σ := by
  show hv_TW l (hv_e1 e) (hv_rm 1) 0 0 m_X6_chance hv_no (hv_ZL (hv_e1 e) Φ) 116 [(0, .ref 21), (3, .int x3), (4, .long y4), (6, .int x6)] [] σ
  refine T_iload dX6_chance_116 3 rfl ?_
  refine T_iload_n dX6_chance_118 rfl 1 rfl ?_
  refine T_icmp_ge (tgt := 154) dX6_chance_119 (by decide) (fun c19 => ?_) (fun c19 => ?_)
  · refine T_lload dX6_chance_154 2 rfl ?_
    exact T_lret dX6_chance_156 rfl (h.1 c19)
  · refine T_aload_n dX6_chance_122 rfl 0 rfl ?_
    refine T_aload_n dX6_chance_123 rfl 0 rfl ?_
    refine T_get (v := .ref 34) dX6_chance_124 fl_X6_31 hp_21 hs_21 rfl rfl ?_
    refine T_iload dX6_chance_127 3 rfl ?_
    refine T_lald dX6_chance_129 hp_34 hs_34 (h.2 c19).1 ?_
    refine T_VI (As := [.long (σ.2.1 34 x6.toNatClampNeg)]) dX6_chance_130 mv_X6_149 hp_21 hs_21 rfl (Nat.le_of_ble_eq_true rfl) (hv_ok1 rfl) rfl ((h.2 c19).2) (fun v17 s16 h18 => ?_)
    refine T_if_eq (tgt := 148) dX6_chance_133 (by decide) (fun c20 => ?_) (fun c20 => ?_)
    · refine T_iinc (v := (x6 + 1)) dX6_chance_148 3 rfl rfl (by decide) rfl ?_
      refine T_goto (tgt := 116) dX6_chance_151 (by decide) ?_
      exact T_sub [1, 2, 3, 0] rfl (h18.1 c20)
    · refine T_lload dX6_chance_136 2 rfl ?_
      refine T_aload_n dX6_chance_138 rfl 0 rfl ?_
      refine T_get (v := .ref 33) dX6_chance_139 fl_X6_28 hp_21 hs_21 rfl rfl ?_
      refine T_iload dX6_chance_142 3 rfl ?_
      refine T_lald dX6_chance_144 hp_33 hs_33 (h18.2 c20).1 ?_
      refine T_ladd dX6_chance_145 ?_
      refine T_lstore dX6_chance_146 (by decide) rfl ?_
      refine T_iinc (v := (x6 + 1)) dX6_chance_148 3 rfl rfl (by decide) rfl ?_
      refine T_goto (tgt := 116) dX6_chance_151 (by decide) ?_
      exact T_sub [2, 3, 1, 0] rfl (h18.2 c20).2
set_option maxHeartbeats 4000000 in
set_option maxRecDepth 100000 in
theorem B_X6_chance_53 {l : Launch} {e : hv_Ev}  (x1 : Int32) (x2 : Int32) (x3 : Int32) (x4 : Int32) {σ : hv_S} {Φ : Int64 → hv_S → Prop} (h : (((σ.1 1 7) ≤ x4 → L_X6_chance_116 l e Φ x3 0 0 σ) ∧ (¬ (σ.1 1 7) ≤ x4 → ((((x2 >>> (x4 &&& 31)) &&& 1) = 0 → L_X6_chance_53 l e Φ x1 x2 x3 (x4 + 1) σ) ∧ (¬ ((x2 >>> (x4 &&& 31)) &&& 1) = 0 → (vp_in x4 8 ∧ hv_CI l (hv_e1 e) 0 m_X9_cell [.int x4, .int x1] σ (fun v9 s8 => (vp_in v9 24 ∧ hv_CV l (hv_e1 e) 0 m_X6_fork [.ref 21, .int x3, .long (σ.2.1 32 x4.toNatClampNeg), .int (s8.1 3 v9.toNatClampNeg)] s8 (fun s11 => L_X6_chance_53 l e Φ x1 x2 (x3 * 2) (x4 + 1) s11))))))))) : L_X6_chance_53 l e Φ x1 x2 x3 x4 σ := by
  show hv_TW l (hv_e1 e) (hv_rm 1) 0 0 m_X6_chance hv_no (hv_ZL (hv_e1 e) Φ) 53 [(0, .ref 21), (1, .int x1), (2, .int x2), (3, .int x3), (4, .int x4)] [] σ
  refine T_iload dX6_chance_53 4 rfl ?_
  refine T_aload_n dX6_chance_55 rfl 0 rfl ?_
  refine T_get (v := .ref 1) dX6_chance_56 fl_X6_34 hp_21 hs_21 rfl rfl ?_
  refine T_get (v := .int (σ.1 1 7)) dX6_chance_59 fl_X6_109 hp_1 hs_1 rfl rfl ?_
  refine T_icmp_ge (tgt := 110) dX6_chance_62 (by decide) (fun c14 => ?_) (fun c14 => ?_)
  · refine T_lconst (v := 0) dX6_chance_110 (by decide) ?_
    refine T_lstore dX6_chance_111 (by decide) rfl ?_
    refine T_iconst (v := 0) dX6_chance_113 (by decide) ?_
    refine T_istore dX6_chance_114 (by decide) rfl ?_
    exact T_sub [2, 5, 1, 0] rfl (h.1 c14)
  · refine T_iload_n dX6_chance_65 rfl 2 rfl ?_
    refine T_iload dX6_chance_66 4 rfl ?_
    refine T_ishr dX6_chance_68 ?_
    refine T_iconst (v := 1) dX6_chance_69 (by decide) ?_
    refine T_iand dX6_chance_70 ?_
    refine T_if_eq (tgt := 104) dX6_chance_71 (by decide) (fun c15 => ?_) (fun c15 => ?_)
    · refine T_iinc (v := (x4 + 1)) dX6_chance_104 4 rfl rfl (by decide) rfl ?_
      refine T_goto (tgt := 53) dX6_chance_107 (by decide) ?_
      exact T_sub [1, 2, 3, 4, 0] rfl ((h.2 c14).1 c15)
    · refine T_aload_n dX6_chance_74 rfl 0 rfl ?_
      refine T_iload_n dX6_chance_75 rfl 3 rfl ?_
      refine T_aload_n dX6_chance_76 rfl 0 rfl ?_
      refine T_get (v := .ref 32) dX6_chance_77 fl_X6_20 hp_21 hs_21 rfl rfl ?_
      refine T_iload dX6_chance_80 4 rfl ?_
      refine T_lald dX6_chance_82 hp_32 hs_32 ((h.2 c14).2 c15).1 ?_
      refine T_aload_n dX6_chance_83 rfl 0 rfl ?_
      refine T_get (v := .ref 1) dX6_chance_84 fl_X6_34 hp_21 hs_21 rfl rfl ?_
      refine T_get (v := .ref 3) dX6_chance_87 fl_X6_138 hp_1 hs_1 rfl rfl ?_
      refine T_iload dX6_chance_90 4 rfl ?_
      refine T_iload_n dX6_chance_92 rfl 1 rfl ?_
      refine T_SI (As := [.int x4, .int x1]) dX6_chance_93 ms_X6_141 rfl (Nat.le_of_ble_eq_true rfl) (hv_ok1 rfl) rfl (((h.2 c14).2 c15).2) (fun v9 s8 h10 => ?_)
      refine T_iald dX6_chance_96 hp_3 hs_3 h10.1 ?_
      refine T_VV (As := [.int x3, .long (σ.2.1 32 x4.toNatClampNeg), .int (s8.1 3 v9.toNatClampNeg)]) dX6_chance_97 mv_X6_145 hp_21 hs_21 rfl (Nat.le_of_ble_eq_true rfl) (hv_ok1 rfl) rfl h10.2 (fun s11 h13 => ?_)
      refine T_iload_n dX6_chance_100 rfl 3 rfl ?_
      refine T_iconst (v := 2) dX6_chance_101 (by decide) ?_
      refine T_imul dX6_chance_102 ?_
      refine T_istore_n dX6_chance_103 rfl (by decide) rfl ?_
      refine T_iinc (v := (x4 + 1)) dX6_chance_104 4 rfl rfl (by decide) rfl ?_
      refine T_goto (tgt := 53) dX6_chance_107 (by decide) ?_
      exact T_sub [2, 3, 4, 1, 0] rfl h13
set_option maxHeartbeats 4000000 in
set_option maxRecDepth 100000 in
theorem B_X6_chance_24 {l : Launch} {e : hv_Ev}  (x1 : Int32) (x2 : Int32) (x3 : Int32) {σ : hv_S} {Φ : Int64 → hv_S → Prop} (h : ((8 ≤ x3 → L_X6_chance_53 l e Φ x1 x2 1 0 σ) ∧ (¬ 8 ≤ x3 → (vp_in 0 256 ∧ (vp_in 0 256 ∧ L_X6_chance_24 l e Φ x1 x2 (x3 + 1) (hv_ul σ 33 0 ((σ.2.1 33 0) * 10))))))) : L_X6_chance_24 l e Φ x1 x2 x3 σ := by
  show hv_TW l (hv_e1 e) (hv_rm 1) 0 0 m_X6_chance hv_no (hv_ZL (hv_e1 e) Φ) 24 [(0, .ref 21), (1, .int x1), (2, .int x2), (3, .int x3)] [] σ
  refine T_iload_n dX6_chance_24 rfl 3 rfl ?_
  refine T_bipush (v := 8) dX6_chance_25 (by decide) ?_
  refine T_icmp_ge (tgt := 48) dX6_chance_27 (by decide) (fun c7 => ?_) (fun c7 => ?_)
  · refine T_iconst (v := 1) dX6_chance_48 (by decide) ?_
    refine T_istore_n dX6_chance_49 rfl (by decide) rfl ?_
    refine T_iconst (v := 0) dX6_chance_50 (by decide) ?_
    refine T_istore dX6_chance_51 (by decide) rfl ?_
    exact T_sub [2, 3, 4, 1, 0] rfl (h.1 c7)
  · refine T_aload_n dX6_chance_30 rfl 0 rfl ?_
    refine T_get (v := .ref 33) dX6_chance_31 fl_X6_28 hp_21 hs_21 rfl rfl ?_
    refine T_iconst (v := 0) dX6_chance_34 (by decide) ?_
    refine T_dup2 dX6_chance_35 rfl rfl ?_
    refine T_lald dX6_chance_36 hp_33 hs_33 (h.2 c7).1 ?_
    refine T_ldc2 dX6_chance_37 kl_X6_112 ?_
    refine T_lmul dX6_chance_40 ?_
    refine T_last dX6_chance_41 hp_33 hs_33 (h.2 c7).2.1 ?_
    refine T_iinc (v := (x3 + 1)) dX6_chance_42 3 rfl rfl (by decide) rfl ?_
    refine T_goto (tgt := 24) dX6_chance_45 (by decide) ?_
    exact T_sub [1, 2, 3, 0] rfl (h.2 c7).2.2
set_option maxHeartbeats 4000000 in
set_option maxRecDepth 100000 in
theorem B_X6_chance {l : Launch} {e : hv_Ev}  (x1 : Int32) {σ : hv_S} {Φ : Int64 → hv_S → Prop} (h : hv_CI l (hv_e1 e) 0 m_X6_withVoices [.ref 21] σ (fun v2 s1 => (vp_in 0 256 ∧ (vp_in 0 256 ∧ hv_CI l (hv_e1 e) 0 m_J6_bitCount_0f7a4 [.int v2] (hv_ul (hv_ul s1 33 0 1) 34 0 0) (fun v5 s4 => L_X6_chance_24 l e Φ x1 v2 v5 s4))))) : hv_CL l (hv_e1 e) 1 m_X6_chance [.ref 21, .int x1] σ Φ := by
  refine hv_entL (by decide) (Nat.le_of_ble_eq_true rfl) ?_
  show hv_TW l (hv_e1 e) (hv_rm 1) 0 0 m_X6_chance hv_no (hv_ZL (hv_e1 e) Φ) 0 [(0, .ref 21), (1, .int x1)] [] σ
  refine T_aload_n dX6_chance_0 rfl 0 rfl ?_
  refine T_VI (As := []) dX6_chance_1 mv_X6_130 hp_21 hs_21 rfl (Nat.le_of_ble_eq_true rfl) (hv_ok1 rfl) rfl h (fun v2 s1 h3 => ?_)
  refine T_istore_n dX6_chance_4 rfl (by decide) rfl ?_
  refine T_aload_n dX6_chance_5 rfl 1 rfl ?_
  refine T_get (v := .ref 33) dX6_chance_6 fl_X6_28 hp_21 hs_21 rfl rfl ?_
  refine T_iconst (v := 0) dX6_chance_9 (by decide) ?_
  refine T_lconst (v := 1) dX6_chance_10 (by decide) ?_
  refine T_last dX6_chance_11 hp_33 hs_33 h3.1 ?_
  refine T_aload_n dX6_chance_12 rfl 1 rfl ?_
  refine T_get (v := .ref 34) dX6_chance_13 fl_X6_31 hp_21 hs_21 rfl rfl ?_
  refine T_iconst (v := 0) dX6_chance_16 (by decide) ?_
  refine T_lconst (v := 0) dX6_chance_17 (by decide) ?_
  refine T_last dX6_chance_18 hp_34 hs_34 h3.2.1 ?_
  refine T_iload_n dX6_chance_19 rfl 0 rfl ?_
  refine T_SI (As := [.int v2]) dX6_chance_20 ms_X6_133 rfl (Nat.le_of_ble_eq_true rfl) (hv_ok1 rfl) rfl h3.2.2 (fun v5 s4 h6 => ?_)
  refine T_istore_n dX6_chance_23 rfl (by decide) rfl ?_
  exact T_sub [2, 3, 1, 0] rfl h6

set_option maxHeartbeats 4000000 in
set_option maxRecDepth 100000 in
theorem B_X6_chanceIf {l : Launch} {e : hv_Ev}  (x1 : Int32) (x2 : Int32) (x3 : Int32) (x4 : Int32) {σ : hv_S} {Φ : Int64 → hv_S → Prop} (h : hv_CV l (hv_e1 e) 4 m_X5_lay [.ref 18, .int x1, .int (σ.1 1 8), .int x2, .int x3, .int x4] σ (fun s1 => hv_CV l (hv_e1 e) 2 m_X6_weigh [.ref 21] s1 (fun s4 => hv_CL l (hv_e1 e) 1 m_X6_chance [.ref 21, .int x1] s4 (fun v8 s7 => Φ v8 s7)))) : hv_CL l (hv_e1 e) 5 m_X6_chanceIf [.ref 21, .int x1, .int x2, .int x3, .int x4] σ Φ := by
  refine hv_entL (by decide) (Nat.le_of_ble_eq_true rfl) ?_
  show hv_TW l (hv_e1 e) (hv_rm 5) 0 0 m_X6_chanceIf hv_no (hv_ZL (hv_e1 e) Φ) 0 [(0, .ref 21), (1, .int x1), (2, .int x2), (3, .int x3), (4, .int x4)] [] σ
  refine T_aload_n dX6_chanceIf_0 rfl 0 rfl ?_
  refine T_get (v := .ref 18) dX6_chanceIf_1 fl_X6_42 hp_21 hs_21 rfl rfl ?_
  refine T_iload_n dX6_chanceIf_4 rfl 1 rfl ?_
  refine T_aload_n dX6_chanceIf_5 rfl 0 rfl ?_
  refine T_get (v := .ref 1) dX6_chanceIf_6 fl_X6_34 hp_21 hs_21 rfl rfl ?_
  refine T_get (v := .int (σ.1 1 8)) dX6_chanceIf_9 fl_X6_46 hp_1 hs_1 rfl rfl ?_
  refine T_iload_n dX6_chanceIf_12 rfl 2 rfl ?_
  refine T_iload_n dX6_chanceIf_13 rfl 3 rfl ?_
  refine T_iload dX6_chanceIf_14 4 rfl ?_
  refine T_VV (As := [.int x1, .int (σ.1 1 8), .int x2, .int x3, .int x4]) dX6_chanceIf_16 mv_X6_56 hp_18 hs_18 rfl (Nat.le_of_ble_eq_true rfl) (hv_ok1 rfl) rfl h (fun s1 h3 => ?_)
  refine T_aload_n dX6_chanceIf_19 rfl 0 rfl ?_
  refine T_VV (As := []) dX6_chanceIf_20 mv_X6_61 hp_21 hs_21 rfl (Nat.le_of_ble_eq_true rfl) (hv_ok1 rfl) rfl h3 (fun s4 h6 => ?_)
  refine T_aload_n dX6_chanceIf_23 rfl 0 rfl ?_
  refine T_iload_n dX6_chanceIf_24 rfl 1 rfl ?_
  refine T_VL (As := [.int x1]) dX6_chanceIf_25 mv_X6_127 hp_21 hs_21 rfl (Nat.le_of_ble_eq_true rfl) (hv_ok1 rfl) rfl h6 (fun v8 s7 h9 => ?_)
  exact T_lret dX6_chanceIf_28 rfl h9
