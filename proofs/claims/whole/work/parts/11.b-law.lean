-- printed by wip/gen/p10c.py: Law, Spread
theorem dX3_maskOf_0 : decode cX3_maskOf 0 = .ok (.iconst 0, 1) := by decide +kernel
theorem dX3_maskOf_1 : decode cX3_maskOf 1 = .ok (.istore_n 3, 1) := by decide +kernel
theorem dX3_maskOf_2 : decode cX3_maskOf 2 = .ok (.aload_n 0, 1) := by decide +kernel
theorem dX3_maskOf_3 : decode cX3_maskOf 3 = .ok (.getfield 17, 3) := by decide +kernel
theorem dX3_maskOf_6 : decode cX3_maskOf 6 = .ok (.iconst 0, 1) := by decide +kernel
theorem dX3_maskOf_7 : decode cX3_maskOf 7 = .ok (.iload_n 1, 1) := by decide +kernel
theorem dX3_maskOf_8 : decode cX3_maskOf 8 = .ok (.iastore, 1) := by decide +kernel
theorem dX3_maskOf_9 : decode cX3_maskOf 9 = .ok (.aload_n 0, 1) := by decide +kernel
theorem dX3_maskOf_10 : decode cX3_maskOf 10 = .ok (.getfield 17, 3) := by decide +kernel
theorem dX3_maskOf_13 : decode cX3_maskOf 13 = .ok (.iconst 2, 1) := by decide +kernel
theorem dX3_maskOf_14 : decode cX3_maskOf 14 = .ok (.iload_n 2, 1) := by decide +kernel
theorem dX3_maskOf_15 : decode cX3_maskOf 15 = .ok (.iastore, 1) := by decide +kernel
theorem dX3_maskOf_16 : decode cX3_maskOf 16 = .ok (.aload_n 0, 1) := by decide +kernel
theorem dX3_maskOf_17 : decode cX3_maskOf 17 = .ok (.getfield 17, 3) := by decide +kernel
theorem dX3_maskOf_20 : decode cX3_maskOf 20 = .ok (.iconst 4, 1) := by decide +kernel
theorem dX3_maskOf_21 : decode cX3_maskOf 21 = .ok (.aload_n 0, 1) := by decide +kernel
theorem dX3_maskOf_22 : decode cX3_maskOf 22 = .ok (.getfield 25, 3) := by decide +kernel
theorem dX3_maskOf_25 : decode cX3_maskOf 25 = .ok (.getfield 47, 3) := by decide +kernel
theorem dX3_maskOf_28 : decode cX3_maskOf 28 = .ok (.iload_n 1, 1) := by decide +kernel
theorem dX3_maskOf_29 : decode cX3_maskOf 29 = .ok (.iload_n 2, 1) := by decide +kernel
theorem dX3_maskOf_30 : decode cX3_maskOf 30 = .ok (.invokestatic 37, 3) := by decide +kernel
theorem dX3_maskOf_33 : decode cX3_maskOf 33 = .ok (.iaload, 1) := by decide +kernel
theorem dX3_maskOf_34 : decode cX3_maskOf 34 = .ok (.iastore, 1) := by decide +kernel
theorem dX3_maskOf_35 : decode cX3_maskOf 35 = .ok (.iconst 0, 1) := by decide +kernel
theorem dX3_maskOf_36 : decode cX3_maskOf 36 = .ok (.istore 4, 2) := by decide +kernel
theorem dX3_maskOf_38 : decode cX3_maskOf 38 = .ok (.iload 4, 2) := by decide +kernel
theorem dX3_maskOf_40 : decode cX3_maskOf 40 = .ok (.bipush 8, 2) := by decide +kernel
theorem dX3_maskOf_42 : decode cX3_maskOf 42 = .ok (.if_icmp .ge 58, 3) := by decide +kernel
theorem dX3_maskOf_45 : decode cX3_maskOf 45 = .ok (.aload_n 0, 1) := by decide +kernel
theorem dX3_maskOf_46 : decode cX3_maskOf 46 = .ok (.getfield 17, 3) := by decide +kernel
theorem dX3_maskOf_49 : decode cX3_maskOf 49 = .ok (.iconst 1, 1) := by decide +kernel
theorem dX3_maskOf_50 : decode cX3_maskOf 50 = .ok (.iload 4, 2) := by decide +kernel
theorem dX3_maskOf_52 : decode cX3_maskOf 52 = .ok (.iastore, 1) := by decide +kernel
theorem dX3_maskOf_53 : decode cX3_maskOf 53 = .ok (.aload_n 0, 1) := by decide +kernel
theorem dX3_maskOf_54 : decode cX3_maskOf 54 = .ok (.getfield 17, 3) := by decide +kernel
theorem dX3_maskOf_57 : decode cX3_maskOf 57 = .ok (.iconst 3, 1) := by decide +kernel
theorem dX3_maskOf_58 : decode cX3_maskOf 58 = .ok (.aload_n 0, 1) := by decide +kernel
theorem dX3_maskOf_59 : decode cX3_maskOf 59 = .ok (.getfield 25, 3) := by decide +kernel
theorem dX3_maskOf_62 : decode cX3_maskOf 62 = .ok (.getfield 47, 3) := by decide +kernel
theorem dX3_maskOf_65 : decode cX3_maskOf 65 = .ok (.iload 4, 2) := by decide +kernel
theorem dX3_maskOf_67 : decode cX3_maskOf 67 = .ok (.iload_n 2, 1) := by decide +kernel
theorem dX3_maskOf_68 : decode cX3_maskOf 68 = .ok (.invokestatic 37, 3) := by decide +kernel
theorem dX3_maskOf_71 : decode cX3_maskOf 71 = .ok (.iaload, 1) := by decide +kernel
theorem dX3_maskOf_72 : decode cX3_maskOf 72 = .ok (.iastore, 1) := by decide +kernel
theorem dX3_maskOf_73 : decode cX3_maskOf 73 = .ok (.aload_n 0, 1) := by decide +kernel
theorem dX3_maskOf_74 : decode cX3_maskOf 74 = .ok (.getfield 21, 3) := by decide +kernel
theorem dX3_maskOf_77 : decode cX3_maskOf 77 = .ok (.aload_n 0, 1) := by decide +kernel
theorem dX3_maskOf_78 : decode cX3_maskOf 78 = .ok (.getfield 17, 3) := by decide +kernel
theorem dX3_maskOf_81 : decode cX3_maskOf 81 = .ok (.invokevirtual 52, 3) := by decide +kernel
theorem dX3_maskOf_84 : decode cX3_maskOf 84 = .ok (.ifCond .eq 10, 3) := by decide +kernel
theorem dX3_maskOf_87 : decode cX3_maskOf 87 = .ok (.iload_n 3, 1) := by decide +kernel
theorem dX3_maskOf_88 : decode cX3_maskOf 88 = .ok (.iconst 1, 1) := by decide +kernel
theorem dX3_maskOf_89 : decode cX3_maskOf 89 = .ok (.iload 4, 2) := by decide +kernel
theorem dX3_maskOf_91 : decode cX3_maskOf 91 = .ok (.ishl, 1) := by decide +kernel
theorem dX3_maskOf_92 : decode cX3_maskOf 92 = .ok (.ior, 1) := by decide +kernel
theorem dX3_maskOf_93 : decode cX3_maskOf 93 = .ok (.istore_n 3, 1) := by decide +kernel
theorem dX3_maskOf_94 : decode cX3_maskOf 94 = .ok (.iinc 4 1, 3) := by decide +kernel
theorem dX3_maskOf_97 : decode cX3_maskOf 97 = .ok (.goto (-59), 3) := by decide +kernel
theorem dX3_maskOf_100 : decode cX3_maskOf 100 = .ok (.iload_n 3, 1) := by decide +kernel
theorem dX3_maskOf_101 : decode cX3_maskOf 101 = .ok (.ireturn, 1) := by decide +kernel
theorem dX3_learn_0 : decode cX3_learn 0 = .ok (.iconst 0, 1) := by decide +kernel
theorem dX3_learn_1 : decode cX3_learn 1 = .ok (.istore_n 2, 1) := by decide +kernel
theorem dX3_learn_2 : decode cX3_learn 2 = .ok (.iload_n 2, 1) := by decide +kernel
theorem dX3_learn_3 : decode cX3_learn 3 = .ok (.bipush 8, 2) := by decide +kernel
theorem dX3_learn_5 : decode cX3_learn 5 = .ok (.if_icmp .ge 39, 3) := by decide +kernel
theorem dX3_learn_8 : decode cX3_learn 8 = .ok (.aload_n 0, 1) := by decide +kernel
theorem dX3_learn_9 : decode cX3_learn 9 = .ok (.getfield 9, 3) := by decide +kernel
theorem dX3_learn_12 : decode cX3_learn 12 = .ok (.iload_n 2, 1) := by decide +kernel
theorem dX3_learn_13 : decode cX3_learn 13 = .ok (.iload_n 1, 1) := by decide +kernel
theorem dX3_learn_14 : decode cX3_learn 14 = .ok (.invokestatic 37, 3) := by decide +kernel
theorem dX3_learn_17 : decode cX3_learn 17 = .ok (.aload_n 0, 1) := by decide +kernel
theorem dX3_learn_18 : decode cX3_learn 18 = .ok (.getfield 21, 3) := by decide +kernel
theorem dX3_learn_21 : decode cX3_learn 21 = .ok (.getfield 41, 3) := by decide +kernel
theorem dX3_learn_24 : decode cX3_learn 24 = .ok (.ifCond .ne 7, 3) := by decide +kernel
theorem dX3_learn_27 : decode cX3_learn 27 = .ok (.iconst 0, 1) := by decide +kernel
theorem dX3_learn_28 : decode cX3_learn 28 = .ok (.goto 9, 3) := by decide +kernel
theorem dX3_learn_31 : decode cX3_learn 31 = .ok (.aload_n 0, 1) := by decide +kernel
theorem dX3_learn_32 : decode cX3_learn 32 = .ok (.iload_n 2, 1) := by decide +kernel
theorem dX3_learn_33 : decode cX3_learn 33 = .ok (.iload_n 1, 1) := by decide +kernel
theorem dX3_learn_34 : decode cX3_learn 34 = .ok (.invokevirtual 44, 3) := by decide +kernel
theorem dX3_learn_37 : decode cX3_learn 37 = .ok (.iastore, 1) := by decide +kernel
theorem dX3_learn_38 : decode cX3_learn 38 = .ok (.iinc 2 1, 3) := by decide +kernel
theorem dX3_learn_41 : decode cX3_learn 41 = .ok (.goto (-39), 3) := by decide +kernel
theorem dX3_learn_44 : decode cX3_learn 44 = .ok (.return_, 1) := by decide +kernel
theorem dX3_bars_0 : decode cX3_bars 0 = .ok (.aload_n 0, 1) := by decide +kernel
theorem dX3_bars_1 : decode cX3_bars 1 = .ok (.getfield 9, 3) := by decide +kernel
theorem dX3_bars_4 : decode cX3_bars 4 = .ok (.iload_n 1, 1) := by decide +kernel
theorem dX3_bars_5 : decode cX3_bars 5 = .ok (.iload_n 3, 1) := by decide +kernel
theorem dX3_bars_6 : decode cX3_bars 6 = .ok (.invokestatic 37, 3) := by decide +kernel
theorem dX3_bars_9 : decode cX3_bars 9 = .ok (.iaload, 1) := by decide +kernel
theorem dX3_bars_10 : decode cX3_bars 10 = .ok (.iload_n 2, 1) := by decide +kernel
theorem dX3_bars_11 : decode cX3_bars 11 = .ok (.ishr, 1) := by decide +kernel
theorem dX3_bars_12 : decode cX3_bars 12 = .ok (.iconst 1, 1) := by decide +kernel
theorem dX3_bars_13 : decode cX3_bars 13 = .ok (.iand, 1) := by decide +kernel
theorem dX3_bars_14 : decode cX3_bars 14 = .ok (.ifCond .eq 7, 3) := by decide +kernel
theorem dX3_bars_17 : decode cX3_bars 17 = .ok (.iconst 1, 1) := by decide +kernel
theorem dX3_bars_18 : decode cX3_bars 18 = .ok (.goto 4, 3) := by decide +kernel
theorem dX3_bars_21 : decode cX3_bars 21 = .ok (.iconst 0, 1) := by decide +kernel
theorem dX3_bars_22 : decode cX3_bars 22 = .ok (.ireturn, 1) := by decide +kernel
theorem dX3_adopt_0 : decode cX3_adopt 0 = .ok (.aload_n 0, 1) := by decide +kernel
theorem dX3_adopt_1 : decode cX3_adopt 1 = .ok (.getfield 21, 3) := by decide +kernel
theorem dX3_adopt_4 : decode cX3_adopt 4 = .ok (.astore_n 2, 1) := by decide +kernel
theorem dX3_adopt_5 : decode cX3_adopt 5 = .ok (.aload_n 0, 1) := by decide +kernel
theorem dX3_adopt_6 : decode cX3_adopt 6 = .ok (.aload_n 1, 1) := by decide +kernel
theorem dX3_adopt_7 : decode cX3_adopt 7 = .ok (.putfield 21, 3) := by decide +kernel
theorem dX3_adopt_10 : decode cX3_adopt 10 = .ok (.aload_n 0, 1) := by decide +kernel
theorem dX3_adopt_11 : decode cX3_adopt 11 = .ok (.dup, 1) := by decide +kernel
theorem dX3_adopt_12 : decode cX3_adopt 12 = .ok (.getfield 29, 3) := by decide +kernel
theorem dX3_adopt_15 : decode cX3_adopt 15 = .ok (.iconst 1, 1) := by decide +kernel
theorem dX3_adopt_16 : decode cX3_adopt 16 = .ok (.iadd, 1) := by decide +kernel
theorem dX3_adopt_17 : decode cX3_adopt 17 = .ok (.putfield 29, 3) := by decide +kernel
theorem dX3_adopt_20 : decode cX3_adopt 20 = .ok (.iconst 0, 1) := by decide +kernel
theorem dX3_adopt_21 : decode cX3_adopt 21 = .ok (.istore_n 3, 1) := by decide +kernel
theorem dX3_adopt_22 : decode cX3_adopt 22 = .ok (.iload_n 3, 1) := by decide +kernel
theorem dX3_adopt_23 : decode cX3_adopt 23 = .ok (.iconst 3, 1) := by decide +kernel
theorem dX3_adopt_24 : decode cX3_adopt 24 = .ok (.if_icmp .ge 14, 3) := by decide +kernel
theorem dX3_adopt_27 : decode cX3_adopt 27 = .ok (.aload_n 0, 1) := by decide +kernel
theorem dX3_adopt_28 : decode cX3_adopt 28 = .ok (.iload_n 3, 1) := by decide +kernel
theorem dX3_adopt_29 : decode cX3_adopt 29 = .ok (.invokevirtual 33, 3) := by decide +kernel
theorem dX3_adopt_32 : decode cX3_adopt 32 = .ok (.iinc 3 1, 3) := by decide +kernel
theorem dX3_adopt_35 : decode cX3_adopt 35 = .ok (.goto (-13), 3) := by decide +kernel
theorem dX3_adopt_38 : decode cX3_adopt 38 = .ok (.aload_n 2, 1) := by decide +kernel
theorem dX3_adopt_39 : decode cX3_adopt 39 = .ok (.areturn, 1) := by decide +kernel
theorem dX5_stay_0 : decode cX5_stay 0 = .ok (.aload_n 0, 1) := by decide +kernel
theorem dX5_stay_1 : decode cX5_stay 1 = .ok (.getfield 9, 3) := by decide +kernel
theorem dX5_stay_4 : decode cX5_stay 4 = .ok (.iload_n 1, 1) := by decide +kernel
theorem dX5_stay_5 : decode cX5_stay 5 = .ok (.bipush 8, 2) := by decide +kernel
theorem dX5_stay_7 : decode cX5_stay 7 = .ok (.imul, 1) := by decide +kernel
theorem dX5_stay_8 : decode cX5_stay 8 = .ok (.iload_n 1, 1) := by decide +kernel
theorem dX5_stay_9 : decode cX5_stay 9 = .ok (.iadd, 1) := by decide +kernel
theorem dX5_stay_10 : decode cX5_stay 10 = .ok (.dup2, 1) := by decide +kernel
theorem dX5_stay_11 : decode cX5_stay 11 = .ok (.iaload, 1) := by decide +kernel
theorem dX5_stay_12 : decode cX5_stay 12 = .ok (.iload_n 2, 1) := by decide +kernel
theorem dX5_stay_13 : decode cX5_stay 13 = .ok (.iadd, 1) := by decide +kernel
theorem dX5_stay_14 : decode cX5_stay 14 = .ok (.iastore, 1) := by decide +kernel
theorem dX5_stay_15 : decode cX5_stay 15 = .ok (.aload_n 0, 1) := by decide +kernel
theorem dX5_stay_16 : decode cX5_stay 16 = .ok (.dup, 1) := by decide +kernel
theorem dX5_stay_17 : decode cX5_stay 17 = .ok (.getfield 48, 3) := by decide +kernel
theorem dX5_stay_20 : decode cX5_stay 20 = .ok (.iconst 1, 1) := by decide +kernel
theorem dX5_stay_21 : decode cX5_stay 21 = .ok (.iload_n 1, 1) := by decide +kernel
theorem dX5_stay_22 : decode cX5_stay 22 = .ok (.ishl, 1) := by decide +kernel
theorem dX5_stay_23 : decode cX5_stay 23 = .ok (.ior, 1) := by decide +kernel
theorem dX5_stay_24 : decode cX5_stay 24 = .ok (.putfield 48, 3) := by decide +kernel
theorem dX5_stay_27 : decode cX5_stay 27 = .ok (.return_, 1) := by decide +kernel
theorem dX5_send_0 : decode cX5_send 0 = .ok (.iload_n 2, 1) := by decide +kernel
theorem dX5_send_1 : decode cX5_send 1 = .ok (.ifCond .lt 30, 3) := by decide +kernel
theorem dX5_send_4 : decode cX5_send 4 = .ok (.iload_n 2, 1) := by decide +kernel
theorem dX5_send_5 : decode cX5_send 5 = .ok (.bipush 8, 2) := by decide +kernel
theorem dX5_send_7 : decode cX5_send 7 = .ok (.if_icmp .ge 24, 3) := by decide +kernel
theorem dX5_send_10 : decode cX5_send 10 = .ok (.aload_n 0, 1) := by decide +kernel
theorem dX5_send_11 : decode cX5_send 11 = .ok (.getfield 22, 3) := by decide +kernel
theorem dX5_send_14 : decode cX5_send 14 = .ok (.getfield 78, 3) := by decide +kernel
theorem dX5_send_17 : decode cX5_send 17 = .ok (.aload_n 0, 1) := by decide +kernel
theorem dX5_send_18 : decode cX5_send 18 = .ok (.getfield 33, 3) := by decide +kernel
theorem dX5_send_21 : decode cX5_send 21 = .ok (.iload_n 1, 1) := by decide +kernel
theorem dX5_send_22 : decode cX5_send 22 = .ok (.iadd, 1) := by decide +kernel
theorem dX5_send_23 : decode cX5_send 23 = .ok (.iaload, 1) := by decide +kernel
theorem dX5_send_24 : decode cX5_send 24 = .ok (.iload_n 2, 1) := by decide +kernel
theorem dX5_send_25 : decode cX5_send 25 = .ok (.ishr, 1) := by decide +kernel
theorem dX5_send_26 : decode cX5_send 26 = .ok (.iconst 1, 1) := by decide +kernel
theorem dX5_send_27 : decode cX5_send 27 = .ok (.iand, 1) := by decide +kernel
theorem dX5_send_28 : decode cX5_send 28 = .ok (.ifCond .eq 12, 3) := by decide +kernel
theorem dX5_send_31 : decode cX5_send 31 = .ok (.aload_n 0, 1) := by decide +kernel
theorem dX5_send_32 : decode cX5_send 32 = .ok (.iload_n 1, 1) := by decide +kernel
theorem dX5_send_33 : decode cX5_send 33 = .ok (.iload_n 3, 1) := by decide +kernel
theorem dX5_send_34 : decode cX5_send 34 = .ok (.invokevirtual 68, 3) := by decide +kernel
theorem dX5_send_37 : decode cX5_send 37 = .ok (.goto 30, 3) := by decide +kernel
theorem dX5_send_40 : decode cX5_send 40 = .ok (.aload_n 0, 1) := by decide +kernel
theorem dX5_send_41 : decode cX5_send 41 = .ok (.getfield 9, 3) := by decide +kernel
theorem dX5_send_44 : decode cX5_send 44 = .ok (.iload_n 1, 1) := by decide +kernel
theorem dX5_send_45 : decode cX5_send 45 = .ok (.bipush 8, 2) := by decide +kernel
theorem dX5_send_47 : decode cX5_send 47 = .ok (.imul, 1) := by decide +kernel
theorem dX5_send_48 : decode cX5_send 48 = .ok (.iload_n 2, 1) := by decide +kernel
theorem dX5_send_49 : decode cX5_send 49 = .ok (.iadd, 1) := by decide +kernel
theorem dX5_send_50 : decode cX5_send 50 = .ok (.dup2, 1) := by decide +kernel
theorem dX5_send_51 : decode cX5_send 51 = .ok (.iaload, 1) := by decide +kernel
theorem dX5_send_52 : decode cX5_send 52 = .ok (.iload_n 3, 1) := by decide +kernel
theorem dX5_send_53 : decode cX5_send 53 = .ok (.iadd, 1) := by decide +kernel
theorem dX5_send_54 : decode cX5_send 54 = .ok (.iastore, 1) := by decide +kernel
theorem dX5_send_55 : decode cX5_send 55 = .ok (.aload_n 0, 1) := by decide +kernel
theorem dX5_send_56 : decode cX5_send 56 = .ok (.getfield 15, 3) := by decide +kernel
theorem dX5_send_59 : decode cX5_send 59 = .ok (.iload_n 1, 1) := by decide +kernel
theorem dX5_send_60 : decode cX5_send 60 = .ok (.dup2, 1) := by decide +kernel
theorem dX5_send_61 : decode cX5_send 61 = .ok (.iaload, 1) := by decide +kernel
theorem dX5_send_62 : decode cX5_send 62 = .ok (.iconst 1, 1) := by decide +kernel
theorem dX5_send_63 : decode cX5_send 63 = .ok (.iload_n 2, 1) := by decide +kernel
theorem dX5_send_64 : decode cX5_send 64 = .ok (.ishl, 1) := by decide +kernel
theorem dX5_send_65 : decode cX5_send 65 = .ok (.ior, 1) := by decide +kernel
theorem dX5_send_66 : decode cX5_send 66 = .ok (.iastore, 1) := by decide +kernel
theorem dX5_send_67 : decode cX5_send 67 = .ok (.return_, 1) := by decide +kernel
theorem dX5_nameOf_0 : decode cX5_nameOf 0 = .ok (.aload_n 0, 1) := by decide +kernel
theorem dX5_nameOf_1 : decode cX5_nameOf 1 = .ok (.getfield 33, 3) := by decide +kernel
theorem dX5_nameOf_4 : decode cX5_nameOf 4 = .ok (.iload_n 1, 1) := by decide +kernel
theorem dX5_nameOf_5 : decode cX5_nameOf 5 = .ok (.iadd, 1) := by decide +kernel
theorem dX5_nameOf_6 : decode cX5_nameOf 6 = .ok (.istore_n 3, 1) := by decide +kernel
theorem dX5_nameOf_7 : decode cX5_nameOf 7 = .ok (.iload_n 2, 1) := by decide +kernel
theorem dX5_nameOf_8 : decode cX5_nameOf 8 = .ok (.ifCond .lt 9, 3) := by decide +kernel
theorem dX5_nameOf_11 : decode cX5_nameOf 11 = .ok (.iload_n 2, 1) := by decide +kernel
theorem dX5_nameOf_12 : decode cX5_nameOf 12 = .ok (.iload_n 1, 1) := by decide +kernel
theorem dX5_nameOf_13 : decode cX5_nameOf 13 = .ok (.ishr, 1) := by decide +kernel
theorem dX5_nameOf_14 : decode cX5_nameOf 14 = .ok (.goto 22, 3) := by decide +kernel
theorem dX5_nameOf_17 : decode cX5_nameOf 17 = .ok (.aload_n 0, 1) := by decide +kernel
theorem dX5_nameOf_18 : decode cX5_nameOf 18 = .ok (.getfield 22, 3) := by decide +kernel
theorem dX5_nameOf_21 : decode cX5_nameOf 21 = .ok (.getfield 78, 3) := by decide +kernel
theorem dX5_nameOf_24 : decode cX5_nameOf 24 = .ok (.iload_n 3, 1) := by decide +kernel
theorem dX5_nameOf_25 : decode cX5_nameOf 25 = .ok (.iaload, 1) := by decide +kernel
theorem dX5_nameOf_26 : decode cX5_nameOf 26 = .ok (.aload_n 0, 1) := by decide +kernel
theorem dX5_nameOf_27 : decode cX5_nameOf 27 = .ok (.getfield 18, 3) := by decide +kernel
theorem dX5_nameOf_30 : decode cX5_nameOf 30 = .ok (.getfield 87, 3) := by decide +kernel
theorem dX5_nameOf_33 : decode cX5_nameOf 33 = .ok (.iload_n 3, 1) := by decide +kernel
theorem dX5_nameOf_34 : decode cX5_nameOf 34 = .ok (.iaload, 1) := by decide +kernel
theorem dX5_nameOf_35 : decode cX5_nameOf 35 = .ok (.ishr, 1) := by decide +kernel
theorem dX5_nameOf_36 : decode cX5_nameOf 36 = .ok (.istore 4, 2) := by decide +kernel
theorem dX5_nameOf_38 : decode cX5_nameOf 38 = .ok (.iload 4, 2) := by decide +kernel
theorem dX5_nameOf_40 : decode cX5_nameOf 40 = .ok (.iconst 1, 1) := by decide +kernel
theorem dX5_nameOf_41 : decode cX5_nameOf 41 = .ok (.iand, 1) := by decide +kernel
theorem dX5_nameOf_42 : decode cX5_nameOf 42 = .ok (.ifCond .eq 15, 3) := by decide +kernel
theorem dX5_nameOf_45 : decode cX5_nameOf 45 = .ok (.aload_n 0, 1) := by decide +kernel
theorem dX5_nameOf_46 : decode cX5_nameOf 46 = .ok (.getfield 18, 3) := by decide +kernel
theorem dX5_nameOf_49 : decode cX5_nameOf 49 = .ok (.getfield 91, 3) := by decide +kernel
theorem dX5_nameOf_52 : decode cX5_nameOf 52 = .ok (.iload_n 3, 1) := by decide +kernel
theorem dX5_nameOf_53 : decode cX5_nameOf 53 = .ok (.iaload, 1) := by decide +kernel
theorem dX5_nameOf_54 : decode cX5_nameOf 54 = .ok (.goto 12, 3) := by decide +kernel
theorem dX5_nameOf_57 : decode cX5_nameOf 57 = .ok (.aload_n 0, 1) := by decide +kernel
theorem dX5_nameOf_58 : decode cX5_nameOf 58 = .ok (.getfield 18, 3) := by decide +kernel
theorem dX5_nameOf_61 : decode cX5_nameOf 61 = .ok (.getfield 87, 3) := by decide +kernel
theorem dX5_nameOf_64 : decode cX5_nameOf 64 = .ok (.iload_n 3, 1) := by decide +kernel
theorem dX5_nameOf_65 : decode cX5_nameOf 65 = .ok (.iaload, 1) := by decide +kernel
theorem dX5_nameOf_66 : decode cX5_nameOf 66 = .ok (.ireturn, 1) := by decide +kernel
theorem dX5_reaching_0 : decode cX5_reaching 0 = .ok (.aload_n 0, 1) := by decide +kernel
theorem dX5_reaching_1 : decode cX5_reaching 1 = .ok (.getfield 48, 3) := by decide +kernel
theorem dX5_reaching_4 : decode cX5_reaching 4 = .ok (.istore_n 1, 1) := by decide +kernel
theorem dX5_reaching_5 : decode cX5_reaching 5 = .ok (.iconst 0, 1) := by decide +kernel
theorem dX5_reaching_6 : decode cX5_reaching 6 = .ok (.istore_n 2, 1) := by decide +kernel
theorem dX5_reaching_7 : decode cX5_reaching 7 = .ok (.iload_n 2, 1) := by decide +kernel
theorem dX5_reaching_8 : decode cX5_reaching 8 = .ok (.bipush 8, 2) := by decide +kernel
theorem dX5_reaching_10 : decode cX5_reaching 10 = .ok (.if_icmp .ge 59, 3) := by decide +kernel
theorem dX5_reaching_13 : decode cX5_reaching 13 = .ok (.iload_n 1, 1) := by decide +kernel
theorem dX5_reaching_14 : decode cX5_reaching 14 = .ok (.istore_n 3, 1) := by decide +kernel
theorem dX5_reaching_15 : decode cX5_reaching 15 = .ok (.iconst 0, 1) := by decide +kernel
theorem dX5_reaching_16 : decode cX5_reaching 16 = .ok (.istore 4, 2) := by decide +kernel
theorem dX5_reaching_18 : decode cX5_reaching 18 = .ok (.iload 4, 2) := by decide +kernel
theorem dX5_reaching_20 : decode cX5_reaching 20 = .ok (.aload_n 0, 1) := by decide +kernel
theorem dX5_reaching_21 : decode cX5_reaching 21 = .ok (.getfield 18, 3) := by decide +kernel
theorem dX5_reaching_24 : decode cX5_reaching 24 = .ok (.getfield 40, 3) := by decide +kernel
theorem dX5_reaching_27 : decode cX5_reaching 27 = .ok (.if_icmp .ge 28, 3) := by decide +kernel
theorem dX5_reaching_30 : decode cX5_reaching 30 = .ok (.aload_n 0, 1) := by decide +kernel
theorem dX5_reaching_31 : decode cX5_reaching 31 = .ok (.getfield 15, 3) := by decide +kernel
theorem dX5_reaching_34 : decode cX5_reaching 34 = .ok (.iload 4, 2) := by decide +kernel
theorem dX5_reaching_36 : decode cX5_reaching 36 = .ok (.iaload, 1) := by decide +kernel
theorem dX5_reaching_37 : decode cX5_reaching 37 = .ok (.iload_n 1, 1) := by decide +kernel
theorem dX5_reaching_38 : decode cX5_reaching 38 = .ok (.iand, 1) := by decide +kernel
theorem dX5_reaching_39 : decode cX5_reaching 39 = .ok (.ifCond .eq 10, 3) := by decide +kernel
theorem dX5_reaching_42 : decode cX5_reaching 42 = .ok (.iload_n 1, 1) := by decide +kernel
theorem dX5_reaching_43 : decode cX5_reaching 43 = .ok (.iconst 1, 1) := by decide +kernel
theorem dX5_reaching_44 : decode cX5_reaching 44 = .ok (.iload 4, 2) := by decide +kernel
theorem dX5_reaching_46 : decode cX5_reaching 46 = .ok (.ishl, 1) := by decide +kernel
theorem dX5_reaching_47 : decode cX5_reaching 47 = .ok (.ior, 1) := by decide +kernel
theorem dX5_reaching_48 : decode cX5_reaching 48 = .ok (.istore_n 1, 1) := by decide +kernel
theorem dX5_reaching_49 : decode cX5_reaching 49 = .ok (.iinc 4 1, 3) := by decide +kernel
theorem dX5_reaching_52 : decode cX5_reaching 52 = .ok (.goto (-34), 3) := by decide +kernel
theorem dX5_reaching_55 : decode cX5_reaching 55 = .ok (.iload_n 1, 1) := by decide +kernel
theorem dX5_reaching_56 : decode cX5_reaching 56 = .ok (.iload_n 3, 1) := by decide +kernel
theorem dX5_reaching_57 : decode cX5_reaching 57 = .ok (.if_icmp .ne 6, 3) := by decide +kernel
theorem dX5_reaching_60 : decode cX5_reaching 60 = .ok (.goto 9, 3) := by decide +kernel
theorem dX5_reaching_63 : decode cX5_reaching 63 = .ok (.iinc 2 1, 3) := by decide +kernel
theorem dX5_reaching_66 : decode cX5_reaching 66 = .ok (.goto (-59), 3) := by decide +kernel
theorem dX5_reaching_69 : decode cX5_reaching 69 = .ok (.iload_n 1, 1) := by decide +kernel
theorem dX5_reaching_70 : decode cX5_reaching 70 = .ok (.ireturn, 1) := by decide +kernel
theorem dX5_openNames_0 : decode cX5_openNames 0 = .ok (.iconst 0, 1) := by decide +kernel
theorem dX5_openNames_1 : decode cX5_openNames 1 = .ok (.istore_n 2, 1) := by decide +kernel
theorem dX5_openNames_2 : decode cX5_openNames 2 = .ok (.iconst 0, 1) := by decide +kernel
theorem dX5_openNames_3 : decode cX5_openNames 3 = .ok (.istore_n 3, 1) := by decide +kernel
theorem dX5_openNames_4 : decode cX5_openNames 4 = .ok (.iload_n 3, 1) := by decide +kernel
theorem dX5_openNames_5 : decode cX5_openNames 5 = .ok (.aload_n 0, 1) := by decide +kernel
theorem dX5_openNames_6 : decode cX5_openNames 6 = .ok (.getfield 18, 3) := by decide +kernel
theorem dX5_openNames_9 : decode cX5_openNames 9 = .ok (.getfield 40, 3) := by decide +kernel
theorem dX5_openNames_12 : decode cX5_openNames 12 = .ok (.if_icmp .ge 54, 3) := by decide +kernel
theorem dX5_openNames_15 : decode cX5_openNames 15 = .ok (.aload_n 0, 1) := by decide +kernel
theorem dX5_openNames_16 : decode cX5_openNames 16 = .ok (.getfield 33, 3) := by decide +kernel
theorem dX5_openNames_19 : decode cX5_openNames 19 = .ok (.iload_n 3, 1) := by decide +kernel
theorem dX5_openNames_20 : decode cX5_openNames 20 = .ok (.iadd, 1) := by decide +kernel
theorem dX5_openNames_21 : decode cX5_openNames 21 = .ok (.istore 4, 2) := by decide +kernel
theorem dX5_openNames_23 : decode cX5_openNames 23 = .ok (.aload_n 0, 1) := by decide +kernel
theorem dX5_openNames_24 : decode cX5_openNames 24 = .ok (.getfield 51, 3) := by decide +kernel
theorem dX5_openNames_27 : decode cX5_openNames 27 = .ok (.iload_n 3, 1) := by decide +kernel
theorem dX5_openNames_28 : decode cX5_openNames 28 = .ok (.ishr, 1) := by decide +kernel
theorem dX5_openNames_29 : decode cX5_openNames 29 = .ok (.iconst 1, 1) := by decide +kernel
theorem dX5_openNames_30 : decode cX5_openNames 30 = .ok (.iand, 1) := by decide +kernel
theorem dX5_openNames_31 : decode cX5_openNames 31 = .ok (.ifCond .eq 29, 3) := by decide +kernel
theorem dX5_openNames_34 : decode cX5_openNames 34 = .ok (.aload_n 0, 1) := by decide +kernel
theorem dX5_openNames_35 : decode cX5_openNames 35 = .ok (.getfield 22, 3) := by decide +kernel
theorem dX5_openNames_38 : decode cX5_openNames 38 = .ok (.getfield 78, 3) := by decide +kernel
theorem dX5_openNames_41 : decode cX5_openNames 41 = .ok (.iload 4, 2) := by decide +kernel
theorem dX5_openNames_43 : decode cX5_openNames 43 = .ok (.iaload, 1) := by decide +kernel
theorem dX5_openNames_44 : decode cX5_openNames 44 = .ok (.aload_n 1, 1) := by decide +kernel
theorem dX5_openNames_45 : decode cX5_openNames 45 = .ok (.iload 4, 2) := by decide +kernel
theorem dX5_openNames_47 : decode cX5_openNames 47 = .ok (.iaload, 1) := by decide +kernel
theorem dX5_openNames_48 : decode cX5_openNames 48 = .ok (.ishr, 1) := by decide +kernel
theorem dX5_openNames_49 : decode cX5_openNames 49 = .ok (.iconst 1, 1) := by decide +kernel
theorem dX5_openNames_50 : decode cX5_openNames 50 = .ok (.iand, 1) := by decide +kernel
theorem dX5_openNames_51 : decode cX5_openNames 51 = .ok (.ifCond .ne 9, 3) := by decide +kernel
theorem dX5_openNames_54 : decode cX5_openNames 54 = .ok (.iload_n 2, 1) := by decide +kernel
theorem dX5_openNames_55 : decode cX5_openNames 55 = .ok (.iconst 1, 1) := by decide +kernel
theorem dX5_openNames_56 : decode cX5_openNames 56 = .ok (.iload_n 3, 1) := by decide +kernel
theorem dX5_openNames_57 : decode cX5_openNames 57 = .ok (.ishl, 1) := by decide +kernel
theorem dX5_openNames_58 : decode cX5_openNames 58 = .ok (.ior, 1) := by decide +kernel
theorem dX5_openNames_59 : decode cX5_openNames 59 = .ok (.istore_n 2, 1) := by decide +kernel
theorem dX5_openNames_60 : decode cX5_openNames 60 = .ok (.iinc 3 1, 3) := by decide +kernel
theorem dX5_openNames_63 : decode cX5_openNames 63 = .ok (.goto (-59), 3) := by decide +kernel
theorem dX5_openNames_66 : decode cX5_openNames 66 = .ok (.iload_n 2, 1) := by decide +kernel
theorem dX5_openNames_67 : decode cX5_openNames 67 = .ok (.ireturn, 1) := by decide +kernel
theorem dX5_reachAll_0 : decode cX5_reachAll 0 = .ok (.iconst 0, 1) := by decide +kernel
theorem dX5_reachAll_1 : decode cX5_reachAll 1 = .ok (.istore_n 2, 1) := by decide +kernel
theorem dX5_reachAll_2 : decode cX5_reachAll 2 = .ok (.iload_n 2, 1) := by decide +kernel
theorem dX5_reachAll_3 : decode cX5_reachAll 3 = .ok (.aload_n 0, 1) := by decide +kernel
theorem dX5_reachAll_4 : decode cX5_reachAll 4 = .ok (.getfield 18, 3) := by decide +kernel
theorem dX5_reachAll_7 : decode cX5_reachAll 7 = .ok (.getfield 40, 3) := by decide +kernel
theorem dX5_reachAll_10 : decode cX5_reachAll 10 = .ok (.if_icmp .ge 34, 3) := by decide +kernel
theorem dX5_reachAll_13 : decode cX5_reachAll 13 = .ok (.aload_n 0, 1) := by decide +kernel
theorem dX5_reachAll_14 : decode cX5_reachAll 14 = .ok (.getfield 51, 3) := by decide +kernel
theorem dX5_reachAll_17 : decode cX5_reachAll 17 = .ok (.iload_n 2, 1) := by decide +kernel
theorem dX5_reachAll_18 : decode cX5_reachAll 18 = .ok (.ishr, 1) := by decide +kernel
theorem dX5_reachAll_19 : decode cX5_reachAll 19 = .ok (.iconst 1, 1) := by decide +kernel
theorem dX5_reachAll_20 : decode cX5_reachAll 20 = .ok (.iand, 1) := by decide +kernel
theorem dX5_reachAll_21 : decode cX5_reachAll 21 = .ok (.ifCond .eq 17, 3) := by decide +kernel
theorem dX5_reachAll_24 : decode cX5_reachAll 24 = .ok (.aload_n 0, 1) := by decide +kernel
theorem dX5_reachAll_25 : decode cX5_reachAll 25 = .ok (.getfield 15, 3) := by decide +kernel
theorem dX5_reachAll_28 : decode cX5_reachAll 28 = .ok (.iload_n 2, 1) := by decide +kernel
theorem dX5_reachAll_29 : decode cX5_reachAll 29 = .ok (.iconst 1, 1) := by decide +kernel
theorem dX5_reachAll_30 : decode cX5_reachAll 30 = .ok (.aload_n 0, 1) := by decide +kernel
theorem dX5_reachAll_31 : decode cX5_reachAll 31 = .ok (.iload_n 2, 1) := by decide +kernel
theorem dX5_reachAll_32 : decode cX5_reachAll 32 = .ok (.iload_n 1, 1) := by decide +kernel
theorem dX5_reachAll_33 : decode cX5_reachAll 33 = .ok (.invokevirtual 111, 3) := by decide +kernel
theorem dX5_reachAll_36 : decode cX5_reachAll 36 = .ok (.ishl, 1) := by decide +kernel
theorem dX5_reachAll_37 : decode cX5_reachAll 37 = .ok (.iastore, 1) := by decide +kernel
theorem dX5_reachAll_38 : decode cX5_reachAll 38 = .ok (.iinc 2 1, 3) := by decide +kernel
theorem dX5_reachAll_41 : decode cX5_reachAll 41 = .ok (.goto (-39), 3) := by decide +kernel
theorem dX5_reachAll_44 : decode cX5_reachAll 44 = .ok (.aload_n 0, 1) := by decide +kernel
theorem dX5_reachAll_45 : decode cX5_reachAll 45 = .ok (.invokevirtual 131, 3) := by decide +kernel
theorem dX5_reachAll_48 : decode cX5_reachAll 48 = .ok (.aload_n 0, 1) := by decide +kernel
theorem dX5_reachAll_49 : decode cX5_reachAll 49 = .ok (.getfield 45, 3) := by decide +kernel
theorem dX5_reachAll_52 : decode cX5_reachAll 52 = .ok (.if_icmp .ne 7, 3) := by decide +kernel
theorem dX5_reachAll_55 : decode cX5_reachAll 55 = .ok (.iconst 1, 1) := by decide +kernel
theorem dX5_reachAll_56 : decode cX5_reachAll 56 = .ok (.goto 4, 3) := by decide +kernel
theorem dX5_reachAll_59 : decode cX5_reachAll 59 = .ok (.iconst 0, 1) := by decide +kernel
theorem dX5_reachAll_60 : decode cX5_reachAll 60 = .ok (.ireturn, 1) := by decide +kernel
theorem dX5_seekWays_0 : decode cX5_seekWays 0 = .ok (.aload_n 0, 1) := by decide +kernel
theorem dX5_seekWays_1 : decode cX5_seekWays 1 = .ok (.aload_n 0, 1) := by decide +kernel
theorem dX5_seekWays_2 : decode cX5_seekWays 2 = .ok (.getfield 18, 3) := by decide +kernel
theorem dX5_seekWays_5 : decode cX5_seekWays 5 = .ok (.getfield 87, 3) := by decide +kernel
theorem dX5_seekWays_8 : decode cX5_seekWays 8 = .ok (.invokevirtual 114, 3) := by decide +kernel
theorem dX5_seekWays_11 : decode cX5_seekWays 11 = .ok (.istore_n 2, 1) := by decide +kernel
theorem dX5_seekWays_12 : decode cX5_seekWays 12 = .ok (.aload_n 0, 1) := by decide +kernel
theorem dX5_seekWays_13 : decode cX5_seekWays 13 = .ok (.aload_n 0, 1) := by decide +kernel
theorem dX5_seekWays_14 : decode cX5_seekWays 14 = .ok (.getfield 18, 3) := by decide +kernel
theorem dX5_seekWays_17 : decode cX5_seekWays 17 = .ok (.getfield 91, 3) := by decide +kernel
theorem dX5_seekWays_20 : decode cX5_seekWays 20 = .ok (.invokevirtual 114, 3) := by decide +kernel
theorem dX5_seekWays_23 : decode cX5_seekWays 23 = .ok (.istore_n 3, 1) := by decide +kernel
theorem dX5_seekWays_24 : decode cX5_seekWays 24 = .ok (.bipush 9, 2) := by decide +kernel
theorem dX5_seekWays_26 : decode cX5_seekWays 26 = .ok (.istore 4, 2) := by decide +kernel
theorem dX5_seekWays_28 : decode cX5_seekWays 28 = .ok (.aload_n 0, 1) := by decide +kernel
theorem dX5_seekWays_29 : decode cX5_seekWays 29 = .ok (.iconst 0, 1) := by decide +kernel
theorem dX5_seekWays_30 : decode cX5_seekWays 30 = .ok (.putfield 118, 3) := by decide +kernel
theorem dX5_seekWays_33 : decode cX5_seekWays 33 = .ok (.aload_n 0, 1) := by decide +kernel
theorem dX5_seekWays_34 : decode cX5_seekWays 34 = .ok (.bipush (-5), 2) := by decide +kernel
theorem dX5_seekWays_36 : decode cX5_seekWays 36 = .ok (.putfield 108, 3) := by decide +kernel
theorem dX5_seekWays_39 : decode cX5_seekWays 39 = .ok (.iconst 0, 1) := by decide +kernel
theorem dX5_seekWays_40 : decode cX5_seekWays 40 = .ok (.istore 5, 2) := by decide +kernel
theorem dX5_seekWays_42 : decode cX5_seekWays 42 = .ok (.iload 5, 2) := by decide +kernel
theorem dX5_seekWays_44 : decode cX5_seekWays 44 = .ok (.aload_n 0, 1) := by decide +kernel
theorem dX5_seekWays_45 : decode cX5_seekWays 45 = .ok (.getfield 51, 3) := by decide +kernel
theorem dX5_seekWays_48 : decode cX5_seekWays 48 = .ok (.if_icmp .gt 103, 3) := by decide +kernel
theorem dX5_seekWays_51 : decode cX5_seekWays 51 = .ok (.iload 5, 2) := by decide +kernel
theorem dX5_seekWays_53 : decode cX5_seekWays 53 = .ok (.invokestatic 121, 3) := by decide +kernel
theorem dX5_seekWays_56 : decode cX5_seekWays 56 = .ok (.istore 6, 2) := by decide +kernel
theorem dX5_seekWays_58 : decode cX5_seekWays 58 = .ok (.iload 5, 2) := by decide +kernel
theorem dX5_seekWays_60 : decode cX5_seekWays 60 = .ok (.iload_n 3, 1) := by decide +kernel
theorem dX5_seekWays_61 : decode cX5_seekWays 61 = .ok (.iconst (-1), 1) := by decide +kernel
theorem dX5_seekWays_62 : decode cX5_seekWays 62 = .ok (.ixor, 1) := by decide +kernel
theorem dX5_seekWays_63 : decode cX5_seekWays 63 = .ok (.iand, 1) := by decide +kernel
theorem dX5_seekWays_64 : decode cX5_seekWays 64 = .ok (.ifCond .ne 23, 3) := by decide +kernel
theorem dX5_seekWays_67 : decode cX5_seekWays 67 = .ok (.aload_n 0, 1) := by decide +kernel
theorem dX5_seekWays_68 : decode cX5_seekWays 68 = .ok (.getfield 51, 3) := by decide +kernel
theorem dX5_seekWays_71 : decode cX5_seekWays 71 = .ok (.iload 5, 2) := by decide +kernel
theorem dX5_seekWays_73 : decode cX5_seekWays 73 = .ok (.iconst (-1), 1) := by decide +kernel
theorem dX5_seekWays_74 : decode cX5_seekWays 74 = .ok (.ixor, 1) := by decide +kernel
theorem dX5_seekWays_75 : decode cX5_seekWays 75 = .ok (.iand, 1) := by decide +kernel
theorem dX5_seekWays_76 : decode cX5_seekWays 76 = .ok (.iload_n 2, 1) := by decide +kernel
theorem dX5_seekWays_77 : decode cX5_seekWays 77 = .ok (.iconst (-1), 1) := by decide +kernel
theorem dX5_seekWays_78 : decode cX5_seekWays 78 = .ok (.ixor, 1) := by decide +kernel
theorem dX5_seekWays_79 : decode cX5_seekWays 79 = .ok (.iand, 1) := by decide +kernel
theorem dX5_seekWays_80 : decode cX5_seekWays 80 = .ok (.ifCond .ne 7, 3) := by decide +kernel
theorem dX5_seekWays_83 : decode cX5_seekWays 83 = .ok (.iconst 1, 1) := by decide +kernel
theorem dX5_seekWays_84 : decode cX5_seekWays 84 = .ok (.goto 4, 3) := by decide +kernel
theorem dX5_seekWays_87 : decode cX5_seekWays 87 = .ok (.iconst 0, 1) := by decide +kernel
theorem dX5_seekWays_88 : decode cX5_seekWays 88 = .ok (.istore 7, 2) := by decide +kernel
theorem dX5_seekWays_90 : decode cX5_seekWays 90 = .ok (.iload 7, 2) := by decide +kernel
theorem dX5_seekWays_92 : decode cX5_seekWays 92 = .ok (.ifCond .eq 53, 3) := by decide +kernel
theorem dX5_seekWays_95 : decode cX5_seekWays 95 = .ok (.iload_n 1, 1) := by decide +kernel
theorem dX5_seekWays_96 : decode cX5_seekWays 96 = .ok (.ifCond .ne 10, 3) := by decide +kernel
theorem dX5_seekWays_99 : decode cX5_seekWays 99 = .ok (.iload 6, 2) := by decide +kernel
theorem dX5_seekWays_101 : decode cX5_seekWays 101 = .ok (.iload 4, 2) := by decide +kernel
theorem dX5_seekWays_103 : decode cX5_seekWays 103 = .ok (.if_icmp .ge 42, 3) := by decide +kernel
theorem dX5_seekWays_106 : decode cX5_seekWays 106 = .ok (.aload_n 0, 1) := by decide +kernel
theorem dX5_seekWays_107 : decode cX5_seekWays 107 = .ok (.iload 5, 2) := by decide +kernel
theorem dX5_seekWays_109 : decode cX5_seekWays 109 = .ok (.invokevirtual 127, 3) := by decide +kernel
theorem dX5_seekWays_112 : decode cX5_seekWays 112 = .ok (.ifCond .ne 6, 3) := by decide +kernel
theorem dX5_seekWays_115 : decode cX5_seekWays 115 = .ok (.goto 30, 3) := by decide +kernel
theorem dX5_seekWays_118 : decode cX5_seekWays 118 = .ok (.aload_n 0, 1) := by decide +kernel
theorem dX5_seekWays_119 : decode cX5_seekWays 119 = .ok (.dup, 1) := by decide +kernel
theorem dX5_seekWays_120 : decode cX5_seekWays 120 = .ok (.getfield 118, 3) := by decide +kernel
theorem dX5_seekWays_123 : decode cX5_seekWays 123 = .ok (.iconst 1, 1) := by decide +kernel
theorem dX5_seekWays_124 : decode cX5_seekWays 124 = .ok (.iadd, 1) := by decide +kernel
theorem dX5_seekWays_125 : decode cX5_seekWays 125 = .ok (.putfield 118, 3) := by decide +kernel
theorem dX5_seekWays_128 : decode cX5_seekWays 128 = .ok (.iload 6, 2) := by decide +kernel
theorem dX5_seekWays_130 : decode cX5_seekWays 130 = .ok (.iload 4, 2) := by decide +kernel
theorem dX5_seekWays_132 : decode cX5_seekWays 132 = .ok (.if_icmp .ge 13, 3) := by decide +kernel
theorem dX5_seekWays_135 : decode cX5_seekWays 135 = .ok (.iload 6, 2) := by decide +kernel
theorem dX5_seekWays_137 : decode cX5_seekWays 137 = .ok (.istore 4, 2) := by decide +kernel
theorem dX5_seekWays_139 : decode cX5_seekWays 139 = .ok (.aload_n 0, 1) := by decide +kernel
theorem dX5_seekWays_140 : decode cX5_seekWays 140 = .ok (.iload 5, 2) := by decide +kernel
theorem dX5_seekWays_142 : decode cX5_seekWays 142 = .ok (.putfield 108, 3) := by decide +kernel
theorem dX5_seekWays_145 : decode cX5_seekWays 145 = .ok (.iinc 5 1, 3) := by decide +kernel
theorem dX5_seekWays_148 : decode cX5_seekWays 148 = .ok (.goto (-106), 3) := by decide +kernel
theorem dX5_seekWays_151 : decode cX5_seekWays 151 = .ok (.return_, 1) := by decide +kernel
theorem dX5_layOrders_0 : decode cX5_layOrders 0 = .ok (.bipush (-5), 2) := by decide +kernel
theorem dX5_layOrders_2 : decode cX5_layOrders 2 = .ok (.istore_n 1, 1) := by decide +kernel
theorem dX5_layOrders_3 : decode cX5_layOrders 3 = .ok (.aload_n 0, 1) := by decide +kernel
theorem dX5_layOrders_4 : decode cX5_layOrders 4 = .ok (.getfield 51, 3) := by decide +kernel
theorem dX5_layOrders_7 : decode cX5_layOrders 7 = .ok (.ifCond .eq 26, 3) := by decide +kernel
theorem dX5_layOrders_10 : decode cX5_layOrders 10 = .ok (.aload_n 0, 1) := by decide +kernel
theorem dX5_layOrders_11 : decode cX5_layOrders 11 = .ok (.getfield 22, 3) := by decide +kernel
theorem dX5_layOrders_14 : decode cX5_layOrders 14 = .ok (.getfield 94, 3) := by decide +kernel
theorem dX5_layOrders_17 : decode cX5_layOrders 17 = .ok (.getfield 98, 3) := by decide +kernel
theorem dX5_layOrders_20 : decode cX5_layOrders 20 = .ok (.ifCond .eq 13, 3) := by decide +kernel
theorem dX5_layOrders_23 : decode cX5_layOrders 23 = .ok (.aload_n 0, 1) := by decide +kernel
theorem dX5_layOrders_24 : decode cX5_layOrders 24 = .ok (.iconst 0, 1) := by decide +kernel
theorem dX5_layOrders_25 : decode cX5_layOrders 25 = .ok (.invokevirtual 104, 3) := by decide +kernel
theorem dX5_layOrders_28 : decode cX5_layOrders 28 = .ok (.aload_n 0, 1) := by decide +kernel
theorem dX5_layOrders_29 : decode cX5_layOrders 29 = .ok (.getfield 108, 3) := by decide +kernel
theorem dX5_layOrders_32 : decode cX5_layOrders 32 = .ok (.istore_n 1, 1) := by decide +kernel
theorem dX5_layOrders_33 : decode cX5_layOrders 33 = .ok (.iconst 0, 1) := by decide +kernel
theorem dX5_layOrders_34 : decode cX5_layOrders 34 = .ok (.istore_n 2, 1) := by decide +kernel
theorem dX5_layOrders_35 : decode cX5_layOrders 35 = .ok (.iload_n 2, 1) := by decide +kernel
theorem dX5_layOrders_36 : decode cX5_layOrders 36 = .ok (.aload_n 0, 1) := by decide +kernel
theorem dX5_layOrders_37 : decode cX5_layOrders 37 = .ok (.getfield 18, 3) := by decide +kernel
theorem dX5_layOrders_40 : decode cX5_layOrders 40 = .ok (.getfield 40, 3) := by decide +kernel
theorem dX5_layOrders_43 : decode cX5_layOrders 43 = .ok (.if_icmp .ge 40, 3) := by decide +kernel
theorem dX5_layOrders_46 : decode cX5_layOrders 46 = .ok (.aload_n 0, 1) := by decide +kernel
theorem dX5_layOrders_47 : decode cX5_layOrders 47 = .ok (.getfield 51, 3) := by decide +kernel
theorem dX5_layOrders_50 : decode cX5_layOrders 50 = .ok (.iload_n 2, 1) := by decide +kernel
theorem dX5_layOrders_51 : decode cX5_layOrders 51 = .ok (.ishr, 1) := by decide +kernel
theorem dX5_layOrders_52 : decode cX5_layOrders 52 = .ok (.iconst 1, 1) := by decide +kernel
theorem dX5_layOrders_53 : decode cX5_layOrders 53 = .ok (.iand, 1) := by decide +kernel
theorem dX5_layOrders_54 : decode cX5_layOrders 54 = .ok (.ifCond .eq 23, 3) := by decide +kernel
theorem dX5_layOrders_57 : decode cX5_layOrders 57 = .ok (.aload_n 0, 1) := by decide +kernel
theorem dX5_layOrders_58 : decode cX5_layOrders 58 = .ok (.getfield 15, 3) := by decide +kernel
theorem dX5_layOrders_61 : decode cX5_layOrders 61 = .ok (.iload_n 2, 1) := by decide +kernel
theorem dX5_layOrders_62 : decode cX5_layOrders 62 = .ok (.iconst 0, 1) := by decide +kernel
theorem dX5_layOrders_63 : decode cX5_layOrders 63 = .ok (.iastore, 1) := by decide +kernel
theorem dX5_layOrders_64 : decode cX5_layOrders 64 = .ok (.aload_n 0, 1) := by decide +kernel
theorem dX5_layOrders_65 : decode cX5_layOrders 65 = .ok (.iload_n 2, 1) := by decide +kernel
theorem dX5_layOrders_66 : decode cX5_layOrders 66 = .ok (.aload_n 0, 1) := by decide +kernel
theorem dX5_layOrders_67 : decode cX5_layOrders 67 = .ok (.iload_n 2, 1) := by decide +kernel
theorem dX5_layOrders_68 : decode cX5_layOrders 68 = .ok (.iload_n 1, 1) := by decide +kernel
theorem dX5_layOrders_69 : decode cX5_layOrders 69 = .ok (.invokevirtual 111, 3) := by decide +kernel
theorem dX5_layOrders_72 : decode cX5_layOrders 72 = .ok (.bipush 10, 2) := by decide +kernel
theorem dX5_layOrders_74 : decode cX5_layOrders 74 = .ok (.invokevirtual 60, 3) := by decide +kernel
theorem dX5_layOrders_77 : decode cX5_layOrders 77 = .ok (.iinc 2 1, 3) := by decide +kernel
theorem dX5_layOrders_80 : decode cX5_layOrders 80 = .ok (.goto (-45), 3) := by decide +kernel
theorem dX5_layOrders_83 : decode cX5_layOrders 83 = .ok (.return_, 1) := by decide +kernel
theorem dX5_layHand_0 : decode cX5_layHand 0 = .ok (.aload_n 0, 1) := by decide +kernel
theorem dX5_layHand_1 : decode cX5_layHand 1 = .ok (.getfield 18, 3) := by decide +kernel
theorem dX5_layHand_4 : decode cX5_layHand 4 = .ok (.getfield 72, 3) := by decide +kernel
theorem dX5_layHand_7 : decode cX5_layHand 7 = .ok (.iload_n 2, 1) := by decide +kernel
theorem dX5_layHand_8 : decode cX5_layHand 8 = .ok (.iaload, 1) := by decide +kernel
theorem dX5_layHand_9 : decode cX5_layHand 9 = .ok (.iconst 5, 1) := by decide +kernel
theorem dX5_layHand_10 : decode cX5_layHand 10 = .ok (.if_icmp .ne 46, 3) := by decide +kernel
theorem dX5_layHand_13 : decode cX5_layHand 13 = .ok (.aload_n 0, 1) := by decide +kernel
theorem dX5_layHand_14 : decode cX5_layHand 14 = .ok (.getfield 45, 3) := by decide +kernel
theorem dX5_layHand_17 : decode cX5_layHand 17 = .ok (.iconst 1, 1) := by decide +kernel
theorem dX5_layHand_18 : decode cX5_layHand 18 = .ok (.iload_n 1, 1) := by decide +kernel
theorem dX5_layHand_19 : decode cX5_layHand 19 = .ok (.ishl, 1) := by decide +kernel
theorem dX5_layHand_20 : decode cX5_layHand 20 = .ok (.iconst (-1), 1) := by decide +kernel
theorem dX5_layHand_21 : decode cX5_layHand 21 = .ok (.ixor, 1) := by decide +kernel
theorem dX5_layHand_22 : decode cX5_layHand 22 = .ok (.iand, 1) := by decide +kernel
theorem dX5_layHand_23 : decode cX5_layHand 23 = .ok (.aload_n 0, 1) := by decide +kernel
theorem dX5_layHand_24 : decode cX5_layHand 24 = .ok (.getfield 22, 3) := by decide +kernel
theorem dX5_layHand_27 : decode cX5_layHand 27 = .ok (.getfield 78, 3) := by decide +kernel
theorem dX5_layHand_30 : decode cX5_layHand 30 = .ok (.iload_n 2, 1) := by decide +kernel
theorem dX5_layHand_31 : decode cX5_layHand 31 = .ok (.iaload, 1) := by decide +kernel
theorem dX5_layHand_32 : decode cX5_layHand 32 = .ok (.iconst (-1), 1) := by decide +kernel
theorem dX5_layHand_33 : decode cX5_layHand 33 = .ok (.ixor, 1) := by decide +kernel
theorem dX5_layHand_34 : decode cX5_layHand 34 = .ok (.iand, 1) := by decide +kernel
theorem dX5_layHand_35 : decode cX5_layHand 35 = .ok (.istore_n 3, 1) := by decide +kernel
theorem dX5_layHand_36 : decode cX5_layHand 36 = .ok (.aload_n 0, 1) := by decide +kernel
theorem dX5_layHand_37 : decode cX5_layHand 37 = .ok (.iload_n 1, 1) := by decide +kernel
theorem dX5_layHand_38 : decode cX5_layHand 38 = .ok (.aload_n 0, 1) := by decide +kernel
theorem dX5_layHand_39 : decode cX5_layHand 39 = .ok (.getfield 18, 3) := by decide +kernel
theorem dX5_layHand_42 : decode cX5_layHand 42 = .ok (.aload_n 0, 1) := by decide +kernel
theorem dX5_layHand_43 : decode cX5_layHand 43 = .ok (.getfield 37, 3) := by decide +kernel
theorem dX5_layHand_46 : decode cX5_layHand 46 = .ok (.iload_n 3, 1) := by decide +kernel
theorem dX5_layHand_47 : decode cX5_layHand 47 = .ok (.invokevirtual 83, 3) := by decide +kernel
theorem dX5_layHand_50 : decode cX5_layHand 50 = .ok (.bipush 10, 2) := by decide +kernel
theorem dX5_layHand_52 : decode cX5_layHand 52 = .ok (.invokevirtual 60, 3) := by decide +kernel
theorem dX5_layHand_55 : decode cX5_layHand 55 = .ok (.return_, 1) := by decide +kernel
theorem dX5_layHand_56 : decode cX5_layHand 56 = .ok (.aload_n 0, 1) := by decide +kernel
theorem dX5_layHand_57 : decode cX5_layHand 57 = .ok (.iload_n 1, 1) := by decide +kernel
theorem dX5_layHand_58 : decode cX5_layHand 58 = .ok (.aload_n 0, 1) := by decide +kernel
theorem dX5_layHand_59 : decode cX5_layHand 59 = .ok (.getfield 18, 3) := by decide +kernel
theorem dX5_layHand_62 : decode cX5_layHand 62 = .ok (.getfield 87, 3) := by decide +kernel
theorem dX5_layHand_65 : decode cX5_layHand 65 = .ok (.iload_n 2, 1) := by decide +kernel
theorem dX5_layHand_66 : decode cX5_layHand 66 = .ok (.iaload, 1) := by decide +kernel
theorem dX5_layHand_67 : decode cX5_layHand 67 = .ok (.aload_n 0, 1) := by decide +kernel
theorem dX5_layHand_68 : decode cX5_layHand 68 = .ok (.getfield 18, 3) := by decide +kernel
theorem dX5_layHand_71 : decode cX5_layHand 71 = .ok (.getfield 90, 3) := by decide +kernel
theorem dX5_layHand_74 : decode cX5_layHand 74 = .ok (.iload_n 2, 1) := by decide +kernel
theorem dX5_layHand_75 : decode cX5_layHand 75 = .ok (.iaload, 1) := by decide +kernel
theorem dX5_layHand_76 : decode cX5_layHand 76 = .ok (.invokevirtual 60, 3) := by decide +kernel
theorem dX5_layHand_79 : decode cX5_layHand 79 = .ok (.aload_n 0, 1) := by decide +kernel
theorem dX5_layHand_80 : decode cX5_layHand 80 = .ok (.getfield 18, 3) := by decide +kernel
theorem dX5_layHand_83 : decode cX5_layHand 83 = .ok (.getfield 72, 3) := by decide +kernel
theorem dX5_layHand_86 : decode cX5_layHand 86 = .ok (.iload_n 2, 1) := by decide +kernel
theorem dX5_layHand_87 : decode cX5_layHand 87 = .ok (.iaload, 1) := by decide +kernel
theorem dX5_layHand_88 : decode cX5_layHand 88 = .ok (.iconst 4, 1) := by decide +kernel
theorem dX5_layHand_89 : decode cX5_layHand 89 = .ok (.if_icmp .ne 29, 3) := by decide +kernel
theorem dX5_layHand_92 : decode cX5_layHand 92 = .ok (.aload_n 0, 1) := by decide +kernel
theorem dX5_layHand_93 : decode cX5_layHand 93 = .ok (.iload_n 1, 1) := by decide +kernel
theorem dX5_layHand_94 : decode cX5_layHand 94 = .ok (.aload_n 0, 1) := by decide +kernel
theorem dX5_layHand_95 : decode cX5_layHand 95 = .ok (.getfield 18, 3) := by decide +kernel
theorem dX5_layHand_98 : decode cX5_layHand 98 = .ok (.getfield 91, 3) := by decide +kernel
theorem dX5_layHand_101 : decode cX5_layHand 101 = .ok (.iload_n 2, 1) := by decide +kernel
theorem dX5_layHand_102 : decode cX5_layHand 102 = .ok (.iaload, 1) := by decide +kernel
theorem dX5_layHand_103 : decode cX5_layHand 103 = .ok (.bipush 10, 2) := by decide +kernel
theorem dX5_layHand_105 : decode cX5_layHand 105 = .ok (.aload_n 0, 1) := by decide +kernel
theorem dX5_layHand_106 : decode cX5_layHand 106 = .ok (.getfield 18, 3) := by decide +kernel
theorem dX5_layHand_109 : decode cX5_layHand 109 = .ok (.getfield 90, 3) := by decide +kernel
theorem dX5_layHand_112 : decode cX5_layHand 112 = .ok (.iload_n 2, 1) := by decide +kernel
theorem dX5_layHand_113 : decode cX5_layHand 113 = .ok (.iaload, 1) := by decide +kernel
theorem dX5_layHand_114 : decode cX5_layHand 114 = .ok (.isub, 1) := by decide +kernel
theorem dX5_layHand_115 : decode cX5_layHand 115 = .ok (.invokevirtual 60, 3) := by decide +kernel
theorem dX5_layHand_118 : decode cX5_layHand 118 = .ok (.return_, 1) := by decide +kernel
theorem dX5_layFirm_0 : decode cX5_layFirm 0 = .ok (.aload_n 0, 1) := by decide +kernel
theorem dX5_layFirm_1 : decode cX5_layFirm 1 = .ok (.iload_n 1, 1) := by decide +kernel
theorem dX5_layFirm_2 : decode cX5_layFirm 2 = .ok (.bipush 8, 2) := by decide +kernel
theorem dX5_layFirm_4 : decode cX5_layFirm 4 = .ok (.imul, 1) := by decide +kernel
theorem dX5_layFirm_5 : decode cX5_layFirm 5 = .ok (.putfield 33, 3) := by decide +kernel
theorem dX5_layFirm_8 : decode cX5_layFirm 8 = .ok (.aload_n 0, 1) := by decide +kernel
theorem dX5_layFirm_9 : decode cX5_layFirm 9 = .ok (.iload_n 1, 1) := by decide +kernel
theorem dX5_layFirm_10 : decode cX5_layFirm 10 = .ok (.putfield 37, 3) := by decide +kernel
theorem dX5_layFirm_13 : decode cX5_layFirm 13 = .ok (.aload_n 0, 1) := by decide +kernel
theorem dX5_layFirm_14 : decode cX5_layFirm 14 = .ok (.iconst 1, 1) := by decide +kernel
theorem dX5_layFirm_15 : decode cX5_layFirm 15 = .ok (.aload_n 0, 1) := by decide +kernel
theorem dX5_layFirm_16 : decode cX5_layFirm 16 = .ok (.getfield 18, 3) := by decide +kernel
theorem dX5_layFirm_19 : decode cX5_layFirm 19 = .ok (.getfield 40, 3) := by decide +kernel
theorem dX5_layFirm_22 : decode cX5_layFirm 22 = .ok (.ishl, 1) := by decide +kernel
theorem dX5_layFirm_23 : decode cX5_layFirm 23 = .ok (.iconst 1, 1) := by decide +kernel
theorem dX5_layFirm_24 : decode cX5_layFirm 24 = .ok (.isub, 1) := by decide +kernel
theorem dX5_layFirm_25 : decode cX5_layFirm 25 = .ok (.putfield 45, 3) := by decide +kernel
theorem dX5_layFirm_28 : decode cX5_layFirm 28 = .ok (.aload_n 0, 1) := by decide +kernel
theorem dX5_layFirm_29 : decode cX5_layFirm 29 = .ok (.iconst 0, 1) := by decide +kernel
theorem dX5_layFirm_30 : decode cX5_layFirm 30 = .ok (.putfield 48, 3) := by decide +kernel
theorem dX5_layFirm_33 : decode cX5_layFirm 33 = .ok (.aload_n 0, 1) := by decide +kernel
theorem dX5_layFirm_34 : decode cX5_layFirm 34 = .ok (.iconst 0, 1) := by decide +kernel
theorem dX5_layFirm_35 : decode cX5_layFirm 35 = .ok (.putfield 51, 3) := by decide +kernel
theorem dX5_layFirm_38 : decode cX5_layFirm 38 = .ok (.aload_n 0, 1) := by decide +kernel
theorem dX5_layFirm_39 : decode cX5_layFirm 39 = .ok (.getfield 9, 3) := by decide +kernel
theorem dX5_layFirm_42 : decode cX5_layFirm 42 = .ok (.iconst 0, 1) := by decide +kernel
theorem dX5_layFirm_43 : decode cX5_layFirm 43 = .ok (.invokestatic 54, 3) := by decide +kernel
theorem dX5_layFirm_46 : decode cX5_layFirm 46 = .ok (.aload_n 0, 1) := by decide +kernel
theorem dX5_layFirm_47 : decode cX5_layFirm 47 = .ok (.getfield 15, 3) := by decide +kernel
theorem dX5_layFirm_50 : decode cX5_layFirm 50 = .ok (.iconst 0, 1) := by decide +kernel
theorem dX5_layFirm_51 : decode cX5_layFirm 51 = .ok (.invokestatic 54, 3) := by decide +kernel
theorem dX5_layFirm_54 : decode cX5_layFirm 54 = .ok (.iconst 0, 1) := by decide +kernel
theorem dX5_layFirm_55 : decode cX5_layFirm 55 = .ok (.istore 6, 2) := by decide +kernel
theorem dX5_layFirm_57 : decode cX5_layFirm 57 = .ok (.iload 6, 2) := by decide +kernel
theorem dX5_layFirm_59 : decode cX5_layFirm 59 = .ok (.aload_n 0, 1) := by decide +kernel
theorem dX5_layFirm_60 : decode cX5_layFirm 60 = .ok (.getfield 18, 3) := by decide +kernel
theorem dX5_layFirm_63 : decode cX5_layFirm 63 = .ok (.getfield 40, 3) := by decide +kernel
theorem dX5_layFirm_66 : decode cX5_layFirm 66 = .ok (.if_icmp .ge 109, 3) := by decide +kernel
theorem dX5_layFirm_69 : decode cX5_layFirm 69 = .ok (.aload_n 0, 1) := by decide +kernel
theorem dX5_layFirm_70 : decode cX5_layFirm 70 = .ok (.getfield 33, 3) := by decide +kernel
theorem dX5_layFirm_73 : decode cX5_layFirm 73 = .ok (.iload 6, 2) := by decide +kernel
theorem dX5_layFirm_75 : decode cX5_layFirm 75 = .ok (.iadd, 1) := by decide +kernel
theorem dX5_layFirm_76 : decode cX5_layFirm 76 = .ok (.istore 7, 2) := by decide +kernel
theorem dX5_layFirm_78 : decode cX5_layFirm 78 = .ok (.iload 6, 2) := by decide +kernel
theorem dX5_layFirm_80 : decode cX5_layFirm 80 = .ok (.iload 4, 2) := by decide +kernel
theorem dX5_layFirm_82 : decode cX5_layFirm 82 = .ok (.if_icmp .ne 16, 3) := by decide +kernel
theorem dX5_layFirm_85 : decode cX5_layFirm 85 = .ok (.aload_n 0, 1) := by decide +kernel
theorem dX5_layFirm_86 : decode cX5_layFirm 86 = .ok (.iload 6, 2) := by decide +kernel
theorem dX5_layFirm_88 : decode cX5_layFirm 88 = .ok (.iload 5, 2) := by decide +kernel
theorem dX5_layFirm_90 : decode cX5_layFirm 90 = .ok (.bipush 10, 2) := by decide +kernel
theorem dX5_layFirm_92 : decode cX5_layFirm 92 = .ok (.invokevirtual 60, 3) := by decide +kernel
theorem dX5_layFirm_95 : decode cX5_layFirm 95 = .ok (.goto 74, 3) := by decide +kernel
theorem dX5_layFirm_98 : decode cX5_layFirm 98 = .ok (.iload_n 3, 1) := by decide +kernel
theorem dX5_layFirm_99 : decode cX5_layFirm 99 = .ok (.iload 6, 2) := by decide +kernel
theorem dX5_layFirm_101 : decode cX5_layFirm 101 = .ok (.ishr, 1) := by decide +kernel
theorem dX5_layFirm_102 : decode cX5_layFirm 102 = .ok (.iconst 1, 1) := by decide +kernel
theorem dX5_layFirm_103 : decode cX5_layFirm 103 = .ok (.iand, 1) := by decide +kernel
theorem dX5_layFirm_104 : decode cX5_layFirm 104 = .ok (.ifCond .ne 16, 3) := by decide +kernel
theorem dX5_layFirm_107 : decode cX5_layFirm 107 = .ok (.aload_n 0, 1) := by decide +kernel
theorem dX5_layFirm_108 : decode cX5_layFirm 108 = .ok (.getfield 18, 3) := by decide +kernel
theorem dX5_layFirm_111 : decode cX5_layFirm 111 = .ok (.iload 7, 2) := by decide +kernel
theorem dX5_layFirm_113 : decode cX5_layFirm 113 = .ok (.iload_n 2, 1) := by decide +kernel
theorem dX5_layFirm_114 : decode cX5_layFirm 114 = .ok (.invokevirtual 64, 3) := by decide +kernel
theorem dX5_layFirm_117 : decode cX5_layFirm 117 = .ok (.ifCond .eq 14, 3) := by decide +kernel
theorem dX5_layFirm_120 : decode cX5_layFirm 120 = .ok (.aload_n 0, 1) := by decide +kernel
theorem dX5_layFirm_121 : decode cX5_layFirm 121 = .ok (.iload 6, 2) := by decide +kernel
theorem dX5_layFirm_123 : decode cX5_layFirm 123 = .ok (.bipush 10, 2) := by decide +kernel
theorem dX5_layFirm_125 : decode cX5_layFirm 125 = .ok (.invokevirtual 68, 3) := by decide +kernel
theorem dX5_layFirm_128 : decode cX5_layFirm 128 = .ok (.goto 41, 3) := by decide +kernel
theorem dX5_layFirm_131 : decode cX5_layFirm 131 = .ok (.aload_n 0, 1) := by decide +kernel
theorem dX5_layFirm_132 : decode cX5_layFirm 132 = .ok (.getfield 18, 3) := by decide +kernel
theorem dX5_layFirm_135 : decode cX5_layFirm 135 = .ok (.getfield 72, 3) := by decide +kernel
theorem dX5_layFirm_138 : decode cX5_layFirm 138 = .ok (.iload 7, 2) := by decide +kernel
theorem dX5_layFirm_140 : decode cX5_layFirm 140 = .ok (.iaload, 1) := by decide +kernel
theorem dX5_layFirm_141 : decode cX5_layFirm 141 = .ok (.iconst 3, 1) := by decide +kernel
theorem dX5_layFirm_142 : decode cX5_layFirm 142 = .ok (.if_icmp .ne 19, 3) := by decide +kernel
theorem dX5_layFirm_145 : decode cX5_layFirm 145 = .ok (.aload_n 0, 1) := by decide +kernel
theorem dX5_layFirm_146 : decode cX5_layFirm 146 = .ok (.dup, 1) := by decide +kernel
theorem dX5_layFirm_147 : decode cX5_layFirm 147 = .ok (.getfield 51, 3) := by decide +kernel
theorem dX5_layFirm_150 : decode cX5_layFirm 150 = .ok (.iconst 1, 1) := by decide +kernel
theorem dX5_layFirm_151 : decode cX5_layFirm 151 = .ok (.iload 6, 2) := by decide +kernel
theorem dX5_layFirm_153 : decode cX5_layFirm 153 = .ok (.ishl, 1) := by decide +kernel
theorem dX5_layFirm_154 : decode cX5_layFirm 154 = .ok (.ior, 1) := by decide +kernel
theorem dX5_layFirm_155 : decode cX5_layFirm 155 = .ok (.putfield 51, 3) := by decide +kernel
theorem dX5_layFirm_158 : decode cX5_layFirm 158 = .ok (.goto 11, 3) := by decide +kernel
theorem dX5_layFirm_161 : decode cX5_layFirm 161 = .ok (.aload_n 0, 1) := by decide +kernel
theorem dX5_layFirm_162 : decode cX5_layFirm 162 = .ok (.iload 6, 2) := by decide +kernel
theorem dX5_layFirm_164 : decode cX5_layFirm 164 = .ok (.iload 7, 2) := by decide +kernel
theorem dX5_layFirm_166 : decode cX5_layFirm 166 = .ok (.invokevirtual 75, 3) := by decide +kernel
theorem dX5_layFirm_169 : decode cX5_layFirm 169 = .ok (.iinc 6 1, 3) := by decide +kernel
theorem dX5_layFirm_172 : decode cX5_layFirm 172 = .ok (.goto (-115), 3) := by decide +kernel
theorem dX5_layFirm_175 : decode cX5_layFirm 175 = .ok (.return_, 1) := by decide +kernel
theorem dX5_lay_0 : decode cX5_lay 0 = .ok (.aload_n 0, 1) := by decide +kernel
theorem dX5_lay_1 : decode cX5_lay 1 = .ok (.iload_n 1, 1) := by decide +kernel
theorem dX5_lay_2 : decode cX5_lay 2 = .ok (.iload_n 2, 1) := by decide +kernel
theorem dX5_lay_3 : decode cX5_lay 3 = .ok (.iload_n 3, 1) := by decide +kernel
theorem dX5_lay_4 : decode cX5_lay 4 = .ok (.iload 4, 2) := by decide +kernel
theorem dX5_lay_6 : decode cX5_lay 6 = .ok (.iload 5, 2) := by decide +kernel
theorem dX5_lay_8 : decode cX5_lay 8 = .ok (.invokevirtual 26, 3) := by decide +kernel
theorem dX5_lay_11 : decode cX5_lay 11 = .ok (.aload_n 0, 1) := by decide +kernel
theorem dX5_lay_12 : decode cX5_lay 12 = .ok (.invokevirtual 30, 3) := by decide +kernel
theorem dX5_lay_15 : decode cX5_lay 15 = .ok (.return_, 1) := by decide +kernel
def L_X3_maskOf_38 (l : Launch) (e : hv_Ev)  (Φ : Int32 → hv_S → Prop) (x2 : Int32) (x3 : Int32) (x4 : Int32) (σ : hv_S) : Prop := hv_TW l (hv_e1 e) (hv_rm 2) 0 0 m_X3_maskOf hv_no (hv_ZI (hv_e1 e) Φ) 38 [(0, .ref 15), (2, .int x2), (3, .int x3), (4, .int x4)] [] σ
set_option maxHeartbeats 4000000 in
set_option maxRecDepth 100000 in
theorem B_X3_maskOf_38 {l : Launch} {e : hv_Ev}  (x2 : Int32) (x3 : Int32) (x4 : Int32) {σ : hv_S} {Φ : Int32 → hv_S → Prop} (h : ((8 ≤ x4 → Φ x3 σ) ∧ (¬ 8 ≤ x4 → (vp_in 1 5 ∧ hv_CI l (hv_e1 e) 0 m_X9_cell [.int x4, .int x2] (hv_ui σ 17 1 x4) (fun v5 s4 => (vp_in v5 24 ∧ (vp_in 3 5 ∧ (hv_isR (s4.2.2 15 3) ∧ hv_CI l (hv_e1 e) 1 m_X4_forbid [.ref (s4.2.2 15 3), .ref 17] (hv_ui s4 17 3 (s4.1 3 v5.toNatClampNeg)) (fun v9 s8 => ((v9 = 0 → L_X3_maskOf_38 l e Φ x2 x3 (x4 + 1) s8) ∧ (¬ v9 = 0 → L_X3_maskOf_38 l e Φ x2 (x3 ||| ((1 : Int32) <<< (x4 &&& 31))) (x4 + 1) s8))))))))))) : L_X3_maskOf_38 l e Φ x2 x3 x4 σ := by
  show hv_TW l (hv_e1 e) (hv_rm 2) 0 0 m_X3_maskOf hv_no (hv_ZI (hv_e1 e) Φ) 38 [(0, .ref 15), (2, .int x2), (3, .int x3), (4, .int x4)] [] σ
  refine T_iload dX3_maskOf_38 3 rfl ?_
  refine T_bipush (v := 8) dX3_maskOf_40 (by decide) ?_
  refine T_icmp_ge (tgt := 100) dX3_maskOf_42 (by decide) (fun c11 => ?_) (fun c11 => ?_)
  · refine T_iload_n dX3_maskOf_100 rfl 2 rfl ?_
    exact T_iret dX3_maskOf_101 rfl (h.1 c11)
  · refine T_aload_n dX3_maskOf_45 rfl 0 rfl ?_
    refine T_get (v := .ref 17) dX3_maskOf_46 fl_X3_17 hp_15 hs_15 rfl rfl ?_
    refine T_iconst (v := 1) dX3_maskOf_49 (by decide) ?_
    refine T_iload dX3_maskOf_50 3 rfl ?_
    refine T_iast dX3_maskOf_52 hp_17 hs_17 (h.2 c11).1 ?_
    refine T_aload_n dX3_maskOf_53 rfl 0 rfl ?_
    refine T_get (v := .ref 17) dX3_maskOf_54 fl_X3_17 hp_15 hs_15 rfl rfl ?_
    refine T_iconst (v := 3) dX3_maskOf_57 (by decide) ?_
    refine T_aload_n dX3_maskOf_58 rfl 0 rfl ?_
    refine T_get (v := .ref 1) dX3_maskOf_59 fl_X3_25 hp_15 hs_15 rfl rfl ?_
    refine T_get (v := .ref 3) dX3_maskOf_62 fl_X3_47 hp_1 hs_1 rfl rfl ?_
    refine T_iload dX3_maskOf_65 3 rfl ?_
    refine T_iload_n dX3_maskOf_67 rfl 1 rfl ?_
    refine T_SI (As := [.int x4, .int x2]) dX3_maskOf_68 ms_X3_37 rfl (Nat.le_of_ble_eq_true rfl) (hv_ok1 rfl) rfl ((h.2 c11).2) (fun v5 s4 h6 => ?_)
    refine T_iald dX3_maskOf_71 hp_3 hs_3 h6.1 ?_
    refine T_iast dX3_maskOf_72 hp_17 hs_17 h6.2.1 ?_
    refine T_aload_n dX3_maskOf_73 rfl 0 rfl ?_
    have b7 := h6.2.2.1
    refine T_get (v := .ref (s4.2.2 15 3)) dX3_maskOf_74 fl_X3_21 hp_15 hs_15 rfl rfl ?_
    refine T_aload_n dX3_maskOf_77 rfl 0 rfl ?_
    refine T_get (v := .ref 17) dX3_maskOf_78 fl_X3_17 hp_15 hs_15 rfl rfl ?_
    refine T_VI (As := [.ref 17]) dX3_maskOf_81 mv_X3_52 (hv_isRp b7) (hv_isRs b7) rfl (Nat.le_of_ble_eq_true rfl) (hv_ok1 rfl) rfl h6.2.2.2 (fun v9 s8 h10 => ?_)
    refine T_if_eq (tgt := 94) dX3_maskOf_84 (by decide) (fun c12 => ?_) (fun c12 => ?_)
    · refine T_iinc (v := (x4 + 1)) dX3_maskOf_94 3 rfl rfl (by decide) rfl ?_
      refine T_goto (tgt := 38) dX3_maskOf_97 (by decide) ?_
      exact T_sub [1, 2, 3, 0] rfl (h10.1 c12)
    · refine T_iload_n dX3_maskOf_87 rfl 2 rfl ?_
      refine T_iconst (v := 1) dX3_maskOf_88 (by decide) ?_
      refine T_iload dX3_maskOf_89 3 rfl ?_
      refine T_ishl dX3_maskOf_91 ?_
      refine T_ior dX3_maskOf_92 ?_
      refine T_istore_n dX3_maskOf_93 rfl (by decide) rfl ?_
      refine T_iinc (v := (x4 + 1)) dX3_maskOf_94 3 rfl rfl (by decide) rfl ?_
      refine T_goto (tgt := 38) dX3_maskOf_97 (by decide) ?_
      exact T_sub [2, 3, 1, 0] rfl (h10.2 c12)
set_option maxHeartbeats 4000000 in
set_option maxRecDepth 100000 in
theorem B_X3_maskOf {l : Launch} {e : hv_Ev}  (x1 : Int32) (x2 : Int32) {σ : hv_S} {Φ : Int32 → hv_S → Prop} (h : (vp_in 0 5 ∧ (vp_in 2 5 ∧ hv_CI l (hv_e1 e) 0 m_X9_cell [.int x1, .int x2] (hv_ui (hv_ui σ 17 0 x1) 17 2 x2) (fun v2 s1 => (vp_in v2 24 ∧ (vp_in 4 5 ∧ L_X3_maskOf_38 l e Φ x2 0 0 (hv_ui s1 17 4 (s1.1 3 v2.toNatClampNeg)))))))) : hv_CI l (hv_e1 e) 2 m_X3_maskOf [.ref 15, .int x1, .int x2] σ Φ := by
  refine hv_entI (by decide) (Nat.le_of_ble_eq_true rfl) ?_
  show hv_TW l (hv_e1 e) (hv_rm 2) 0 0 m_X3_maskOf hv_no (hv_ZI (hv_e1 e) Φ) 0 [(0, .ref 15), (1, .int x1), (2, .int x2)] [] σ
  refine T_iconst (v := 0) dX3_maskOf_0 (by decide) ?_
  refine T_istore_n dX3_maskOf_1 rfl (by decide) rfl ?_
  refine T_aload_n dX3_maskOf_2 rfl 1 rfl ?_
  refine T_get (v := .ref 17) dX3_maskOf_3 fl_X3_17 hp_15 hs_15 rfl rfl ?_
  refine T_iconst (v := 0) dX3_maskOf_6 (by decide) ?_
  refine T_iload_n dX3_maskOf_7 rfl 2 rfl ?_
  refine T_iast dX3_maskOf_8 hp_17 hs_17 h.1 ?_
  refine T_aload_n dX3_maskOf_9 rfl 1 rfl ?_
  refine T_get (v := .ref 17) dX3_maskOf_10 fl_X3_17 hp_15 hs_15 rfl rfl ?_
  refine T_iconst (v := 2) dX3_maskOf_13 (by decide) ?_
  refine T_iload_n dX3_maskOf_14 rfl 3 rfl ?_
  refine T_iast dX3_maskOf_15 hp_17 hs_17 h.2.1 ?_
  refine T_aload_n dX3_maskOf_16 rfl 1 rfl ?_
  refine T_get (v := .ref 17) dX3_maskOf_17 fl_X3_17 hp_15 hs_15 rfl rfl ?_
  refine T_iconst (v := 4) dX3_maskOf_20 (by decide) ?_
  refine T_aload_n dX3_maskOf_21 rfl 1 rfl ?_
  refine T_get (v := .ref 1) dX3_maskOf_22 fl_X3_25 hp_15 hs_15 rfl rfl ?_
  refine T_get (v := .ref 3) dX3_maskOf_25 fl_X3_47 hp_1 hs_1 rfl rfl ?_
  refine T_iload_n dX3_maskOf_28 rfl 2 rfl ?_
  refine T_iload_n dX3_maskOf_29 rfl 3 rfl ?_
  refine T_SI (As := [.int x1, .int x2]) dX3_maskOf_30 ms_X3_37 rfl (Nat.le_of_ble_eq_true rfl) (hv_ok1 rfl) rfl h.2.2 (fun v2 s1 h3 => ?_)
  refine T_iald dX3_maskOf_33 hp_3 hs_3 h3.1 ?_
  refine T_iast dX3_maskOf_34 hp_17 hs_17 h3.2.1 ?_
  refine T_iconst (v := 0) dX3_maskOf_35 (by decide) ?_
  refine T_istore dX3_maskOf_36 (by decide) rfl ?_
  exact T_sub [2, 4, 1, 0] rfl h3.2.2

def L_X3_learn_2 (l : Launch) (e : hv_Ev)  (Φ : hv_S → Prop) (x1 : Int32) (x2 : Int32) (σ : hv_S) : Prop := hv_TW l (hv_e1 e) (hv_rm 3) 0 0 m_X3_learn hv_no (hv_ZV (hv_e1 e) Φ) 2 [(0, .ref 15), (1, .int x1), (2, .int x2)] [] σ
set_option maxHeartbeats 4000000 in
set_option maxRecDepth 100000 in
theorem B_X3_learn_2 {l : Launch} {e : hv_Ev}  (x1 : Int32) (x2 : Int32) {σ : hv_S} {Φ : hv_S → Prop} (h : ((8 ≤ x2 → Φ σ) ∧ (¬ 8 ≤ x2 → hv_CI l (hv_e1 e) 0 m_X9_cell [.int x2, .int x1] σ (fun v2 s1 => (hv_isR (s1.2.2 15 3) ∧ (((s1.1 (s1.2.2 15 3) 1) ≠ 0 → hv_CI l (hv_e1 e) 2 m_X3_maskOf [.ref 15, .int x2, .int x1] s1 (fun v6 s5 => (vp_in v2 24 ∧ L_X3_learn_2 l e Φ x1 (x2 + 1) (hv_ui s5 16 v2.toNatClampNeg v6)))) ∧ ((s1.1 (s1.2.2 15 3) 1) = 0 → (vp_in v2 24 ∧ L_X3_learn_2 l e Φ x1 (x2 + 1) (hv_ui s1 16 v2.toNatClampNeg 0))))))))) : L_X3_learn_2 l e Φ x1 x2 σ := by
  show hv_TW l (hv_e1 e) (hv_rm 3) 0 0 m_X3_learn hv_no (hv_ZV (hv_e1 e) Φ) 2 [(0, .ref 15), (1, .int x1), (2, .int x2)] [] σ
  refine T_iload_n dX3_learn_2 rfl 2 rfl ?_
  refine T_bipush (v := 8) dX3_learn_3 (by decide) ?_
  refine T_icmp_ge (tgt := 44) dX3_learn_5 (by decide) (fun c8 => ?_) (fun c8 => ?_)
  · exact T_vret dX3_learn_44 rfl (h.1 c8)
  · refine T_aload_n dX3_learn_8 rfl 0 rfl ?_
    refine T_get (v := .ref 16) dX3_learn_9 fl_X3_9 hp_15 hs_15 rfl rfl ?_
    refine T_iload_n dX3_learn_12 rfl 2 rfl ?_
    refine T_iload_n dX3_learn_13 rfl 1 rfl ?_
    refine T_SI (As := [.int x2, .int x1]) dX3_learn_14 ms_X3_37 rfl (Nat.le_of_ble_eq_true rfl) (hv_ok1 rfl) rfl (h.2 c8) (fun v2 s1 h3 => ?_)
    refine T_aload_n dX3_learn_17 rfl 0 rfl ?_
    have b4 := h3.1
    refine T_get (v := .ref (s1.2.2 15 3)) dX3_learn_18 fl_X3_21 hp_15 hs_15 rfl rfl ?_
    refine T_get (v := .int (s1.1 (s1.2.2 15 3) 1)) dX3_learn_21 fl_X3_41 (hv_isRp b4) (hv_isRs b4) rfl rfl ?_
    refine T_if_ne (tgt := 31) dX3_learn_24 (by decide) (fun c9 => ?_) (fun c9 => ?_)
    · refine T_aload_n dX3_learn_31 rfl 0 rfl ?_
      refine T_iload_n dX3_learn_32 rfl 2 rfl ?_
      refine T_iload_n dX3_learn_33 rfl 1 rfl ?_
      refine T_VI (As := [.int x2, .int x1]) dX3_learn_34 mv_X3_44 hp_15 hs_15 rfl (Nat.le_of_ble_eq_true rfl) (hv_ok1 rfl) rfl (h3.2.1 c9) (fun v6 s5 h7 => ?_)
      refine T_iast dX3_learn_37 hp_16 hs_16 h7.1 ?_
      refine T_iinc (v := (x2 + 1)) dX3_learn_38 2 rfl rfl (by decide) rfl ?_
      refine T_goto (tgt := 2) dX3_learn_41 (by decide) ?_
      exact T_sub [1, 2, 0] rfl h7.2
    · refine T_iconst (v := 0) dX3_learn_27 (by decide) ?_
      refine T_goto (tgt := 37) dX3_learn_28 (by decide) ?_
      refine T_iast dX3_learn_37 hp_16 hs_16 (h3.2.2 c9).1 ?_
      refine T_iinc (v := (x2 + 1)) dX3_learn_38 2 rfl rfl (by decide) rfl ?_
      refine T_goto (tgt := 2) dX3_learn_41 (by decide) ?_
      exact T_sub [1, 2, 0] rfl (h3.2.2 c9).2
set_option maxHeartbeats 4000000 in
set_option maxRecDepth 100000 in
theorem B_X3_learn {l : Launch} {e : hv_Ev}  (x1 : Int32) {σ : hv_S} {Φ : hv_S → Prop} (h : L_X3_learn_2 l e Φ x1 0 σ) : hv_CV l (hv_e1 e) 3 m_X3_learn [.ref 15, .int x1] σ Φ := by
  refine hv_entV (by decide) (Nat.le_of_ble_eq_true rfl) ?_
  show hv_TW l (hv_e1 e) (hv_rm 3) 0 0 m_X3_learn hv_no (hv_ZV (hv_e1 e) Φ) 0 [(0, .ref 15), (1, .int x1)] [] σ
  refine T_iconst (v := 0) dX3_learn_0 (by decide) ?_
  refine T_istore_n dX3_learn_1 rfl (by decide) rfl ?_
  exact T_sub [1, 2, 0] rfl h

set_option maxHeartbeats 4000000 in
set_option maxRecDepth 100000 in
theorem B_X3_bars {l : Launch} {e : hv_Ev}  (x1 : Int32) (x2 : Int32) (x3 : Int32) {σ : hv_S} {Φ : Int32 → hv_S → Prop} (h : hv_CI l (hv_e1 e) 0 m_X9_cell [.int x1, .int x3] σ (fun v2 s1 => (vp_in v2 24 ∧ (((((s1.1 16 v2.toNatClampNeg) >>> (x2 &&& 31)) &&& 1) = 0 → Φ 0 s1) ∧ (¬ (((s1.1 16 v2.toNatClampNeg) >>> (x2 &&& 31)) &&& 1) = 0 → Φ 1 s1))))) : hv_CI l (hv_e1 e) 1 m_X3_bars [.ref 15, .int x1, .int x2, .int x3] σ Φ := by
  refine hv_entI (by decide) (Nat.le_of_ble_eq_true rfl) ?_
  show hv_TW l (hv_e1 e) (hv_rm 1) 0 0 m_X3_bars hv_no (hv_ZI (hv_e1 e) Φ) 0 [(0, .ref 15), (1, .int x1), (2, .int x2), (3, .int x3)] [] σ
  refine T_aload_n dX3_bars_0 rfl 0 rfl ?_
  refine T_get (v := .ref 16) dX3_bars_1 fl_X3_9 hp_15 hs_15 rfl rfl ?_
  refine T_iload_n dX3_bars_4 rfl 1 rfl ?_
  refine T_iload_n dX3_bars_5 rfl 3 rfl ?_
  refine T_SI (As := [.int x1, .int x3]) dX3_bars_6 ms_X3_37 rfl (Nat.le_of_ble_eq_true rfl) (hv_ok1 rfl) rfl h (fun v2 s1 h3 => ?_)
  refine T_iald dX3_bars_9 hp_16 hs_16 h3.1 ?_
  refine T_iload_n dX3_bars_10 rfl 2 rfl ?_
  refine T_ishr dX3_bars_11 ?_
  refine T_iconst (v := 1) dX3_bars_12 (by decide) ?_
  refine T_iand dX3_bars_13 ?_
  refine T_if_eq (tgt := 21) dX3_bars_14 (by decide) (fun c4 => ?_) (fun c4 => ?_)
  · refine T_iconst (v := 0) dX3_bars_21 (by decide) ?_
    exact T_zret dX3_bars_22 rfl (by decide) (h3.2.1 c4)
  · refine T_iconst (v := 1) dX3_bars_17 (by decide) ?_
    refine T_goto (tgt := 22) dX3_bars_18 (by decide) ?_
    exact T_zret dX3_bars_22 rfl (by decide) (h3.2.2 c4)

def L_X3_adopt_22 (l : Launch) (e : hv_Ev) (r1 : Nat) (Φ : Nat → hv_S → Prop) (a2 : Nat) (x3 : Int32) (σ : hv_S) : Prop := hv_TW l (hv_e1 e) (hv_rm 4) 0 0 m_X3_adopt hv_no (hv_ZR (hv_e1 e) Φ) 22 [(0, .ref 15), (2, .ref a2), (3, .int x3)] [] σ
set_option maxHeartbeats 4000000 in
set_option maxRecDepth 100000 in
theorem B_X3_adopt_22 {l : Launch} {e : hv_Ev} (r1 : Nat) (a2 : Nat) (x3 : Int32) {σ : hv_S} {Φ : Nat → hv_S → Prop} (h : ((3 ≤ x3 → Φ a2 σ) ∧ (¬ 3 ≤ x3 → hv_CV l (hv_e1 e) 3 m_X3_learn [.ref 15, .int x3] σ (fun s2 => L_X3_adopt_22 l e r1 Φ a2 (x3 + 1) s2)))) : L_X3_adopt_22 l e r1 Φ a2 x3 σ := by
  show hv_TW l (hv_e1 e) (hv_rm 4) 0 0 m_X3_adopt hv_no (hv_ZR (hv_e1 e) Φ) 22 [(0, .ref 15), (2, .ref a2), (3, .int x3)] [] σ
  refine T_iload_n dX3_adopt_22 rfl 2 rfl ?_
  refine T_iconst (v := 3) dX3_adopt_23 (by decide) ?_
  refine T_icmp_ge (tgt := 38) dX3_adopt_24 (by decide) (fun c5 => ?_) (fun c5 => ?_)
  · refine T_aload_n dX3_adopt_38 rfl 1 rfl ?_
    exact T_aret dX3_adopt_39 rfl (Or.inl ⟨_, rfl⟩) (h.1 c5)
  · refine T_aload_n dX3_adopt_27 rfl 0 rfl ?_
    refine T_iload_n dX3_adopt_28 rfl 2 rfl ?_
    refine T_VV (As := [.int x3]) dX3_adopt_29 mv_X3_33 hp_15 hs_15 rfl (Nat.le_of_ble_eq_true rfl) (hv_ok1 rfl) rfl (h.2 c5) (fun s2 h4 => ?_)
    refine T_iinc (v := (x3 + 1)) dX3_adopt_32 2 rfl rfl (by decide) rfl ?_
    refine T_goto (tgt := 22) dX3_adopt_35 (by decide) ?_
    exact T_sub [1, 2, 0] rfl h4
set_option maxHeartbeats 4000000 in
set_option maxRecDepth 100000 in
theorem B_X3_adopt {l : Launch} {e : hv_Ev} (r1 : Nat)  {σ : hv_S} {Φ : Nat → hv_S → Prop} (h : (hv_isR (σ.2.2 15 3) ∧ L_X3_adopt_22 l e r1 Φ (σ.2.2 15 3) 0 (hv_ui (hv_ur σ 15 3 r1) 15 4 ((σ.1 15 4) + 1)))) : hv_CR l (hv_e1 e) 4 m_X3_adopt [.ref 15, .ref r1] σ Φ := by
  refine hv_entR (by decide) (Nat.le_of_ble_eq_true rfl) ?_
  show hv_TW l (hv_e1 e) (hv_rm 4) 0 0 m_X3_adopt hv_no (hv_ZR (hv_e1 e) Φ) 0 [(0, .ref 15), (1, .ref r1)] [] σ
  refine T_aload_n dX3_adopt_0 rfl 0 rfl ?_
  have b1 := h.1
  refine T_get (v := .ref (σ.2.2 15 3)) dX3_adopt_1 fl_X3_21 hp_15 hs_15 rfl rfl ?_
  refine T_astore_n dX3_adopt_4 rfl (by decide) rfl ?_
  refine T_aload_n dX3_adopt_5 rfl 1 rfl ?_
  refine T_aload_n dX3_adopt_6 rfl 2 rfl ?_
  refine T_putr dX3_adopt_7 fl_X3_21 pf_X3_3 hp_15 hs_15 rfl ?_
  refine T_aload_n dX3_adopt_10 rfl 1 rfl ?_
  refine T_dup dX3_adopt_11 rfl ?_
  refine T_get (v := .int (σ.1 15 4)) dX3_adopt_12 fl_X3_29 hp_15 hs_15 rfl rfl ?_
  refine T_iconst (v := 1) dX3_adopt_15 (by decide) ?_
  refine T_iadd dX3_adopt_16 ?_
  refine T_puti dX3_adopt_17 fl_X3_29 pf_X3_4 hp_15 hs_15 rfl ?_
  refine T_iconst (v := 0) dX3_adopt_20 (by decide) ?_
  refine T_istore_n dX3_adopt_21 rfl (by decide) rfl ?_
  exact T_sub [2, 1, 0] rfl h.2

set_option maxHeartbeats 4000000 in
set_option maxRecDepth 100000 in
theorem B_X5_stay {l : Launch} {e : hv_Ev}  (x1 : Int32) (x2 : Int32) {σ : hv_S} {Φ : hv_S → Prop} (h : (vp_in ((x1 * 8) + x1) 64 ∧ (vp_in ((x1 * 8) + x1) 64 ∧ Φ (hv_ui (hv_ui σ 19 (((x1 * 8) + x1).toNatClampNeg) ((σ.1 19 (((x1 * 8) + x1).toNatClampNeg)) + x2)) 18 4 ((σ.1 18 4) ||| ((1 : Int32) <<< (x1 &&& 31))))))) : hv_CV l (hv_e1 e) 0 m_X5_stay [.ref 18, .int x1, .int x2] σ Φ := by
  refine hv_entV (by decide) (Nat.le_of_ble_eq_true rfl) ?_
  show hv_TW l (hv_e1 e) (hv_rm 0) 0 0 m_X5_stay hv_no (hv_ZV (hv_e1 e) Φ) 0 [(0, .ref 18), (1, .int x1), (2, .int x2)] [] σ
  refine T_aload_n dX5_stay_0 rfl 0 rfl ?_
  refine T_get (v := .ref 19) dX5_stay_1 fl_X5_9 hp_18 hs_18 rfl rfl ?_
  refine T_iload_n dX5_stay_4 rfl 1 rfl ?_
  refine T_bipush (v := 8) dX5_stay_5 (by decide) ?_
  refine T_imul dX5_stay_7 ?_
  refine T_iload_n dX5_stay_8 rfl 1 rfl ?_
  refine T_iadd dX5_stay_9 ?_
  refine T_dup2 dX5_stay_10 rfl rfl ?_
  refine T_iald dX5_stay_11 hp_19 hs_19 h.1 ?_
  refine T_iload_n dX5_stay_12 rfl 2 rfl ?_
  refine T_iadd dX5_stay_13 ?_
  refine T_iast dX5_stay_14 hp_19 hs_19 h.2.1 ?_
  refine T_aload_n dX5_stay_15 rfl 0 rfl ?_
  refine T_dup dX5_stay_16 rfl ?_
  refine T_get (v := .int (σ.1 18 4)) dX5_stay_17 fl_X5_48 hp_18 hs_18 rfl rfl ?_
  refine T_iconst (v := 1) dX5_stay_20 (by decide) ?_
  refine T_iload_n dX5_stay_21 rfl 1 rfl ?_
  refine T_ishl dX5_stay_22 ?_
  refine T_ior dX5_stay_23 ?_
  refine T_puti dX5_stay_24 fl_X5_48 pf_X5_4 hp_18 hs_18 rfl ?_
  exact T_vret dX5_stay_27 rfl h.2.2

set_option maxHeartbeats 4000000 in
set_option maxRecDepth 100000 in
theorem B_X5_send {l : Launch} {e : hv_Ev}  (x1 : Int32) (x2 : Int32) (x3 : Int32) {σ : hv_S} {Φ : hv_S → Prop} (h : ((x2 < 0 → hv_CV l (hv_e1 e) 0 m_X5_stay [.ref 18, .int x1, .int x3] σ (fun s1 => Φ s1)) ∧ (¬ x2 < 0 → ((8 ≤ x2 → hv_CV l (hv_e1 e) 0 m_X5_stay [.ref 18, .int x1, .int x3] σ (fun s4 => Φ s4)) ∧ (¬ 8 ≤ x2 → (vp_in ((σ.1 18 8) + x1) 24 ∧ (((((σ.1 16 (((σ.1 18 8) + x1).toNatClampNeg)) >>> (x2 &&& 31)) &&& 1) = 0 → (vp_in ((x1 * 8) + x2) 64 ∧ (vp_in ((x1 * 8) + x2) 64 ∧ (vp_in x1 8 ∧ (vp_in x1 8 ∧ Φ (hv_ui (hv_ui σ 19 (((x1 * 8) + x2).toNatClampNeg) ((σ.1 19 (((x1 * 8) + x2).toNatClampNeg)) + x3)) 20 x1.toNatClampNeg ((σ.1 20 x1.toNatClampNeg) ||| ((1 : Int32) <<< (x2 &&& 31))))))))) ∧ (¬ (((σ.1 16 (((σ.1 18 8) + x1).toNatClampNeg)) >>> (x2 &&& 31)) &&& 1) = 0 → hv_CV l (hv_e1 e) 0 m_X5_stay [.ref 18, .int x1, .int x3] σ (fun s7 => Φ s7))))))))) : hv_CV l (hv_e1 e) 1 m_X5_send [.ref 18, .int x1, .int x2, .int x3] σ Φ := by
  refine hv_entV (by decide) (Nat.le_of_ble_eq_true rfl) ?_
  show hv_TW l (hv_e1 e) (hv_rm 1) 0 0 m_X5_send hv_no (hv_ZV (hv_e1 e) Φ) 0 [(0, .ref 18), (1, .int x1), (2, .int x2), (3, .int x3)] [] σ
  refine T_iload_n dX5_send_0 rfl 2 rfl ?_
  refine T_if_lt (tgt := 31) dX5_send_1 (by decide) (fun c10 => ?_) (fun c10 => ?_)
  · refine T_aload_n dX5_send_31 rfl 0 rfl ?_
    refine T_iload_n dX5_send_32 rfl 1 rfl ?_
    refine T_iload_n dX5_send_33 rfl 3 rfl ?_
    refine T_VV (As := [.int x1, .int x3]) dX5_send_34 mv_X5_68 hp_18 hs_18 rfl (Nat.le_of_ble_eq_true rfl) (hv_ok1 rfl) rfl (h.1 c10) (fun s1 h3 => ?_)
    refine T_goto (tgt := 67) dX5_send_37 (by decide) ?_
    exact T_vret dX5_send_67 rfl h3
  · refine T_iload_n dX5_send_4 rfl 2 rfl ?_
    refine T_bipush (v := 8) dX5_send_5 (by decide) ?_
    refine T_icmp_ge (tgt := 31) dX5_send_7 (by decide) (fun c11 => ?_) (fun c11 => ?_)
    · refine T_aload_n dX5_send_31 rfl 0 rfl ?_
      refine T_iload_n dX5_send_32 rfl 1 rfl ?_
      refine T_iload_n dX5_send_33 rfl 3 rfl ?_
      refine T_VV (As := [.int x1, .int x3]) dX5_send_34 mv_X5_68 hp_18 hs_18 rfl (Nat.le_of_ble_eq_true rfl) (hv_ok1 rfl) rfl ((h.2 c10).1 c11) (fun s4 h6 => ?_)
      refine T_goto (tgt := 67) dX5_send_37 (by decide) ?_
      exact T_vret dX5_send_67 rfl h6
    · refine T_aload_n dX5_send_10 rfl 0 rfl ?_
      refine T_get (v := .ref 15) dX5_send_11 fl_X5_22 hp_18 hs_18 rfl rfl ?_
      refine T_get (v := .ref 16) dX5_send_14 fl_X5_78 hp_15 hs_15 rfl rfl ?_
      refine T_aload_n dX5_send_17 rfl 0 rfl ?_
      refine T_get (v := .int (σ.1 18 8)) dX5_send_18 fl_X5_33 hp_18 hs_18 rfl rfl ?_
      refine T_iload_n dX5_send_21 rfl 1 rfl ?_
      refine T_iadd dX5_send_22 ?_
      refine T_iald dX5_send_23 hp_16 hs_16 ((h.2 c10).2 c11).1 ?_
      refine T_iload_n dX5_send_24 rfl 2 rfl ?_
      refine T_ishr dX5_send_25 ?_
      refine T_iconst (v := 1) dX5_send_26 (by decide) ?_
      refine T_iand dX5_send_27 ?_
      refine T_if_eq (tgt := 40) dX5_send_28 (by decide) (fun c12 => ?_) (fun c12 => ?_)
      · refine T_aload_n dX5_send_40 rfl 0 rfl ?_
        refine T_get (v := .ref 19) dX5_send_41 fl_X5_9 hp_18 hs_18 rfl rfl ?_
        refine T_iload_n dX5_send_44 rfl 1 rfl ?_
        refine T_bipush (v := 8) dX5_send_45 (by decide) ?_
        refine T_imul dX5_send_47 ?_
        refine T_iload_n dX5_send_48 rfl 2 rfl ?_
        refine T_iadd dX5_send_49 ?_
        refine T_dup2 dX5_send_50 rfl rfl ?_
        refine T_iald dX5_send_51 hp_19 hs_19 (((h.2 c10).2 c11).2.1 c12).1 ?_
        refine T_iload_n dX5_send_52 rfl 3 rfl ?_
        refine T_iadd dX5_send_53 ?_
        refine T_iast dX5_send_54 hp_19 hs_19 (((h.2 c10).2 c11).2.1 c12).2.1 ?_
        refine T_aload_n dX5_send_55 rfl 0 rfl ?_
        refine T_get (v := .ref 20) dX5_send_56 fl_X5_15 hp_18 hs_18 rfl rfl ?_
        refine T_iload_n dX5_send_59 rfl 1 rfl ?_
        refine T_dup2 dX5_send_60 rfl rfl ?_
        refine T_iald dX5_send_61 hp_20 hs_20 (((h.2 c10).2 c11).2.1 c12).2.2.1 ?_
        refine T_iconst (v := 1) dX5_send_62 (by decide) ?_
        refine T_iload_n dX5_send_63 rfl 2 rfl ?_
        refine T_ishl dX5_send_64 ?_
        refine T_ior dX5_send_65 ?_
        refine T_iast dX5_send_66 hp_20 hs_20 (((h.2 c10).2 c11).2.1 c12).2.2.2.1 ?_
        exact T_vret dX5_send_67 rfl ((((h.2 c10).2 c11).2.1 c12).2.2.2.2)
      · refine T_aload_n dX5_send_31 rfl 0 rfl ?_
        refine T_iload_n dX5_send_32 rfl 1 rfl ?_
        refine T_iload_n dX5_send_33 rfl 3 rfl ?_
        refine T_VV (As := [.int x1, .int x3]) dX5_send_34 mv_X5_68 hp_18 hs_18 rfl (Nat.le_of_ble_eq_true rfl) (hv_ok1 rfl) rfl (((h.2 c10).2 c11).2.2 c12) (fun s7 h9 => ?_)
        refine T_goto (tgt := 67) dX5_send_37 (by decide) ?_
        exact T_vret dX5_send_67 rfl h9

set_option maxHeartbeats 4000000 in
set_option maxRecDepth 100000 in
theorem B_X5_nameOf {l : Launch} {e : hv_Ev}  (x1 : Int32) (x2 : Int32) {σ : hv_S} {Φ : Int32 → hv_S → Prop} (h : ((x2 < 0 → (vp_in ((σ.1 18 8) + x1) 24 ∧ (vp_in ((σ.1 18 8) + x1) 24 ∧ (∀ z1 : Int32, z1 = ((σ.1 16 (((σ.1 18 8) + x1).toNatClampNeg)) >>> ((σ.1 6 (((σ.1 18 8) + x1).toNatClampNeg)) &&& 31)) → (((z1 &&& 1) = 0 → (vp_in ((σ.1 18 8) + x1) 24 ∧ Φ (σ.1 6 (((σ.1 18 8) + x1).toNatClampNeg)) σ)) ∧ (¬ (z1 &&& 1) = 0 → (vp_in ((σ.1 18 8) + x1) 24 ∧ Φ (σ.1 7 (((σ.1 18 8) + x1).toNatClampNeg)) σ))))))) ∧ (¬ x2 < 0 → ((((x2 >>> (x1 &&& 31)) &&& 1) = 0 → (vp_in ((σ.1 18 8) + x1) 24 ∧ Φ (σ.1 6 (((σ.1 18 8) + x1).toNatClampNeg)) σ)) ∧ (¬ ((x2 >>> (x1 &&& 31)) &&& 1) = 0 → (vp_in ((σ.1 18 8) + x1) 24 ∧ Φ (σ.1 7 (((σ.1 18 8) + x1).toNatClampNeg)) σ)))))) : hv_CI l (hv_e1 e) 0 m_X5_nameOf [.ref 18, .int x1, .int x2] σ Φ := by
  refine hv_entI (by decide) (Nat.le_of_ble_eq_true rfl) ?_
  show hv_TW l (hv_e1 e) (hv_rm 0) 0 0 m_X5_nameOf hv_no (hv_ZI (hv_e1 e) Φ) 0 [(0, .ref 18), (1, .int x1), (2, .int x2)] [] σ
  refine T_aload_n dX5_nameOf_0 rfl 0 rfl ?_
  refine T_get (v := .int (σ.1 18 8)) dX5_nameOf_1 fl_X5_33 hp_18 hs_18 rfl rfl ?_
  refine T_iload_n dX5_nameOf_4 rfl 1 rfl ?_
  refine T_iadd dX5_nameOf_5 ?_
  refine T_istore_n dX5_nameOf_6 rfl (by decide) rfl ?_
  refine T_iload_n dX5_nameOf_7 rfl 3 rfl ?_
  refine T_if_lt (tgt := 17) dX5_nameOf_8 (by decide) (fun c2 => ?_) (fun c2 => ?_)
  · refine T_aload_n dX5_nameOf_17 rfl 1 rfl ?_
    refine T_get (v := .ref 15) dX5_nameOf_18 fl_X5_22 hp_18 hs_18 rfl rfl ?_
    refine T_get (v := .ref 16) dX5_nameOf_21 fl_X5_78 hp_15 hs_15 rfl rfl ?_
    refine T_iload_n dX5_nameOf_24 rfl 0 rfl ?_
    refine T_iald dX5_nameOf_25 hp_16 hs_16 (h.1 c2).1 ?_
    refine T_aload_n dX5_nameOf_26 rfl 1 rfl ?_
    refine T_get (v := .ref 1) dX5_nameOf_27 fl_X5_18 hp_18 hs_18 rfl rfl ?_
    refine T_get (v := .ref 6) dX5_nameOf_30 fl_X5_87 hp_1 hs_1 rfl rfl ?_
    refine T_iload_n dX5_nameOf_33 rfl 0 rfl ?_
    refine T_iald dX5_nameOf_34 hp_6 hs_6 (h.1 c2).2.1 ?_
    refine T_ishr dX5_nameOf_35 ?_
    refine T_topi (fun z1 ez1 => ?_)
    refine T_istore dX5_nameOf_36 (by decide) rfl ?_
    refine T_iload dX5_nameOf_38 0 rfl ?_
    refine T_iconst (v := 1) dX5_nameOf_40 (by decide) ?_
    refine T_iand dX5_nameOf_41 ?_
    refine T_if_eq (tgt := 57) dX5_nameOf_42 (by decide) (fun c3 => ?_) (fun c3 => ?_)
    · refine T_aload_n dX5_nameOf_57 rfl 2 rfl ?_
      refine T_get (v := .ref 1) dX5_nameOf_58 fl_X5_18 hp_18 hs_18 rfl rfl ?_
      refine T_get (v := .ref 6) dX5_nameOf_61 fl_X5_87 hp_1 hs_1 rfl rfl ?_
      refine T_iload_n dX5_nameOf_64 rfl 1 rfl ?_
      refine T_iald dX5_nameOf_65 hp_6 hs_6 (((h.1 c2).2.2 z1 ez1).1 c3).1 ?_
      exact T_iret dX5_nameOf_66 rfl ((((h.1 c2).2.2 z1 ez1).1 c3).2)
    · refine T_aload_n dX5_nameOf_45 rfl 2 rfl ?_
      refine T_get (v := .ref 1) dX5_nameOf_46 fl_X5_18 hp_18 hs_18 rfl rfl ?_
      refine T_get (v := .ref 7) dX5_nameOf_49 fl_X5_91 hp_1 hs_1 rfl rfl ?_
      refine T_iload_n dX5_nameOf_52 rfl 1 rfl ?_
      refine T_iald dX5_nameOf_53 hp_7 hs_7 (((h.1 c2).2.2 z1 ez1).2 c3).1 ?_
      refine T_goto (tgt := 66) dX5_nameOf_54 (by decide) ?_
      exact T_iret dX5_nameOf_66 rfl ((((h.1 c2).2.2 z1 ez1).2 c3).2)
  · refine T_iload_n dX5_nameOf_11 rfl 3 rfl ?_
    refine T_iload_n dX5_nameOf_12 rfl 2 rfl ?_
    refine T_ishr dX5_nameOf_13 ?_
    refine T_goto (tgt := 36) dX5_nameOf_14 (by decide) ?_
    refine T_istore dX5_nameOf_36 (by decide) rfl ?_
    refine T_iload dX5_nameOf_38 0 rfl ?_
    refine T_iconst (v := 1) dX5_nameOf_40 (by decide) ?_
    refine T_iand dX5_nameOf_41 ?_
    refine T_if_eq (tgt := 57) dX5_nameOf_42 (by decide) (fun c4 => ?_) (fun c4 => ?_)
    · refine T_aload_n dX5_nameOf_57 rfl 2 rfl ?_
      refine T_get (v := .ref 1) dX5_nameOf_58 fl_X5_18 hp_18 hs_18 rfl rfl ?_
      refine T_get (v := .ref 6) dX5_nameOf_61 fl_X5_87 hp_1 hs_1 rfl rfl ?_
      refine T_iload_n dX5_nameOf_64 rfl 1 rfl ?_
      refine T_iald dX5_nameOf_65 hp_6 hs_6 ((h.2 c2).1 c4).1 ?_
      exact T_iret dX5_nameOf_66 rfl (((h.2 c2).1 c4).2)
    · refine T_aload_n dX5_nameOf_45 rfl 2 rfl ?_
      refine T_get (v := .ref 1) dX5_nameOf_46 fl_X5_18 hp_18 hs_18 rfl rfl ?_
      refine T_get (v := .ref 7) dX5_nameOf_49 fl_X5_91 hp_1 hs_1 rfl rfl ?_
      refine T_iload_n dX5_nameOf_52 rfl 1 rfl ?_
      refine T_iald dX5_nameOf_53 hp_7 hs_7 ((h.2 c2).2 c4).1 ?_
      refine T_goto (tgt := 66) dX5_nameOf_54 (by decide) ?_
      exact T_iret dX5_nameOf_66 rfl (((h.2 c2).2 c4).2)

def L_X5_reaching_7 (l : Launch) (e : hv_Ev)  (Φ : Int32 → hv_S → Prop) (x1 : Int32) (x2 : Int32) (σ : hv_S) : Prop := hv_TW l (hv_e1 e) (hv_rm 0) 0 0 m_X5_reaching hv_no (hv_ZI (hv_e1 e) Φ) 7 [(0, .ref 18), (1, .int x1), (2, .int x2)] [] σ
def L_X5_reaching_18 (l : Launch) (e : hv_Ev)  (Φ : Int32 → hv_S → Prop) (x1 : Int32) (x2 : Int32) (x3 : Int32) (x4 : Int32) (σ : hv_S) : Prop := hv_TW l (hv_e1 e) (hv_rm 0) 0 0 m_X5_reaching hv_no (hv_ZI (hv_e1 e) Φ) 18 [(0, .ref 18), (1, .int x1), (2, .int x2), (3, .int x3), (4, .int x4)] [] σ
set_option maxHeartbeats 4000000 in
set_option maxRecDepth 100000 in
theorem B_X5_reaching_18 {l : Launch} {e : hv_Ev}  (x1 : Int32) (x2 : Int32) (x3 : Int32) (x4 : Int32) {σ : hv_S} {Φ : Int32 → hv_S → Prop} (h : (((σ.1 1 7) ≤ x4 → ((x1 ≠ x3 → L_X5_reaching_7 l e Φ x1 (x2 + 1) σ) ∧ (x1 = x3 → Φ x1 σ))) ∧ (¬ (σ.1 1 7) ≤ x4 → (vp_in x4 8 ∧ ((((σ.1 20 x4.toNatClampNeg) &&& x1) = 0 → L_X5_reaching_18 l e Φ x1 x2 x3 (x4 + 1) σ) ∧ (¬ ((σ.1 20 x4.toNatClampNeg) &&& x1) = 0 → L_X5_reaching_18 l e Φ (x1 ||| ((1 : Int32) <<< (x4 &&& 31))) x2 x3 (x4 + 1) σ)))))) : L_X5_reaching_18 l e Φ x1 x2 x3 x4 σ := by
  show hv_TW l (hv_e1 e) (hv_rm 0) 0 0 m_X5_reaching hv_no (hv_ZI (hv_e1 e) Φ) 18 [(0, .ref 18), (1, .int x1), (2, .int x2), (3, .int x3), (4, .int x4)] [] σ
  refine T_iload dX5_reaching_18 4 rfl ?_
  refine T_aload_n dX5_reaching_20 rfl 0 rfl ?_
  refine T_get (v := .ref 1) dX5_reaching_21 fl_X5_18 hp_18 hs_18 rfl rfl ?_
  refine T_get (v := .int (σ.1 1 7)) dX5_reaching_24 fl_X5_40 hp_1 hs_1 rfl rfl ?_
  refine T_icmp_ge (tgt := 55) dX5_reaching_27 (by decide) (fun c2 => ?_) (fun c2 => ?_)
  · refine T_iload_n dX5_reaching_55 rfl 1 rfl ?_
    refine T_iload_n dX5_reaching_56 rfl 3 rfl ?_
    refine T_icmp_ne (tgt := 63) dX5_reaching_57 (by decide) (fun c3 => ?_) (fun c3 => ?_)
    · refine T_iinc (v := (x2 + 1)) dX5_reaching_63 2 rfl rfl (by decide) rfl ?_
      refine T_goto (tgt := 7) dX5_reaching_66 (by decide) ?_
      exact T_sub [1, 2, 0] rfl ((h.1 c2).1 c3)
    · refine T_goto (tgt := 69) dX5_reaching_60 (by decide) ?_
      refine T_iload_n dX5_reaching_69 rfl 1 rfl ?_
      exact T_iret dX5_reaching_70 rfl ((h.1 c2).2 c3)
  · refine T_aload_n dX5_reaching_30 rfl 0 rfl ?_
    refine T_get (v := .ref 20) dX5_reaching_31 fl_X5_15 hp_18 hs_18 rfl rfl ?_
    refine T_iload dX5_reaching_34 4 rfl ?_
    refine T_iald dX5_reaching_36 hp_20 hs_20 (h.2 c2).1 ?_
    refine T_iload_n dX5_reaching_37 rfl 1 rfl ?_
    refine T_iand dX5_reaching_38 ?_
    refine T_if_eq (tgt := 49) dX5_reaching_39 (by decide) (fun c4 => ?_) (fun c4 => ?_)
    · refine T_iinc (v := (x4 + 1)) dX5_reaching_49 4 rfl rfl (by decide) rfl ?_
      refine T_goto (tgt := 18) dX5_reaching_52 (by decide) ?_
      exact T_sub [1, 2, 3, 4, 0] rfl ((h.2 c2).2.1 c4)
    · refine T_iload_n dX5_reaching_42 rfl 1 rfl ?_
      refine T_iconst (v := 1) dX5_reaching_43 (by decide) ?_
      refine T_iload dX5_reaching_44 4 rfl ?_
      refine T_ishl dX5_reaching_46 ?_
      refine T_ior dX5_reaching_47 ?_
      refine T_istore_n dX5_reaching_48 rfl (by decide) rfl ?_
      refine T_iinc (v := (x4 + 1)) dX5_reaching_49 4 rfl rfl (by decide) rfl ?_
      refine T_goto (tgt := 18) dX5_reaching_52 (by decide) ?_
      exact T_sub [2, 1, 3, 4, 0] rfl ((h.2 c2).2.2 c4)
set_option maxHeartbeats 4000000 in
set_option maxRecDepth 100000 in
theorem B_X5_reaching_7 {l : Launch} {e : hv_Ev}  (x1 : Int32) (x2 : Int32) {σ : hv_S} {Φ : Int32 → hv_S → Prop} (h : ((8 ≤ x2 → Φ x1 σ) ∧ (¬ 8 ≤ x2 → L_X5_reaching_18 l e Φ x1 x2 x1 0 σ))) : L_X5_reaching_7 l e Φ x1 x2 σ := by
  show hv_TW l (hv_e1 e) (hv_rm 0) 0 0 m_X5_reaching hv_no (hv_ZI (hv_e1 e) Φ) 7 [(0, .ref 18), (1, .int x1), (2, .int x2)] [] σ
  refine T_iload_n dX5_reaching_7 rfl 2 rfl ?_
  refine T_bipush (v := 8) dX5_reaching_8 (by decide) ?_
  refine T_icmp_ge (tgt := 69) dX5_reaching_10 (by decide) (fun c1 => ?_) (fun c1 => ?_)
  · refine T_iload_n dX5_reaching_69 rfl 1 rfl ?_
    exact T_iret dX5_reaching_70 rfl (h.1 c1)
  · refine T_iload_n dX5_reaching_13 rfl 1 rfl ?_
    refine T_istore_n dX5_reaching_14 rfl (by decide) rfl ?_
    refine T_iconst (v := 0) dX5_reaching_15 (by decide) ?_
    refine T_istore dX5_reaching_16 (by decide) rfl ?_
    exact T_sub [2, 3, 4, 1, 0] rfl (h.2 c1)
set_option maxHeartbeats 4000000 in
set_option maxRecDepth 100000 in
theorem B_X5_reaching {l : Launch} {e : hv_Ev}   {σ : hv_S} {Φ : Int32 → hv_S → Prop} (h : L_X5_reaching_7 l e Φ (σ.1 18 4) 0 σ) : hv_CI l (hv_e1 e) 0 m_X5_reaching [.ref 18] σ Φ := by
  refine hv_entI (by decide) (Nat.le_of_ble_eq_true rfl) ?_
  show hv_TW l (hv_e1 e) (hv_rm 0) 0 0 m_X5_reaching hv_no (hv_ZI (hv_e1 e) Φ) 0 [(0, .ref 18)] [] σ
  refine T_aload_n dX5_reaching_0 rfl 0 rfl ?_
  refine T_get (v := .int (σ.1 18 4)) dX5_reaching_1 fl_X5_48 hp_18 hs_18 rfl rfl ?_
  refine T_istore_n dX5_reaching_4 rfl (by decide) rfl ?_
  refine T_iconst (v := 0) dX5_reaching_5 (by decide) ?_
  refine T_istore_n dX5_reaching_6 rfl (by decide) rfl ?_
  exact T_sub [2, 1, 0] rfl h

def L_X5_openNames_4 (l : Launch) (e : hv_Ev) (p : Nat) (Φ : Int32 → hv_S → Prop) (x2 : Int32) (x3 : Int32) (σ : hv_S) : Prop := hv_TW l (hv_e1 e) (hv_rm 0) 0 0 m_X5_openNames hv_no (hv_ZI (hv_e1 e) Φ) 4 [(0, .ref 18), (1, .ref p), (2, .int x2), (3, .int x3)] [] σ
set_option maxHeartbeats 4000000 in
set_option maxRecDepth 100000 in
theorem B_X5_openNames_4 {l : Launch} {e : hv_Ev} (p : Nat) (hp : p ∈ hv_pl1) (hs : hv_sh1 p = .inr (0, 24)) (x2 : Int32) (x3 : Int32) {σ : hv_S} {Φ : Int32 → hv_S → Prop} (h : (((σ.1 1 7) ≤ x3 → Φ x2 σ) ∧ (¬ (σ.1 1 7) ≤ x3 → (((((σ.1 18 5) >>> (x3 &&& 31)) &&& 1) = 0 → L_X5_openNames_4 l e p Φ x2 (x3 + 1) σ) ∧ (¬ (((σ.1 18 5) >>> (x3 &&& 31)) &&& 1) = 0 → (vp_in ((σ.1 18 8) + x3) 24 ∧ (vp_in ((σ.1 18 8) + x3) 24 ∧ (((((σ.1 16 (((σ.1 18 8) + x3).toNatClampNeg)) >>> ((σ.1 p (((σ.1 18 8) + x3).toNatClampNeg)) &&& 31)) &&& 1) ≠ 0 → L_X5_openNames_4 l e p Φ x2 (x3 + 1) σ) ∧ ((((σ.1 16 (((σ.1 18 8) + x3).toNatClampNeg)) >>> ((σ.1 p (((σ.1 18 8) + x3).toNatClampNeg)) &&& 31)) &&& 1) = 0 → L_X5_openNames_4 l e p Φ (x2 ||| ((1 : Int32) <<< (x3 &&& 31))) (x3 + 1) σ))))))))) : L_X5_openNames_4 l e p Φ x2 x3 σ := by
  show hv_TW l (hv_e1 e) (hv_rm 0) 0 0 m_X5_openNames hv_no (hv_ZI (hv_e1 e) Φ) 4 [(0, .ref 18), (1, .ref p), (2, .int x2), (3, .int x3)] [] σ
  refine T_iload_n dX5_openNames_4 rfl 3 rfl ?_
  refine T_aload_n dX5_openNames_5 rfl 0 rfl ?_
  refine T_get (v := .ref 1) dX5_openNames_6 fl_X5_18 hp_18 hs_18 rfl rfl ?_
  refine T_get (v := .int (σ.1 1 7)) dX5_openNames_9 fl_X5_40 hp_1 hs_1 rfl rfl ?_
  refine T_icmp_ge (tgt := 66) dX5_openNames_12 (by decide) (fun c1 => ?_) (fun c1 => ?_)
  · refine T_iload_n dX5_openNames_66 rfl 2 rfl ?_
    exact T_iret dX5_openNames_67 rfl (h.1 c1)
  · refine T_aload_n dX5_openNames_15 rfl 0 rfl ?_
    refine T_get (v := .int (σ.1 18 8)) dX5_openNames_16 fl_X5_33 hp_18 hs_18 rfl rfl ?_
    refine T_iload_n dX5_openNames_19 rfl 3 rfl ?_
    refine T_iadd dX5_openNames_20 ?_
    refine T_istore dX5_openNames_21 (by decide) rfl ?_
    refine T_aload_n dX5_openNames_23 rfl 1 rfl ?_
    refine T_get (v := .int (σ.1 18 5)) dX5_openNames_24 fl_X5_51 hp_18 hs_18 rfl rfl ?_
    refine T_iload_n dX5_openNames_27 rfl 4 rfl ?_
    refine T_ishr dX5_openNames_28 ?_
    refine T_iconst (v := 1) dX5_openNames_29 (by decide) ?_
    refine T_iand dX5_openNames_30 ?_
    refine T_if_eq (tgt := 60) dX5_openNames_31 (by decide) (fun c2 => ?_) (fun c2 => ?_)
    · refine T_iinc (v := (x3 + 1)) dX5_openNames_60 4 rfl rfl (by decide) rfl ?_
      refine T_goto (tgt := 4) dX5_openNames_63 (by decide) ?_
      exact T_sub [2, 3, 4, 0] rfl ((h.2 c1).1 c2)
    · refine T_aload_n dX5_openNames_34 rfl 1 rfl ?_
      refine T_get (v := .ref 15) dX5_openNames_35 fl_X5_22 hp_18 hs_18 rfl rfl ?_
      refine T_get (v := .ref 16) dX5_openNames_38 fl_X5_78 hp_15 hs_15 rfl rfl ?_
      refine T_iload dX5_openNames_41 0 rfl ?_
      refine T_iald dX5_openNames_43 hp_16 hs_16 ((h.2 c1).2 c2).1 ?_
      refine T_aload_n dX5_openNames_44 rfl 2 rfl ?_
      refine T_iload dX5_openNames_45 0 rfl ?_
      refine T_iald dX5_openNames_47 hp hs ((h.2 c1).2 c2).2.1 ?_
      refine T_ishr dX5_openNames_48 ?_
      refine T_iconst (v := 1) dX5_openNames_49 (by decide) ?_
      refine T_iand dX5_openNames_50 ?_
      refine T_if_ne (tgt := 60) dX5_openNames_51 (by decide) (fun c3 => ?_) (fun c3 => ?_)
      · refine T_iinc (v := (x3 + 1)) dX5_openNames_60 4 rfl rfl (by decide) rfl ?_
        refine T_goto (tgt := 4) dX5_openNames_63 (by decide) ?_
        exact T_sub [2, 3, 4, 0] rfl (((h.2 c1).2 c2).2.2.1 c3)
      · refine T_iload_n dX5_openNames_54 rfl 3 rfl ?_
        refine T_iconst (v := 1) dX5_openNames_55 (by decide) ?_
        refine T_iload_n dX5_openNames_56 rfl 4 rfl ?_
        refine T_ishl dX5_openNames_57 ?_
        refine T_ior dX5_openNames_58 ?_
        refine T_istore_n dX5_openNames_59 rfl (by decide) rfl ?_
        refine T_iinc (v := (x3 + 1)) dX5_openNames_60 4 rfl rfl (by decide) rfl ?_
        refine T_goto (tgt := 4) dX5_openNames_63 (by decide) ?_
        exact T_sub [3, 4, 1, 0] rfl (((h.2 c1).2 c2).2.2.2 c3)
set_option maxHeartbeats 4000000 in
set_option maxRecDepth 100000 in
theorem B_X5_openNames {l : Launch} {e : hv_Ev} (p : Nat) (hp : p ∈ hv_pl1) (hs : hv_sh1 p = .inr (0, 24))  {σ : hv_S} {Φ : Int32 → hv_S → Prop} (h : L_X5_openNames_4 l e p Φ 0 0 σ) : hv_CI l (hv_e1 e) 0 m_X5_openNames [.ref 18, .ref p] σ Φ := by
  refine hv_entI (by decide) (Nat.le_of_ble_eq_true rfl) ?_
  show hv_TW l (hv_e1 e) (hv_rm 0) 0 0 m_X5_openNames hv_no (hv_ZI (hv_e1 e) Φ) 0 [(0, .ref 18), (1, .ref p)] [] σ
  refine T_iconst (v := 0) dX5_openNames_0 (by decide) ?_
  refine T_istore_n dX5_openNames_1 rfl (by decide) rfl ?_
  refine T_iconst (v := 0) dX5_openNames_2 (by decide) ?_
  refine T_istore_n dX5_openNames_3 rfl (by decide) rfl ?_
  exact T_sub [2, 3, 1, 0] rfl h

def L_X5_reachAll_2 (l : Launch) (e : hv_Ev)  (Φ : Int32 → hv_S → Prop) (x1 : Int32) (x2 : Int32) (σ : hv_S) : Prop := hv_TW l (hv_e1 e) (hv_rm 1) 0 0 m_X5_reachAll hv_no (hv_ZI (hv_e1 e) Φ) 2 [(0, .ref 18), (1, .int x1), (2, .int x2)] [] σ
set_option maxHeartbeats 4000000 in
set_option maxRecDepth 100000 in
theorem B_X5_reachAll_2 {l : Launch} {e : hv_Ev}  (x1 : Int32) (x2 : Int32) {σ : hv_S} {Φ : Int32 → hv_S → Prop} (h : (((σ.1 1 7) ≤ x2 → hv_CI l (hv_e1 e) 0 m_X5_reaching [.ref 18] σ (fun v2 s1 => ((v2 ≠ (s1.1 18 6) → Φ 0 s1) ∧ (v2 = (s1.1 18 6) → Φ 1 s1)))) ∧ (¬ (σ.1 1 7) ≤ x2 → (((((σ.1 18 5) >>> (x2 &&& 31)) &&& 1) = 0 → L_X5_reachAll_2 l e Φ x1 (x2 + 1) σ) ∧ (¬ (((σ.1 18 5) >>> (x2 &&& 31)) &&& 1) = 0 → hv_CI l (hv_e1 e) 0 m_X5_nameOf [.ref 18, .int x2, .int x1] σ (fun v5 s4 => (vp_in x2 8 ∧ L_X5_reachAll_2 l e Φ x1 (x2 + 1) (hv_ui s4 20 x2.toNatClampNeg ((1 : Int32) <<< (v5 &&& 31)))))))))) : L_X5_reachAll_2 l e Φ x1 x2 σ := by
  show hv_TW l (hv_e1 e) (hv_rm 1) 0 0 m_X5_reachAll hv_no (hv_ZI (hv_e1 e) Φ) 2 [(0, .ref 18), (1, .int x1), (2, .int x2)] [] σ
  refine T_iload_n dX5_reachAll_2 rfl 2 rfl ?_
  refine T_aload_n dX5_reachAll_3 rfl 0 rfl ?_
  refine T_get (v := .ref 1) dX5_reachAll_4 fl_X5_18 hp_18 hs_18 rfl rfl ?_
  refine T_get (v := .int (σ.1 1 7)) dX5_reachAll_7 fl_X5_40 hp_1 hs_1 rfl rfl ?_
  refine T_icmp_ge (tgt := 44) dX5_reachAll_10 (by decide) (fun c7 => ?_) (fun c7 => ?_)
  · refine T_aload_n dX5_reachAll_44 rfl 0 rfl ?_
    refine T_VI (As := []) dX5_reachAll_45 mv_X5_131 hp_18 hs_18 rfl (Nat.le_of_ble_eq_true rfl) (hv_ok1 rfl) rfl (h.1 c7) (fun v2 s1 h3 => ?_)
    refine T_aload_n dX5_reachAll_48 rfl 0 rfl ?_
    refine T_get (v := .int (s1.1 18 6)) dX5_reachAll_49 fl_X5_45 hp_18 hs_18 rfl rfl ?_
    refine T_icmp_ne (tgt := 59) dX5_reachAll_52 (by decide) (fun c8 => ?_) (fun c8 => ?_)
    · refine T_iconst (v := 0) dX5_reachAll_59 (by decide) ?_
      exact T_zret dX5_reachAll_60 rfl (by decide) (h3.1 c8)
    · refine T_iconst (v := 1) dX5_reachAll_55 (by decide) ?_
      refine T_goto (tgt := 60) dX5_reachAll_56 (by decide) ?_
      exact T_zret dX5_reachAll_60 rfl (by decide) (h3.2 c8)
  · refine T_aload_n dX5_reachAll_13 rfl 0 rfl ?_
    refine T_get (v := .int (σ.1 18 5)) dX5_reachAll_14 fl_X5_51 hp_18 hs_18 rfl rfl ?_
    refine T_iload_n dX5_reachAll_17 rfl 2 rfl ?_
    refine T_ishr dX5_reachAll_18 ?_
    refine T_iconst (v := 1) dX5_reachAll_19 (by decide) ?_
    refine T_iand dX5_reachAll_20 ?_
    refine T_if_eq (tgt := 38) dX5_reachAll_21 (by decide) (fun c9 => ?_) (fun c9 => ?_)
    · refine T_iinc (v := (x2 + 1)) dX5_reachAll_38 2 rfl rfl (by decide) rfl ?_
      refine T_goto (tgt := 2) dX5_reachAll_41 (by decide) ?_
      exact T_sub [1, 2, 0] rfl ((h.2 c7).1 c9)
    · refine T_aload_n dX5_reachAll_24 rfl 0 rfl ?_
      refine T_get (v := .ref 20) dX5_reachAll_25 fl_X5_15 hp_18 hs_18 rfl rfl ?_
      refine T_iload_n dX5_reachAll_28 rfl 2 rfl ?_
      refine T_iconst (v := 1) dX5_reachAll_29 (by decide) ?_
      refine T_aload_n dX5_reachAll_30 rfl 0 rfl ?_
      refine T_iload_n dX5_reachAll_31 rfl 2 rfl ?_
      refine T_iload_n dX5_reachAll_32 rfl 1 rfl ?_
      refine T_VI (As := [.int x2, .int x1]) dX5_reachAll_33 mv_X5_111 hp_18 hs_18 rfl (Nat.le_of_ble_eq_true rfl) (hv_ok1 rfl) rfl ((h.2 c7).2 c9) (fun v5 s4 h6 => ?_)
      refine T_ishl dX5_reachAll_36 ?_
      refine T_iast dX5_reachAll_37 hp_20 hs_20 h6.1 ?_
      refine T_iinc (v := (x2 + 1)) dX5_reachAll_38 2 rfl rfl (by decide) rfl ?_
      refine T_goto (tgt := 2) dX5_reachAll_41 (by decide) ?_
      exact T_sub [1, 2, 0] rfl h6.2
set_option maxHeartbeats 4000000 in
set_option maxRecDepth 100000 in
theorem B_X5_reachAll {l : Launch} {e : hv_Ev}  (x1 : Int32) {σ : hv_S} {Φ : Int32 → hv_S → Prop} (h : L_X5_reachAll_2 l e Φ x1 0 σ) : hv_CI l (hv_e1 e) 1 m_X5_reachAll [.ref 18, .int x1] σ Φ := by
  refine hv_entI (by decide) (Nat.le_of_ble_eq_true rfl) ?_
  show hv_TW l (hv_e1 e) (hv_rm 1) 0 0 m_X5_reachAll hv_no (hv_ZI (hv_e1 e) Φ) 0 [(0, .ref 18), (1, .int x1)] [] σ
  refine T_iconst (v := 0) dX5_reachAll_0 (by decide) ?_
  refine T_istore_n dX5_reachAll_1 rfl (by decide) rfl ?_
  exact T_sub [1, 2, 0] rfl h

def L_X5_seekWays_42 (l : Launch) (e : hv_Ev)  (Φ : hv_S → Prop) (x1 : Int32) (x2 : Int32) (x3 : Int32) (x4 : Int32) (x5 : Int32) (σ : hv_S) : Prop := hv_TW l (hv_e1 e) (hv_rm 2) 0 0 m_X5_seekWays hv_no (hv_ZV (hv_e1 e) Φ) 42 [(0, .ref 18), (1, .int x1), (2, .int x2), (3, .int x3), (4, .int x4), (5, .int x5)] [] σ
def L_X5_seekWays_106 (l : Launch) (e : hv_Ev)  (Φ : hv_S → Prop) (x1 : Int32) (x2 : Int32) (x3 : Int32) (x4 : Int32) (x5 : Int32) (x6 : Int32) (σ : hv_S) : Prop := hv_TW l (hv_e1 e) (hv_rm 2) 0 0 m_X5_seekWays hv_no (hv_ZV (hv_e1 e) Φ) 106 [(0, .ref 18), (1, .int x1), (2, .int x2), (3, .int x3), (4, .int x4), (5, .int x5), (6, .int x6)] [] σ
set_option maxHeartbeats 4000000 in
set_option maxRecDepth 100000 in
theorem B_X5_seekWays_106 {l : Launch} {e : hv_Ev}  (x1 : Int32) (x2 : Int32) (x3 : Int32) (x4 : Int32) (x5 : Int32) (x6 : Int32) {σ : hv_S} {Φ : hv_S → Prop} (h : hv_CI l (hv_e1 e) 1 m_X5_reachAll [.ref 18, .int x5] σ (fun v16 s15 => ((v16 ≠ 0 → ((x4 ≤ x6 → L_X5_seekWays_42 l e Φ x1 x2 x3 x4 (x5 + 1) (hv_ui s15 18 9 ((s15.1 18 9) + 1))) ∧ (¬ x4 ≤ x6 → L_X5_seekWays_42 l e Φ x1 x2 x3 x6 (x5 + 1) (hv_ui (hv_ui s15 18 9 ((s15.1 18 9) + 1)) 18 10 x5)))) ∧ (v16 = 0 → L_X5_seekWays_42 l e Φ x1 x2 x3 x4 (x5 + 1) s15)))) : L_X5_seekWays_106 l e Φ x1 x2 x3 x4 x5 x6 σ := by
  show hv_TW l (hv_e1 e) (hv_rm 2) 0 0 m_X5_seekWays hv_no (hv_ZV (hv_e1 e) Φ) 106 [(0, .ref 18), (1, .int x1), (2, .int x2), (3, .int x3), (4, .int x4), (5, .int x5), (6, .int x6)] [] σ
  refine T_aload_n dX5_seekWays_106 rfl 0 rfl ?_
  refine T_iload dX5_seekWays_107 5 rfl ?_
  refine T_VI (As := [.int x5]) dX5_seekWays_109 mv_X5_127 hp_18 hs_18 rfl (Nat.le_of_ble_eq_true rfl) (hv_ok1 rfl) rfl h (fun v16 s15 h17 => ?_)
  refine T_if_ne (tgt := 118) dX5_seekWays_112 (by decide) (fun c18 => ?_) (fun c18 => ?_)
  · refine T_aload_n dX5_seekWays_118 rfl 0 rfl ?_
    refine T_dup dX5_seekWays_119 rfl ?_
    refine T_get (v := .int (s15.1 18 9)) dX5_seekWays_120 fl_X5_118 hp_18 hs_18 rfl rfl ?_
    refine T_iconst (v := 1) dX5_seekWays_123 (by decide) ?_
    refine T_iadd dX5_seekWays_124 ?_
    refine T_puti dX5_seekWays_125 fl_X5_118 pf_X5_9 hp_18 hs_18 rfl ?_
    refine T_iload dX5_seekWays_128 6 rfl ?_
    refine T_iload dX5_seekWays_130 4 rfl ?_
    refine T_icmp_ge (tgt := 145) dX5_seekWays_132 (by decide) (fun c19 => ?_) (fun c19 => ?_)
    · refine T_iinc (v := (x5 + 1)) dX5_seekWays_145 5 rfl rfl (by decide) rfl ?_
      refine T_goto (tgt := 42) dX5_seekWays_148 (by decide) ?_
      exact T_sub [1, 2, 3, 4, 5, 0] rfl ((h17.1 c18).1 c19)
    · refine T_iload dX5_seekWays_135 6 rfl ?_
      refine T_istore dX5_seekWays_137 (by decide) rfl ?_
      refine T_aload_n dX5_seekWays_139 rfl 1 rfl ?_
      refine T_iload dX5_seekWays_140 5 rfl ?_
      refine T_puti dX5_seekWays_142 fl_X5_108 pf_X5_10 hp_18 hs_18 rfl ?_
      refine T_iinc (v := (x5 + 1)) dX5_seekWays_145 5 rfl rfl (by decide) rfl ?_
      refine T_goto (tgt := 42) dX5_seekWays_148 (by decide) ?_
      exact T_sub [2, 3, 4, 5, 1, 0] rfl ((h17.1 c18).2 c19)
  · refine T_goto (tgt := 145) dX5_seekWays_115 (by decide) ?_
    refine T_iinc (v := (x5 + 1)) dX5_seekWays_145 5 rfl rfl (by decide) rfl ?_
    refine T_goto (tgt := 42) dX5_seekWays_148 (by decide) ?_
    exact T_sub [1, 2, 3, 4, 5, 0] rfl (h17.2 c18)
set_option maxHeartbeats 4000000 in
set_option maxRecDepth 100000 in
theorem B_X5_seekWays_42 {l : Launch} {e : hv_Ev}  (x1 : Int32) (x2 : Int32) (x3 : Int32) (x4 : Int32) (x5 : Int32) {σ : hv_S} {Φ : hv_S → Prop} (h : (((σ.1 18 5) < x5 → Φ σ) ∧ (¬ (σ.1 18 5) < x5 → hv_CI l (hv_e1 e) 0 m_J6_bitCount_0f7a4 [.int x5] σ (fun v8 s7 => (((x5 &&& (x3 ^^^ (-1))) ≠ 0 → L_X5_seekWays_42 l e Φ x1 x2 x3 x4 (x5 + 1) s7) ∧ ((x5 &&& (x3 ^^^ (-1))) = 0 → (((((s7.1 18 5) &&& (x5 ^^^ (-1))) &&& (x2 ^^^ (-1))) ≠ 0 → L_X5_seekWays_42 l e Φ x1 x2 x3 x4 (x5 + 1) s7) ∧ ((((s7.1 18 5) &&& (x5 ^^^ (-1))) &&& (x2 ^^^ (-1))) = 0 → ((x1 ≠ 0 → L_X5_seekWays_106 l e Φ x1 x2 x3 x4 x5 v8 s7) ∧ (x1 = 0 → ((x4 ≤ v8 → L_X5_seekWays_42 l e Φ x1 x2 x3 x4 (x5 + 1) s7) ∧ (¬ x4 ≤ v8 → L_X5_seekWays_106 l e Φ x1 x2 x3 x4 x5 v8 s7)))))))))))) : L_X5_seekWays_42 l e Φ x1 x2 x3 x4 x5 σ := by
  show hv_TW l (hv_e1 e) (hv_rm 2) 0 0 m_X5_seekWays hv_no (hv_ZV (hv_e1 e) Φ) 42 [(0, .ref 18), (1, .int x1), (2, .int x2), (3, .int x3), (4, .int x4), (5, .int x5)] [] σ
  refine T_iload dX5_seekWays_42 5 rfl ?_
  refine T_aload_n dX5_seekWays_44 rfl 0 rfl ?_
  refine T_get (v := .int (σ.1 18 5)) dX5_seekWays_45 fl_X5_51 hp_18 hs_18 rfl rfl ?_
  refine T_icmp_gt (tgt := 151) dX5_seekWays_48 (by decide) (fun c10 => ?_) (fun c10 => ?_)
  · exact T_vret dX5_seekWays_151 rfl (h.1 c10)
  · refine T_iload dX5_seekWays_51 5 rfl ?_
    refine T_SI (As := [.int x5]) dX5_seekWays_53 ms_X5_121 rfl (Nat.le_of_ble_eq_true rfl) (hv_ok1 rfl) rfl (h.2 c10) (fun v8 s7 h9 => ?_)
    refine T_istore dX5_seekWays_56 (by decide) rfl ?_
    refine T_iload dX5_seekWays_58 6 rfl ?_
    refine T_iload_n dX5_seekWays_60 rfl 4 rfl ?_
    refine T_iconst (v := (-1)) dX5_seekWays_61 (by decide) ?_
    refine T_ixor dX5_seekWays_62 ?_
    refine T_iand dX5_seekWays_63 ?_
    refine T_if_ne (tgt := 87) dX5_seekWays_64 (by decide) (fun c11 => ?_) (fun c11 => ?_)
    · refine T_iconst (v := 0) dX5_seekWays_87 (by decide) ?_
      refine T_istore dX5_seekWays_88 (by decide) rfl ?_
      refine T_iload dX5_seekWays_90 0 rfl ?_
      refine T_if_eq (tgt := 145) dX5_seekWays_92 (by decide) (fun _ => ?_) (fun q => absurd q (by decide))
      refine T_iinc (v := (x5 + 1)) dX5_seekWays_145 7 rfl rfl (by decide) rfl ?_
      refine T_goto (tgt := 42) dX5_seekWays_148 (by decide) ?_
      exact T_sub [3, 4, 5, 6, 7, 0] rfl (h9.1 c11)
    · refine T_aload_n dX5_seekWays_67 rfl 1 rfl ?_
      refine T_get (v := .int (s7.1 18 5)) dX5_seekWays_68 fl_X5_51 hp_18 hs_18 rfl rfl ?_
      refine T_iload dX5_seekWays_71 6 rfl ?_
      refine T_iconst (v := (-1)) dX5_seekWays_73 (by decide) ?_
      refine T_ixor dX5_seekWays_74 ?_
      refine T_iand dX5_seekWays_75 ?_
      refine T_iload_n dX5_seekWays_76 rfl 3 rfl ?_
      refine T_iconst (v := (-1)) dX5_seekWays_77 (by decide) ?_
      refine T_ixor dX5_seekWays_78 ?_
      refine T_iand dX5_seekWays_79 ?_
      refine T_if_ne (tgt := 87) dX5_seekWays_80 (by decide) (fun c12 => ?_) (fun c12 => ?_)
      · refine T_iconst (v := 0) dX5_seekWays_87 (by decide) ?_
        refine T_istore dX5_seekWays_88 (by decide) rfl ?_
        refine T_iload dX5_seekWays_90 0 rfl ?_
        refine T_if_eq (tgt := 145) dX5_seekWays_92 (by decide) (fun _ => ?_) (fun q => absurd q (by decide))
        refine T_iinc (v := (x5 + 1)) dX5_seekWays_145 7 rfl rfl (by decide) rfl ?_
        refine T_goto (tgt := 42) dX5_seekWays_148 (by decide) ?_
        exact T_sub [3, 4, 5, 6, 7, 0] rfl ((h9.2 c11).1 c12)
      · refine T_iconst (v := 1) dX5_seekWays_83 (by decide) ?_
        refine T_goto (tgt := 88) dX5_seekWays_84 (by decide) ?_
        refine T_istore dX5_seekWays_88 (by decide) rfl ?_
        refine T_iload dX5_seekWays_90 0 rfl ?_
        refine T_if_eq (tgt := 145) dX5_seekWays_92 (by decide) (fun q => absurd q (by decide)) (fun _ => ?_)
        refine T_iload_n dX5_seekWays_95 rfl 3 rfl ?_
        refine T_if_ne (tgt := 106) dX5_seekWays_96 (by decide) (fun c13 => ?_) (fun c13 => ?_)
        · exact T_sub [2, 3, 4, 5, 6, 7, 1] rfl (((h9.2 c11).2 c12).1 c13)
        · refine T_iload dX5_seekWays_99 1 rfl ?_
          refine T_iload dX5_seekWays_101 6 rfl ?_
          refine T_icmp_ge (tgt := 145) dX5_seekWays_103 (by decide) (fun c14 => ?_) (fun c14 => ?_)
          · refine T_iinc (v := (x5 + 1)) dX5_seekWays_145 7 rfl rfl (by decide) rfl ?_
            refine T_goto (tgt := 42) dX5_seekWays_148 (by decide) ?_
            exact T_sub [3, 4, 5, 6, 7, 0] rfl ((((h9.2 c11).2 c12).2 c13).1 c14)
          · exact T_sub [2, 3, 4, 5, 6, 7, 1] rfl ((((h9.2 c11).2 c12).2 c13).2 c14)
set_option maxHeartbeats 4000000 in
set_option maxRecDepth 100000 in
theorem B_X5_seekWays {l : Launch} {e : hv_Ev}  (x1 : Int32) {σ : hv_S} {Φ : hv_S → Prop} (h : hv_CI l (hv_e1 e) 0 m_X5_openNames [.ref 18, .ref 6] σ (fun v2 s1 => hv_CI l (hv_e1 e) 0 m_X5_openNames [.ref 18, .ref 7] s1 (fun v5 s4 => L_X5_seekWays_42 l e Φ x1 v2 v5 9 0 (hv_ui (hv_ui s4 18 9 0) 18 10 (-5))))) : hv_CV l (hv_e1 e) 2 m_X5_seekWays [.ref 18, .int x1] σ Φ := by
  refine hv_entV (by decide) (Nat.le_of_ble_eq_true rfl) ?_
  show hv_TW l (hv_e1 e) (hv_rm 2) 0 0 m_X5_seekWays hv_no (hv_ZV (hv_e1 e) Φ) 0 [(0, .ref 18), (1, .int x1)] [] σ
  refine T_aload_n dX5_seekWays_0 rfl 0 rfl ?_
  refine T_aload_n dX5_seekWays_1 rfl 0 rfl ?_
  refine T_get (v := .ref 1) dX5_seekWays_2 fl_X5_18 hp_18 hs_18 rfl rfl ?_
  refine T_get (v := .ref 6) dX5_seekWays_5 fl_X5_87 hp_1 hs_1 rfl rfl ?_
  refine T_VI (As := [.ref 6]) dX5_seekWays_8 mv_X5_114 hp_18 hs_18 rfl (Nat.le_of_ble_eq_true rfl) (hv_ok1 rfl) rfl h (fun v2 s1 h3 => ?_)
  refine T_istore_n dX5_seekWays_11 rfl (by decide) rfl ?_
  refine T_aload_n dX5_seekWays_12 rfl 1 rfl ?_
  refine T_aload_n dX5_seekWays_13 rfl 1 rfl ?_
  refine T_get (v := .ref 1) dX5_seekWays_14 fl_X5_18 hp_18 hs_18 rfl rfl ?_
  refine T_get (v := .ref 7) dX5_seekWays_17 fl_X5_91 hp_1 hs_1 rfl rfl ?_
  refine T_VI (As := [.ref 7]) dX5_seekWays_20 mv_X5_114 hp_18 hs_18 rfl (Nat.le_of_ble_eq_true rfl) (hv_ok1 rfl) rfl h3 (fun v5 s4 h6 => ?_)
  refine T_istore_n dX5_seekWays_23 rfl (by decide) rfl ?_
  refine T_bipush (v := 9) dX5_seekWays_24 (by decide) ?_
  refine T_istore dX5_seekWays_26 (by decide) rfl ?_
  refine T_aload_n dX5_seekWays_28 rfl 3 rfl ?_
  refine T_iconst (v := 0) dX5_seekWays_29 (by decide) ?_
  refine T_puti dX5_seekWays_30 fl_X5_118 pf_X5_9 hp_18 hs_18 rfl ?_
  refine T_aload_n dX5_seekWays_33 rfl 3 rfl ?_
  refine T_bipush (v := (-5)) dX5_seekWays_34 (by decide) ?_
  refine T_puti dX5_seekWays_36 fl_X5_108 pf_X5_10 hp_18 hs_18 rfl ?_
  refine T_iconst (v := 0) dX5_seekWays_39 (by decide) ?_
  refine T_istore dX5_seekWays_40 (by decide) rfl ?_
  exact T_sub [4, 5, 3, 2, 1, 0] rfl h6

def L_X5_layOrders_35 (l : Launch) (e : hv_Ev)  (Φ : hv_S → Prop) (x1 : Int32) (x2 : Int32) (σ : hv_S) : Prop := hv_TW l (hv_e1 e) (hv_rm 3) 0 0 m_X5_layOrders hv_no (hv_ZV (hv_e1 e) Φ) 35 [(0, .ref 18), (1, .int x1), (2, .int x2)] [] σ
set_option maxHeartbeats 4000000 in
set_option maxRecDepth 100000 in
theorem B_X5_layOrders_35 {l : Launch} {e : hv_Ev}  (x1 : Int32) (x2 : Int32) {σ : hv_S} {Φ : hv_S → Prop} (h : (((σ.1 1 7) ≤ x2 → Φ σ) ∧ (¬ (σ.1 1 7) ≤ x2 → (((((σ.1 18 5) >>> (x2 &&& 31)) &&& 1) = 0 → L_X5_layOrders_35 l e Φ x1 (x2 + 1) σ) ∧ (¬ (((σ.1 18 5) >>> (x2 &&& 31)) &&& 1) = 0 → (vp_in x2 8 ∧ hv_CI l (hv_e1 e) 0 m_X5_nameOf [.ref 18, .int x2, .int x1] (hv_ui σ 20 x2.toNatClampNeg 0) (fun v8 s7 => hv_CV l (hv_e1 e) 1 m_X5_send [.ref 18, .int x2, .int v8, .int 10] s7 (fun s10 => L_X5_layOrders_35 l e Φ x1 (x2 + 1) s10)))))))) : L_X5_layOrders_35 l e Φ x1 x2 σ := by
  show hv_TW l (hv_e1 e) (hv_rm 3) 0 0 m_X5_layOrders hv_no (hv_ZV (hv_e1 e) Φ) 35 [(0, .ref 18), (1, .int x1), (2, .int x2)] [] σ
  refine T_iload_n dX5_layOrders_35 rfl 2 rfl ?_
  refine T_aload_n dX5_layOrders_36 rfl 0 rfl ?_
  refine T_get (v := .ref 1) dX5_layOrders_37 fl_X5_18 hp_18 hs_18 rfl rfl ?_
  refine T_get (v := .int (σ.1 1 7)) dX5_layOrders_40 fl_X5_40 hp_1 hs_1 rfl rfl ?_
  refine T_icmp_ge (tgt := 83) dX5_layOrders_43 (by decide) (fun c13 => ?_) (fun c13 => ?_)
  · exact T_vret dX5_layOrders_83 rfl (h.1 c13)
  · refine T_aload_n dX5_layOrders_46 rfl 0 rfl ?_
    refine T_get (v := .int (σ.1 18 5)) dX5_layOrders_47 fl_X5_51 hp_18 hs_18 rfl rfl ?_
    refine T_iload_n dX5_layOrders_50 rfl 2 rfl ?_
    refine T_ishr dX5_layOrders_51 ?_
    refine T_iconst (v := 1) dX5_layOrders_52 (by decide) ?_
    refine T_iand dX5_layOrders_53 ?_
    refine T_if_eq (tgt := 77) dX5_layOrders_54 (by decide) (fun c14 => ?_) (fun c14 => ?_)
    · refine T_iinc (v := (x2 + 1)) dX5_layOrders_77 2 rfl rfl (by decide) rfl ?_
      refine T_goto (tgt := 35) dX5_layOrders_80 (by decide) ?_
      exact T_sub [1, 2, 0] rfl ((h.2 c13).1 c14)
    · refine T_aload_n dX5_layOrders_57 rfl 0 rfl ?_
      refine T_get (v := .ref 20) dX5_layOrders_58 fl_X5_15 hp_18 hs_18 rfl rfl ?_
      refine T_iload_n dX5_layOrders_61 rfl 2 rfl ?_
      refine T_iconst (v := 0) dX5_layOrders_62 (by decide) ?_
      refine T_iast dX5_layOrders_63 hp_20 hs_20 ((h.2 c13).2 c14).1 ?_
      refine T_aload_n dX5_layOrders_64 rfl 0 rfl ?_
      refine T_iload_n dX5_layOrders_65 rfl 2 rfl ?_
      refine T_aload_n dX5_layOrders_66 rfl 0 rfl ?_
      refine T_iload_n dX5_layOrders_67 rfl 2 rfl ?_
      refine T_iload_n dX5_layOrders_68 rfl 1 rfl ?_
      refine T_VI (As := [.int x2, .int x1]) dX5_layOrders_69 mv_X5_111 hp_18 hs_18 rfl (Nat.le_of_ble_eq_true rfl) (hv_ok1 rfl) rfl (((h.2 c13).2 c14).2) (fun v8 s7 h9 => ?_)
      refine T_bipush (v := 10) dX5_layOrders_72 (by decide) ?_
      refine T_VV (As := [.int x2, .int v8, .int 10]) dX5_layOrders_74 mv_X5_60 hp_18 hs_18 rfl (Nat.le_of_ble_eq_true rfl) (hv_ok1 rfl) rfl h9 (fun s10 h12 => ?_)
      refine T_iinc (v := (x2 + 1)) dX5_layOrders_77 2 rfl rfl (by decide) rfl ?_
      refine T_goto (tgt := 35) dX5_layOrders_80 (by decide) ?_
      exact T_sub [1, 2, 0] rfl h12
set_option maxHeartbeats 4000000 in
set_option maxRecDepth 100000 in
theorem B_X5_layOrders {l : Launch} {e : hv_Ev}   {σ : hv_S} {Φ : hv_S → Prop} (h : (((σ.1 18 5) = 0 → L_X5_layOrders_35 l e Φ (-5) 0 σ) ∧ (¬ (σ.1 18 5) = 0 → (hv_isR (σ.2.2 15 3) ∧ (((σ.1 (σ.2.2 15 3) 5) = 0 → L_X5_layOrders_35 l e Φ (-5) 0 σ) ∧ (¬ (σ.1 (σ.2.2 15 3) 5) = 0 → hv_CV l (hv_e1 e) 2 m_X5_seekWays [.ref 18, .int 0] σ (fun s2 => L_X5_layOrders_35 l e Φ (s2.1 18 10) 0 s2))))))) : hv_CV l (hv_e1 e) 3 m_X5_layOrders [.ref 18] σ Φ := by
  refine hv_entV (by decide) (Nat.le_of_ble_eq_true rfl) ?_
  show hv_TW l (hv_e1 e) (hv_rm 3) 0 0 m_X5_layOrders hv_no (hv_ZV (hv_e1 e) Φ) 0 [(0, .ref 18)] [] σ
  refine T_bipush (v := (-5)) dX5_layOrders_0 (by decide) ?_
  refine T_istore_n dX5_layOrders_2 rfl (by decide) rfl ?_
  refine T_aload_n dX5_layOrders_3 rfl 1 rfl ?_
  refine T_get (v := .int (σ.1 18 5)) dX5_layOrders_4 fl_X5_51 hp_18 hs_18 rfl rfl ?_
  refine T_if_eq (tgt := 33) dX5_layOrders_7 (by decide) (fun c5 => ?_) (fun c5 => ?_)
  · refine T_iconst (v := 0) dX5_layOrders_33 (by decide) ?_
    refine T_istore_n dX5_layOrders_34 rfl (by decide) rfl ?_
    exact T_sub [2, 1, 0] rfl (h.1 c5)
  · refine T_aload_n dX5_layOrders_10 rfl 1 rfl ?_
    refine T_get (v := .ref 15) dX5_layOrders_11 fl_X5_22 hp_18 hs_18 rfl rfl ?_
    have b1 := (h.2 c5).1
    refine T_get (v := .ref (σ.2.2 15 3)) dX5_layOrders_14 fl_X5_94 hp_15 hs_15 rfl rfl ?_
    refine T_get (v := .int (σ.1 (σ.2.2 15 3) 5)) dX5_layOrders_17 fl_X5_98 (hv_isRp b1) (hv_isRs b1) rfl rfl ?_
    refine T_if_eq (tgt := 33) dX5_layOrders_20 (by decide) (fun c6 => ?_) (fun c6 => ?_)
    · refine T_iconst (v := 0) dX5_layOrders_33 (by decide) ?_
      refine T_istore_n dX5_layOrders_34 rfl (by decide) rfl ?_
      exact T_sub [2, 1, 0] rfl ((h.2 c5).2.1 c6)
    · refine T_aload_n dX5_layOrders_23 rfl 1 rfl ?_
      refine T_iconst (v := 0) dX5_layOrders_24 (by decide) ?_
      refine T_VV (As := [.int 0]) dX5_layOrders_25 mv_X5_104 hp_18 hs_18 rfl (Nat.le_of_ble_eq_true rfl) (hv_ok1 rfl) rfl ((h.2 c5).2.2 c6) (fun s2 h4 => ?_)
      refine T_aload_n dX5_layOrders_28 rfl 1 rfl ?_
      refine T_get (v := .int (s2.1 18 10)) dX5_layOrders_29 fl_X5_108 hp_18 hs_18 rfl rfl ?_
      refine T_istore_n dX5_layOrders_32 rfl (by decide) rfl ?_
      refine T_iconst (v := 0) dX5_layOrders_33 (by decide) ?_
      refine T_istore_n dX5_layOrders_34 rfl (by decide) rfl ?_
      exact T_sub [2, 1, 0] rfl h4

set_option maxHeartbeats 4000000 in
set_option maxRecDepth 100000 in
theorem B_X5_layHand {l : Launch} {e : hv_Ev}  (x1 : Int32) (x2 : Int32) {σ : hv_S} {Φ : hv_S → Prop} (h : (vp_in x2 24 ∧ (((σ.1 4 x2.toNatClampNeg) ≠ 5 → (vp_in x2 24 ∧ (vp_in x2 24 ∧ hv_CV l (hv_e1 e) 1 m_X5_send [.ref 18, .int x1, .int (σ.1 6 x2.toNatClampNeg), .int (σ.1 8 x2.toNatClampNeg)] σ (fun s1 => (vp_in x2 24 ∧ (((s1.1 4 x2.toNatClampNeg) ≠ 4 → Φ s1) ∧ ((s1.1 4 x2.toNatClampNeg) = 4 → (vp_in x2 24 ∧ (vp_in x2 24 ∧ hv_CV l (hv_e1 e) 1 m_X5_send [.ref 18, .int x1, .int (s1.1 7 x2.toNatClampNeg), .int (10 - (s1.1 8 x2.toNatClampNeg))] s1 (fun s4 => Φ s4)))))))))) ∧ ((σ.1 4 x2.toNatClampNeg) = 5 → (vp_in x2 24 ∧ (∀ z7 : Int32, z7 = (((σ.1 18 6) &&& (((1 : Int32) <<< (x1 &&& 31)) ^^^ (-1))) &&& ((σ.1 16 x2.toNatClampNeg) ^^^ (-1))) → hv_CI l (hv_e1 e) 1 m_X2_surestOf [.ref 1, .int (σ.1 18 7), .int z7] σ (fun v9 s8 => hv_CV l (hv_e1 e) 1 m_X5_send [.ref 18, .int x1, .int v9, .int 10] s8 (fun s11 => Φ s11)))))))) : hv_CV l (hv_e1 e) 2 m_X5_layHand [.ref 18, .int x1, .int x2] σ Φ := by
  refine hv_entV (by decide) (Nat.le_of_ble_eq_true rfl) ?_
  show hv_TW l (hv_e1 e) (hv_rm 2) 0 0 m_X5_layHand hv_no (hv_ZV (hv_e1 e) Φ) 0 [(0, .ref 18), (1, .int x1), (2, .int x2)] [] σ
  refine T_aload_n dX5_layHand_0 rfl 0 rfl ?_
  refine T_get (v := .ref 1) dX5_layHand_1 fl_X5_18 hp_18 hs_18 rfl rfl ?_
  refine T_get (v := .ref 4) dX5_layHand_4 fl_X5_72 hp_1 hs_1 rfl rfl ?_
  refine T_iload_n dX5_layHand_7 rfl 2 rfl ?_
  refine T_iald dX5_layHand_8 hp_4 hs_4 h.1 ?_
  refine T_iconst (v := 5) dX5_layHand_9 (by decide) ?_
  refine T_icmp_ne (tgt := 56) dX5_layHand_10 (by decide) (fun c14 => ?_) (fun c14 => ?_)
  · refine T_aload_n dX5_layHand_56 rfl 0 rfl ?_
    refine T_iload_n dX5_layHand_57 rfl 1 rfl ?_
    refine T_aload_n dX5_layHand_58 rfl 0 rfl ?_
    refine T_get (v := .ref 1) dX5_layHand_59 fl_X5_18 hp_18 hs_18 rfl rfl ?_
    refine T_get (v := .ref 6) dX5_layHand_62 fl_X5_87 hp_1 hs_1 rfl rfl ?_
    refine T_iload_n dX5_layHand_65 rfl 2 rfl ?_
    refine T_iald dX5_layHand_66 hp_6 hs_6 (h.2.1 c14).1 ?_
    refine T_aload_n dX5_layHand_67 rfl 0 rfl ?_
    refine T_get (v := .ref 1) dX5_layHand_68 fl_X5_18 hp_18 hs_18 rfl rfl ?_
    refine T_get (v := .ref 8) dX5_layHand_71 fl_X5_90 hp_1 hs_1 rfl rfl ?_
    refine T_iload_n dX5_layHand_74 rfl 2 rfl ?_
    refine T_iald dX5_layHand_75 hp_8 hs_8 (h.2.1 c14).2.1 ?_
    refine T_VV (As := [.int x1, .int (σ.1 6 x2.toNatClampNeg), .int (σ.1 8 x2.toNatClampNeg)]) dX5_layHand_76 mv_X5_60 hp_18 hs_18 rfl (Nat.le_of_ble_eq_true rfl) (hv_ok1 rfl) rfl ((h.2.1 c14).2.2) (fun s1 h3 => ?_)
    refine T_aload_n dX5_layHand_79 rfl 0 rfl ?_
    refine T_get (v := .ref 1) dX5_layHand_80 fl_X5_18 hp_18 hs_18 rfl rfl ?_
    refine T_get (v := .ref 4) dX5_layHand_83 fl_X5_72 hp_1 hs_1 rfl rfl ?_
    refine T_iload_n dX5_layHand_86 rfl 2 rfl ?_
    refine T_iald dX5_layHand_87 hp_4 hs_4 h3.1 ?_
    refine T_iconst (v := 4) dX5_layHand_88 (by decide) ?_
    refine T_icmp_ne (tgt := 118) dX5_layHand_89 (by decide) (fun c15 => ?_) (fun c15 => ?_)
    · exact T_vret dX5_layHand_118 rfl (h3.2.1 c15)
    · refine T_aload_n dX5_layHand_92 rfl 0 rfl ?_
      refine T_iload_n dX5_layHand_93 rfl 1 rfl ?_
      refine T_aload_n dX5_layHand_94 rfl 0 rfl ?_
      refine T_get (v := .ref 1) dX5_layHand_95 fl_X5_18 hp_18 hs_18 rfl rfl ?_
      refine T_get (v := .ref 7) dX5_layHand_98 fl_X5_91 hp_1 hs_1 rfl rfl ?_
      refine T_iload_n dX5_layHand_101 rfl 2 rfl ?_
      refine T_iald dX5_layHand_102 hp_7 hs_7 (h3.2.2 c15).1 ?_
      refine T_bipush (v := 10) dX5_layHand_103 (by decide) ?_
      refine T_aload_n dX5_layHand_105 rfl 0 rfl ?_
      refine T_get (v := .ref 1) dX5_layHand_106 fl_X5_18 hp_18 hs_18 rfl rfl ?_
      refine T_get (v := .ref 8) dX5_layHand_109 fl_X5_90 hp_1 hs_1 rfl rfl ?_
      refine T_iload_n dX5_layHand_112 rfl 2 rfl ?_
      refine T_iald dX5_layHand_113 hp_8 hs_8 (h3.2.2 c15).2.1 ?_
      refine T_isub dX5_layHand_114 ?_
      refine T_VV (As := [.int x1, .int (s1.1 7 x2.toNatClampNeg), .int (10 - (s1.1 8 x2.toNatClampNeg))]) dX5_layHand_115 mv_X5_60 hp_18 hs_18 rfl (Nat.le_of_ble_eq_true rfl) (hv_ok1 rfl) rfl ((h3.2.2 c15).2.2) (fun s4 h6 => ?_)
      exact T_vret dX5_layHand_118 rfl h6
  · refine T_aload_n dX5_layHand_13 rfl 0 rfl ?_
    refine T_get (v := .int (σ.1 18 6)) dX5_layHand_14 fl_X5_45 hp_18 hs_18 rfl rfl ?_
    refine T_iconst (v := 1) dX5_layHand_17 (by decide) ?_
    refine T_iload_n dX5_layHand_18 rfl 1 rfl ?_
    refine T_ishl dX5_layHand_19 ?_
    refine T_iconst (v := (-1)) dX5_layHand_20 (by decide) ?_
    refine T_ixor dX5_layHand_21 ?_
    refine T_iand dX5_layHand_22 ?_
    refine T_aload_n dX5_layHand_23 rfl 0 rfl ?_
    refine T_get (v := .ref 15) dX5_layHand_24 fl_X5_22 hp_18 hs_18 rfl rfl ?_
    refine T_get (v := .ref 16) dX5_layHand_27 fl_X5_78 hp_15 hs_15 rfl rfl ?_
    refine T_iload_n dX5_layHand_30 rfl 2 rfl ?_
    refine T_iald dX5_layHand_31 hp_16 hs_16 (h.2.2 c14).1 ?_
    refine T_iconst (v := (-1)) dX5_layHand_32 (by decide) ?_
    refine T_ixor dX5_layHand_33 ?_
    refine T_iand dX5_layHand_34 ?_
    refine T_topi (fun z7 ez7 => ?_)
    refine T_istore_n dX5_layHand_35 rfl (by decide) rfl ?_
    refine T_aload_n dX5_layHand_36 rfl 1 rfl ?_
    refine T_iload_n dX5_layHand_37 rfl 2 rfl ?_
    refine T_aload_n dX5_layHand_38 rfl 1 rfl ?_
    refine T_get (v := .ref 1) dX5_layHand_39 fl_X5_18 hp_18 hs_18 rfl rfl ?_
    refine T_aload_n dX5_layHand_42 rfl 1 rfl ?_
    refine T_get (v := .int (σ.1 18 7)) dX5_layHand_43 fl_X5_37 hp_18 hs_18 rfl rfl ?_
    refine T_iload_n dX5_layHand_46 rfl 0 rfl ?_
    refine T_VI (As := [.int (σ.1 18 7), .int z7]) dX5_layHand_47 mv_X5_83 hp_1 hs_1 rfl (Nat.le_of_ble_eq_true rfl) (hv_ok1 rfl) rfl ((h.2.2 c14).2 z7 ez7) (fun v9 s8 h10 => ?_)
    refine T_bipush (v := 10) dX5_layHand_50 (by decide) ?_
    refine T_VV (As := [.int x1, .int v9, .int 10]) dX5_layHand_52 mv_X5_60 hp_18 hs_18 rfl (Nat.le_of_ble_eq_true rfl) (hv_ok1 rfl) rfl h10 (fun s11 h13 => ?_)
    exact T_vret dX5_layHand_55 rfl h13

def L_X5_layFirm_57 (l : Launch) (e : hv_Ev)  (Φ : hv_S → Prop) (x2 : Int32) (x3 : Int32) (x4 : Int32) (x5 : Int32) (x6 : Int32) (σ : hv_S) : Prop := hv_TW l (hv_e1 e) (hv_rm 3) 0 0 m_X5_layFirm hv_no (hv_ZV (hv_e1 e) Φ) 57 [(0, .ref 18), (2, .int x2), (3, .int x3), (4, .int x4), (5, .int x5), (6, .int x6)] [] σ
set_option maxHeartbeats 4000000 in
set_option maxRecDepth 100000 in
theorem B_X5_layFirm_57 {l : Launch} {e : hv_Ev}  (x2 : Int32) (x3 : Int32) (x4 : Int32) (x5 : Int32) (x6 : Int32) {σ : hv_S} {Φ : hv_S → Prop} (h : (((σ.1 1 7) ≤ x6 → Φ σ) ∧ (¬ (σ.1 1 7) ≤ x6 → ((x6 ≠ x4 → ((((x3 >>> (x6 &&& 31)) &&& 1) ≠ 0 → hv_CV l (hv_e1 e) 0 m_X5_stay [.ref 18, .int x6, .int 10] σ (fun s7 => L_X5_layFirm_57 l e Φ x2 x3 x4 x5 (x6 + 1) s7)) ∧ (((x3 >>> (x6 &&& 31)) &&& 1) = 0 → hv_CI l (hv_e1 e) 0 m_X2_isSelf [.ref 1, .int ((σ.1 18 8) + x6), .int x2] σ (fun v11 s10 => ((v11 = 0 → (vp_in ((σ.1 18 8) + x6) 24 ∧ (((s10.1 4 (((σ.1 18 8) + x6).toNatClampNeg)) ≠ 3 → hv_CV l (hv_e1 e) 2 m_X5_layHand [.ref 18, .int x6, .int ((σ.1 18 8) + x6)] s10 (fun s13 => L_X5_layFirm_57 l e Φ x2 x3 x4 x5 (x6 + 1) s13)) ∧ ((s10.1 4 (((σ.1 18 8) + x6).toNatClampNeg)) = 3 → L_X5_layFirm_57 l e Φ x2 x3 x4 x5 (x6 + 1) (hv_ui s10 18 5 ((s10.1 18 5) ||| ((1 : Int32) <<< (x6 &&& 31)))))))) ∧ (¬ v11 = 0 → hv_CV l (hv_e1 e) 0 m_X5_stay [.ref 18, .int x6, .int 10] s10 (fun s16 => L_X5_layFirm_57 l e Φ x2 x3 x4 x5 (x6 + 1) s16))))))) ∧ (x6 = x4 → hv_CV l (hv_e1 e) 1 m_X5_send [.ref 18, .int x6, .int x5, .int 10] σ (fun s19 => L_X5_layFirm_57 l e Φ x2 x3 x4 x5 (x6 + 1) s19)))))) : L_X5_layFirm_57 l e Φ x2 x3 x4 x5 x6 σ := by
  show hv_TW l (hv_e1 e) (hv_rm 3) 0 0 m_X5_layFirm hv_no (hv_ZV (hv_e1 e) Φ) 57 [(0, .ref 18), (2, .int x2), (3, .int x3), (4, .int x4), (5, .int x5), (6, .int x6)] [] σ
  refine T_iload dX5_layFirm_57 5 rfl ?_
  refine T_aload_n dX5_layFirm_59 rfl 0 rfl ?_
  refine T_get (v := .ref 1) dX5_layFirm_60 fl_X5_18 hp_18 hs_18 rfl rfl ?_
  refine T_get (v := .int (σ.1 1 7)) dX5_layFirm_63 fl_X5_40 hp_1 hs_1 rfl rfl ?_
  refine T_icmp_ge (tgt := 175) dX5_layFirm_66 (by decide) (fun c22 => ?_) (fun c22 => ?_)
  · exact T_vret dX5_layFirm_175 rfl (h.1 c22)
  · refine T_aload_n dX5_layFirm_69 rfl 0 rfl ?_
    refine T_get (v := .int (σ.1 18 8)) dX5_layFirm_70 fl_X5_33 hp_18 hs_18 rfl rfl ?_
    refine T_iload dX5_layFirm_73 5 rfl ?_
    refine T_iadd dX5_layFirm_75 ?_
    refine T_istore dX5_layFirm_76 (by decide) rfl ?_
    refine T_iload dX5_layFirm_78 6 rfl ?_
    refine T_iload dX5_layFirm_80 4 rfl ?_
    refine T_icmp_ne (tgt := 98) dX5_layFirm_82 (by decide) (fun c23 => ?_) (fun c23 => ?_)
    · refine T_iload_n dX5_layFirm_98 rfl 3 rfl ?_
      refine T_iload dX5_layFirm_99 6 rfl ?_
      refine T_ishr dX5_layFirm_101 ?_
      refine T_iconst (v := 1) dX5_layFirm_102 (by decide) ?_
      refine T_iand dX5_layFirm_103 ?_
      refine T_if_ne (tgt := 120) dX5_layFirm_104 (by decide) (fun c24 => ?_) (fun c24 => ?_)
      · refine T_aload_n dX5_layFirm_120 rfl 1 rfl ?_
        refine T_iload dX5_layFirm_121 6 rfl ?_
        refine T_bipush (v := 10) dX5_layFirm_123 (by decide) ?_
        refine T_VV (As := [.int x6, .int 10]) dX5_layFirm_125 mv_X5_68 hp_18 hs_18 rfl (Nat.le_of_ble_eq_true rfl) (hv_ok1 rfl) rfl (((h.2 c22).1 c23).1 c24) (fun s7 h9 => ?_)
        refine T_goto (tgt := 169) dX5_layFirm_128 (by decide) ?_
        refine T_iinc (v := (x6 + 1)) dX5_layFirm_169 6 rfl rfl (by decide) rfl ?_
        refine T_goto (tgt := 57) dX5_layFirm_172 (by decide) ?_
        exact T_sub [2, 3, 4, 5, 6, 0] rfl h9
      · refine T_aload_n dX5_layFirm_107 rfl 1 rfl ?_
        refine T_get (v := .ref 1) dX5_layFirm_108 fl_X5_18 hp_18 hs_18 rfl rfl ?_
        refine T_iload dX5_layFirm_111 0 rfl ?_
        refine T_iload_n dX5_layFirm_113 rfl 2 rfl ?_
        refine T_VI (As := [.int ((σ.1 18 8) + x6), .int x2]) dX5_layFirm_114 mv_X5_64 hp_1 hs_1 rfl (Nat.le_of_ble_eq_true rfl) (hv_ok1 rfl) rfl (((h.2 c22).1 c23).2 c24) (fun v11 s10 h12 => ?_)
        refine T_if_eq (tgt := 131) dX5_layFirm_117 (by decide) (fun c25 => ?_) (fun c25 => ?_)
        · refine T_aload_n dX5_layFirm_131 rfl 1 rfl ?_
          refine T_get (v := .ref 1) dX5_layFirm_132 fl_X5_18 hp_18 hs_18 rfl rfl ?_
          refine T_get (v := .ref 4) dX5_layFirm_135 fl_X5_72 hp_1 hs_1 rfl rfl ?_
          refine T_iload dX5_layFirm_138 0 rfl ?_
          refine T_iald dX5_layFirm_140 hp_4 hs_4 (h12.1 c25).1 ?_
          refine T_iconst (v := 3) dX5_layFirm_141 (by decide) ?_
          refine T_icmp_ne (tgt := 161) dX5_layFirm_142 (by decide) (fun c26 => ?_) (fun c26 => ?_)
          · refine T_aload_n dX5_layFirm_161 rfl 1 rfl ?_
            refine T_iload dX5_layFirm_162 6 rfl ?_
            refine T_iload dX5_layFirm_164 0 rfl ?_
            refine T_VV (As := [.int x6, .int ((σ.1 18 8) + x6)]) dX5_layFirm_166 mv_X5_75 hp_18 hs_18 rfl (Nat.le_of_ble_eq_true rfl) (hv_ok1 rfl) rfl ((h12.1 c25).2.1 c26) (fun s13 h15 => ?_)
            refine T_iinc (v := (x6 + 1)) dX5_layFirm_169 6 rfl rfl (by decide) rfl ?_
            refine T_goto (tgt := 57) dX5_layFirm_172 (by decide) ?_
            exact T_sub [2, 3, 4, 5, 6, 0] rfl h15
          · refine T_aload_n dX5_layFirm_145 rfl 1 rfl ?_
            refine T_dup dX5_layFirm_146 rfl ?_
            refine T_get (v := .int (s10.1 18 5)) dX5_layFirm_147 fl_X5_51 hp_18 hs_18 rfl rfl ?_
            refine T_iconst (v := 1) dX5_layFirm_150 (by decide) ?_
            refine T_iload dX5_layFirm_151 6 rfl ?_
            refine T_ishl dX5_layFirm_153 ?_
            refine T_ior dX5_layFirm_154 ?_
            refine T_puti dX5_layFirm_155 fl_X5_51 pf_X5_5 hp_18 hs_18 rfl ?_
            refine T_goto (tgt := 169) dX5_layFirm_158 (by decide) ?_
            refine T_iinc (v := (x6 + 1)) dX5_layFirm_169 6 rfl rfl (by decide) rfl ?_
            refine T_goto (tgt := 57) dX5_layFirm_172 (by decide) ?_
            exact T_sub [2, 3, 4, 5, 6, 0] rfl ((h12.1 c25).2.2 c26)
        · refine T_aload_n dX5_layFirm_120 rfl 1 rfl ?_
          refine T_iload dX5_layFirm_121 6 rfl ?_
          refine T_bipush (v := 10) dX5_layFirm_123 (by decide) ?_
          refine T_VV (As := [.int x6, .int 10]) dX5_layFirm_125 mv_X5_68 hp_18 hs_18 rfl (Nat.le_of_ble_eq_true rfl) (hv_ok1 rfl) rfl (h12.2 c25) (fun s16 h18 => ?_)
          refine T_goto (tgt := 169) dX5_layFirm_128 (by decide) ?_
          refine T_iinc (v := (x6 + 1)) dX5_layFirm_169 6 rfl rfl (by decide) rfl ?_
          refine T_goto (tgt := 57) dX5_layFirm_172 (by decide) ?_
          exact T_sub [2, 3, 4, 5, 6, 0] rfl h18
    · refine T_aload_n dX5_layFirm_85 rfl 1 rfl ?_
      refine T_iload dX5_layFirm_86 6 rfl ?_
      refine T_iload dX5_layFirm_88 5 rfl ?_
      refine T_bipush (v := 10) dX5_layFirm_90 (by decide) ?_
      refine T_VV (As := [.int x6, .int x5, .int 10]) dX5_layFirm_92 mv_X5_60 hp_18 hs_18 rfl (Nat.le_of_ble_eq_true rfl) (hv_ok1 rfl) rfl ((h.2 c22).2 c23) (fun s19 h21 => ?_)
      refine T_goto (tgt := 169) dX5_layFirm_95 (by decide) ?_
      refine T_iinc (v := (x6 + 1)) dX5_layFirm_169 6 rfl rfl (by decide) rfl ?_
      refine T_goto (tgt := 57) dX5_layFirm_172 (by decide) ?_
      exact T_sub [2, 3, 4, 5, 6, 0] rfl h21
set_option maxHeartbeats 4000000 in
set_option maxRecDepth 100000 in
theorem B_X5_layFirm {l : Launch} {e : hv_Ev}  (x1 : Int32) (x2 : Int32) (x3 : Int32) (x4 : Int32) (x5 : Int32) {σ : hv_S} {Φ : hv_S → Prop} (h : hv_CV l (hv_e1 e) 0 m_J7_fill_53178 [.ref 19, .int 0] (hv_ui (hv_ui (hv_ui (hv_ui (hv_ui σ 18 8 (x1 * 8)) 18 7 x1) 18 6 (((1 : Int32) <<< ((σ.1 1 7) &&& 31)) - 1)) 18 4 0) 18 5 0) (fun s1 => hv_CV l (hv_e1 e) 0 m_J7_fill_53178 [.ref 20, .int 0] s1 (fun s4 => L_X5_layFirm_57 l e Φ x2 x3 x4 x5 0 s4))) : hv_CV l (hv_e1 e) 3 m_X5_layFirm [.ref 18, .int x1, .int x2, .int x3, .int x4, .int x5] σ Φ := by
  refine hv_entV (by decide) (Nat.le_of_ble_eq_true rfl) ?_
  show hv_TW l (hv_e1 e) (hv_rm 3) 0 0 m_X5_layFirm hv_no (hv_ZV (hv_e1 e) Φ) 0 [(0, .ref 18), (1, .int x1), (2, .int x2), (3, .int x3), (4, .int x4), (5, .int x5)] [] σ
  refine T_aload_n dX5_layFirm_0 rfl 0 rfl ?_
  refine T_iload_n dX5_layFirm_1 rfl 1 rfl ?_
  refine T_bipush (v := 8) dX5_layFirm_2 (by decide) ?_
  refine T_imul dX5_layFirm_4 ?_
  refine T_puti dX5_layFirm_5 fl_X5_33 pf_X5_8 hp_18 hs_18 rfl ?_
  refine T_aload_n dX5_layFirm_8 rfl 0 rfl ?_
  refine T_iload_n dX5_layFirm_9 rfl 1 rfl ?_
  refine T_puti dX5_layFirm_10 fl_X5_37 pf_X5_7 hp_18 hs_18 rfl ?_
  refine T_aload_n dX5_layFirm_13 rfl 0 rfl ?_
  refine T_iconst (v := 1) dX5_layFirm_14 (by decide) ?_
  refine T_aload_n dX5_layFirm_15 rfl 0 rfl ?_
  refine T_get (v := .ref 1) dX5_layFirm_16 fl_X5_18 hp_18 hs_18 rfl rfl ?_
  refine T_get (v := .int (σ.1 1 7)) dX5_layFirm_19 fl_X5_40 hp_1 hs_1 rfl rfl ?_
  refine T_ishl dX5_layFirm_22 ?_
  refine T_iconst (v := 1) dX5_layFirm_23 (by decide) ?_
  refine T_isub dX5_layFirm_24 ?_
  refine T_puti dX5_layFirm_25 fl_X5_45 pf_X5_6 hp_18 hs_18 rfl ?_
  refine T_aload_n dX5_layFirm_28 rfl 0 rfl ?_
  refine T_iconst (v := 0) dX5_layFirm_29 (by decide) ?_
  refine T_puti dX5_layFirm_30 fl_X5_48 pf_X5_4 hp_18 hs_18 rfl ?_
  refine T_aload_n dX5_layFirm_33 rfl 0 rfl ?_
  refine T_iconst (v := 0) dX5_layFirm_34 (by decide) ?_
  refine T_puti dX5_layFirm_35 fl_X5_51 pf_X5_5 hp_18 hs_18 rfl ?_
  refine T_aload_n dX5_layFirm_38 rfl 0 rfl ?_
  refine T_get (v := .ref 19) dX5_layFirm_39 fl_X5_9 hp_18 hs_18 rfl rfl ?_
  refine T_iconst (v := 0) dX5_layFirm_42 (by decide) ?_
  refine T_SV (As := [.ref 19, .int 0]) dX5_layFirm_43 ms_X5_54 rfl (Nat.le_of_ble_eq_true rfl) (hv_ok1 rfl) rfl h (fun s1 h3 => ?_)
  refine T_aload_n dX5_layFirm_46 rfl 0 rfl ?_
  refine T_get (v := .ref 20) dX5_layFirm_47 fl_X5_15 hp_18 hs_18 rfl rfl ?_
  refine T_iconst (v := 0) dX5_layFirm_50 (by decide) ?_
  refine T_SV (As := [.ref 20, .int 0]) dX5_layFirm_51 ms_X5_54 rfl (Nat.le_of_ble_eq_true rfl) (hv_ok1 rfl) rfl h3 (fun s4 h6 => ?_)
  refine T_iconst (v := 0) dX5_layFirm_54 (by decide) ?_
  refine T_istore dX5_layFirm_55 (by decide) rfl ?_
  exact T_sub [1, 3, 4, 5, 6, 0] rfl h6

set_option maxHeartbeats 4000000 in
set_option maxRecDepth 100000 in
theorem B_X5_lay {l : Launch} {e : hv_Ev}  (x1 : Int32) (x2 : Int32) (x3 : Int32) (x4 : Int32) (x5 : Int32) {σ : hv_S} {Φ : hv_S → Prop} (h : hv_CV l (hv_e1 e) 3 m_X5_layFirm [.ref 18, .int x1, .int x2, .int x3, .int x4, .int x5] σ (fun s1 => hv_CV l (hv_e1 e) 3 m_X5_layOrders [.ref 18] s1 (fun s4 => Φ s4))) : hv_CV l (hv_e1 e) 4 m_X5_lay [.ref 18, .int x1, .int x2, .int x3, .int x4, .int x5] σ Φ := by
  refine hv_entV (by decide) (Nat.le_of_ble_eq_true rfl) ?_
  show hv_TW l (hv_e1 e) (hv_rm 4) 0 0 m_X5_lay hv_no (hv_ZV (hv_e1 e) Φ) 0 [(0, .ref 18), (1, .int x1), (2, .int x2), (3, .int x3), (4, .int x4), (5, .int x5)] [] σ
  refine T_aload_n dX5_lay_0 rfl 0 rfl ?_
  refine T_iload_n dX5_lay_1 rfl 1 rfl ?_
  refine T_iload_n dX5_lay_2 rfl 2 rfl ?_
  refine T_iload_n dX5_lay_3 rfl 3 rfl ?_
  refine T_iload dX5_lay_4 4 rfl ?_
  refine T_iload dX5_lay_6 5 rfl ?_
  refine T_VV (As := [.int x1, .int x2, .int x3, .int x4, .int x5]) dX5_lay_8 mv_X5_26 hp_18 hs_18 rfl (Nat.le_of_ble_eq_true rfl) (hv_ok1 rfl) rfl h (fun s1 h3 => ?_)
  refine T_aload_n dX5_lay_11 rfl 0 rfl ?_
  refine T_VV (As := []) dX5_lay_12 mv_X5_30 hp_18 hs_18 rfl (Nat.le_of_ble_eq_true rfl) (hv_ok1 rfl) rfl h3 (fun s4 h6 => ?_)
  exact T_vret dX5_lay_15 rfl h6
