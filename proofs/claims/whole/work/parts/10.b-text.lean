-- printed by wip/gen/p10c.py: HallText
theorem dX1_append_0 : decode cX1_append 0 = .ok (.aload_n 0, 1) := by decide +kernel
theorem dX1_append_1 : decode cX1_append 1 = .ok (.getfield 20, 3) := by decide +kernel
theorem dX1_append_4 : decode cX1_append 4 = .ok (.aload_n 0, 1) := by decide +kernel
theorem dX1_append_5 : decode cX1_append 5 = .ok (.getfield 9, 3) := by decide +kernel
theorem dX1_append_8 : decode cX1_append 8 = .ok (.arraylength, 1) := by decide +kernel
theorem dX1_append_9 : decode cX1_append 9 = .ok (.if_icmp .ge 23, 3) := by decide +kernel
theorem dX1_append_12 : decode cX1_append 12 = .ok (.aload_n 0, 1) := by decide +kernel
theorem dX1_append_13 : decode cX1_append 13 = .ok (.getfield 9, 3) := by decide +kernel
theorem dX1_append_16 : decode cX1_append 16 = .ok (.aload_n 0, 1) := by decide +kernel
theorem dX1_append_17 : decode cX1_append 17 = .ok (.getfield 20, 3) := by decide +kernel
theorem dX1_append_20 : decode cX1_append 20 = .ok (.iload_n 1, 1) := by decide +kernel
theorem dX1_append_21 : decode cX1_append 21 = .ok (.iastore, 1) := by decide +kernel
theorem dX1_append_22 : decode cX1_append 22 = .ok (.aload_n 0, 1) := by decide +kernel
theorem dX1_append_23 : decode cX1_append 23 = .ok (.dup, 1) := by decide +kernel
theorem dX1_append_24 : decode cX1_append 24 = .ok (.getfield 20, 3) := by decide +kernel
theorem dX1_append_27 : decode cX1_append 27 = .ok (.iconst 1, 1) := by decide +kernel
theorem dX1_append_28 : decode cX1_append 28 = .ok (.iadd, 1) := by decide +kernel
theorem dX1_append_29 : decode cX1_append 29 = .ok (.putfield 20, 3) := by decide +kernel
theorem dX1_append_32 : decode cX1_append 32 = .ok (.return_, 1) := by decide +kernel
theorem dX1_seen_0 : decode cX1_seen 0 = .ok (.aload_n 0, 1) := by decide +kernel
theorem dX1_seen_1 : decode cX1_seen 1 = .ok (.getfield 24, 3) := by decide +kernel
theorem dX1_seen_4 : decode cX1_seen 4 = .ok (.aload_n 0, 1) := by decide +kernel
theorem dX1_seen_5 : decode cX1_seen 5 = .ok (.getfield 20, 3) := by decide +kernel
theorem dX1_seen_8 : decode cX1_seen 8 = .ok (.if_icmp .ge 15, 3) := by decide +kernel
theorem dX1_seen_11 : decode cX1_seen 11 = .ok (.aload_n 0, 1) := by decide +kernel
theorem dX1_seen_12 : decode cX1_seen 12 = .ok (.getfield 9, 3) := by decide +kernel
theorem dX1_seen_15 : decode cX1_seen 15 = .ok (.aload_n 0, 1) := by decide +kernel
theorem dX1_seen_16 : decode cX1_seen 16 = .ok (.getfield 24, 3) := by decide +kernel
theorem dX1_seen_19 : decode cX1_seen 19 = .ok (.iaload, 1) := by decide +kernel
theorem dX1_seen_20 : decode cX1_seen 20 = .ok (.goto 4, 3) := by decide +kernel
theorem dX1_seen_23 : decode cX1_seen 23 = .ok (.iconst (-1), 1) := by decide +kernel
theorem dX1_seen_24 : decode cX1_seen 24 = .ok (.ireturn, 1) := by decide +kernel
theorem dX1_word_0 : decode cX1_word 0 = .ok (.iconst 0, 1) := by decide +kernel
theorem dX1_word_1 : decode cX1_word 1 = .ok (.istore_n 2, 1) := by decide +kernel
theorem dX1_word_2 : decode cX1_word 2 = .ok (.iload_n 2, 1) := by decide +kernel
theorem dX1_word_3 : decode cX1_word 3 = .ok (.aload_n 1, 1) := by decide +kernel
theorem dX1_word_4 : decode cX1_word 4 = .ok (.invokevirtual 69, 3) := by decide +kernel
theorem dX1_word_7 : decode cX1_word 7 = .ok (.if_icmp .ge 33, 3) := by decide +kernel
theorem dX1_word_10 : decode cX1_word 10 = .ok (.aload_n 0, 1) := by decide +kernel
theorem dX1_word_11 : decode cX1_word 11 = .ok (.invokevirtual 34, 3) := by decide +kernel
theorem dX1_word_14 : decode cX1_word 14 = .ok (.aload_n 1, 1) := by decide +kernel
theorem dX1_word_15 : decode cX1_word 15 = .ok (.iload_n 2, 1) := by decide +kernel
theorem dX1_word_16 : decode cX1_word 16 = .ok (.invokevirtual 74, 3) := by decide +kernel
theorem dX1_word_19 : decode cX1_word 19 = .ok (.if_icmp .eq 5, 3) := by decide +kernel
theorem dX1_word_22 : decode cX1_word 22 = .ok (.iconst 0, 1) := by decide +kernel
theorem dX1_word_23 : decode cX1_word 23 = .ok (.ireturn, 1) := by decide +kernel
theorem dX1_word_24 : decode cX1_word 24 = .ok (.aload_n 0, 1) := by decide +kernel
theorem dX1_word_25 : decode cX1_word 25 = .ok (.dup, 1) := by decide +kernel
theorem dX1_word_26 : decode cX1_word 26 = .ok (.getfield 24, 3) := by decide +kernel
theorem dX1_word_29 : decode cX1_word 29 = .ok (.iconst 1, 1) := by decide +kernel
theorem dX1_word_30 : decode cX1_word 30 = .ok (.iadd, 1) := by decide +kernel
theorem dX1_word_31 : decode cX1_word 31 = .ok (.putfield 24, 3) := by decide +kernel
theorem dX1_word_34 : decode cX1_word 34 = .ok (.iinc 2 1, 3) := by decide +kernel
theorem dX1_word_37 : decode cX1_word 37 = .ok (.goto (-35), 3) := by decide +kernel
theorem dX1_word_40 : decode cX1_word 40 = .ok (.iconst 1, 1) := by decide +kernel
theorem dX1_word_41 : decode cX1_word 41 = .ok (.ireturn, 1) := by decide +kernel
theorem dX1_figuresOf_0 : decode cX1_figuresOf 0 = .ok (.aload_n 0, 1) := by decide +kernel
theorem dX1_figuresOf_1 : decode cX1_figuresOf 1 = .ok (.iconst 0, 1) := by decide +kernel
theorem dX1_figuresOf_2 : decode cX1_figuresOf 2 = .ok (.putfield 53, 3) := by decide +kernel
theorem dX1_figuresOf_5 : decode cX1_figuresOf 5 = .ok (.aload_n 0, 1) := by decide +kernel
theorem dX1_figuresOf_6 : decode cX1_figuresOf 6 = .ok (.iconst 0, 1) := by decide +kernel
theorem dX1_figuresOf_7 : decode cX1_figuresOf 7 = .ok (.putfield 83, 3) := by decide +kernel
theorem dX1_figuresOf_10 : decode cX1_figuresOf 10 = .ok (.iconst 0, 1) := by decide +kernel
theorem dX1_figuresOf_11 : decode cX1_figuresOf 11 = .ok (.istore_n 1, 1) := by decide +kernel
theorem dX1_figuresOf_12 : decode cX1_figuresOf 12 = .ok (.iload_n 1, 1) := by decide +kernel
theorem dX1_figuresOf_13 : decode cX1_figuresOf 13 = .ok (.iconst 3, 1) := by decide +kernel
theorem dX1_figuresOf_14 : decode cX1_figuresOf 14 = .ok (.if_icmp .ge 65, 3) := by decide +kernel
theorem dX1_figuresOf_17 : decode cX1_figuresOf 17 = .ok (.aload_n 0, 1) := by decide +kernel
theorem dX1_figuresOf_18 : decode cX1_figuresOf 18 = .ok (.invokevirtual 34, 3) := by decide +kernel
theorem dX1_figuresOf_21 : decode cX1_figuresOf 21 = .ok (.istore_n 2, 1) := by decide +kernel
theorem dX1_figuresOf_22 : decode cX1_figuresOf 22 = .ok (.iload_n 2, 1) := by decide +kernel
theorem dX1_figuresOf_23 : decode cX1_figuresOf 23 = .ok (.bipush 48, 2) := by decide +kernel
theorem dX1_figuresOf_25 : decode cX1_figuresOf 25 = .ok (.if_icmp .lt 54, 3) := by decide +kernel
theorem dX1_figuresOf_28 : decode cX1_figuresOf 28 = .ok (.iload_n 2, 1) := by decide +kernel
theorem dX1_figuresOf_29 : decode cX1_figuresOf 29 = .ok (.bipush 57, 2) := by decide +kernel
theorem dX1_figuresOf_31 : decode cX1_figuresOf 31 = .ok (.if_icmp .le 6, 3) := by decide +kernel
theorem dX1_figuresOf_34 : decode cX1_figuresOf 34 = .ok (.goto 45, 3) := by decide +kernel
theorem dX1_figuresOf_37 : decode cX1_figuresOf 37 = .ok (.aload_n 0, 1) := by decide +kernel
theorem dX1_figuresOf_38 : decode cX1_figuresOf 38 = .ok (.aload_n 0, 1) := by decide +kernel
theorem dX1_figuresOf_39 : decode cX1_figuresOf 39 = .ok (.getfield 53, 3) := by decide +kernel
theorem dX1_figuresOf_42 : decode cX1_figuresOf 42 = .ok (.bipush 10, 2) := by decide +kernel
theorem dX1_figuresOf_44 : decode cX1_figuresOf 44 = .ok (.imul, 1) := by decide +kernel
theorem dX1_figuresOf_45 : decode cX1_figuresOf 45 = .ok (.iload_n 2, 1) := by decide +kernel
theorem dX1_figuresOf_46 : decode cX1_figuresOf 46 = .ok (.iadd, 1) := by decide +kernel
theorem dX1_figuresOf_47 : decode cX1_figuresOf 47 = .ok (.bipush 48, 2) := by decide +kernel
theorem dX1_figuresOf_49 : decode cX1_figuresOf 49 = .ok (.isub, 1) := by decide +kernel
theorem dX1_figuresOf_50 : decode cX1_figuresOf 50 = .ok (.putfield 53, 3) := by decide +kernel
theorem dX1_figuresOf_53 : decode cX1_figuresOf 53 = .ok (.aload_n 0, 1) := by decide +kernel
theorem dX1_figuresOf_54 : decode cX1_figuresOf 54 = .ok (.dup, 1) := by decide +kernel
theorem dX1_figuresOf_55 : decode cX1_figuresOf 55 = .ok (.getfield 83, 3) := by decide +kernel
theorem dX1_figuresOf_58 : decode cX1_figuresOf 58 = .ok (.iconst 1, 1) := by decide +kernel
theorem dX1_figuresOf_59 : decode cX1_figuresOf 59 = .ok (.iadd, 1) := by decide +kernel
theorem dX1_figuresOf_60 : decode cX1_figuresOf 60 = .ok (.putfield 83, 3) := by decide +kernel
theorem dX1_figuresOf_63 : decode cX1_figuresOf 63 = .ok (.aload_n 0, 1) := by decide +kernel
theorem dX1_figuresOf_64 : decode cX1_figuresOf 64 = .ok (.dup, 1) := by decide +kernel
theorem dX1_figuresOf_65 : decode cX1_figuresOf 65 = .ok (.getfield 24, 3) := by decide +kernel
theorem dX1_figuresOf_68 : decode cX1_figuresOf 68 = .ok (.iconst 1, 1) := by decide +kernel
theorem dX1_figuresOf_69 : decode cX1_figuresOf 69 = .ok (.iadd, 1) := by decide +kernel
theorem dX1_figuresOf_70 : decode cX1_figuresOf 70 = .ok (.putfield 24, 3) := by decide +kernel
theorem dX1_figuresOf_73 : decode cX1_figuresOf 73 = .ok (.iinc 1 1, 3) := by decide +kernel
theorem dX1_figuresOf_76 : decode cX1_figuresOf 76 = .ok (.goto (-64), 3) := by decide +kernel
theorem dX1_figuresOf_79 : decode cX1_figuresOf 79 = .ok (.aload_n 0, 1) := by decide +kernel
theorem dX1_figuresOf_80 : decode cX1_figuresOf 80 = .ok (.getfield 83, 3) := by decide +kernel
theorem dX1_figuresOf_83 : decode cX1_figuresOf 83 = .ok (.ifCond .le 7, 3) := by decide +kernel
theorem dX1_figuresOf_86 : decode cX1_figuresOf 86 = .ok (.iconst 1, 1) := by decide +kernel
theorem dX1_figuresOf_87 : decode cX1_figuresOf 87 = .ok (.goto 4, 3) := by decide +kernel
theorem dX1_figuresOf_90 : decode cX1_figuresOf 90 = .ok (.iconst 0, 1) := by decide +kernel
theorem dX1_figuresOf_91 : decode cX1_figuresOf 91 = .ok (.ireturn, 1) := by decide +kernel
theorem dX1_need_0 : decode cX1_need 0 = .ok (.aload_n 0, 1) := by decide +kernel
theorem dX1_need_1 : decode cX1_need 1 = .ok (.invokevirtual 50, 3) := by decide +kernel
theorem dX1_need_4 : decode cX1_need 4 = .ok (.ifCond .ne 5, 3) := by decide +kernel
theorem dX1_need_7 : decode cX1_need 7 = .ok (.iconst 0, 1) := by decide +kernel
theorem dX1_need_8 : decode cX1_need 8 = .ok (.ireturn, 1) := by decide +kernel
theorem dX1_need_9 : decode cX1_need 9 = .ok (.aload_n 0, 1) := by decide +kernel
theorem dX1_need_10 : decode cX1_need 10 = .ok (.getfield 16, 3) := by decide +kernel
theorem dX1_need_13 : decode cX1_need 13 = .ok (.aload_n 0, 1) := by decide +kernel
theorem dX1_need_14 : decode cX1_need 14 = .ok (.getfield 53, 3) := by decide +kernel
theorem dX1_need_17 : decode cX1_need 17 = .ok (.putfield 78, 3) := by decide +kernel
theorem dX1_need_20 : decode cX1_need 20 = .ok (.aload_n 0, 1) := by decide +kernel
theorem dX1_need_21 : decode cX1_need 21 = .ok (.ldc 81, 2) := by decide +kernel
theorem dX1_need_23 : decode cX1_need 23 = .ok (.invokevirtual 40, 3) := by decide +kernel
theorem dX1_need_26 : decode cX1_need 26 = .ok (.ifCond .eq 10, 3) := by decide +kernel
theorem dX1_need_29 : decode cX1_need 29 = .ok (.aload_n 0, 1) := by decide +kernel
theorem dX1_need_30 : decode cX1_need 30 = .ok (.invokevirtual 50, 3) := by decide +kernel
theorem dX1_need_33 : decode cX1_need 33 = .ok (.ifCond .ne 5, 3) := by decide +kernel
theorem dX1_need_36 : decode cX1_need 36 = .ok (.iconst 0, 1) := by decide +kernel
theorem dX1_need_37 : decode cX1_need 37 = .ok (.ireturn, 1) := by decide +kernel
theorem dX1_need_38 : decode cX1_need 38 = .ok (.aload_n 0, 1) := by decide +kernel
theorem dX1_need_39 : decode cX1_need 39 = .ok (.getfield 53, 3) := by decide +kernel
theorem dX1_need_42 : decode cX1_need 42 = .ok (.ifCond .ne 23, 3) := by decide +kernel
theorem dX1_need_45 : decode cX1_need 45 = .ok (.aload_n 0, 1) := by decide +kernel
theorem dX1_need_46 : decode cX1_need 46 = .ok (.getfield 83, 3) := by decide +kernel
theorem dX1_need_49 : decode cX1_need 49 = .ok (.iconst 3, 1) := by decide +kernel
theorem dX1_need_50 : decode cX1_need 50 = .ok (.if_icmp .ne 13, 3) := by decide +kernel
theorem dX1_need_53 : decode cX1_need 53 = .ok (.aload_n 0, 1) := by decide +kernel
theorem dX1_need_54 : decode cX1_need 54 = .ok (.dup, 1) := by decide +kernel
theorem dX1_need_55 : decode cX1_need 55 = .ok (.getfield 24, 3) := by decide +kernel
theorem dX1_need_58 : decode cX1_need 58 = .ok (.iconst 1, 1) := by decide +kernel
theorem dX1_need_59 : decode cX1_need 59 = .ok (.isub, 1) := by decide +kernel
theorem dX1_need_60 : decode cX1_need 60 = .ok (.putfield 24, 3) := by decide +kernel
theorem dX1_need_63 : decode cX1_need 63 = .ok (.iconst 0, 1) := by decide +kernel
theorem dX1_need_64 : decode cX1_need 64 = .ok (.ireturn, 1) := by decide +kernel
theorem dX1_need_65 : decode cX1_need 65 = .ok (.aload_n 0, 1) := by decide +kernel
theorem dX1_need_66 : decode cX1_need 66 = .ok (.getfield 16, 3) := by decide +kernel
theorem dX1_need_69 : decode cX1_need 69 = .ok (.aload_n 0, 1) := by decide +kernel
theorem dX1_need_70 : decode cX1_need 70 = .ok (.getfield 53, 3) := by decide +kernel
theorem dX1_need_73 : decode cX1_need 73 = .ok (.putfield 86, 3) := by decide +kernel
theorem dX1_need_76 : decode cX1_need 76 = .ok (.iconst 1, 1) := by decide +kernel
theorem dX1_need_77 : decode cX1_need 77 = .ok (.ireturn, 1) := by decide +kernel
theorem dX1_ring_0 : decode cX1_ring 0 = .ok (.aload_n 0, 1) := by decide +kernel
theorem dX1_ring_1 : decode cX1_ring 1 = .ok (.invokevirtual 34, 3) := by decide +kernel
theorem dX1_ring_4 : decode cX1_ring 4 = .ok (.istore_n 1, 1) := by decide +kernel
theorem dX1_ring_5 : decode cX1_ring 5 = .ok (.iload_n 1, 1) := by decide +kernel
theorem dX1_ring_6 : decode cX1_ring 6 = .ok (.bipush 108, 2) := by decide +kernel
theorem dX1_ring_8 : decode cX1_ring 8 = .ok (.if_icmp .eq 11, 3) := by decide +kernel
theorem dX1_ring_11 : decode cX1_ring 11 = .ok (.iload_n 1, 1) := by decide +kernel
theorem dX1_ring_12 : decode cX1_ring 12 = .ok (.bipush 98, 2) := by decide +kernel
theorem dX1_ring_14 : decode cX1_ring 14 = .ok (.if_icmp .eq 5, 3) := by decide +kernel
theorem dX1_ring_17 : decode cX1_ring 17 = .ok (.iconst 0, 1) := by decide +kernel
theorem dX1_ring_18 : decode cX1_ring 18 = .ok (.ireturn, 1) := by decide +kernel
theorem dX1_ring_19 : decode cX1_ring 19 = .ok (.aload_n 0, 1) := by decide +kernel
theorem dX1_ring_20 : decode cX1_ring 20 = .ok (.getfield 16, 3) := by decide +kernel
theorem dX1_ring_23 : decode cX1_ring 23 = .ok (.iload_n 1, 1) := by decide +kernel
theorem dX1_ring_24 : decode cX1_ring 24 = .ok (.bipush 98, 2) := by decide +kernel
theorem dX1_ring_26 : decode cX1_ring 26 = .ok (.if_icmp .ne 7, 3) := by decide +kernel
theorem dX1_ring_29 : decode cX1_ring 29 = .ok (.iconst 1, 1) := by decide +kernel
theorem dX1_ring_30 : decode cX1_ring 30 = .ok (.goto 4, 3) := by decide +kernel
theorem dX1_ring_33 : decode cX1_ring 33 = .ok (.iconst 0, 1) := by decide +kernel
theorem dX1_ring_34 : decode cX1_ring 34 = .ok (.putfield 89, 3) := by decide +kernel
theorem dX1_ring_37 : decode cX1_ring 37 = .ok (.aload_n 0, 1) := by decide +kernel
theorem dX1_ring_38 : decode cX1_ring 38 = .ok (.dup, 1) := by decide +kernel
theorem dX1_ring_39 : decode cX1_ring 39 = .ok (.getfield 24, 3) := by decide +kernel
theorem dX1_ring_42 : decode cX1_ring 42 = .ok (.iconst 1, 1) := by decide +kernel
theorem dX1_ring_43 : decode cX1_ring 43 = .ok (.iadd, 1) := by decide +kernel
theorem dX1_ring_44 : decode cX1_ring 44 = .ok (.putfield 24, 3) := by decide +kernel
theorem dX1_ring_47 : decode cX1_ring 47 = .ok (.iconst 1, 1) := by decide +kernel
theorem dX1_ring_48 : decode cX1_ring 48 = .ok (.ireturn, 1) := by decide +kernel
theorem dX1_signOf_0 : decode cX1_signOf 0 = .ok (.aload_n 0, 1) := by decide +kernel
theorem dX1_signOf_1 : decode cX1_signOf 1 = .ok (.invokevirtual 34, 3) := by decide +kernel
theorem dX1_signOf_4 : decode cX1_signOf 4 = .ok (.istore_n 2, 1) := by decide +kernel
theorem dX1_signOf_5 : decode cX1_signOf 5 = .ok (.iconst 0, 1) := by decide +kernel
theorem dX1_signOf_6 : decode cX1_signOf 6 = .ok (.istore_n 3, 1) := by decide +kernel
theorem dX1_signOf_7 : decode cX1_signOf 7 = .ok (.iload_n 3, 1) := by decide +kernel
theorem dX1_signOf_8 : decode cX1_signOf 8 = .ok (.aload_n 1, 1) := by decide +kernel
theorem dX1_signOf_9 : decode cX1_signOf 9 = .ok (.invokevirtual 69, 3) := by decide +kernel
theorem dX1_signOf_12 : decode cX1_signOf 12 = .ok (.if_icmp .ge 30, 3) := by decide +kernel
theorem dX1_signOf_15 : decode cX1_signOf 15 = .ok (.aload_n 1, 1) := by decide +kernel
theorem dX1_signOf_16 : decode cX1_signOf 16 = .ok (.iload_n 3, 1) := by decide +kernel
theorem dX1_signOf_17 : decode cX1_signOf 17 = .ok (.invokevirtual 74, 3) := by decide +kernel
theorem dX1_signOf_20 : decode cX1_signOf 20 = .ok (.iload_n 2, 1) := by decide +kernel
theorem dX1_signOf_21 : decode cX1_signOf 21 = .ok (.if_icmp .ne 15, 3) := by decide +kernel
theorem dX1_signOf_24 : decode cX1_signOf 24 = .ok (.aload_n 0, 1) := by decide +kernel
theorem dX1_signOf_25 : decode cX1_signOf 25 = .ok (.dup, 1) := by decide +kernel
theorem dX1_signOf_26 : decode cX1_signOf 26 = .ok (.getfield 24, 3) := by decide +kernel
theorem dX1_signOf_29 : decode cX1_signOf 29 = .ok (.iconst 1, 1) := by decide +kernel
theorem dX1_signOf_30 : decode cX1_signOf 30 = .ok (.iadd, 1) := by decide +kernel
theorem dX1_signOf_31 : decode cX1_signOf 31 = .ok (.putfield 24, 3) := by decide +kernel
theorem dX1_signOf_34 : decode cX1_signOf 34 = .ok (.iload_n 3, 1) := by decide +kernel
theorem dX1_signOf_35 : decode cX1_signOf 35 = .ok (.ireturn, 1) := by decide +kernel
theorem dX1_signOf_36 : decode cX1_signOf 36 = .ok (.iinc 3 1, 3) := by decide +kernel
theorem dX1_signOf_39 : decode cX1_signOf 39 = .ok (.goto (-32), 3) := by decide +kernel
theorem dX1_signOf_42 : decode cX1_signOf 42 = .ok (.iconst (-1), 1) := by decide +kernel
theorem dX1_signOf_43 : decode cX1_signOf 43 = .ok (.ireturn, 1) := by decide +kernel
theorem dX1_test_0 : decode cX1_test 0 = .ok (.aload_n 0, 1) := by decide +kernel
theorem dX1_test_1 : decode cX1_test 1 = .ok (.ldc 103, 2) := by decide +kernel
theorem dX1_test_3 : decode cX1_test 3 = .ok (.invokevirtual 105, 3) := by decide +kernel
theorem dX1_test_6 : decode cX1_test 6 = .ok (.istore_n 1, 1) := by decide +kernel
theorem dX1_test_7 : decode cX1_test 7 = .ok (.iload_n 1, 1) := by decide +kernel
theorem dX1_test_8 : decode cX1_test 8 = .ok (.ifCond .ge 5, 3) := by decide +kernel
theorem dX1_test_11 : decode cX1_test 11 = .ok (.iconst 0, 1) := by decide +kernel
theorem dX1_test_12 : decode cX1_test 12 = .ok (.ireturn, 1) := by decide +kernel
theorem dX1_test_13 : decode cX1_test 13 = .ok (.aload_n 0, 1) := by decide +kernel
theorem dX1_test_14 : decode cX1_test 14 = .ok (.ldc 109, 2) := by decide +kernel
theorem dX1_test_16 : decode cX1_test 16 = .ok (.invokevirtual 105, 3) := by decide +kernel
theorem dX1_test_19 : decode cX1_test 19 = .ok (.istore_n 2, 1) := by decide +kernel
theorem dX1_test_20 : decode cX1_test 20 = .ok (.iload_n 2, 1) := by decide +kernel
theorem dX1_test_21 : decode cX1_test 21 = .ok (.ifCond .lt 10, 3) := by decide +kernel
theorem dX1_test_24 : decode cX1_test 24 = .ok (.aload_n 0, 1) := by decide +kernel
theorem dX1_test_25 : decode cX1_test 25 = .ok (.invokevirtual 50, 3) := by decide +kernel
theorem dX1_test_28 : decode cX1_test 28 = .ok (.ifCond .ne 5, 3) := by decide +kernel
theorem dX1_test_31 : decode cX1_test 31 = .ok (.iconst 0, 1) := by decide +kernel
theorem dX1_test_32 : decode cX1_test 32 = .ok (.ireturn, 1) := by decide +kernel
theorem dX1_test_33 : decode cX1_test 33 = .ok (.aload_n 0, 1) := by decide +kernel
theorem dX1_test_34 : decode cX1_test 34 = .ok (.getfield 16, 3) := by decide +kernel
theorem dX1_test_37 : decode cX1_test 37 = .ok (.iload_n 1, 1) := by decide +kernel
theorem dX1_test_38 : decode cX1_test 38 = .ok (.iload_n 2, 1) := by decide +kernel
theorem dX1_test_39 : decode cX1_test 39 = .ok (.aload_n 0, 1) := by decide +kernel
theorem dX1_test_40 : decode cX1_test 40 = .ok (.getfield 53, 3) := by decide +kernel
theorem dX1_test_43 : decode cX1_test 43 = .ok (.invokestatic 111, 3) := by decide +kernel
theorem dX1_test_46 : decode cX1_test 46 = .ok (.invokevirtual 96, 3) := by decide +kernel
theorem dX1_test_49 : decode cX1_test 49 = .ok (.iconst 1, 1) := by decide +kernel
theorem dX1_test_50 : decode cX1_test 50 = .ok (.ireturn, 1) := by decide +kernel
theorem dX1_single_0 : decode cX1_single 0 = .ok (.aload_n 0, 1) := by decide +kernel
theorem dX1_single_1 : decode cX1_single 1 = .ok (.invokevirtual 34, 3) := by decide +kernel
theorem dX1_single_4 : decode cX1_single 4 = .ok (.istore_n 2, 1) := by decide +kernel
theorem dX1_single_5 : decode cX1_single 5 = .ok (.iload_n 2, 1) := by decide +kernel
theorem dX1_single_6 : decode cX1_single 6 = .ok (.bipush 33, 2) := by decide +kernel
theorem dX1_single_8 : decode cX1_single 8 = .ok (.if_icmp .eq 14, 3) := by decide +kernel
theorem dX1_single_11 : decode cX1_single 11 = .ok (.iload_n 2, 1) := by decide +kernel
theorem dX1_single_12 : decode cX1_single 12 = .ok (.bipush 40, 2) := by decide +kernel
theorem dX1_single_14 : decode cX1_single 14 = .ok (.if_icmp .eq 8, 3) := by decide +kernel
theorem dX1_single_17 : decode cX1_single 17 = .ok (.aload_n 0, 1) := by decide +kernel
theorem dX1_single_18 : decode cX1_single 18 = .ok (.invokevirtual 100, 3) := by decide +kernel
theorem dX1_single_21 : decode cX1_single 21 = .ok (.ireturn, 1) := by decide +kernel
theorem dX1_single_22 : decode cX1_single 22 = .ok (.iload_n 1, 1) := by decide +kernel
theorem dX1_single_23 : decode cX1_single 23 = .ok (.iconst 4, 1) := by decide +kernel
theorem dX1_single_24 : decode cX1_single 24 = .ok (.if_icmp .lt 5, 3) := by decide +kernel
theorem dX1_single_27 : decode cX1_single 27 = .ok (.iconst 0, 1) := by decide +kernel
theorem dX1_single_28 : decode cX1_single 28 = .ok (.ireturn, 1) := by decide +kernel
theorem dX1_single_29 : decode cX1_single 29 = .ok (.aload_n 0, 1) := by decide +kernel
theorem dX1_single_30 : decode cX1_single 30 = .ok (.dup, 1) := by decide +kernel
theorem dX1_single_31 : decode cX1_single 31 = .ok (.getfield 24, 3) := by decide +kernel
theorem dX1_single_34 : decode cX1_single 34 = .ok (.iconst 1, 1) := by decide +kernel
theorem dX1_single_35 : decode cX1_single 35 = .ok (.iadd, 1) := by decide +kernel
theorem dX1_single_36 : decode cX1_single 36 = .ok (.putfield 24, 3) := by decide +kernel
theorem dX1_single_39 : decode cX1_single 39 = .ok (.iload_n 2, 1) := by decide +kernel
theorem dX1_single_40 : decode cX1_single 40 = .ok (.bipush 33, 2) := by decide +kernel
theorem dX1_single_42 : decode cX1_single 42 = .ok (.if_icmp .ne 25, 3) := by decide +kernel
theorem dX1_single_45 : decode cX1_single 45 = .ok (.aload_n 0, 1) := by decide +kernel
theorem dX1_single_46 : decode cX1_single 46 = .ok (.iload_n 1, 1) := by decide +kernel
theorem dX1_single_47 : decode cX1_single 47 = .ok (.iconst 1, 1) := by decide +kernel
theorem dX1_single_48 : decode cX1_single 48 = .ok (.iadd, 1) := by decide +kernel
theorem dX1_single_49 : decode cX1_single 49 = .ok (.invokevirtual 93, 3) := by decide +kernel
theorem dX1_single_52 : decode cX1_single 52 = .ok (.ifCond .ne 5, 3) := by decide +kernel
theorem dX1_single_55 : decode cX1_single 55 = .ok (.iconst 0, 1) := by decide +kernel
theorem dX1_single_56 : decode cX1_single 56 = .ok (.ireturn, 1) := by decide +kernel
theorem dX1_single_57 : decode cX1_single 57 = .ok (.aload_n 0, 1) := by decide +kernel
theorem dX1_single_58 : decode cX1_single 58 = .ok (.getfield 16, 3) := by decide +kernel
theorem dX1_single_61 : decode cX1_single 61 = .ok (.iconst (-1), 1) := by decide +kernel
theorem dX1_single_62 : decode cX1_single 62 = .ok (.invokevirtual 96, 3) := by decide +kernel
theorem dX1_single_65 : decode cX1_single 65 = .ok (.iconst 1, 1) := by decide +kernel
theorem dX1_single_66 : decode cX1_single 66 = .ok (.ireturn, 1) := by decide +kernel
theorem dX1_single_67 : decode cX1_single 67 = .ok (.aload_n 0, 1) := by decide +kernel
theorem dX1_single_68 : decode cX1_single 68 = .ok (.iload_n 1, 1) := by decide +kernel
theorem dX1_single_69 : decode cX1_single 69 = .ok (.iconst 1, 1) := by decide +kernel
theorem dX1_single_70 : decode cX1_single 70 = .ok (.iadd, 1) := by decide +kernel
theorem dX1_single_71 : decode cX1_single 71 = .ok (.invokevirtual 44, 3) := by decide +kernel
theorem dX1_single_74 : decode cX1_single 74 = .ok (.ifCond .eq 12, 3) := by decide +kernel
theorem dX1_single_77 : decode cX1_single 77 = .ok (.aload_n 0, 1) := by decide +kernel
theorem dX1_single_78 : decode cX1_single 78 = .ok (.invokevirtual 34, 3) := by decide +kernel
theorem dX1_single_81 : decode cX1_single 81 = .ok (.bipush 41, 2) := by decide +kernel
theorem dX1_single_83 : decode cX1_single 83 = .ok (.if_icmp .eq 5, 3) := by decide +kernel
theorem dX1_single_86 : decode cX1_single 86 = .ok (.iconst 0, 1) := by decide +kernel
theorem dX1_single_87 : decode cX1_single 87 = .ok (.ireturn, 1) := by decide +kernel
theorem dX1_single_88 : decode cX1_single 88 = .ok (.aload_n 0, 1) := by decide +kernel
theorem dX1_single_89 : decode cX1_single 89 = .ok (.dup, 1) := by decide +kernel
theorem dX1_single_90 : decode cX1_single 90 = .ok (.getfield 24, 3) := by decide +kernel
theorem dX1_single_93 : decode cX1_single 93 = .ok (.iconst 1, 1) := by decide +kernel
theorem dX1_single_94 : decode cX1_single 94 = .ok (.iadd, 1) := by decide +kernel
theorem dX1_single_95 : decode cX1_single 95 = .ok (.putfield 24, 3) := by decide +kernel
theorem dX1_single_98 : decode cX1_single 98 = .ok (.iconst 1, 1) := by decide +kernel
theorem dX1_single_99 : decode cX1_single 99 = .ok (.ireturn, 1) := by decide +kernel
theorem dX1_either_0 : decode cX1_either 0 = .ok (.iconst 0, 1) := by decide +kernel
theorem dX1_either_1 : decode cX1_either 1 = .ok (.istore_n 2, 1) := by decide +kernel
theorem dX1_either_2 : decode cX1_either 2 = .ok (.iload_n 2, 1) := by decide +kernel
theorem dX1_either_3 : decode cX1_either 3 = .ok (.bipush 100, 2) := by decide +kernel
theorem dX1_either_5 : decode cX1_either 5 = .ok (.if_icmp .ge 105, 3) := by decide +kernel
theorem dX1_either_8 : decode cX1_either 8 = .ok (.aload_n 0, 1) := by decide +kernel
theorem dX1_either_9 : decode cX1_either 9 = .ok (.iload_n 1, 1) := by decide +kernel
theorem dX1_either_10 : decode cX1_either 10 = .ok (.invokevirtual 93, 3) := by decide +kernel
theorem dX1_either_13 : decode cX1_either 13 = .ok (.ifCond .ne 5, 3) := by decide +kernel
theorem dX1_either_16 : decode cX1_either 16 = .ok (.iconst 0, 1) := by decide +kernel
theorem dX1_either_17 : decode cX1_either 17 = .ok (.ireturn, 1) := by decide +kernel
theorem dX1_either_18 : decode cX1_either 18 = .ok (.iconst 0, 1) := by decide +kernel
theorem dX1_either_19 : decode cX1_either 19 = .ok (.istore_n 3, 1) := by decide +kernel
theorem dX1_either_20 : decode cX1_either 20 = .ok (.iload_n 3, 1) := by decide +kernel
theorem dX1_either_21 : decode cX1_either 21 = .ok (.bipush 100, 2) := by decide +kernel
theorem dX1_either_23 : decode cX1_either 23 = .ok (.if_icmp .ge 47, 3) := by decide +kernel
theorem dX1_either_26 : decode cX1_either 26 = .ok (.aload_n 0, 1) := by decide +kernel
theorem dX1_either_27 : decode cX1_either 27 = .ok (.invokevirtual 34, 3) := by decide +kernel
theorem dX1_either_30 : decode cX1_either 30 = .ok (.bipush 38, 2) := by decide +kernel
theorem dX1_either_32 : decode cX1_either 32 = .ok (.if_icmp .ne 38, 3) := by decide +kernel
theorem dX1_either_35 : decode cX1_either 35 = .ok (.aload_n 0, 1) := by decide +kernel
theorem dX1_either_36 : decode cX1_either 36 = .ok (.dup, 1) := by decide +kernel
theorem dX1_either_37 : decode cX1_either 37 = .ok (.getfield 24, 3) := by decide +kernel
theorem dX1_either_40 : decode cX1_either 40 = .ok (.iconst 1, 1) := by decide +kernel
theorem dX1_either_41 : decode cX1_either 41 = .ok (.iadd, 1) := by decide +kernel
theorem dX1_either_42 : decode cX1_either 42 = .ok (.putfield 24, 3) := by decide +kernel
theorem dX1_either_45 : decode cX1_either 45 = .ok (.aload_n 0, 1) := by decide +kernel
theorem dX1_either_46 : decode cX1_either 46 = .ok (.iload_n 1, 1) := by decide +kernel
theorem dX1_either_47 : decode cX1_either 47 = .ok (.invokevirtual 93, 3) := by decide +kernel
theorem dX1_either_50 : decode cX1_either 50 = .ok (.ifCond .ne 5, 3) := by decide +kernel
theorem dX1_either_53 : decode cX1_either 53 = .ok (.iconst 0, 1) := by decide +kernel
theorem dX1_either_54 : decode cX1_either 54 = .ok (.ireturn, 1) := by decide +kernel
theorem dX1_either_55 : decode cX1_either 55 = .ok (.aload_n 0, 1) := by decide +kernel
theorem dX1_either_56 : decode cX1_either 56 = .ok (.getfield 16, 3) := by decide +kernel
theorem dX1_either_59 : decode cX1_either 59 = .ok (.bipush (-2), 2) := by decide +kernel
theorem dX1_either_61 : decode cX1_either 61 = .ok (.invokevirtual 96, 3) := by decide +kernel
theorem dX1_either_64 : decode cX1_either 64 = .ok (.iinc 3 1, 3) := by decide +kernel
theorem dX1_either_67 : decode cX1_either 67 = .ok (.goto (-47), 3) := by decide +kernel
theorem dX1_either_70 : decode cX1_either 70 = .ok (.iload_n 2, 1) := by decide +kernel
theorem dX1_either_71 : decode cX1_either 71 = .ok (.ifCond .le 12, 3) := by decide +kernel
theorem dX1_either_74 : decode cX1_either 74 = .ok (.aload_n 0, 1) := by decide +kernel
theorem dX1_either_75 : decode cX1_either 75 = .ok (.getfield 16, 3) := by decide +kernel
theorem dX1_either_78 : decode cX1_either 78 = .ok (.bipush (-3), 2) := by decide +kernel
theorem dX1_either_80 : decode cX1_either 80 = .ok (.invokevirtual 96, 3) := by decide +kernel
theorem dX1_either_83 : decode cX1_either 83 = .ok (.aload_n 0, 1) := by decide +kernel
theorem dX1_either_84 : decode cX1_either 84 = .ok (.invokevirtual 34, 3) := by decide +kernel
theorem dX1_either_87 : decode cX1_either 87 = .ok (.bipush 124, 2) := by decide +kernel
theorem dX1_either_89 : decode cX1_either 89 = .ok (.if_icmp .eq 5, 3) := by decide +kernel
theorem dX1_either_92 : decode cX1_either 92 = .ok (.iconst 1, 1) := by decide +kernel
theorem dX1_either_93 : decode cX1_either 93 = .ok (.ireturn, 1) := by decide +kernel
theorem dX1_either_94 : decode cX1_either 94 = .ok (.aload_n 0, 1) := by decide +kernel
theorem dX1_either_95 : decode cX1_either 95 = .ok (.dup, 1) := by decide +kernel
theorem dX1_either_96 : decode cX1_either 96 = .ok (.getfield 24, 3) := by decide +kernel
theorem dX1_either_99 : decode cX1_either 99 = .ok (.iconst 1, 1) := by decide +kernel
theorem dX1_either_100 : decode cX1_either 100 = .ok (.iadd, 1) := by decide +kernel
theorem dX1_either_101 : decode cX1_either 101 = .ok (.putfield 24, 3) := by decide +kernel
theorem dX1_either_104 : decode cX1_either 104 = .ok (.iinc 2 1, 3) := by decide +kernel
theorem dX1_either_107 : decode cX1_either 107 = .ok (.goto (-105), 3) := by decide +kernel
theorem dX1_either_110 : decode cX1_either 110 = .ok (.iconst 0, 1) := by decide +kernel
theorem dX1_either_111 : decode cX1_either 111 = .ok (.ireturn, 1) := by decide +kernel
theorem dX1_clause_0 : decode cX1_clause 0 = .ok (.aload_n 0, 1) := by decide +kernel
theorem dX1_clause_1 : decode cX1_clause 1 = .ok (.invokevirtual 34, 3) := by decide +kernel
theorem dX1_clause_4 : decode cX1_clause 4 = .ok (.lookupswitch 142 #[(98, 44), (99, 67), (110, 98), (114, 120)], 44) := by decide +kernel
theorem dX1_clause_48 : decode cX1_clause 48 = .ok (.aload_n 0, 1) := by decide +kernel
theorem dX1_clause_49 : decode cX1_clause 49 = .ok (.ldc 38, 2) := by decide +kernel
theorem dX1_clause_51 : decode cX1_clause 51 = .ok (.invokevirtual 40, 3) := by decide +kernel
theorem dX1_clause_54 : decode cX1_clause 54 = .ok (.ifCond .eq 15, 3) := by decide +kernel
theorem dX1_clause_57 : decode cX1_clause 57 = .ok (.aload_n 0, 1) := by decide +kernel
theorem dX1_clause_58 : decode cX1_clause 58 = .ok (.iconst 0, 1) := by decide +kernel
theorem dX1_clause_59 : decode cX1_clause 59 = .ok (.invokevirtual 44, 3) := by decide +kernel
theorem dX1_clause_62 : decode cX1_clause 62 = .ok (.ifCond .eq 7, 3) := by decide +kernel
theorem dX1_clause_65 : decode cX1_clause 65 = .ok (.iconst 1, 1) := by decide +kernel
theorem dX1_clause_66 : decode cX1_clause 66 = .ok (.goto 4, 3) := by decide +kernel
theorem dX1_clause_69 : decode cX1_clause 69 = .ok (.iconst 0, 1) := by decide +kernel
theorem dX1_clause_70 : decode cX1_clause 70 = .ok (.ireturn, 1) := by decide +kernel
theorem dX1_clause_71 : decode cX1_clause 71 = .ok (.aload_n 0, 1) := by decide +kernel
theorem dX1_clause_72 : decode cX1_clause 72 = .ok (.ldc 48, 2) := by decide +kernel
theorem dX1_clause_74 : decode cX1_clause 74 = .ok (.invokevirtual 40, 3) := by decide +kernel
theorem dX1_clause_77 : decode cX1_clause 77 = .ok (.ifCond .eq 10, 3) := by decide +kernel
theorem dX1_clause_80 : decode cX1_clause 80 = .ok (.aload_n 0, 1) := by decide +kernel
theorem dX1_clause_81 : decode cX1_clause 81 = .ok (.invokevirtual 50, 3) := by decide +kernel
theorem dX1_clause_84 : decode cX1_clause 84 = .ok (.ifCond .ne 5, 3) := by decide +kernel
theorem dX1_clause_87 : decode cX1_clause 87 = .ok (.iconst 0, 1) := by decide +kernel
theorem dX1_clause_88 : decode cX1_clause 88 = .ok (.ireturn, 1) := by decide +kernel
theorem dX1_clause_89 : decode cX1_clause 89 = .ok (.aload_n 0, 1) := by decide +kernel
theorem dX1_clause_90 : decode cX1_clause 90 = .ok (.getfield 16, 3) := by decide +kernel
theorem dX1_clause_93 : decode cX1_clause 93 = .ok (.aload_n 0, 1) := by decide +kernel
theorem dX1_clause_94 : decode cX1_clause 94 = .ok (.getfield 53, 3) := by decide +kernel
theorem dX1_clause_97 : decode cX1_clause 97 = .ok (.putfield 56, 3) := by decide +kernel
theorem dX1_clause_100 : decode cX1_clause 100 = .ok (.iconst 1, 1) := by decide +kernel
theorem dX1_clause_101 : decode cX1_clause 101 = .ok (.ireturn, 1) := by decide +kernel
theorem dX1_clause_102 : decode cX1_clause 102 = .ok (.aload_n 0, 1) := by decide +kernel
theorem dX1_clause_103 : decode cX1_clause 103 = .ok (.ldc 59, 2) := by decide +kernel
theorem dX1_clause_105 : decode cX1_clause 105 = .ok (.invokevirtual 40, 3) := by decide +kernel
theorem dX1_clause_108 : decode cX1_clause 108 = .ok (.ifCond .eq 14, 3) := by decide +kernel
theorem dX1_clause_111 : decode cX1_clause 111 = .ok (.aload_n 0, 1) := by decide +kernel
theorem dX1_clause_112 : decode cX1_clause 112 = .ok (.invokevirtual 61, 3) := by decide +kernel
theorem dX1_clause_115 : decode cX1_clause 115 = .ok (.ifCond .eq 7, 3) := by decide +kernel
theorem dX1_clause_118 : decode cX1_clause 118 = .ok (.iconst 1, 1) := by decide +kernel
theorem dX1_clause_119 : decode cX1_clause 119 = .ok (.goto 4, 3) := by decide +kernel
theorem dX1_clause_122 : decode cX1_clause 122 = .ok (.iconst 0, 1) := by decide +kernel
theorem dX1_clause_123 : decode cX1_clause 123 = .ok (.ireturn, 1) := by decide +kernel
theorem dX1_clause_124 : decode cX1_clause 124 = .ok (.aload_n 0, 1) := by decide +kernel
theorem dX1_clause_125 : decode cX1_clause 125 = .ok (.ldc 64, 2) := by decide +kernel
theorem dX1_clause_127 : decode cX1_clause 127 = .ok (.invokevirtual 40, 3) := by decide +kernel
theorem dX1_clause_130 : decode cX1_clause 130 = .ok (.ifCond .eq 14, 3) := by decide +kernel
theorem dX1_clause_133 : decode cX1_clause 133 = .ok (.aload_n 0, 1) := by decide +kernel
theorem dX1_clause_134 : decode cX1_clause 134 = .ok (.invokevirtual 66, 3) := by decide +kernel
theorem dX1_clause_137 : decode cX1_clause 137 = .ok (.ifCond .eq 7, 3) := by decide +kernel
theorem dX1_clause_140 : decode cX1_clause 140 = .ok (.iconst 1, 1) := by decide +kernel
theorem dX1_clause_141 : decode cX1_clause 141 = .ok (.goto 4, 3) := by decide +kernel
theorem dX1_clause_144 : decode cX1_clause 144 = .ok (.iconst 0, 1) := by decide +kernel
theorem dX1_clause_145 : decode cX1_clause 145 = .ok (.ireturn, 1) := by decide +kernel
theorem dX1_clause_146 : decode cX1_clause 146 = .ok (.iconst 0, 1) := by decide +kernel
theorem dX1_clause_147 : decode cX1_clause 147 = .ok (.ireturn, 1) := by decide +kernel
theorem dX1_fault_0 : decode cX1_fault 0 = .ok (.aload_n 0, 1) := by decide +kernel
theorem dX1_fault_1 : decode cX1_fault 1 = .ok (.iconst 0, 1) := by decide +kernel
theorem dX1_fault_2 : decode cX1_fault 2 = .ok (.putfield 24, 3) := by decide +kernel
theorem dX1_fault_5 : decode cX1_fault 5 = .ok (.aload_n 0, 1) := by decide +kernel
theorem dX1_fault_6 : decode cX1_fault 6 = .ok (.getfield 16, 3) := by decide +kernel
theorem dX1_fault_9 : decode cX1_fault 9 = .ok (.invokevirtual 27, 3) := by decide +kernel
theorem dX1_fault_12 : decode cX1_fault 12 = .ok (.iconst 1, 1) := by decide +kernel
theorem dX1_fault_13 : decode cX1_fault 13 = .ok (.istore_n 1, 1) := by decide +kernel
theorem dX1_fault_14 : decode cX1_fault 14 = .ok (.iload_n 1, 1) := by decide +kernel
theorem dX1_fault_15 : decode cX1_fault 15 = .ok (.bipush 6, 2) := by decide +kernel
theorem dX1_fault_17 : decode cX1_fault 17 = .ok (.if_icmp .gt 64, 3) := by decide +kernel
theorem dX1_fault_20 : decode cX1_fault 20 = .ok (.aload_n 0, 1) := by decide +kernel
theorem dX1_fault_21 : decode cX1_fault 21 = .ok (.invokevirtual 30, 3) := by decide +kernel
theorem dX1_fault_24 : decode cX1_fault 24 = .ok (.ifCond .ne 8, 3) := by decide +kernel
theorem dX1_fault_27 : decode cX1_fault 27 = .ok (.aload_n 0, 1) := by decide +kernel
theorem dX1_fault_28 : decode cX1_fault 28 = .ok (.getfield 24, 3) := by decide +kernel
theorem dX1_fault_31 : decode cX1_fault 31 = .ok (.ireturn, 1) := by decide +kernel
theorem dX1_fault_32 : decode cX1_fault 32 = .ok (.aload_n 0, 1) := by decide +kernel
theorem dX1_fault_33 : decode cX1_fault 33 = .ok (.getfield 24, 3) := by decide +kernel
theorem dX1_fault_36 : decode cX1_fault 36 = .ok (.aload_n 0, 1) := by decide +kernel
theorem dX1_fault_37 : decode cX1_fault 37 = .ok (.getfield 20, 3) := by decide +kernel
theorem dX1_fault_40 : decode cX1_fault 40 = .ok (.if_icmp .ne 5, 3) := by decide +kernel
theorem dX1_fault_43 : decode cX1_fault 43 = .ok (.iconst (-1), 1) := by decide +kernel
theorem dX1_fault_44 : decode cX1_fault 44 = .ok (.ireturn, 1) := by decide +kernel
theorem dX1_fault_45 : decode cX1_fault 45 = .ok (.iload_n 1, 1) := by decide +kernel
theorem dX1_fault_46 : decode cX1_fault 46 = .ok (.bipush 6, 2) := by decide +kernel
theorem dX1_fault_48 : decode cX1_fault 48 = .ok (.if_icmp .eq 12, 3) := by decide +kernel
theorem dX1_fault_51 : decode cX1_fault 51 = .ok (.aload_n 0, 1) := by decide +kernel
theorem dX1_fault_52 : decode cX1_fault 52 = .ok (.invokevirtual 34, 3) := by decide +kernel
theorem dX1_fault_55 : decode cX1_fault 55 = .ok (.bipush 59, 2) := by decide +kernel
theorem dX1_fault_57 : decode cX1_fault 57 = .ok (.if_icmp .eq 8, 3) := by decide +kernel
theorem dX1_fault_60 : decode cX1_fault 60 = .ok (.aload_n 0, 1) := by decide +kernel
theorem dX1_fault_61 : decode cX1_fault 61 = .ok (.getfield 24, 3) := by decide +kernel
theorem dX1_fault_64 : decode cX1_fault 64 = .ok (.ireturn, 1) := by decide +kernel
theorem dX1_fault_65 : decode cX1_fault 65 = .ok (.aload_n 0, 1) := by decide +kernel
theorem dX1_fault_66 : decode cX1_fault 66 = .ok (.dup, 1) := by decide +kernel
theorem dX1_fault_67 : decode cX1_fault 67 = .ok (.getfield 24, 3) := by decide +kernel
theorem dX1_fault_70 : decode cX1_fault 70 = .ok (.iconst 1, 1) := by decide +kernel
theorem dX1_fault_71 : decode cX1_fault 71 = .ok (.iadd, 1) := by decide +kernel
theorem dX1_fault_72 : decode cX1_fault 72 = .ok (.putfield 24, 3) := by decide +kernel
theorem dX1_fault_75 : decode cX1_fault 75 = .ok (.iinc 1 1, 3) := by decide +kernel
theorem dX1_fault_78 : decode cX1_fault 78 = .ok (.goto (-64), 3) := by decide +kernel
theorem dX1_fault_81 : decode cX1_fault 81 = .ok (.aload_n 0, 1) := by decide +kernel
theorem dX1_fault_82 : decode cX1_fault 82 = .ok (.getfield 24, 3) := by decide +kernel
theorem dX1_fault_85 : decode cX1_fault 85 = .ok (.ireturn, 1) := by decide +kernel
set_option maxHeartbeats 4000000 in
set_option maxRecDepth 100000 in
theorem B_X1_append {l : Launch} {e : hv_Ev}  (x1 : Int32) {σ : hv_S} {Φ : hv_S → Prop} (h : ((100 ≤ (σ.1 9 1) → Φ σ) ∧ (¬ 100 ≤ (σ.1 9 1) → (vp_in (σ.1 9 1) 100 ∧ Φ (hv_ui (hv_ui σ 10 ((σ.1 9 1).toNatClampNeg) x1) 9 1 ((σ.1 9 1) + 1)))))) : hv_CV l (hv_e1 e) 0 m_X1_append [.ref 9, .int x1] σ Φ := by
  refine hv_entV (by decide) (Nat.le_of_ble_eq_true rfl) ?_
  show hv_TW l (hv_e1 e) (hv_rm 0) 0 0 m_X1_append hv_no (hv_ZV (hv_e1 e) Φ) 0 [(0, .ref 9), (1, .int x1)] [] σ
  refine T_aload_n dX1_append_0 rfl 0 rfl ?_
  refine T_get (v := .int (σ.1 9 1)) dX1_append_1 fl_X1_20 hp_9 hs_9 rfl rfl ?_
  refine T_aload_n dX1_append_4 rfl 0 rfl ?_
  refine T_get (v := .ref 10) dX1_append_5 fl_X1_9 hp_9 hs_9 rfl rfl ?_
  refine T_alen (v := 100) dX1_append_8 hp_10 hs_10 (by decide) (by decide) ?_
  refine T_icmp_ge (tgt := 32) dX1_append_9 (by decide) (fun c1 => ?_) (fun c1 => ?_)
  · exact T_vret dX1_append_32 rfl (h.1 c1)
  · refine T_aload_n dX1_append_12 rfl 0 rfl ?_
    refine T_get (v := .ref 10) dX1_append_13 fl_X1_9 hp_9 hs_9 rfl rfl ?_
    refine T_aload_n dX1_append_16 rfl 0 rfl ?_
    refine T_get (v := .int (σ.1 9 1)) dX1_append_17 fl_X1_20 hp_9 hs_9 rfl rfl ?_
    refine T_iload_n dX1_append_20 rfl 1 rfl ?_
    refine T_iast dX1_append_21 hp_10 hs_10 (h.2 c1).1 ?_
    refine T_aload_n dX1_append_22 rfl 0 rfl ?_
    refine T_dup dX1_append_23 rfl ?_
    refine T_get (v := .int (σ.1 9 1)) dX1_append_24 fl_X1_20 hp_9 hs_9 rfl rfl ?_
    refine T_iconst (v := 1) dX1_append_27 (by decide) ?_
    refine T_iadd dX1_append_28 ?_
    refine T_puti dX1_append_29 fl_X1_20 pf_X1_1 hp_9 hs_9 rfl ?_
    exact T_vret dX1_append_32 rfl ((h.2 c1).2)

set_option maxHeartbeats 4000000 in
set_option maxRecDepth 100000 in
theorem B_X1_seen {l : Launch} {e : hv_Ev}   {σ : hv_S} {Φ : Int32 → hv_S → Prop} (h : (((σ.1 9 1) ≤ (σ.1 9 2) → Φ (-1) σ) ∧ (¬ (σ.1 9 1) ≤ (σ.1 9 2) → (vp_in (σ.1 9 2) 100 ∧ Φ (σ.1 10 ((σ.1 9 2).toNatClampNeg)) σ)))) : hv_CI l (hv_e1 e) 0 m_X1_seen [.ref 9] σ Φ := by
  refine hv_entI (by decide) (Nat.le_of_ble_eq_true rfl) ?_
  show hv_TW l (hv_e1 e) (hv_rm 0) 0 0 m_X1_seen hv_no (hv_ZI (hv_e1 e) Φ) 0 [(0, .ref 9)] [] σ
  refine T_aload_n dX1_seen_0 rfl 0 rfl ?_
  refine T_get (v := .int (σ.1 9 2)) dX1_seen_1 fl_X1_24 hp_9 hs_9 rfl rfl ?_
  refine T_aload_n dX1_seen_4 rfl 0 rfl ?_
  refine T_get (v := .int (σ.1 9 1)) dX1_seen_5 fl_X1_20 hp_9 hs_9 rfl rfl ?_
  refine T_icmp_ge (tgt := 23) dX1_seen_8 (by decide) (fun c1 => ?_) (fun c1 => ?_)
  · refine T_iconst (v := (-1)) dX1_seen_23 (by decide) ?_
    exact T_iret dX1_seen_24 rfl (h.1 c1)
  · refine T_aload_n dX1_seen_11 rfl 0 rfl ?_
    refine T_get (v := .ref 10) dX1_seen_12 fl_X1_9 hp_9 hs_9 rfl rfl ?_
    refine T_aload_n dX1_seen_15 rfl 0 rfl ?_
    refine T_get (v := .int (σ.1 9 2)) dX1_seen_16 fl_X1_24 hp_9 hs_9 rfl rfl ?_
    refine T_iald dX1_seen_19 hp_10 hs_10 (h.2 c1).1 ?_
    refine T_goto (tgt := 24) dX1_seen_20 (by decide) ?_
    exact T_iret dX1_seen_24 rfl ((h.2 c1).2)

def L_X1_word_2 (l : Launch) (e : hv_Ev) (w : Nat) (Φ : Int32 → hv_S → Prop) (x2 : Int32) (σ : hv_S) : Prop := hv_TW l (hv_e1 e) (hv_rm 5) 0 0 m_X1_word hv_no (hv_ZI (hv_e1 e) Φ) 2 [(0, .ref 9), (1, .ref (1000 + w)), (2, .int x2)] [] σ
set_option maxHeartbeats 4000000 in
set_option maxRecDepth 100000 in
theorem B_X1_word_2 {l : Launch} {e : hv_Ev} (w : Nat) (hw : w < 7) (x2 : Int32) {σ : hv_S} {Φ : Int32 → hv_S → Prop} (h : hv_CI l (hv_e1 e) 1 m_J0_length_8abf5 [.ref (1000 + w)] σ (fun v2 s1 => ((v2 ≤ x2 → Φ 1 s1) ∧ (¬ v2 ≤ x2 → hv_CI l (hv_e1 e) 0 m_X1_seen [.ref 9] s1 (fun v5 s4 => hv_CI l (hv_e1 e) 4 m_J0_charAt_5068e [.ref (1000 + w), .int x2] s4 (fun v8 s7 => ((v5 = v8 → L_X1_word_2 l e w Φ (x2 + 1) (hv_ui s7 9 2 ((s7.1 9 2) + 1))) ∧ (¬ v5 = v8 → Φ 0 s7)))))))) : L_X1_word_2 l e w Φ x2 σ := by
  show hv_TW l (hv_e1 e) (hv_rm 5) 0 0 m_X1_word hv_no (hv_ZI (hv_e1 e) Φ) 2 [(0, .ref 9), (1, .ref (1000 + w)), (2, .int x2)] [] σ
  refine T_iload_n dX1_word_2 rfl 2 rfl ?_
  refine T_aload_n dX1_word_3 rfl 1 rfl ?_
  refine T_VIs (As := []) dX1_word_4 ⟨mw_J0_length_8abf5, (hv_in2 222 (by decide +kernel) rfl), (hv_in2 223 (by decide +kernel) rfl), Or.inl (hv_in2 221 (by decide +kernel) rfl)⟩ hw rfl rfl (Nat.le_of_ble_eq_true rfl) (hv_ok1 rfl) rfl h (fun v2 s1 h3 => ?_)
  refine T_icmp_ge (tgt := 40) dX1_word_7 (by decide) (fun c10 => ?_) (fun c10 => ?_)
  · refine T_iconst (v := 1) dX1_word_40 (by decide) ?_
    exact T_zret dX1_word_41 rfl (by decide) (h3.1 c10)
  · refine T_aload_n dX1_word_10 rfl 0 rfl ?_
    refine T_VI (As := []) dX1_word_11 mv_X1_34 hp_9 hs_9 rfl (Nat.le_of_ble_eq_true rfl) (hv_ok1 rfl) rfl (h3.2 c10) (fun v5 s4 h6 => ?_)
    refine T_aload_n dX1_word_14 rfl 1 rfl ?_
    refine T_iload_n dX1_word_15 rfl 2 rfl ?_
    refine T_VIs (As := [.int x2]) dX1_word_16 ⟨mw_J0_charAt_5068e, (hv_in2 232 (by decide +kernel) rfl), (hv_in2 233 (by decide +kernel) rfl), Or.inl (hv_in2 231 (by decide +kernel) rfl)⟩ hw rfl rfl (Nat.le_of_ble_eq_true rfl) (hv_ok1 rfl) rfl h6 (fun v8 s7 h9 => ?_)
    refine T_icmp_eq (tgt := 24) dX1_word_19 (by decide) (fun c11 => ?_) (fun c11 => ?_)
    · refine T_aload_n dX1_word_24 rfl 0 rfl ?_
      refine T_dup dX1_word_25 rfl ?_
      refine T_get (v := .int (s7.1 9 2)) dX1_word_26 fl_X1_24 hp_9 hs_9 rfl rfl ?_
      refine T_iconst (v := 1) dX1_word_29 (by decide) ?_
      refine T_iadd dX1_word_30 ?_
      refine T_puti dX1_word_31 fl_X1_24 pf_X1_2 hp_9 hs_9 rfl ?_
      refine T_iinc (v := (x2 + 1)) dX1_word_34 2 rfl rfl (by decide) rfl ?_
      refine T_goto (tgt := 2) dX1_word_37 (by decide) ?_
      exact T_sub [1, 2, 0] rfl (h9.1 c11)
    · refine T_iconst (v := 0) dX1_word_22 (by decide) ?_
      exact T_zret dX1_word_23 rfl (by decide) (h9.2 c11)
set_option maxHeartbeats 4000000 in
set_option maxRecDepth 100000 in
theorem B_X1_word {l : Launch} {e : hv_Ev} (w : Nat) (hw : w < 7)  {σ : hv_S} {Φ : Int32 → hv_S → Prop} (h : L_X1_word_2 l e w Φ 0 σ) : hv_CI l (hv_e1 e) 5 m_X1_word [.ref 9, .ref (1000 + w)] σ Φ := by
  refine hv_entI (by decide) (Nat.le_of_ble_eq_true rfl) ?_
  show hv_TW l (hv_e1 e) (hv_rm 5) 0 0 m_X1_word hv_no (hv_ZI (hv_e1 e) Φ) 0 [(0, .ref 9), (1, .ref (1000 + w))] [] σ
  refine T_iconst (v := 0) dX1_word_0 (by decide) ?_
  refine T_istore_n dX1_word_1 rfl (by decide) rfl ?_
  exact T_sub [1, 2, 0] rfl h

def L_X1_figuresOf_12 (l : Launch) (e : hv_Ev)  (Φ : Int32 → hv_S → Prop) (x1 : Int32) (σ : hv_S) : Prop := hv_TW l (hv_e1 e) (hv_rm 1) 0 0 m_X1_figuresOf hv_no (hv_ZI (hv_e1 e) Φ) 12 [(0, .ref 9), (1, .int x1)] [] σ
def L_X1_figuresOf_79 (l : Launch) (e : hv_Ev)  (Φ : Int32 → hv_S → Prop)  (σ : hv_S) : Prop := hv_TW l (hv_e1 e) (hv_rm 1) 0 0 m_X1_figuresOf hv_no (hv_ZI (hv_e1 e) Φ) 79 [(0, .ref 9)] [] σ
set_option maxHeartbeats 4000000 in
set_option maxRecDepth 100000 in
theorem B_X1_figuresOf_79 {l : Launch} {e : hv_Ev}   {σ : hv_S} {Φ : Int32 → hv_S → Prop} (h : (((σ.1 9 4) ≤ 0 → Φ 0 σ) ∧ (¬ (σ.1 9 4) ≤ 0 → Φ 1 σ))) : L_X1_figuresOf_79 l e Φ  σ := by
  show hv_TW l (hv_e1 e) (hv_rm 1) 0 0 m_X1_figuresOf hv_no (hv_ZI (hv_e1 e) Φ) 79 [(0, .ref 9)] [] σ
  refine T_aload_n dX1_figuresOf_79 rfl 0 rfl ?_
  refine T_get (v := .int (σ.1 9 4)) dX1_figuresOf_80 fl_X1_83 hp_9 hs_9 rfl rfl ?_
  refine T_if_le (tgt := 90) dX1_figuresOf_83 (by decide) (fun c7 => ?_) (fun c7 => ?_)
  · refine T_iconst (v := 0) dX1_figuresOf_90 (by decide) ?_
    exact T_zret dX1_figuresOf_91 rfl (by decide) (h.1 c7)
  · refine T_iconst (v := 1) dX1_figuresOf_86 (by decide) ?_
    refine T_goto (tgt := 91) dX1_figuresOf_87 (by decide) ?_
    exact T_zret dX1_figuresOf_91 rfl (by decide) (h.2 c7)
set_option maxHeartbeats 4000000 in
set_option maxRecDepth 100000 in
theorem B_X1_figuresOf_12 {l : Launch} {e : hv_Ev}  (x1 : Int32) {σ : hv_S} {Φ : Int32 → hv_S → Prop} (h : ((3 ≤ x1 → L_X1_figuresOf_79 l e Φ σ) ∧ (¬ 3 ≤ x1 → hv_CI l (hv_e1 e) 0 m_X1_seen [.ref 9] σ (fun v2 s1 => ((v2 < 48 → L_X1_figuresOf_79 l e Φ s1) ∧ (¬ v2 < 48 → ((v2 ≤ 57 → L_X1_figuresOf_12 l e Φ (x1 + 1) (hv_ui (hv_ui (hv_ui s1 9 3 ((((s1.1 9 3) * 10) + v2) - 48)) 9 4 ((s1.1 9 4) + 1)) 9 2 ((s1.1 9 2) + 1))) ∧ (¬ v2 ≤ 57 → L_X1_figuresOf_79 l e Φ s1)))))))) : L_X1_figuresOf_12 l e Φ x1 σ := by
  show hv_TW l (hv_e1 e) (hv_rm 1) 0 0 m_X1_figuresOf hv_no (hv_ZI (hv_e1 e) Φ) 12 [(0, .ref 9), (1, .int x1)] [] σ
  refine T_iload_n dX1_figuresOf_12 rfl 1 rfl ?_
  refine T_iconst (v := 3) dX1_figuresOf_13 (by decide) ?_
  refine T_icmp_ge (tgt := 79) dX1_figuresOf_14 (by decide) (fun c4 => ?_) (fun c4 => ?_)
  · exact T_sub [0] rfl (h.1 c4)
  · refine T_aload_n dX1_figuresOf_17 rfl 0 rfl ?_
    refine T_VI (As := []) dX1_figuresOf_18 mv_X1_34 hp_9 hs_9 rfl (Nat.le_of_ble_eq_true rfl) (hv_ok1 rfl) rfl (h.2 c4) (fun v2 s1 h3 => ?_)
    refine T_istore_n dX1_figuresOf_21 rfl (by decide) rfl ?_
    refine T_iload_n dX1_figuresOf_22 rfl 0 rfl ?_
    refine T_bipush (v := 48) dX1_figuresOf_23 (by decide) ?_
    refine T_icmp_lt (tgt := 79) dX1_figuresOf_25 (by decide) (fun c5 => ?_) (fun c5 => ?_)
    · exact T_sub [1] rfl (h3.1 c5)
    · refine T_iload_n dX1_figuresOf_28 rfl 0 rfl ?_
      refine T_bipush (v := 57) dX1_figuresOf_29 (by decide) ?_
      refine T_icmp_le (tgt := 37) dX1_figuresOf_31 (by decide) (fun c6 => ?_) (fun c6 => ?_)
      · refine T_aload_n dX1_figuresOf_37 rfl 1 rfl ?_
        refine T_aload_n dX1_figuresOf_38 rfl 1 rfl ?_
        refine T_get (v := .int (s1.1 9 3)) dX1_figuresOf_39 fl_X1_53 hp_9 hs_9 rfl rfl ?_
        refine T_bipush (v := 10) dX1_figuresOf_42 (by decide) ?_
        refine T_imul dX1_figuresOf_44 ?_
        refine T_iload_n dX1_figuresOf_45 rfl 0 rfl ?_
        refine T_iadd dX1_figuresOf_46 ?_
        refine T_bipush (v := 48) dX1_figuresOf_47 (by decide) ?_
        refine T_isub dX1_figuresOf_49 ?_
        refine T_puti dX1_figuresOf_50 fl_X1_53 pf_X1_3 hp_9 hs_9 rfl ?_
        refine T_aload_n dX1_figuresOf_53 rfl 1 rfl ?_
        refine T_dup dX1_figuresOf_54 rfl ?_
        refine T_get (v := .int (s1.1 9 4)) dX1_figuresOf_55 fl_X1_83 hp_9 hs_9 rfl rfl ?_
        refine T_iconst (v := 1) dX1_figuresOf_58 (by decide) ?_
        refine T_iadd dX1_figuresOf_59 ?_
        refine T_puti dX1_figuresOf_60 fl_X1_83 pf_X1_4 hp_9 hs_9 rfl ?_
        refine T_aload_n dX1_figuresOf_63 rfl 1 rfl ?_
        refine T_dup dX1_figuresOf_64 rfl ?_
        refine T_get (v := .int (s1.1 9 2)) dX1_figuresOf_65 fl_X1_24 hp_9 hs_9 rfl rfl ?_
        refine T_iconst (v := 1) dX1_figuresOf_68 (by decide) ?_
        refine T_iadd dX1_figuresOf_69 ?_
        refine T_puti dX1_figuresOf_70 fl_X1_24 pf_X1_2 hp_9 hs_9 rfl ?_
        refine T_iinc (v := (x1 + 1)) dX1_figuresOf_73 2 rfl rfl (by decide) rfl ?_
        refine T_goto (tgt := 12) dX1_figuresOf_76 (by decide) ?_
        exact T_sub [2, 0] rfl ((h3.2 c5).1 c6)
      · refine T_goto (tgt := 79) dX1_figuresOf_34 (by decide) ?_
        exact T_sub [1] rfl ((h3.2 c5).2 c6)
set_option maxHeartbeats 4000000 in
set_option maxRecDepth 100000 in
theorem B_X1_figuresOf {l : Launch} {e : hv_Ev}   {σ : hv_S} {Φ : Int32 → hv_S → Prop} (h : L_X1_figuresOf_12 l e Φ 0 (hv_ui (hv_ui σ 9 3 0) 9 4 0)) : hv_CI l (hv_e1 e) 1 m_X1_figuresOf [.ref 9] σ Φ := by
  refine hv_entI (by decide) (Nat.le_of_ble_eq_true rfl) ?_
  show hv_TW l (hv_e1 e) (hv_rm 1) 0 0 m_X1_figuresOf hv_no (hv_ZI (hv_e1 e) Φ) 0 [(0, .ref 9)] [] σ
  refine T_aload_n dX1_figuresOf_0 rfl 0 rfl ?_
  refine T_iconst (v := 0) dX1_figuresOf_1 (by decide) ?_
  refine T_puti dX1_figuresOf_2 fl_X1_53 pf_X1_3 hp_9 hs_9 rfl ?_
  refine T_aload_n dX1_figuresOf_5 rfl 0 rfl ?_
  refine T_iconst (v := 0) dX1_figuresOf_6 (by decide) ?_
  refine T_puti dX1_figuresOf_7 fl_X1_83 pf_X1_4 hp_9 hs_9 rfl ?_
  refine T_iconst (v := 0) dX1_figuresOf_10 (by decide) ?_
  refine T_istore_n dX1_figuresOf_11 rfl (by decide) rfl ?_
  exact T_sub [1, 0] rfl h

set_option maxHeartbeats 4000000 in
set_option maxRecDepth 100000 in
theorem B_X1_need {l : Launch} {e : hv_Ev}   {σ : hv_S} {Φ : Int32 → hv_S → Prop} (h : hv_CI l (hv_e1 e) 1 m_X1_figuresOf [.ref 9] σ (fun v2 s1 => ((v2 ≠ 0 → (hv_isR (s1.2.2 9 5) ∧ hv_CI l (hv_e1 e) 5 m_X1_word [.ref 9, .ref (1000 + 4)] (hv_ui s1 (s1.2.2 9 5) 3 (s1.1 9 3)) (fun v6 s5 => ((v6 = 0 → Φ 0 s5) ∧ (¬ v6 = 0 → hv_CI l (hv_e1 e) 1 m_X1_figuresOf [.ref 9] s5 (fun v9 s8 => ((v9 ≠ 0 → (((s8.1 9 3) ≠ 0 → (hv_isR (s8.2.2 9 5) ∧ Φ 1 (hv_ui s8 (s8.2.2 9 5) 4 (s8.1 9 3)))) ∧ ((s8.1 9 3) = 0 → (((s8.1 9 4) ≠ 3 → Φ 0 s8) ∧ ((s8.1 9 4) = 3 → Φ 0 (hv_ui s8 9 2 ((s8.1 9 2) - 1))))))) ∧ (v9 = 0 → Φ 0 s8)))))))) ∧ (v2 = 0 → Φ 0 s1)))) : hv_CI l (hv_e1 e) 6 m_X1_need [.ref 9] σ Φ := by
  refine hv_entI (by decide) (Nat.le_of_ble_eq_true rfl) ?_
  show hv_TW l (hv_e1 e) (hv_rm 6) 0 0 m_X1_need hv_no (hv_ZI (hv_e1 e) Φ) 0 [(0, .ref 9)] [] σ
  refine T_aload_n dX1_need_0 rfl 0 rfl ?_
  refine T_VI (As := []) dX1_need_1 mv_X1_50 hp_9 hs_9 rfl (Nat.le_of_ble_eq_true rfl) (hv_ok1 rfl) rfl h (fun v2 s1 h3 => ?_)
  refine T_if_ne (tgt := 9) dX1_need_4 (by decide) (fun c12 => ?_) (fun c12 => ?_)
  · refine T_aload_n dX1_need_9 rfl 0 rfl ?_
    have b4 := (h3.1 c12).1
    refine T_get (v := .ref (s1.2.2 9 5)) dX1_need_10 fl_X1_16 hp_9 hs_9 rfl rfl ?_
    refine T_aload_n dX1_need_13 rfl 0 rfl ?_
    refine T_get (v := .int (s1.1 9 3)) dX1_need_14 fl_X1_53 hp_9 hs_9 rfl rfl ?_
    refine T_puti dX1_need_17 fl_X1_78 pf_X4_3 (hv_isRp b4) (hv_isRs b4) rfl ?_
    refine T_aload_n dX1_need_20 rfl 0 rfl ?_
    refine T_ldcS dX1_need_21 rfl (by decide) (show hv_si.getD 4 0 = 81 from rfl) ?_
    refine T_VI (As := [.ref (1000 + 4)]) dX1_need_23 mv_X1_40 hp_9 hs_9 rfl (Nat.le_of_ble_eq_true rfl) (hv_ok1 rfl) rfl ((h3.1 c12).2) (fun v6 s5 h7 => ?_)
    refine T_if_eq (tgt := 36) dX1_need_26 (by decide) (fun c13 => ?_) (fun c13 => ?_)
    · refine T_iconst (v := 0) dX1_need_36 (by decide) ?_
      exact T_zret dX1_need_37 rfl (by decide) (h7.1 c13)
    · refine T_aload_n dX1_need_29 rfl 0 rfl ?_
      refine T_VI (As := []) dX1_need_30 mv_X1_50 hp_9 hs_9 rfl (Nat.le_of_ble_eq_true rfl) (hv_ok1 rfl) rfl (h7.2 c13) (fun v9 s8 h10 => ?_)
      refine T_if_ne (tgt := 38) dX1_need_33 (by decide) (fun c14 => ?_) (fun c14 => ?_)
      · refine T_aload_n dX1_need_38 rfl 0 rfl ?_
        refine T_get (v := .int (s8.1 9 3)) dX1_need_39 fl_X1_53 hp_9 hs_9 rfl rfl ?_
        refine T_if_ne (tgt := 65) dX1_need_42 (by decide) (fun c15 => ?_) (fun c15 => ?_)
        · refine T_aload_n dX1_need_65 rfl 0 rfl ?_
          have b11 := ((h10.1 c14).1 c15).1
          refine T_get (v := .ref (s8.2.2 9 5)) dX1_need_66 fl_X1_16 hp_9 hs_9 rfl rfl ?_
          refine T_aload_n dX1_need_69 rfl 0 rfl ?_
          refine T_get (v := .int (s8.1 9 3)) dX1_need_70 fl_X1_53 hp_9 hs_9 rfl rfl ?_
          refine T_puti dX1_need_73 fl_X1_86 pf_X4_4 (hv_isRp b11) (hv_isRs b11) rfl ?_
          refine T_iconst (v := 1) dX1_need_76 (by decide) ?_
          exact T_zret dX1_need_77 rfl (by decide) (((h10.1 c14).1 c15).2)
        · refine T_aload_n dX1_need_45 rfl 0 rfl ?_
          refine T_get (v := .int (s8.1 9 4)) dX1_need_46 fl_X1_83 hp_9 hs_9 rfl rfl ?_
          refine T_iconst (v := 3) dX1_need_49 (by decide) ?_
          refine T_icmp_ne (tgt := 63) dX1_need_50 (by decide) (fun c16 => ?_) (fun c16 => ?_)
          · refine T_iconst (v := 0) dX1_need_63 (by decide) ?_
            exact T_zret dX1_need_64 rfl (by decide) (((h10.1 c14).2 c15).1 c16)
          · refine T_aload_n dX1_need_53 rfl 0 rfl ?_
            refine T_dup dX1_need_54 rfl ?_
            refine T_get (v := .int (s8.1 9 2)) dX1_need_55 fl_X1_24 hp_9 hs_9 rfl rfl ?_
            refine T_iconst (v := 1) dX1_need_58 (by decide) ?_
            refine T_isub dX1_need_59 ?_
            refine T_puti dX1_need_60 fl_X1_24 pf_X1_2 hp_9 hs_9 rfl ?_
            refine T_iconst (v := 0) dX1_need_63 (by decide) ?_
            exact T_zret dX1_need_64 rfl (by decide) (((h10.1 c14).2 c15).2 c16)
      · refine T_iconst (v := 0) dX1_need_36 (by decide) ?_
        exact T_zret dX1_need_37 rfl (by decide) (h10.2 c14)
  · refine T_iconst (v := 0) dX1_need_7 (by decide) ?_
    exact T_zret dX1_need_8 rfl (by decide) (h3.2 c12)

def L_X1_ring_19 (l : Launch) (e : hv_Ev)  (Φ : Int32 → hv_S → Prop) (x1 : Int32) (σ : hv_S) : Prop := hv_TW l (hv_e1 e) (hv_rm 1) 0 0 m_X1_ring hv_no (hv_ZI (hv_e1 e) Φ) 19 [(0, .ref 9), (1, .int x1)] [] σ
set_option maxHeartbeats 4000000 in
set_option maxRecDepth 100000 in
theorem B_X1_ring_19 {l : Launch} {e : hv_Ev}  (x1 : Int32) {σ : hv_S} {Φ : Int32 → hv_S → Prop} (h : (hv_isR (σ.2.2 9 5) ∧ ((x1 ≠ 98 → Φ 1 (hv_ui (hv_ui σ (σ.2.2 9 5) 5 0) 9 2 (((hv_ui σ (σ.2.2 9 5) 5 0).1 9 2) + 1))) ∧ (x1 = 98 → Φ 1 (hv_ui (hv_ui σ (σ.2.2 9 5) 5 1) 9 2 (((hv_ui σ (σ.2.2 9 5) 5 1).1 9 2) + 1)))))) : L_X1_ring_19 l e Φ x1 σ := by
  show hv_TW l (hv_e1 e) (hv_rm 1) 0 0 m_X1_ring hv_no (hv_ZI (hv_e1 e) Φ) 19 [(0, .ref 9), (1, .int x1)] [] σ
  refine T_aload_n dX1_ring_19 rfl 0 rfl ?_
  have b6 := h.1
  refine T_get (v := .ref (σ.2.2 9 5)) dX1_ring_20 fl_X1_16 hp_9 hs_9 rfl rfl ?_
  refine T_iload_n dX1_ring_23 rfl 1 rfl ?_
  refine T_bipush (v := 98) dX1_ring_24 (by decide) ?_
  refine T_icmp_ne (tgt := 33) dX1_ring_26 (by decide) (fun c7 => ?_) (fun c7 => ?_)
  · refine T_iconst (v := 0) dX1_ring_33 (by decide) ?_
    refine T_putz dX1_ring_34 fl_X1_89 pf_X4_5 (hv_isRp b6) (hv_isRs b6) rfl (by decide) ?_
    refine T_aload_n dX1_ring_37 rfl 0 rfl ?_
    refine T_dup dX1_ring_38 rfl ?_
    refine T_get (v := .int ((hv_ui σ (σ.2.2 9 5) 5 0).1 9 2)) dX1_ring_39 fl_X1_24 hp_9 hs_9 rfl rfl ?_
    refine T_iconst (v := 1) dX1_ring_42 (by decide) ?_
    refine T_iadd dX1_ring_43 ?_
    refine T_puti dX1_ring_44 fl_X1_24 pf_X1_2 hp_9 hs_9 rfl ?_
    refine T_iconst (v := 1) dX1_ring_47 (by decide) ?_
    exact T_zret dX1_ring_48 rfl (by decide) (h.2.1 c7)
  · refine T_iconst (v := 1) dX1_ring_29 (by decide) ?_
    refine T_goto (tgt := 34) dX1_ring_30 (by decide) ?_
    refine T_putz dX1_ring_34 fl_X1_89 pf_X4_5 (hv_isRp b6) (hv_isRs b6) rfl (by decide) ?_
    refine T_aload_n dX1_ring_37 rfl 0 rfl ?_
    refine T_dup dX1_ring_38 rfl ?_
    refine T_get (v := .int ((hv_ui σ (σ.2.2 9 5) 5 1).1 9 2)) dX1_ring_39 fl_X1_24 hp_9 hs_9 rfl rfl ?_
    refine T_iconst (v := 1) dX1_ring_42 (by decide) ?_
    refine T_iadd dX1_ring_43 ?_
    refine T_puti dX1_ring_44 fl_X1_24 pf_X1_2 hp_9 hs_9 rfl ?_
    refine T_iconst (v := 1) dX1_ring_47 (by decide) ?_
    exact T_zret dX1_ring_48 rfl (by decide) (h.2.2 c7)
set_option maxHeartbeats 4000000 in
set_option maxRecDepth 100000 in
theorem B_X1_ring {l : Launch} {e : hv_Ev}   {σ : hv_S} {Φ : Int32 → hv_S → Prop} (h : hv_CI l (hv_e1 e) 0 m_X1_seen [.ref 9] σ (fun v2 s1 => ((v2 = 108 → L_X1_ring_19 l e Φ v2 s1) ∧ (¬ v2 = 108 → ((v2 = 98 → L_X1_ring_19 l e Φ v2 s1) ∧ (¬ v2 = 98 → Φ 0 s1)))))) : hv_CI l (hv_e1 e) 1 m_X1_ring [.ref 9] σ Φ := by
  refine hv_entI (by decide) (Nat.le_of_ble_eq_true rfl) ?_
  show hv_TW l (hv_e1 e) (hv_rm 1) 0 0 m_X1_ring hv_no (hv_ZI (hv_e1 e) Φ) 0 [(0, .ref 9)] [] σ
  refine T_aload_n dX1_ring_0 rfl 0 rfl ?_
  refine T_VI (As := []) dX1_ring_1 mv_X1_34 hp_9 hs_9 rfl (Nat.le_of_ble_eq_true rfl) (hv_ok1 rfl) rfl h (fun v2 s1 h3 => ?_)
  refine T_istore_n dX1_ring_4 rfl (by decide) rfl ?_
  refine T_iload_n dX1_ring_5 rfl 0 rfl ?_
  refine T_bipush (v := 108) dX1_ring_6 (by decide) ?_
  refine T_icmp_eq (tgt := 19) dX1_ring_8 (by decide) (fun c4 => ?_) (fun c4 => ?_)
  · exact T_sub [1, 0] rfl (h3.1 c4)
  · refine T_iload_n dX1_ring_11 rfl 0 rfl ?_
    refine T_bipush (v := 98) dX1_ring_12 (by decide) ?_
    refine T_icmp_eq (tgt := 19) dX1_ring_14 (by decide) (fun c5 => ?_) (fun c5 => ?_)
    · exact T_sub [1, 0] rfl ((h3.2 c4).1 c5)
    · refine T_iconst (v := 0) dX1_ring_17 (by decide) ?_
      exact T_zret dX1_ring_18 rfl (by decide) ((h3.2 c4).2 c5)

def L_X1_signOf_7 (l : Launch) (e : hv_Ev) (w : Nat) (Φ : Int32 → hv_S → Prop) (x2 : Int32) (x3 : Int32) (σ : hv_S) : Prop := hv_TW l (hv_e1 e) (hv_rm 5) 0 0 m_X1_signOf hv_no (hv_ZI (hv_e1 e) Φ) 7 [(0, .ref 9), (1, .ref (1000 + w)), (2, .int x2), (3, .int x3)] [] σ
set_option maxHeartbeats 4000000 in
set_option maxRecDepth 100000 in
theorem B_X1_signOf_7 {l : Launch} {e : hv_Ev} (w : Nat) (hw : w < 7) (x2 : Int32) (x3 : Int32) {σ : hv_S} {Φ : Int32 → hv_S → Prop} (h : hv_CI l (hv_e1 e) 1 m_J0_length_8abf5 [.ref (1000 + w)] σ (fun v5 s4 => ((v5 ≤ x3 → Φ (-1) s4) ∧ (¬ v5 ≤ x3 → hv_CI l (hv_e1 e) 4 m_J0_charAt_5068e [.ref (1000 + w), .int x3] s4 (fun v8 s7 => ((v8 ≠ x2 → L_X1_signOf_7 l e w Φ x2 (x3 + 1) s7) ∧ (v8 = x2 → Φ x3 (hv_ui s7 9 2 ((s7.1 9 2) + 1))))))))) : L_X1_signOf_7 l e w Φ x2 x3 σ := by
  show hv_TW l (hv_e1 e) (hv_rm 5) 0 0 m_X1_signOf hv_no (hv_ZI (hv_e1 e) Φ) 7 [(0, .ref 9), (1, .ref (1000 + w)), (2, .int x2), (3, .int x3)] [] σ
  refine T_iload_n dX1_signOf_7 rfl 3 rfl ?_
  refine T_aload_n dX1_signOf_8 rfl 1 rfl ?_
  refine T_VIs (As := []) dX1_signOf_9 ⟨mw_J0_length_8abf5, (hv_in2 222 (by decide +kernel) rfl), (hv_in2 223 (by decide +kernel) rfl), Or.inl (hv_in2 221 (by decide +kernel) rfl)⟩ hw rfl rfl (Nat.le_of_ble_eq_true rfl) (hv_ok1 rfl) rfl h (fun v5 s4 h6 => ?_)
  refine T_icmp_ge (tgt := 42) dX1_signOf_12 (by decide) (fun c10 => ?_) (fun c10 => ?_)
  · refine T_iconst (v := (-1)) dX1_signOf_42 (by decide) ?_
    exact T_iret dX1_signOf_43 rfl (h6.1 c10)
  · refine T_aload_n dX1_signOf_15 rfl 1 rfl ?_
    refine T_iload_n dX1_signOf_16 rfl 3 rfl ?_
    refine T_VIs (As := [.int x3]) dX1_signOf_17 ⟨mw_J0_charAt_5068e, (hv_in2 232 (by decide +kernel) rfl), (hv_in2 233 (by decide +kernel) rfl), Or.inl (hv_in2 231 (by decide +kernel) rfl)⟩ hw rfl rfl (Nat.le_of_ble_eq_true rfl) (hv_ok1 rfl) rfl (h6.2 c10) (fun v8 s7 h9 => ?_)
    refine T_iload_n dX1_signOf_20 rfl 2 rfl ?_
    refine T_icmp_ne (tgt := 36) dX1_signOf_21 (by decide) (fun c11 => ?_) (fun c11 => ?_)
    · refine T_iinc (v := (x3 + 1)) dX1_signOf_36 3 rfl rfl (by decide) rfl ?_
      refine T_goto (tgt := 7) dX1_signOf_39 (by decide) ?_
      exact T_sub [1, 2, 3, 0] rfl (h9.1 c11)
    · refine T_aload_n dX1_signOf_24 rfl 0 rfl ?_
      refine T_dup dX1_signOf_25 rfl ?_
      refine T_get (v := .int (s7.1 9 2)) dX1_signOf_26 fl_X1_24 hp_9 hs_9 rfl rfl ?_
      refine T_iconst (v := 1) dX1_signOf_29 (by decide) ?_
      refine T_iadd dX1_signOf_30 ?_
      refine T_puti dX1_signOf_31 fl_X1_24 pf_X1_2 hp_9 hs_9 rfl ?_
      refine T_iload_n dX1_signOf_34 rfl 3 rfl ?_
      exact T_iret dX1_signOf_35 rfl (h9.2 c11)
set_option maxHeartbeats 4000000 in
set_option maxRecDepth 100000 in
theorem B_X1_signOf {l : Launch} {e : hv_Ev} (w : Nat) (hw : w < 7)  {σ : hv_S} {Φ : Int32 → hv_S → Prop} (h : hv_CI l (hv_e1 e) 0 m_X1_seen [.ref 9] σ (fun v2 s1 => L_X1_signOf_7 l e w Φ v2 0 s1)) : hv_CI l (hv_e1 e) 5 m_X1_signOf [.ref 9, .ref (1000 + w)] σ Φ := by
  refine hv_entI (by decide) (Nat.le_of_ble_eq_true rfl) ?_
  show hv_TW l (hv_e1 e) (hv_rm 5) 0 0 m_X1_signOf hv_no (hv_ZI (hv_e1 e) Φ) 0 [(0, .ref 9), (1, .ref (1000 + w))] [] σ
  refine T_aload_n dX1_signOf_0 rfl 0 rfl ?_
  refine T_VI (As := []) dX1_signOf_1 mv_X1_34 hp_9 hs_9 rfl (Nat.le_of_ble_eq_true rfl) (hv_ok1 rfl) rfl h (fun v2 s1 h3 => ?_)
  refine T_istore_n dX1_signOf_4 rfl (by decide) rfl ?_
  refine T_iconst (v := 0) dX1_signOf_5 (by decide) ?_
  refine T_istore_n dX1_signOf_6 rfl (by decide) rfl ?_
  exact T_sub [2, 3, 1, 0] rfl h3

set_option maxHeartbeats 4000000 in
set_option maxRecDepth 100000 in
theorem B_X1_test {l : Launch} {e : hv_Ev}   {σ : hv_S} {Φ : Int32 → hv_S → Prop} (h : hv_CI l (hv_e1 e) 5 m_X1_signOf [.ref 9, .ref (1000 + 5)] σ (fun v2 s1 => ((0 ≤ v2 → hv_CI l (hv_e1 e) 5 m_X1_signOf [.ref 9, .ref (1000 + 6)] s1 (fun v5 s4 => ((v5 < 0 → Φ 0 s4) ∧ (¬ v5 < 0 → hv_CI l (hv_e1 e) 1 m_X1_figuresOf [.ref 9] s4 (fun v8 s7 => ((v8 ≠ 0 → (hv_isR (s7.2.2 9 5) ∧ hv_CI l (hv_e1 e) 0 m_X4_test [.int v2, .int v5, .int (s7.1 9 3)] s7 (fun v12 s11 => hv_CV l (hv_e1 e) 0 m_X4_add [.ref (s7.2.2 9 5), .int v12] s11 (fun s14 => Φ 1 s14)))) ∧ (v8 = 0 → Φ 0 s7))))))) ∧ (¬ 0 ≤ v2 → Φ 0 s1)))) : hv_CI l (hv_e1 e) 6 m_X1_test [.ref 9] σ Φ := by
  refine hv_entI (by decide) (Nat.le_of_ble_eq_true rfl) ?_
  show hv_TW l (hv_e1 e) (hv_rm 6) 0 0 m_X1_test hv_no (hv_ZI (hv_e1 e) Φ) 0 [(0, .ref 9)] [] σ
  refine T_aload_n dX1_test_0 rfl 0 rfl ?_
  refine T_ldcS dX1_test_1 rfl (by decide) (show hv_si.getD 5 0 = 103 from rfl) ?_
  refine T_VI (As := [.ref (1000 + 5)]) dX1_test_3 mv_X1_105 hp_9 hs_9 rfl (Nat.le_of_ble_eq_true rfl) (hv_ok1 rfl) rfl h (fun v2 s1 h3 => ?_)
  refine T_istore_n dX1_test_6 rfl (by decide) rfl ?_
  refine T_iload_n dX1_test_7 rfl 0 rfl ?_
  refine T_if_ge (tgt := 13) dX1_test_8 (by decide) (fun c17 => ?_) (fun c17 => ?_)
  · refine T_aload_n dX1_test_13 rfl 1 rfl ?_
    refine T_ldcS dX1_test_14 rfl (by decide) (show hv_si.getD 6 0 = 109 from rfl) ?_
    refine T_VI (As := [.ref (1000 + 6)]) dX1_test_16 mv_X1_105 hp_9 hs_9 rfl (Nat.le_of_ble_eq_true rfl) (hv_ok1 rfl) rfl (h3.1 c17) (fun v5 s4 h6 => ?_)
    refine T_istore_n dX1_test_19 rfl (by decide) rfl ?_
    refine T_iload_n dX1_test_20 rfl 0 rfl ?_
    refine T_if_lt (tgt := 31) dX1_test_21 (by decide) (fun c18 => ?_) (fun c18 => ?_)
    · refine T_iconst (v := 0) dX1_test_31 (by decide) ?_
      exact T_zret dX1_test_32 rfl (by decide) (h6.1 c18)
    · refine T_aload_n dX1_test_24 rfl 2 rfl ?_
      refine T_VI (As := []) dX1_test_25 mv_X1_50 hp_9 hs_9 rfl (Nat.le_of_ble_eq_true rfl) (hv_ok1 rfl) rfl (h6.2 c18) (fun v8 s7 h9 => ?_)
      refine T_if_ne (tgt := 33) dX1_test_28 (by decide) (fun c19 => ?_) (fun c19 => ?_)
      · refine T_aload_n dX1_test_33 rfl 2 rfl ?_
        have b10 := (h9.1 c19).1
        refine T_get (v := .ref (s7.2.2 9 5)) dX1_test_34 fl_X1_16 hp_9 hs_9 rfl rfl ?_
        refine T_iload_n dX1_test_37 rfl 1 rfl ?_
        refine T_iload_n dX1_test_38 rfl 0 rfl ?_
        refine T_aload_n dX1_test_39 rfl 2 rfl ?_
        refine T_get (v := .int (s7.1 9 3)) dX1_test_40 fl_X1_53 hp_9 hs_9 rfl rfl ?_
        refine T_SI (As := [.int v2, .int v5, .int (s7.1 9 3)]) dX1_test_43 ms_X1_111 rfl (Nat.le_of_ble_eq_true rfl) (hv_ok1 rfl) rfl ((h9.1 c19).2) (fun v12 s11 h13 => ?_)
        refine T_VV (As := [.int v12]) dX1_test_46 mv_X1_96 (hv_isRp b10) (hv_isRs b10) rfl (Nat.le_of_ble_eq_true rfl) (hv_ok1 rfl) rfl h13 (fun s14 h16 => ?_)
        refine T_iconst (v := 1) dX1_test_49 (by decide) ?_
        exact T_zret dX1_test_50 rfl (by decide) h16
      · refine T_iconst (v := 0) dX1_test_31 (by decide) ?_
        exact T_zret dX1_test_32 rfl (by decide) (h9.2 c19)
  · refine T_iconst (v := 0) dX1_test_11 (by decide) ?_
    exact T_zret dX1_test_12 rfl (by decide) (h3.2 c17)

def L_X1_single_22 (l : Launch) (e : hv_Ev) (d : Nat) (d2 : Nat) (Φ : Int32 → hv_S → Prop) (x1 : Int32) (x2 : Int32) (σ : hv_S) : Prop := hv_TW l (hv_e1 e) (hv_rm d) 0 0 m_X1_single hv_no (hv_ZI (hv_e1 e) Φ) 22 [(0, .ref 9), (1, .int x1), (2, .int x2)] [] σ
set_option maxHeartbeats 4000000 in
set_option maxRecDepth 100000 in
theorem B_X1_single_22 {l : Launch} {e : hv_Ev} (d : Nat) (d2 : Nat) (hd2 : d2 + 1 ≤ d) (hd : 7 ≤ d) (x1 : Int32) (x2 : Int32) {σ : hv_S} {Φ : Int32 → hv_S → Prop} (h : ((x1 < 4 → ((x2 ≠ 33 → hv_CI l (hv_e1 e) d2 m_X1_either [.ref 9, .int (x1 + 1)] (hv_ui σ 9 2 ((σ.1 9 2) + 1)) (fun v10 s9 => ((v10 = 0 → Φ 0 s9) ∧ (¬ v10 = 0 → hv_CI l (hv_e1 e) 0 m_X1_seen [.ref 9] s9 (fun v13 s12 => ((v13 = 41 → Φ 1 (hv_ui s12 9 2 ((s12.1 9 2) + 1))) ∧ (¬ v13 = 41 → Φ 0 s12))))))) ∧ (x2 = 33 → hv_CI l (hv_e1 e) d2 m_X1_single [.ref 9, .int (x1 + 1)] (hv_ui σ 9 2 ((σ.1 9 2) + 1)) (fun v16 s15 => ((v16 ≠ 0 → (hv_isR (s15.2.2 9 5) ∧ hv_CV l (hv_e1 e) 0 m_X4_add [.ref (s15.2.2 9 5), .int (-1)] s15 (fun s19 => Φ 1 s19))) ∧ (v16 = 0 → Φ 0 s15)))))) ∧ (¬ x1 < 4 → Φ 0 σ))) : L_X1_single_22 l e d d2 Φ x1 x2 σ := by
  show hv_TW l (hv_e1 e) (hv_rm d) 0 0 m_X1_single hv_no (hv_ZI (hv_e1 e) Φ) 22 [(0, .ref 9), (1, .int x1), (2, .int x2)] [] σ
  refine T_iload_n dX1_single_22 rfl 1 rfl ?_
  refine T_iconst (v := 4) dX1_single_23 (by decide) ?_
  refine T_icmp_lt (tgt := 29) dX1_single_24 (by decide) (fun c22 => ?_) (fun c22 => ?_)
  · refine T_aload_n dX1_single_29 rfl 0 rfl ?_
    refine T_dup dX1_single_30 rfl ?_
    refine T_get (v := .int (σ.1 9 2)) dX1_single_31 fl_X1_24 hp_9 hs_9 rfl rfl ?_
    refine T_iconst (v := 1) dX1_single_34 (by decide) ?_
    refine T_iadd dX1_single_35 ?_
    refine T_puti dX1_single_36 fl_X1_24 pf_X1_2 hp_9 hs_9 rfl ?_
    refine T_iload_n dX1_single_39 rfl 2 rfl ?_
    refine T_bipush (v := 33) dX1_single_40 (by decide) ?_
    refine T_icmp_ne (tgt := 67) dX1_single_42 (by decide) (fun c23 => ?_) (fun c23 => ?_)
    · refine T_aload_n dX1_single_67 rfl 0 rfl ?_
      refine T_iload_n dX1_single_68 rfl 1 rfl ?_
      refine T_iconst (v := 1) dX1_single_69 (by decide) ?_
      refine T_iadd dX1_single_70 ?_
      refine T_VI (As := [.int (x1 + 1)]) dX1_single_71 mv_X1_44 hp_9 hs_9 rfl (Nat.le_of_ble_eq_true rfl) (hv_ok2 hd2 (by decide)) rfl ((h.1 c22).1 c23) (fun v10 s9 h11 => ?_)
      refine T_if_eq (tgt := 86) dX1_single_74 (by decide) (fun c24 => ?_) (fun c24 => ?_)
      · refine T_iconst (v := 0) dX1_single_86 (by decide) ?_
        exact T_zret dX1_single_87 rfl (by decide) (h11.1 c24)
      · refine T_aload_n dX1_single_77 rfl 0 rfl ?_
        refine T_VI (As := []) dX1_single_78 mv_X1_34 hp_9 hs_9 rfl (Nat.le_of_ble_eq_true rfl) (hv_ok2 (by omega) (by decide)) rfl (h11.2 c24) (fun v13 s12 h14 => ?_)
        refine T_bipush (v := 41) dX1_single_81 (by decide) ?_
        refine T_icmp_eq (tgt := 88) dX1_single_83 (by decide) (fun c25 => ?_) (fun c25 => ?_)
        · refine T_aload_n dX1_single_88 rfl 0 rfl ?_
          refine T_dup dX1_single_89 rfl ?_
          refine T_get (v := .int (s12.1 9 2)) dX1_single_90 fl_X1_24 hp_9 hs_9 rfl rfl ?_
          refine T_iconst (v := 1) dX1_single_93 (by decide) ?_
          refine T_iadd dX1_single_94 ?_
          refine T_puti dX1_single_95 fl_X1_24 pf_X1_2 hp_9 hs_9 rfl ?_
          refine T_iconst (v := 1) dX1_single_98 (by decide) ?_
          exact T_zret dX1_single_99 rfl (by decide) (h14.1 c25)
        · refine T_iconst (v := 0) dX1_single_86 (by decide) ?_
          exact T_zret dX1_single_87 rfl (by decide) (h14.2 c25)
    · refine T_aload_n dX1_single_45 rfl 0 rfl ?_
      refine T_iload_n dX1_single_46 rfl 1 rfl ?_
      refine T_iconst (v := 1) dX1_single_47 (by decide) ?_
      refine T_iadd dX1_single_48 ?_
      refine T_VI (As := [.int (x1 + 1)]) dX1_single_49 mv_X1_93 hp_9 hs_9 rfl (Nat.le_of_ble_eq_true rfl) (hv_ok2 hd2 (by decide)) rfl ((h.1 c22).2 c23) (fun v16 s15 h17 => ?_)
      refine T_if_ne (tgt := 57) dX1_single_52 (by decide) (fun c26 => ?_) (fun c26 => ?_)
      · refine T_aload_n dX1_single_57 rfl 0 rfl ?_
        have b18 := (h17.1 c26).1
        refine T_get (v := .ref (s15.2.2 9 5)) dX1_single_58 fl_X1_16 hp_9 hs_9 rfl rfl ?_
        refine T_iconst (v := (-1)) dX1_single_61 (by decide) ?_
        refine T_VV (As := [.int (-1)]) dX1_single_62 mv_X1_96 (hv_isRp b18) (hv_isRs b18) rfl (Nat.le_of_ble_eq_true rfl) (hv_ok2 (by omega) (by decide)) rfl ((h17.1 c26).2) (fun s19 h21 => ?_)
        refine T_iconst (v := 1) dX1_single_65 (by decide) ?_
        exact T_zret dX1_single_66 rfl (by decide) h21
      · refine T_iconst (v := 0) dX1_single_55 (by decide) ?_
        exact T_zret dX1_single_56 rfl (by decide) (h17.2 c26)
  · refine T_iconst (v := 0) dX1_single_27 (by decide) ?_
    exact T_zret dX1_single_28 rfl (by decide) (h.2 c22)
set_option maxHeartbeats 4000000 in
set_option maxRecDepth 100000 in
theorem B_X1_single {l : Launch} {e : hv_Ev} (d : Nat) (d2 : Nat) (hd2 : d2 + 1 ≤ d) (hd : 7 ≤ d) (x1 : Int32) {σ : hv_S} {Φ : Int32 → hv_S → Prop} (h : hv_CI l (hv_e1 e) 0 m_X1_seen [.ref 9] σ (fun v2 s1 => ((v2 = 33 → L_X1_single_22 l e d d2 Φ x1 v2 s1) ∧ (¬ v2 = 33 → ((v2 = 40 → L_X1_single_22 l e d d2 Φ x1 v2 s1) ∧ (¬ v2 = 40 → hv_CI l (hv_e1 e) 6 m_X1_test [.ref 9] s1 (fun v5 s4 => ((v5 = 0 ∨ v5 = 1) ∧ Φ v5 s4)))))))) : hv_CI l (hv_e1 e) d m_X1_single [.ref 9, .int x1] σ Φ := by
  refine hv_entI (by decide) (Nat.le_of_ble_eq_true rfl) ?_
  show hv_TW l (hv_e1 e) (hv_rm d) 0 0 m_X1_single hv_no (hv_ZI (hv_e1 e) Φ) 0 [(0, .ref 9), (1, .int x1)] [] σ
  refine T_aload_n dX1_single_0 rfl 0 rfl ?_
  refine T_VI (As := []) dX1_single_1 mv_X1_34 hp_9 hs_9 rfl (Nat.le_of_ble_eq_true rfl) (hv_ok2 (by omega) (by decide)) rfl h (fun v2 s1 h3 => ?_)
  refine T_istore_n dX1_single_4 rfl (by decide) rfl ?_
  refine T_iload_n dX1_single_5 rfl 0 rfl ?_
  refine T_bipush (v := 33) dX1_single_6 (by decide) ?_
  refine T_icmp_eq (tgt := 22) dX1_single_8 (by decide) (fun c7 => ?_) (fun c7 => ?_)
  · exact T_sub [1, 2, 0] rfl (h3.1 c7)
  · refine T_iload_n dX1_single_11 rfl 0 rfl ?_
    refine T_bipush (v := 40) dX1_single_12 (by decide) ?_
    refine T_icmp_eq (tgt := 22) dX1_single_14 (by decide) (fun c8 => ?_) (fun c8 => ?_)
    · exact T_sub [1, 2, 0] rfl ((h3.2 c7).1 c8)
    · refine T_aload_n dX1_single_17 rfl 1 rfl ?_
      refine T_VI (As := []) dX1_single_18 mv_X1_100 hp_9 hs_9 rfl (Nat.le_of_ble_eq_true rfl) (hv_ok2 (by omega) (by decide)) rfl ((h3.2 c7).2 c8) (fun v5 s4 h6 => ?_)
      exact T_zret dX1_single_21 rfl h6.1 h6.2

def L_X1_either_2 (l : Launch) (e : hv_Ev) (d : Nat) (d2 : Nat) (Φ : Int32 → hv_S → Prop) (x1 : Int32) (x2 : Int32) (σ : hv_S) : Prop := hv_TW l (hv_e1 e) (hv_rm d) 0 0 m_X1_either hv_no (hv_ZI (hv_e1 e) Φ) 2 [(0, .ref 9), (1, .int x1), (2, .int x2)] [] σ
def L_X1_either_20 (l : Launch) (e : hv_Ev) (d : Nat) (d2 : Nat) (Φ : Int32 → hv_S → Prop) (x1 : Int32) (x2 : Int32) (x3 : Int32) (σ : hv_S) : Prop := hv_TW l (hv_e1 e) (hv_rm d) 0 0 m_X1_either hv_no (hv_ZI (hv_e1 e) Φ) 20 [(0, .ref 9), (1, .int x1), (2, .int x2), (3, .int x3)] [] σ
def L_X1_either_70 (l : Launch) (e : hv_Ev) (d : Nat) (d2 : Nat) (Φ : Int32 → hv_S → Prop) (x1 : Int32) (x2 : Int32) (σ : hv_S) : Prop := hv_TW l (hv_e1 e) (hv_rm d) 0 0 m_X1_either hv_no (hv_ZI (hv_e1 e) Φ) 70 [(0, .ref 9), (1, .int x1), (2, .int x2)] [] σ
set_option maxHeartbeats 4000000 in
set_option maxRecDepth 100000 in
theorem B_X1_either_70 {l : Launch} {e : hv_Ev} (d : Nat) (d2 : Nat) (hd2 : d2 + 1 ≤ d) (hd : 7 ≤ d) (x1 : Int32) (x2 : Int32) {σ : hv_S} {Φ : Int32 → hv_S → Prop} (h : ((x2 ≤ 0 → hv_CI l (hv_e1 e) 0 m_X1_seen [.ref 9] σ (fun v20 s19 => ((v20 = 124 → L_X1_either_2 l e d d2 Φ x1 (x2 + 1) (hv_ui s19 9 2 ((s19.1 9 2) + 1))) ∧ (¬ v20 = 124 → Φ 1 s19)))) ∧ (¬ x2 ≤ 0 → (hv_isR (σ.2.2 9 5) ∧ hv_CV l (hv_e1 e) 0 m_X4_add [.ref (σ.2.2 9 5), .int (-3)] σ (fun s23 => hv_CI l (hv_e1 e) 0 m_X1_seen [.ref 9] s23 (fun v27 s26 => ((v27 = 124 → L_X1_either_2 l e d d2 Φ x1 (x2 + 1) (hv_ui s26 9 2 ((s26.1 9 2) + 1))) ∧ (¬ v27 = 124 → Φ 1 s26)))))))) : L_X1_either_70 l e d d2 Φ x1 x2 σ := by
  show hv_TW l (hv_e1 e) (hv_rm d) 0 0 m_X1_either hv_no (hv_ZI (hv_e1 e) Φ) 70 [(0, .ref 9), (1, .int x1), (2, .int x2)] [] σ
  refine T_iload_n dX1_either_70 rfl 2 rfl ?_
  refine T_if_le (tgt := 83) dX1_either_71 (by decide) (fun c29 => ?_) (fun c29 => ?_)
  · refine T_aload_n dX1_either_83 rfl 0 rfl ?_
    refine T_VI (As := []) dX1_either_84 mv_X1_34 hp_9 hs_9 rfl (Nat.le_of_ble_eq_true rfl) (hv_ok2 (by omega) (by decide)) rfl (h.1 c29) (fun v20 s19 h21 => ?_)
    refine T_bipush (v := 124) dX1_either_87 (by decide) ?_
    refine T_icmp_eq (tgt := 94) dX1_either_89 (by decide) (fun c30 => ?_) (fun c30 => ?_)
    · refine T_aload_n dX1_either_94 rfl 0 rfl ?_
      refine T_dup dX1_either_95 rfl ?_
      refine T_get (v := .int (s19.1 9 2)) dX1_either_96 fl_X1_24 hp_9 hs_9 rfl rfl ?_
      refine T_iconst (v := 1) dX1_either_99 (by decide) ?_
      refine T_iadd dX1_either_100 ?_
      refine T_puti dX1_either_101 fl_X1_24 pf_X1_2 hp_9 hs_9 rfl ?_
      refine T_iinc (v := (x2 + 1)) dX1_either_104 2 rfl rfl (by decide) rfl ?_
      refine T_goto (tgt := 2) dX1_either_107 (by decide) ?_
      exact T_sub [1, 2, 0] rfl (h21.1 c30)
    · refine T_iconst (v := 1) dX1_either_92 (by decide) ?_
      exact T_zret dX1_either_93 rfl (by decide) (h21.2 c30)
  · refine T_aload_n dX1_either_74 rfl 0 rfl ?_
    have b22 := (h.2 c29).1
    refine T_get (v := .ref (σ.2.2 9 5)) dX1_either_75 fl_X1_16 hp_9 hs_9 rfl rfl ?_
    refine T_bipush (v := (-3)) dX1_either_78 (by decide) ?_
    refine T_VV (As := [.int (-3)]) dX1_either_80 mv_X1_96 (hv_isRp b22) (hv_isRs b22) rfl (Nat.le_of_ble_eq_true rfl) (hv_ok2 (by omega) (by decide)) rfl ((h.2 c29).2) (fun s23 h25 => ?_)
    refine T_aload_n dX1_either_83 rfl 0 rfl ?_
    refine T_VI (As := []) dX1_either_84 mv_X1_34 hp_9 hs_9 rfl (Nat.le_of_ble_eq_true rfl) (hv_ok2 (by omega) (by decide)) rfl h25 (fun v27 s26 h28 => ?_)
    refine T_bipush (v := 124) dX1_either_87 (by decide) ?_
    refine T_icmp_eq (tgt := 94) dX1_either_89 (by decide) (fun c31 => ?_) (fun c31 => ?_)
    · refine T_aload_n dX1_either_94 rfl 0 rfl ?_
      refine T_dup dX1_either_95 rfl ?_
      refine T_get (v := .int (s26.1 9 2)) dX1_either_96 fl_X1_24 hp_9 hs_9 rfl rfl ?_
      refine T_iconst (v := 1) dX1_either_99 (by decide) ?_
      refine T_iadd dX1_either_100 ?_
      refine T_puti dX1_either_101 fl_X1_24 pf_X1_2 hp_9 hs_9 rfl ?_
      refine T_iinc (v := (x2 + 1)) dX1_either_104 2 rfl rfl (by decide) rfl ?_
      refine T_goto (tgt := 2) dX1_either_107 (by decide) ?_
      exact T_sub [1, 2, 0] rfl (h28.1 c31)
    · refine T_iconst (v := 1) dX1_either_92 (by decide) ?_
      exact T_zret dX1_either_93 rfl (by decide) (h28.2 c31)
set_option maxHeartbeats 4000000 in
set_option maxRecDepth 100000 in
theorem B_X1_either_20 {l : Launch} {e : hv_Ev} (d : Nat) (d2 : Nat) (hd2 : d2 + 1 ≤ d) (hd : 7 ≤ d) (x1 : Int32) (x2 : Int32) (x3 : Int32) {σ : hv_S} {Φ : Int32 → hv_S → Prop} (h : ((100 ≤ x3 → L_X1_either_70 l e d d2 Φ x1 x2 σ) ∧ (¬ 100 ≤ x3 → hv_CI l (hv_e1 e) 0 m_X1_seen [.ref 9] σ (fun v7 s6 => ((v7 ≠ 38 → L_X1_either_70 l e d d2 Φ x1 x2 s6) ∧ (v7 = 38 → hv_CI l (hv_e1 e) d2 m_X1_single [.ref 9, .int x1] (hv_ui s6 9 2 ((s6.1 9 2) + 1)) (fun v10 s9 => ((v10 ≠ 0 → (hv_isR (s9.2.2 9 5) ∧ hv_CV l (hv_e1 e) 0 m_X4_add [.ref (s9.2.2 9 5), .int (-2)] s9 (fun s13 => L_X1_either_20 l e d d2 Φ x1 x2 (x3 + 1) s13))) ∧ (v10 = 0 → Φ 0 s9))))))))) : L_X1_either_20 l e d d2 Φ x1 x2 x3 σ := by
  show hv_TW l (hv_e1 e) (hv_rm d) 0 0 m_X1_either hv_no (hv_ZI (hv_e1 e) Φ) 20 [(0, .ref 9), (1, .int x1), (2, .int x2), (3, .int x3)] [] σ
  refine T_iload_n dX1_either_20 rfl 3 rfl ?_
  refine T_bipush (v := 100) dX1_either_21 (by decide) ?_
  refine T_icmp_ge (tgt := 70) dX1_either_23 (by decide) (fun c16 => ?_) (fun c16 => ?_)
  · exact T_sub [0, 1, 2] rfl (h.1 c16)
  · refine T_aload_n dX1_either_26 rfl 0 rfl ?_
    refine T_VI (As := []) dX1_either_27 mv_X1_34 hp_9 hs_9 rfl (Nat.le_of_ble_eq_true rfl) (hv_ok2 (by omega) (by decide)) rfl (h.2 c16) (fun v7 s6 h8 => ?_)
    refine T_bipush (v := 38) dX1_either_30 (by decide) ?_
    refine T_icmp_ne (tgt := 70) dX1_either_32 (by decide) (fun c17 => ?_) (fun c17 => ?_)
    · exact T_sub [0, 1, 2] rfl (h8.1 c17)
    · refine T_aload_n dX1_either_35 rfl 0 rfl ?_
      refine T_dup dX1_either_36 rfl ?_
      refine T_get (v := .int (s6.1 9 2)) dX1_either_37 fl_X1_24 hp_9 hs_9 rfl rfl ?_
      refine T_iconst (v := 1) dX1_either_40 (by decide) ?_
      refine T_iadd dX1_either_41 ?_
      refine T_puti dX1_either_42 fl_X1_24 pf_X1_2 hp_9 hs_9 rfl ?_
      refine T_aload_n dX1_either_45 rfl 0 rfl ?_
      refine T_iload_n dX1_either_46 rfl 1 rfl ?_
      refine T_VI (As := [.int x1]) dX1_either_47 mv_X1_93 hp_9 hs_9 rfl (Nat.le_of_ble_eq_true rfl) (hv_ok2 hd2 (by decide)) rfl (h8.2 c17) (fun v10 s9 h11 => ?_)
      refine T_if_ne (tgt := 55) dX1_either_50 (by decide) (fun c18 => ?_) (fun c18 => ?_)
      · refine T_aload_n dX1_either_55 rfl 0 rfl ?_
        have b12 := (h11.1 c18).1
        refine T_get (v := .ref (s9.2.2 9 5)) dX1_either_56 fl_X1_16 hp_9 hs_9 rfl rfl ?_
        refine T_bipush (v := (-2)) dX1_either_59 (by decide) ?_
        refine T_VV (As := [.int (-2)]) dX1_either_61 mv_X1_96 (hv_isRp b12) (hv_isRs b12) rfl (Nat.le_of_ble_eq_true rfl) (hv_ok2 (by omega) (by decide)) rfl ((h11.1 c18).2) (fun s13 h15 => ?_)
        refine T_iinc (v := (x3 + 1)) dX1_either_64 3 rfl rfl (by decide) rfl ?_
        refine T_goto (tgt := 20) dX1_either_67 (by decide) ?_
        exact T_sub [1, 2, 3, 0] rfl h15
      · refine T_iconst (v := 0) dX1_either_53 (by decide) ?_
        exact T_zret dX1_either_54 rfl (by decide) (h11.2 c18)
set_option maxHeartbeats 4000000 in
set_option maxRecDepth 100000 in
theorem B_X1_either_2 {l : Launch} {e : hv_Ev} (d : Nat) (d2 : Nat) (hd2 : d2 + 1 ≤ d) (hd : 7 ≤ d) (x1 : Int32) (x2 : Int32) {σ : hv_S} {Φ : Int32 → hv_S → Prop} (h : ((100 ≤ x2 → Φ 0 σ) ∧ (¬ 100 ≤ x2 → hv_CI l (hv_e1 e) d2 m_X1_single [.ref 9, .int x1] σ (fun v2 s1 => ((v2 ≠ 0 → L_X1_either_20 l e d d2 Φ x1 x2 0 s1) ∧ (v2 = 0 → Φ 0 s1)))))) : L_X1_either_2 l e d d2 Φ x1 x2 σ := by
  show hv_TW l (hv_e1 e) (hv_rm d) 0 0 m_X1_either hv_no (hv_ZI (hv_e1 e) Φ) 2 [(0, .ref 9), (1, .int x1), (2, .int x2)] [] σ
  refine T_iload_n dX1_either_2 rfl 2 rfl ?_
  refine T_bipush (v := 100) dX1_either_3 (by decide) ?_
  refine T_icmp_ge (tgt := 110) dX1_either_5 (by decide) (fun c4 => ?_) (fun c4 => ?_)
  · refine T_iconst (v := 0) dX1_either_110 (by decide) ?_
    exact T_zret dX1_either_111 rfl (by decide) (h.1 c4)
  · refine T_aload_n dX1_either_8 rfl 0 rfl ?_
    refine T_iload_n dX1_either_9 rfl 1 rfl ?_
    refine T_VI (As := [.int x1]) dX1_either_10 mv_X1_93 hp_9 hs_9 rfl (Nat.le_of_ble_eq_true rfl) (hv_ok2 hd2 (by decide)) rfl (h.2 c4) (fun v2 s1 h3 => ?_)
    refine T_if_ne (tgt := 18) dX1_either_13 (by decide) (fun c5 => ?_) (fun c5 => ?_)
    · refine T_iconst (v := 0) dX1_either_18 (by decide) ?_
      refine T_istore_n dX1_either_19 rfl (by decide) rfl ?_
      exact T_sub [1, 2, 3, 0] rfl (h3.1 c5)
    · refine T_iconst (v := 0) dX1_either_16 (by decide) ?_
      exact T_zret dX1_either_17 rfl (by decide) (h3.2 c5)
set_option maxHeartbeats 4000000 in
set_option maxRecDepth 100000 in
theorem B_X1_either {l : Launch} {e : hv_Ev} (d : Nat) (d2 : Nat) (hd2 : d2 + 1 ≤ d) (hd : 7 ≤ d) (x1 : Int32) {σ : hv_S} {Φ : Int32 → hv_S → Prop} (h : L_X1_either_2 l e d d2 Φ x1 0 σ) : hv_CI l (hv_e1 e) d m_X1_either [.ref 9, .int x1] σ Φ := by
  refine hv_entI (by decide) (Nat.le_of_ble_eq_true rfl) ?_
  show hv_TW l (hv_e1 e) (hv_rm d) 0 0 m_X1_either hv_no (hv_ZI (hv_e1 e) Φ) 0 [(0, .ref 9), (1, .int x1)] [] σ
  refine T_iconst (v := 0) dX1_either_0 (by decide) ?_
  refine T_istore_n dX1_either_1 rfl (by decide) rfl ?_
  exact T_sub [1, 2, 0] rfl h

set_option maxHeartbeats 4000000 in
set_option maxRecDepth 100000 in
theorem B_X1_clause {l : Launch} {e : hv_Ev}   {σ : hv_S} {Φ : Int32 → hv_S → Prop} (h : hv_CI l (hv_e1 e) 0 m_X1_seen [.ref 9] σ (fun v2 s1 => ((v2 = 98 → hv_CI l (hv_e1 e) 5 m_X1_word [.ref 9, .ref (1000 + 0)] s1 (fun v5 s4 => ((v5 = 0 → Φ 0 s4) ∧ (¬ v5 = 0 → hv_CI l (hv_e1 e) 16 m_X1_either [.ref 9, .int 0] s4 (fun v8 s7 => ((v8 = 0 → Φ 0 s7) ∧ (¬ v8 = 0 → Φ 1 s7))))))) ∧ (v2 = 99 → hv_CI l (hv_e1 e) 5 m_X1_word [.ref 9, .ref (1000 + 1)] s1 (fun v11 s10 => ((v11 = 0 → Φ 0 s10) ∧ (¬ v11 = 0 → hv_CI l (hv_e1 e) 1 m_X1_figuresOf [.ref 9] s10 (fun v14 s13 => ((v14 ≠ 0 → (hv_isR (s13.2.2 9 5) ∧ Φ 1 (hv_ui s13 (s13.2.2 9 5) 2 (s13.1 9 3)))) ∧ (v14 = 0 → Φ 0 s13))))))) ∧ (v2 = 110 → hv_CI l (hv_e1 e) 5 m_X1_word [.ref 9, .ref (1000 + 2)] s1 (fun v18 s17 => ((v18 = 0 → Φ 0 s17) ∧ (¬ v18 = 0 → hv_CI l (hv_e1 e) 6 m_X1_need [.ref 9] s17 (fun v21 s20 => ((v21 = 0 → Φ 0 s20) ∧ (¬ v21 = 0 → Φ 1 s20))))))) ∧ (v2 = 114 → hv_CI l (hv_e1 e) 5 m_X1_word [.ref 9, .ref (1000 + 3)] s1 (fun v24 s23 => ((v24 = 0 → Φ 0 s23) ∧ (¬ v24 = 0 → hv_CI l (hv_e1 e) 1 m_X1_ring [.ref 9] s23 (fun v27 s26 => ((v27 = 0 → Φ 0 s26) ∧ (¬ v27 = 0 → Φ 1 s26))))))) ∧ (¬ v2 = 98 → ¬ v2 = 99 → ¬ v2 = 110 → ¬ v2 = 114 → Φ 0 s1)))) : hv_CI l (hv_e1 e) 17 m_X1_clause [.ref 9] σ Φ := by
  refine hv_entI (by decide) (Nat.le_of_ble_eq_true rfl) ?_
  show hv_TW l (hv_e1 e) (hv_rm 17) 0 0 m_X1_clause hv_no (hv_ZI (hv_e1 e) Φ) 0 [(0, .ref 9)] [] σ
  refine T_aload_n dX1_clause_0 rfl 0 rfl ?_
  refine T_VI (As := []) dX1_clause_1 mv_X1_34 hp_9 hs_9 rfl (Nat.le_of_ble_eq_true rfl) (hv_ok1 rfl) rfl h (fun v2 s1 h3 => ?_)
  by_cases c29 : v2 = 98
  · refine T_lookup (off := 44) (tgt := 48) dX1_clause_4 (by decide) (by rw [c29]; decide) (by decide) ?_
    refine T_aload_n dX1_clause_48 rfl 0 rfl ?_
    refine T_ldcS dX1_clause_49 rfl (by decide) (show hv_si.getD 0 0 = 38 from rfl) ?_
    refine T_VI (As := [.ref (1000 + 0)]) dX1_clause_51 mv_X1_40 hp_9 hs_9 rfl (Nat.le_of_ble_eq_true rfl) (hv_ok1 rfl) rfl (h3.1 c29) (fun v5 s4 h6 => ?_)
    refine T_if_eq (tgt := 69) dX1_clause_54 (by decide) (fun c30 => ?_) (fun c30 => ?_)
    · refine T_iconst (v := 0) dX1_clause_69 (by decide) ?_
      exact T_zret dX1_clause_70 rfl (by decide) (h6.1 c30)
    · refine T_aload_n dX1_clause_57 rfl 0 rfl ?_
      refine T_iconst (v := 0) dX1_clause_58 (by decide) ?_
      refine T_VI (As := [.int 0]) dX1_clause_59 mv_X1_44 hp_9 hs_9 rfl (Nat.le_of_ble_eq_true rfl) (hv_ok1 rfl) rfl (h6.2 c30) (fun v8 s7 h9 => ?_)
      refine T_if_eq (tgt := 69) dX1_clause_62 (by decide) (fun c31 => ?_) (fun c31 => ?_)
      · refine T_iconst (v := 0) dX1_clause_69 (by decide) ?_
        exact T_zret dX1_clause_70 rfl (by decide) (h9.1 c31)
      · refine T_iconst (v := 1) dX1_clause_65 (by decide) ?_
        refine T_goto (tgt := 70) dX1_clause_66 (by decide) ?_
        exact T_zret dX1_clause_70 rfl (by decide) (h9.2 c31)
  · skip
    by_cases c32 : v2 = 99
    · refine T_lookup (off := 67) (tgt := 71) dX1_clause_4 (by decide) (by rw [c32]; decide) (by decide) ?_
      refine T_aload_n dX1_clause_71 rfl 0 rfl ?_
      refine T_ldcS dX1_clause_72 rfl (by decide) (show hv_si.getD 1 0 = 48 from rfl) ?_
      refine T_VI (As := [.ref (1000 + 1)]) dX1_clause_74 mv_X1_40 hp_9 hs_9 rfl (Nat.le_of_ble_eq_true rfl) (hv_ok1 rfl) rfl (h3.2.1 c32) (fun v11 s10 h12 => ?_)
      refine T_if_eq (tgt := 87) dX1_clause_77 (by decide) (fun c33 => ?_) (fun c33 => ?_)
      · refine T_iconst (v := 0) dX1_clause_87 (by decide) ?_
        exact T_zret dX1_clause_88 rfl (by decide) (h12.1 c33)
      · refine T_aload_n dX1_clause_80 rfl 0 rfl ?_
        refine T_VI (As := []) dX1_clause_81 mv_X1_50 hp_9 hs_9 rfl (Nat.le_of_ble_eq_true rfl) (hv_ok1 rfl) rfl (h12.2 c33) (fun v14 s13 h15 => ?_)
        refine T_if_ne (tgt := 89) dX1_clause_84 (by decide) (fun c34 => ?_) (fun c34 => ?_)
        · refine T_aload_n dX1_clause_89 rfl 0 rfl ?_
          have b16 := (h15.1 c34).1
          refine T_get (v := .ref (s13.2.2 9 5)) dX1_clause_90 fl_X1_16 hp_9 hs_9 rfl rfl ?_
          refine T_aload_n dX1_clause_93 rfl 0 rfl ?_
          refine T_get (v := .int (s13.1 9 3)) dX1_clause_94 fl_X1_53 hp_9 hs_9 rfl rfl ?_
          refine T_puti dX1_clause_97 fl_X1_56 pf_X4_2 (hv_isRp b16) (hv_isRs b16) rfl ?_
          refine T_iconst (v := 1) dX1_clause_100 (by decide) ?_
          exact T_zret dX1_clause_101 rfl (by decide) ((h15.1 c34).2)
        · refine T_iconst (v := 0) dX1_clause_87 (by decide) ?_
          exact T_zret dX1_clause_88 rfl (by decide) (h15.2 c34)
    · skip
      by_cases c35 : v2 = 110
      · refine T_lookup (off := 98) (tgt := 102) dX1_clause_4 (by decide) (by rw [c35]; decide) (by decide) ?_
        refine T_aload_n dX1_clause_102 rfl 0 rfl ?_
        refine T_ldcS dX1_clause_103 rfl (by decide) (show hv_si.getD 2 0 = 59 from rfl) ?_
        refine T_VI (As := [.ref (1000 + 2)]) dX1_clause_105 mv_X1_40 hp_9 hs_9 rfl (Nat.le_of_ble_eq_true rfl) (hv_ok1 rfl) rfl (h3.2.2.1 c35) (fun v18 s17 h19 => ?_)
        refine T_if_eq (tgt := 122) dX1_clause_108 (by decide) (fun c36 => ?_) (fun c36 => ?_)
        · refine T_iconst (v := 0) dX1_clause_122 (by decide) ?_
          exact T_zret dX1_clause_123 rfl (by decide) (h19.1 c36)
        · refine T_aload_n dX1_clause_111 rfl 0 rfl ?_
          refine T_VI (As := []) dX1_clause_112 mv_X1_61 hp_9 hs_9 rfl (Nat.le_of_ble_eq_true rfl) (hv_ok1 rfl) rfl (h19.2 c36) (fun v21 s20 h22 => ?_)
          refine T_if_eq (tgt := 122) dX1_clause_115 (by decide) (fun c37 => ?_) (fun c37 => ?_)
          · refine T_iconst (v := 0) dX1_clause_122 (by decide) ?_
            exact T_zret dX1_clause_123 rfl (by decide) (h22.1 c37)
          · refine T_iconst (v := 1) dX1_clause_118 (by decide) ?_
            refine T_goto (tgt := 123) dX1_clause_119 (by decide) ?_
            exact T_zret dX1_clause_123 rfl (by decide) (h22.2 c37)
      · skip
        by_cases c38 : v2 = 114
        · refine T_lookup (off := 120) (tgt := 124) dX1_clause_4 (by decide) (by rw [c38]; decide) (by decide) ?_
          refine T_aload_n dX1_clause_124 rfl 0 rfl ?_
          refine T_ldcS dX1_clause_125 rfl (by decide) (show hv_si.getD 3 0 = 64 from rfl) ?_
          refine T_VI (As := [.ref (1000 + 3)]) dX1_clause_127 mv_X1_40 hp_9 hs_9 rfl (Nat.le_of_ble_eq_true rfl) (hv_ok1 rfl) rfl (h3.2.2.2.1 c38) (fun v24 s23 h25 => ?_)
          refine T_if_eq (tgt := 144) dX1_clause_130 (by decide) (fun c39 => ?_) (fun c39 => ?_)
          · refine T_iconst (v := 0) dX1_clause_144 (by decide) ?_
            exact T_zret dX1_clause_145 rfl (by decide) (h25.1 c39)
          · refine T_aload_n dX1_clause_133 rfl 0 rfl ?_
            refine T_VI (As := []) dX1_clause_134 mv_X1_66 hp_9 hs_9 rfl (Nat.le_of_ble_eq_true rfl) (hv_ok1 rfl) rfl (h25.2 c39) (fun v27 s26 h28 => ?_)
            refine T_if_eq (tgt := 144) dX1_clause_137 (by decide) (fun c40 => ?_) (fun c40 => ?_)
            · refine T_iconst (v := 0) dX1_clause_144 (by decide) ?_
              exact T_zret dX1_clause_145 rfl (by decide) (h28.1 c40)
            · refine T_iconst (v := 1) dX1_clause_140 (by decide) ?_
              refine T_goto (tgt := 145) dX1_clause_141 (by decide) ?_
              exact T_zret dX1_clause_145 rfl (by decide) (h28.2 c40)
        · skip
          refine T_lookup (off := 142) (tgt := 146) dX1_clause_4 (by decide) (by show Op.lookupswitch.offset [(98, 44), (99, 67), (110, 98), (114, 120)] _ _ = _; rw [lv_osw c29 (a := 98) (by decide), lv_osw c32 (a := 99) (by decide), lv_osw c35 (a := 110) (by decide), lv_osw c38 (a := 114) (by decide)]; rfl) (by decide) ?_
          refine T_iconst (v := 0) dX1_clause_146 (by decide) ?_
          exact T_zret dX1_clause_147 rfl (by decide) (h3.2.2.2.2 c29 c32 c35 c38)

def L_X1_fault_14 (l : Launch) (e : hv_Ev)  (Φ : Int32 → hv_S → Prop) (x1 : Int32) (σ : hv_S) : Prop := hv_TW l (hv_e1 e) (hv_rm 18) 0 0 m_X1_fault hv_no (hv_ZI (hv_e1 e) Φ) 14 [(0, .ref 9), (1, .int x1)] [] σ
set_option maxHeartbeats 4000000 in
set_option maxRecDepth 100000 in
theorem B_X1_fault_14 {l : Launch} {e : hv_Ev}  (x1 : Int32) {σ : hv_S} {Φ : Int32 → hv_S → Prop} (h : ((6 < x1 → Φ (σ.1 9 2) σ) ∧ (¬ 6 < x1 → hv_CI l (hv_e1 e) 17 m_X1_clause [.ref 9] σ (fun v6 s5 => ((v6 ≠ 0 → (((s5.1 9 2) ≠ (s5.1 9 1) → ((x1 = 6 → Φ (s5.1 9 2) s5) ∧ (¬ x1 = 6 → hv_CI l (hv_e1 e) 0 m_X1_seen [.ref 9] s5 (fun v9 s8 => ((v9 = 59 → L_X1_fault_14 l e Φ (x1 + 1) (hv_ui s8 9 2 ((s8.1 9 2) + 1))) ∧ (¬ v9 = 59 → Φ (s8.1 9 2) s8)))))) ∧ ((s5.1 9 2) = (s5.1 9 1) → Φ (-1) s5))) ∧ (v6 = 0 → Φ (s5.1 9 2) s5)))))) : L_X1_fault_14 l e Φ x1 σ := by
  show hv_TW l (hv_e1 e) (hv_rm 18) 0 0 m_X1_fault hv_no (hv_ZI (hv_e1 e) Φ) 14 [(0, .ref 9), (1, .int x1)] [] σ
  refine T_iload_n dX1_fault_14 rfl 1 rfl ?_
  refine T_bipush (v := 6) dX1_fault_15 (by decide) ?_
  refine T_icmp_gt (tgt := 81) dX1_fault_17 (by decide) (fun c11 => ?_) (fun c11 => ?_)
  · refine T_aload_n dX1_fault_81 rfl 0 rfl ?_
    refine T_get (v := .int (σ.1 9 2)) dX1_fault_82 fl_X1_24 hp_9 hs_9 rfl rfl ?_
    exact T_iret dX1_fault_85 rfl (h.1 c11)
  · refine T_aload_n dX1_fault_20 rfl 0 rfl ?_
    refine T_VI (As := []) dX1_fault_21 mv_X1_30 hp_9 hs_9 rfl (Nat.le_of_ble_eq_true rfl) (hv_ok1 rfl) rfl (h.2 c11) (fun v6 s5 h7 => ?_)
    refine T_if_ne (tgt := 32) dX1_fault_24 (by decide) (fun c12 => ?_) (fun c12 => ?_)
    · refine T_aload_n dX1_fault_32 rfl 0 rfl ?_
      refine T_get (v := .int (s5.1 9 2)) dX1_fault_33 fl_X1_24 hp_9 hs_9 rfl rfl ?_
      refine T_aload_n dX1_fault_36 rfl 0 rfl ?_
      refine T_get (v := .int (s5.1 9 1)) dX1_fault_37 fl_X1_20 hp_9 hs_9 rfl rfl ?_
      refine T_icmp_ne (tgt := 45) dX1_fault_40 (by decide) (fun c13 => ?_) (fun c13 => ?_)
      · refine T_iload_n dX1_fault_45 rfl 1 rfl ?_
        refine T_bipush (v := 6) dX1_fault_46 (by decide) ?_
        refine T_icmp_eq (tgt := 60) dX1_fault_48 (by decide) (fun c14 => ?_) (fun c14 => ?_)
        · refine T_aload_n dX1_fault_60 rfl 0 rfl ?_
          refine T_get (v := .int (s5.1 9 2)) dX1_fault_61 fl_X1_24 hp_9 hs_9 rfl rfl ?_
          exact T_iret dX1_fault_64 rfl (((h7.1 c12).1 c13).1 c14)
        · refine T_aload_n dX1_fault_51 rfl 0 rfl ?_
          refine T_VI (As := []) dX1_fault_52 mv_X1_34 hp_9 hs_9 rfl (Nat.le_of_ble_eq_true rfl) (hv_ok1 rfl) rfl (((h7.1 c12).1 c13).2 c14) (fun v9 s8 h10 => ?_)
          refine T_bipush (v := 59) dX1_fault_55 (by decide) ?_
          refine T_icmp_eq (tgt := 65) dX1_fault_57 (by decide) (fun c15 => ?_) (fun c15 => ?_)
          · refine T_aload_n dX1_fault_65 rfl 0 rfl ?_
            refine T_dup dX1_fault_66 rfl ?_
            refine T_get (v := .int (s8.1 9 2)) dX1_fault_67 fl_X1_24 hp_9 hs_9 rfl rfl ?_
            refine T_iconst (v := 1) dX1_fault_70 (by decide) ?_
            refine T_iadd dX1_fault_71 ?_
            refine T_puti dX1_fault_72 fl_X1_24 pf_X1_2 hp_9 hs_9 rfl ?_
            refine T_iinc (v := (x1 + 1)) dX1_fault_75 1 rfl rfl (by decide) rfl ?_
            refine T_goto (tgt := 14) dX1_fault_78 (by decide) ?_
            exact T_sub [1, 0] rfl (h10.1 c15)
          · refine T_aload_n dX1_fault_60 rfl 0 rfl ?_
            refine T_get (v := .int (s8.1 9 2)) dX1_fault_61 fl_X1_24 hp_9 hs_9 rfl rfl ?_
            exact T_iret dX1_fault_64 rfl (h10.2 c15)
      · refine T_iconst (v := (-1)) dX1_fault_43 (by decide) ?_
        exact T_iret dX1_fault_44 rfl ((h7.1 c12).2 c13)
    · refine T_aload_n dX1_fault_27 rfl 0 rfl ?_
      refine T_get (v := .int (s5.1 9 2)) dX1_fault_28 fl_X1_24 hp_9 hs_9 rfl rfl ?_
      exact T_iret dX1_fault_31 rfl (h7.2 c12)
set_option maxHeartbeats 4000000 in
set_option maxRecDepth 100000 in
theorem B_X1_fault {l : Launch} {e : hv_Ev}   {σ : hv_S} {Φ : Int32 → hv_S → Prop} (h : (hv_isR (σ.2.2 9 5) ∧ hv_CV l (hv_e1 e) 0 m_X4_clear [.ref (σ.2.2 9 5)] (hv_ui σ 9 2 0) (fun s2 => L_X1_fault_14 l e Φ 1 s2))) : hv_CI l (hv_e1 e) 18 m_X1_fault [.ref 9] σ Φ := by
  refine hv_entI (by decide) (Nat.le_of_ble_eq_true rfl) ?_
  show hv_TW l (hv_e1 e) (hv_rm 18) 0 0 m_X1_fault hv_no (hv_ZI (hv_e1 e) Φ) 0 [(0, .ref 9)] [] σ
  refine T_aload_n dX1_fault_0 rfl 0 rfl ?_
  refine T_iconst (v := 0) dX1_fault_1 (by decide) ?_
  refine T_puti dX1_fault_2 fl_X1_24 pf_X1_2 hp_9 hs_9 rfl ?_
  refine T_aload_n dX1_fault_5 rfl 0 rfl ?_
  have b1 := h.1
  refine T_get (v := .ref (σ.2.2 9 5)) dX1_fault_6 fl_X1_16 hp_9 hs_9 rfl rfl ?_
  refine T_VV (As := []) dX1_fault_9 mv_X1_27 (hv_isRp b1) (hv_isRs b1) rfl (Nat.le_of_ble_eq_true rfl) (hv_ok1 rfl) rfl h.2 (fun s2 h4 => ?_)
  refine T_iconst (v := 1) dX1_fault_12 (by decide) ?_
  refine T_istore_n dX1_fault_13 rfl (by decide) rfl ?_
  exact T_sub [1, 0] rfl h4
