-- printed by wip/gen/p10b.py: the JDK's own methods
theorem dJ3_checkIndex_8e157_0 : decode cJ3_checkIndex_8e157 0 = .ok (.iload_n 0, 1) := by decide +kernel
theorem dJ3_checkIndex_8e157_1 : decode cJ3_checkIndex_8e157 1 = .ok (.ifCond .lt 8, 3) := by decide +kernel
theorem dJ3_checkIndex_8e157_4 : decode cJ3_checkIndex_8e157 4 = .ok (.iload_n 0, 1) := by decide +kernel
theorem dJ3_checkIndex_8e157_5 : decode cJ3_checkIndex_8e157 5 = .ok (.iload_n 1, 1) := by decide +kernel
theorem dJ3_checkIndex_8e157_6 : decode cJ3_checkIndex_8e157 6 = .ok (.if_icmp .lt 10, 3) := by decide +kernel
theorem dJ3_checkIndex_8e157_9 : decode cJ3_checkIndex_8e157 9 = .ok (.aload_n 2, 1) := by decide +kernel
theorem dJ3_checkIndex_8e157_10 : decode cJ3_checkIndex_8e157 10 = .ok (.iload_n 0, 1) := by decide +kernel
theorem dJ3_checkIndex_8e157_11 : decode cJ3_checkIndex_8e157 11 = .ok (.iload_n 1, 1) := by decide +kernel
theorem dJ3_checkIndex_8e157_12 : decode cJ3_checkIndex_8e157 12 = .ok (.invokestatic 95, 3) := by decide +kernel
theorem dJ3_checkIndex_8e157_15 : decode cJ3_checkIndex_8e157 15 = .ok (.athrow, 1) := by decide +kernel
theorem dJ3_checkIndex_8e157_16 : decode cJ3_checkIndex_8e157 16 = .ok (.iload_n 0, 1) := by decide +kernel
theorem dJ3_checkIndex_8e157_17 : decode cJ3_checkIndex_8e157 17 = .ok (.ireturn, 1) := by decide +kernel
theorem dJ0_checkIndex_df160_0 : decode cJ0_checkIndex_df160 0 = .ok (.iload_n 0, 1) := by decide +kernel
theorem dJ0_checkIndex_df160_1 : decode cJ0_checkIndex_df160 1 = .ok (.iload_n 1, 1) := by decide +kernel
theorem dJ0_checkIndex_df160_2 : decode cJ0_checkIndex_df160 2 = .ok (.getstatic 1053, 3) := by decide +kernel
theorem dJ0_checkIndex_df160_5 : decode cJ0_checkIndex_df160 5 = .ok (.invokestatic 1059, 3) := by decide +kernel
theorem dJ0_checkIndex_df160_8 : decode cJ0_checkIndex_df160 8 = .ok (.pop, 1) := by decide +kernel
theorem dJ0_checkIndex_df160_9 : decode cJ0_checkIndex_df160 9 = .ok (.return_, 1) := by decide +kernel
theorem dJ0_coder_7d493_0 : decode cJ0_coder_7d493 0 = .ok (.getstatic 38, 3) := by decide +kernel
theorem dJ0_coder_7d493_3 : decode cJ0_coder_7d493 3 = .ok (.ifCond .eq 10, 3) := by decide +kernel
theorem dJ0_coder_7d493_6 : decode cJ0_coder_7d493 6 = .ok (.aload_n 0, 1) := by decide +kernel
theorem dJ0_coder_7d493_7 : decode cJ0_coder_7d493 7 = .ok (.getfield 15, 3) := by decide +kernel
theorem dJ0_coder_7d493_10 : decode cJ0_coder_7d493 10 = .ok (.goto 4, 3) := by decide +kernel
theorem dJ0_coder_7d493_13 : decode cJ0_coder_7d493 13 = .ok (.iconst 1, 1) := by decide +kernel
theorem dJ0_coder_7d493_14 : decode cJ0_coder_7d493 14 = .ok (.ireturn, 1) := by decide +kernel
theorem dJ0_isLatin1_aae02_0 : decode cJ0_isLatin1_aae02 0 = .ok (.getstatic 38, 3) := by decide +kernel
theorem dJ0_isLatin1_aae02_3 : decode cJ0_isLatin1_aae02 3 = .ok (.ifCond .eq 14, 3) := by decide +kernel
theorem dJ0_isLatin1_aae02_6 : decode cJ0_isLatin1_aae02 6 = .ok (.aload_n 0, 1) := by decide +kernel
theorem dJ0_isLatin1_aae02_7 : decode cJ0_isLatin1_aae02 7 = .ok (.getfield 15, 3) := by decide +kernel
theorem dJ0_isLatin1_aae02_10 : decode cJ0_isLatin1_aae02 10 = .ok (.ifCond .ne 7, 3) := by decide +kernel
theorem dJ0_isLatin1_aae02_13 : decode cJ0_isLatin1_aae02 13 = .ok (.iconst 1, 1) := by decide +kernel
theorem dJ0_isLatin1_aae02_14 : decode cJ0_isLatin1_aae02 14 = .ok (.goto 4, 3) := by decide +kernel
theorem dJ0_isLatin1_aae02_17 : decode cJ0_isLatin1_aae02 17 = .ok (.iconst 0, 1) := by decide +kernel
theorem dJ0_isLatin1_aae02_18 : decode cJ0_isLatin1_aae02 18 = .ok (.ireturn, 1) := by decide +kernel
theorem dJ0_length_8abf5_0 : decode cJ0_length_8abf5 0 = .ok (.aload_n 0, 1) := by decide +kernel
theorem dJ0_length_8abf5_1 : decode cJ0_length_8abf5 1 = .ok (.getfield 9, 3) := by decide +kernel
theorem dJ0_length_8abf5_4 : decode cJ0_length_8abf5 4 = .ok (.arraylength, 1) := by decide +kernel
theorem dJ0_length_8abf5_5 : decode cJ0_length_8abf5 5 = .ok (.aload_n 0, 1) := by decide +kernel
theorem dJ0_length_8abf5_6 : decode cJ0_length_8abf5 6 = .ok (.invokevirtual 335, 3) := by decide +kernel
theorem dJ0_length_8abf5_9 : decode cJ0_length_8abf5 9 = .ok (.ishr, 1) := by decide +kernel
theorem dJ0_length_8abf5_10 : decode cJ0_length_8abf5 10 = .ok (.ireturn, 1) := by decide +kernel
theorem dJ1_charAt_3b067_0 : decode cJ1_charAt_3b067 0 = .ok (.iload_n 1, 1) := by decide +kernel
theorem dJ1_charAt_3b067_1 : decode cJ1_charAt_3b067 1 = .ok (.aload_n 0, 1) := by decide +kernel
theorem dJ1_charAt_3b067_2 : decode cJ1_charAt_3b067 2 = .ok (.arraylength, 1) := by decide +kernel
theorem dJ1_charAt_3b067_3 : decode cJ1_charAt_3b067 3 = .ok (.invokestatic 9, 3) := by decide +kernel
theorem dJ1_charAt_3b067_6 : decode cJ1_charAt_3b067 6 = .ok (.aload_n 0, 1) := by decide +kernel
theorem dJ1_charAt_3b067_7 : decode cJ1_charAt_3b067 7 = .ok (.iload_n 1, 1) := by decide +kernel
theorem dJ1_charAt_3b067_8 : decode cJ1_charAt_3b067 8 = .ok (.baload, 1) := by decide +kernel
theorem dJ1_charAt_3b067_9 : decode cJ1_charAt_3b067 9 = .ok (.sipush 255, 3) := by decide +kernel
theorem dJ1_charAt_3b067_12 : decode cJ1_charAt_3b067 12 = .ok (.iand, 1) := by decide +kernel
theorem dJ1_charAt_3b067_13 : decode cJ1_charAt_3b067 13 = .ok (.i2c, 1) := by decide +kernel
theorem dJ1_charAt_3b067_14 : decode cJ1_charAt_3b067 14 = .ok (.ireturn, 1) := by decide +kernel
theorem dJ0_charAt_5068e_0 : decode cJ0_charAt_5068e 0 = .ok (.aload_n 0, 1) := by decide +kernel
theorem dJ0_charAt_5068e_1 : decode cJ0_charAt_5068e 1 = .ok (.invokevirtual 492, 3) := by decide +kernel
theorem dJ0_charAt_5068e_4 : decode cJ0_charAt_5068e 4 = .ok (.ifCond .eq 12, 3) := by decide +kernel
theorem dJ0_charAt_5068e_7 : decode cJ0_charAt_5068e 7 = .ok (.aload_n 0, 1) := by decide +kernel
theorem dJ0_charAt_5068e_8 : decode cJ0_charAt_5068e 8 = .ok (.getfield 9, 3) := by decide +kernel
theorem dJ0_charAt_5068e_11 : decode cJ0_charAt_5068e 11 = .ok (.iload_n 1, 1) := by decide +kernel
theorem dJ0_charAt_5068e_12 : decode cJ0_charAt_5068e 12 = .ok (.invokestatic 495, 3) := by decide +kernel
theorem dJ0_charAt_5068e_15 : decode cJ0_charAt_5068e 15 = .ok (.ireturn, 1) := by decide +kernel
theorem dJ0_charAt_5068e_16 : decode cJ0_charAt_5068e 16 = .ok (.aload_n 0, 1) := by decide +kernel
theorem dJ0_charAt_5068e_17 : decode cJ0_charAt_5068e 17 = .ok (.getfield 9, 3) := by decide +kernel
theorem dJ0_charAt_5068e_20 : decode cJ0_charAt_5068e 20 = .ok (.iload_n 1, 1) := by decide +kernel
theorem dJ0_charAt_5068e_21 : decode cJ0_charAt_5068e 21 = .ok (.invokestatic 498, 3) := by decide +kernel
theorem dJ0_charAt_5068e_24 : decode cJ0_charAt_5068e 24 = .ok (.ireturn, 1) := by decide +kernel
theorem dJ6_bitCount_0f7a4_0 : decode cJ6_bitCount_0f7a4 0 = .ok (.iload_n 0, 1) := by decide +kernel
theorem dJ6_bitCount_0f7a4_1 : decode cJ6_bitCount_0f7a4 1 = .ok (.iload_n 0, 1) := by decide +kernel
theorem dJ6_bitCount_0f7a4_2 : decode cJ6_bitCount_0f7a4 2 = .ok (.iconst 1, 1) := by decide +kernel
theorem dJ6_bitCount_0f7a4_3 : decode cJ6_bitCount_0f7a4 3 = .ok (.iushr, 1) := by decide +kernel
theorem dJ6_bitCount_0f7a4_4 : decode cJ6_bitCount_0f7a4 4 = .ok (.ldc_w 265, 3) := by decide +kernel
theorem dJ6_bitCount_0f7a4_7 : decode cJ6_bitCount_0f7a4 7 = .ok (.iand, 1) := by decide +kernel
theorem dJ6_bitCount_0f7a4_8 : decode cJ6_bitCount_0f7a4 8 = .ok (.isub, 1) := by decide +kernel
theorem dJ6_bitCount_0f7a4_9 : decode cJ6_bitCount_0f7a4 9 = .ok (.istore_n 0, 1) := by decide +kernel
theorem dJ6_bitCount_0f7a4_10 : decode cJ6_bitCount_0f7a4 10 = .ok (.iload_n 0, 1) := by decide +kernel
theorem dJ6_bitCount_0f7a4_11 : decode cJ6_bitCount_0f7a4 11 = .ok (.ldc_w 266, 3) := by decide +kernel
theorem dJ6_bitCount_0f7a4_14 : decode cJ6_bitCount_0f7a4 14 = .ok (.iand, 1) := by decide +kernel
theorem dJ6_bitCount_0f7a4_15 : decode cJ6_bitCount_0f7a4 15 = .ok (.iload_n 0, 1) := by decide +kernel
theorem dJ6_bitCount_0f7a4_16 : decode cJ6_bitCount_0f7a4 16 = .ok (.iconst 2, 1) := by decide +kernel
theorem dJ6_bitCount_0f7a4_17 : decode cJ6_bitCount_0f7a4 17 = .ok (.iushr, 1) := by decide +kernel
theorem dJ6_bitCount_0f7a4_18 : decode cJ6_bitCount_0f7a4 18 = .ok (.ldc_w 266, 3) := by decide +kernel
theorem dJ6_bitCount_0f7a4_21 : decode cJ6_bitCount_0f7a4 21 = .ok (.iand, 1) := by decide +kernel
theorem dJ6_bitCount_0f7a4_22 : decode cJ6_bitCount_0f7a4 22 = .ok (.iadd, 1) := by decide +kernel
theorem dJ6_bitCount_0f7a4_23 : decode cJ6_bitCount_0f7a4 23 = .ok (.istore_n 0, 1) := by decide +kernel
theorem dJ6_bitCount_0f7a4_24 : decode cJ6_bitCount_0f7a4 24 = .ok (.iload_n 0, 1) := by decide +kernel
theorem dJ6_bitCount_0f7a4_25 : decode cJ6_bitCount_0f7a4 25 = .ok (.iload_n 0, 1) := by decide +kernel
theorem dJ6_bitCount_0f7a4_26 : decode cJ6_bitCount_0f7a4 26 = .ok (.iconst 4, 1) := by decide +kernel
theorem dJ6_bitCount_0f7a4_27 : decode cJ6_bitCount_0f7a4 27 = .ok (.iushr, 1) := by decide +kernel
theorem dJ6_bitCount_0f7a4_28 : decode cJ6_bitCount_0f7a4 28 = .ok (.iadd, 1) := by decide +kernel
theorem dJ6_bitCount_0f7a4_29 : decode cJ6_bitCount_0f7a4 29 = .ok (.ldc_w 267, 3) := by decide +kernel
theorem dJ6_bitCount_0f7a4_32 : decode cJ6_bitCount_0f7a4 32 = .ok (.iand, 1) := by decide +kernel
theorem dJ6_bitCount_0f7a4_33 : decode cJ6_bitCount_0f7a4 33 = .ok (.istore_n 0, 1) := by decide +kernel
theorem dJ6_bitCount_0f7a4_34 : decode cJ6_bitCount_0f7a4 34 = .ok (.iload_n 0, 1) := by decide +kernel
theorem dJ6_bitCount_0f7a4_35 : decode cJ6_bitCount_0f7a4 35 = .ok (.iload_n 0, 1) := by decide +kernel
theorem dJ6_bitCount_0f7a4_36 : decode cJ6_bitCount_0f7a4 36 = .ok (.bipush 8, 2) := by decide +kernel
theorem dJ6_bitCount_0f7a4_38 : decode cJ6_bitCount_0f7a4 38 = .ok (.iushr, 1) := by decide +kernel
theorem dJ6_bitCount_0f7a4_39 : decode cJ6_bitCount_0f7a4 39 = .ok (.iadd, 1) := by decide +kernel
theorem dJ6_bitCount_0f7a4_40 : decode cJ6_bitCount_0f7a4 40 = .ok (.istore_n 0, 1) := by decide +kernel
theorem dJ6_bitCount_0f7a4_41 : decode cJ6_bitCount_0f7a4 41 = .ok (.iload_n 0, 1) := by decide +kernel
theorem dJ6_bitCount_0f7a4_42 : decode cJ6_bitCount_0f7a4 42 = .ok (.iload_n 0, 1) := by decide +kernel
theorem dJ6_bitCount_0f7a4_43 : decode cJ6_bitCount_0f7a4 43 = .ok (.bipush 16, 2) := by decide +kernel
theorem dJ6_bitCount_0f7a4_45 : decode cJ6_bitCount_0f7a4 45 = .ok (.iushr, 1) := by decide +kernel
theorem dJ6_bitCount_0f7a4_46 : decode cJ6_bitCount_0f7a4 46 = .ok (.iadd, 1) := by decide +kernel
theorem dJ6_bitCount_0f7a4_47 : decode cJ6_bitCount_0f7a4 47 = .ok (.istore_n 0, 1) := by decide +kernel
theorem dJ6_bitCount_0f7a4_48 : decode cJ6_bitCount_0f7a4 48 = .ok (.iload_n 0, 1) := by decide +kernel
theorem dJ6_bitCount_0f7a4_49 : decode cJ6_bitCount_0f7a4 49 = .ok (.bipush 63, 2) := by decide +kernel
theorem dJ6_bitCount_0f7a4_51 : decode cJ6_bitCount_0f7a4 51 = .ok (.iand, 1) := by decide +kernel
theorem dJ6_bitCount_0f7a4_52 : decode cJ6_bitCount_0f7a4 52 = .ok (.ireturn, 1) := by decide +kernel
theorem dJ7_fill_53178_0 : decode cJ7_fill_53178 0 = .ok (.iconst 0, 1) := by decide +kernel
theorem dJ7_fill_53178_1 : decode cJ7_fill_53178 1 = .ok (.istore_n 2, 1) := by decide +kernel
theorem dJ7_fill_53178_2 : decode cJ7_fill_53178 2 = .ok (.aload_n 0, 1) := by decide +kernel
theorem dJ7_fill_53178_3 : decode cJ7_fill_53178 3 = .ok (.arraylength, 1) := by decide +kernel
theorem dJ7_fill_53178_4 : decode cJ7_fill_53178 4 = .ok (.istore_n 3, 1) := by decide +kernel
theorem dJ7_fill_53178_5 : decode cJ7_fill_53178 5 = .ok (.iload_n 2, 1) := by decide +kernel
theorem dJ7_fill_53178_6 : decode cJ7_fill_53178 6 = .ok (.iload_n 3, 1) := by decide +kernel
theorem dJ7_fill_53178_7 : decode cJ7_fill_53178 7 = .ok (.if_icmp .ge 13, 3) := by decide +kernel
theorem dJ7_fill_53178_10 : decode cJ7_fill_53178 10 = .ok (.aload_n 0, 1) := by decide +kernel
theorem dJ7_fill_53178_11 : decode cJ7_fill_53178 11 = .ok (.iload_n 2, 1) := by decide +kernel
theorem dJ7_fill_53178_12 : decode cJ7_fill_53178 12 = .ok (.iload_n 1, 1) := by decide +kernel
theorem dJ7_fill_53178_13 : decode cJ7_fill_53178 13 = .ok (.iastore, 1) := by decide +kernel
theorem dJ7_fill_53178_14 : decode cJ7_fill_53178 14 = .ok (.iinc 2 1, 3) := by decide +kernel
theorem dJ7_fill_53178_17 : decode cJ7_fill_53178 17 = .ok (.goto (-12), 3) := by decide +kernel
theorem dJ7_fill_53178_20 : decode cJ7_fill_53178 20 = .ok (.return_, 1) := by decide +kernel
theorem dJ7_fill_d0a16_0 : decode cJ7_fill_d0a16 0 = .ok (.iconst 0, 1) := by decide +kernel
theorem dJ7_fill_d0a16_1 : decode cJ7_fill_d0a16 1 = .ok (.istore_n 3, 1) := by decide +kernel
theorem dJ7_fill_d0a16_2 : decode cJ7_fill_d0a16 2 = .ok (.aload_n 0, 1) := by decide +kernel
theorem dJ7_fill_d0a16_3 : decode cJ7_fill_d0a16 3 = .ok (.arraylength, 1) := by decide +kernel
theorem dJ7_fill_d0a16_4 : decode cJ7_fill_d0a16 4 = .ok (.istore 4, 2) := by decide +kernel
theorem dJ7_fill_d0a16_6 : decode cJ7_fill_d0a16 6 = .ok (.iload_n 3, 1) := by decide +kernel
theorem dJ7_fill_d0a16_7 : decode cJ7_fill_d0a16 7 = .ok (.iload 4, 2) := by decide +kernel
theorem dJ7_fill_d0a16_9 : decode cJ7_fill_d0a16 9 = .ok (.if_icmp .ge 13, 3) := by decide +kernel
theorem dJ7_fill_d0a16_12 : decode cJ7_fill_d0a16 12 = .ok (.aload_n 0, 1) := by decide +kernel
theorem dJ7_fill_d0a16_13 : decode cJ7_fill_d0a16 13 = .ok (.iload_n 3, 1) := by decide +kernel
theorem dJ7_fill_d0a16_14 : decode cJ7_fill_d0a16 14 = .ok (.lload_n 1, 1) := by decide +kernel
theorem dJ7_fill_d0a16_15 : decode cJ7_fill_d0a16 15 = .ok (.lastore, 1) := by decide +kernel
theorem dJ7_fill_d0a16_16 : decode cJ7_fill_d0a16 16 = .ok (.iinc 3 1, 3) := by decide +kernel
theorem dJ7_fill_d0a16_19 : decode cJ7_fill_d0a16 19 = .ok (.goto (-13), 3) := by decide +kernel
theorem dJ7_fill_d0a16_22 : decode cJ7_fill_d0a16 22 = .ok (.return_, 1) := by decide +kernel
set_option maxHeartbeats 4000000 in
set_option maxRecDepth 100000 in
theorem B_J3_checkIndex_8e157 {l : Launch} {E : hv_E}  (x1 : Int32) (x2 : Int32) {σ : hv_S} {Φ : Int32 → hv_S → Prop} (h : ((x1 < 0 → False) ∧ (¬ x1 < 0 → ((x1 < x2 → Φ x1 σ) ∧ (¬ x1 < x2 → False))))) : hv_CI l E 0 m_J3_checkIndex_8e157 [.int x1, .int x2, .ref 3000] σ Φ := by
  refine hv_entI (by decide) (Nat.le_of_ble_eq_true rfl) ?_
  show hv_TW l E (hv_rm 0) 0 0 m_J3_checkIndex_8e157 hv_no (hv_ZI E Φ) 0 [(0, .int x1), (1, .int x2), (2, .ref 3000)] [] σ
  refine T_iload_n dJ3_checkIndex_8e157_0 rfl 0 rfl ?_
  refine T_if_lt (tgt := 9) dJ3_checkIndex_8e157_1 (by decide) (fun c1 => ?_) (fun c1 => ?_)
  · refine T_aload_n dJ3_checkIndex_8e157_9 rfl 2 rfl ?_
    refine T_iload_n dJ3_checkIndex_8e157_10 rfl 0 rfl ?_
    refine T_iload_n dJ3_checkIndex_8e157_11 rfl 1 rfl ?_
    exact False.elim (h.1 c1)
  · refine T_iload_n dJ3_checkIndex_8e157_4 rfl 0 rfl ?_
    refine T_iload_n dJ3_checkIndex_8e157_5 rfl 1 rfl ?_
    refine T_icmp_lt (tgt := 16) dJ3_checkIndex_8e157_6 (by decide) (fun c2 => ?_) (fun c2 => ?_)
    · refine T_iload_n dJ3_checkIndex_8e157_16 rfl 0 rfl ?_
      exact T_iret dJ3_checkIndex_8e157_17 rfl ((h.2 c1).1 c2)
    · refine T_aload_n dJ3_checkIndex_8e157_9 rfl 2 rfl ?_
      refine T_iload_n dJ3_checkIndex_8e157_10 rfl 0 rfl ?_
      refine T_iload_n dJ3_checkIndex_8e157_11 rfl 1 rfl ?_
      exact False.elim ((h.2 c1).2 c2)
-- the formatter may be null: by hand
set_option maxHeartbeats 4000000 in
set_option maxRecDepth 100000 in
theorem B_J3n_checkIndex_8e157 {l : Launch} {E : hv_E}  (x1 : Int32) (x2 : Int32) {σ : hv_S} {Φ : Int32 → hv_S → Prop} (h : ((x1 < 0 → False) ∧ (¬ x1 < 0 → ((x1 < x2 → Φ x1 σ) ∧ (¬ x1 < x2 → False))))) : hv_CI l E 0 m_J3_checkIndex_8e157 [.int x1, .int x2, .null] σ Φ := by
  refine hv_entI (by decide) (Nat.le_of_ble_eq_true rfl) ?_
  show hv_TW l E (hv_rm 0) 0 0 m_J3_checkIndex_8e157 hv_no (hv_ZI E Φ) 0 [(0, .int x1), (1, .int x2), (2, .null)] [] σ
  refine T_iload_n dJ3_checkIndex_8e157_0 rfl 0 rfl ?_
  refine T_if_lt (tgt := 9) dJ3_checkIndex_8e157_1 (by decide) (fun c1 => ?_) (fun c1 => ?_)
  · exact False.elim (h.1 c1)
  · refine T_iload_n dJ3_checkIndex_8e157_4 rfl 0 rfl ?_
    refine T_iload_n dJ3_checkIndex_8e157_5 rfl 1 rfl ?_
    refine T_icmp_lt (tgt := 16) dJ3_checkIndex_8e157_6 (by decide) (fun c2 => ?_) (fun c2 => ?_)
    · refine T_iload_n dJ3_checkIndex_8e157_16 rfl 0 rfl ?_
      exact T_iret dJ3_checkIndex_8e157_17 rfl ((h.2 c1).1 c2)
    · exact False.elim ((h.2 c1).2 c2)

set_option maxHeartbeats 4000000 in
set_option maxRecDepth 100000 in
theorem B_J0_checkIndex_df160 {l : Launch} {E : hv_E}  (x1 : Int32) (x2 : Int32) {σ : hv_S} {Φ : hv_S → Prop} (h : ((x1 < 0 → False) ∧ (¬ x1 < 0 → ((x1 < x2 → Φ σ) ∧ (¬ x1 < x2 → False))))) : hv_CV l E 1 m_J0_checkIndex_df160 [.int x1, .int x2] σ Φ := by
  refine hv_entV (by decide) (Nat.le_of_ble_eq_true rfl) ?_
  show hv_TW l E (hv_rm 1) 0 0 m_J0_checkIndex_df160 hv_no (hv_ZV E Φ) 0 [(0, .int x1), (1, .int x2)] [] σ
  refine T_iload_n dJ0_checkIndex_df160_0 rfl 0 rfl ?_
  refine T_iload_n dJ0_checkIndex_df160_1 rfl 1 rfl ?_
  refine T_getsF dJ0_checkIndex_df160_2 (hv_in3 5 (by decide +kernel) rfl) ?_ ?_
  · refine T_SI (Φ := fun _ s1 => Φ s1) (As := [.int x1, .int x2, .null]) dJ0_checkIndex_df160_5 ms_J0_1059 rfl (Nat.le_of_ble_eq_true rfl) (hv_ok1 rfl) rfl (B_J3n_checkIndex_8e157 _ _ h) (fun v2 s1 h3 => ?_)
    refine T_pop dJ0_checkIndex_df160_8 rfl ?_
    exact T_vret dJ0_checkIndex_df160_9 rfl h3
  · refine T_SI (Φ := fun _ s1 => Φ s1) (As := [.int x1, .int x2, .ref 3000]) dJ0_checkIndex_df160_5 ms_J0_1059 rfl (Nat.le_of_ble_eq_true rfl) (hv_ok1 rfl) rfl (B_J3_checkIndex_8e157 _ _ h) (fun v2 s1 h3 => ?_)
    refine T_pop dJ0_checkIndex_df160_8 rfl ?_
    exact T_vret dJ0_checkIndex_df160_9 rfl h3

set_option maxHeartbeats 4000000 in
set_option maxRecDepth 100000 in
theorem B_J0_coder_7d493 {l : Launch} {E : hv_E} (w : Nat) (hw : w < 7)  {σ : hv_S} {Φ : Int32 → hv_S → Prop} (h : (narrow .byte (.int 0) = .int 0 ∧ Φ 0 σ)) : hv_CI l E 0 m_J0_coder_7d493 [.ref (1000 + w)] σ Φ := by
  refine hv_entI (by decide) (Nat.le_of_ble_eq_true rfl) ?_
  show hv_TW l E (hv_rm 0) 0 0 m_J0_coder_7d493 hv_no (hv_ZI E Φ) 0 [(0, .ref (1000 + w))] [] σ
  refine T_getsC dJ0_coder_7d493_0 (hv_in2 229 (by decide +kernel) rfl) ?_
  refine T_if_eq (tgt := 13) dJ0_coder_7d493_3 (by decide) (fun q => absurd q (by decide)) (fun _ => ?_)
  refine T_aload_n dJ0_coder_7d493_6 rfl 0 rfl ?_
  refine T_getSc dJ0_coder_7d493_7 hw (hv_in7 22 (by decide +kernel) rfl) ?_
  refine T_goto (tgt := 14) dJ0_coder_7d493_10 (by decide) ?_
  exact T_xret dJ0_coder_7d493_14 rfl h.1 h.2

set_option maxHeartbeats 4000000 in
set_option maxRecDepth 100000 in
theorem B_J0_isLatin1_aae02 {l : Launch} {E : hv_E} (w : Nat) (hw : w < 7)  {σ : hv_S} {Φ : Int32 → hv_S → Prop} (h : Φ 1 σ) : hv_CI l E 0 m_J0_isLatin1_aae02 [.ref (1000 + w)] σ Φ := by
  refine hv_entI (by decide) (Nat.le_of_ble_eq_true rfl) ?_
  show hv_TW l E (hv_rm 0) 0 0 m_J0_isLatin1_aae02 hv_no (hv_ZI E Φ) 0 [(0, .ref (1000 + w))] [] σ
  refine T_getsC dJ0_isLatin1_aae02_0 (hv_in2 229 (by decide +kernel) rfl) ?_
  refine T_if_eq (tgt := 17) dJ0_isLatin1_aae02_3 (by decide) (fun q => absurd q (by decide)) (fun _ => ?_)
  refine T_aload_n dJ0_isLatin1_aae02_6 rfl 0 rfl ?_
  refine T_getSc dJ0_isLatin1_aae02_7 hw (hv_in7 22 (by decide +kernel) rfl) ?_
  refine T_if_ne (tgt := 17) dJ0_isLatin1_aae02_10 (by decide) (fun q => absurd q (by decide)) (fun _ => ?_)
  refine T_iconst (v := 1) dJ0_isLatin1_aae02_13 (by decide) ?_
  refine T_goto (tgt := 18) dJ0_isLatin1_aae02_14 (by decide) ?_
  exact T_zret dJ0_isLatin1_aae02_18 rfl (by decide) h

set_option maxHeartbeats 4000000 in
set_option maxRecDepth 100000 in
theorem B_J0_length_8abf5 {l : Launch} {E : hv_E} (w : Nat) (hw : w < 7)  {σ : hv_S} {Φ : Int32 → hv_S → Prop} (h : hv_CI l E 0 m_J0_coder_7d493 [.ref (1000 + w)] σ (fun v2 s1 => Φ ((Int32.ofNat (hv_len.getD w 0)) >>> (v2 &&& 31)) s1)) : hv_CI l E 1 m_J0_length_8abf5 [.ref (1000 + w)] σ Φ := by
  refine hv_entI (by decide) (Nat.le_of_ble_eq_true rfl) ?_
  show hv_TW l E (hv_rm 1) 0 0 m_J0_length_8abf5 hv_no (hv_ZI E Φ) 0 [(0, .ref (1000 + w))] [] σ
  refine T_aload_n dJ0_length_8abf5_0 rfl 0 rfl ?_
  refine T_getSv dJ0_length_8abf5_1 hw (hv_in7 21 (by decide +kernel) rfl) ?_
  refine T_alenS (v := (Int32.ofNat (hv_len.getD w 0))) dJ0_length_8abf5_4 hw rfl ?_
  refine T_aload_n dJ0_length_8abf5_5 rfl 0 rfl ?_
  refine T_VIs (As := []) dJ0_length_8abf5_6 ⟨mw_J0_coder_7d493, (hv_in2 226 (by decide +kernel) rfl), (hv_in2 227 (by decide +kernel) rfl), Or.inl (hv_in2 225 (by decide +kernel) rfl)⟩ hw rfl rfl (Nat.le_of_ble_eq_true rfl) (hv_ok1 rfl) rfl h (fun v2 s1 h3 => ?_)
  refine T_ishr dJ0_length_8abf5_9 ?_
  exact T_iret dJ0_length_8abf5_10 rfl h3

set_option maxHeartbeats 4000000 in
set_option maxRecDepth 100000 in
theorem B_J1_charAt_3b067 {l : Launch} {E : hv_E} (w : Nat) (hw : w < 7) (x2 : Int32) {σ : hv_S} {Φ : Int32 → hv_S → Prop} (h : hv_CV l E 1 m_J0_checkIndex_df160 [.int x2, .int (Int32.ofNat (hv_len.getD w 0))] σ (fun s1 => (vp_in x2 (hv_len.getD w 0) ∧ (narrow .char (.int ((((hv_byt.getD w []).getD x2.toNatClampNeg 0) &&& 255).toUInt32 % 65536).toInt32) = .int ((((hv_byt.getD w []).getD x2.toNatClampNeg 0) &&& 255).toUInt32 % 65536).toInt32 ∧ Φ (((((hv_byt.getD w []).getD x2.toNatClampNeg 0) &&& 255).toUInt32 % 65536).toInt32) s1)))) : hv_CI l E 2 m_J1_charAt_3b067 [.ref (2000 + w), .int x2] σ Φ := by
  refine hv_entI (by decide) (Nat.le_of_ble_eq_true rfl) ?_
  show hv_TW l E (hv_rm 2) 0 0 m_J1_charAt_3b067 hv_no (hv_ZI E Φ) 0 [(0, .ref (2000 + w)), (1, .int x2)] [] σ
  refine T_iload_n dJ1_charAt_3b067_0 rfl 1 rfl ?_
  refine T_aload_n dJ1_charAt_3b067_1 rfl 0 rfl ?_
  refine T_alenS (v := (Int32.ofNat (hv_len.getD w 0))) dJ1_charAt_3b067_2 hw rfl ?_
  refine T_SV (As := [.int x2, .int (Int32.ofNat (hv_len.getD w 0))]) dJ1_charAt_3b067_3 ms_J1_9 rfl (Nat.le_of_ble_eq_true rfl) (hv_ok1 rfl) rfl h (fun s1 h3 => ?_)
  refine T_aload_n dJ1_charAt_3b067_6 rfl 0 rfl ?_
  refine T_iload_n dJ1_charAt_3b067_7 rfl 1 rfl ?_
  refine T_baldS dJ1_charAt_3b067_8 hw h3.1 ?_
  refine T_sipush (v := 255) dJ1_charAt_3b067_9 (by decide) ?_
  refine T_iand dJ1_charAt_3b067_12 ?_
  refine T_i2c dJ1_charAt_3b067_13 ?_
  exact T_xret dJ1_charAt_3b067_14 rfl h3.2.1 h3.2.2

set_option maxHeartbeats 4000000 in
set_option maxRecDepth 100000 in
theorem B_J0_charAt_5068e {l : Launch} {E : hv_E} (w : Nat) (hw : w < 7) (x1 : Int32) {σ : hv_S} {Φ : Int32 → hv_S → Prop} (h : hv_CI l E 0 m_J0_isLatin1_aae02 [.ref (1000 + w)] σ (fun v2 s1 => ((v2 = 0 → False) ∧ (¬ v2 = 0 → hv_CI l E 2 m_J1_charAt_3b067 [.ref (2000 + w), .int x1] s1 (fun v5 s4 => (narrow .char (.int v5) = .int v5 ∧ Φ v5 s4)))))) : hv_CI l E 3 m_J0_charAt_5068e [.ref (1000 + w), .int x1] σ Φ := by
  refine hv_entI (by decide) (Nat.le_of_ble_eq_true rfl) ?_
  show hv_TW l E (hv_rm 3) 0 0 m_J0_charAt_5068e hv_no (hv_ZI E Φ) 0 [(0, .ref (1000 + w)), (1, .int x1)] [] σ
  refine T_aload_n dJ0_charAt_5068e_0 rfl 0 rfl ?_
  refine T_VIs (As := []) dJ0_charAt_5068e_1 ⟨mw_J0_isLatin1_aae02, (hv_in2 236 (by decide +kernel) rfl), (hv_in2 237 (by decide +kernel) rfl), Or.inl (hv_in2 235 (by decide +kernel) rfl)⟩ hw rfl rfl (Nat.le_of_ble_eq_true rfl) (hv_ok1 rfl) rfl h (fun v2 s1 h3 => ?_)
  refine T_if_eq (tgt := 16) dJ0_charAt_5068e_4 (by decide) (fun c7 => ?_) (fun c7 => ?_)
  · refine T_aload_n dJ0_charAt_5068e_16 rfl 0 rfl ?_
    refine T_getSv dJ0_charAt_5068e_17 hw (hv_in7 21 (by decide +kernel) rfl) ?_
    refine T_iload_n dJ0_charAt_5068e_20 rfl 1 rfl ?_
    exact False.elim (h3.1 c7)
  · refine T_aload_n dJ0_charAt_5068e_7 rfl 0 rfl ?_
    refine T_getSv dJ0_charAt_5068e_8 hw (hv_in7 21 (by decide +kernel) rfl) ?_
    refine T_iload_n dJ0_charAt_5068e_11 rfl 1 rfl ?_
    refine T_SI (As := [.ref (2000 + w), .int x1]) dJ0_charAt_5068e_12 ms_J0_495 rfl (Nat.le_of_ble_eq_true rfl) (hv_ok1 rfl) rfl (h3.2 c7) (fun v5 s4 h6 => ?_)
    exact T_xret dJ0_charAt_5068e_15 rfl h6.1 h6.2

set_option maxHeartbeats 4000000 in
set_option maxRecDepth 100000 in
theorem B_J6_bitCount_0f7a4 {l : Launch} {E : hv_E}  (x1 : Int32) {σ : hv_S} {Φ : Int32 → hv_S → Prop} (h : (∀ z1 : Int32, z1 = (x1 - ((x1.toUInt32 >>> ((1 : Int32).toUInt32 &&& Int32.toUInt32 31)).toInt32 &&& 1431655765)) → (∀ z2 : Int32, z2 = ((z1 &&& 858993459) + ((z1.toUInt32 >>> ((2 : Int32).toUInt32 &&& Int32.toUInt32 31)).toInt32 &&& 858993459)) → (∀ z3 : Int32, z3 = ((z2 + (z2.toUInt32 >>> ((4 : Int32).toUInt32 &&& Int32.toUInt32 31)).toInt32) &&& 252645135) → (∀ z4 : Int32, z4 = (z3 + (z3.toUInt32 >>> ((8 : Int32).toUInt32 &&& Int32.toUInt32 31)).toInt32) → (∀ z5 : Int32, z5 = (z4 + (z4.toUInt32 >>> ((16 : Int32).toUInt32 &&& Int32.toUInt32 31)).toInt32) → Φ (z5 &&& 63) σ)))))) : hv_CI l E 0 m_J6_bitCount_0f7a4 [.int x1] σ Φ := by
  refine hv_entI (by decide) (Nat.le_of_ble_eq_true rfl) ?_
  show hv_TW l E (hv_rm 0) 0 0 m_J6_bitCount_0f7a4 hv_no (hv_ZI E Φ) 0 [(0, .int x1)] [] σ
  refine T_iload_n dJ6_bitCount_0f7a4_0 rfl 0 rfl ?_
  refine T_iload_n dJ6_bitCount_0f7a4_1 rfl 0 rfl ?_
  refine T_iconst (v := 1) dJ6_bitCount_0f7a4_2 (by decide) ?_
  refine T_iushr dJ6_bitCount_0f7a4_3 ?_
  refine T_ldcw dJ6_bitCount_0f7a4_4 ko_J6_265 ?_
  refine T_iand dJ6_bitCount_0f7a4_7 ?_
  refine T_isub dJ6_bitCount_0f7a4_8 ?_
  refine T_topi (fun z1 ez1 => ?_)
  refine T_istore_n dJ6_bitCount_0f7a4_9 rfl (by decide) rfl ?_
  refine T_iload_n dJ6_bitCount_0f7a4_10 rfl 0 rfl ?_
  refine T_ldcw dJ6_bitCount_0f7a4_11 ko_J6_266 ?_
  refine T_iand dJ6_bitCount_0f7a4_14 ?_
  refine T_iload_n dJ6_bitCount_0f7a4_15 rfl 0 rfl ?_
  refine T_iconst (v := 2) dJ6_bitCount_0f7a4_16 (by decide) ?_
  refine T_iushr dJ6_bitCount_0f7a4_17 ?_
  refine T_ldcw dJ6_bitCount_0f7a4_18 ko_J6_266 ?_
  refine T_iand dJ6_bitCount_0f7a4_21 ?_
  refine T_iadd dJ6_bitCount_0f7a4_22 ?_
  refine T_topi (fun z2 ez2 => ?_)
  refine T_istore_n dJ6_bitCount_0f7a4_23 rfl (by decide) rfl ?_
  refine T_iload_n dJ6_bitCount_0f7a4_24 rfl 0 rfl ?_
  refine T_iload_n dJ6_bitCount_0f7a4_25 rfl 0 rfl ?_
  refine T_iconst (v := 4) dJ6_bitCount_0f7a4_26 (by decide) ?_
  refine T_iushr dJ6_bitCount_0f7a4_27 ?_
  refine T_iadd dJ6_bitCount_0f7a4_28 ?_
  refine T_ldcw dJ6_bitCount_0f7a4_29 ko_J6_267 ?_
  refine T_iand dJ6_bitCount_0f7a4_32 ?_
  refine T_topi (fun z3 ez3 => ?_)
  refine T_istore_n dJ6_bitCount_0f7a4_33 rfl (by decide) rfl ?_
  refine T_iload_n dJ6_bitCount_0f7a4_34 rfl 0 rfl ?_
  refine T_iload_n dJ6_bitCount_0f7a4_35 rfl 0 rfl ?_
  refine T_bipush (v := 8) dJ6_bitCount_0f7a4_36 (by decide) ?_
  refine T_iushr dJ6_bitCount_0f7a4_38 ?_
  refine T_iadd dJ6_bitCount_0f7a4_39 ?_
  refine T_topi (fun z4 ez4 => ?_)
  refine T_istore_n dJ6_bitCount_0f7a4_40 rfl (by decide) rfl ?_
  refine T_iload_n dJ6_bitCount_0f7a4_41 rfl 0 rfl ?_
  refine T_iload_n dJ6_bitCount_0f7a4_42 rfl 0 rfl ?_
  refine T_bipush (v := 16) dJ6_bitCount_0f7a4_43 (by decide) ?_
  refine T_iushr dJ6_bitCount_0f7a4_45 ?_
  refine T_iadd dJ6_bitCount_0f7a4_46 ?_
  refine T_topi (fun z5 ez5 => ?_)
  refine T_istore_n dJ6_bitCount_0f7a4_47 rfl (by decide) rfl ?_
  refine T_iload_n dJ6_bitCount_0f7a4_48 rfl 0 rfl ?_
  refine T_bipush (v := 63) dJ6_bitCount_0f7a4_49 (by decide) ?_
  refine T_iand dJ6_bitCount_0f7a4_51 ?_
  exact T_iret dJ6_bitCount_0f7a4_52 rfl (((((h z1 ez1) z2 ez2) z3 ez3) z4 ez4) z5 ez5)

def L_J7_fill_53178_5 (l : Launch) (E : hv_E) (p : Nat) (n : Nat) (Φ : hv_S → Prop) (x1 : Int32) (x2 : Int32) (x3 : Int32) (σ : hv_S) : Prop := hv_TW l E (hv_rm 0) 0 0 m_J7_fill_53178 hv_no (hv_ZV E Φ) 5 [(0, .ref p), (1, .int x1), (2, .int x2), (3, .int x3)] [] σ
set_option maxHeartbeats 4000000 in
set_option maxRecDepth 100000 in
theorem B_J7_fill_53178_5 {l : Launch} {E : hv_E} (p : Nat) (n : Nat) (hp : p ∈ hv_pl E) (hs : hv_sh E p = .inr (0, n)) (x1 : Int32) (x2 : Int32) (x3 : Int32) {σ : hv_S} {Φ : hv_S → Prop} (h : ((x3 ≤ x2 → Φ σ) ∧ (¬ x3 ≤ x2 → (vp_in x2 n ∧ L_J7_fill_53178_5 l E p n Φ x1 (x2 + 1) x3 (hv_ui σ p x2.toNatClampNeg x1))))) : L_J7_fill_53178_5 l E p n Φ x1 x2 x3 σ := by
  show hv_TW l E (hv_rm 0) 0 0 m_J7_fill_53178 hv_no (hv_ZV E Φ) 5 [(0, .ref p), (1, .int x1), (2, .int x2), (3, .int x3)] [] σ
  refine T_iload_n dJ7_fill_53178_5 rfl 2 rfl ?_
  refine T_iload_n dJ7_fill_53178_6 rfl 3 rfl ?_
  refine T_icmp_ge (tgt := 20) dJ7_fill_53178_7 (by decide) (fun c1 => ?_) (fun c1 => ?_)
  · exact T_vret dJ7_fill_53178_20 rfl (h.1 c1)
  · refine T_aload_n dJ7_fill_53178_10 rfl 0 rfl ?_
    refine T_iload_n dJ7_fill_53178_11 rfl 2 rfl ?_
    refine T_iload_n dJ7_fill_53178_12 rfl 1 rfl ?_
    refine T_iast dJ7_fill_53178_13 hp hs (h.2 c1).1 ?_
    refine T_iinc (v := (x2 + 1)) dJ7_fill_53178_14 2 rfl rfl (by decide) rfl ?_
    refine T_goto (tgt := 5) dJ7_fill_53178_17 (by decide) ?_
    exact T_sub [1, 2, 0, 3] rfl (h.2 c1).2
set_option maxHeartbeats 4000000 in
set_option maxRecDepth 100000 in
theorem B_J7_fill_53178 {l : Launch} {E : hv_E} (p : Nat) (n : Nat) (hp : p ∈ hv_pl E) (hs : hv_sh E p = .inr (0, n)) (x2 : Int32) {σ : hv_S} {Φ : hv_S → Prop} (h : L_J7_fill_53178_5 l E p n Φ x2 0 (Int32.ofNat n) σ) : hv_CV l E 0 m_J7_fill_53178 [.ref p, .int x2] σ Φ := by
  refine hv_entV (by decide) (Nat.le_of_ble_eq_true rfl) ?_
  show hv_TW l E (hv_rm 0) 0 0 m_J7_fill_53178 hv_no (hv_ZV E Φ) 0 [(0, .ref p), (1, .int x2)] [] σ
  refine T_iconst (v := 0) dJ7_fill_53178_0 (by decide) ?_
  refine T_istore_n dJ7_fill_53178_1 rfl (by decide) rfl ?_
  refine T_aload_n dJ7_fill_53178_2 rfl 1 rfl ?_
  refine T_alen (v := (Int32.ofNat n)) dJ7_fill_53178_3 hp hs (by decide) rfl ?_
  refine T_istore_n dJ7_fill_53178_4 rfl (by decide) rfl ?_
  exact T_sub [2, 3, 1, 0] rfl h

def L_J7_fill_d0a16_6 (l : Launch) (E : hv_E) (p : Nat) (n : Nat) (Φ : hv_S → Prop) (y1 : Int64) (x3 : Int32) (x4 : Int32) (σ : hv_S) : Prop := hv_TW l E (hv_rm 0) 0 0 m_J7_fill_d0a16 hv_no (hv_ZV E Φ) 6 [(0, .ref p), (1, .long y1), (3, .int x3), (4, .int x4)] [] σ
set_option maxHeartbeats 4000000 in
set_option maxRecDepth 100000 in
theorem B_J7_fill_d0a16_6 {l : Launch} {E : hv_E} (p : Nat) (n : Nat) (hp : p ∈ hv_pl E) (hs : hv_sh E p = .inr (1, n)) (y1 : Int64) (x3 : Int32) (x4 : Int32) {σ : hv_S} {Φ : hv_S → Prop} (h : ((x4 ≤ x3 → Φ σ) ∧ (¬ x4 ≤ x3 → (vp_in x3 n ∧ L_J7_fill_d0a16_6 l E p n Φ y1 (x3 + 1) x4 (hv_ul σ p x3.toNatClampNeg y1))))) : L_J7_fill_d0a16_6 l E p n Φ y1 x3 x4 σ := by
  show hv_TW l E (hv_rm 0) 0 0 m_J7_fill_d0a16 hv_no (hv_ZV E Φ) 6 [(0, .ref p), (1, .long y1), (3, .int x3), (4, .int x4)] [] σ
  refine T_iload_n dJ7_fill_d0a16_6 rfl 2 rfl ?_
  refine T_iload dJ7_fill_d0a16_7 3 rfl ?_
  refine T_icmp_ge (tgt := 22) dJ7_fill_d0a16_9 (by decide) (fun c1 => ?_) (fun c1 => ?_)
  · exact T_vret dJ7_fill_d0a16_22 rfl (h.1 c1)
  · refine T_aload_n dJ7_fill_d0a16_12 rfl 0 rfl ?_
    refine T_iload_n dJ7_fill_d0a16_13 rfl 2 rfl ?_
    refine T_lload_n dJ7_fill_d0a16_14 rfl 1 rfl ?_
    refine T_last dJ7_fill_d0a16_15 hp hs (h.2 c1).1 ?_
    refine T_iinc (v := (x3 + 1)) dJ7_fill_d0a16_16 2 rfl rfl (by decide) rfl ?_
    refine T_goto (tgt := 6) dJ7_fill_d0a16_19 (by decide) ?_
    exact T_sub [1, 2, 0, 3] rfl (h.2 c1).2
set_option maxHeartbeats 4000000 in
set_option maxRecDepth 100000 in
theorem B_J7_fill_d0a16 {l : Launch} {E : hv_E} (p : Nat) (n : Nat) (hp : p ∈ hv_pl E) (hs : hv_sh E p = .inr (1, n)) (y2 : Int64) {σ : hv_S} {Φ : hv_S → Prop} (h : L_J7_fill_d0a16_6 l E p n Φ y2 0 (Int32.ofNat n) σ) : hv_CV l E 0 m_J7_fill_d0a16 [.ref p, .long y2] σ Φ := by
  refine hv_entV (by decide) (Nat.le_of_ble_eq_true rfl) ?_
  show hv_TW l E (hv_rm 0) 0 0 m_J7_fill_d0a16 hv_no (hv_ZV E Φ) 0 [(0, .ref p), (1, .long y2)] [] σ
  refine T_iconst (v := 0) dJ7_fill_d0a16_0 (by decide) ?_
  refine T_istore_n dJ7_fill_d0a16_1 rfl (by decide) rfl ?_
  refine T_aload_n dJ7_fill_d0a16_2 rfl 1 rfl ?_
  refine T_alen (v := (Int32.ofNat n)) dJ7_fill_d0a16_3 hp hs (by decide) rfl ?_
  refine T_istore dJ7_fill_d0a16_4 (by decide) rfl ?_
  exact T_sub [2, 3, 1, 0] rfl h
