-- THE CONSTRUCTORS: printed by wip/gen/p11.py
theorem fo_X4_18 : hv_FO RX4 18 4 1 false .int := ⟨TX4, 6, tyX4, rfl, by decide, hv_usX4, rfl, tyX4_ok, nmX4, (hv_in1 103 (by decide +kernel) rfl), rfl, by decide +kernel⟩
theorem fo_X4_22 : hv_FO RX4 22 4 2 false .int := ⟨TX4, 6, tyX4, rfl, by decide, hv_usX4, rfl, tyX4_ok, nmX4, (hv_in1 105 (by decide +kernel) rfl), rfl, by decide +kernel⟩
theorem fo_X4_25 : hv_FO RX4 25 4 3 false .int := ⟨TX4, 6, tyX4, rfl, by decide, hv_usX4, rfl, tyX4_ok, nmX4, (hv_in1 108 (by decide +kernel) rfl), rfl, by decide +kernel⟩
theorem fo_X4_28 : hv_FO RX4 28 4 4 false .int := ⟨TX4, 6, tyX4, rfl, by decide, hv_usX4, rfl, tyX4_ok, nmX4, (hv_in1 111 (by decide +kernel) rfl), rfl, by decide +kernel⟩
theorem fo_X4_31 : hv_FO RX4 31 4 5 false .boolean := ⟨TX4, 6, tyX4, rfl, by decide, hv_usX4, rfl, tyX4_ok, nmX4, (hv_in1 114 (by decide +kernel) rfl), rfl, by decide +kernel⟩
set_option maxHeartbeats 4000000 in
set_option maxRecDepth 100000 in
theorem c_X4_clear (l : Launch) (e : hv_Ev) (q : Nat) (f0 : Value) (f1 : Value) (f2 : Value) (f3 : Value) (f4 : Value) (f5 : Value) : hv_CN l e 1 0 0 m_X4_clear q [] 4 [f0, f1, f2, f3, f4, f5] (fun qs => [(q, .inr (4, [f0, .int 0, .int 999, .int 1, .int 2, .int 0]))]) := by
  refine N_entry (by decide) rfl (Nat.le_of_ble_eq_true rfl) (fun A => ?_)
  show hv_NW _ _ _ _ _ _ _ _ [(0, .ref q)] _ _
  refine N_aload_n dX4_clear_0 rfl 0 rfl ?_
  refine N_iconst (v := 0) dX4_clear_1 (by decide) ?_
  refine N_put dX4_clear_2 fo_X4_18 0 rfl rfl rfl (Nat.le_of_ble_eq_true rfl) (fun h => by first | rfl | exact absurd h (by decide)) ?_
  show hv_NW _ _ _ _ _ _ _ _ _ _ [(q, .inr (4, [f0, .int 0, f2, f3, f4, f5]))]
  refine N_aload_n dX4_clear_5 rfl 0 rfl ?_
  refine N_sipush (v := 999) dX4_clear_6 (by decide) ?_
  refine N_put dX4_clear_9 fo_X4_22 0 rfl rfl rfl (Nat.le_of_ble_eq_true rfl) (fun h => by first | rfl | exact absurd h (by decide)) ?_
  show hv_NW _ _ _ _ _ _ _ _ _ _ [(q, .inr (4, [f0, .int 0, .int 999, f3, f4, f5]))]
  refine N_aload_n dX4_clear_12 rfl 0 rfl ?_
  refine N_iconst (v := 1) dX4_clear_13 (by decide) ?_
  refine N_put dX4_clear_14 fo_X4_25 0 rfl rfl rfl (Nat.le_of_ble_eq_true rfl) (fun h => by first | rfl | exact absurd h (by decide)) ?_
  show hv_NW _ _ _ _ _ _ _ _ _ _ [(q, .inr (4, [f0, .int 0, .int 999, .int 1, f4, f5]))]
  refine N_aload_n dX4_clear_17 rfl 0 rfl ?_
  refine N_iconst (v := 2) dX4_clear_18 (by decide) ?_
  refine N_put dX4_clear_19 fo_X4_28 0 rfl rfl rfl (Nat.le_of_ble_eq_true rfl) (fun h => by first | rfl | exact absurd h (by decide)) ?_
  show hv_NW _ _ _ _ _ _ _ _ _ _ [(q, .inr (4, [f0, .int 0, .int 999, .int 1, .int 2, f5]))]
  refine N_aload_n dX4_clear_22 rfl 0 rfl ?_
  refine N_iconst (v := 0) dX4_clear_23 (by decide) ?_
  refine N_put dX4_clear_24 fo_X4_31 0 rfl rfl rfl (Nat.le_of_ble_eq_true rfl) (fun h => by first | rfl | exact absurd h (by decide)) ?_
  show hv_NW _ _ _ _ _ _ _ _ _ _ [(q, .inr (4, [f0, .int 0, .int 999, .int 1, .int 2, .int 0]))]
  exact N_ret dX4_clear_27 rfl rfl rfl (fun _ => 0) rfl
theorem dX4_init_0 : decode cX4_init 0 = .ok (.aload_n 0, 1) := by decide +kernel
theorem dX4_init_1 : decode cX4_init 1 = .ok (.invokespecial 1, 3) := by decide +kernel
theorem dX4_init_4 : decode cX4_init 4 = .ok (.aload_n 0, 1) := by decide +kernel
theorem dX4_init_5 : decode cX4_init 5 = .ok (.bipush 100, 2) := by decide +kernel
theorem dX4_init_7 : decode cX4_init 7 = .ok (.newarray .int, 2) := by decide +kernel
theorem dX4_init_9 : decode cX4_init 9 = .ok (.putfield 9, 3) := by decide +kernel
theorem dX4_init_12 : decode cX4_init 12 = .ok (.aload_n 0, 1) := by decide +kernel
theorem dX4_init_13 : decode cX4_init 13 = .ok (.invokevirtual 15, 3) := by decide +kernel
theorem dX4_init_16 : decode cX4_init 16 = .ok (.return_, 1) := by decide +kernel
theorem fo_X4_9 : hv_FO RX4 9 4 0 true (.array .int) := ⟨TX4, 6, tyX4, rfl, by decide, hv_usX4, rfl, tyX4_ok, nmX4, (hv_in1 102 (by decide +kernel) rfl), rfl, by decide +kernel⟩
set_option maxHeartbeats 4000000 in
set_option maxRecDepth 100000 in
theorem c_X4_init (l : Launch) (e : hv_Ev) (q : Nat) : hv_CN l e 2 1 100 m_X4_init q [] 4 [.null, .int 0, .int 0, .int 0, .int 0, .int 0] (fun qs => [(qs 0, (.inl (e.2.2.1 0, 100, .inl (fun _ => 0)))), (q, .inr (4, [.ref (qs 0), .int 0, .int 999, .int 1, .int 2, .int 0]))]) := by
  refine N_entry (by decide) rfl (Nat.le_of_ble_eq_true rfl) (fun A => ?_)
  show hv_NW _ _ _ _ _ _ _ _ [(0, .ref q)] _ _
  refine N_aload_n dX4_init_0 rfl 0 rfl ?_
  refine N_objInit dX4_init_1 (hv_in1 97 (by decide +kernel) rfl) (hv_in1 26 (by decide +kernel) rfl) (hv_in1 27 (by decide +kernel) rfl) (Nat.le_of_ble_eq_true rfl) (Nat.le_of_ble_eq_true rfl) ?_
  refine N_aload_n dX4_init_4 rfl 0 rfl ?_
  refine N_bipush (v := 100) dX4_init_5 (by decide) ?_
  refine N_newi (N' := 100) dX4_init_7 (hv_in1 85 (by decide +kernel) rfl) (by decide) rfl (Nat.le_of_ble_eq_true rfl) (Nat.le_of_ble_eq_true rfl) (Nat.le_of_ble_eq_true rfl) (fun q7 => ?_)
  show hv_NW _ _ _ _ _ _ _ _ _ _ [(q, .inr (4, [.null, .int 0, .int 0, .int 0, .int 0, .int 0])), (q7, (.inl (e.2.2.1 0, 100, .inl (fun _ => 0))))]
  refine N_put dX4_init_9 fo_X4_9 0 rfl rfl rfl (Nat.le_of_ble_eq_true rfl) (fun h => by first | rfl | exact absurd h (by decide)) ?_
  show hv_NW _ _ _ _ _ _ _ _ _ _ [(q, .inr (4, [.ref q7, .int 0, .int 0, .int 0, .int 0, .int 0])), (q7, (.inl (e.2.2.1 0, 100, .inl (fun _ => 0))))]
  refine N_aload_n dX4_init_12 rfl 0 rfl ?_
  refine N_call1 dX4_init_13 ⟨mw_X4_clear, (hv_in1 100 (by decide +kernel) rfl), (hv_inP 0 (by decide +kernel) rfl), (Or.inl (hv_in1 98 (by decide +kernel) rfl))⟩ ⟨TX4, 6, rfl⟩ rfl (c_X4_clear l _ q (.ref q7) (.int 0) (.int 0) (.int 0) (.int 0) (.int 0)) (Nat.le_of_ble_eq_true rfl) ⟨Nat.le_of_ble_eq_true rfl, Nat.le_of_ble_eq_true rfl, Nat.le_of_ble_eq_true rfl, Nat.le_of_ble_eq_true rfl⟩ (fun _ => ?_)
  show hv_NW _ _ _ _ _ _ _ _ _ _ [(q7, (.inl (e.2.2.1 0, 100, .inl (fun _ => 0)))), (q, .inr (4, [.ref q7, .int 0, .int 999, .int 1, .int 2, .int 0]))]
  exact N_ret dX4_init_16 rfl rfl rfl (fun k => ([q7] : List Nat).getD k 0) rfl
theorem dX0_init_0 : decode cX0_init 0 = .ok (.aload_n 0, 1) := by decide +kernel
theorem dX0_init_1 : decode cX0_init 1 = .ok (.invokespecial 3, 3) := by decide +kernel
theorem dX0_init_4 : decode cX0_init 4 = .ok (.aload_n 0, 1) := by decide +kernel
theorem dX0_init_5 : decode cX0_init 5 = .ok (.bipush 20, 2) := by decide +kernel
theorem dX0_init_7 : decode cX0_init 7 = .ok (.newarray .int, 2) := by decide +kernel
theorem dX0_init_9 : decode cX0_init 9 = .ok (.putfield 11, 3) := by decide +kernel
theorem dX0_init_12 : decode cX0_init 12 = .ok (.return_, 1) := by decide +kernel
theorem fo_X0_11 : hv_FO RX0 11 0 0 true (.array .int) := ⟨TX0, 5, tyX0, rfl, by decide, hv_usX0, rfl, tyX0_ok, nmX0, (hv_in2 58 (by decide +kernel) rfl), rfl, by decide +kernel⟩
set_option maxHeartbeats 4000000 in
set_option maxRecDepth 100000 in
theorem c_X0_init (l : Launch) (e : hv_Ev) (q : Nat) : hv_CN l e 1 1 20 m_X0_init q [] 0 [.null, .int 0, .int 0, .int 0, .int 0] (fun qs => [(q, .inr (0, [.ref (qs 0), .int 0, .int 0, .int 0, .int 0])), (qs 0, (.inl (e.2.2.1 0, 20, .inl (fun _ => 0))))]) := by
  refine N_entry (by decide) rfl (Nat.le_of_ble_eq_true rfl) (fun A => ?_)
  show hv_NW _ _ _ _ _ _ _ _ [(0, .ref q)] _ _
  refine N_aload_n dX0_init_0 rfl 0 rfl ?_
  refine N_objInit dX0_init_1 (hv_in2 57 (by decide +kernel) rfl) (hv_in1 26 (by decide +kernel) rfl) (hv_in1 27 (by decide +kernel) rfl) (Nat.le_of_ble_eq_true rfl) (Nat.le_of_ble_eq_true rfl) ?_
  refine N_aload_n dX0_init_4 rfl 0 rfl ?_
  refine N_bipush (v := 20) dX0_init_5 (by decide) ?_
  refine N_newi (N' := 20) dX0_init_7 (hv_in1 85 (by decide +kernel) rfl) (by decide) rfl (Nat.le_of_ble_eq_true rfl) (Nat.le_of_ble_eq_true rfl) (Nat.le_of_ble_eq_true rfl) (fun q7 => ?_)
  show hv_NW _ _ _ _ _ _ _ _ _ _ [(q, .inr (0, [.null, .int 0, .int 0, .int 0, .int 0])), (q7, (.inl (e.2.2.1 0, 20, .inl (fun _ => 0))))]
  refine N_put dX0_init_9 fo_X0_11 0 rfl rfl rfl (Nat.le_of_ble_eq_true rfl) (fun h => by first | rfl | exact absurd h (by decide)) ?_
  show hv_NW _ _ _ _ _ _ _ _ _ _ [(q, .inr (0, [.ref q7, .int 0, .int 0, .int 0, .int 0])), (q7, (.inl (e.2.2.1 0, 20, .inl (fun _ => 0))))]
  exact N_ret dX0_init_12 rfl rfl rfl (fun k => ([q7] : List Nat).getD k 0) rfl
theorem dX2_init_0 : decode cX2_init 0 = .ok (.aload_n 0, 1) := by decide +kernel
theorem dX2_init_1 : decode cX2_init 1 = .ok (.invokespecial 3, 3) := by decide +kernel
theorem dX2_init_4 : decode cX2_init 4 = .ok (.aload_n 0, 1) := by decide +kernel
theorem dX2_init_5 : decode cX2_init 5 = .ok (.iconst 3, 1) := by decide +kernel
theorem dX2_init_6 : decode cX2_init 6 = .ok (.newarray .int, 2) := by decide +kernel
theorem dX2_init_8 : decode cX2_init 8 = .ok (.putfield 9, 3) := by decide +kernel
theorem dX2_init_11 : decode cX2_init 11 = .ok (.aload_n 0, 1) := by decide +kernel
theorem dX2_init_12 : decode cX2_init 12 = .ok (.bipush 24, 2) := by decide +kernel
theorem dX2_init_14 : decode cX2_init 14 = .ok (.newarray .int, 2) := by decide +kernel
theorem dX2_init_16 : decode cX2_init 16 = .ok (.putfield 15, 3) := by decide +kernel
theorem dX2_init_19 : decode cX2_init 19 = .ok (.aload_n 0, 1) := by decide +kernel
theorem dX2_init_20 : decode cX2_init 20 = .ok (.bipush 24, 2) := by decide +kernel
theorem dX2_init_22 : decode cX2_init 22 = .ok (.newarray .int, 2) := by decide +kernel
theorem dX2_init_24 : decode cX2_init 24 = .ok (.putfield 18, 3) := by decide +kernel
theorem dX2_init_27 : decode cX2_init 27 = .ok (.aload_n 0, 1) := by decide +kernel
theorem dX2_init_28 : decode cX2_init 28 = .ok (.bipush 24, 2) := by decide +kernel
theorem dX2_init_30 : decode cX2_init 30 = .ok (.newarray .int, 2) := by decide +kernel
theorem dX2_init_32 : decode cX2_init 32 = .ok (.putfield 21, 3) := by decide +kernel
theorem dX2_init_35 : decode cX2_init 35 = .ok (.aload_n 0, 1) := by decide +kernel
theorem dX2_init_36 : decode cX2_init 36 = .ok (.bipush 24, 2) := by decide +kernel
theorem dX2_init_38 : decode cX2_init 38 = .ok (.newarray .int, 2) := by decide +kernel
theorem dX2_init_40 : decode cX2_init 40 = .ok (.putfield 24, 3) := by decide +kernel
theorem dX2_init_43 : decode cX2_init 43 = .ok (.aload_n 0, 1) := by decide +kernel
theorem dX2_init_44 : decode cX2_init 44 = .ok (.bipush 24, 2) := by decide +kernel
theorem dX2_init_46 : decode cX2_init 46 = .ok (.newarray .int, 2) := by decide +kernel
theorem dX2_init_48 : decode cX2_init 48 = .ok (.putfield 27, 3) := by decide +kernel
theorem dX2_init_51 : decode cX2_init 51 = .ok (.aload_n 0, 1) := by decide +kernel
theorem dX2_init_52 : decode cX2_init 52 = .ok (.bipush 24, 2) := by decide +kernel
theorem dX2_init_54 : decode cX2_init 54 = .ok (.newarray .int, 2) := by decide +kernel
theorem dX2_init_56 : decode cX2_init 56 = .ok (.putfield 30, 3) := by decide +kernel
theorem dX2_init_59 : decode cX2_init 59 = .ok (.aload_n 0, 1) := by decide +kernel
theorem dX2_init_60 : decode cX2_init 60 = .ok (.getfield 15, 3) := by decide +kernel
theorem dX2_init_63 : decode cX2_init 63 = .ok (.iconst 5, 1) := by decide +kernel
theorem dX2_init_64 : decode cX2_init 64 = .ok (.invokestatic 33, 3) := by decide +kernel
theorem dX2_init_67 : decode cX2_init 67 = .ok (.aload_n 0, 1) := by decide +kernel
theorem dX2_init_68 : decode cX2_init 68 = .ok (.getfield 18, 3) := by decide +kernel
theorem dX2_init_71 : decode cX2_init 71 = .ok (.iconst 1, 1) := by decide +kernel
theorem dX2_init_72 : decode cX2_init 72 = .ok (.invokestatic 33, 3) := by decide +kernel
theorem dX2_init_75 : decode cX2_init 75 = .ok (.aload_n 0, 1) := by decide +kernel
theorem dX2_init_76 : decode cX2_init 76 = .ok (.getfield 21, 3) := by decide +kernel
theorem dX2_init_79 : decode cX2_init 79 = .ok (.bipush 100, 2) := by decide +kernel
theorem dX2_init_81 : decode cX2_init 81 = .ok (.invokestatic 33, 3) := by decide +kernel
theorem dX2_init_84 : decode cX2_init 84 = .ok (.aload_n 0, 1) := by decide +kernel
theorem dX2_init_85 : decode cX2_init 85 = .ok (.getfield 24, 3) := by decide +kernel
theorem dX2_init_88 : decode cX2_init 88 = .ok (.bipush (-5), 2) := by decide +kernel
theorem dX2_init_90 : decode cX2_init 90 = .ok (.invokestatic 33, 3) := by decide +kernel
theorem dX2_init_93 : decode cX2_init 93 = .ok (.aload_n 0, 1) := by decide +kernel
theorem dX2_init_94 : decode cX2_init 94 = .ok (.getfield 27, 3) := by decide +kernel
theorem dX2_init_97 : decode cX2_init 97 = .ok (.bipush (-5), 2) := by decide +kernel
theorem dX2_init_99 : decode cX2_init 99 = .ok (.invokestatic 33, 3) := by decide +kernel
theorem dX2_init_102 : decode cX2_init 102 = .ok (.return_, 1) := by decide +kernel
theorem fo_X2_9 : hv_FO RX2 9 2 0 true (.array .int) := ⟨TX2, 9, tyX2, rfl, by decide, hv_usX2, rfl, tyX2_ok, nmX2, (hv_in1 37 (by decide +kernel) rfl), rfl, by decide +kernel⟩
theorem fo_X2_15 : hv_FO RX2 15 2 1 true (.array .int) := ⟨TX2, 9, tyX2, rfl, by decide, hv_usX2, rfl, tyX2_ok, nmX2, (hv_in1 40 (by decide +kernel) rfl), rfl, by decide +kernel⟩
theorem fo_X2_18 : hv_FO RX2 18 2 2 true (.array .int) := ⟨TX2, 9, tyX2, rfl, by decide, hv_usX2, rfl, tyX2_ok, nmX2, (hv_in1 44 (by decide +kernel) rfl), rfl, by decide +kernel⟩
theorem fo_X2_21 : hv_FO RX2 21 2 3 true (.array .int) := ⟨TX2, 9, tyX2, rfl, by decide, hv_usX2, rfl, tyX2_ok, nmX2, (hv_in1 47 (by decide +kernel) rfl), rfl, by decide +kernel⟩
theorem fo_X2_24 : hv_FO RX2 24 2 4 true (.array .int) := ⟨TX2, 9, tyX2, rfl, by decide, hv_usX2, rfl, tyX2_ok, nmX2, (hv_in1 49 (by decide +kernel) rfl), rfl, by decide +kernel⟩
theorem fo_X2_27 : hv_FO RX2 27 2 5 true (.array .int) := ⟨TX2, 9, tyX2, rfl, by decide, hv_usX2, rfl, tyX2_ok, nmX2, (hv_in1 52 (by decide +kernel) rfl), rfl, by decide +kernel⟩
theorem fo_X2_30 : hv_FO RX2 30 2 6 true (.array .int) := ⟨TX2, 9, tyX2, rfl, by decide, hv_usX2, rfl, tyX2_ok, nmX2, (hv_in1 55 (by decide +kernel) rfl), rfl, by decide +kernel⟩
set_option maxHeartbeats 4000000 in
set_option maxRecDepth 100000 in
theorem c_X2_init (l : Launch) (e : hv_Ev) (q : Nat) : hv_CN l e 1 7 147 m_X2_init q [] 2 [.null, .null, .null, .null, .null, .null, .null, .int 0, .int 0] (fun qs => [(q, .inr (2, [.ref (qs 0), .ref (qs 1), .ref (qs 2), .ref (qs 3), .ref (qs 4), .ref (qs 5), .ref (qs 6), .int 0, .int 0])), (qs 0, (.inl (e.2.2.1 0, 3, .inl (fun _ => 0)))), (qs 1, (.inl (e.2.2.1 0, 24, .inl (fun _ => 5)))), (qs 2, (.inl (e.2.2.1 0, 24, .inl (fun _ => 1)))), (qs 3, (.inl (e.2.2.1 0, 24, .inl (fun _ => 100)))), (qs 4, (.inl (e.2.2.1 0, 24, .inl (fun _ => -5)))), (qs 5, (.inl (e.2.2.1 0, 24, .inl (fun _ => -5)))), (qs 6, (.inl (e.2.2.1 0, 24, .inl (fun _ => 0))))]) := by
  refine N_entry (by decide) rfl (Nat.le_of_ble_eq_true rfl) (fun A => ?_)
  show hv_NW _ _ _ _ _ _ _ _ [(0, .ref q)] _ _
  refine N_aload_n dX2_init_0 rfl 0 rfl ?_
  refine N_objInit dX2_init_1 (hv_in1 33 (by decide +kernel) rfl) (hv_in1 26 (by decide +kernel) rfl) (hv_in1 27 (by decide +kernel) rfl) (Nat.le_of_ble_eq_true rfl) (Nat.le_of_ble_eq_true rfl) ?_
  refine N_aload_n dX2_init_4 rfl 0 rfl ?_
  refine N_iconst (v := 3) dX2_init_5 (by decide) ?_
  refine N_newi (N' := 3) dX2_init_6 (hv_in1 85 (by decide +kernel) rfl) (by decide) rfl (Nat.le_of_ble_eq_true rfl) (Nat.le_of_ble_eq_true rfl) (Nat.le_of_ble_eq_true rfl) (fun q6 => ?_)
  show hv_NW _ _ _ _ _ _ _ _ _ _ [(q, .inr (2, [.null, .null, .null, .null, .null, .null, .null, .int 0, .int 0])), (q6, (.inl (e.2.2.1 0, 3, .inl (fun _ => 0))))]
  refine N_put dX2_init_8 fo_X2_9 0 rfl rfl rfl (Nat.le_of_ble_eq_true rfl) (fun h => by first | rfl | exact absurd h (by decide)) ?_
  show hv_NW _ _ _ _ _ _ _ _ _ _ [(q, .inr (2, [.ref q6, .null, .null, .null, .null, .null, .null, .int 0, .int 0])), (q6, (.inl (e.2.2.1 0, 3, .inl (fun _ => 0))))]
  refine N_aload_n dX2_init_11 rfl 0 rfl ?_
  refine N_bipush (v := 24) dX2_init_12 (by decide) ?_
  refine N_newi (N' := 24) dX2_init_14 (hv_in1 85 (by decide +kernel) rfl) (by decide) rfl (Nat.le_of_ble_eq_true rfl) (Nat.le_of_ble_eq_true rfl) (Nat.le_of_ble_eq_true rfl) (fun q14 => ?_)
  show hv_NW _ _ _ _ _ _ _ _ _ _ [(q, .inr (2, [.ref q6, .null, .null, .null, .null, .null, .null, .int 0, .int 0])), (q6, (.inl (e.2.2.1 0, 3, .inl (fun _ => 0)))), (q14, (.inl (e.2.2.1 0, 24, .inl (fun _ => 0))))]
  refine N_put dX2_init_16 fo_X2_15 0 rfl rfl rfl (Nat.le_of_ble_eq_true rfl) (fun h => by first | rfl | exact absurd h (by decide)) ?_
  show hv_NW _ _ _ _ _ _ _ _ _ _ [(q, .inr (2, [.ref q6, .ref q14, .null, .null, .null, .null, .null, .int 0, .int 0])), (q6, (.inl (e.2.2.1 0, 3, .inl (fun _ => 0)))), (q14, (.inl (e.2.2.1 0, 24, .inl (fun _ => 0))))]
  refine N_aload_n dX2_init_19 rfl 0 rfl ?_
  refine N_bipush (v := 24) dX2_init_20 (by decide) ?_
  refine N_newi (N' := 24) dX2_init_22 (hv_in1 85 (by decide +kernel) rfl) (by decide) rfl (Nat.le_of_ble_eq_true rfl) (Nat.le_of_ble_eq_true rfl) (Nat.le_of_ble_eq_true rfl) (fun q22 => ?_)
  show hv_NW _ _ _ _ _ _ _ _ _ _ [(q, .inr (2, [.ref q6, .ref q14, .null, .null, .null, .null, .null, .int 0, .int 0])), (q6, (.inl (e.2.2.1 0, 3, .inl (fun _ => 0)))), (q14, (.inl (e.2.2.1 0, 24, .inl (fun _ => 0)))), (q22, (.inl (e.2.2.1 0, 24, .inl (fun _ => 0))))]
  refine N_put dX2_init_24 fo_X2_18 0 rfl rfl rfl (Nat.le_of_ble_eq_true rfl) (fun h => by first | rfl | exact absurd h (by decide)) ?_
  show hv_NW _ _ _ _ _ _ _ _ _ _ [(q, .inr (2, [.ref q6, .ref q14, .ref q22, .null, .null, .null, .null, .int 0, .int 0])), (q6, (.inl (e.2.2.1 0, 3, .inl (fun _ => 0)))), (q14, (.inl (e.2.2.1 0, 24, .inl (fun _ => 0)))), (q22, (.inl (e.2.2.1 0, 24, .inl (fun _ => 0))))]
  refine N_aload_n dX2_init_27 rfl 0 rfl ?_
  refine N_bipush (v := 24) dX2_init_28 (by decide) ?_
  refine N_newi (N' := 24) dX2_init_30 (hv_in1 85 (by decide +kernel) rfl) (by decide) rfl (Nat.le_of_ble_eq_true rfl) (Nat.le_of_ble_eq_true rfl) (Nat.le_of_ble_eq_true rfl) (fun q30 => ?_)
  show hv_NW _ _ _ _ _ _ _ _ _ _ [(q, .inr (2, [.ref q6, .ref q14, .ref q22, .null, .null, .null, .null, .int 0, .int 0])), (q6, (.inl (e.2.2.1 0, 3, .inl (fun _ => 0)))), (q14, (.inl (e.2.2.1 0, 24, .inl (fun _ => 0)))), (q22, (.inl (e.2.2.1 0, 24, .inl (fun _ => 0)))), (q30, (.inl (e.2.2.1 0, 24, .inl (fun _ => 0))))]
  refine N_put dX2_init_32 fo_X2_21 0 rfl rfl rfl (Nat.le_of_ble_eq_true rfl) (fun h => by first | rfl | exact absurd h (by decide)) ?_
  show hv_NW _ _ _ _ _ _ _ _ _ _ [(q, .inr (2, [.ref q6, .ref q14, .ref q22, .ref q30, .null, .null, .null, .int 0, .int 0])), (q6, (.inl (e.2.2.1 0, 3, .inl (fun _ => 0)))), (q14, (.inl (e.2.2.1 0, 24, .inl (fun _ => 0)))), (q22, (.inl (e.2.2.1 0, 24, .inl (fun _ => 0)))), (q30, (.inl (e.2.2.1 0, 24, .inl (fun _ => 0))))]
  refine N_aload_n dX2_init_35 rfl 0 rfl ?_
  refine N_bipush (v := 24) dX2_init_36 (by decide) ?_
  refine N_newi (N' := 24) dX2_init_38 (hv_in1 85 (by decide +kernel) rfl) (by decide) rfl (Nat.le_of_ble_eq_true rfl) (Nat.le_of_ble_eq_true rfl) (Nat.le_of_ble_eq_true rfl) (fun q38 => ?_)
  show hv_NW _ _ _ _ _ _ _ _ _ _ [(q, .inr (2, [.ref q6, .ref q14, .ref q22, .ref q30, .null, .null, .null, .int 0, .int 0])), (q6, (.inl (e.2.2.1 0, 3, .inl (fun _ => 0)))), (q14, (.inl (e.2.2.1 0, 24, .inl (fun _ => 0)))), (q22, (.inl (e.2.2.1 0, 24, .inl (fun _ => 0)))), (q30, (.inl (e.2.2.1 0, 24, .inl (fun _ => 0)))), (q38, (.inl (e.2.2.1 0, 24, .inl (fun _ => 0))))]
  refine N_put dX2_init_40 fo_X2_24 0 rfl rfl rfl (Nat.le_of_ble_eq_true rfl) (fun h => by first | rfl | exact absurd h (by decide)) ?_
  show hv_NW _ _ _ _ _ _ _ _ _ _ [(q, .inr (2, [.ref q6, .ref q14, .ref q22, .ref q30, .ref q38, .null, .null, .int 0, .int 0])), (q6, (.inl (e.2.2.1 0, 3, .inl (fun _ => 0)))), (q14, (.inl (e.2.2.1 0, 24, .inl (fun _ => 0)))), (q22, (.inl (e.2.2.1 0, 24, .inl (fun _ => 0)))), (q30, (.inl (e.2.2.1 0, 24, .inl (fun _ => 0)))), (q38, (.inl (e.2.2.1 0, 24, .inl (fun _ => 0))))]
  refine N_aload_n dX2_init_43 rfl 0 rfl ?_
  refine N_bipush (v := 24) dX2_init_44 (by decide) ?_
  refine N_newi (N' := 24) dX2_init_46 (hv_in1 85 (by decide +kernel) rfl) (by decide) rfl (Nat.le_of_ble_eq_true rfl) (Nat.le_of_ble_eq_true rfl) (Nat.le_of_ble_eq_true rfl) (fun q46 => ?_)
  show hv_NW _ _ _ _ _ _ _ _ _ _ [(q, .inr (2, [.ref q6, .ref q14, .ref q22, .ref q30, .ref q38, .null, .null, .int 0, .int 0])), (q6, (.inl (e.2.2.1 0, 3, .inl (fun _ => 0)))), (q14, (.inl (e.2.2.1 0, 24, .inl (fun _ => 0)))), (q22, (.inl (e.2.2.1 0, 24, .inl (fun _ => 0)))), (q30, (.inl (e.2.2.1 0, 24, .inl (fun _ => 0)))), (q38, (.inl (e.2.2.1 0, 24, .inl (fun _ => 0)))), (q46, (.inl (e.2.2.1 0, 24, .inl (fun _ => 0))))]
  refine N_put dX2_init_48 fo_X2_27 0 rfl rfl rfl (Nat.le_of_ble_eq_true rfl) (fun h => by first | rfl | exact absurd h (by decide)) ?_
  show hv_NW _ _ _ _ _ _ _ _ _ _ [(q, .inr (2, [.ref q6, .ref q14, .ref q22, .ref q30, .ref q38, .ref q46, .null, .int 0, .int 0])), (q6, (.inl (e.2.2.1 0, 3, .inl (fun _ => 0)))), (q14, (.inl (e.2.2.1 0, 24, .inl (fun _ => 0)))), (q22, (.inl (e.2.2.1 0, 24, .inl (fun _ => 0)))), (q30, (.inl (e.2.2.1 0, 24, .inl (fun _ => 0)))), (q38, (.inl (e.2.2.1 0, 24, .inl (fun _ => 0)))), (q46, (.inl (e.2.2.1 0, 24, .inl (fun _ => 0))))]
  refine N_aload_n dX2_init_51 rfl 0 rfl ?_
  refine N_bipush (v := 24) dX2_init_52 (by decide) ?_
  refine N_newi (N' := 24) dX2_init_54 (hv_in1 85 (by decide +kernel) rfl) (by decide) rfl (Nat.le_of_ble_eq_true rfl) (Nat.le_of_ble_eq_true rfl) (Nat.le_of_ble_eq_true rfl) (fun q54 => ?_)
  show hv_NW _ _ _ _ _ _ _ _ _ _ [(q, .inr (2, [.ref q6, .ref q14, .ref q22, .ref q30, .ref q38, .ref q46, .null, .int 0, .int 0])), (q6, (.inl (e.2.2.1 0, 3, .inl (fun _ => 0)))), (q14, (.inl (e.2.2.1 0, 24, .inl (fun _ => 0)))), (q22, (.inl (e.2.2.1 0, 24, .inl (fun _ => 0)))), (q30, (.inl (e.2.2.1 0, 24, .inl (fun _ => 0)))), (q38, (.inl (e.2.2.1 0, 24, .inl (fun _ => 0)))), (q46, (.inl (e.2.2.1 0, 24, .inl (fun _ => 0)))), (q54, (.inl (e.2.2.1 0, 24, .inl (fun _ => 0))))]
  refine N_put dX2_init_56 fo_X2_30 0 rfl rfl rfl (Nat.le_of_ble_eq_true rfl) (fun h => by first | rfl | exact absurd h (by decide)) ?_
  show hv_NW _ _ _ _ _ _ _ _ _ _ [(q, .inr (2, [.ref q6, .ref q14, .ref q22, .ref q30, .ref q38, .ref q46, .ref q54, .int 0, .int 0])), (q6, (.inl (e.2.2.1 0, 3, .inl (fun _ => 0)))), (q14, (.inl (e.2.2.1 0, 24, .inl (fun _ => 0)))), (q22, (.inl (e.2.2.1 0, 24, .inl (fun _ => 0)))), (q30, (.inl (e.2.2.1 0, 24, .inl (fun _ => 0)))), (q38, (.inl (e.2.2.1 0, 24, .inl (fun _ => 0)))), (q46, (.inl (e.2.2.1 0, 24, .inl (fun _ => 0)))), (q54, (.inl (e.2.2.1 0, 24, .inl (fun _ => 0))))]
  refine N_aload_n dX2_init_59 rfl 0 rfl ?_
  refine N_get dX2_init_60 fo_X2_15 0 rfl rfl ?_
  refine N_iconst (v := 5) dX2_init_63 (by decide) ?_
  refine N_fill dX2_init_64 ms_X2_33 (Nat.le_of_ble_eq_true rfl) ⟨Nat.le_of_ble_eq_true rfl, Nat.le_of_ble_eq_true rfl, Nat.le_of_ble_eq_true rfl, Nat.le_of_ble_eq_true rfl⟩ 2 rfl (by decide) ?_
  show hv_NW _ _ _ _ _ _ _ _ _ _ [(q, .inr (2, [.ref q6, .ref q14, .ref q22, .ref q30, .ref q38, .ref q46, .ref q54, .int 0, .int 0])), (q6, (.inl (e.2.2.1 0, 3, .inl (fun _ => 0)))), (q14, (.inl (e.2.2.1 0, 24, .inl (fun _ => 5)))), (q22, (.inl (e.2.2.1 0, 24, .inl (fun _ => 0)))), (q30, (.inl (e.2.2.1 0, 24, .inl (fun _ => 0)))), (q38, (.inl (e.2.2.1 0, 24, .inl (fun _ => 0)))), (q46, (.inl (e.2.2.1 0, 24, .inl (fun _ => 0)))), (q54, (.inl (e.2.2.1 0, 24, .inl (fun _ => 0))))]
  refine N_aload_n dX2_init_67 rfl 0 rfl ?_
  refine N_get dX2_init_68 fo_X2_18 0 rfl rfl ?_
  refine N_iconst (v := 1) dX2_init_71 (by decide) ?_
  refine N_fill dX2_init_72 ms_X2_33 (Nat.le_of_ble_eq_true rfl) ⟨Nat.le_of_ble_eq_true rfl, Nat.le_of_ble_eq_true rfl, Nat.le_of_ble_eq_true rfl, Nat.le_of_ble_eq_true rfl⟩ 3 rfl (by decide) ?_
  show hv_NW _ _ _ _ _ _ _ _ _ _ [(q, .inr (2, [.ref q6, .ref q14, .ref q22, .ref q30, .ref q38, .ref q46, .ref q54, .int 0, .int 0])), (q6, (.inl (e.2.2.1 0, 3, .inl (fun _ => 0)))), (q14, (.inl (e.2.2.1 0, 24, .inl (fun _ => 5)))), (q22, (.inl (e.2.2.1 0, 24, .inl (fun _ => 1)))), (q30, (.inl (e.2.2.1 0, 24, .inl (fun _ => 0)))), (q38, (.inl (e.2.2.1 0, 24, .inl (fun _ => 0)))), (q46, (.inl (e.2.2.1 0, 24, .inl (fun _ => 0)))), (q54, (.inl (e.2.2.1 0, 24, .inl (fun _ => 0))))]
  refine N_aload_n dX2_init_75 rfl 0 rfl ?_
  refine N_get dX2_init_76 fo_X2_21 0 rfl rfl ?_
  refine N_bipush (v := 100) dX2_init_79 (by decide) ?_
  refine N_fill dX2_init_81 ms_X2_33 (Nat.le_of_ble_eq_true rfl) ⟨Nat.le_of_ble_eq_true rfl, Nat.le_of_ble_eq_true rfl, Nat.le_of_ble_eq_true rfl, Nat.le_of_ble_eq_true rfl⟩ 4 rfl (by decide) ?_
  show hv_NW _ _ _ _ _ _ _ _ _ _ [(q, .inr (2, [.ref q6, .ref q14, .ref q22, .ref q30, .ref q38, .ref q46, .ref q54, .int 0, .int 0])), (q6, (.inl (e.2.2.1 0, 3, .inl (fun _ => 0)))), (q14, (.inl (e.2.2.1 0, 24, .inl (fun _ => 5)))), (q22, (.inl (e.2.2.1 0, 24, .inl (fun _ => 1)))), (q30, (.inl (e.2.2.1 0, 24, .inl (fun _ => 100)))), (q38, (.inl (e.2.2.1 0, 24, .inl (fun _ => 0)))), (q46, (.inl (e.2.2.1 0, 24, .inl (fun _ => 0)))), (q54, (.inl (e.2.2.1 0, 24, .inl (fun _ => 0))))]
  refine N_aload_n dX2_init_84 rfl 0 rfl ?_
  refine N_get dX2_init_85 fo_X2_24 0 rfl rfl ?_
  refine N_bipush (v := -5) dX2_init_88 (by decide) ?_
  refine N_fill dX2_init_90 ms_X2_33 (Nat.le_of_ble_eq_true rfl) ⟨Nat.le_of_ble_eq_true rfl, Nat.le_of_ble_eq_true rfl, Nat.le_of_ble_eq_true rfl, Nat.le_of_ble_eq_true rfl⟩ 5 rfl (by decide) ?_
  show hv_NW _ _ _ _ _ _ _ _ _ _ [(q, .inr (2, [.ref q6, .ref q14, .ref q22, .ref q30, .ref q38, .ref q46, .ref q54, .int 0, .int 0])), (q6, (.inl (e.2.2.1 0, 3, .inl (fun _ => 0)))), (q14, (.inl (e.2.2.1 0, 24, .inl (fun _ => 5)))), (q22, (.inl (e.2.2.1 0, 24, .inl (fun _ => 1)))), (q30, (.inl (e.2.2.1 0, 24, .inl (fun _ => 100)))), (q38, (.inl (e.2.2.1 0, 24, .inl (fun _ => -5)))), (q46, (.inl (e.2.2.1 0, 24, .inl (fun _ => 0)))), (q54, (.inl (e.2.2.1 0, 24, .inl (fun _ => 0))))]
  refine N_aload_n dX2_init_93 rfl 0 rfl ?_
  refine N_get dX2_init_94 fo_X2_27 0 rfl rfl ?_
  refine N_bipush (v := -5) dX2_init_97 (by decide) ?_
  refine N_fill dX2_init_99 ms_X2_33 (Nat.le_of_ble_eq_true rfl) ⟨Nat.le_of_ble_eq_true rfl, Nat.le_of_ble_eq_true rfl, Nat.le_of_ble_eq_true rfl, Nat.le_of_ble_eq_true rfl⟩ 6 rfl (by decide) ?_
  show hv_NW _ _ _ _ _ _ _ _ _ _ [(q, .inr (2, [.ref q6, .ref q14, .ref q22, .ref q30, .ref q38, .ref q46, .ref q54, .int 0, .int 0])), (q6, (.inl (e.2.2.1 0, 3, .inl (fun _ => 0)))), (q14, (.inl (e.2.2.1 0, 24, .inl (fun _ => 5)))), (q22, (.inl (e.2.2.1 0, 24, .inl (fun _ => 1)))), (q30, (.inl (e.2.2.1 0, 24, .inl (fun _ => 100)))), (q38, (.inl (e.2.2.1 0, 24, .inl (fun _ => -5)))), (q46, (.inl (e.2.2.1 0, 24, .inl (fun _ => -5)))), (q54, (.inl (e.2.2.1 0, 24, .inl (fun _ => 0))))]
  exact N_ret dX2_init_102 rfl rfl rfl (fun k => ([q6, q14, q22, q30, q38, q46, q54] : List Nat).getD k 0) rfl
theorem dX1_init_0 : decode cX1_init 0 = .ok (.aload_n 0, 1) := by decide +kernel
theorem dX1_init_1 : decode cX1_init 1 = .ok (.invokespecial 1, 3) := by decide +kernel
theorem dX1_init_4 : decode cX1_init 4 = .ok (.aload_n 0, 1) := by decide +kernel
theorem dX1_init_5 : decode cX1_init 5 = .ok (.bipush 100, 2) := by decide +kernel
theorem dX1_init_7 : decode cX1_init 7 = .ok (.newarray .int, 2) := by decide +kernel
theorem dX1_init_9 : decode cX1_init 9 = .ok (.putfield 9, 3) := by decide +kernel
theorem dX1_init_12 : decode cX1_init 12 = .ok (.aload_n 0, 1) := by decide +kernel
theorem dX1_init_13 : decode cX1_init 13 = .ok (.new 13, 3) := by decide +kernel
theorem dX1_init_16 : decode cX1_init 16 = .ok (.dup, 1) := by decide +kernel
theorem dX1_init_17 : decode cX1_init 17 = .ok (.invokespecial 15, 3) := by decide +kernel
theorem dX1_init_20 : decode cX1_init 20 = .ok (.putfield 16, 3) := by decide +kernel
theorem dX1_init_23 : decode cX1_init 23 = .ok (.return_, 1) := by decide +kernel
theorem fo_X1_9 : hv_FO RX1 9 1 0 true (.array .int) := ⟨TX1, 6, tyX1, rfl, by decide, hv_usX1, rfl, tyX1_ok, nmX1, (hv_in1 130 (by decide +kernel) rfl), rfl, by decide +kernel⟩
theorem fo_X1_16 : hv_FO RX1 16 1 5 false (.object "HandedVoices$Rules") := ⟨TX1, 6, tyX1, rfl, by decide, hv_usX1, rfl, tyX1_ok, nmX1, (hv_in1 136 (by decide +kernel) rfl), rfl, by decide +kernel⟩
set_option maxHeartbeats 4000000 in
set_option maxRecDepth 100000 in
theorem c_X1_init (l : Launch) (e : hv_Ev) (q : Nat) : hv_CN l e 3 3 206 m_X1_init q [] 1 [.null, .int 0, .int 0, .int 0, .int 0, .null] (fun qs => [(q, .inr (1, [.ref (qs 0), .int 0, .int 0, .int 0, .int 0, .ref (qs 1)])), (qs 0, (.inl (e.2.2.1 0, 100, .inl (fun _ => 0)))), (qs 2, (.inl (e.2.2.1 0, 100, .inl (fun _ => 0)))), (qs 1, .inr (4, [.ref (qs 2), .int 0, .int 999, .int 1, .int 2, .int 0]))]) := by
  refine N_entry (by decide) rfl (Nat.le_of_ble_eq_true rfl) (fun A => ?_)
  show hv_NW _ _ _ _ _ _ _ _ [(0, .ref q)] _ _
  refine N_aload_n dX1_init_0 rfl 0 rfl ?_
  refine N_objInit dX1_init_1 (hv_in1 91 (by decide +kernel) rfl) (hv_in1 26 (by decide +kernel) rfl) (hv_in1 27 (by decide +kernel) rfl) (Nat.le_of_ble_eq_true rfl) (Nat.le_of_ble_eq_true rfl) ?_
  refine N_aload_n dX1_init_4 rfl 0 rfl ?_
  refine N_bipush (v := 100) dX1_init_5 (by decide) ?_
  refine N_newi (N' := 100) dX1_init_7 (hv_in1 85 (by decide +kernel) rfl) (by decide) rfl (Nat.le_of_ble_eq_true rfl) (Nat.le_of_ble_eq_true rfl) (Nat.le_of_ble_eq_true rfl) (fun q7 => ?_)
  show hv_NW _ _ _ _ _ _ _ _ _ _ [(q, .inr (1, [.null, .int 0, .int 0, .int 0, .int 0, .null])), (q7, (.inl (e.2.2.1 0, 100, .inl (fun _ => 0))))]
  refine N_put dX1_init_9 fo_X1_9 0 rfl rfl rfl (Nat.le_of_ble_eq_true rfl) (fun h => by first | rfl | exact absurd h (by decide)) ?_
  show hv_NW _ _ _ _ _ _ _ _ _ _ [(q, .inr (1, [.ref q7, .int 0, .int 0, .int 0, .int 0, .null])), (q7, (.inl (e.2.2.1 0, 100, .inl (fun _ => 0))))]
  refine N_aload_n dX1_init_12 rfl 0 rfl ?_
  refine N_new (ci := 4) (C := RX4) (T := TX4) (N := 6) (ty := tyX4) (fs := [.null, .int 0, .int 0, .int 0, .int 0, .int 0]) dX1_init_13 rfl hv_usX4 tyX4_ok (hv_in1 92 (by decide +kernel) rfl) (hv_in1 93 (by decide +kernel) rfl) (hv_in1 5 (by decide +kernel) rfl) (fun j hj => by rcases (show j = 0 ∨ j = 1 ∨ j = 2 ∨ j = 3 ∨ j = 4 ∨ j = 5 by omega) with rfl | rfl | rfl | rfl | rfl | rfl <;> rfl) (Nat.le_of_ble_eq_true rfl) (Nat.le_of_ble_eq_true rfl) (fun q13 => ?_)
  show hv_NW _ _ _ _ _ _ _ _ _ _ [(q, .inr (1, [.ref q7, .int 0, .int 0, .int 0, .int 0, .null])), (q7, (.inl (e.2.2.1 0, 100, .inl (fun _ => 0)))), (q13, .inr (4, [.null, .int 0, .int 0, .int 0, .int 0, .int 0]))]
  refine N_dup dX1_init_16 rfl ?_
  show hv_NW _ _ _ _ _ _ _ _ _ _ ([(q, .inr (1, [.ref q7, .int 0, .int 0, .int 0, .int 0, .null])), (q7, (.inl (e.2.2.1 0, 100, .inl (fun _ => 0))))] ++ [(q13, .inr (4, [.null, .int 0, .int 0, .int 0, .int 0, .int 0]))])
  refine N_ctor dX1_init_17 mw_X4_init rfl rfl (hv_in1 95 (by decide +kernel) rfl) (Or.inr ⟨"HandedVoices", (hv_inN1 94 (by decide +kernel) rfl)⟩) (c_X4_init l _ q13 ) rfl (Nat.le_of_ble_eq_true rfl) ⟨Nat.le_of_ble_eq_true rfl, Nat.le_of_ble_eq_true rfl, Nat.le_of_ble_eq_true rfl, Nat.le_of_ble_eq_true rfl⟩ rfl rfl (fun r17 => ?_)
  show hv_NW _ _ _ _ _ _ _ _ _ _ [(q, .inr (1, [.ref q7, .int 0, .int 0, .int 0, .int 0, .null])), (q7, (.inl (e.2.2.1 0, 100, .inl (fun _ => 0)))), ((r17 0), (.inl (e.2.2.1 0, 100, .inl (fun _ => 0)))), (q13, .inr (4, [.ref (r17 0), .int 0, .int 999, .int 1, .int 2, .int 0]))]
  refine N_put dX1_init_20 fo_X1_16 0 rfl rfl rfl (Nat.le_of_ble_eq_true rfl) (fun h => by first | rfl | exact absurd h (by decide)) ?_
  show hv_NW _ _ _ _ _ _ _ _ _ _ [(q, .inr (1, [.ref q7, .int 0, .int 0, .int 0, .int 0, .ref q13])), (q7, (.inl (e.2.2.1 0, 100, .inl (fun _ => 0)))), ((r17 0), (.inl (e.2.2.1 0, 100, .inl (fun _ => 0)))), (q13, .inr (4, [.ref (r17 0), .int 0, .int 999, .int 1, .int 2, .int 0]))]
  exact N_ret dX1_init_23 rfl rfl rfl (fun k => ([q7, q13, (r17 0)] : List Nat).getD k 0) rfl
theorem dX3_init_0 : decode cX3_init 0 = .ok (.aload_n 0, 1) := by decide +kernel
theorem dX3_init_1 : decode cX3_init 1 = .ok (.invokespecial 3, 3) := by decide +kernel
theorem dX3_init_4 : decode cX3_init 4 = .ok (.aload_n 0, 1) := by decide +kernel
theorem dX3_init_5 : decode cX3_init 5 = .ok (.bipush 24, 2) := by decide +kernel
theorem dX3_init_7 : decode cX3_init 7 = .ok (.newarray .int, 2) := by decide +kernel
theorem dX3_init_9 : decode cX3_init 9 = .ok (.putfield 9, 3) := by decide +kernel
theorem dX3_init_12 : decode cX3_init 12 = .ok (.aload_n 0, 1) := by decide +kernel
theorem dX3_init_13 : decode cX3_init 13 = .ok (.iconst 5, 1) := by decide +kernel
theorem dX3_init_14 : decode cX3_init 14 = .ok (.newarray .int, 2) := by decide +kernel
theorem dX3_init_16 : decode cX3_init 16 = .ok (.putfield 17, 3) := by decide +kernel
theorem dX3_init_19 : decode cX3_init 19 = .ok (.aload_n 0, 1) := by decide +kernel
theorem dX3_init_20 : decode cX3_init 20 = .ok (.new 15, 3) := by decide +kernel
theorem dX3_init_23 : decode cX3_init 23 = .ok (.dup, 1) := by decide +kernel
theorem dX3_init_24 : decode cX3_init 24 = .ok (.invokespecial 20, 3) := by decide +kernel
theorem dX3_init_27 : decode cX3_init 27 = .ok (.putfield 21, 3) := by decide +kernel
theorem dX3_init_30 : decode cX3_init 30 = .ok (.aload_n 0, 1) := by decide +kernel
theorem dX3_init_31 : decode cX3_init 31 = .ok (.aload_n 1, 1) := by decide +kernel
theorem dX3_init_32 : decode cX3_init 32 = .ok (.putfield 25, 3) := by decide +kernel
theorem dX3_init_35 : decode cX3_init 35 = .ok (.return_, 1) := by decide +kernel
theorem fo_X3_9 : hv_FO RX3 9 3 1 true (.array .int) := ⟨TX3, 5, tyX3, rfl, by decide, hv_usX3, rfl, tyX3_ok, nmX3, (hv_in1 160 (by decide +kernel) rfl), rfl, by decide +kernel⟩
theorem fo_X3_17 : hv_FO RX3 17 3 2 true (.array .int) := ⟨TX3, 5, tyX3, rfl, by decide, hv_usX3, rfl, tyX3_ok, nmX3, (hv_in1 162 (by decide +kernel) rfl), rfl, by decide +kernel⟩
theorem fo_X3_21 : hv_FO RX3 21 3 3 false (.object "HandedVoices$Rules") := ⟨TX3, 5, tyX3, rfl, by decide, hv_usX3, rfl, tyX3_ok, nmX3, (hv_in1 163 (by decide +kernel) rfl), rfl, by decide +kernel⟩
theorem fo_X3_25 : hv_FO RX3 25 3 0 true (.object "HandedVoices$Hands") := ⟨TX3, 5, tyX3, rfl, by decide, hv_usX3, rfl, tyX3_ok, nmX3, (hv_in1 159 (by decide +kernel) rfl), rfl, by decide +kernel⟩
set_option maxHeartbeats 4000000 in
set_option maxRecDepth 100000 in
theorem c_X3_init (l : Launch) (e : hv_Ev) (q : Nat) (b1 : Nat) : hv_CN l e 3 4 135 m_X3_init q [.ref b1] 3 [.null, .null, .null, .null, .int 0] (fun qs => [(q, .inr (3, [.ref b1, .ref (qs 0), .ref (qs 1), .ref (qs 2), .int 0])), (qs 0, (.inl (e.2.2.1 0, 24, .inl (fun _ => 0)))), (qs 1, (.inl (e.2.2.1 0, 5, .inl (fun _ => 0)))), (qs 3, (.inl (e.2.2.1 0, 100, .inl (fun _ => 0)))), (qs 2, .inr (4, [.ref (qs 3), .int 0, .int 999, .int 1, .int 2, .int 0]))]) := by
  refine N_entry (by decide) rfl (Nat.le_of_ble_eq_true rfl) (fun A => ?_)
  show hv_NW _ _ _ _ _ _ _ _ [(0, .ref q), (1, .ref b1)] _ _
  refine N_aload_n dX3_init_0 rfl 0 rfl ?_
  refine N_objInit dX3_init_1 (hv_in1 156 (by decide +kernel) rfl) (hv_in1 26 (by decide +kernel) rfl) (hv_in1 27 (by decide +kernel) rfl) (Nat.le_of_ble_eq_true rfl) (Nat.le_of_ble_eq_true rfl) ?_
  refine N_aload_n dX3_init_4 rfl 0 rfl ?_
  refine N_bipush (v := 24) dX3_init_5 (by decide) ?_
  refine N_newi (N' := 24) dX3_init_7 (hv_in1 85 (by decide +kernel) rfl) (by decide) rfl (Nat.le_of_ble_eq_true rfl) (Nat.le_of_ble_eq_true rfl) (Nat.le_of_ble_eq_true rfl) (fun q7 => ?_)
  show hv_NW _ _ _ _ _ _ _ _ _ _ [(q, .inr (3, [.null, .null, .null, .null, .int 0])), (q7, (.inl (e.2.2.1 0, 24, .inl (fun _ => 0))))]
  refine N_put dX3_init_9 fo_X3_9 0 rfl rfl rfl (Nat.le_of_ble_eq_true rfl) (fun h => by first | rfl | exact absurd h (by decide)) ?_
  show hv_NW _ _ _ _ _ _ _ _ _ _ [(q, .inr (3, [.null, .ref q7, .null, .null, .int 0])), (q7, (.inl (e.2.2.1 0, 24, .inl (fun _ => 0))))]
  refine N_aload_n dX3_init_12 rfl 0 rfl ?_
  refine N_iconst (v := 5) dX3_init_13 (by decide) ?_
  refine N_newi (N' := 5) dX3_init_14 (hv_in1 85 (by decide +kernel) rfl) (by decide) rfl (Nat.le_of_ble_eq_true rfl) (Nat.le_of_ble_eq_true rfl) (Nat.le_of_ble_eq_true rfl) (fun q14 => ?_)
  show hv_NW _ _ _ _ _ _ _ _ _ _ [(q, .inr (3, [.null, .ref q7, .null, .null, .int 0])), (q7, (.inl (e.2.2.1 0, 24, .inl (fun _ => 0)))), (q14, (.inl (e.2.2.1 0, 5, .inl (fun _ => 0))))]
  refine N_put dX3_init_16 fo_X3_17 0 rfl rfl rfl (Nat.le_of_ble_eq_true rfl) (fun h => by first | rfl | exact absurd h (by decide)) ?_
  show hv_NW _ _ _ _ _ _ _ _ _ _ [(q, .inr (3, [.null, .ref q7, .ref q14, .null, .int 0])), (q7, (.inl (e.2.2.1 0, 24, .inl (fun _ => 0)))), (q14, (.inl (e.2.2.1 0, 5, .inl (fun _ => 0))))]
  refine N_aload_n dX3_init_19 rfl 0 rfl ?_
  refine N_new (ci := 4) (C := RX4) (T := TX4) (N := 6) (ty := tyX4) (fs := [.null, .int 0, .int 0, .int 0, .int 0, .int 0]) dX3_init_20 rfl hv_usX4 tyX4_ok (hv_in1 157 (by decide +kernel) rfl) (hv_in1 93 (by decide +kernel) rfl) (hv_in1 5 (by decide +kernel) rfl) (fun j hj => by rcases (show j = 0 ∨ j = 1 ∨ j = 2 ∨ j = 3 ∨ j = 4 ∨ j = 5 by omega) with rfl | rfl | rfl | rfl | rfl | rfl <;> rfl) (Nat.le_of_ble_eq_true rfl) (Nat.le_of_ble_eq_true rfl) (fun q20 => ?_)
  show hv_NW _ _ _ _ _ _ _ _ _ _ [(q, .inr (3, [.null, .ref q7, .ref q14, .null, .int 0])), (q7, (.inl (e.2.2.1 0, 24, .inl (fun _ => 0)))), (q14, (.inl (e.2.2.1 0, 5, .inl (fun _ => 0)))), (q20, .inr (4, [.null, .int 0, .int 0, .int 0, .int 0, .int 0]))]
  refine N_dup dX3_init_23 rfl ?_
  show hv_NW _ _ _ _ _ _ _ _ _ _ ([(q, .inr (3, [.null, .ref q7, .ref q14, .null, .int 0])), (q7, (.inl (e.2.2.1 0, 24, .inl (fun _ => 0)))), (q14, (.inl (e.2.2.1 0, 5, .inl (fun _ => 0))))] ++ [(q20, .inr (4, [.null, .int 0, .int 0, .int 0, .int 0, .int 0]))])
  refine N_ctor dX3_init_24 mw_X4_init rfl rfl (hv_in1 95 (by decide +kernel) rfl) (Or.inr ⟨"HandedVoices", (hv_inN1 158 (by decide +kernel) rfl)⟩) (c_X4_init l _ q20 ) rfl (Nat.le_of_ble_eq_true rfl) ⟨Nat.le_of_ble_eq_true rfl, Nat.le_of_ble_eq_true rfl, Nat.le_of_ble_eq_true rfl, Nat.le_of_ble_eq_true rfl⟩ rfl rfl (fun r24 => ?_)
  show hv_NW _ _ _ _ _ _ _ _ _ _ [(q, .inr (3, [.null, .ref q7, .ref q14, .null, .int 0])), (q7, (.inl (e.2.2.1 0, 24, .inl (fun _ => 0)))), (q14, (.inl (e.2.2.1 0, 5, .inl (fun _ => 0)))), ((r24 0), (.inl (e.2.2.1 0, 100, .inl (fun _ => 0)))), (q20, .inr (4, [.ref (r24 0), .int 0, .int 999, .int 1, .int 2, .int 0]))]
  refine N_put dX3_init_27 fo_X3_21 0 rfl rfl rfl (Nat.le_of_ble_eq_true rfl) (fun h => by first | rfl | exact absurd h (by decide)) ?_
  show hv_NW _ _ _ _ _ _ _ _ _ _ [(q, .inr (3, [.null, .ref q7, .ref q14, .ref q20, .int 0])), (q7, (.inl (e.2.2.1 0, 24, .inl (fun _ => 0)))), (q14, (.inl (e.2.2.1 0, 5, .inl (fun _ => 0)))), ((r24 0), (.inl (e.2.2.1 0, 100, .inl (fun _ => 0)))), (q20, .inr (4, [.ref (r24 0), .int 0, .int 999, .int 1, .int 2, .int 0]))]
  refine N_aload_n dX3_init_30 rfl 0 rfl ?_
  refine N_aload_n dX3_init_31 rfl 1 rfl ?_
  refine N_put dX3_init_32 fo_X3_25 0 rfl rfl rfl (Nat.le_of_ble_eq_true rfl) (fun h => by first | rfl | exact absurd h (by decide)) ?_
  show hv_NW _ _ _ _ _ _ _ _ _ _ [(q, .inr (3, [.ref b1, .ref q7, .ref q14, .ref q20, .int 0])), (q7, (.inl (e.2.2.1 0, 24, .inl (fun _ => 0)))), (q14, (.inl (e.2.2.1 0, 5, .inl (fun _ => 0)))), ((r24 0), (.inl (e.2.2.1 0, 100, .inl (fun _ => 0)))), (q20, .inr (4, [.ref (r24 0), .int 0, .int 999, .int 1, .int 2, .int 0]))]
  exact N_ret dX3_init_35 rfl rfl rfl (fun k => ([q7, q14, q20, (r24 0)] : List Nat).getD k 0) rfl
theorem dX5_init_0 : decode cX5_init 0 = .ok (.aload_n 0, 1) := by decide +kernel
theorem dX5_init_1 : decode cX5_init 1 = .ok (.invokespecial 3, 3) := by decide +kernel
theorem dX5_init_4 : decode cX5_init 4 = .ok (.aload_n 0, 1) := by decide +kernel
theorem dX5_init_5 : decode cX5_init 5 = .ok (.bipush 64, 2) := by decide +kernel
theorem dX5_init_7 : decode cX5_init 7 = .ok (.newarray .int, 2) := by decide +kernel
theorem dX5_init_9 : decode cX5_init 9 = .ok (.putfield 9, 3) := by decide +kernel
theorem dX5_init_12 : decode cX5_init 12 = .ok (.aload_n 0, 1) := by decide +kernel
theorem dX5_init_13 : decode cX5_init 13 = .ok (.bipush 8, 2) := by decide +kernel
theorem dX5_init_15 : decode cX5_init 15 = .ok (.newarray .int, 2) := by decide +kernel
theorem dX5_init_17 : decode cX5_init 17 = .ok (.putfield 15, 3) := by decide +kernel
theorem dX5_init_20 : decode cX5_init 20 = .ok (.aload_n 0, 1) := by decide +kernel
theorem dX5_init_21 : decode cX5_init 21 = .ok (.aload_n 1, 1) := by decide +kernel
theorem dX5_init_22 : decode cX5_init 22 = .ok (.putfield 18, 3) := by decide +kernel
theorem dX5_init_25 : decode cX5_init 25 = .ok (.aload_n 0, 1) := by decide +kernel
theorem dX5_init_26 : decode cX5_init 26 = .ok (.aload_n 2, 1) := by decide +kernel
theorem dX5_init_27 : decode cX5_init 27 = .ok (.putfield 22, 3) := by decide +kernel
theorem dX5_init_30 : decode cX5_init 30 = .ok (.return_, 1) := by decide +kernel
theorem fo_X5_9 : hv_FO RX5 9 5 2 true (.array .int) := ⟨TX5, 11, tyX5, rfl, by decide, hv_usX5, rfl, tyX5_ok, nmX5, (hv_in1 187 (by decide +kernel) rfl), rfl, by decide +kernel⟩
theorem fo_X5_15 : hv_FO RX5 15 5 3 true (.array .int) := ⟨TX5, 11, tyX5, rfl, by decide, hv_usX5, rfl, tyX5_ok, nmX5, (hv_in1 191 (by decide +kernel) rfl), rfl, by decide +kernel⟩
theorem fo_X5_18 : hv_FO RX5 18 5 0 true (.object "HandedVoices$Hands") := ⟨TX5, 11, tyX5, rfl, by decide, hv_usX5, rfl, tyX5_ok, nmX5, (hv_in1 185 (by decide +kernel) rfl), rfl, by decide +kernel⟩
theorem fo_X5_22 : hv_FO RX5 22 5 1 true (.object "HandedVoices$Law") := ⟨TX5, 11, tyX5, rfl, by decide, hv_usX5, rfl, tyX5_ok, nmX5, (hv_in1 186 (by decide +kernel) rfl), rfl, by decide +kernel⟩
set_option maxHeartbeats 4000000 in
set_option maxRecDepth 100000 in
theorem c_X5_init (l : Launch) (e : hv_Ev) (q : Nat) (b1 : Nat) (b2 : Nat) : hv_CN l e 1 2 72 m_X5_init q [.ref b1, .ref b2] 5 [.null, .null, .null, .null, .int 0, .int 0, .int 0, .int 0, .int 0, .int 0, .int 0] (fun qs => [(q, .inr (5, [.ref b1, .ref b2, .ref (qs 0), .ref (qs 1), .int 0, .int 0, .int 0, .int 0, .int 0, .int 0, .int 0])), (qs 0, (.inl (e.2.2.1 0, 64, .inl (fun _ => 0)))), (qs 1, (.inl (e.2.2.1 0, 8, .inl (fun _ => 0))))]) := by
  refine N_entry (by decide) rfl (Nat.le_of_ble_eq_true rfl) (fun A => ?_)
  show hv_NW _ _ _ _ _ _ _ _ [(0, .ref q), (1, .ref b1), (2, .ref b2)] _ _
  refine N_aload_n dX5_init_0 rfl 0 rfl ?_
  refine N_objInit dX5_init_1 (hv_in1 184 (by decide +kernel) rfl) (hv_in1 26 (by decide +kernel) rfl) (hv_in1 27 (by decide +kernel) rfl) (Nat.le_of_ble_eq_true rfl) (Nat.le_of_ble_eq_true rfl) ?_
  refine N_aload_n dX5_init_4 rfl 0 rfl ?_
  refine N_bipush (v := 64) dX5_init_5 (by decide) ?_
  refine N_newi (N' := 64) dX5_init_7 (hv_in1 85 (by decide +kernel) rfl) (by decide) rfl (Nat.le_of_ble_eq_true rfl) (Nat.le_of_ble_eq_true rfl) (Nat.le_of_ble_eq_true rfl) (fun q7 => ?_)
  show hv_NW _ _ _ _ _ _ _ _ _ _ [(q, .inr (5, [.null, .null, .null, .null, .int 0, .int 0, .int 0, .int 0, .int 0, .int 0, .int 0])), (q7, (.inl (e.2.2.1 0, 64, .inl (fun _ => 0))))]
  refine N_put dX5_init_9 fo_X5_9 0 rfl rfl rfl (Nat.le_of_ble_eq_true rfl) (fun h => by first | rfl | exact absurd h (by decide)) ?_
  show hv_NW _ _ _ _ _ _ _ _ _ _ [(q, .inr (5, [.null, .null, .ref q7, .null, .int 0, .int 0, .int 0, .int 0, .int 0, .int 0, .int 0])), (q7, (.inl (e.2.2.1 0, 64, .inl (fun _ => 0))))]
  refine N_aload_n dX5_init_12 rfl 0 rfl ?_
  refine N_bipush (v := 8) dX5_init_13 (by decide) ?_
  refine N_newi (N' := 8) dX5_init_15 (hv_in1 85 (by decide +kernel) rfl) (by decide) rfl (Nat.le_of_ble_eq_true rfl) (Nat.le_of_ble_eq_true rfl) (Nat.le_of_ble_eq_true rfl) (fun q15 => ?_)
  show hv_NW _ _ _ _ _ _ _ _ _ _ [(q, .inr (5, [.null, .null, .ref q7, .null, .int 0, .int 0, .int 0, .int 0, .int 0, .int 0, .int 0])), (q7, (.inl (e.2.2.1 0, 64, .inl (fun _ => 0)))), (q15, (.inl (e.2.2.1 0, 8, .inl (fun _ => 0))))]
  refine N_put dX5_init_17 fo_X5_15 0 rfl rfl rfl (Nat.le_of_ble_eq_true rfl) (fun h => by first | rfl | exact absurd h (by decide)) ?_
  show hv_NW _ _ _ _ _ _ _ _ _ _ [(q, .inr (5, [.null, .null, .ref q7, .ref q15, .int 0, .int 0, .int 0, .int 0, .int 0, .int 0, .int 0])), (q7, (.inl (e.2.2.1 0, 64, .inl (fun _ => 0)))), (q15, (.inl (e.2.2.1 0, 8, .inl (fun _ => 0))))]
  refine N_aload_n dX5_init_20 rfl 0 rfl ?_
  refine N_aload_n dX5_init_21 rfl 1 rfl ?_
  refine N_put dX5_init_22 fo_X5_18 0 rfl rfl rfl (Nat.le_of_ble_eq_true rfl) (fun h => by first | rfl | exact absurd h (by decide)) ?_
  show hv_NW _ _ _ _ _ _ _ _ _ _ [(q, .inr (5, [.ref b1, .null, .ref q7, .ref q15, .int 0, .int 0, .int 0, .int 0, .int 0, .int 0, .int 0])), (q7, (.inl (e.2.2.1 0, 64, .inl (fun _ => 0)))), (q15, (.inl (e.2.2.1 0, 8, .inl (fun _ => 0))))]
  refine N_aload_n dX5_init_25 rfl 0 rfl ?_
  refine N_aload_n dX5_init_26 rfl 2 rfl ?_
  refine N_put dX5_init_27 fo_X5_22 0 rfl rfl rfl (Nat.le_of_ble_eq_true rfl) (fun h => by first | rfl | exact absurd h (by decide)) ?_
  show hv_NW _ _ _ _ _ _ _ _ _ _ [(q, .inr (5, [.ref b1, .ref b2, .ref q7, .ref q15, .int 0, .int 0, .int 0, .int 0, .int 0, .int 0, .int 0])), (q7, (.inl (e.2.2.1 0, 64, .inl (fun _ => 0)))), (q15, (.inl (e.2.2.1 0, 8, .inl (fun _ => 0))))]
  exact N_ret dX5_init_30 rfl rfl rfl (fun k => ([q7, q15] : List Nat).getD k 0) rfl
theorem dX8_init_0 : decode cX8_init 0 = .ok (.aload_n 0, 1) := by decide +kernel
theorem dX8_init_1 : decode cX8_init 1 = .ok (.invokespecial 3, 3) := by decide +kernel
theorem dX8_init_4 : decode cX8_init 4 = .ok (.aload_n 0, 1) := by decide +kernel
theorem dX8_init_5 : decode cX8_init 5 = .ok (.bipush 8, 2) := by decide +kernel
theorem dX8_init_7 : decode cX8_init 7 = .ok (.newarray .long, 2) := by decide +kernel
theorem dX8_init_9 : decode cX8_init 9 = .ok (.putfield 9, 3) := by decide +kernel
theorem dX8_init_12 : decode cX8_init 12 = .ok (.aload_n 0, 1) := by decide +kernel
theorem dX8_init_13 : decode cX8_init 13 = .ok (.aload_n 1, 1) := by decide +kernel
theorem dX8_init_14 : decode cX8_init 14 = .ok (.putfield 15, 3) := by decide +kernel
theorem dX8_init_17 : decode cX8_init 17 = .ok (.aload_n 0, 1) := by decide +kernel
theorem dX8_init_18 : decode cX8_init 18 = .ok (.aload_n 2, 1) := by decide +kernel
theorem dX8_init_19 : decode cX8_init 19 = .ok (.putfield 19, 3) := by decide +kernel
theorem dX8_init_22 : decode cX8_init 22 = .ok (.aload_n 0, 1) := by decide +kernel
theorem dX8_init_23 : decode cX8_init 23 = .ok (.aload_n 3, 1) := by decide +kernel
theorem dX8_init_24 : decode cX8_init 24 = .ok (.putfield 23, 3) := by decide +kernel
theorem dX8_init_27 : decode cX8_init 27 = .ok (.aload_n 0, 1) := by decide +kernel
theorem dX8_init_28 : decode cX8_init 28 = .ok (.aload 4, 2) := by decide +kernel
theorem dX8_init_30 : decode cX8_init 30 = .ok (.putfield 27, 3) := by decide +kernel
theorem dX8_init_33 : decode cX8_init 33 = .ok (.return_, 1) := by decide +kernel
theorem fo_X8_9 : hv_FO RX8 9 8 4 true (.array .long) := ⟨TX8, 5, tyX8, rfl, by decide, hv_usX8, rfl, tyX8_ok, nmX8, (hv_in2 40 (by decide +kernel) rfl), rfl, by decide +kernel⟩
theorem fo_X8_15 : hv_FO RX8 15 8 0 true (.object "HandedVoices$Hands") := ⟨TX8, 5, tyX8, rfl, by decide, hv_usX8, rfl, tyX8_ok, nmX8, (hv_in2 36 (by decide +kernel) rfl), rfl, by decide +kernel⟩
theorem fo_X8_19 : hv_FO RX8 19 8 1 true (.object "HandedVoices$Law") := ⟨TX8, 5, tyX8, rfl, by decide, hv_usX8, rfl, tyX8_ok, nmX8, (hv_in2 37 (by decide +kernel) rfl), rfl, by decide +kernel⟩
theorem fo_X8_23 : hv_FO RX8 23 8 2 true (.object "HandedVoices$Spread") := ⟨TX8, 5, tyX8, rfl, by decide, hv_usX8, rfl, tyX8_ok, nmX8, (hv_in2 38 (by decide +kernel) rfl), rfl, by decide +kernel⟩
theorem fo_X8_27 : hv_FO RX8 27 8 3 true (.object "HandedVoices$Tally") := ⟨TX8, 5, tyX8, rfl, by decide, hv_usX8, rfl, tyX8_ok, nmX8, (hv_in2 39 (by decide +kernel) rfl), rfl, by decide +kernel⟩
set_option maxHeartbeats 4000000 in
set_option maxRecDepth 100000 in
theorem c_X8_init (l : Launch) (e : hv_Ev) (q : Nat) (b1 : Nat) (b2 : Nat) (b3 : Nat) (b4 : Nat) : hv_CN l e 1 1 8 m_X8_init q [.ref b1, .ref b2, .ref b3, .ref b4] 8 [.null, .null, .null, .null, .null] (fun qs => [(q, .inr (8, [.ref b1, .ref b2, .ref b3, .ref b4, .ref (qs 0)])), (qs 0, (.inl (e.2.2.1 1, 8, .inr (.inl (fun _ => 0)))))]) := by
  refine N_entry (by decide) rfl (Nat.le_of_ble_eq_true rfl) (fun A => ?_)
  show hv_NW _ _ _ _ _ _ _ _ [(0, .ref q), (1, .ref b1), (2, .ref b2), (3, .ref b3), (4, .ref b4)] _ _
  refine N_aload_n dX8_init_0 rfl 0 rfl ?_
  refine N_objInit dX8_init_1 (hv_in2 35 (by decide +kernel) rfl) (hv_in1 26 (by decide +kernel) rfl) (hv_in1 27 (by decide +kernel) rfl) (Nat.le_of_ble_eq_true rfl) (Nat.le_of_ble_eq_true rfl) ?_
  refine N_aload_n dX8_init_4 rfl 0 rfl ?_
  refine N_bipush (v := 8) dX8_init_5 (by decide) ?_
  refine N_newl (N' := 8) dX8_init_7 (hv_in2 29 (by decide +kernel) rfl) (by decide) rfl (Nat.le_of_ble_eq_true rfl) (Nat.le_of_ble_eq_true rfl) (Nat.le_of_ble_eq_true rfl) (fun q7 => ?_)
  show hv_NW _ _ _ _ _ _ _ _ _ _ [(q, .inr (8, [.null, .null, .null, .null, .null])), (q7, (.inl (e.2.2.1 1, 8, .inr (.inl (fun _ => 0)))))]
  refine N_put dX8_init_9 fo_X8_9 0 rfl rfl rfl (Nat.le_of_ble_eq_true rfl) (fun h => by first | rfl | exact absurd h (by decide)) ?_
  show hv_NW _ _ _ _ _ _ _ _ _ _ [(q, .inr (8, [.null, .null, .null, .null, .ref q7])), (q7, (.inl (e.2.2.1 1, 8, .inr (.inl (fun _ => 0)))))]
  refine N_aload_n dX8_init_12 rfl 0 rfl ?_
  refine N_aload_n dX8_init_13 rfl 1 rfl ?_
  refine N_put dX8_init_14 fo_X8_15 0 rfl rfl rfl (Nat.le_of_ble_eq_true rfl) (fun h => by first | rfl | exact absurd h (by decide)) ?_
  show hv_NW _ _ _ _ _ _ _ _ _ _ [(q, .inr (8, [.ref b1, .null, .null, .null, .ref q7])), (q7, (.inl (e.2.2.1 1, 8, .inr (.inl (fun _ => 0)))))]
  refine N_aload_n dX8_init_17 rfl 0 rfl ?_
  refine N_aload_n dX8_init_18 rfl 2 rfl ?_
  refine N_put dX8_init_19 fo_X8_19 0 rfl rfl rfl (Nat.le_of_ble_eq_true rfl) (fun h => by first | rfl | exact absurd h (by decide)) ?_
  show hv_NW _ _ _ _ _ _ _ _ _ _ [(q, .inr (8, [.ref b1, .ref b2, .null, .null, .ref q7])), (q7, (.inl (e.2.2.1 1, 8, .inr (.inl (fun _ => 0)))))]
  refine N_aload_n dX8_init_22 rfl 0 rfl ?_
  refine N_aload_n dX8_init_23 rfl 3 rfl ?_
  refine N_put dX8_init_24 fo_X8_23 0 rfl rfl rfl (Nat.le_of_ble_eq_true rfl) (fun h => by first | rfl | exact absurd h (by decide)) ?_
  show hv_NW _ _ _ _ _ _ _ _ _ _ [(q, .inr (8, [.ref b1, .ref b2, .ref b3, .null, .ref q7])), (q7, (.inl (e.2.2.1 1, 8, .inr (.inl (fun _ => 0)))))]
  refine N_aload_n dX8_init_27 rfl 0 rfl ?_
  refine N_aload dX8_init_28 4 rfl ?_
  refine N_put dX8_init_30 fo_X8_27 0 rfl rfl rfl (Nat.le_of_ble_eq_true rfl) (fun h => by first | rfl | exact absurd h (by decide)) ?_
  show hv_NW _ _ _ _ _ _ _ _ _ _ [(q, .inr (8, [.ref b1, .ref b2, .ref b3, .ref b4, .ref q7])), (q7, (.inl (e.2.2.1 1, 8, .inr (.inl (fun _ => 0)))))]
  exact N_ret dX8_init_33 rfl rfl rfl (fun k => ([q7] : List Nat).getD k 0) rfl
theorem dX7_init_0 : decode cX7_init 0 = .ok (.aload_n 0, 1) := by decide +kernel
theorem dX7_init_1 : decode cX7_init 1 = .ok (.invokespecial 1, 3) := by decide +kernel
theorem dX7_init_4 : decode cX7_init 4 = .ok (.aload_n 0, 1) := by decide +kernel
theorem dX7_init_5 : decode cX7_init 5 = .ok (.bipush 6, 2) := by decide +kernel
theorem dX7_init_7 : decode cX7_init 7 = .ok (.newarray .int, 2) := by decide +kernel
theorem dX7_init_9 : decode cX7_init 9 = .ok (.putfield 9, 3) := by decide +kernel
theorem dX7_init_12 : decode cX7_init 12 = .ok (.aload_n 0, 1) := by decide +kernel
theorem dX7_init_13 : decode cX7_init 13 = .ok (.bipush 6, 2) := by decide +kernel
theorem dX7_init_15 : decode cX7_init 15 = .ok (.newarray .int, 2) := by decide +kernel
theorem dX7_init_17 : decode cX7_init 17 = .ok (.putfield 13, 3) := by decide +kernel
theorem dX7_init_20 : decode cX7_init 20 = .ok (.aload_n 0, 1) := by decide +kernel
theorem dX7_init_21 : decode cX7_init 21 = .ok (.sipush 360, 3) := by decide +kernel
theorem dX7_init_24 : decode cX7_init 24 = .ok (.newarray .long, 2) := by decide +kernel
theorem dX7_init_26 : decode cX7_init 26 = .ok (.putfield 16, 3) := by decide +kernel
theorem dX7_init_29 : decode cX7_init 29 = .ok (.aload_n 0, 1) := by decide +kernel
theorem dX7_init_30 : decode cX7_init 30 = .ok (.getfield 9, 3) := by decide +kernel
theorem dX7_init_33 : decode cX7_init 33 = .ok (.iconst (-1), 1) := by decide +kernel
theorem dX7_init_34 : decode cX7_init 34 = .ok (.invokestatic 20, 3) := by decide +kernel
theorem dX7_init_37 : decode cX7_init 37 = .ok (.return_, 1) := by decide +kernel
theorem fo_X7_9 : hv_FO RX7 9 7 0 true (.array .int) := ⟨TX7, 3, tyX7, rfl, by decide, hv_usX7, rfl, tyX7_ok, nmX7, (hv_in2 83 (by decide +kernel) rfl), rfl, by decide +kernel⟩
theorem fo_X7_13 : hv_FO RX7 13 7 1 true (.array .int) := ⟨TX7, 3, tyX7, rfl, by decide, hv_usX7, rfl, tyX7_ok, nmX7, (hv_in2 85 (by decide +kernel) rfl), rfl, by decide +kernel⟩
theorem fo_X7_16 : hv_FO RX7 16 7 2 true (.array .long) := ⟨TX7, 3, tyX7, rfl, by decide, hv_usX7, rfl, tyX7_ok, nmX7, (hv_in2 87 (by decide +kernel) rfl), rfl, by decide +kernel⟩
set_option maxHeartbeats 4000000 in
set_option maxRecDepth 100000 in
theorem c_X7_init (l : Launch) (e : hv_Ev) (q : Nat) : hv_CN l e 1 3 372 m_X7_init q [] 7 [.null, .null, .null] (fun qs => [(q, .inr (7, [.ref (qs 0), .ref (qs 1), .ref (qs 2)])), (qs 0, (.inl (e.2.2.1 0, 6, .inl (fun _ => -1)))), (qs 1, (.inl (e.2.2.1 0, 6, .inl (fun _ => 0)))), (qs 2, (.inl (e.2.2.1 1, 360, .inr (.inl (fun _ => 0)))))]) := by
  refine N_entry (by decide) rfl (Nat.le_of_ble_eq_true rfl) (fun A => ?_)
  show hv_NW _ _ _ _ _ _ _ _ [(0, .ref q)] _ _
  refine N_aload_n dX7_init_0 rfl 0 rfl ?_
  refine N_objInit dX7_init_1 (hv_in2 81 (by decide +kernel) rfl) (hv_in1 26 (by decide +kernel) rfl) (hv_in1 27 (by decide +kernel) rfl) (Nat.le_of_ble_eq_true rfl) (Nat.le_of_ble_eq_true rfl) ?_
  refine N_aload_n dX7_init_4 rfl 0 rfl ?_
  refine N_bipush (v := 6) dX7_init_5 (by decide) ?_
  refine N_newi (N' := 6) dX7_init_7 (hv_in1 85 (by decide +kernel) rfl) (by decide) rfl (Nat.le_of_ble_eq_true rfl) (Nat.le_of_ble_eq_true rfl) (Nat.le_of_ble_eq_true rfl) (fun q7 => ?_)
  show hv_NW _ _ _ _ _ _ _ _ _ _ [(q, .inr (7, [.null, .null, .null])), (q7, (.inl (e.2.2.1 0, 6, .inl (fun _ => 0))))]
  refine N_put dX7_init_9 fo_X7_9 0 rfl rfl rfl (Nat.le_of_ble_eq_true rfl) (fun h => by first | rfl | exact absurd h (by decide)) ?_
  show hv_NW _ _ _ _ _ _ _ _ _ _ [(q, .inr (7, [.ref q7, .null, .null])), (q7, (.inl (e.2.2.1 0, 6, .inl (fun _ => 0))))]
  refine N_aload_n dX7_init_12 rfl 0 rfl ?_
  refine N_bipush (v := 6) dX7_init_13 (by decide) ?_
  refine N_newi (N' := 6) dX7_init_15 (hv_in1 85 (by decide +kernel) rfl) (by decide) rfl (Nat.le_of_ble_eq_true rfl) (Nat.le_of_ble_eq_true rfl) (Nat.le_of_ble_eq_true rfl) (fun q15 => ?_)
  show hv_NW _ _ _ _ _ _ _ _ _ _ [(q, .inr (7, [.ref q7, .null, .null])), (q7, (.inl (e.2.2.1 0, 6, .inl (fun _ => 0)))), (q15, (.inl (e.2.2.1 0, 6, .inl (fun _ => 0))))]
  refine N_put dX7_init_17 fo_X7_13 0 rfl rfl rfl (Nat.le_of_ble_eq_true rfl) (fun h => by first | rfl | exact absurd h (by decide)) ?_
  show hv_NW _ _ _ _ _ _ _ _ _ _ [(q, .inr (7, [.ref q7, .ref q15, .null])), (q7, (.inl (e.2.2.1 0, 6, .inl (fun _ => 0)))), (q15, (.inl (e.2.2.1 0, 6, .inl (fun _ => 0))))]
  refine N_aload_n dX7_init_20 rfl 0 rfl ?_
  refine N_sipush (v := 360) dX7_init_21 (by decide) ?_
  refine N_newl (N' := 360) dX7_init_24 (hv_in2 29 (by decide +kernel) rfl) (by decide) rfl (Nat.le_of_ble_eq_true rfl) (Nat.le_of_ble_eq_true rfl) (Nat.le_of_ble_eq_true rfl) (fun q24 => ?_)
  show hv_NW _ _ _ _ _ _ _ _ _ _ [(q, .inr (7, [.ref q7, .ref q15, .null])), (q7, (.inl (e.2.2.1 0, 6, .inl (fun _ => 0)))), (q15, (.inl (e.2.2.1 0, 6, .inl (fun _ => 0)))), (q24, (.inl (e.2.2.1 1, 360, .inr (.inl (fun _ => 0)))))]
  refine N_put dX7_init_26 fo_X7_16 0 rfl rfl rfl (Nat.le_of_ble_eq_true rfl) (fun h => by first | rfl | exact absurd h (by decide)) ?_
  show hv_NW _ _ _ _ _ _ _ _ _ _ [(q, .inr (7, [.ref q7, .ref q15, .ref q24])), (q7, (.inl (e.2.2.1 0, 6, .inl (fun _ => 0)))), (q15, (.inl (e.2.2.1 0, 6, .inl (fun _ => 0)))), (q24, (.inl (e.2.2.1 1, 360, .inr (.inl (fun _ => 0)))))]
  refine N_aload_n dX7_init_29 rfl 0 rfl ?_
  refine N_get dX7_init_30 fo_X7_9 0 rfl rfl ?_
  refine N_iconst (v := -1) dX7_init_33 (by decide) ?_
  refine N_fill dX7_init_34 ms_X7_20 (Nat.le_of_ble_eq_true rfl) ⟨Nat.le_of_ble_eq_true rfl, Nat.le_of_ble_eq_true rfl, Nat.le_of_ble_eq_true rfl, Nat.le_of_ble_eq_true rfl⟩ 1 rfl (by decide) ?_
  show hv_NW _ _ _ _ _ _ _ _ _ _ [(q, .inr (7, [.ref q7, .ref q15, .ref q24])), (q7, (.inl (e.2.2.1 0, 6, .inl (fun _ => -1)))), (q15, (.inl (e.2.2.1 0, 6, .inl (fun _ => 0)))), (q24, (.inl (e.2.2.1 1, 360, .inr (.inl (fun _ => 0)))))]
  exact N_ret dX7_init_37 rfl rfl rfl (fun k => ([q7, q15, q24] : List Nat).getD k 0) rfl
