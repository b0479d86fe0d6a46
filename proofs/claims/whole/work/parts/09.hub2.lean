def y_Hub_measure : MethodName := ⟨"SensorHub$Hub", "measure", "(ILSensorHub$Sensor;)V"⟩
theorem d_Hub_measure_0 : decode prog_4_method_26_code 0 = .ok (.aload_n 0, 1) := by decide +kernel
theorem d_Hub_measure_1 : decode prog_4_method_26_code 1 = .ok (.getfield 50, 3) := by decide +kernel
theorem d_Hub_measure_4 : decode prog_4_method_26_code 4 = .ok (.aload_n 2, 1) := by decide +kernel
theorem d_Hub_measure_5 : decode prog_4_method_26_code 5 = .ok (.getfield 224, 3) := by decide +kernel
theorem d_Hub_measure_8 : decode prog_4_method_26_code 8 = .ok (.iconst 1, 1) := by decide +kernel
theorem d_Hub_measure_9 : decode prog_4_method_26_code 9 = .ok (.iadd, 1) := by decide +kernel
theorem d_Hub_measure_10 : decode prog_4_method_26_code 10 = .ok (.aload_n 2, 1) := by decide +kernel
theorem d_Hub_measure_11 : decode prog_4_method_26_code 11 = .ok (.getfield 155, 3) := by decide +kernel
theorem d_Hub_measure_14 : decode prog_4_method_26_code 14 = .ok (.imul, 1) := by decide +kernel
theorem d_Hub_measure_15 : decode prog_4_method_26_code 15 = .ok (.iadd, 1) := by decide +kernel
theorem d_Hub_measure_16 : decode prog_4_method_26_code 16 = .ok (.istore_n 3, 1) := by decide +kernel
theorem d_Hub_measure_17 : decode prog_4_method_26_code 17 = .ok (.bipush 7, 2) := by decide +kernel
theorem d_Hub_measure_19 : decode prog_4_method_26_code 19 = .ok (.aload_n 2, 1) := by decide +kernel
theorem d_Hub_measure_20 : decode prog_4_method_26_code 20 = .ok (.getfield 224, 3) := by decide +kernel
theorem d_Hub_measure_23 : decode prog_4_method_26_code 23 = .ok (.imul, 1) := by decide +kernel
theorem d_Hub_measure_24 : decode prog_4_method_26_code 24 = .ok (.iload_n 1, 1) := by decide +kernel
theorem d_Hub_measure_25 : decode prog_4_method_26_code 25 = .ok (.iadd, 1) := by decide +kernel
theorem d_Hub_measure_26 : decode prog_4_method_26_code 26 = .ok (.aload_n 2, 1) := by decide +kernel
theorem d_Hub_measure_27 : decode prog_4_method_26_code 27 = .ok (.getfield 227, 3) := by decide +kernel
theorem d_Hub_measure_30 : decode prog_4_method_26_code 30 = .ok (.iconst 1, 1) := by decide +kernel
theorem d_Hub_measure_31 : decode prog_4_method_26_code 31 = .ok (.iadd, 1) := by decide +kernel
theorem d_Hub_measure_32 : decode prog_4_method_26_code 32 = .ok (.invokestatic 230, 3) := by decide +kernel
theorem d_Hub_measure_35 : decode prog_4_method_26_code 35 = .ok (.istore 4, 2) := by decide +kernel
theorem d_Hub_measure_37 : decode prog_4_method_26_code 37 = .ok (.iload_n 3, 1) := by decide +kernel
theorem d_Hub_measure_38 : decode prog_4_method_26_code 38 = .ok (.iload 4, 2) := by decide +kernel
theorem d_Hub_measure_40 : decode prog_4_method_26_code 40 = .ok (.iadd, 1) := by decide +kernel
theorem d_Hub_measure_41 : decode prog_4_method_26_code 41 = .ok (.aload_n 0, 1) := by decide +kernel
theorem d_Hub_measure_42 : decode prog_4_method_26_code 42 = .ok (.getfield 46, 3) := by decide +kernel
theorem d_Hub_measure_45 : decode prog_4_method_26_code 45 = .ok (.if_icmp .ne 54, 3) := by decide +kernel
theorem d_Hub_measure_48 : decode prog_4_method_26_code 48 = .ok (.aload_n 0, 1) := by decide +kernel
theorem d_Hub_measure_49 : decode prog_4_method_26_code 49 = .ok (.dup, 1) := by decide +kernel
theorem d_Hub_measure_50 : decode prog_4_method_26_code 50 = .ok (.getfield 53, 3) := by decide +kernel
theorem d_Hub_measure_53 : decode prog_4_method_26_code 53 = .ok (.aload_n 2, 1) := by decide +kernel
theorem d_Hub_measure_54 : decode prog_4_method_26_code 54 = .ok (.getfield 233, 3) := by decide +kernel
theorem d_Hub_measure_57 : decode prog_4_method_26_code 57 = .ok (.iadd, 1) := by decide +kernel
theorem d_Hub_measure_58 : decode prog_4_method_26_code 58 = .ok (.putfield 53, 3) := by decide +kernel
theorem d_Hub_measure_61 : decode prog_4_method_26_code 61 = .ok (.aload_n 0, 1) := by decide +kernel
theorem d_Hub_measure_62 : decode prog_4_method_26_code 62 = .ok (.getfield 30, 3) := by decide +kernel
theorem d_Hub_measure_65 : decode prog_4_method_26_code 65 = .ok (.iload_n 1, 1) := by decide +kernel
theorem d_Hub_measure_66 : decode prog_4_method_26_code 66 = .ok (.iload_n 3, 1) := by decide +kernel
theorem d_Hub_measure_67 : decode prog_4_method_26_code 67 = .ok (.invokevirtual 236, 3) := by decide +kernel
theorem d_Hub_measure_70 : decode prog_4_method_26_code 70 = .ok (.ifCond .eq 8, 3) := by decide +kernel
theorem d_Hub_measure_73 : decode prog_4_method_26_code 73 = .ok (.bipush (-8), 2) := by decide +kernel
theorem d_Hub_measure_75 : decode prog_4_method_26_code 75 = .ok (.goto 8, 3) := by decide +kernel
theorem d_Hub_measure_78 : decode prog_4_method_26_code 78 = .ok (.aload_n 2, 1) := by decide +kernel
theorem d_Hub_measure_79 : decode prog_4_method_26_code 79 = .ok (.iload_n 3, 1) := by decide +kernel
theorem d_Hub_measure_80 : decode prog_4_method_26_code 80 = .ok (.invokevirtual 240, 3) := by decide +kernel
theorem d_Hub_measure_83 : decode prog_4_method_26_code 83 = .ok (.istore 5, 2) := by decide +kernel
theorem d_Hub_measure_85 : decode prog_4_method_26_code 85 = .ok (.aload_n 2, 1) := by decide +kernel
theorem d_Hub_measure_86 : decode prog_4_method_26_code 86 = .ok (.aload_n 2, 1) := by decide +kernel
theorem d_Hub_measure_87 : decode prog_4_method_26_code 87 = .ok (.aload_n 0, 1) := by decide +kernel
theorem d_Hub_measure_88 : decode prog_4_method_26_code 88 = .ok (.getfield 46, 3) := by decide +kernel
theorem d_Hub_measure_91 : decode prog_4_method_26_code 91 = .ok (.invokevirtual 244, 3) := by decide +kernel
theorem d_Hub_measure_94 : decode prog_4_method_26_code 94 = .ok (.iload 5, 2) := by decide +kernel
theorem d_Hub_measure_96 : decode prog_4_method_26_code 96 = .ok (.invokevirtual 221, 3) := by decide +kernel
theorem d_Hub_measure_99 : decode prog_4_method_26_code 99 = .ok (.return_, 1) := by decide +kernel
theorem fs_2_224 : FS "SensorHub$Hub" 224 4 12 := ⟨"SensorHub$Sensor", T_4, 18, rfl, by decide, rfl, gw_I 173 (by decide +kernel) rfl⟩
theorem fs_2_227 : FS "SensorHub$Hub" 227 4 5 := ⟨"SensorHub$Sensor", T_4, 18, rfl, by decide, rfl, gw_I 155 (by decide +kernel) rfl⟩
theorem cs_2_230 : CSN "SensorHub$Hub" 230 y_X_remainder "SensorHub" prog_1_method_27_code 2 (some .int) 2 := ⟨List.mem_of_getElem? (i := 11) rfl, gw_I 748 (by decide +kernel) rfl, gw_I 70 (by decide +kernel) rfl, gw_I 749 (by decide +kernel) rfl, ⟨by decide +kernel, by decide +kernel⟩, by decide +kernel⟩
theorem fs_2_233 : FS "SensorHub$Hub" 233 4 6 := ⟨"SensorHub$Sensor", T_4, 18, rfl, by decide, rfl, gw_I 157 (by decide +kernel) rfl⟩
theorem cv_2_236 : CSV "SensorHub$Hub" 236 y_Out_cover prog_5_method_4_code 4 (some .boolean) 2 := ⟨gw_I 751 (by decide +kernel) rfl, gw_I 752 (by decide +kernel) rfl, gw_I 753 (by decide +kernel) rfl, gw_I 72 (by decide +kernel) rfl, gw_I 754 (by decide +kernel) rfl, ⟨by decide +kernel, by decide +kernel⟩, by decide +kernel⟩
theorem cv_2_240 : CSV "SensorHub$Hub" 240 y_Sen_valueAt prog_6_method_8_code 2 (some .int) 1 := ⟨gw_I 755 (by decide +kernel) rfl, gw_I 756 (by decide +kernel) rfl, gw_I 757 (by decide +kernel) rfl, gw_I 74 (by decide +kernel) rfl, gw_I 758 (by decide +kernel) rfl, ⟨by decide +kernel, by decide +kernel⟩, by decide +kernel⟩
theorem cv_2_244 : CSV "SensorHub$Hub" 244 y_Sen_smoothedStamp prog_6_method_9_code 3 (some .int) 1 := ⟨gw_I 760 (by decide +kernel) rfl, gw_I 761 (by decide +kernel) rfl, gw_I 762 (by decide +kernel) rfl, gw_I 74 (by decide +kernel) rfl, gw_I 763 (by decide +kernel) rfl, ⟨by decide +kernel, by decide +kernel⟩, by decide +kernel⟩
theorem cv_2_221 : CSV "SensorHub$Hub" 221 y_Sen_accept prog_6_method_10_code 3 none 2 := ⟨gw_I 765 (by decide +kernel) rfl, gw_I 766 (by decide +kernel) rfl, gw_I 767 (by decide +kernel) rfl, gw_I 74 (by decide +kernel) rfl, gw_I 768 (by decide +kernel) rfl, ⟨by decide +kernel, by decide +kernel⟩, by decide +kernel⟩
def f_Hub_measure (q : Nat) (p1 : Int32) (q2 : Nat) (σ : Mem) : Option (Unit × Mem) :=
  lt ((σ q 1) + (((σ q2 12) + (1 : Int32)) * (σ q2 11))) fun v1 =>
  bd (f_X_remainder (((7 : Int32) * (σ q2 12)) + p1) ((σ q2 5) + (1 : Int32)) σ) fun r2 σ3 =>
  if (v1 + r2) = (σ3 q 0) then
    lt (wr σ3 q 2 ((σ3 q 2) + (σ3 q2 6))) fun σ4 =>
    bd (f_Out_cover (q + 4) p1 v1 σ4) fun r5 σ6 =>
    if r5 = 0 then
      bd (f_Sen_valueAt q2 v1 σ6) fun r7 σ8 =>
      bd (f_Sen_smoothedStamp q2 (σ8 q 0) σ8) fun r9 σ10 =>
      bd (f_Sen_accept q2 r9 r7 σ10) fun _ σ12 =>
      some ((), σ12)
    else
      bd (f_Sen_smoothedStamp q2 (σ6 q 0) σ6) fun r13 σ14 =>
      bd (f_Sen_accept q2 r13 (-8 : Int32) σ14) fun _ σ16 =>
      some ((), σ16)
  else
    some ((), σ3)
set_option maxRecDepth 100000 in
set_option maxHeartbeats 4000000 in
theorem c_Hub_measure {X : CX} (l : Launch) (q : Nat) (p1 : Int32) (q2 : Nat) (hq : HubOK X q) (hq2 : SensorOK X q2) (σ : Mem) : CT X l y_Hub_measure prog_4_method_26_code 6 none 2 vU [.ref (xa X q), .int p1, .ref (xa X q2)] σ (f_Hub_measure q p1 q2 σ) := by
  refine CT_of (by decide +kernel) (Nat.le_of_ble_eq_true rfl) ?_
  intro p e s m args below meth c F hlk hr
  have F : FR p s m args c prog_4_method_26_code 6 "SensorHub$Hub" X := F
  show G X p l e (rmD 2) s m args below meth c 6 0 0 (QI X below args s vU) 0 [(0, .ref (xa X q)), (1, .int p1), (2, .ref (xa X q2))] [] σ _
  unfold f_Hub_measure
  refine g_aload_n F d_Hub_measure_0 0 rfl ?_
  refine g_getI F fs_2_50 hq.1 rfl d_Hub_measure_1 ?_
  refine g_aload_n F d_Hub_measure_4 2 rfl ?_
  refine g_getI F fs_2_224 hq2.1 rfl d_Hub_measure_5 ?_
  refine g_iconst F (v := 1) d_Hub_measure_8 (by decide) ?_
  refine g_iadd F d_Hub_measure_9 ?_
  refine g_aload_n F d_Hub_measure_10 2 rfl ?_
  refine g_getI F fs_2_155 hq2.1 rfl d_Hub_measure_11 ?_
  refine g_imul F d_Hub_measure_14 ?_
  refine g_iadd F d_Hub_measure_15 ?_
  refine g_ltI (fun v1 _ => ?_)
  refine g_istore_n F (ls' := [(3, .int v1), (0, .ref (xa X q)), (1, .int p1), (2, .ref (xa X q2))]) d_Hub_measure_16 (by decide) rfl ?_
  refine g_bipush F (v := 7) d_Hub_measure_17 (by decide) ?_
  refine g_aload_n F d_Hub_measure_19 3 rfl ?_
  refine g_getI F fs_2_224 hq2.1 rfl d_Hub_measure_20 ?_
  refine g_imul F d_Hub_measure_23 ?_
  refine g_iload_n F d_Hub_measure_24 2 rfl ?_
  refine g_iadd F d_Hub_measure_25 ?_
  refine g_aload_n F d_Hub_measure_26 3 rfl ?_
  refine g_getI F fs_2_227 hq2.1 rfl d_Hub_measure_27 ?_
  refine g_iconst F (v := 1) d_Hub_measure_30 (by decide) ?_
  refine g_iadd F d_Hub_measure_31 ?_
  refine g_callSN F (dp := 1) (As := [.int (((7 : Int32) * (σ q2 12)) + p1), .int ((σ q2 5) + (1 : Int32))]) (c_X_remainder l _ _ _) cs_2_230 rfl rfl (Nat.le_of_ble_eq_true rfl) ⟨Nat.le_of_ble_eq_true rfl, Nat.le_of_ble_eq_true rfl⟩ ⟨Nat.zero_le _, Nat.zero_le _⟩ d_Hub_measure_32 (fun r2 σ3 h1 => ?_)
  refine g_istore F (ls' := [(4, .int r2), (3, .int v1), (0, .ref (xa X q)), (1, .int p1), (2, .ref (xa X q2))]) d_Hub_measure_35 (by decide) rfl ?_
  refine g_iload_n F d_Hub_measure_37 1 rfl ?_
  refine g_iload F d_Hub_measure_38 0 rfl ?_
  refine g_iadd F d_Hub_measure_40 ?_
  refine g_aload_n F d_Hub_measure_41 2 rfl ?_
  refine g_getI F fs_2_46 hq.1 rfl d_Hub_measure_42 ?_
  refine g_icmp_ne F (tgt := 99) d_Hub_measure_45 (by decide) (fun h2 => ?_) (fun h3 => ?_)
  · refine g_aload_n F d_Hub_measure_48 2 rfl ?_
    refine g_dup F d_Hub_measure_49 rfl ?_
    refine g_getI F fs_2_53 hq.1 rfl d_Hub_measure_50 ?_
    refine g_aload_n F d_Hub_measure_53 4 rfl ?_
    refine g_getI F fs_2_233 hq2.1 rfl d_Hub_measure_54 ?_
    refine g_iadd F d_Hub_measure_57 ?_
    refine g_putI F fw_2_53 hq.1 rfl d_Hub_measure_58 ?_
    refine g_ltM (fun σ4 _ => ?_)
    refine g_aload_n F d_Hub_measure_61 2 rfl ?_
    refine g_getR F fs_2_30 hq.1 rfl d_Hub_measure_62 ?_
    refine g_iload_n F d_Hub_measure_65 3 rfl ?_
    refine g_iload_n F d_Hub_measure_66 1 rfl ?_
    refine g_callV F (dp := 1) (ci := 3) (As := [.int p1, .int v1]) (c_Out_cover l _ _ _ hq.2.2.2.2.1 _) cv_2_236 hq.2.2.2.2.1.1 rfl rfl rfl (Nat.le_of_ble_eq_true rfl) ⟨Nat.le_of_ble_eq_true rfl, Nat.le_of_ble_eq_true rfl⟩ ⟨Nat.zero_le _, Nat.zero_le _⟩ d_Hub_measure_67 (fun r5 σ6 h4 => ?_)
    refine g_if_eq F (tgt := 78) d_Hub_measure_70 (by decide) (fun h5 => ?_) (fun h6 => ?_)
    · refine g_aload_n F d_Hub_measure_78 4 rfl ?_
      refine g_iload_n F d_Hub_measure_79 1 rfl ?_
      refine g_callV F (dp := 1) (ci := 4) (As := [.int v1]) (c_Sen_valueAt l _ _ hq2 _) cv_2_240 hq2.1 rfl rfl rfl (Nat.le_of_ble_eq_true rfl) ⟨Nat.le_of_ble_eq_true rfl, Nat.le_of_ble_eq_true rfl⟩ ⟨Nat.zero_le _, Nat.zero_le _⟩ d_Hub_measure_80 (fun r7 σ8 h7 => ?_)
      refine g_istore F (ls' := [(5, .int r7), (4, .int r2), (3, .int v1), (0, .ref (xa X q)), (1, .int p1), (2, .ref (xa X q2))]) d_Hub_measure_83 (by decide) rfl ?_
      refine g_aload_n F d_Hub_measure_85 5 rfl ?_
      refine g_aload_n F d_Hub_measure_86 5 rfl ?_
      refine g_aload_n F d_Hub_measure_87 3 rfl ?_
      refine g_getI F fs_2_46 hq.1 rfl d_Hub_measure_88 ?_
      refine g_callV F (dp := 1) (ci := 4) (As := [.int (σ8 q 0)]) (c_Sen_smoothedStamp l _ _ hq2 _) cv_2_244 hq2.1 rfl rfl rfl (Nat.le_of_ble_eq_true rfl) ⟨Nat.le_of_ble_eq_true rfl, Nat.le_of_ble_eq_true rfl⟩ ⟨Nat.zero_le _, Nat.zero_le _⟩ d_Hub_measure_91 (fun r9 σ10 h8 => ?_)
      refine g_iload F d_Hub_measure_94 0 rfl ?_
      refine g_callV F (dp := 1) (ci := 4) (As := [.int r9, .int r7]) (c_Sen_accept l _ _ _ hq2 _) cv_2_221 hq2.1 rfl rfl rfl (Nat.le_of_ble_eq_true rfl) ⟨Nat.le_of_ble_eq_true rfl, Nat.le_of_ble_eq_true rfl⟩ ⟨Nat.zero_le _, Nat.zero_le _⟩ d_Hub_measure_96 (fun _ σ12 h9 => ?_)
      exact g_vret F hlk hr d_Hub_measure_99
    refine g_bipush F (v := (-8)) d_Hub_measure_73 (by decide) ?_
    refine g_goto F (tgt := 83) d_Hub_measure_75 (by decide) ?_
    refine g_istore F (ls' := [(5, .int (-8 : Int32)), (4, .int r2), (3, .int v1), (0, .ref (xa X q)), (1, .int p1), (2, .ref (xa X q2))]) d_Hub_measure_83 (by decide) rfl ?_
    refine g_aload_n F d_Hub_measure_85 5 rfl ?_
    refine g_aload_n F d_Hub_measure_86 5 rfl ?_
    refine g_aload_n F d_Hub_measure_87 3 rfl ?_
    refine g_getI F fs_2_46 hq.1 rfl d_Hub_measure_88 ?_
    refine g_callV F (dp := 1) (ci := 4) (As := [.int (σ6 q 0)]) (c_Sen_smoothedStamp l _ _ hq2 _) cv_2_244 hq2.1 rfl rfl rfl (Nat.le_of_ble_eq_true rfl) ⟨Nat.le_of_ble_eq_true rfl, Nat.le_of_ble_eq_true rfl⟩ ⟨Nat.zero_le _, Nat.zero_le _⟩ d_Hub_measure_91 (fun r13 σ14 h10 => ?_)
    refine g_iload F d_Hub_measure_94 0 rfl ?_
    refine g_callV F (dp := 1) (ci := 4) (As := [.int r13, .int (-8 : Int32)]) (c_Sen_accept l _ _ _ hq2 _) cv_2_221 hq2.1 rfl rfl rfl (Nat.le_of_ble_eq_true rfl) ⟨Nat.le_of_ble_eq_true rfl, Nat.le_of_ble_eq_true rfl⟩ ⟨Nat.zero_le _, Nat.zero_le _⟩ d_Hub_measure_96 (fun _ σ16 h11 => ?_)
    exact g_vret F hlk hr d_Hub_measure_99
  exact g_vret F hlk hr d_Hub_measure_99
def y_Hub_computedValue : MethodName := ⟨"SensorHub$Hub", "computedValue", "(LSensorHub$Sensor;LSensorHub$Sensor;)I"⟩
theorem d_Hub_computedValue_0 : decode prog_4_method_27_code 0 = .ok (.aload_n 2, 1) := by decide +kernel
theorem d_Hub_computedValue_1 : decode prog_4_method_27_code 1 = .ok (.getfield 247, 3) := by decide +kernel
theorem d_Hub_computedValue_4 : decode prog_4_method_27_code 4 = .ok (.bipush (-8), 2) := by decide +kernel
theorem d_Hub_computedValue_6 : decode prog_4_method_27_code 6 = .ok (.if_icmp .ne 6, 3) := by decide +kernel
theorem d_Hub_computedValue_9 : decode prog_4_method_27_code 9 = .ok (.bipush (-8), 2) := by decide +kernel
theorem d_Hub_computedValue_11 : decode prog_4_method_27_code 11 = .ok (.ireturn, 1) := by decide +kernel
theorem d_Hub_computedValue_12 : decode prog_4_method_27_code 12 = .ok (.aload_n 1, 1) := by decide +kernel
theorem d_Hub_computedValue_13 : decode prog_4_method_27_code 13 = .ok (.getfield 104, 3) := by decide +kernel
theorem d_Hub_computedValue_16 : decode prog_4_method_27_code 16 = .ok (.iconst 3, 1) := by decide +kernel
theorem d_Hub_computedValue_17 : decode prog_4_method_27_code 17 = .ok (.if_icmp .ne 12, 3) := by decide +kernel
theorem d_Hub_computedValue_20 : decode prog_4_method_27_code 20 = .ok (.aload_n 2, 1) := by decide +kernel
theorem d_Hub_computedValue_21 : decode prog_4_method_27_code 21 = .ok (.aload_n 1, 1) := by decide +kernel
theorem d_Hub_computedValue_22 : decode prog_4_method_27_code 22 = .ok (.getfield 172, 3) := by decide +kernel
theorem d_Hub_computedValue_25 : decode prog_4_method_27_code 25 = .ok (.invokevirtual 250, 3) := by decide +kernel
theorem d_Hub_computedValue_28 : decode prog_4_method_27_code 28 = .ok (.ireturn, 1) := by decide +kernel
theorem d_Hub_computedValue_29 : decode prog_4_method_27_code 29 = .ok (.aload_n 0, 1) := by decide +kernel
theorem d_Hub_computedValue_30 : decode prog_4_method_27_code 30 = .ok (.aload_n 1, 1) := by decide +kernel
theorem d_Hub_computedValue_31 : decode prog_4_method_27_code 31 = .ok (.getfield 172, 3) := by decide +kernel
theorem d_Hub_computedValue_34 : decode prog_4_method_27_code 34 = .ok (.invokevirtual 101, 3) := by decide +kernel
theorem d_Hub_computedValue_37 : decode prog_4_method_27_code 37 = .ok (.astore_n 3, 1) := by decide +kernel
theorem d_Hub_computedValue_38 : decode prog_4_method_27_code 38 = .ok (.aload_n 3, 1) := by decide +kernel
theorem d_Hub_computedValue_39 : decode prog_4_method_27_code 39 = .ok (.ifnull 19, 3) := by decide +kernel
theorem d_Hub_computedValue_42 : decode prog_4_method_27_code 42 = .ok (.aload_n 3, 1) := by decide +kernel
theorem d_Hub_computedValue_43 : decode prog_4_method_27_code 43 = .ok (.getfield 224, 3) := by decide +kernel
theorem d_Hub_computedValue_46 : decode prog_4_method_27_code 46 = .ok (.ifCond .eq 12, 3) := by decide +kernel
theorem d_Hub_computedValue_49 : decode prog_4_method_27_code 49 = .ok (.aload_n 3, 1) := by decide +kernel
theorem d_Hub_computedValue_50 : decode prog_4_method_27_code 50 = .ok (.getfield 247, 3) := by decide +kernel
theorem d_Hub_computedValue_53 : decode prog_4_method_27_code 53 = .ok (.bipush (-8), 2) := by decide +kernel
theorem d_Hub_computedValue_55 : decode prog_4_method_27_code 55 = .ok (.if_icmp .ne 6, 3) := by decide +kernel
theorem d_Hub_computedValue_58 : decode prog_4_method_27_code 58 = .ok (.bipush (-8), 2) := by decide +kernel
theorem d_Hub_computedValue_60 : decode prog_4_method_27_code 60 = .ok (.ireturn, 1) := by decide +kernel
theorem d_Hub_computedValue_61 : decode prog_4_method_27_code 61 = .ok (.aload_n 1, 1) := by decide +kernel
theorem d_Hub_computedValue_62 : decode prog_4_method_27_code 62 = .ok (.getfield 104, 3) := by decide +kernel
theorem d_Hub_computedValue_65 : decode prog_4_method_27_code 65 = .ok (.lookupswitch 59 #[(0, 27), (1, 43)], 27) := by decide +kernel
theorem d_Hub_computedValue_92 : decode prog_4_method_27_code 92 = .ok (.aload_n 2, 1) := by decide +kernel
theorem d_Hub_computedValue_93 : decode prog_4_method_27_code 93 = .ok (.getfield 247, 3) := by decide +kernel
theorem d_Hub_computedValue_96 : decode prog_4_method_27_code 96 = .ok (.aload_n 3, 1) := by decide +kernel
theorem d_Hub_computedValue_97 : decode prog_4_method_27_code 97 = .ok (.getfield 247, 3) := by decide +kernel
theorem d_Hub_computedValue_100 : decode prog_4_method_27_code 100 = .ok (.iadd, 1) := by decide +kernel
theorem d_Hub_computedValue_101 : decode prog_4_method_27_code 101 = .ok (.sipush 1000, 3) := by decide +kernel
theorem d_Hub_computedValue_104 : decode prog_4_method_27_code 104 = .ok (.invokestatic 253, 3) := by decide +kernel
theorem d_Hub_computedValue_107 : decode prog_4_method_27_code 107 = .ok (.ireturn, 1) := by decide +kernel
theorem d_Hub_computedValue_108 : decode prog_4_method_27_code 108 = .ok (.aload_n 2, 1) := by decide +kernel
theorem d_Hub_computedValue_109 : decode prog_4_method_27_code 109 = .ok (.getfield 247, 3) := by decide +kernel
theorem d_Hub_computedValue_112 : decode prog_4_method_27_code 112 = .ok (.aload_n 3, 1) := by decide +kernel
theorem d_Hub_computedValue_113 : decode prog_4_method_27_code 113 = .ok (.getfield 247, 3) := by decide +kernel
theorem d_Hub_computedValue_116 : decode prog_4_method_27_code 116 = .ok (.isub, 1) := by decide +kernel
theorem d_Hub_computedValue_117 : decode prog_4_method_27_code 117 = .ok (.sipush 1000, 3) := by decide +kernel
theorem d_Hub_computedValue_120 : decode prog_4_method_27_code 120 = .ok (.invokestatic 253, 3) := by decide +kernel
theorem d_Hub_computedValue_123 : decode prog_4_method_27_code 123 = .ok (.ireturn, 1) := by decide +kernel
theorem d_Hub_computedValue_124 : decode prog_4_method_27_code 124 = .ok (.aload_n 2, 1) := by decide +kernel
theorem d_Hub_computedValue_125 : decode prog_4_method_27_code 125 = .ok (.getfield 247, 3) := by decide +kernel
theorem d_Hub_computedValue_128 : decode prog_4_method_27_code 128 = .ok (.aload_n 3, 1) := by decide +kernel
theorem d_Hub_computedValue_129 : decode prog_4_method_27_code 129 = .ok (.getfield 247, 3) := by decide +kernel
theorem d_Hub_computedValue_132 : decode prog_4_method_27_code 132 = .ok (.invokestatic 124, 3) := by decide +kernel
theorem d_Hub_computedValue_135 : decode prog_4_method_27_code 135 = .ok (.ireturn, 1) := by decide +kernel
theorem fs_2_247 : FS "SensorHub$Hub" 247 4 15 := ⟨"SensorHub$Sensor", T_4, 18, rfl, by decide, rfl, gw_I 181 (by decide +kernel) rfl⟩
theorem cv_2_250 : CSV "SensorHub$Hub" 250 y_Sen_meanOfLatest prog_6_method_11_code 5 (some .int) 1 := ⟨gw_I 773 (by decide +kernel) rfl, gw_I 774 (by decide +kernel) rfl, gw_I 775 (by decide +kernel) rfl, gw_I 74 (by decide +kernel) rfl, gw_I 776 (by decide +kernel) rfl, ⟨by decide +kernel, by decide +kernel⟩, by decide +kernel⟩
theorem cs_2_253 : CSS "SensorHub$Hub" 253 y_Mat_floorMod prog_11_method_50_code 3 (some .int) 2 := ⟨gw_I 778 (by decide +kernel) rfl, gw_I 409 (by decide +kernel) rfl, gw_I 79 (by decide +kernel) rfl, gw_I 410 (by decide +kernel) rfl, ⟨by decide +kernel, by decide +kernel⟩, by decide +kernel⟩
def f_Hub_computedValue (q : Nat) (q1 : Nat) (q2 : Nat) (σ : Mem) : Option (Int32 × Mem) :=
  if (σ q2 15) = (-8 : Int32) then
    some ((-8 : Int32), σ)
  else
    if (σ q1 0) = (3 : Int32) then
      bd (f_Sen_meanOfLatest q2 (σ q1 8) σ) fun r1 σ2 =>
      some (r1, σ2)
    else
      bd (f_Hub_sensorAt q (σ q1 8) σ) fun r3 σ4 =>
      oe r3 (
        some ((-8 : Int32), σ4)
      ) (fun o5 =>
        if (σ4 o5 12) = 0 then
          some ((-8 : Int32), σ4)
        else
          if (σ4 o5 15) = (-8 : Int32) then
            some ((-8 : Int32), σ4)
          else
            if (σ4 q1 0) = 0 then
              bd (f_Mat_floorMod ((σ4 q2 15) + (σ4 o5 15)) (1000 : Int32) σ4) fun r6 σ7 =>
              some (r6, σ7)
            else
            if (σ4 q1 0) = 1 then
              bd (f_Mat_floorMod ((σ4 q2 15) - (σ4 o5 15)) (1000 : Int32) σ4) fun r8 σ9 =>
              some (r8, σ9)
            else
              bd (f_Mat_max (σ4 q2 15) (σ4 o5 15) σ4) fun r10 σ11 =>
              some (r10, σ11)
      )
set_option maxRecDepth 100000 in
set_option maxHeartbeats 4000000 in
theorem c_Hub_computedValue {X : CX} (l : Launch) (q : Nat) (q1 : Nat) (q2 : Nat) (hq : HubOK X q) (hq1 : SensorOK X q1) (hq2 : SensorOK X q2) (σ : Mem) : CT X l y_Hub_computedValue prog_4_method_27_code 4 (some .int) 2 vI [.ref (xa X q), .ref (xa X q1), .ref (xa X q2)] σ (f_Hub_computedValue q q1 q2 σ) := by
  refine CT_of (by decide +kernel) (Nat.le_of_ble_eq_true rfl) ?_
  intro p e s m args below meth c F hlk hr
  have F : FR p s m args c prog_4_method_27_code 4 "SensorHub$Hub" X := F
  show G X p l e (rmD 2) s m args below meth c 4 0 0 (QI X below args s vI) 0 [(0, .ref (xa X q)), (1, .ref (xa X q1)), (2, .ref (xa X q2))] [] σ _
  unfold f_Hub_computedValue
  refine g_aload_n F d_Hub_computedValue_0 2 rfl ?_
  refine g_getI F fs_2_247 hq2.1 rfl d_Hub_computedValue_1 ?_
  refine g_bipush F (v := (-8)) d_Hub_computedValue_4 (by decide) ?_
  refine g_icmp_ne F (tgt := 12) d_Hub_computedValue_6 (by decide) (fun h1 => ?_) (fun h2 => ?_)
  · refine g_bipush F (v := (-8)) d_Hub_computedValue_9 (by decide) ?_
    exact g_iret F hlk hr d_Hub_computedValue_11
  refine g_aload_n F d_Hub_computedValue_12 1 rfl ?_
  refine g_getI F fs_2_104 hq1.1 rfl d_Hub_computedValue_13 ?_
  refine g_iconst F (v := 3) d_Hub_computedValue_16 (by decide) ?_
  refine g_icmp_ne F (tgt := 29) d_Hub_computedValue_17 (by decide) (fun h3 => ?_) (fun h4 => ?_)
  · refine g_aload_n F d_Hub_computedValue_20 2 rfl ?_
    refine g_aload_n F d_Hub_computedValue_21 1 rfl ?_
    refine g_getI F fs_2_172 hq1.1 rfl d_Hub_computedValue_22 ?_
    refine g_callV F (dp := 1) (ci := 4) (As := [.int (σ q1 8)]) (c_Sen_meanOfLatest l _ _ hq2 _) cv_2_250 hq2.1 rfl rfl rfl (Nat.le_of_ble_eq_true rfl) ⟨Nat.le_of_ble_eq_true rfl, Nat.le_of_ble_eq_true rfl⟩ ⟨Nat.zero_le _, Nat.zero_le _⟩ d_Hub_computedValue_25 (fun r1 σ2 h5 => ?_)
    exact g_iret F hlk hr d_Hub_computedValue_28
  refine g_aload_n F d_Hub_computedValue_29 0 rfl ?_
  refine g_aload_n F d_Hub_computedValue_30 1 rfl ?_
  refine g_getI F fs_2_172 hq1.1 rfl d_Hub_computedValue_31 ?_
  refine g_callV F (dp := 0) (ci := 2) (As := [.int (σ q1 8)]) (c_Hub_sensorAt l _ _ hq _) cv_2_101 hq.1 rfl rfl rfl (Nat.le_of_ble_eq_true rfl) ⟨Nat.le_of_ble_eq_true rfl, Nat.le_of_ble_eq_true rfl⟩ ⟨Nat.zero_le _, Nat.zero_le _⟩ d_Hub_computedValue_34 (fun r3 σ4 h6 => ?_)
  refine g_oe (fun h7 => ?_) (fun o5 h8 => ?_)
  · refine g_astore_nN F (ls' := [(3, .null), (0, .ref (xa X q)), (1, .ref (xa X q1)), (2, .ref (xa X q2))]) d_Hub_computedValue_37 (by decide) rfl ?_
    refine g_aload_nN F d_Hub_computedValue_38 0 rfl ?_
    refine g_ifnullN F (tgt := 58) d_Hub_computedValue_39 (by decide) ?_
    refine g_bipush F (v := (-8)) d_Hub_computedValue_58 (by decide) ?_
    exact g_iret F hlk hr d_Hub_computedValue_60
  have h9 : SensorOK X o5 := ok_Hub_sensorAt hq (h8 ▸ h6)
  refine g_astore_n F (ls' := [(3, .ref (xa X o5)), (0, .ref (xa X q)), (1, .ref (xa X q1)), (2, .ref (xa X q2))]) d_Hub_computedValue_37 (by decide) rfl ?_
  refine g_aload_n F d_Hub_computedValue_38 0 rfl ?_
  refine g_ifnull F d_Hub_computedValue_39 ?_
  refine g_aload_n F d_Hub_computedValue_42 0 rfl ?_
  refine g_getI F fs_2_224 h9.1 rfl d_Hub_computedValue_43 ?_
  refine g_if_eq F (tgt := 58) d_Hub_computedValue_46 (by decide) (fun h10 => ?_) (fun h11 => ?_)
  · refine g_bipush F (v := (-8)) d_Hub_computedValue_58 (by decide) ?_
    exact g_iret F hlk hr d_Hub_computedValue_60
  refine g_aload_n F d_Hub_computedValue_49 0 rfl ?_
  refine g_getI F fs_2_247 h9.1 rfl d_Hub_computedValue_50 ?_
  refine g_bipush F (v := (-8)) d_Hub_computedValue_53 (by decide) ?_
  refine g_icmp_ne F (tgt := 61) d_Hub_computedValue_55 (by decide) (fun h12 => ?_) (fun h13 => ?_)
  · refine g_bipush F (v := (-8)) d_Hub_computedValue_58 (by decide) ?_
    exact g_iret F hlk hr d_Hub_computedValue_60
  refine g_aload_n F d_Hub_computedValue_61 2 rfl ?_
  refine g_getI F fs_2_104 hq1.1 rfl d_Hub_computedValue_62 ?_
  refine g_if (fun h14 => ?_) (fun h15 => ?_)
  · refine g_lksC F (off := 27) (tgt := 92) d_Hub_computedValue_65 (by decide) 0 h14 (by decide) (by decide) ?_
    refine g_aload_n F d_Hub_computedValue_92 3 rfl ?_
    refine g_getI F fs_2_247 hq2.1 rfl d_Hub_computedValue_93 ?_
    refine g_aload_n F d_Hub_computedValue_96 0 rfl ?_
    refine g_getI F fs_2_247 h9.1 rfl d_Hub_computedValue_97 ?_
    refine g_iadd F d_Hub_computedValue_100 ?_
    refine g_sipush F (v := 1000) d_Hub_computedValue_101 (by decide) ?_
    refine g_callS F (dp := 0) (As := [.int ((σ4 q2 15) + (σ4 o5 15)), .int (1000 : Int32)]) (c_Mat_floorMod l _ _ _) cs_2_253 rfl rfl (Nat.le_of_ble_eq_true rfl) ⟨Nat.le_of_ble_eq_true rfl, Nat.le_of_ble_eq_true rfl⟩ ⟨Nat.zero_le _, Nat.zero_le _⟩ d_Hub_computedValue_104 (fun r6 σ7 h16 => ?_)
    exact g_iret F hlk hr d_Hub_computedValue_107
  refine g_if (fun h17 => ?_) (fun h18 => ?_)
  · refine g_lksC F (off := 43) (tgt := 108) d_Hub_computedValue_65 (by decide) 1 h17 (by decide) (by decide) ?_
    refine g_aload_n F d_Hub_computedValue_108 3 rfl ?_
    refine g_getI F fs_2_247 hq2.1 rfl d_Hub_computedValue_109 ?_
    refine g_aload_n F d_Hub_computedValue_112 0 rfl ?_
    refine g_getI F fs_2_247 h9.1 rfl d_Hub_computedValue_113 ?_
    refine g_isub F d_Hub_computedValue_116 ?_
    refine g_sipush F (v := 1000) d_Hub_computedValue_117 (by decide) ?_
    refine g_callS F (dp := 0) (As := [.int ((σ4 q2 15) - (σ4 o5 15)), .int (1000 : Int32)]) (c_Mat_floorMod l _ _ _) cs_2_253 rfl rfl (Nat.le_of_ble_eq_true rfl) ⟨Nat.le_of_ble_eq_true rfl, Nat.le_of_ble_eq_true rfl⟩ ⟨Nat.zero_le _, Nat.zero_le _⟩ d_Hub_computedValue_120 (fun r8 σ9 h19 => ?_)
    exact g_iret F hlk hr d_Hub_computedValue_123
  refine g_lks F (off := 59) (tgt := 124) d_Hub_computedValue_65 (by decide) ((lv_osw h15 (by decide)).trans ((lv_osw h18 (by decide)).trans rfl)) (by decide) ?_
  refine g_aload_n F d_Hub_computedValue_124 3 rfl ?_
  refine g_getI F fs_2_247 hq2.1 rfl d_Hub_computedValue_125 ?_
  refine g_aload_n F d_Hub_computedValue_128 0 rfl ?_
  refine g_getI F fs_2_247 h9.1 rfl d_Hub_computedValue_129 ?_
  refine g_callS F (dp := 0) (As := [.int (σ4 q2 15), .int (σ4 o5 15)]) (c_Mat_max l _ _ _) cs_2_124 rfl rfl (Nat.le_of_ble_eq_true rfl) ⟨Nat.le_of_ble_eq_true rfl, Nat.le_of_ble_eq_true rfl⟩ ⟨Nat.zero_le _, Nat.zero_le _⟩ d_Hub_computedValue_132 (fun r10 σ11 h20 => ?_)
  exact g_iret F hlk hr d_Hub_computedValue_135
def y_Hub_receiveSample : MethodName := ⟨"SensorHub$Hub", "receiveSample", "(ILSensorHub$Sensor;)V"⟩
theorem d_Hub_receiveSample_0 : decode prog_4_method_25_code 0 = .ok (.aload_n 2, 1) := by decide +kernel
theorem d_Hub_receiveSample_1 : decode prog_4_method_25_code 1 = .ok (.getfield 104, 3) := by decide +kernel
theorem d_Hub_receiveSample_4 : decode prog_4_method_25_code 4 = .ok (.iconst 4, 1) := by decide +kernel
theorem d_Hub_receiveSample_5 : decode prog_4_method_25_code 5 = .ok (.if_icmp .ne 10, 3) := by decide +kernel
theorem d_Hub_receiveSample_8 : decode prog_4_method_25_code 8 = .ok (.aload_n 0, 1) := by decide +kernel
theorem d_Hub_receiveSample_9 : decode prog_4_method_25_code 9 = .ok (.iload_n 1, 1) := by decide +kernel
theorem d_Hub_receiveSample_10 : decode prog_4_method_25_code 10 = .ok (.aload_n 2, 1) := by decide +kernel
theorem d_Hub_receiveSample_11 : decode prog_4_method_25_code 11 = .ok (.invokevirtual 211, 3) := by decide +kernel
theorem d_Hub_receiveSample_14 : decode prog_4_method_25_code 14 = .ok (.return_, 1) := by decide +kernel
theorem d_Hub_receiveSample_15 : decode prog_4_method_25_code 15 = .ok (.aload_n 0, 1) := by decide +kernel
theorem d_Hub_receiveSample_16 : decode prog_4_method_25_code 16 = .ok (.aload_n 2, 1) := by decide +kernel
theorem d_Hub_receiveSample_17 : decode prog_4_method_25_code 17 = .ok (.getfield 169, 3) := by decide +kernel
theorem d_Hub_receiveSample_20 : decode prog_4_method_25_code 20 = .ok (.invokevirtual 101, 3) := by decide +kernel
theorem d_Hub_receiveSample_23 : decode prog_4_method_25_code 23 = .ok (.astore_n 3, 1) := by decide +kernel
theorem d_Hub_receiveSample_24 : decode prog_4_method_25_code 24 = .ok (.aload_n 3, 1) := by decide +kernel
theorem d_Hub_receiveSample_25 : decode prog_4_method_25_code 25 = .ok (.ifnull 24, 3) := by decide +kernel
theorem d_Hub_receiveSample_28 : decode prog_4_method_25_code 28 = .ok (.aload_n 3, 1) := by decide +kernel
theorem d_Hub_receiveSample_29 : decode prog_4_method_25_code 29 = .ok (.getfield 204, 3) := by decide +kernel
theorem d_Hub_receiveSample_32 : decode prog_4_method_25_code 32 = .ok (.ifCond .eq 17, 3) := by decide +kernel
theorem d_Hub_receiveSample_35 : decode prog_4_method_25_code 35 = .ok (.aload_n 2, 1) := by decide +kernel
theorem d_Hub_receiveSample_36 : decode prog_4_method_25_code 36 = .ok (.aload_n 3, 1) := by decide +kernel
theorem d_Hub_receiveSample_37 : decode prog_4_method_25_code 37 = .ok (.getfield 214, 3) := by decide +kernel
theorem d_Hub_receiveSample_40 : decode prog_4_method_25_code 40 = .ok (.aload_n 0, 1) := by decide +kernel
theorem d_Hub_receiveSample_41 : decode prog_4_method_25_code 41 = .ok (.aload_n 2, 1) := by decide +kernel
theorem d_Hub_receiveSample_42 : decode prog_4_method_25_code 42 = .ok (.aload_n 3, 1) := by decide +kernel
theorem d_Hub_receiveSample_43 : decode prog_4_method_25_code 43 = .ok (.invokevirtual 217, 3) := by decide +kernel
theorem d_Hub_receiveSample_46 : decode prog_4_method_25_code 46 = .ok (.invokevirtual 221, 3) := by decide +kernel
theorem d_Hub_receiveSample_49 : decode prog_4_method_25_code 49 = .ok (.return_, 1) := by decide +kernel
theorem cv_2_211 : CSV "SensorHub$Hub" 211 y_Hub_measure prog_4_method_26_code 6 none 2 := ⟨gw_I 743 (by decide +kernel) rfl, gw_I 745 (by decide +kernel) rfl, gw_I 19 (by decide +kernel) rfl, gw_I 71 (by decide +kernel) rfl, gw_I 746 (by decide +kernel) rfl, ⟨by decide +kernel, by decide +kernel⟩, by decide +kernel⟩
theorem fs_2_204 : FS "SensorHub$Hub" 204 4 13 := ⟨"SensorHub$Sensor", T_4, 18, rfl, by decide, rfl, gw_I 175 (by decide +kernel) rfl⟩
theorem fs_2_214 : FS "SensorHub$Hub" 214 4 14 := ⟨"SensorHub$Sensor", T_4, 18, rfl, by decide, rfl, gw_I 178 (by decide +kernel) rfl⟩
theorem cv_2_217 : CSV "SensorHub$Hub" 217 y_Hub_computedValue prog_4_method_27_code 4 (some .int) 2 := ⟨gw_I 769 (by decide +kernel) rfl, gw_I 771 (by decide +kernel) rfl, gw_I 20 (by decide +kernel) rfl, gw_I 71 (by decide +kernel) rfl, gw_I 772 (by decide +kernel) rfl, ⟨by decide +kernel, by decide +kernel⟩, by decide +kernel⟩
def f_Hub_receiveSample (q : Nat) (p1 : Int32) (q2 : Nat) (σ : Mem) : Option (Unit × Mem) :=
  if (σ q2 0) = (4 : Int32) then
    bd (f_Hub_measure q p1 q2 σ) fun _ σ2 =>
    some ((), σ2)
  else
    bd (f_Hub_sensorAt q (σ q2 7) σ) fun r3 σ4 =>
    oe r3 (
      some ((), σ4)
    ) (fun o5 =>
      if (σ4 o5 13) = 0 then
        some ((), σ4)
      else
        bd (f_Hub_computedValue q q2 o5 σ4) fun r6 σ7 =>
        bd (f_Sen_accept q2 (σ4 o5 14) r6 σ7) fun _ σ9 =>
        some ((), σ9)
    )
set_option maxRecDepth 100000 in
set_option maxHeartbeats 4000000 in
theorem c_Hub_receiveSample {X : CX} (l : Launch) (q : Nat) (p1 : Int32) (q2 : Nat) (hq : HubOK X q) (hq2 : SensorOK X q2) (σ : Mem) : CT X l y_Hub_receiveSample prog_4_method_25_code 4 none 3 vU [.ref (xa X q), .int p1, .ref (xa X q2)] σ (f_Hub_receiveSample q p1 q2 σ) := by
  refine CT_of (by decide +kernel) (Nat.le_of_ble_eq_true rfl) ?_
  intro p e s m args below meth c F hlk hr
  have F : FR p s m args c prog_4_method_25_code 4 "SensorHub$Hub" X := F
  show G X p l e (rmD 3) s m args below meth c 4 0 0 (QI X below args s vU) 0 [(0, .ref (xa X q)), (1, .int p1), (2, .ref (xa X q2))] [] σ _
  unfold f_Hub_receiveSample
  refine g_aload_n F d_Hub_receiveSample_0 2 rfl ?_
  refine g_getI F fs_2_104 hq2.1 rfl d_Hub_receiveSample_1 ?_
  refine g_iconst F (v := 4) d_Hub_receiveSample_4 (by decide) ?_
  refine g_icmp_ne F (tgt := 15) d_Hub_receiveSample_5 (by decide) (fun h1 => ?_) (fun h2 => ?_)
  · refine g_aload_n F d_Hub_receiveSample_8 0 rfl ?_
    refine g_iload_n F d_Hub_receiveSample_9 1 rfl ?_
    refine g_aload_n F d_Hub_receiveSample_10 2 rfl ?_
    refine g_callV F (dp := 2) (ci := 2) (As := [.int p1, .ref (xa X q2)]) (c_Hub_measure l _ _ _ hq hq2 _) cv_2_211 hq.1 rfl rfl rfl (Nat.le_of_ble_eq_true rfl) ⟨Nat.le_of_ble_eq_true rfl, Nat.le_of_ble_eq_true rfl⟩ ⟨Nat.zero_le _, Nat.zero_le _⟩ d_Hub_receiveSample_11 (fun _ σ2 h3 => ?_)
    exact g_vret F hlk hr d_Hub_receiveSample_14
  refine g_aload_n F d_Hub_receiveSample_15 0 rfl ?_
  refine g_aload_n F d_Hub_receiveSample_16 2 rfl ?_
  refine g_getI F fs_2_169 hq2.1 rfl d_Hub_receiveSample_17 ?_
  refine g_callV F (dp := 0) (ci := 2) (As := [.int (σ q2 7)]) (c_Hub_sensorAt l _ _ hq _) cv_2_101 hq.1 rfl rfl rfl (Nat.le_of_ble_eq_true rfl) ⟨Nat.le_of_ble_eq_true rfl, Nat.le_of_ble_eq_true rfl⟩ ⟨Nat.zero_le _, Nat.zero_le _⟩ d_Hub_receiveSample_20 (fun r3 σ4 h4 => ?_)
  refine g_oe (fun h5 => ?_) (fun o5 h6 => ?_)
  · refine g_astore_nN F (ls' := [(3, .null), (0, .ref (xa X q)), (1, .int p1), (2, .ref (xa X q2))]) d_Hub_receiveSample_23 (by decide) rfl ?_
    refine g_aload_nN F d_Hub_receiveSample_24 0 rfl ?_
    refine g_ifnullN F (tgt := 49) d_Hub_receiveSample_25 (by decide) ?_
    exact g_vret F hlk hr d_Hub_receiveSample_49
  have h7 : SensorOK X o5 := ok_Hub_sensorAt hq (h6 ▸ h4)
  refine g_astore_n F (ls' := [(3, .ref (xa X o5)), (0, .ref (xa X q)), (1, .int p1), (2, .ref (xa X q2))]) d_Hub_receiveSample_23 (by decide) rfl ?_
  refine g_aload_n F d_Hub_receiveSample_24 0 rfl ?_
  refine g_ifnull F d_Hub_receiveSample_25 ?_
  refine g_aload_n F d_Hub_receiveSample_28 0 rfl ?_
  refine g_getI F fs_2_204 h7.1 rfl d_Hub_receiveSample_29 ?_
  refine g_if_eq F (tgt := 49) d_Hub_receiveSample_32 (by decide) (fun h8 => ?_) (fun h9 => ?_)
  · exact g_vret F hlk hr d_Hub_receiveSample_49
  refine g_aload_n F d_Hub_receiveSample_35 3 rfl ?_
  refine g_aload_n F d_Hub_receiveSample_36 0 rfl ?_
  refine g_getI F fs_2_214 h7.1 rfl d_Hub_receiveSample_37 ?_
  refine g_aload_n F d_Hub_receiveSample_40 1 rfl ?_
  refine g_aload_n F d_Hub_receiveSample_41 3 rfl ?_
  refine g_aload_n F d_Hub_receiveSample_42 0 rfl ?_
  refine g_callV F (dp := 2) (ci := 2) (As := [.ref (xa X q2), .ref (xa X o5)]) (c_Hub_computedValue l _ _ _ hq hq2 h7 _) cv_2_217 hq.1 rfl rfl rfl (Nat.le_of_ble_eq_true rfl) ⟨Nat.le_of_ble_eq_true rfl, Nat.le_of_ble_eq_true rfl⟩ ⟨Nat.zero_le _, Nat.zero_le _⟩ d_Hub_receiveSample_43 (fun r6 σ7 h10 => ?_)
  refine g_callV F (dp := 1) (ci := 4) (As := [.int (σ4 o5 14), .int r6]) (c_Sen_accept l _ _ _ hq2 _) cv_2_221 hq2.1 rfl rfl rfl (Nat.le_of_ble_eq_true rfl) ⟨Nat.le_of_ble_eq_true rfl, Nat.le_of_ble_eq_true rfl⟩ ⟨Nat.zero_le _, Nat.zero_le _⟩ d_Hub_receiveSample_46 (fun _ σ9 h11 => ?_)
  exact g_vret F hlk hr d_Hub_receiveSample_49
def y_Hub_receiveSamples : MethodName := ⟨"SensorHub$Hub", "receiveSamples", "()V"⟩
theorem d_Hub_receiveSamples_0 : decode prog_4_method_24_code 0 = .ok (.iconst 0, 1) := by decide +kernel
theorem d_Hub_receiveSamples_1 : decode prog_4_method_24_code 1 = .ok (.istore_n 1, 1) := by decide +kernel
theorem d_Hub_receiveSamples_2 : decode prog_4_method_24_code 2 = .ok (.iload_n 1, 1) := by decide +kernel
theorem d_Hub_receiveSamples_3 : decode prog_4_method_24_code 3 = .ok (.bipush 8, 2) := by decide +kernel
theorem d_Hub_receiveSamples_5 : decode prog_4_method_24_code 5 = .ok (.if_icmp .ge 39, 3) := by decide +kernel
theorem d_Hub_receiveSamples_8 : decode prog_4_method_24_code 8 = .ok (.aload_n 0, 1) := by decide +kernel
theorem d_Hub_receiveSamples_9 : decode prog_4_method_24_code 9 = .ok (.iload_n 1, 1) := by decide +kernel
theorem d_Hub_receiveSamples_10 : decode prog_4_method_24_code 10 = .ok (.invokevirtual 101, 3) := by decide +kernel
theorem d_Hub_receiveSamples_13 : decode prog_4_method_24_code 13 = .ok (.astore_n 2, 1) := by decide +kernel
theorem d_Hub_receiveSamples_14 : decode prog_4_method_24_code 14 = .ok (.aload_n 2, 1) := by decide +kernel
theorem d_Hub_receiveSamples_15 : decode prog_4_method_24_code 15 = .ok (.ifnull 23, 3) := by decide +kernel
theorem d_Hub_receiveSamples_18 : decode prog_4_method_24_code 18 = .ok (.aload_n 2, 1) := by decide +kernel
theorem d_Hub_receiveSamples_19 : decode prog_4_method_24_code 19 = .ok (.iconst 0, 1) := by decide +kernel
theorem d_Hub_receiveSamples_20 : decode prog_4_method_24_code 20 = .ok (.putfield 204, 3) := by decide +kernel
theorem d_Hub_receiveSamples_23 : decode prog_4_method_24_code 23 = .ok (.aload_n 2, 1) := by decide +kernel
theorem d_Hub_receiveSamples_24 : decode prog_4_method_24_code 24 = .ok (.getfield 162, 3) := by decide +kernel
theorem d_Hub_receiveSamples_27 : decode prog_4_method_24_code 27 = .ok (.bipush (-9), 2) := by decide +kernel
theorem d_Hub_receiveSamples_29 : decode prog_4_method_24_code 29 = .ok (.if_icmp .eq 9, 3) := by decide +kernel
theorem d_Hub_receiveSamples_32 : decode prog_4_method_24_code 32 = .ok (.aload_n 0, 1) := by decide +kernel
theorem d_Hub_receiveSamples_33 : decode prog_4_method_24_code 33 = .ok (.iload_n 1, 1) := by decide +kernel
theorem d_Hub_receiveSamples_34 : decode prog_4_method_24_code 34 = .ok (.aload_n 2, 1) := by decide +kernel
theorem d_Hub_receiveSamples_35 : decode prog_4_method_24_code 35 = .ok (.invokevirtual 207, 3) := by decide +kernel
theorem d_Hub_receiveSamples_38 : decode prog_4_method_24_code 38 = .ok (.iinc 1 1, 3) := by decide +kernel
theorem d_Hub_receiveSamples_41 : decode prog_4_method_24_code 41 = .ok (.goto (-39), 3) := by decide +kernel
theorem d_Hub_receiveSamples_44 : decode prog_4_method_24_code 44 = .ok (.return_, 1) := by decide +kernel
theorem fw_2_204 : FW "SensorHub$Hub" 204 4 13 .boolean := ⟨"SensorHub$Sensor", T_4, 18, rfl, by decide, rfl, gw_I 175 (by decide +kernel) rfl, rfl, by decide +kernel⟩
theorem cv_2_207 : CSV "SensorHub$Hub" 207 y_Hub_receiveSample prog_4_method_25_code 4 none 2 := ⟨gw_I 739 (by decide +kernel) rfl, gw_I 741 (by decide +kernel) rfl, gw_I 18 (by decide +kernel) rfl, gw_I 71 (by decide +kernel) rfl, gw_I 742 (by decide +kernel) rfl, ⟨by decide +kernel, by decide +kernel⟩, by decide +kernel⟩
def L_Hub_receiveSamples_2 (r0 : Nat) (k : Mem → Option (Unit × Mem)) : Nat → Int32 → Mem → Option (Unit × Mem)
  | 0, _, _ => none
  | n + 1, x1, σ =>
    if (8 : Int32) ≤ x1 then
      k σ
    else
      bd (f_Hub_sensorAt r0 x1 σ) fun r1 σ2 =>
      oe r1 (
        L_Hub_receiveSamples_2 r0 k n (x1 + 1) σ2
      ) (fun o3 =>
        lt (wr σ2 o3 13 (0 : Int32)) fun σ4 =>
        if (σ4 o3 10) = (-9 : Int32) then
          L_Hub_receiveSamples_2 r0 k n (x1 + 1) σ4
        else
          bd (f_Hub_receiveSample r0 x1 o3 σ4) fun _ σ6 =>
          L_Hub_receiveSamples_2 r0 k n (x1 + 1) σ6
      )
def f_Hub_receiveSamples (q : Nat) (σ : Mem) : Option (Unit × Mem) :=
  L_Hub_receiveSamples_2 q (fun σ7 =>
    some ((), σ7)) FU (0 : Int32) σ
set_option maxRecDepth 100000 in
set_option maxHeartbeats 4000000 in
theorem l_L_Hub_receiveSamples_2 {X : CX} {p : Program} {l : Launch} {e : Env} {s : State} {m : MethodId} {args : Array Value} {below : List Frame} {meth : Method} {c : Code} (F : FR p s m args c prog_4_method_24_code 3 "SensorHub$Hub" X) (hlk : meth.locks = false) (hr : meth.sig.returnType = none) (r0 : Nat) (hr0 : HubOK X r0) (k : Mem → Option (Unit × Mem)) (hk : ∀  (σ : Mem), G X p l e (rmD 4) s m args below meth c 3 0 0 (QI X below args s vU) 44 [] [] σ (k σ)) : ∀ (n : Nat) (x1 : Int32) (σ : Mem), G X p l e (rmD 4) s m args below meth c 3 0 0 (QI X below args s vU) 2 [(0, .ref (xa X r0)), (1, .int x1)] [] σ (L_Hub_receiveSamples_2 r0 k n x1 σ) := by
  intro n
  induction n with
  | zero => intros; exact g_no
  | succ n ih =>
    intro x1 σ
    unfold L_Hub_receiveSamples_2
    refine g_iload_n F d_Hub_receiveSamples_2 1 rfl ?_
    refine g_bipush F (v := 8) d_Hub_receiveSamples_3 (by decide) ?_
    refine g_icmp_ge F (tgt := 44) d_Hub_receiveSamples_5 (by decide) (fun h1 => ?_) (fun h2 => ?_)
    · exact g_sub [] rfl (hk  _)
    refine g_aload_n F d_Hub_receiveSamples_8 0 rfl ?_
    refine g_iload_n F d_Hub_receiveSamples_9 1 rfl ?_
    refine g_callV F (dp := 0) (ci := 2) (As := [.int x1]) (c_Hub_sensorAt l _ _ hr0 _) cv_2_101 hr0.1 rfl rfl rfl (Nat.le_of_ble_eq_true rfl) ⟨Nat.le_of_ble_eq_true rfl, Nat.le_of_ble_eq_true rfl⟩ ⟨Nat.zero_le _, Nat.zero_le _⟩ d_Hub_receiveSamples_10 (fun r1 σ2 h3 => ?_)
    refine g_oe (fun h4 => ?_) (fun o3 h5 => ?_)
    · refine g_astore_nN F (ls' := [(2, .null), (0, .ref (xa X r0)), (1, .int x1)]) d_Hub_receiveSamples_13 (by decide) rfl ?_
      refine g_aload_nN F d_Hub_receiveSamples_14 0 rfl ?_
      refine g_ifnullN F (tgt := 38) d_Hub_receiveSamples_15 (by decide) ?_
      refine g_iinc F (v := 1) (ls' := [(1, .int (x1 + 1)), (2, .null), (0, .ref (xa X r0))]) d_Hub_receiveSamples_38 2 rfl (by decide) (by decide) rfl ?_
      refine g_goto F (tgt := 2) d_Hub_receiveSamples_41 (by decide) ?_
      exact g_sub [2, 0] rfl (ih _ _)
    have h6 : SensorOK X o3 := ok_Hub_sensorAt hr0 (h5 ▸ h3)
    refine g_astore_n F (ls' := [(2, .ref (xa X o3)), (0, .ref (xa X r0)), (1, .int x1)]) d_Hub_receiveSamples_13 (by decide) rfl ?_
    refine g_aload_n F d_Hub_receiveSamples_14 0 rfl ?_
    refine g_ifnull F d_Hub_receiveSamples_15 ?_
    refine g_aload_n F d_Hub_receiveSamples_18 0 rfl ?_
    refine g_iconst F (v := 0) d_Hub_receiveSamples_19 (by decide) ?_
    refine g_pt (q := (0 : Int32) &&& 1 = (0 : Int32)) (by decide) (g_putZ F fw_2_204 h6.1 rfl d_Hub_receiveSamples_20 ?_)
    refine g_ltM (fun σ4 _ => ?_)
    refine g_aload_n F d_Hub_receiveSamples_23 0 rfl ?_
    refine g_getI F fs_2_162 h6.1 rfl d_Hub_receiveSamples_24 ?_
    refine g_bipush F (v := (-9)) d_Hub_receiveSamples_27 (by decide) ?_
    refine g_icmp_eq F (tgt := 38) d_Hub_receiveSamples_29 (by decide) (fun h7 => ?_) (fun h8 => ?_)
    · refine g_iinc F (v := 1) (ls' := [(1, .int (x1 + 1)), (2, .ref (xa X o3)), (0, .ref (xa X r0))]) d_Hub_receiveSamples_38 2 rfl (by decide) (by decide) rfl ?_
      refine g_goto F (tgt := 2) d_Hub_receiveSamples_41 (by decide) ?_
      exact g_sub [2, 0] rfl (ih _ _)
    refine g_aload_n F d_Hub_receiveSamples_32 1 rfl ?_
    refine g_iload_n F d_Hub_receiveSamples_33 2 rfl ?_
    refine g_aload_n F d_Hub_receiveSamples_34 0 rfl ?_
    refine g_callV F (dp := 3) (ci := 2) (As := [.int x1, .ref (xa X o3)]) (c_Hub_receiveSample l _ _ _ hr0 h6 _) cv_2_207 hr0.1 rfl rfl rfl (Nat.le_of_ble_eq_true rfl) ⟨Nat.le_of_ble_eq_true rfl, Nat.le_of_ble_eq_true rfl⟩ ⟨Nat.zero_le _, Nat.zero_le _⟩ d_Hub_receiveSamples_35 (fun _ σ6 h9 => ?_)
    refine g_iinc F (v := 1) (ls' := [(1, .int (x1 + 1)), (2, .ref (xa X o3)), (0, .ref (xa X r0))]) d_Hub_receiveSamples_38 2 rfl (by decide) (by decide) rfl ?_
    refine g_goto F (tgt := 2) d_Hub_receiveSamples_41 (by decide) ?_
    exact g_sub [2, 0] rfl (ih _ _)
set_option maxRecDepth 100000 in
set_option maxHeartbeats 4000000 in
theorem c_Hub_receiveSamples {X : CX} (l : Launch) (q : Nat) (hq : HubOK X q) (σ : Mem) : CT X l y_Hub_receiveSamples prog_4_method_24_code 3 none 4 vU [.ref (xa X q)] σ (f_Hub_receiveSamples q σ) := by
  refine CT_of (by decide +kernel) (Nat.le_of_ble_eq_true rfl) ?_
  intro p e s m args below meth c F hlk hr
  have F : FR p s m args c prog_4_method_24_code 3 "SensorHub$Hub" X := F
  show G X p l e (rmD 4) s m args below meth c 3 0 0 (QI X below args s vU) 0 [(0, .ref (xa X q))] [] σ _
  unfold f_Hub_receiveSamples
  refine g_iconst F (v := 0) d_Hub_receiveSamples_0 (by decide) ?_
  refine g_istore_n F (ls' := [(1, .int (0 : Int32)), (0, .ref (xa X q))]) d_Hub_receiveSamples_1 (by decide) rfl ?_
  refine g_sub [1, 0] rfl (l_L_Hub_receiveSamples_2 F hlk hr _ hq _ (fun σ7 => ?_) FU _ _)
  exact g_vret F hlk hr d_Hub_receiveSamples_44
def y_Hub_wake : MethodName := ⟨"SensorHub$Hub", "wake", "(I)I"⟩
theorem d_Hub_wake_0 : decode prog_4_method_33_code 0 = .ok (.aload_n 0, 1) := by decide +kernel
theorem d_Hub_wake_1 : decode prog_4_method_33_code 1 = .ok (.getfield 37, 3) := by decide +kernel
theorem d_Hub_wake_4 : decode prog_4_method_33_code 4 = .ok (.getfield 65, 3) := by decide +kernel
theorem d_Hub_wake_7 : decode prog_4_method_33_code 7 = .ok (.istore_n 2, 1) := by decide +kernel
theorem d_Hub_wake_8 : decode prog_4_method_33_code 8 = .ok (.iload_n 2, 1) := by decide +kernel
theorem d_Hub_wake_9 : decode prog_4_method_33_code 9 = .ok (.ifCond .eq 12, 3) := by decide +kernel
theorem d_Hub_wake_12 : decode prog_4_method_33_code 12 = .ok (.iload_n 1, 1) := by decide +kernel
theorem d_Hub_wake_13 : decode prog_4_method_33_code 13 = .ok (.iconst 0, 1) := by decide +kernel
theorem d_Hub_wake_14 : decode prog_4_method_33_code 14 = .ok (.iconst 3, 1) := by decide +kernel
theorem d_Hub_wake_15 : decode prog_4_method_33_code 15 = .ok (.invokestatic 97, 3) := by decide +kernel
theorem d_Hub_wake_18 : decode prog_4_method_33_code 18 = .ok (.ifCond .ne 5, 3) := by decide +kernel
theorem d_Hub_wake_21 : decode prog_4_method_33_code 21 = .ok (.iconst 0, 1) := by decide +kernel
theorem d_Hub_wake_22 : decode prog_4_method_33_code 22 = .ok (.ireturn, 1) := by decide +kernel
theorem d_Hub_wake_23 : decode prog_4_method_33_code 23 = .ok (.iconst 0, 1) := by decide +kernel
theorem d_Hub_wake_24 : decode prog_4_method_33_code 24 = .ok (.istore_n 3, 1) := by decide +kernel
theorem d_Hub_wake_25 : decode prog_4_method_33_code 25 = .ok (.iload_n 3, 1) := by decide +kernel
theorem d_Hub_wake_26 : decode prog_4_method_33_code 26 = .ok (.iload_n 2, 1) := by decide +kernel
theorem d_Hub_wake_27 : decode prog_4_method_33_code 27 = .ok (.if_icmp .ge 56, 3) := by decide +kernel
theorem d_Hub_wake_30 : decode prog_4_method_33_code 30 = .ok (.aload_n 0, 1) := by decide +kernel
theorem d_Hub_wake_31 : decode prog_4_method_33_code 31 = .ok (.aload_n 0, 1) := by decide +kernel
theorem d_Hub_wake_32 : decode prog_4_method_33_code 32 = .ok (.getfield 37, 3) := by decide +kernel
theorem d_Hub_wake_35 : decode prog_4_method_33_code 35 = .ok (.iload_n 3, 1) := by decide +kernel
theorem d_Hub_wake_36 : decode prog_4_method_33_code 36 = .ok (.iconst 0, 1) := by decide +kernel
theorem d_Hub_wake_37 : decode prog_4_method_33_code 37 = .ok (.invokevirtual 271, 3) := by decide +kernel
theorem d_Hub_wake_40 : decode prog_4_method_33_code 40 = .ok (.invokevirtual 130, 3) := by decide +kernel
theorem d_Hub_wake_43 : decode prog_4_method_33_code 43 = .ok (.astore 4, 2) := by decide +kernel
theorem d_Hub_wake_45 : decode prog_4_method_33_code 45 = .ok (.aload 4, 2) := by decide +kernel
theorem d_Hub_wake_47 : decode prog_4_method_33_code 47 = .ok (.ifnull 30, 3) := by decide +kernel
theorem d_Hub_wake_50 : decode prog_4_method_33_code 50 = .ok (.aload 4, 2) := by decide +kernel
theorem d_Hub_wake_52 : decode prog_4_method_33_code 52 = .ok (.aload_n 0, 1) := by decide +kernel
theorem d_Hub_wake_53 : decode prog_4_method_33_code 53 = .ok (.getfield 37, 3) := by decide +kernel
theorem d_Hub_wake_56 : decode prog_4_method_33_code 56 = .ok (.iload_n 3, 1) := by decide +kernel
theorem d_Hub_wake_57 : decode prog_4_method_33_code 57 = .ok (.iconst 1, 1) := by decide +kernel
theorem d_Hub_wake_58 : decode prog_4_method_33_code 58 = .ok (.invokevirtual 271, 3) := by decide +kernel
theorem d_Hub_wake_61 : decode prog_4_method_33_code 61 = .ok (.aload_n 0, 1) := by decide +kernel
theorem d_Hub_wake_62 : decode prog_4_method_33_code 62 = .ok (.getfield 37, 3) := by decide +kernel
theorem d_Hub_wake_65 : decode prog_4_method_33_code 65 = .ok (.iload_n 3, 1) := by decide +kernel
theorem d_Hub_wake_66 : decode prog_4_method_33_code 66 = .ok (.iconst 2, 1) := by decide +kernel
theorem d_Hub_wake_67 : decode prog_4_method_33_code 67 = .ok (.invokevirtual 271, 3) := by decide +kernel
theorem d_Hub_wake_70 : decode prog_4_method_33_code 70 = .ok (.aload_n 0, 1) := by decide +kernel
theorem d_Hub_wake_71 : decode prog_4_method_33_code 71 = .ok (.getfield 46, 3) := by decide +kernel
theorem d_Hub_wake_74 : decode prog_4_method_33_code 74 = .ok (.invokevirtual 283, 3) := by decide +kernel
theorem d_Hub_wake_77 : decode prog_4_method_33_code 77 = .ok (.iinc 3 1, 3) := by decide +kernel
theorem d_Hub_wake_80 : decode prog_4_method_33_code 80 = .ok (.goto (-55), 3) := by decide +kernel
theorem d_Hub_wake_83 : decode prog_4_method_33_code 83 = .ok (.aload_n 0, 1) := by decide +kernel
theorem d_Hub_wake_84 : decode prog_4_method_33_code 84 = .ok (.getfield 37, 3) := by decide +kernel
theorem d_Hub_wake_87 : decode prog_4_method_33_code 87 = .ok (.iconst 0, 1) := by decide +kernel
theorem d_Hub_wake_88 : decode prog_4_method_33_code 88 = .ok (.putfield 65, 3) := by decide +kernel
theorem d_Hub_wake_91 : decode prog_4_method_33_code 91 = .ok (.aload_n 0, 1) := by decide +kernel
theorem d_Hub_wake_92 : decode prog_4_method_33_code 92 = .ok (.dup, 1) := by decide +kernel
theorem d_Hub_wake_93 : decode prog_4_method_33_code 93 = .ok (.getfield 53, 3) := by decide +kernel
theorem d_Hub_wake_96 : decode prog_4_method_33_code 96 = .ok (.bipush 20, 2) := by decide +kernel
theorem d_Hub_wake_98 : decode prog_4_method_33_code 98 = .ok (.iadd, 1) := by decide +kernel
theorem d_Hub_wake_99 : decode prog_4_method_33_code 99 = .ok (.putfield 53, 3) := by decide +kernel
theorem d_Hub_wake_102 : decode prog_4_method_33_code 102 = .ok (.aload_n 0, 1) := by decide +kernel
theorem d_Hub_wake_103 : decode prog_4_method_33_code 103 = .ok (.getfield 9, 3) := by decide +kernel
theorem d_Hub_wake_106 : decode prog_4_method_33_code 106 = .ok (.iload_n 1, 1) := by decide +kernel
theorem d_Hub_wake_107 : decode prog_4_method_33_code 107 = .ok (.dup2, 1) := by decide +kernel
theorem d_Hub_wake_108 : decode prog_4_method_33_code 108 = .ok (.iaload, 1) := by decide +kernel
theorem d_Hub_wake_109 : decode prog_4_method_33_code 109 = .ok (.iconst 1, 1) := by decide +kernel
theorem d_Hub_wake_110 : decode prog_4_method_33_code 110 = .ok (.iadd, 1) := by decide +kernel
theorem d_Hub_wake_111 : decode prog_4_method_33_code 111 = .ok (.iastore, 1) := by decide +kernel
theorem d_Hub_wake_112 : decode prog_4_method_33_code 112 = .ok (.iload_n 2, 1) := by decide +kernel
theorem d_Hub_wake_113 : decode prog_4_method_33_code 113 = .ok (.ireturn, 1) := by decide +kernel
theorem fs_2_65 : FS "SensorHub$Hub" 65 5 0 := ⟨"SensorHub$Store", T_5, 2, rfl, by decide, rfl, gw_I 132 (by decide +kernel) rfl⟩
theorem cv_2_271 : CSV "SensorHub$Hub" 271 y_Sto_part prog_7_method_3_code 3 (some .int) 2 := ⟨gw_I 516 (by decide +kernel) rfl, gw_I 517 (by decide +kernel) rfl, gw_I 518 (by decide +kernel) rfl, gw_I 73 (by decide +kernel) rfl, gw_I 519 (by decide +kernel) rfl, ⟨by decide +kernel, by decide +kernel⟩, by decide +kernel⟩
theorem cv_2_283 : CSV "SensorHub$Hub" 283 y_Cli_receive prog_2_method_4_code 5 none 3 := ⟨gw_I 521 (by decide +kernel) rfl, gw_I 522 (by decide +kernel) rfl, gw_I 523 (by decide +kernel) rfl, gw_I 75 (by decide +kernel) rfl, gw_I 524 (by decide +kernel) rfl, ⟨by decide +kernel, by decide +kernel⟩, by decide +kernel⟩
def L_Hub_wake_25 (r0 : Nat) (y1 : Int32) (y2 : Int32) (k : Mem → Option (Int32 × Mem)) : Nat → Int32 → Mem → Option (Int32 × Mem)
  | 0, _, _ => none
  | n + 1, x3, σ =>
    if y2 ≤ x3 then
      k σ
    else
      bd (f_Sto_part (r0 + 8) x3 (0 : Int32) σ) fun r4 σ5 =>
      bd (f_Hub_clientAt r0 r4 σ5) fun r6 σ7 =>
      oe r6 (
        L_Hub_wake_25 r0 y1 y2 k n (x3 + 1) σ7
      ) (fun o8 =>
        bd (f_Sto_part (r0 + 8) x3 (1 : Int32) σ7) fun r9 σ10 =>
        bd (f_Sto_part (r0 + 8) x3 (2 : Int32) σ10) fun r11 σ12 =>
        bd (f_Cli_receive o8 r9 r11 (σ12 r0 0) σ12) fun _ σ14 =>
        L_Hub_wake_25 r0 y1 y2 k n (x3 + 1) σ14
      )
def f_Hub_wake (q : Nat) (p1 : Int32) (σ : Mem) : Option (Int32 × Mem) :=
  lt (σ (q + 8) 0) fun v1 =>
  if v1 = 0 then
    some ((0 : Int32), σ)
  else
    bd (f_X_isWithin p1 (0 : Int32) (3 : Int32) σ) fun r2 σ3 =>
    if r2 = 0 then
      some ((0 : Int32), σ3)
    else
      L_Hub_wake_25 q p1 v1 (fun σ15 =>
        lt (wr σ15 (q + 8) 0 (0 : Int32)) fun σ16 =>
        lt (wr σ16 q 2 ((σ16 q 2) + (20 : Int32))) fun σ17 =>
        if ib p1 4 then
          if ib p1 4 then
            lt (wr σ17 (q + 1) p1.toNatClampNeg ((σ17 (q + 1) p1.toNatClampNeg) + (1 : Int32))) fun σ18 =>
            some (v1, σ18)
          else none
        else none) FU (0 : Int32) σ3
set_option maxRecDepth 100000 in
set_option maxHeartbeats 4000000 in
theorem l_L_Hub_wake_25 {X : CX} {p : Program} {l : Launch} {e : Env} {s : State} {m : MethodId} {args : Array Value} {below : List Frame} {meth : Method} {c : Code} (F : FR p s m args c prog_4_method_33_code 5 "SensorHub$Hub" X) (hlk : meth.locks = false) (hr : meth.sig.returnType = some .int) (r0 : Nat) (y1 : Int32) (y2 : Int32) (hr0 : HubOK X r0) (k : Mem → Option (Int32 × Mem)) (hk : ∀  (σ : Mem), G X p l e (rmD 2) s m args below meth c 5 0 0 (QI X below args s vI) 83 [(0, .ref (xa X r0)), (1, .int y1), (2, .int y2)] [] σ (k σ)) : ∀ (n : Nat) (x3 : Int32) (σ : Mem), G X p l e (rmD 2) s m args below meth c 5 0 0 (QI X below args s vI) 25 [(0, .ref (xa X r0)), (1, .int y1), (2, .int y2), (3, .int x3)] [] σ (L_Hub_wake_25 r0 y1 y2 k n x3 σ) := by
  intro n
  induction n with
  | zero => intros; exact g_no
  | succ n ih =>
    intro x3 σ
    unfold L_Hub_wake_25
    refine g_iload_n F d_Hub_wake_25 3 rfl ?_
    refine g_iload_n F d_Hub_wake_26 2 rfl ?_
    refine g_icmp_ge F (tgt := 83) d_Hub_wake_27 (by decide) (fun h6 => ?_) (fun h7 => ?_)
    · exact g_sub [0, 1, 2] rfl (hk  _)
    refine g_aload_n F d_Hub_wake_30 0 rfl ?_
    refine g_aload_n F d_Hub_wake_31 0 rfl ?_
    refine g_getR F fs_2_37 hr0.1 rfl d_Hub_wake_32 ?_
    refine g_iload_n F d_Hub_wake_35 3 rfl ?_
    refine g_iconst F (v := 0) d_Hub_wake_36 (by decide) ?_
    refine g_callV F (dp := 1) (ci := 5) (As := [.int x3, .int (0 : Int32)]) (c_Sto_part l _ _ _ hr0.2.2.2.2.2.1 _) cv_2_271 hr0.2.2.2.2.2.1.1 rfl rfl rfl (Nat.le_of_ble_eq_true rfl) ⟨Nat.le_of_ble_eq_true rfl, Nat.le_of_ble_eq_true rfl⟩ ⟨Nat.zero_le _, Nat.zero_le _⟩ d_Hub_wake_37 (fun r4 σ5 h8 => ?_)
    refine g_callV F (dp := 0) (ci := 2) (As := [.int r4]) (c_Hub_clientAt l _ _ hr0 _) cv_2_130 hr0.1 rfl rfl rfl (Nat.le_of_ble_eq_true rfl) ⟨Nat.le_of_ble_eq_true rfl, Nat.le_of_ble_eq_true rfl⟩ ⟨Nat.zero_le _, Nat.zero_le _⟩ d_Hub_wake_40 (fun r6 σ7 h9 => ?_)
    refine g_oe (fun h10 => ?_) (fun o8 h11 => ?_)
    · refine g_astoreN F (ls' := [(4, .null), (0, .ref (xa X r0)), (1, .int y1), (2, .int y2), (3, .int x3)]) d_Hub_wake_43 (by decide) rfl ?_
      refine g_aloadN F d_Hub_wake_45 0 rfl ?_
      refine g_ifnullN F (tgt := 77) d_Hub_wake_47 (by decide) ?_
      refine g_iinc F (v := 1) (ls' := [(3, .int (x3 + 1)), (4, .null), (0, .ref (xa X r0)), (1, .int y1), (2, .int y2)]) d_Hub_wake_77 4 rfl (by decide) (by decide) rfl ?_
      refine g_goto F (tgt := 25) d_Hub_wake_80 (by decide) ?_
      exact g_sub [2, 3, 4, 0] rfl (ih _ _)
    have h12 : ClientOK X o8 := ok_Hub_clientAt hr0 (h11 ▸ h9)
    refine g_astore F (ls' := [(4, .ref (xa X o8)), (0, .ref (xa X r0)), (1, .int y1), (2, .int y2), (3, .int x3)]) d_Hub_wake_43 (by decide) rfl ?_
    refine g_aload F d_Hub_wake_45 0 rfl ?_
    refine g_ifnull F d_Hub_wake_47 ?_
    refine g_aload F d_Hub_wake_50 0 rfl ?_
    refine g_aload_n F d_Hub_wake_52 1 rfl ?_
    refine g_getR F fs_2_37 hr0.1 rfl d_Hub_wake_53 ?_
    refine g_iload_n F d_Hub_wake_56 4 rfl ?_
    refine g_iconst F (v := 1) d_Hub_wake_57 (by decide) ?_
    refine g_callV F (dp := 1) (ci := 5) (As := [.int x3, .int (1 : Int32)]) (c_Sto_part l _ _ _ hr0.2.2.2.2.2.1 _) cv_2_271 hr0.2.2.2.2.2.1.1 rfl rfl rfl (Nat.le_of_ble_eq_true rfl) ⟨Nat.le_of_ble_eq_true rfl, Nat.le_of_ble_eq_true rfl⟩ ⟨Nat.zero_le _, Nat.zero_le _⟩ d_Hub_wake_58 (fun r9 σ10 h13 => ?_)
    refine g_aload_n F d_Hub_wake_61 1 rfl ?_
    refine g_getR F fs_2_37 hr0.1 rfl d_Hub_wake_62 ?_
    refine g_iload_n F d_Hub_wake_65 4 rfl ?_
    refine g_iconst F (v := 2) d_Hub_wake_66 (by decide) ?_
    refine g_callV F (dp := 1) (ci := 5) (As := [.int x3, .int (2 : Int32)]) (c_Sto_part l _ _ _ hr0.2.2.2.2.2.1 _) cv_2_271 hr0.2.2.2.2.2.1.1 rfl rfl rfl (Nat.le_of_ble_eq_true rfl) ⟨Nat.le_of_ble_eq_true rfl, Nat.le_of_ble_eq_true rfl⟩ ⟨Nat.zero_le _, Nat.zero_le _⟩ d_Hub_wake_67 (fun r11 σ12 h14 => ?_)
    refine g_aload_n F d_Hub_wake_70 1 rfl ?_
    refine g_getI F fs_2_46 hr0.1 rfl d_Hub_wake_71 ?_
    refine g_callV F (dp := 1) (ci := 0) (As := [.int r9, .int r11, .int (σ12 r0 0)]) (c_Cli_receive l _ _ _ _ h12 _) cv_2_283 h12.1 rfl rfl rfl (Nat.le_of_ble_eq_true rfl) ⟨Nat.le_of_ble_eq_true rfl, Nat.le_of_ble_eq_true rfl⟩ ⟨Nat.zero_le _, Nat.zero_le _⟩ d_Hub_wake_74 (fun _ σ14 h15 => ?_)
    refine g_iinc F (v := 1) (ls' := [(3, .int (x3 + 1)), (4, .ref (xa X o8)), (0, .ref (xa X r0)), (1, .int y1), (2, .int y2)]) d_Hub_wake_77 4 rfl (by decide) (by decide) rfl ?_
    refine g_goto F (tgt := 25) d_Hub_wake_80 (by decide) ?_
    exact g_sub [2, 3, 4, 0] rfl (ih _ _)
set_option maxRecDepth 100000 in
set_option maxHeartbeats 4000000 in
theorem c_Hub_wake {X : CX} (l : Launch) (q : Nat) (p1 : Int32) (hq : HubOK X q) (σ : Mem) : CT X l y_Hub_wake prog_4_method_33_code 5 (some .int) 2 vI [.ref (xa X q), .int p1] σ (f_Hub_wake q p1 σ) := by
  refine CT_of (by decide +kernel) (Nat.le_of_ble_eq_true rfl) ?_
  intro p e s m args below meth c F hlk hr
  have F : FR p s m args c prog_4_method_33_code 5 "SensorHub$Hub" X := F
  show G X p l e (rmD 2) s m args below meth c 5 0 0 (QI X below args s vI) 0 [(0, .ref (xa X q)), (1, .int p1)] [] σ _
  unfold f_Hub_wake
  refine g_aload_n F d_Hub_wake_0 0 rfl ?_
  refine g_getR F fs_2_37 hq.1 rfl d_Hub_wake_1 ?_
  refine g_getI F fs_2_65 hq.2.2.2.2.2.1.1 rfl d_Hub_wake_4 ?_
  refine g_ltI (fun v1 _ => ?_)
  refine g_istore_n F (ls' := [(2, .int v1), (0, .ref (xa X q)), (1, .int p1)]) d_Hub_wake_7 (by decide) rfl ?_
  refine g_iload_n F d_Hub_wake_8 0 rfl ?_
  refine g_if_eq F (tgt := 21) d_Hub_wake_9 (by decide) (fun h1 => ?_) (fun h2 => ?_)
  · refine g_iconst F (v := 0) d_Hub_wake_21 (by decide) ?_
    exact g_iret F hlk hr d_Hub_wake_22
  refine g_iload_n F d_Hub_wake_12 2 rfl ?_
  refine g_iconst F (v := 0) d_Hub_wake_13 (by decide) ?_
  refine g_iconst F (v := 3) d_Hub_wake_14 (by decide) ?_
  refine g_callSN F (dp := 0) (As := [.int p1, .int (0 : Int32), .int (3 : Int32)]) (c_X_isWithin l _ _ _ _) cs_2_97 rfl rfl (Nat.le_of_ble_eq_true rfl) ⟨Nat.le_of_ble_eq_true rfl, Nat.le_of_ble_eq_true rfl⟩ ⟨Nat.zero_le _, Nat.zero_le _⟩ d_Hub_wake_15 (fun r2 σ3 h3 => ?_)
  refine g_if_ne F (tgt := 23) d_Hub_wake_18 (by decide) (fun h4 => ?_) (fun h5 => ?_)
  · refine g_iconst F (v := 0) d_Hub_wake_21 (by decide) ?_
    exact g_iret F hlk hr d_Hub_wake_22
  refine g_iconst F (v := 0) d_Hub_wake_23 (by decide) ?_
  refine g_istore_n F (ls' := [(3, .int (0 : Int32)), (2, .int v1), (0, .ref (xa X q)), (1, .int p1)]) d_Hub_wake_24 (by decide) rfl ?_
  refine g_sub [2, 3, 1, 0] rfl (l_L_Hub_wake_25 F hlk hr _ _ _ hq _ (fun σ15 => ?_) FU _ _)
  refine g_aload_n F d_Hub_wake_83 0 rfl ?_
  refine g_getR F fs_2_37 hq.1 rfl d_Hub_wake_84 ?_
  refine g_iconst F (v := 0) d_Hub_wake_87 (by decide) ?_
  refine g_putI F fw_2_65 hq.2.2.2.2.2.1.1 rfl d_Hub_wake_88 ?_
  refine g_ltM (fun σ16 _ => ?_)
  refine g_aload_n F d_Hub_wake_91 0 rfl ?_
  refine g_dup F d_Hub_wake_92 rfl ?_
  refine g_getI F fs_2_53 hq.1 rfl d_Hub_wake_93 ?_
  refine g_bipush F (v := 20) d_Hub_wake_96 (by decide) ?_
  refine g_iadd F d_Hub_wake_98 ?_
  refine g_putI F fw_2_53 hq.1 rfl d_Hub_wake_99 ?_
  refine g_ltM (fun σ17 _ => ?_)
  refine g_aload_n F d_Hub_wake_102 0 rfl ?_
  refine g_getR F fs_2_9 hq.1 rfl d_Hub_wake_103 ?_
  refine g_iload_n F d_Hub_wake_106 1 rfl ?_
  refine g_dup2 F d_Hub_wake_107 rfl rfl ?_
  refine g_iald F (n := 4) hq.2.1 d_Hub_wake_108 ?_
  refine g_iconst F (v := 1) d_Hub_wake_109 (by decide) ?_
  refine g_iadd F d_Hub_wake_110 ?_
  refine g_iast F (n := 4) hq.2.1 d_Hub_wake_111 ?_
  refine g_ltM (fun σ18 _ => ?_)
  refine g_iload_n F d_Hub_wake_112 2 rfl ?_
  exact g_iret F hlk hr d_Hub_wake_113
def y_Hub_storeEntry : MethodName := ⟨"SensorHub$Hub", "storeEntry", "(ILSensorHub$Sensor;)V"⟩
theorem d_Hub_storeEntry_0 : decode prog_4_method_29_code 0 = .ok (.aload_n 0, 1) := by decide +kernel
theorem d_Hub_storeEntry_1 : decode prog_4_method_29_code 1 = .ok (.getfield 37, 3) := by decide +kernel
theorem d_Hub_storeEntry_4 : decode prog_4_method_29_code 4 = .ok (.getfield 65, 3) := by decide +kernel
theorem d_Hub_storeEntry_7 : decode prog_4_method_29_code 7 = .ok (.aload_n 0, 1) := by decide +kernel
theorem d_Hub_storeEntry_8 : decode prog_4_method_29_code 8 = .ok (.getfield 56, 3) := by decide +kernel
theorem d_Hub_storeEntry_11 : decode prog_4_method_29_code 11 = .ok (.if_icmp .lt 9, 3) := by decide +kernel
theorem d_Hub_storeEntry_14 : decode prog_4_method_29_code 14 = .ok (.aload_n 0, 1) := by decide +kernel
theorem d_Hub_storeEntry_15 : decode prog_4_method_29_code 15 = .ok (.iconst 1, 1) := by decide +kernel
theorem d_Hub_storeEntry_16 : decode prog_4_method_29_code 16 = .ok (.invokevirtual 262, 3) := by decide +kernel
theorem d_Hub_storeEntry_19 : decode prog_4_method_29_code 19 = .ok (.pop, 1) := by decide +kernel
theorem d_Hub_storeEntry_20 : decode prog_4_method_29_code 20 = .ok (.aload_n 0, 1) := by decide +kernel
theorem d_Hub_storeEntry_21 : decode prog_4_method_29_code 21 = .ok (.getfield 37, 3) := by decide +kernel
theorem d_Hub_storeEntry_24 : decode prog_4_method_29_code 24 = .ok (.iload_n 1, 1) := by decide +kernel
theorem d_Hub_storeEntry_25 : decode prog_4_method_29_code 25 = .ok (.aload_n 2, 1) := by decide +kernel
theorem d_Hub_storeEntry_26 : decode prog_4_method_29_code 26 = .ok (.getfield 214, 3) := by decide +kernel
theorem d_Hub_storeEntry_29 : decode prog_4_method_29_code 29 = .ok (.aload_n 2, 1) := by decide +kernel
theorem d_Hub_storeEntry_30 : decode prog_4_method_29_code 30 = .ok (.getfield 247, 3) := by decide +kernel
theorem d_Hub_storeEntry_33 : decode prog_4_method_29_code 33 = .ok (.invokevirtual 265, 3) := by decide +kernel
theorem d_Hub_storeEntry_36 : decode prog_4_method_29_code 36 = .ok (.aload_n 0, 1) := by decide +kernel
theorem d_Hub_storeEntry_37 : decode prog_4_method_29_code 37 = .ok (.aload_n 0, 1) := by decide +kernel
theorem d_Hub_storeEntry_38 : decode prog_4_method_29_code 38 = .ok (.getfield 192, 3) := by decide +kernel
theorem d_Hub_storeEntry_41 : decode prog_4_method_29_code 41 = .ok (.aload_n 0, 1) := by decide +kernel
theorem d_Hub_storeEntry_42 : decode prog_4_method_29_code 42 = .ok (.getfield 37, 3) := by decide +kernel
theorem d_Hub_storeEntry_45 : decode prog_4_method_29_code 45 = .ok (.getfield 65, 3) := by decide +kernel
theorem d_Hub_storeEntry_48 : decode prog_4_method_29_code 48 = .ok (.invokestatic 124, 3) := by decide +kernel
theorem d_Hub_storeEntry_51 : decode prog_4_method_29_code 51 = .ok (.putfield 192, 3) := by decide +kernel
theorem d_Hub_storeEntry_54 : decode prog_4_method_29_code 54 = .ok (.return_, 1) := by decide +kernel
theorem cv_2_265 : CSV "SensorHub$Hub" 265 y_Sto_add prog_7_method_2_code 4 none 3 := ⟨gw_I 793 (by decide +kernel) rfl, gw_I 794 (by decide +kernel) rfl, gw_I 795 (by decide +kernel) rfl, gw_I 73 (by decide +kernel) rfl, gw_I 796 (by decide +kernel) rfl, ⟨by decide +kernel, by decide +kernel⟩, by decide +kernel⟩
theorem fs_2_192 : FS "SensorHub$Hub" 192 2 5 := ⟨"SensorHub$Hub", T_2, 11, rfl, by decide, rfl, gw_I 298 (by decide +kernel) rfl⟩
theorem fw_2_192 : FW "SensorHub$Hub" 192 2 5 .int := ⟨"SensorHub$Hub", T_2, 11, rfl, by decide, rfl, gw_I 298 (by decide +kernel) rfl, rfl, by decide +kernel⟩
theorem cv_2_262 : CSV "SensorHub$Hub" 262 y_Hub_wake prog_4_method_33_code 5 (some .int) 1 := ⟨gw_I 792 (by decide +kernel) rfl, gw_I 513 (by decide +kernel) rfl, gw_I 514 (by decide +kernel) rfl, gw_I 71 (by decide +kernel) rfl, gw_I 515 (by decide +kernel) rfl, ⟨by decide +kernel, by decide +kernel⟩, by decide +kernel⟩
def f_Hub_storeEntry (q : Nat) (p1 : Int32) (q2 : Nat) (σ : Mem) : Option (Unit × Mem) :=
  if (σ (q + 8) 0) < (σ q 3) then
    bd (f_Sto_add (q + 8) p1 (σ q2 14) (σ q2 15) σ) fun _ σ2 =>
    bd (f_Mat_max (σ2 q 5) (σ2 (q + 8) 0) σ2) fun r3 σ4 =>
    lt (wr σ4 q 5 r3) fun σ5 =>
    some ((), σ5)
  else
    bd (f_Hub_wake q (1 : Int32) σ) fun r6 σ7 =>
    bd (f_Sto_add (q + 8) p1 (σ7 q2 14) (σ7 q2 15) σ7) fun _ σ9 =>
    bd (f_Mat_max (σ9 q 5) (σ9 (q + 8) 0) σ9) fun r10 σ11 =>
    lt (wr σ11 q 5 r10) fun σ12 =>
    some ((), σ12)
set_option maxRecDepth 100000 in
set_option maxHeartbeats 4000000 in
theorem c_Hub_storeEntry {X : CX} (l : Launch) (q : Nat) (p1 : Int32) (q2 : Nat) (hq : HubOK X q) (hq2 : SensorOK X q2) (σ : Mem) : CT X l y_Hub_storeEntry prog_4_method_29_code 3 none 3 vU [.ref (xa X q), .int p1, .ref (xa X q2)] σ (f_Hub_storeEntry q p1 q2 σ) := by
  refine CT_of (by decide +kernel) (Nat.le_of_ble_eq_true rfl) ?_
  intro p e s m args below meth c F hlk hr
  have F : FR p s m args c prog_4_method_29_code 3 "SensorHub$Hub" X := F
  show G X p l e (rmD 3) s m args below meth c 3 0 0 (QI X below args s vU) 0 [(0, .ref (xa X q)), (1, .int p1), (2, .ref (xa X q2))] [] σ _
  unfold f_Hub_storeEntry
  refine g_aload_n F d_Hub_storeEntry_0 0 rfl ?_
  refine g_getR F fs_2_37 hq.1 rfl d_Hub_storeEntry_1 ?_
  refine g_getI F fs_2_65 hq.2.2.2.2.2.1.1 rfl d_Hub_storeEntry_4 ?_
  refine g_aload_n F d_Hub_storeEntry_7 0 rfl ?_
  refine g_getI F fs_2_56 hq.1 rfl d_Hub_storeEntry_8 ?_
  refine g_icmp_lt F (tgt := 20) d_Hub_storeEntry_11 (by decide) (fun h1 => ?_) (fun h2 => ?_)
  · refine g_aload_n F d_Hub_storeEntry_20 0 rfl ?_
    refine g_getR F fs_2_37 hq.1 rfl d_Hub_storeEntry_21 ?_
    refine g_iload_n F d_Hub_storeEntry_24 1 rfl ?_
    refine g_aload_n F d_Hub_storeEntry_25 2 rfl ?_
    refine g_getI F fs_2_214 hq2.1 rfl d_Hub_storeEntry_26 ?_
    refine g_aload_n F d_Hub_storeEntry_29 2 rfl ?_
    refine g_getI F fs_2_247 hq2.1 rfl d_Hub_storeEntry_30 ?_
    refine g_callV F (dp := 1) (ci := 5) (As := [.int p1, .int (σ q2 14), .int (σ q2 15)]) (c_Sto_add l _ _ _ _ hq.2.2.2.2.2.1 _) cv_2_265 hq.2.2.2.2.2.1.1 rfl rfl rfl (Nat.le_of_ble_eq_true rfl) ⟨Nat.le_of_ble_eq_true rfl, Nat.le_of_ble_eq_true rfl⟩ ⟨Nat.zero_le _, Nat.zero_le _⟩ d_Hub_storeEntry_33 (fun _ σ2 h3 => ?_)
    refine g_aload_n F d_Hub_storeEntry_36 0 rfl ?_
    refine g_aload_n F d_Hub_storeEntry_37 0 rfl ?_
    refine g_getI F fs_2_192 hq.1 rfl d_Hub_storeEntry_38 ?_
    refine g_aload_n F d_Hub_storeEntry_41 0 rfl ?_
    refine g_getR F fs_2_37 hq.1 rfl d_Hub_storeEntry_42 ?_
    refine g_getI F fs_2_65 hq.2.2.2.2.2.1.1 rfl d_Hub_storeEntry_45 ?_
    refine g_callS F (dp := 0) (As := [.int (σ2 q 5), .int (σ2 (q + 8) 0)]) (c_Mat_max l _ _ _) cs_2_124 rfl rfl (Nat.le_of_ble_eq_true rfl) ⟨Nat.le_of_ble_eq_true rfl, Nat.le_of_ble_eq_true rfl⟩ ⟨Nat.zero_le _, Nat.zero_le _⟩ d_Hub_storeEntry_48 (fun r3 σ4 h4 => ?_)
    refine g_putI F fw_2_192 hq.1 rfl d_Hub_storeEntry_51 ?_
    refine g_ltM (fun σ5 _ => ?_)
    exact g_vret F hlk hr d_Hub_storeEntry_54
  refine g_aload_n F d_Hub_storeEntry_14 0 rfl ?_
  refine g_iconst F (v := 1) d_Hub_storeEntry_15 (by decide) ?_
  refine g_callV F (dp := 2) (ci := 2) (As := [.int (1 : Int32)]) (c_Hub_wake l _ _ hq _) cv_2_262 hq.1 rfl rfl rfl (Nat.le_of_ble_eq_true rfl) ⟨Nat.le_of_ble_eq_true rfl, Nat.le_of_ble_eq_true rfl⟩ ⟨Nat.zero_le _, Nat.zero_le _⟩ d_Hub_storeEntry_16 (fun r6 σ7 h5 => ?_)
  refine g_pop F d_Hub_storeEntry_19 rfl ?_
  refine g_aload_n F d_Hub_storeEntry_20 0 rfl ?_
  refine g_getR F fs_2_37 hq.1 rfl d_Hub_storeEntry_21 ?_
  refine g_iload_n F d_Hub_storeEntry_24 1 rfl ?_
  refine g_aload_n F d_Hub_storeEntry_25 2 rfl ?_
  refine g_getI F fs_2_214 hq2.1 rfl d_Hub_storeEntry_26 ?_
  refine g_aload_n F d_Hub_storeEntry_29 2 rfl ?_
  refine g_getI F fs_2_247 hq2.1 rfl d_Hub_storeEntry_30 ?_
  refine g_callV F (dp := 1) (ci := 5) (As := [.int p1, .int (σ7 q2 14), .int (σ7 q2 15)]) (c_Sto_add l _ _ _ _ hq.2.2.2.2.2.1 _) cv_2_265 hq.2.2.2.2.2.1.1 rfl rfl rfl (Nat.le_of_ble_eq_true rfl) ⟨Nat.le_of_ble_eq_true rfl, Nat.le_of_ble_eq_true rfl⟩ ⟨Nat.zero_le _, Nat.zero_le _⟩ d_Hub_storeEntry_33 (fun _ σ9 h6 => ?_)
  refine g_aload_n F d_Hub_storeEntry_36 0 rfl ?_
  refine g_aload_n F d_Hub_storeEntry_37 0 rfl ?_
  refine g_getI F fs_2_192 hq.1 rfl d_Hub_storeEntry_38 ?_
  refine g_aload_n F d_Hub_storeEntry_41 0 rfl ?_
  refine g_getR F fs_2_37 hq.1 rfl d_Hub_storeEntry_42 ?_
  refine g_getI F fs_2_65 hq.2.2.2.2.2.1.1 rfl d_Hub_storeEntry_45 ?_
  refine g_callS F (dp := 0) (As := [.int (σ9 q 5), .int (σ9 (q + 8) 0)]) (c_Mat_max l _ _ _) cs_2_124 rfl rfl (Nat.le_of_ble_eq_true rfl) ⟨Nat.le_of_ble_eq_true rfl, Nat.le_of_ble_eq_true rfl⟩ ⟨Nat.zero_le _, Nat.zero_le _⟩ d_Hub_storeEntry_48 (fun r10 σ11 h7 => ?_)
  refine g_putI F fw_2_192 hq.1 rfl d_Hub_storeEntry_51 ?_
  refine g_ltM (fun σ12 _ => ?_)
  exact g_vret F hlk hr d_Hub_storeEntry_54
def y_Hub_storeEntries : MethodName := ⟨"SensorHub$Hub", "storeEntries", "()V"⟩
theorem d_Hub_storeEntries_0 : decode prog_4_method_28_code 0 = .ok (.iconst 0, 1) := by decide +kernel
theorem d_Hub_storeEntries_1 : decode prog_4_method_28_code 1 = .ok (.istore_n 1, 1) := by decide +kernel
theorem d_Hub_storeEntries_2 : decode prog_4_method_28_code 2 = .ok (.iload_n 1, 1) := by decide +kernel
theorem d_Hub_storeEntries_3 : decode prog_4_method_28_code 3 = .ok (.bipush 8, 2) := by decide +kernel
theorem d_Hub_storeEntries_5 : decode prog_4_method_28_code 5 = .ok (.if_icmp .ge 70, 3) := by decide +kernel
theorem d_Hub_storeEntries_8 : decode prog_4_method_28_code 8 = .ok (.aload_n 0, 1) := by decide +kernel
theorem d_Hub_storeEntries_9 : decode prog_4_method_28_code 9 = .ok (.iload_n 1, 1) := by decide +kernel
theorem d_Hub_storeEntries_10 : decode prog_4_method_28_code 10 = .ok (.invokevirtual 130, 3) := by decide +kernel
theorem d_Hub_storeEntries_13 : decode prog_4_method_28_code 13 = .ok (.astore_n 2, 1) := by decide +kernel
theorem d_Hub_storeEntries_14 : decode prog_4_method_28_code 14 = .ok (.aload_n 2, 1) := by decide +kernel
theorem d_Hub_storeEntries_15 : decode prog_4_method_28_code 15 = .ok (.ifnonnull 7, 3) := by decide +kernel
theorem d_Hub_storeEntries_18 : decode prog_4_method_28_code 18 = .ok (.aconst_null, 1) := by decide +kernel
theorem d_Hub_storeEntries_19 : decode prog_4_method_28_code 19 = .ok (.goto 11, 3) := by decide +kernel
theorem d_Hub_storeEntries_22 : decode prog_4_method_28_code 22 = .ok (.aload_n 0, 1) := by decide +kernel
theorem d_Hub_storeEntries_23 : decode prog_4_method_28_code 23 = .ok (.aload_n 2, 1) := by decide +kernel
theorem d_Hub_storeEntries_24 : decode prog_4_method_28_code 24 = .ok (.getfield 149, 3) := by decide +kernel
theorem d_Hub_storeEntries_27 : decode prog_4_method_28_code 27 = .ok (.invokevirtual 101, 3) := by decide +kernel
theorem d_Hub_storeEntries_30 : decode prog_4_method_28_code 30 = .ok (.astore_n 3, 1) := by decide +kernel
theorem d_Hub_storeEntries_31 : decode prog_4_method_28_code 31 = .ok (.aload_n 2, 1) := by decide +kernel
theorem d_Hub_storeEntries_32 : decode prog_4_method_28_code 32 = .ok (.ifnull 37, 3) := by decide +kernel
theorem d_Hub_storeEntries_35 : decode prog_4_method_28_code 35 = .ok (.aload_n 3, 1) := by decide +kernel
theorem d_Hub_storeEntries_36 : decode prog_4_method_28_code 36 = .ok (.ifnull 33, 3) := by decide +kernel
theorem d_Hub_storeEntries_39 : decode prog_4_method_28_code 39 = .ok (.aload_n 3, 1) := by decide +kernel
theorem d_Hub_storeEntries_40 : decode prog_4_method_28_code 40 = .ok (.getfield 204, 3) := by decide +kernel
theorem d_Hub_storeEntries_43 : decode prog_4_method_28_code 43 = .ok (.ifCond .eq 26, 3) := by decide +kernel
theorem d_Hub_storeEntries_46 : decode prog_4_method_28_code 46 = .ok (.aload_n 2, 1) := by decide +kernel
theorem d_Hub_storeEntries_47 : decode prog_4_method_28_code 47 = .ok (.invokevirtual 256, 3) := by decide +kernel
theorem d_Hub_storeEntries_50 : decode prog_4_method_28_code 50 = .ok (.ifCond .eq 9, 3) := by decide +kernel
theorem d_Hub_storeEntries_53 : decode prog_4_method_28_code 53 = .ok (.aload_n 0, 1) := by decide +kernel
theorem d_Hub_storeEntries_54 : decode prog_4_method_28_code 54 = .ok (.iload_n 1, 1) := by decide +kernel
theorem d_Hub_storeEntries_55 : decode prog_4_method_28_code 55 = .ok (.aload_n 3, 1) := by decide +kernel
theorem d_Hub_storeEntries_56 : decode prog_4_method_28_code 56 = .ok (.invokevirtual 259, 3) := by decide +kernel
theorem d_Hub_storeEntries_59 : decode prog_4_method_28_code 59 = .ok (.aload_n 2, 1) := by decide +kernel
theorem d_Hub_storeEntries_60 : decode prog_4_method_28_code 60 = .ok (.dup, 1) := by decide +kernel
theorem d_Hub_storeEntries_61 : decode prog_4_method_28_code 61 = .ok (.getfield 189, 3) := by decide +kernel
theorem d_Hub_storeEntries_64 : decode prog_4_method_28_code 64 = .ok (.iconst 1, 1) := by decide +kernel
theorem d_Hub_storeEntries_65 : decode prog_4_method_28_code 65 = .ok (.iadd, 1) := by decide +kernel
theorem d_Hub_storeEntries_66 : decode prog_4_method_28_code 66 = .ok (.putfield 189, 3) := by decide +kernel
theorem d_Hub_storeEntries_69 : decode prog_4_method_28_code 69 = .ok (.iinc 1 1, 3) := by decide +kernel
theorem d_Hub_storeEntries_72 : decode prog_4_method_28_code 72 = .ok (.goto (-70), 3) := by decide +kernel
theorem d_Hub_storeEntries_75 : decode prog_4_method_28_code 75 = .ok (.return_, 1) := by decide +kernel
theorem cv_2_256 : CSV "SensorHub$Hub" 256 y_Cli_takesNext prog_2_method_3_code 1 (some .boolean) 0 := ⟨gw_I 783 (by decide +kernel) rfl, gw_I 784 (by decide +kernel) rfl, gw_I 785 (by decide +kernel) rfl, gw_I 75 (by decide +kernel) rfl, gw_I 786 (by decide +kernel) rfl, ⟨by decide +kernel, by decide +kernel⟩, by decide +kernel⟩
theorem fs_2_189 : FS "SensorHub$Hub" 189 0 5 := ⟨"SensorHub$Client", T_0, 11, rfl, by decide, rfl, gw_I 241 (by decide +kernel) rfl⟩
theorem cv_2_259 : CSV "SensorHub$Hub" 259 y_Hub_storeEntry prog_4_method_29_code 3 none 2 := ⟨gw_I 788 (by decide +kernel) rfl, gw_I 790 (by decide +kernel) rfl, gw_I 22 (by decide +kernel) rfl, gw_I 71 (by decide +kernel) rfl, gw_I 791 (by decide +kernel) rfl, ⟨by decide +kernel, by decide +kernel⟩, by decide +kernel⟩
def L_Hub_storeEntries_2 (r0 : Nat) (k : Mem → Option (Unit × Mem)) : Nat → Int32 → Mem → Option (Unit × Mem)
  | 0, _, _ => none
  | n + 1, x1, σ =>
    if (8 : Int32) ≤ x1 then
      k σ
    else
      bd (f_Hub_clientAt r0 x1 σ) fun r1 σ2 =>
      oe r1 (
        L_Hub_storeEntries_2 r0 k n (x1 + 1) σ2
      ) (fun o3 =>
        bd (f_Hub_sensorAt r0 (σ2 o3 1) σ2) fun r4 σ5 =>
        oe r4 (
          L_Hub_storeEntries_2 r0 k n (x1 + 1) σ5
        ) (fun o6 =>
          if (σ5 o6 13) = 0 then
            L_Hub_storeEntries_2 r0 k n (x1 + 1) σ5
          else
            bd (f_Cli_takesNext o3 σ5) fun r7 σ8 =>
            if r7 = 0 then
              lt (wr σ8 o3 5 ((σ8 o3 5) + (1 : Int32))) fun σ9 =>
              L_Hub_storeEntries_2 r0 k n (x1 + 1) σ9
            else
              bd (f_Hub_storeEntry r0 x1 o6 σ8) fun _ σ11 =>
              lt (wr σ11 o3 5 ((σ11 o3 5) + (1 : Int32))) fun σ12 =>
              L_Hub_storeEntries_2 r0 k n (x1 + 1) σ12
        )
      )
def f_Hub_storeEntries (q : Nat) (σ : Mem) : Option (Unit × Mem) :=
  L_Hub_storeEntries_2 q (fun σ13 =>
    some ((), σ13)) FU (0 : Int32) σ
set_option maxRecDepth 100000 in
set_option maxHeartbeats 4000000 in
theorem l_L_Hub_storeEntries_2 {X : CX} {p : Program} {l : Launch} {e : Env} {s : State} {m : MethodId} {args : Array Value} {below : List Frame} {meth : Method} {c : Code} (F : FR p s m args c prog_4_method_28_code 4 "SensorHub$Hub" X) (hlk : meth.locks = false) (hr : meth.sig.returnType = none) (r0 : Nat) (hr0 : HubOK X r0) (k : Mem → Option (Unit × Mem)) (hk : ∀  (σ : Mem), G X p l e (rmD 4) s m args below meth c 4 0 0 (QI X below args s vU) 75 [] [] σ (k σ)) : ∀ (n : Nat) (x1 : Int32) (σ : Mem), G X p l e (rmD 4) s m args below meth c 4 0 0 (QI X below args s vU) 2 [(0, .ref (xa X r0)), (1, .int x1)] [] σ (L_Hub_storeEntries_2 r0 k n x1 σ) := by
  intro n
  induction n with
  | zero => intros; exact g_no
  | succ n ih =>
    intro x1 σ
    unfold L_Hub_storeEntries_2
    refine g_iload_n F d_Hub_storeEntries_2 1 rfl ?_
    refine g_bipush F (v := 8) d_Hub_storeEntries_3 (by decide) ?_
    refine g_icmp_ge F (tgt := 75) d_Hub_storeEntries_5 (by decide) (fun h1 => ?_) (fun h2 => ?_)
    · exact g_sub [] rfl (hk  _)
    refine g_aload_n F d_Hub_storeEntries_8 0 rfl ?_
    refine g_iload_n F d_Hub_storeEntries_9 1 rfl ?_
    refine g_callV F (dp := 0) (ci := 2) (As := [.int x1]) (c_Hub_clientAt l _ _ hr0 _) cv_2_130 hr0.1 rfl rfl rfl (Nat.le_of_ble_eq_true rfl) ⟨Nat.le_of_ble_eq_true rfl, Nat.le_of_ble_eq_true rfl⟩ ⟨Nat.zero_le _, Nat.zero_le _⟩ d_Hub_storeEntries_10 (fun r1 σ2 h3 => ?_)
    refine g_oe (fun h4 => ?_) (fun o3 h5 => ?_)
    · refine g_astore_nN F (ls' := [(2, .null), (0, .ref (xa X r0)), (1, .int x1)]) d_Hub_storeEntries_13 (by decide) rfl ?_
      refine g_aload_nN F d_Hub_storeEntries_14 0 rfl ?_
      refine g_ifnonnullN F d_Hub_storeEntries_15 ?_
      refine g_null F d_Hub_storeEntries_18 ?_
      refine g_goto F (tgt := 30) d_Hub_storeEntries_19 (by decide) ?_
      refine g_astore_nN F (ls' := [(3, .null), (2, .null), (0, .ref (xa X r0)), (1, .int x1)]) d_Hub_storeEntries_30 (by decide) rfl ?_
      refine g_aload_nN F d_Hub_storeEntries_31 1 rfl ?_
      refine g_ifnullN F (tgt := 69) d_Hub_storeEntries_32 (by decide) ?_
      refine g_iinc F (v := 1) (ls' := [(1, .int (x1 + 1)), (3, .null), (2, .null), (0, .ref (xa X r0))]) d_Hub_storeEntries_69 3 rfl (by decide) (by decide) rfl ?_
      refine g_goto F (tgt := 2) d_Hub_storeEntries_72 (by decide) ?_
      exact g_sub [3, 0] rfl (ih _ _)
    have h6 : ClientOK X o3 := ok_Hub_clientAt hr0 (h5 ▸ h3)
    refine g_astore_n F (ls' := [(2, .ref (xa X o3)), (0, .ref (xa X r0)), (1, .int x1)]) d_Hub_storeEntries_13 (by decide) rfl ?_
    refine g_aload_n F d_Hub_storeEntries_14 0 rfl ?_
    refine g_ifnonnull F (tgt := 22) d_Hub_storeEntries_15 (by decide) ?_
    refine g_aload_n F d_Hub_storeEntries_22 1 rfl ?_
    refine g_aload_n F d_Hub_storeEntries_23 0 rfl ?_
    refine g_getI F fs_2_149 h6.1 rfl d_Hub_storeEntries_24 ?_
    refine g_callV F (dp := 0) (ci := 2) (As := [.int (σ2 o3 1)]) (c_Hub_sensorAt l _ _ hr0 _) cv_2_101 hr0.1 rfl rfl rfl (Nat.le_of_ble_eq_true rfl) ⟨Nat.le_of_ble_eq_true rfl, Nat.le_of_ble_eq_true rfl⟩ ⟨Nat.zero_le _, Nat.zero_le _⟩ d_Hub_storeEntries_27 (fun r4 σ5 h7 => ?_)
    refine g_oe (fun h8 => ?_) (fun o6 h9 => ?_)
    · refine g_astore_nN F (ls' := [(3, .null), (2, .ref (xa X o3)), (0, .ref (xa X r0)), (1, .int x1)]) d_Hub_storeEntries_30 (by decide) rfl ?_
      refine g_aload_n F d_Hub_storeEntries_31 1 rfl ?_
      refine g_ifnull F d_Hub_storeEntries_32 ?_
      refine g_aload_nN F d_Hub_storeEntries_35 0 rfl ?_
      refine g_ifnullN F (tgt := 69) d_Hub_storeEntries_36 (by decide) ?_
      refine g_iinc F (v := 1) (ls' := [(1, .int (x1 + 1)), (3, .null), (2, .ref (xa X o3)), (0, .ref (xa X r0))]) d_Hub_storeEntries_69 3 rfl (by decide) (by decide) rfl ?_
      refine g_goto F (tgt := 2) d_Hub_storeEntries_72 (by decide) ?_
      exact g_sub [3, 0] rfl (ih _ _)
    have h10 : SensorOK X o6 := ok_Hub_sensorAt hr0 (h9 ▸ h7)
    refine g_astore_n F (ls' := [(3, .ref (xa X o6)), (2, .ref (xa X o3)), (0, .ref (xa X r0)), (1, .int x1)]) d_Hub_storeEntries_30 (by decide) rfl ?_
    refine g_aload_n F d_Hub_storeEntries_31 1 rfl ?_
    refine g_ifnull F d_Hub_storeEntries_32 ?_
    refine g_aload_n F d_Hub_storeEntries_35 0 rfl ?_
    refine g_ifnull F d_Hub_storeEntries_36 ?_
    refine g_aload_n F d_Hub_storeEntries_39 0 rfl ?_
    refine g_getI F fs_2_204 h10.1 rfl d_Hub_storeEntries_40 ?_
    refine g_if_eq F (tgt := 69) d_Hub_storeEntries_43 (by decide) (fun h11 => ?_) (fun h12 => ?_)
    · refine g_iinc F (v := 1) (ls' := [(1, .int (x1 + 1)), (3, .ref (xa X o6)), (2, .ref (xa X o3)), (0, .ref (xa X r0))]) d_Hub_storeEntries_69 3 rfl (by decide) (by decide) rfl ?_
      refine g_goto F (tgt := 2) d_Hub_storeEntries_72 (by decide) ?_
      exact g_sub [3, 0] rfl (ih _ _)
    refine g_aload_n F d_Hub_storeEntries_46 1 rfl ?_
    refine g_callV F (dp := 2) (ci := 0) (As := []) (c_Cli_takesNext l _ h6 _) cv_2_256 h6.1 rfl rfl rfl (Nat.le_of_ble_eq_true rfl) ⟨Nat.le_of_ble_eq_true rfl, Nat.le_of_ble_eq_true rfl⟩ ⟨Nat.zero_le _, Nat.zero_le _⟩ d_Hub_storeEntries_47 (fun r7 σ8 h13 => ?_)
    refine g_if_eq F (tgt := 59) d_Hub_storeEntries_50 (by decide) (fun h14 => ?_) (fun h15 => ?_)
    · refine g_aload_n F d_Hub_storeEntries_59 1 rfl ?_
      refine g_dup F d_Hub_storeEntries_60 rfl ?_
      refine g_getI F fs_2_189 h6.1 rfl d_Hub_storeEntries_61 ?_
      refine g_iconst F (v := 1) d_Hub_storeEntries_64 (by decide) ?_
      refine g_iadd F d_Hub_storeEntries_65 ?_
      refine g_putI F fw_2_189 h6.1 rfl d_Hub_storeEntries_66 ?_
      refine g_ltM (fun σ9 _ => ?_)
      refine g_iinc F (v := 1) (ls' := [(1, .int (x1 + 1)), (3, .ref (xa X o6)), (2, .ref (xa X o3)), (0, .ref (xa X r0))]) d_Hub_storeEntries_69 3 rfl (by decide) (by decide) rfl ?_
      refine g_goto F (tgt := 2) d_Hub_storeEntries_72 (by decide) ?_
      exact g_sub [3, 0] rfl (ih _ _)
    refine g_aload_n F d_Hub_storeEntries_53 2 rfl ?_
    refine g_iload_n F d_Hub_storeEntries_54 3 rfl ?_
    refine g_aload_n F d_Hub_storeEntries_55 0 rfl ?_
    refine g_callV F (dp := 3) (ci := 2) (As := [.int x1, .ref (xa X o6)]) (c_Hub_storeEntry l _ _ _ hr0 h10 _) cv_2_259 hr0.1 rfl rfl rfl (Nat.le_of_ble_eq_true rfl) ⟨Nat.le_of_ble_eq_true rfl, Nat.le_of_ble_eq_true rfl⟩ ⟨Nat.zero_le _, Nat.zero_le _⟩ d_Hub_storeEntries_56 (fun _ σ11 h16 => ?_)
    refine g_aload_n F d_Hub_storeEntries_59 1 rfl ?_
    refine g_dup F d_Hub_storeEntries_60 rfl ?_
    refine g_getI F fs_2_189 h6.1 rfl d_Hub_storeEntries_61 ?_
    refine g_iconst F (v := 1) d_Hub_storeEntries_64 (by decide) ?_
    refine g_iadd F d_Hub_storeEntries_65 ?_
    refine g_putI F fw_2_189 h6.1 rfl d_Hub_storeEntries_66 ?_
    refine g_ltM (fun σ12 _ => ?_)
    refine g_iinc F (v := 1) (ls' := [(1, .int (x1 + 1)), (3, .ref (xa X o6)), (2, .ref (xa X o3)), (0, .ref (xa X r0))]) d_Hub_storeEntries_69 3 rfl (by decide) (by decide) rfl ?_
    refine g_goto F (tgt := 2) d_Hub_storeEntries_72 (by decide) ?_
    exact g_sub [3, 0] rfl (ih _ _)
set_option maxRecDepth 100000 in
set_option maxHeartbeats 4000000 in
theorem c_Hub_storeEntries {X : CX} (l : Launch) (q : Nat) (hq : HubOK X q) (σ : Mem) : CT X l y_Hub_storeEntries prog_4_method_28_code 4 none 4 vU [.ref (xa X q)] σ (f_Hub_storeEntries q σ) := by
  refine CT_of (by decide +kernel) (Nat.le_of_ble_eq_true rfl) ?_
  intro p e s m args below meth c F hlk hr
  have F : FR p s m args c prog_4_method_28_code 4 "SensorHub$Hub" X := F
  show G X p l e (rmD 4) s m args below meth c 4 0 0 (QI X below args s vU) 0 [(0, .ref (xa X q))] [] σ _
  unfold f_Hub_storeEntries
  refine g_iconst F (v := 0) d_Hub_storeEntries_0 (by decide) ?_
  refine g_istore_n F (ls' := [(1, .int (0 : Int32)), (0, .ref (xa X q))]) d_Hub_storeEntries_1 (by decide) rfl ?_
  refine g_sub [1, 0] rfl (l_L_Hub_storeEntries_2 F hlk hr _ hq _ (fun σ13 => ?_) FU _ _)
  exact g_vret F hlk hr d_Hub_storeEntries_75
def y_Hub_deadlineOf : MethodName := ⟨"SensorHub$Hub", "deadlineOf", "(I)I"⟩
theorem d_Hub_deadlineOf_0 : decode prog_4_method_31_code 0 = .ok (.aload_n 0, 1) := by decide +kernel
theorem d_Hub_deadlineOf_1 : decode prog_4_method_31_code 1 = .ok (.aload_n 0, 1) := by decide +kernel
theorem d_Hub_deadlineOf_2 : decode prog_4_method_31_code 2 = .ok (.getfield 37, 3) := by decide +kernel
theorem d_Hub_deadlineOf_5 : decode prog_4_method_31_code 5 = .ok (.iload_n 1, 1) := by decide +kernel
theorem d_Hub_deadlineOf_6 : decode prog_4_method_31_code 6 = .ok (.iconst 0, 1) := by decide +kernel
theorem d_Hub_deadlineOf_7 : decode prog_4_method_31_code 7 = .ok (.invokevirtual 271, 3) := by decide +kernel
theorem d_Hub_deadlineOf_10 : decode prog_4_method_31_code 10 = .ok (.invokevirtual 130, 3) := by decide +kernel
theorem d_Hub_deadlineOf_13 : decode prog_4_method_31_code 13 = .ok (.astore_n 2, 1) := by decide +kernel
theorem d_Hub_deadlineOf_14 : decode prog_4_method_31_code 14 = .ok (.aload_n 2, 1) := by decide +kernel
theorem d_Hub_deadlineOf_15 : decode prog_4_method_31_code 15 = .ok (.ifnonnull 7, 3) := by decide +kernel
theorem d_Hub_deadlineOf_18 : decode prog_4_method_31_code 18 = .ok (.iconst 0, 1) := by decide +kernel
theorem d_Hub_deadlineOf_19 : decode prog_4_method_31_code 19 = .ok (.goto 7, 3) := by decide +kernel
theorem d_Hub_deadlineOf_22 : decode prog_4_method_31_code 22 = .ok (.aload_n 2, 1) := by decide +kernel
theorem d_Hub_deadlineOf_23 : decode prog_4_method_31_code 23 = .ok (.getfield 277, 3) := by decide +kernel
theorem d_Hub_deadlineOf_26 : decode prog_4_method_31_code 26 = .ok (.istore_n 3, 1) := by decide +kernel
theorem d_Hub_deadlineOf_27 : decode prog_4_method_31_code 27 = .ok (.aload_n 0, 1) := by decide +kernel
theorem d_Hub_deadlineOf_28 : decode prog_4_method_31_code 28 = .ok (.getfield 37, 3) := by decide +kernel
theorem d_Hub_deadlineOf_31 : decode prog_4_method_31_code 31 = .ok (.iload_n 1, 1) := by decide +kernel
theorem d_Hub_deadlineOf_32 : decode prog_4_method_31_code 32 = .ok (.iconst 1, 1) := by decide +kernel
theorem d_Hub_deadlineOf_33 : decode prog_4_method_31_code 33 = .ok (.invokevirtual 271, 3) := by decide +kernel
theorem d_Hub_deadlineOf_36 : decode prog_4_method_31_code 36 = .ok (.iload_n 3, 1) := by decide +kernel
theorem d_Hub_deadlineOf_37 : decode prog_4_method_31_code 37 = .ok (.iadd, 1) := by decide +kernel
theorem d_Hub_deadlineOf_38 : decode prog_4_method_31_code 38 = .ok (.ireturn, 1) := by decide +kernel
theorem fs_2_277 : FS "SensorHub$Hub" 277 0 3 := ⟨"SensorHub$Client", T_0, 11, rfl, by decide, rfl, gw_I 236 (by decide +kernel) rfl⟩
def f_Hub_deadlineOf (q : Nat) (p1 : Int32) (σ : Mem) : Option (Int32 × Mem) :=
  bd (f_Sto_part (q + 8) p1 (0 : Int32) σ) fun r1 σ2 =>
  bd (f_Hub_clientAt q r1 σ2) fun r3 σ4 =>
  oe r3 (
    bd (f_Sto_part (q + 8) p1 (1 : Int32) σ4) fun r6 σ7 =>
    some (r6 + (0 : Int32), σ7)
  ) (fun o5 =>
    lt (σ4 o5 3) fun v8 =>
    bd (f_Sto_part (q + 8) p1 (1 : Int32) σ4) fun r9 σ10 =>
    some (r9 + v8, σ10)
  )
set_option maxRecDepth 100000 in
set_option maxHeartbeats 4000000 in
theorem c_Hub_deadlineOf {X : CX} (l : Launch) (q : Nat) (p1 : Int32) (hq : HubOK X q) (σ : Mem) : CT X l y_Hub_deadlineOf prog_4_method_31_code 4 (some .int) 2 vI [.ref (xa X q), .int p1] σ (f_Hub_deadlineOf q p1 σ) := by
  refine CT_of (by decide +kernel) (Nat.le_of_ble_eq_true rfl) ?_
  intro p e s m args below meth c F hlk hr
  have F : FR p s m args c prog_4_method_31_code 4 "SensorHub$Hub" X := F
  show G X p l e (rmD 2) s m args below meth c 4 0 0 (QI X below args s vI) 0 [(0, .ref (xa X q)), (1, .int p1)] [] σ _
  unfold f_Hub_deadlineOf
  refine g_aload_n F d_Hub_deadlineOf_0 0 rfl ?_
  refine g_aload_n F d_Hub_deadlineOf_1 0 rfl ?_
  refine g_getR F fs_2_37 hq.1 rfl d_Hub_deadlineOf_2 ?_
  refine g_iload_n F d_Hub_deadlineOf_5 1 rfl ?_
  refine g_iconst F (v := 0) d_Hub_deadlineOf_6 (by decide) ?_
  refine g_callV F (dp := 1) (ci := 5) (As := [.int p1, .int (0 : Int32)]) (c_Sto_part l _ _ _ hq.2.2.2.2.2.1 _) cv_2_271 hq.2.2.2.2.2.1.1 rfl rfl rfl (Nat.le_of_ble_eq_true rfl) ⟨Nat.le_of_ble_eq_true rfl, Nat.le_of_ble_eq_true rfl⟩ ⟨Nat.zero_le _, Nat.zero_le _⟩ d_Hub_deadlineOf_7 (fun r1 σ2 h1 => ?_)
  refine g_callV F (dp := 0) (ci := 2) (As := [.int r1]) (c_Hub_clientAt l _ _ hq _) cv_2_130 hq.1 rfl rfl rfl (Nat.le_of_ble_eq_true rfl) ⟨Nat.le_of_ble_eq_true rfl, Nat.le_of_ble_eq_true rfl⟩ ⟨Nat.zero_le _, Nat.zero_le _⟩ d_Hub_deadlineOf_10 (fun r3 σ4 h2 => ?_)
  refine g_oe (fun h3 => ?_) (fun o5 h4 => ?_)
  · refine g_astore_nN F (ls' := [(2, .null), (0, .ref (xa X q)), (1, .int p1)]) d_Hub_deadlineOf_13 (by decide) rfl ?_
    refine g_aload_nN F d_Hub_deadlineOf_14 0 rfl ?_
    refine g_ifnonnullN F d_Hub_deadlineOf_15 ?_
    refine g_iconst F (v := 0) d_Hub_deadlineOf_18 (by decide) ?_
    refine g_goto F (tgt := 26) d_Hub_deadlineOf_19 (by decide) ?_
    refine g_istore_n F (ls' := [(3, .int (0 : Int32)), (2, .null), (0, .ref (xa X q)), (1, .int p1)]) d_Hub_deadlineOf_26 (by decide) rfl ?_
    refine g_aload_n F d_Hub_deadlineOf_27 2 rfl ?_
    refine g_getR F fs_2_37 hq.1 rfl d_Hub_deadlineOf_28 ?_
    refine g_iload_n F d_Hub_deadlineOf_31 3 rfl ?_
    refine g_iconst F (v := 1) d_Hub_deadlineOf_32 (by decide) ?_
    refine g_callV F (dp := 1) (ci := 5) (As := [.int p1, .int (1 : Int32)]) (c_Sto_part l _ _ _ hq.2.2.2.2.2.1 _) cv_2_271 hq.2.2.2.2.2.1.1 rfl rfl rfl (Nat.le_of_ble_eq_true rfl) ⟨Nat.le_of_ble_eq_true rfl, Nat.le_of_ble_eq_true rfl⟩ ⟨Nat.zero_le _, Nat.zero_le _⟩ d_Hub_deadlineOf_33 (fun r6 σ7 h6 => ?_)
    refine g_iload_n F d_Hub_deadlineOf_36 0 rfl ?_
    refine g_iadd F d_Hub_deadlineOf_37 ?_
    exact g_iret F hlk hr d_Hub_deadlineOf_38
  have h5 : ClientOK X o5 := ok_Hub_clientAt hq (h4 ▸ h2)
  refine g_astore_n F (ls' := [(2, .ref (xa X o5)), (0, .ref (xa X q)), (1, .int p1)]) d_Hub_deadlineOf_13 (by decide) rfl ?_
  refine g_aload_n F d_Hub_deadlineOf_14 0 rfl ?_
  refine g_ifnonnull F (tgt := 22) d_Hub_deadlineOf_15 (by decide) ?_
  refine g_aload_n F d_Hub_deadlineOf_22 0 rfl ?_
  refine g_getI F fs_2_277 h5.1 rfl d_Hub_deadlineOf_23 ?_
  refine g_ltI (fun v8 _ => ?_)
  refine g_istore_n F (ls' := [(3, .int v8), (2, .ref (xa X o5)), (0, .ref (xa X q)), (1, .int p1)]) d_Hub_deadlineOf_26 (by decide) rfl ?_
  refine g_aload_n F d_Hub_deadlineOf_27 2 rfl ?_
  refine g_getR F fs_2_37 hq.1 rfl d_Hub_deadlineOf_28 ?_
  refine g_iload_n F d_Hub_deadlineOf_31 3 rfl ?_
  refine g_iconst F (v := 1) d_Hub_deadlineOf_32 (by decide) ?_
  refine g_callV F (dp := 1) (ci := 5) (As := [.int p1, .int (1 : Int32)]) (c_Sto_part l _ _ _ hq.2.2.2.2.2.1 _) cv_2_271 hq.2.2.2.2.2.1.1 rfl rfl rfl (Nat.le_of_ble_eq_true rfl) ⟨Nat.le_of_ble_eq_true rfl, Nat.le_of_ble_eq_true rfl⟩ ⟨Nat.zero_le _, Nat.zero_le _⟩ d_Hub_deadlineOf_33 (fun r9 σ10 h7 => ?_)
  refine g_iload_n F d_Hub_deadlineOf_36 0 rfl ?_
  refine g_iadd F d_Hub_deadlineOf_37 ?_
  exact g_iret F hlk hr d_Hub_deadlineOf_38
def y_Hub_wakeIfDue : MethodName := ⟨"SensorHub$Hub", "wakeIfDue", "()V"⟩
theorem d_Hub_wakeIfDue_0 : decode prog_4_method_30_code 0 = .ok (.iconst 0, 1) := by decide +kernel
theorem d_Hub_wakeIfDue_1 : decode prog_4_method_30_code 1 = .ok (.istore_n 1, 1) := by decide +kernel
theorem d_Hub_wakeIfDue_2 : decode prog_4_method_30_code 2 = .ok (.iload_n 1, 1) := by decide +kernel
theorem d_Hub_wakeIfDue_3 : decode prog_4_method_30_code 3 = .ok (.aload_n 0, 1) := by decide +kernel
theorem d_Hub_wakeIfDue_4 : decode prog_4_method_30_code 4 = .ok (.getfield 37, 3) := by decide +kernel
theorem d_Hub_wakeIfDue_7 : decode prog_4_method_30_code 7 = .ok (.getfield 65, 3) := by decide +kernel
theorem d_Hub_wakeIfDue_10 : decode prog_4_method_30_code 10 = .ok (.if_icmp .ge 56, 3) := by decide +kernel
theorem d_Hub_wakeIfDue_13 : decode prog_4_method_30_code 13 = .ok (.aload_n 0, 1) := by decide +kernel
theorem d_Hub_wakeIfDue_14 : decode prog_4_method_30_code 14 = .ok (.iload_n 1, 1) := by decide +kernel
theorem d_Hub_wakeIfDue_15 : decode prog_4_method_30_code 15 = .ok (.invokevirtual 268, 3) := by decide +kernel
theorem d_Hub_wakeIfDue_18 : decode prog_4_method_30_code 18 = .ok (.aload_n 0, 1) := by decide +kernel
theorem d_Hub_wakeIfDue_19 : decode prog_4_method_30_code 19 = .ok (.getfield 46, 3) := by decide +kernel
theorem d_Hub_wakeIfDue_22 : decode prog_4_method_30_code 22 = .ok (.if_icmp .gt 38, 3) := by decide +kernel
theorem d_Hub_wakeIfDue_25 : decode prog_4_method_30_code 25 = .ok (.aload_n 0, 1) := by decide +kernel
theorem d_Hub_wakeIfDue_26 : decode prog_4_method_30_code 26 = .ok (.aload_n 0, 1) := by decide +kernel
theorem d_Hub_wakeIfDue_27 : decode prog_4_method_30_code 27 = .ok (.getfield 37, 3) := by decide +kernel
theorem d_Hub_wakeIfDue_30 : decode prog_4_method_30_code 30 = .ok (.iload_n 1, 1) := by decide +kernel
theorem d_Hub_wakeIfDue_31 : decode prog_4_method_30_code 31 = .ok (.iconst 0, 1) := by decide +kernel
theorem d_Hub_wakeIfDue_32 : decode prog_4_method_30_code 32 = .ok (.invokevirtual 271, 3) := by decide +kernel
theorem d_Hub_wakeIfDue_35 : decode prog_4_method_30_code 35 = .ok (.invokevirtual 130, 3) := by decide +kernel
theorem d_Hub_wakeIfDue_38 : decode prog_4_method_30_code 38 = .ok (.astore_n 2, 1) := by decide +kernel
theorem d_Hub_wakeIfDue_39 : decode prog_4_method_30_code 39 = .ok (.aload_n 2, 1) := by decide +kernel
theorem d_Hub_wakeIfDue_40 : decode prog_4_method_30_code 40 = .ok (.ifnull 13, 3) := by decide +kernel
theorem d_Hub_wakeIfDue_43 : decode prog_4_method_30_code 43 = .ok (.aload_n 2, 1) := by decide +kernel
theorem d_Hub_wakeIfDue_44 : decode prog_4_method_30_code 44 = .ok (.dup, 1) := by decide +kernel
theorem d_Hub_wakeIfDue_45 : decode prog_4_method_30_code 45 = .ok (.getfield 274, 3) := by decide +kernel
theorem d_Hub_wakeIfDue_48 : decode prog_4_method_30_code 48 = .ok (.iconst 1, 1) := by decide +kernel
theorem d_Hub_wakeIfDue_49 : decode prog_4_method_30_code 49 = .ok (.iadd, 1) := by decide +kernel
theorem d_Hub_wakeIfDue_50 : decode prog_4_method_30_code 50 = .ok (.putfield 274, 3) := by decide +kernel
theorem d_Hub_wakeIfDue_53 : decode prog_4_method_30_code 53 = .ok (.aload_n 0, 1) := by decide +kernel
theorem d_Hub_wakeIfDue_54 : decode prog_4_method_30_code 54 = .ok (.iconst 0, 1) := by decide +kernel
theorem d_Hub_wakeIfDue_55 : decode prog_4_method_30_code 55 = .ok (.invokevirtual 262, 3) := by decide +kernel
theorem d_Hub_wakeIfDue_58 : decode prog_4_method_30_code 58 = .ok (.pop, 1) := by decide +kernel
theorem d_Hub_wakeIfDue_59 : decode prog_4_method_30_code 59 = .ok (.return_, 1) := by decide +kernel
theorem d_Hub_wakeIfDue_60 : decode prog_4_method_30_code 60 = .ok (.iinc 1 1, 3) := by decide +kernel
theorem d_Hub_wakeIfDue_63 : decode prog_4_method_30_code 63 = .ok (.goto (-61), 3) := by decide +kernel
theorem d_Hub_wakeIfDue_66 : decode prog_4_method_30_code 66 = .ok (.return_, 1) := by decide +kernel
theorem cv_2_268 : CSV "SensorHub$Hub" 268 y_Hub_deadlineOf prog_4_method_31_code 4 (some .int) 1 := ⟨gw_I 801 (by decide +kernel) rfl, gw_I 803 (by decide +kernel) rfl, gw_I 24 (by decide +kernel) rfl, gw_I 71 (by decide +kernel) rfl, gw_I 804 (by decide +kernel) rfl, ⟨by decide +kernel, by decide +kernel⟩, by decide +kernel⟩
theorem fs_2_274 : FS "SensorHub$Hub" 274 0 9 := ⟨"SensorHub$Client", T_0, 11, rfl, by decide, rfl, gw_I 250 (by decide +kernel) rfl⟩
theorem fw_2_274 : FW "SensorHub$Hub" 274 0 9 .int := ⟨"SensorHub$Client", T_0, 11, rfl, by decide, rfl, gw_I 250 (by decide +kernel) rfl, rfl, by decide +kernel⟩
def L_Hub_wakeIfDue_2 (r0 : Nat) (k : Mem → Option (Unit × Mem)) : Nat → Int32 → Mem → Option (Unit × Mem)
  | 0, _, _ => none
  | n + 1, x1, σ =>
    if (σ (r0 + 8) 0) ≤ x1 then
      k σ
    else
      bd (f_Hub_deadlineOf r0 x1 σ) fun r1 σ2 =>
      if (σ2 r0 0) < r1 then
        L_Hub_wakeIfDue_2 r0 k n (x1 + 1) σ2
      else
        bd (f_Sto_part (r0 + 8) x1 (0 : Int32) σ2) fun r3 σ4 =>
        bd (f_Hub_clientAt r0 r3 σ4) fun r5 σ6 =>
        oe r5 (
          bd (f_Hub_wake r0 (0 : Int32) σ6) fun r8 σ9 =>
          some ((), σ9)
        ) (fun o7 =>
          lt (wr σ6 o7 9 ((σ6 o7 9) + (1 : Int32))) fun σ10 =>
          bd (f_Hub_wake r0 (0 : Int32) σ10) fun r11 σ12 =>
          some ((), σ12)
        )
def f_Hub_wakeIfDue (q : Nat) (σ : Mem) : Option (Unit × Mem) :=
  L_Hub_wakeIfDue_2 q (fun σ13 =>
    some ((), σ13)) FU (0 : Int32) σ
set_option maxRecDepth 100000 in
set_option maxHeartbeats 4000000 in
theorem l_L_Hub_wakeIfDue_2 {X : CX} {p : Program} {l : Launch} {e : Env} {s : State} {m : MethodId} {args : Array Value} {below : List Frame} {meth : Method} {c : Code} (F : FR p s m args c prog_4_method_30_code 3 "SensorHub$Hub" X) (hlk : meth.locks = false) (hr : meth.sig.returnType = none) (r0 : Nat) (hr0 : HubOK X r0) (k : Mem → Option (Unit × Mem)) (hk : ∀  (σ : Mem), G X p l e (rmD 3) s m args below meth c 3 0 0 (QI X below args s vU) 66 [] [] σ (k σ)) : ∀ (n : Nat) (x1 : Int32) (σ : Mem), G X p l e (rmD 3) s m args below meth c 3 0 0 (QI X below args s vU) 2 [(0, .ref (xa X r0)), (1, .int x1)] [] σ (L_Hub_wakeIfDue_2 r0 k n x1 σ) := by
  intro n
  induction n with
  | zero => intros; exact g_no
  | succ n ih =>
    intro x1 σ
    unfold L_Hub_wakeIfDue_2
    refine g_iload_n F d_Hub_wakeIfDue_2 1 rfl ?_
    refine g_aload_n F d_Hub_wakeIfDue_3 0 rfl ?_
    refine g_getR F fs_2_37 hr0.1 rfl d_Hub_wakeIfDue_4 ?_
    refine g_getI F fs_2_65 hr0.2.2.2.2.2.1.1 rfl d_Hub_wakeIfDue_7 ?_
    refine g_icmp_ge F (tgt := 66) d_Hub_wakeIfDue_10 (by decide) (fun h1 => ?_) (fun h2 => ?_)
    · exact g_sub [] rfl (hk  _)
    refine g_aload_n F d_Hub_wakeIfDue_13 0 rfl ?_
    refine g_iload_n F d_Hub_wakeIfDue_14 1 rfl ?_
    refine g_callV F (dp := 2) (ci := 2) (As := [.int x1]) (c_Hub_deadlineOf l _ _ hr0 _) cv_2_268 hr0.1 rfl rfl rfl (Nat.le_of_ble_eq_true rfl) ⟨Nat.le_of_ble_eq_true rfl, Nat.le_of_ble_eq_true rfl⟩ ⟨Nat.zero_le _, Nat.zero_le _⟩ d_Hub_wakeIfDue_15 (fun r1 σ2 h3 => ?_)
    refine g_aload_n F d_Hub_wakeIfDue_18 0 rfl ?_
    refine g_getI F fs_2_46 hr0.1 rfl d_Hub_wakeIfDue_19 ?_
    refine g_icmp_gt F (tgt := 60) d_Hub_wakeIfDue_22 (by decide) (fun h4 => ?_) (fun h5 => ?_)
    · refine g_iinc F (v := 1) (ls' := [(1, .int (x1 + 1)), (0, .ref (xa X r0))]) d_Hub_wakeIfDue_60 1 rfl (by decide) (by decide) rfl ?_
      refine g_goto F (tgt := 2) d_Hub_wakeIfDue_63 (by decide) ?_
      exact g_sub [1, 0] rfl (ih _ _)
    refine g_aload_n F d_Hub_wakeIfDue_25 0 rfl ?_
    refine g_aload_n F d_Hub_wakeIfDue_26 0 rfl ?_
    refine g_getR F fs_2_37 hr0.1 rfl d_Hub_wakeIfDue_27 ?_
    refine g_iload_n F d_Hub_wakeIfDue_30 1 rfl ?_
    refine g_iconst F (v := 0) d_Hub_wakeIfDue_31 (by decide) ?_
    refine g_callV F (dp := 1) (ci := 5) (As := [.int x1, .int (0 : Int32)]) (c_Sto_part l _ _ _ hr0.2.2.2.2.2.1 _) cv_2_271 hr0.2.2.2.2.2.1.1 rfl rfl rfl (Nat.le_of_ble_eq_true rfl) ⟨Nat.le_of_ble_eq_true rfl, Nat.le_of_ble_eq_true rfl⟩ ⟨Nat.zero_le _, Nat.zero_le _⟩ d_Hub_wakeIfDue_32 (fun r3 σ4 h6 => ?_)
    refine g_callV F (dp := 0) (ci := 2) (As := [.int r3]) (c_Hub_clientAt l _ _ hr0 _) cv_2_130 hr0.1 rfl rfl rfl (Nat.le_of_ble_eq_true rfl) ⟨Nat.le_of_ble_eq_true rfl, Nat.le_of_ble_eq_true rfl⟩ ⟨Nat.zero_le _, Nat.zero_le _⟩ d_Hub_wakeIfDue_35 (fun r5 σ6 h7 => ?_)
    refine g_oe (fun h8 => ?_) (fun o7 h9 => ?_)
    · refine g_astore_nN F (ls' := [(2, .null), (0, .ref (xa X r0)), (1, .int x1)]) d_Hub_wakeIfDue_38 (by decide) rfl ?_
      refine g_aload_nN F d_Hub_wakeIfDue_39 0 rfl ?_
      refine g_ifnullN F (tgt := 53) d_Hub_wakeIfDue_40 (by decide) ?_
      refine g_aload_n F d_Hub_wakeIfDue_53 1 rfl ?_
      refine g_iconst F (v := 0) d_Hub_wakeIfDue_54 (by decide) ?_
      refine g_callV F (dp := 2) (ci := 2) (As := [.int (0 : Int32)]) (c_Hub_wake l _ _ hr0 _) cv_2_262 hr0.1 rfl rfl rfl (Nat.le_of_ble_eq_true rfl) ⟨Nat.le_of_ble_eq_true rfl, Nat.le_of_ble_eq_true rfl⟩ ⟨Nat.zero_le _, Nat.zero_le _⟩ d_Hub_wakeIfDue_55 (fun r8 σ9 h11 => ?_)
      refine g_pop F d_Hub_wakeIfDue_58 rfl ?_
      exact g_vret F hlk hr d_Hub_wakeIfDue_59
    have h10 : ClientOK X o7 := ok_Hub_clientAt hr0 (h9 ▸ h7)
    refine g_astore_n F (ls' := [(2, .ref (xa X o7)), (0, .ref (xa X r0)), (1, .int x1)]) d_Hub_wakeIfDue_38 (by decide) rfl ?_
    refine g_aload_n F d_Hub_wakeIfDue_39 0 rfl ?_
    refine g_ifnull F d_Hub_wakeIfDue_40 ?_
    refine g_aload_n F d_Hub_wakeIfDue_43 0 rfl ?_
    refine g_dup F d_Hub_wakeIfDue_44 rfl ?_
    refine g_getI F fs_2_274 h10.1 rfl d_Hub_wakeIfDue_45 ?_
    refine g_iconst F (v := 1) d_Hub_wakeIfDue_48 (by decide) ?_
    refine g_iadd F d_Hub_wakeIfDue_49 ?_
    refine g_putI F fw_2_274 h10.1 rfl d_Hub_wakeIfDue_50 ?_
    refine g_ltM (fun σ10 _ => ?_)
    refine g_aload_n F d_Hub_wakeIfDue_53 1 rfl ?_
    refine g_iconst F (v := 0) d_Hub_wakeIfDue_54 (by decide) ?_
    refine g_callV F (dp := 2) (ci := 2) (As := [.int (0 : Int32)]) (c_Hub_wake l _ _ hr0 _) cv_2_262 hr0.1 rfl rfl rfl (Nat.le_of_ble_eq_true rfl) ⟨Nat.le_of_ble_eq_true rfl, Nat.le_of_ble_eq_true rfl⟩ ⟨Nat.zero_le _, Nat.zero_le _⟩ d_Hub_wakeIfDue_55 (fun r11 σ12 h12 => ?_)
    refine g_pop F d_Hub_wakeIfDue_58 rfl ?_
    exact g_vret F hlk hr d_Hub_wakeIfDue_59
set_option maxRecDepth 100000 in
set_option maxHeartbeats 4000000 in
theorem c_Hub_wakeIfDue {X : CX} (l : Launch) (q : Nat) (hq : HubOK X q) (σ : Mem) : CT X l y_Hub_wakeIfDue prog_4_method_30_code 3 none 3 vU [.ref (xa X q)] σ (f_Hub_wakeIfDue q σ) := by
  refine CT_of (by decide +kernel) (Nat.le_of_ble_eq_true rfl) ?_
  intro p e s m args below meth c F hlk hr
  have F : FR p s m args c prog_4_method_30_code 3 "SensorHub$Hub" X := F
  show G X p l e (rmD 3) s m args below meth c 3 0 0 (QI X below args s vU) 0 [(0, .ref (xa X q))] [] σ _
  unfold f_Hub_wakeIfDue
  refine g_iconst F (v := 0) d_Hub_wakeIfDue_0 (by decide) ?_
  refine g_istore_n F (ls' := [(1, .int (0 : Int32)), (0, .ref (xa X q))]) d_Hub_wakeIfDue_1 (by decide) rfl ?_
  refine g_sub [1, 0] rfl (l_L_Hub_wakeIfDue_2 F hlk hr _ hq _ (fun σ13 => ?_) FU _ _)
  exact g_vret F hlk hr d_Hub_wakeIfDue_66
def y_Hub_runTicks : MethodName := ⟨"SensorHub$Hub", "runTicks", "(I)V"⟩
theorem d_Hub_runTicks_0 : decode prog_4_method_23_code 0 = .ok (.aload_n 0, 1) := by decide +kernel
theorem d_Hub_runTicks_1 : decode prog_4_method_23_code 1 = .ok (.iconst 0, 1) := by decide +kernel
theorem d_Hub_runTicks_2 : decode prog_4_method_23_code 2 = .ok (.putfield 192, 3) := by decide +kernel
theorem d_Hub_runTicks_5 : decode prog_4_method_23_code 5 = .ok (.iconst 0, 1) := by decide +kernel
theorem d_Hub_runTicks_6 : decode prog_4_method_23_code 6 = .ok (.istore_n 2, 1) := by decide +kernel
theorem d_Hub_runTicks_7 : decode prog_4_method_23_code 7 = .ok (.iload_n 2, 1) := by decide +kernel
theorem d_Hub_runTicks_8 : decode prog_4_method_23_code 8 = .ok (.iload_n 1, 1) := by decide +kernel
theorem d_Hub_runTicks_9 : decode prog_4_method_23_code 9 = .ok (.if_icmp .ge 31, 3) := by decide +kernel
theorem d_Hub_runTicks_12 : decode prog_4_method_23_code 12 = .ok (.aload_n 0, 1) := by decide +kernel
theorem d_Hub_runTicks_13 : decode prog_4_method_23_code 13 = .ok (.dup, 1) := by decide +kernel
theorem d_Hub_runTicks_14 : decode prog_4_method_23_code 14 = .ok (.getfield 46, 3) := by decide +kernel
theorem d_Hub_runTicks_17 : decode prog_4_method_23_code 17 = .ok (.iconst 1, 1) := by decide +kernel
theorem d_Hub_runTicks_18 : decode prog_4_method_23_code 18 = .ok (.iadd, 1) := by decide +kernel
theorem d_Hub_runTicks_19 : decode prog_4_method_23_code 19 = .ok (.putfield 46, 3) := by decide +kernel
theorem d_Hub_runTicks_22 : decode prog_4_method_23_code 22 = .ok (.aload_n 0, 1) := by decide +kernel
theorem d_Hub_runTicks_23 : decode prog_4_method_23_code 23 = .ok (.invokevirtual 195, 3) := by decide +kernel
theorem d_Hub_runTicks_26 : decode prog_4_method_23_code 26 = .ok (.aload_n 0, 1) := by decide +kernel
theorem d_Hub_runTicks_27 : decode prog_4_method_23_code 27 = .ok (.invokevirtual 198, 3) := by decide +kernel
theorem d_Hub_runTicks_30 : decode prog_4_method_23_code 30 = .ok (.aload_n 0, 1) := by decide +kernel
theorem d_Hub_runTicks_31 : decode prog_4_method_23_code 31 = .ok (.invokevirtual 201, 3) := by decide +kernel
theorem d_Hub_runTicks_34 : decode prog_4_method_23_code 34 = .ok (.iinc 2 1, 3) := by decide +kernel
theorem d_Hub_runTicks_37 : decode prog_4_method_23_code 37 = .ok (.goto (-30), 3) := by decide +kernel
theorem d_Hub_runTicks_40 : decode prog_4_method_23_code 40 = .ok (.return_, 1) := by decide +kernel
theorem cv_2_195 : CSV "SensorHub$Hub" 195 y_Hub_receiveSamples prog_4_method_24_code 3 none 0 := ⟨gw_I 735 (by decide +kernel) rfl, gw_I 737 (by decide +kernel) rfl, gw_I 17 (by decide +kernel) rfl, gw_I 71 (by decide +kernel) rfl, gw_I 738 (by decide +kernel) rfl, ⟨by decide +kernel, by decide +kernel⟩, by decide +kernel⟩
theorem cv_2_198 : CSV "SensorHub$Hub" 198 y_Hub_storeEntries prog_4_method_28_code 4 none 0 := ⟨gw_I 779 (by decide +kernel) rfl, gw_I 781 (by decide +kernel) rfl, gw_I 21 (by decide +kernel) rfl, gw_I 71 (by decide +kernel) rfl, gw_I 782 (by decide +kernel) rfl, ⟨by decide +kernel, by decide +kernel⟩, by decide +kernel⟩
theorem cv_2_201 : CSV "SensorHub$Hub" 201 y_Hub_wakeIfDue prog_4_method_30_code 3 none 0 := ⟨gw_I 797 (by decide +kernel) rfl, gw_I 799 (by decide +kernel) rfl, gw_I 23 (by decide +kernel) rfl, gw_I 71 (by decide +kernel) rfl, gw_I 800 (by decide +kernel) rfl, ⟨by decide +kernel, by decide +kernel⟩, by decide +kernel⟩
def L_Hub_runTicks_7 (r0 : Nat) (y1 : Int32) (k : Mem → Option (Unit × Mem)) : Nat → Int32 → Mem → Option (Unit × Mem)
  | 0, _, _ => none
  | n + 1, x2, σ =>
    if y1 ≤ x2 then
      k σ
    else
      lt (wr σ r0 0 ((σ r0 0) + (1 : Int32))) fun σ2 =>
      bd (f_Hub_receiveSamples r0 σ2) fun _ σ4 =>
      bd (f_Hub_storeEntries r0 σ4) fun _ σ6 =>
      bd (f_Hub_wakeIfDue r0 σ6) fun _ σ8 =>
      L_Hub_runTicks_7 r0 y1 k n (x2 + 1) σ8
def f_Hub_runTicks (q : Nat) (p1 : Int32) (σ : Mem) : Option (Unit × Mem) :=
  lt (wr σ q 5 (0 : Int32)) fun σ1 =>
  L_Hub_runTicks_7 q p1 (fun σ9 =>
    some ((), σ9)) FU (0 : Int32) σ1
set_option maxRecDepth 100000 in
set_option maxHeartbeats 4000000 in
theorem l_L_Hub_runTicks_7 {X : CX} {p : Program} {l : Launch} {e : Env} {s : State} {m : MethodId} {args : Array Value} {below : List Frame} {meth : Method} {c : Code} (F : FR p s m args c prog_4_method_23_code 3 "SensorHub$Hub" X) (hlk : meth.locks = false) (hr : meth.sig.returnType = none) (r0 : Nat) (y1 : Int32) (hr0 : HubOK X r0) (k : Mem → Option (Unit × Mem)) (hk : ∀  (σ : Mem), G X p l e (rmD 5) s m args below meth c 3 0 0 (QI X below args s vU) 40 [] [] σ (k σ)) : ∀ (n : Nat) (x2 : Int32) (σ : Mem), G X p l e (rmD 5) s m args below meth c 3 0 0 (QI X below args s vU) 7 [(0, .ref (xa X r0)), (1, .int y1), (2, .int x2)] [] σ (L_Hub_runTicks_7 r0 y1 k n x2 σ) := by
  intro n
  induction n with
  | zero => intros; exact g_no
  | succ n ih =>
    intro x2 σ
    unfold L_Hub_runTicks_7
    refine g_iload_n F d_Hub_runTicks_7 2 rfl ?_
    refine g_iload_n F d_Hub_runTicks_8 1 rfl ?_
    refine g_icmp_ge F (tgt := 40) d_Hub_runTicks_9 (by decide) (fun h1 => ?_) (fun h2 => ?_)
    · exact g_sub [] rfl (hk  _)
    refine g_aload_n F d_Hub_runTicks_12 0 rfl ?_
    refine g_dup F d_Hub_runTicks_13 rfl ?_
    refine g_getI F fs_2_46 hr0.1 rfl d_Hub_runTicks_14 ?_
    refine g_iconst F (v := 1) d_Hub_runTicks_17 (by decide) ?_
    refine g_iadd F d_Hub_runTicks_18 ?_
    refine g_putI F fw_2_46 hr0.1 rfl d_Hub_runTicks_19 ?_
    refine g_ltM (fun σ2 _ => ?_)
    refine g_aload_n F d_Hub_runTicks_22 0 rfl ?_
    refine g_callV F (dp := 4) (ci := 2) (As := []) (c_Hub_receiveSamples l _ hr0 _) cv_2_195 hr0.1 rfl rfl rfl (Nat.le_of_ble_eq_true rfl) ⟨Nat.le_of_ble_eq_true rfl, Nat.le_of_ble_eq_true rfl⟩ ⟨Nat.zero_le _, Nat.zero_le _⟩ d_Hub_runTicks_23 (fun _ σ4 h3 => ?_)
    refine g_aload_n F d_Hub_runTicks_26 0 rfl ?_
    refine g_callV F (dp := 4) (ci := 2) (As := []) (c_Hub_storeEntries l _ hr0 _) cv_2_198 hr0.1 rfl rfl rfl (Nat.le_of_ble_eq_true rfl) ⟨Nat.le_of_ble_eq_true rfl, Nat.le_of_ble_eq_true rfl⟩ ⟨Nat.zero_le _, Nat.zero_le _⟩ d_Hub_runTicks_27 (fun _ σ6 h4 => ?_)
    refine g_aload_n F d_Hub_runTicks_30 0 rfl ?_
    refine g_callV F (dp := 3) (ci := 2) (As := []) (c_Hub_wakeIfDue l _ hr0 _) cv_2_201 hr0.1 rfl rfl rfl (Nat.le_of_ble_eq_true rfl) ⟨Nat.le_of_ble_eq_true rfl, Nat.le_of_ble_eq_true rfl⟩ ⟨Nat.zero_le _, Nat.zero_le _⟩ d_Hub_runTicks_31 (fun _ σ8 h5 => ?_)
    refine g_iinc F (v := 1) (ls' := [(2, .int (x2 + 1)), (0, .ref (xa X r0)), (1, .int y1)]) d_Hub_runTicks_34 2 rfl (by decide) (by decide) rfl ?_
    refine g_goto F (tgt := 7) d_Hub_runTicks_37 (by decide) ?_
    exact g_sub [1, 2, 0] rfl (ih _ _)
set_option maxRecDepth 100000 in
set_option maxHeartbeats 4000000 in
theorem c_Hub_runTicks {X : CX} (l : Launch) (q : Nat) (p1 : Int32) (hq : HubOK X q) (σ : Mem) : CT X l y_Hub_runTicks prog_4_method_23_code 3 none 5 vU [.ref (xa X q), .int p1] σ (f_Hub_runTicks q p1 σ) := by
  refine CT_of (by decide +kernel) (Nat.le_of_ble_eq_true rfl) ?_
  intro p e s m args below meth c F hlk hr
  have F : FR p s m args c prog_4_method_23_code 3 "SensorHub$Hub" X := F
  show G X p l e (rmD 5) s m args below meth c 3 0 0 (QI X below args s vU) 0 [(0, .ref (xa X q)), (1, .int p1)] [] σ _
  unfold f_Hub_runTicks
  refine g_aload_n F d_Hub_runTicks_0 0 rfl ?_
  refine g_iconst F (v := 0) d_Hub_runTicks_1 (by decide) ?_
  refine g_putI F fw_2_192 hq.1 rfl d_Hub_runTicks_2 ?_
  refine g_ltM (fun σ1 _ => ?_)
  refine g_iconst F (v := 0) d_Hub_runTicks_5 (by decide) ?_
  refine g_istore_n F (ls' := [(2, .int (0 : Int32)), (0, .ref (xa X q)), (1, .int p1)]) d_Hub_runTicks_6 (by decide) rfl ?_
  refine g_sub [1, 2, 0] rfl (l_L_Hub_runTicks_7 F hlk hr _ _ hq _ (fun σ9 => ?_) FU _ _)
  exact g_vret F hlk hr d_Hub_runTicks_40
def y_Hub_earliestDeadline : MethodName := ⟨"SensorHub$Hub", "earliestDeadline", "()I"⟩
theorem d_Hub_earliestDeadline_0 : decode prog_4_method_32_code 0 = .ok (.aload_n 0, 1) := by decide +kernel
theorem d_Hub_earliestDeadline_1 : decode prog_4_method_32_code 1 = .ok (.getfield 37, 3) := by decide +kernel
theorem d_Hub_earliestDeadline_4 : decode prog_4_method_32_code 4 = .ok (.getfield 65, 3) := by decide +kernel
theorem d_Hub_earliestDeadline_7 : decode prog_4_method_32_code 7 = .ok (.ifCond .ne 6, 3) := by decide +kernel
theorem d_Hub_earliestDeadline_10 : decode prog_4_method_32_code 10 = .ok (.bipush (-9), 2) := by decide +kernel
theorem d_Hub_earliestDeadline_12 : decode prog_4_method_32_code 12 = .ok (.ireturn, 1) := by decide +kernel
theorem d_Hub_earliestDeadline_13 : decode prog_4_method_32_code 13 = .ok (.aload_n 0, 1) := by decide +kernel
theorem d_Hub_earliestDeadline_14 : decode prog_4_method_32_code 14 = .ok (.iconst 0, 1) := by decide +kernel
theorem d_Hub_earliestDeadline_15 : decode prog_4_method_32_code 15 = .ok (.invokevirtual 268, 3) := by decide +kernel
theorem d_Hub_earliestDeadline_18 : decode prog_4_method_32_code 18 = .ok (.istore_n 1, 1) := by decide +kernel
theorem d_Hub_earliestDeadline_19 : decode prog_4_method_32_code 19 = .ok (.iconst 1, 1) := by decide +kernel
theorem d_Hub_earliestDeadline_20 : decode prog_4_method_32_code 20 = .ok (.istore_n 2, 1) := by decide +kernel
theorem d_Hub_earliestDeadline_21 : decode prog_4_method_32_code 21 = .ok (.iload_n 2, 1) := by decide +kernel
theorem d_Hub_earliestDeadline_22 : decode prog_4_method_32_code 22 = .ok (.aload_n 0, 1) := by decide +kernel
theorem d_Hub_earliestDeadline_23 : decode prog_4_method_32_code 23 = .ok (.getfield 37, 3) := by decide +kernel
theorem d_Hub_earliestDeadline_26 : decode prog_4_method_32_code 26 = .ok (.getfield 65, 3) := by decide +kernel
theorem d_Hub_earliestDeadline_29 : decode prog_4_method_32_code 29 = .ok (.if_icmp .ge 19, 3) := by decide +kernel
theorem d_Hub_earliestDeadline_32 : decode prog_4_method_32_code 32 = .ok (.iload_n 1, 1) := by decide +kernel
theorem d_Hub_earliestDeadline_33 : decode prog_4_method_32_code 33 = .ok (.aload_n 0, 1) := by decide +kernel
theorem d_Hub_earliestDeadline_34 : decode prog_4_method_32_code 34 = .ok (.iload_n 2, 1) := by decide +kernel
theorem d_Hub_earliestDeadline_35 : decode prog_4_method_32_code 35 = .ok (.invokevirtual 268, 3) := by decide +kernel
theorem d_Hub_earliestDeadline_38 : decode prog_4_method_32_code 38 = .ok (.invokestatic 280, 3) := by decide +kernel
theorem d_Hub_earliestDeadline_41 : decode prog_4_method_32_code 41 = .ok (.istore_n 1, 1) := by decide +kernel
theorem d_Hub_earliestDeadline_42 : decode prog_4_method_32_code 42 = .ok (.iinc 2 1, 3) := by decide +kernel
theorem d_Hub_earliestDeadline_45 : decode prog_4_method_32_code 45 = .ok (.goto (-24), 3) := by decide +kernel
theorem d_Hub_earliestDeadline_48 : decode prog_4_method_32_code 48 = .ok (.iload_n 1, 1) := by decide +kernel
theorem d_Hub_earliestDeadline_49 : decode prog_4_method_32_code 49 = .ok (.ireturn, 1) := by decide +kernel
theorem cs_2_280 : CSS "SensorHub$Hub" 280 y_Mat_min prog_11_method_69_code 2 (some .int) 2 := ⟨gw_I 868 (by decide +kernel) rfl, gw_I 398 (by decide +kernel) rfl, gw_I 79 (by decide +kernel) rfl, gw_I 399 (by decide +kernel) rfl, ⟨by decide +kernel, by decide +kernel⟩, by decide +kernel⟩
def L_Hub_earliestDeadline_21 (r0 : Nat) (k : Int32 → Mem → Option (Int32 × Mem)) : Nat → Int32 → Int32 → Mem → Option (Int32 × Mem)
  | 0, _, _, _ => none
  | n + 1, x1, x2, σ =>
    if (σ (r0 + 8) 0) ≤ x2 then
      k x1 σ
    else
      bd (f_Hub_deadlineOf r0 x2 σ) fun r3 σ4 =>
      bd (f_Mat_min x1 r3 σ4) fun r5 σ6 =>
      L_Hub_earliestDeadline_21 r0 k n r5 (x2 + 1) σ6
def f_Hub_earliestDeadline (q : Nat) (σ : Mem) : Option (Int32 × Mem) :=
  if (σ (q + 8) 0) = 0 then
    some ((-9 : Int32), σ)
  else
    bd (f_Hub_deadlineOf q (0 : Int32) σ) fun r1 σ2 =>
    L_Hub_earliestDeadline_21 q (fun z7 σ8 =>
      some (z7, σ8)) FU r1 (1 : Int32) σ2
set_option maxRecDepth 100000 in
set_option maxHeartbeats 4000000 in
theorem l_L_Hub_earliestDeadline_21 {X : CX} {p : Program} {l : Launch} {e : Env} {s : State} {m : MethodId} {args : Array Value} {below : List Frame} {meth : Method} {c : Code} (F : FR p s m args c prog_4_method_32_code 3 "SensorHub$Hub" X) (hlk : meth.locks = false) (hr : meth.sig.returnType = some .int) (r0 : Nat) (hr0 : HubOK X r0) (k : Int32 → Mem → Option (Int32 × Mem)) (hk : ∀ (x1 : Int32) (σ : Mem), G X p l e (rmD 3) s m args below meth c 3 0 0 (QI X below args s vI) 48 [(1, .int x1)] [] σ (k x1 σ)) : ∀ (n : Nat) (x1 : Int32) (x2 : Int32) (σ : Mem), G X p l e (rmD 3) s m args below meth c 3 0 0 (QI X below args s vI) 21 [(0, .ref (xa X r0)), (1, .int x1), (2, .int x2)] [] σ (L_Hub_earliestDeadline_21 r0 k n x1 x2 σ) := by
  intro n
  induction n with
  | zero => intros; exact g_no
  | succ n ih =>
    intro x1 x2 σ
    unfold L_Hub_earliestDeadline_21
    refine g_iload_n F d_Hub_earliestDeadline_21 2 rfl ?_
    refine g_aload_n F d_Hub_earliestDeadline_22 0 rfl ?_
    refine g_getR F fs_2_37 hr0.1 rfl d_Hub_earliestDeadline_23 ?_
    refine g_getI F fs_2_65 hr0.2.2.2.2.2.1.1 rfl d_Hub_earliestDeadline_26 ?_
    refine g_icmp_ge F (tgt := 48) d_Hub_earliestDeadline_29 (by decide) (fun h4 => ?_) (fun h5 => ?_)
    · exact g_sub [1] rfl (hk _ _)
    refine g_iload_n F d_Hub_earliestDeadline_32 1 rfl ?_
    refine g_aload_n F d_Hub_earliestDeadline_33 0 rfl ?_
    refine g_iload_n F d_Hub_earliestDeadline_34 2 rfl ?_
    refine g_callV F (dp := 2) (ci := 2) (As := [.int x2]) (c_Hub_deadlineOf l _ _ hr0 _) cv_2_268 hr0.1 rfl rfl rfl (Nat.le_of_ble_eq_true rfl) ⟨Nat.le_of_ble_eq_true rfl, Nat.le_of_ble_eq_true rfl⟩ ⟨Nat.zero_le _, Nat.zero_le _⟩ d_Hub_earliestDeadline_35 (fun r3 σ4 h6 => ?_)
    refine g_callS F (dp := 0) (As := [.int x1, .int r3]) (c_Mat_min l _ _ _) cs_2_280 rfl rfl (Nat.le_of_ble_eq_true rfl) ⟨Nat.le_of_ble_eq_true rfl, Nat.le_of_ble_eq_true rfl⟩ ⟨Nat.zero_le _, Nat.zero_le _⟩ d_Hub_earliestDeadline_38 (fun r5 σ6 h7 => ?_)
    refine g_istore_n F (ls' := [(1, .int r5), (0, .ref (xa X r0)), (2, .int x2)]) d_Hub_earliestDeadline_41 (by decide) rfl ?_
    refine g_iinc F (v := 1) (ls' := [(2, .int (x2 + 1)), (1, .int r5), (0, .ref (xa X r0))]) d_Hub_earliestDeadline_42 2 rfl (by decide) (by decide) rfl ?_
    refine g_goto F (tgt := 21) d_Hub_earliestDeadline_45 (by decide) ?_
    exact g_sub [2, 1, 0] rfl (ih _ _ _)
set_option maxRecDepth 100000 in
set_option maxHeartbeats 4000000 in
theorem c_Hub_earliestDeadline {X : CX} (l : Launch) (q : Nat) (hq : HubOK X q) (σ : Mem) : CT X l y_Hub_earliestDeadline prog_4_method_32_code 3 (some .int) 3 vI [.ref (xa X q)] σ (f_Hub_earliestDeadline q σ) := by
  refine CT_of (by decide +kernel) (Nat.le_of_ble_eq_true rfl) ?_
  intro p e s m args below meth c F hlk hr
  have F : FR p s m args c prog_4_method_32_code 3 "SensorHub$Hub" X := F
  show G X p l e (rmD 3) s m args below meth c 3 0 0 (QI X below args s vI) 0 [(0, .ref (xa X q))] [] σ _
  unfold f_Hub_earliestDeadline
  refine g_aload_n F d_Hub_earliestDeadline_0 0 rfl ?_
  refine g_getR F fs_2_37 hq.1 rfl d_Hub_earliestDeadline_1 ?_
  refine g_getI F fs_2_65 hq.2.2.2.2.2.1.1 rfl d_Hub_earliestDeadline_4 ?_
  refine g_if_ne F (tgt := 13) d_Hub_earliestDeadline_7 (by decide) (fun h1 => ?_) (fun h2 => ?_)
  · refine g_bipush F (v := (-9)) d_Hub_earliestDeadline_10 (by decide) ?_
    exact g_iret F hlk hr d_Hub_earliestDeadline_12
  refine g_aload_n F d_Hub_earliestDeadline_13 0 rfl ?_
  refine g_iconst F (v := 0) d_Hub_earliestDeadline_14 (by decide) ?_
  refine g_callV F (dp := 2) (ci := 2) (As := [.int (0 : Int32)]) (c_Hub_deadlineOf l _ _ hq _) cv_2_268 hq.1 rfl rfl rfl (Nat.le_of_ble_eq_true rfl) ⟨Nat.le_of_ble_eq_true rfl, Nat.le_of_ble_eq_true rfl⟩ ⟨Nat.zero_le _, Nat.zero_le _⟩ d_Hub_earliestDeadline_15 (fun r1 σ2 h3 => ?_)
  refine g_istore_n F (ls' := [(1, .int r1), (0, .ref (xa X q))]) d_Hub_earliestDeadline_18 (by decide) rfl ?_
  refine g_iconst F (v := 1) d_Hub_earliestDeadline_19 (by decide) ?_
  refine g_istore_n F (ls' := [(2, .int (1 : Int32)), (1, .int r1), (0, .ref (xa X q))]) d_Hub_earliestDeadline_20 (by decide) rfl ?_
  refine g_sub [2, 1, 0] rfl (l_L_Hub_earliestDeadline_21 F hlk hr _ hq _ (fun z7 σ8 => ?_) FU _ _ _)
  refine g_iload_n F d_Hub_earliestDeadline_48 0 rfl ?_
  exact g_iret F hlk hr d_Hub_earliestDeadline_49
def y_Hub_wakesOf : MethodName := ⟨"SensorHub$Hub", "wakesOf", "(I)I"⟩
theorem d_Hub_wakesOf_0 : decode prog_4_method_34_code 0 = .ok (.iload_n 1, 1) := by decide +kernel
theorem d_Hub_wakesOf_1 : decode prog_4_method_34_code 1 = .ok (.iconst 0, 1) := by decide +kernel
theorem d_Hub_wakesOf_2 : decode prog_4_method_34_code 2 = .ok (.iconst 3, 1) := by decide +kernel
theorem d_Hub_wakesOf_3 : decode prog_4_method_34_code 3 = .ok (.invokestatic 97, 3) := by decide +kernel
theorem d_Hub_wakesOf_6 : decode prog_4_method_34_code 6 = .ok (.ifCond .eq 12, 3) := by decide +kernel
theorem d_Hub_wakesOf_9 : decode prog_4_method_34_code 9 = .ok (.aload_n 0, 1) := by decide +kernel
theorem d_Hub_wakesOf_10 : decode prog_4_method_34_code 10 = .ok (.getfield 9, 3) := by decide +kernel
theorem d_Hub_wakesOf_13 : decode prog_4_method_34_code 13 = .ok (.iload_n 1, 1) := by decide +kernel
theorem d_Hub_wakesOf_14 : decode prog_4_method_34_code 14 = .ok (.iaload, 1) := by decide +kernel
theorem d_Hub_wakesOf_15 : decode prog_4_method_34_code 15 = .ok (.goto 4, 3) := by decide +kernel
theorem d_Hub_wakesOf_18 : decode prog_4_method_34_code 18 = .ok (.iconst 0, 1) := by decide +kernel
theorem d_Hub_wakesOf_19 : decode prog_4_method_34_code 19 = .ok (.ireturn, 1) := by decide +kernel
def f_Hub_wakesOf (q : Nat) (p1 : Int32) (σ : Mem) : Option (Int32 × Mem) :=
  bd (f_X_isWithin p1 (0 : Int32) (3 : Int32) σ) fun r1 σ2 =>
  if r1 = 0 then
    some ((0 : Int32), σ2)
  else
    if ib p1 4 then
      some (σ2 (q + 1) p1.toNatClampNeg, σ2)
    else none
set_option maxRecDepth 100000 in
set_option maxHeartbeats 4000000 in
theorem c_Hub_wakesOf {X : CX} (l : Launch) (q : Nat) (p1 : Int32) (hq : HubOK X q) (σ : Mem) : CT X l y_Hub_wakesOf prog_4_method_34_code 2 (some .int) 1 vI [.ref (xa X q), .int p1] σ (f_Hub_wakesOf q p1 σ) := by
  refine CT_of (by decide +kernel) (Nat.le_of_ble_eq_true rfl) ?_
  intro p e s m args below meth c F hlk hr
  have F : FR p s m args c prog_4_method_34_code 2 "SensorHub$Hub" X := F
  show G X p l e (rmD 1) s m args below meth c 2 0 0 (QI X below args s vI) 0 [(0, .ref (xa X q)), (1, .int p1)] [] σ _
  unfold f_Hub_wakesOf
  refine g_iload_n F d_Hub_wakesOf_0 1 rfl ?_
  refine g_iconst F (v := 0) d_Hub_wakesOf_1 (by decide) ?_
  refine g_iconst F (v := 3) d_Hub_wakesOf_2 (by decide) ?_
  refine g_callSN F (dp := 0) (As := [.int p1, .int (0 : Int32), .int (3 : Int32)]) (c_X_isWithin l _ _ _ _) cs_2_97 rfl rfl (Nat.le_of_ble_eq_true rfl) ⟨Nat.le_of_ble_eq_true rfl, Nat.le_of_ble_eq_true rfl⟩ ⟨Nat.zero_le _, Nat.zero_le _⟩ d_Hub_wakesOf_3 (fun r1 σ2 h1 => ?_)
  refine g_if_eq F (tgt := 18) d_Hub_wakesOf_6 (by decide) (fun h2 => ?_) (fun h3 => ?_)
  · refine g_iconst F (v := 0) d_Hub_wakesOf_18 (by decide) ?_
    exact g_iret F hlk hr d_Hub_wakesOf_19
  refine g_aload_n F d_Hub_wakesOf_9 0 rfl ?_
  refine g_getR F fs_2_9 hq.1 rfl d_Hub_wakesOf_10 ?_
  refine g_iload_n F d_Hub_wakesOf_13 1 rfl ?_
  refine g_iald F (n := 4) hq.2.1 d_Hub_wakesOf_14 ?_
  refine g_goto F (tgt := 19) d_Hub_wakesOf_15 (by decide) ?_
  exact g_iret F hlk hr d_Hub_wakesOf_19
def y_Hub_allWakes : MethodName := ⟨"SensorHub$Hub", "allWakes", "()I"⟩
theorem d_Hub_allWakes_0 : decode prog_4_method_35_code 0 = .ok (.iconst 0, 1) := by decide +kernel
theorem d_Hub_allWakes_1 : decode prog_4_method_35_code 1 = .ok (.istore_n 1, 1) := by decide +kernel
theorem d_Hub_allWakes_2 : decode prog_4_method_35_code 2 = .ok (.iconst 0, 1) := by decide +kernel
theorem d_Hub_allWakes_3 : decode prog_4_method_35_code 3 = .ok (.istore_n 2, 1) := by decide +kernel
theorem d_Hub_allWakes_4 : decode prog_4_method_35_code 4 = .ok (.iload_n 2, 1) := by decide +kernel
theorem d_Hub_allWakes_5 : decode prog_4_method_35_code 5 = .ok (.iconst 4, 1) := by decide +kernel
theorem d_Hub_allWakes_6 : decode prog_4_method_35_code 6 = .ok (.if_icmp .ge 18, 3) := by decide +kernel
theorem d_Hub_allWakes_9 : decode prog_4_method_35_code 9 = .ok (.iload_n 1, 1) := by decide +kernel
theorem d_Hub_allWakes_10 : decode prog_4_method_35_code 10 = .ok (.aload_n 0, 1) := by decide +kernel
theorem d_Hub_allWakes_11 : decode prog_4_method_35_code 11 = .ok (.getfield 9, 3) := by decide +kernel
theorem d_Hub_allWakes_14 : decode prog_4_method_35_code 14 = .ok (.iload_n 2, 1) := by decide +kernel
theorem d_Hub_allWakes_15 : decode prog_4_method_35_code 15 = .ok (.iaload, 1) := by decide +kernel
theorem d_Hub_allWakes_16 : decode prog_4_method_35_code 16 = .ok (.iadd, 1) := by decide +kernel
theorem d_Hub_allWakes_17 : decode prog_4_method_35_code 17 = .ok (.istore_n 1, 1) := by decide +kernel
theorem d_Hub_allWakes_18 : decode prog_4_method_35_code 18 = .ok (.iinc 2 1, 3) := by decide +kernel
theorem d_Hub_allWakes_21 : decode prog_4_method_35_code 21 = .ok (.goto (-17), 3) := by decide +kernel
theorem d_Hub_allWakes_24 : decode prog_4_method_35_code 24 = .ok (.iload_n 1, 1) := by decide +kernel
theorem d_Hub_allWakes_25 : decode prog_4_method_35_code 25 = .ok (.ireturn, 1) := by decide +kernel
def L_Hub_allWakes_4 (r0 : Nat) (k : Int32 → Mem → Option (Int32 × Mem)) : Nat → Int32 → Int32 → Mem → Option (Int32 × Mem)
  | 0, _, _, _ => none
  | n + 1, x1, x2, σ =>
    if (4 : Int32) ≤ x2 then
      k x1 σ
    else
      if ib x2 4 then
        lt (x1 + (σ (r0 + 1) x2.toNatClampNeg)) fun v1 =>
        L_Hub_allWakes_4 r0 k n v1 (x2 + 1) σ
      else none
def f_Hub_allWakes (q : Nat) (σ : Mem) : Option (Int32 × Mem) :=
  L_Hub_allWakes_4 q (fun z2 σ3 =>
    some (z2, σ3)) FU (0 : Int32) (0 : Int32) σ
set_option maxRecDepth 100000 in
set_option maxHeartbeats 4000000 in
theorem l_L_Hub_allWakes_4 {X : CX} {p : Program} {l : Launch} {e : Env} {s : State} {m : MethodId} {args : Array Value} {below : List Frame} {meth : Method} {c : Code} (F : FR p s m args c prog_4_method_35_code 3 "SensorHub$Hub" X) (hlk : meth.locks = false) (hr : meth.sig.returnType = some .int) (r0 : Nat) (hr0 : HubOK X r0) (k : Int32 → Mem → Option (Int32 × Mem)) (hk : ∀ (x1 : Int32) (σ : Mem), G X p l e (rmD 0) s m args below meth c 3 0 0 (QI X below args s vI) 24 [(1, .int x1)] [] σ (k x1 σ)) : ∀ (n : Nat) (x1 : Int32) (x2 : Int32) (σ : Mem), G X p l e (rmD 0) s m args below meth c 3 0 0 (QI X below args s vI) 4 [(0, .ref (xa X r0)), (1, .int x1), (2, .int x2)] [] σ (L_Hub_allWakes_4 r0 k n x1 x2 σ) := by
  intro n
  induction n with
  | zero => intros; exact g_no
  | succ n ih =>
    intro x1 x2 σ
    unfold L_Hub_allWakes_4
    refine g_iload_n F d_Hub_allWakes_4 2 rfl ?_
    refine g_iconst F (v := 4) d_Hub_allWakes_5 (by decide) ?_
    refine g_icmp_ge F (tgt := 24) d_Hub_allWakes_6 (by decide) (fun h1 => ?_) (fun h2 => ?_)
    · exact g_sub [1] rfl (hk _ _)
    refine g_iload_n F d_Hub_allWakes_9 1 rfl ?_
    refine g_aload_n F d_Hub_allWakes_10 0 rfl ?_
    refine g_getR F fs_2_9 hr0.1 rfl d_Hub_allWakes_11 ?_
    refine g_iload_n F d_Hub_allWakes_14 2 rfl ?_
    refine g_iald F (n := 4) hr0.2.1 d_Hub_allWakes_15 ?_
    refine g_iadd F d_Hub_allWakes_16 ?_
    refine g_ltI (fun v1 _ => ?_)
    refine g_istore_n F (ls' := [(1, .int v1), (0, .ref (xa X r0)), (2, .int x2)]) d_Hub_allWakes_17 (by decide) rfl ?_
    refine g_iinc F (v := 1) (ls' := [(2, .int (x2 + 1)), (1, .int v1), (0, .ref (xa X r0))]) d_Hub_allWakes_18 2 rfl (by decide) (by decide) rfl ?_
    refine g_goto F (tgt := 4) d_Hub_allWakes_21 (by decide) ?_
    exact g_sub [2, 1, 0] rfl (ih _ _ _)
set_option maxRecDepth 100000 in
set_option maxHeartbeats 4000000 in
theorem c_Hub_allWakes {X : CX} (l : Launch) (q : Nat) (hq : HubOK X q) (σ : Mem) : CT X l y_Hub_allWakes prog_4_method_35_code 3 (some .int) 0 vI [.ref (xa X q)] σ (f_Hub_allWakes q σ) := by
  refine CT_of (by decide +kernel) (Nat.le_of_ble_eq_true rfl) ?_
  intro p e s m args below meth c F hlk hr
  have F : FR p s m args c prog_4_method_35_code 3 "SensorHub$Hub" X := F
  show G X p l e (rmD 0) s m args below meth c 3 0 0 (QI X below args s vI) 0 [(0, .ref (xa X q))] [] σ _
  unfold f_Hub_allWakes
  refine g_iconst F (v := 0) d_Hub_allWakes_0 (by decide) ?_
  refine g_istore_n F (ls' := [(1, .int (0 : Int32)), (0, .ref (xa X q))]) d_Hub_allWakes_1 (by decide) rfl ?_
  refine g_iconst F (v := 0) d_Hub_allWakes_2 (by decide) ?_
  refine g_istore_n F (ls' := [(2, .int (0 : Int32)), (1, .int (0 : Int32)), (0, .ref (xa X q))]) d_Hub_allWakes_3 (by decide) rfl ?_
  refine g_sub [2, 1, 0] rfl (l_L_Hub_allWakes_4 F hlk hr _ hq _ (fun z2 σ3 => ?_) FU _ _ _)
  refine g_iload_n F d_Hub_allWakes_24 0 rfl ?_
  exact g_iret F hlk hr d_Hub_allWakes_25
