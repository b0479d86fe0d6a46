def y_M_readSensor : MethodName := ⟨"SensorHubModel", "readSensor", "()V"⟩
theorem d_M_readSensor_0 : decode prog_10_method_53_code 0 = .ok (.aload_n 0, 1) := by decide +kernel
theorem d_M_readSensor_1 : decode prog_10_method_53_code 1 = .ok (.aload_n 0, 1) := by decide +kernel
theorem d_M_readSensor_2 : decode prog_10_method_53_code 2 = .ok (.getfield 7, 3) := by decide +kernel
theorem d_M_readSensor_5 : decode prog_10_method_53_code 5 = .ok (.iconst 1, 1) := by decide +kernel
theorem d_M_readSensor_6 : decode prog_10_method_53_code 6 = .ok (.iaload, 1) := by decide +kernel
theorem d_M_readSensor_7 : decode prog_10_method_53_code 7 = .ok (.bipush 8, 2) := by decide +kernel
theorem d_M_readSensor_9 : decode prog_10_method_53_code 9 = .ok (.if_icmp .ge 7, 3) := by decide +kernel
theorem d_M_readSensor_12 : decode prog_10_method_53_code 12 = .ok (.iconst 1, 1) := by decide +kernel
theorem d_M_readSensor_13 : decode prog_10_method_53_code 13 = .ok (.goto 4, 3) := by decide +kernel
theorem d_M_readSensor_16 : decode prog_10_method_53_code 16 = .ok (.iconst 0, 1) := by decide +kernel
theorem d_M_readSensor_17 : decode prog_10_method_53_code 17 = .ok (.invokevirtual 172, 3) := by decide +kernel
theorem d_M_readSensor_20 : decode prog_10_method_53_code 20 = .ok (.aload_n 0, 1) := by decide +kernel
theorem d_M_readSensor_21 : decode prog_10_method_53_code 21 = .ok (.iconst 1, 1) := by decide +kernel
theorem d_M_readSensor_22 : decode prog_10_method_53_code 22 = .ok (.bipush 20, 2) := by decide +kernel
theorem d_M_readSensor_24 : decode prog_10_method_53_code 24 = .ok (.invokevirtual 176, 3) := by decide +kernel
theorem d_M_readSensor_27 : decode prog_10_method_53_code 27 = .ok (.istore_n 1, 1) := by decide +kernel
theorem d_M_readSensor_28 : decode prog_10_method_53_code 28 = .ok (.aload_n 0, 1) := by decide +kernel
theorem d_M_readSensor_29 : decode prog_10_method_53_code 29 = .ok (.iconst 1, 1) := by decide +kernel
theorem d_M_readSensor_30 : decode prog_10_method_53_code 30 = .ok (.iconst 5, 1) := by decide +kernel
theorem d_M_readSensor_31 : decode prog_10_method_53_code 31 = .ok (.invokevirtual 176, 3) := by decide +kernel
theorem d_M_readSensor_34 : decode prog_10_method_53_code 34 = .ok (.istore_n 2, 1) := by decide +kernel
theorem d_M_readSensor_35 : decode prog_10_method_53_code 35 = .ok (.aload_n 0, 1) := by decide +kernel
theorem d_M_readSensor_36 : decode prog_10_method_53_code 36 = .ok (.iconst 0, 1) := by decide +kernel
theorem d_M_readSensor_37 : decode prog_10_method_53_code 37 = .ok (.bipush 99, 2) := by decide +kernel
theorem d_M_readSensor_39 : decode prog_10_method_53_code 39 = .ok (.invokevirtual 176, 3) := by decide +kernel
theorem d_M_readSensor_42 : decode prog_10_method_53_code 42 = .ok (.istore_n 3, 1) := by decide +kernel
theorem d_M_readSensor_43 : decode prog_10_method_53_code 43 = .ok (.aload_n 0, 1) := by decide +kernel
theorem d_M_readSensor_44 : decode prog_10_method_53_code 44 = .ok (.iconst 0, 1) := by decide +kernel
theorem d_M_readSensor_45 : decode prog_10_method_53_code 45 = .ok (.sipush 999, 3) := by decide +kernel
theorem d_M_readSensor_48 : decode prog_10_method_53_code 48 = .ok (.invokevirtual 176, 3) := by decide +kernel
theorem d_M_readSensor_51 : decode prog_10_method_53_code 51 = .ok (.istore 4, 2) := by decide +kernel
theorem d_M_readSensor_53 : decode prog_10_method_53_code 53 = .ok (.aload_n 0, 1) := by decide +kernel
theorem d_M_readSensor_54 : decode prog_10_method_53_code 54 = .ok (.iconst 0, 1) := by decide +kernel
theorem d_M_readSensor_55 : decode prog_10_method_53_code 55 = .ok (.iload_n 1, 1) := by decide +kernel
theorem d_M_readSensor_56 : decode prog_10_method_53_code 56 = .ok (.iconst 1, 1) := by decide +kernel
theorem d_M_readSensor_57 : decode prog_10_method_53_code 57 = .ok (.isub, 1) := by decide +kernel
theorem d_M_readSensor_58 : decode prog_10_method_53_code 58 = .ok (.bipush 9, 2) := by decide +kernel
theorem d_M_readSensor_60 : decode prog_10_method_53_code 60 = .ok (.if_icmp .ge 9, 3) := by decide +kernel
theorem d_M_readSensor_63 : decode prog_10_method_53_code 63 = .ok (.iload_n 1, 1) := by decide +kernel
theorem d_M_readSensor_64 : decode prog_10_method_53_code 64 = .ok (.iconst 1, 1) := by decide +kernel
theorem d_M_readSensor_65 : decode prog_10_method_53_code 65 = .ok (.isub, 1) := by decide +kernel
theorem d_M_readSensor_66 : decode prog_10_method_53_code 66 = .ok (.goto 5, 3) := by decide +kernel
theorem d_M_readSensor_69 : decode prog_10_method_53_code 69 = .ok (.bipush 9, 2) := by decide +kernel
theorem d_M_readSensor_71 : decode prog_10_method_53_code 71 = .ok (.invokevirtual 176, 3) := by decide +kernel
theorem d_M_readSensor_74 : decode prog_10_method_53_code 74 = .ok (.istore 5, 2) := by decide +kernel
theorem d_M_readSensor_76 : decode prog_10_method_53_code 76 = .ok (.aload_n 0, 1) := by decide +kernel
theorem d_M_readSensor_77 : decode prog_10_method_53_code 77 = .ok (.iconst 1, 1) := by decide +kernel
theorem d_M_readSensor_78 : decode prog_10_method_53_code 78 = .ok (.bipush 50, 2) := by decide +kernel
theorem d_M_readSensor_80 : decode prog_10_method_53_code 80 = .ok (.invokevirtual 176, 3) := by decide +kernel
theorem d_M_readSensor_83 : decode prog_10_method_53_code 83 = .ok (.istore 6, 2) := by decide +kernel
theorem d_M_readSensor_85 : decode prog_10_method_53_code 85 = .ok (.aload_n 0, 1) := by decide +kernel
theorem d_M_readSensor_86 : decode prog_10_method_53_code 86 = .ok (.getfield 165, 3) := by decide +kernel
theorem d_M_readSensor_89 : decode prog_10_method_53_code 89 = .ok (.ifCond .ne 17, 3) := by decide +kernel
theorem d_M_readSensor_92 : decode prog_10_method_53_code 92 = .ok (.aload_n 0, 1) := by decide +kernel
theorem d_M_readSensor_93 : decode prog_10_method_53_code 93 = .ok (.iload_n 1, 1) := by decide +kernel
theorem d_M_readSensor_94 : decode prog_10_method_53_code 94 = .ok (.iload_n 2, 1) := by decide +kernel
theorem d_M_readSensor_95 : decode prog_10_method_53_code 95 = .ok (.iload_n 3, 1) := by decide +kernel
theorem d_M_readSensor_96 : decode prog_10_method_53_code 96 = .ok (.iload 4, 2) := by decide +kernel
theorem d_M_readSensor_98 : decode prog_10_method_53_code 98 = .ok (.iload 5, 2) := by decide +kernel
theorem d_M_readSensor_100 : decode prog_10_method_53_code 100 = .ok (.iload 6, 2) := by decide +kernel
theorem d_M_readSensor_102 : decode prog_10_method_53_code 102 = .ok (.invokevirtual 120, 3) := by decide +kernel
theorem d_M_readSensor_105 : decode prog_10_method_53_code 105 = .ok (.pop, 1) := by decide +kernel
theorem d_M_readSensor_106 : decode prog_10_method_53_code 106 = .ok (.return_, 1) := by decide +kernel
theorem cv_8_172 : CSV "SensorHubModel" 172 y_M_take_Z prog_10_method_52_code 2 none 1 := ⟨gw_I 1088 (by decide +kernel) rfl, gw_I 1090 (by decide +kernel) rfl, gw_I 52 (by decide +kernel) rfl, gw_I 78 (by decide +kernel) rfl, gw_I 1091 (by decide +kernel) rfl, ⟨by decide +kernel, by decide +kernel⟩, by decide +kernel⟩
theorem cv_8_176 : CSV "SensorHubModel" 176 y_M_take_II prog_10_method_51_code 4 (some .int) 2 := ⟨gw_I 1092 (by decide +kernel) rfl, gw_I 1094 (by decide +kernel) rfl, gw_I 53 (by decide +kernel) rfl, gw_I 78 (by decide +kernel) rfl, gw_I 1095 (by decide +kernel) rfl, ⟨by decide +kernel, by decide +kernel⟩, by decide +kernel⟩
def f_M_readSensor (q : Nat) (σ : Mem) : Option (Unit × Mem) :=
  if (8 : Int32) ≤ (σ (q + 1) 1) then
    bd (f_M_take_Z q (0 : Int32) σ) fun _ σ2 =>
    bd (f_M_take_II q (1 : Int32) (20 : Int32) σ2) fun r3 σ4 =>
    bd (f_M_take_II q (1 : Int32) (5 : Int32) σ4) fun r5 σ6 =>
    bd (f_M_take_II q (0 : Int32) (99 : Int32) σ6) fun r7 σ8 =>
    bd (f_M_take_II q (0 : Int32) (999 : Int32) σ8) fun r9 σ10 =>
    if (9 : Int32) ≤ (r3 - (1 : Int32)) then
      bd (f_M_take_II q (0 : Int32) (9 : Int32) σ10) fun r11 σ12 =>
      bd (f_M_take_II q (1 : Int32) (50 : Int32) σ12) fun r13 σ14 =>
      if (σ14 q 15) = 0 then
        bd (f_M_addPhysical q r3 r5 r7 r9 r11 r13 σ14) fun r15 σ16 =>
        some ((), σ16)
      else
        some ((), σ14)
    else
      bd (f_M_take_II q (0 : Int32) (r3 - (1 : Int32)) σ10) fun r17 σ18 =>
      bd (f_M_take_II q (1 : Int32) (50 : Int32) σ18) fun r19 σ20 =>
      if (σ20 q 15) = 0 then
        bd (f_M_addPhysical q r3 r5 r7 r9 r17 r19 σ20) fun r21 σ22 =>
        some ((), σ22)
      else
        some ((), σ20)
  else
    bd (f_M_take_Z q (1 : Int32) σ) fun _ σ24 =>
    bd (f_M_take_II q (1 : Int32) (20 : Int32) σ24) fun r25 σ26 =>
    bd (f_M_take_II q (1 : Int32) (5 : Int32) σ26) fun r27 σ28 =>
    bd (f_M_take_II q (0 : Int32) (99 : Int32) σ28) fun r29 σ30 =>
    bd (f_M_take_II q (0 : Int32) (999 : Int32) σ30) fun r31 σ32 =>
    if (9 : Int32) ≤ (r25 - (1 : Int32)) then
      bd (f_M_take_II q (0 : Int32) (9 : Int32) σ32) fun r33 σ34 =>
      bd (f_M_take_II q (1 : Int32) (50 : Int32) σ34) fun r35 σ36 =>
      if (σ36 q 15) = 0 then
        bd (f_M_addPhysical q r25 r27 r29 r31 r33 r35 σ36) fun r37 σ38 =>
        some ((), σ38)
      else
        some ((), σ36)
    else
      bd (f_M_take_II q (0 : Int32) (r25 - (1 : Int32)) σ32) fun r39 σ40 =>
      bd (f_M_take_II q (1 : Int32) (50 : Int32) σ40) fun r41 σ42 =>
      if (σ42 q 15) = 0 then
        bd (f_M_addPhysical q r25 r27 r29 r31 r39 r41 σ42) fun r43 σ44 =>
        some ((), σ44)
      else
        some ((), σ42)
set_option maxRecDepth 100000 in
set_option maxHeartbeats 4000000 in
theorem c_M_readSensor {X : CX} (l : Launch) (q : Nat) (hq : ModelOK X q) (σ : Mem) : CT X l y_M_readSensor prog_10_method_53_code 7 none 3 vU [.ref (xa X q)] σ (f_M_readSensor q σ) := by
  refine CT_of (by decide +kernel) (Nat.le_of_ble_eq_true rfl) ?_
  intro p e s m args below meth c F hlk hr
  have F : FR p s m args c prog_10_method_53_code 7 "SensorHubModel" X := F
  show G X p l e (rmD 3) s m args below meth c 7 0 0 (QI X below args s vU) 0 [(0, .ref (xa X q))] [] σ _
  unfold f_M_readSensor
  refine g_aload_n F d_M_readSensor_0 0 rfl ?_
  refine g_aload_n F d_M_readSensor_1 0 rfl ?_
  refine g_getR F fs_8_7 hq.1 rfl d_M_readSensor_2 ?_
  refine g_iconst F (v := 1) d_M_readSensor_5 (by decide) ?_
  refine g_ialdC F (n := 481) 1 (by decide) (by decide) hq.2.1 d_M_readSensor_6 ?_
  refine g_bipush F (v := 8) d_M_readSensor_7 (by decide) ?_
  refine g_icmp_ge F (tgt := 16) d_M_readSensor_9 (by decide) (fun h1 => ?_) (fun h2 => ?_)
  · refine g_iconst F (v := 0) d_M_readSensor_16 (by decide) ?_
    refine g_callV F (dp := 2) (ci := 8) (As := [.int (0 : Int32)]) (c_M_take_Z l _ _ hq _) cv_8_172 hq.1 rfl rfl rfl (Nat.le_of_ble_eq_true rfl) ⟨Nat.le_of_ble_eq_true rfl, Nat.le_of_ble_eq_true rfl⟩ ⟨Nat.zero_le _, Nat.zero_le _⟩ d_M_readSensor_17 (fun _ σ2 h3 => ?_)
    refine g_aload_n F d_M_readSensor_20 0 rfl ?_
    refine g_iconst F (v := 1) d_M_readSensor_21 (by decide) ?_
    refine g_bipush F (v := 20) d_M_readSensor_22 (by decide) ?_
    refine g_callV F (dp := 2) (ci := 8) (As := [.int (1 : Int32), .int (20 : Int32)]) (c_M_take_II l _ _ _ hq _) cv_8_176 hq.1 rfl rfl rfl (Nat.le_of_ble_eq_true rfl) ⟨Nat.le_of_ble_eq_true rfl, Nat.le_of_ble_eq_true rfl⟩ ⟨Nat.zero_le _, Nat.zero_le _⟩ d_M_readSensor_24 (fun r3 σ4 h4 => ?_)
    refine g_istore_n F (ls' := [(1, .int r3), (0, .ref (xa X q))]) d_M_readSensor_27 (by decide) rfl ?_
    refine g_aload_n F d_M_readSensor_28 1 rfl ?_
    refine g_iconst F (v := 1) d_M_readSensor_29 (by decide) ?_
    refine g_iconst F (v := 5) d_M_readSensor_30 (by decide) ?_
    refine g_callV F (dp := 2) (ci := 8) (As := [.int (1 : Int32), .int (5 : Int32)]) (c_M_take_II l _ _ _ hq _) cv_8_176 hq.1 rfl rfl rfl (Nat.le_of_ble_eq_true rfl) ⟨Nat.le_of_ble_eq_true rfl, Nat.le_of_ble_eq_true rfl⟩ ⟨Nat.zero_le _, Nat.zero_le _⟩ d_M_readSensor_31 (fun r5 σ6 h5 => ?_)
    refine g_istore_n F (ls' := [(2, .int r5), (1, .int r3), (0, .ref (xa X q))]) d_M_readSensor_34 (by decide) rfl ?_
    refine g_aload_n F d_M_readSensor_35 2 rfl ?_
    refine g_iconst F (v := 0) d_M_readSensor_36 (by decide) ?_
    refine g_bipush F (v := 99) d_M_readSensor_37 (by decide) ?_
    refine g_callV F (dp := 2) (ci := 8) (As := [.int (0 : Int32), .int (99 : Int32)]) (c_M_take_II l _ _ _ hq _) cv_8_176 hq.1 rfl rfl rfl (Nat.le_of_ble_eq_true rfl) ⟨Nat.le_of_ble_eq_true rfl, Nat.le_of_ble_eq_true rfl⟩ ⟨Nat.zero_le _, Nat.zero_le _⟩ d_M_readSensor_39 (fun r7 σ8 h6 => ?_)
    refine g_istore_n F (ls' := [(3, .int r7), (2, .int r5), (1, .int r3), (0, .ref (xa X q))]) d_M_readSensor_42 (by decide) rfl ?_
    refine g_aload_n F d_M_readSensor_43 3 rfl ?_
    refine g_iconst F (v := 0) d_M_readSensor_44 (by decide) ?_
    refine g_sipush F (v := 999) d_M_readSensor_45 (by decide) ?_
    refine g_callV F (dp := 2) (ci := 8) (As := [.int (0 : Int32), .int (999 : Int32)]) (c_M_take_II l _ _ _ hq _) cv_8_176 hq.1 rfl rfl rfl (Nat.le_of_ble_eq_true rfl) ⟨Nat.le_of_ble_eq_true rfl, Nat.le_of_ble_eq_true rfl⟩ ⟨Nat.zero_le _, Nat.zero_le _⟩ d_M_readSensor_48 (fun r9 σ10 h7 => ?_)
    refine g_istore F (ls' := [(4, .int r9), (3, .int r7), (2, .int r5), (1, .int r3), (0, .ref (xa X q))]) d_M_readSensor_51 (by decide) rfl ?_
    refine g_aload_n F d_M_readSensor_53 4 rfl ?_
    refine g_iconst F (v := 0) d_M_readSensor_54 (by decide) ?_
    refine g_iload_n F d_M_readSensor_55 3 rfl ?_
    refine g_iconst F (v := 1) d_M_readSensor_56 (by decide) ?_
    refine g_isub F d_M_readSensor_57 ?_
    refine g_bipush F (v := 9) d_M_readSensor_58 (by decide) ?_
    refine g_icmp_ge F (tgt := 69) d_M_readSensor_60 (by decide) (fun h8 => ?_) (fun h9 => ?_)
    · refine g_bipush F (v := 9) d_M_readSensor_69 (by decide) ?_
      refine g_callV F (dp := 2) (ci := 8) (As := [.int (0 : Int32), .int (9 : Int32)]) (c_M_take_II l _ _ _ hq _) cv_8_176 hq.1 rfl rfl rfl (Nat.le_of_ble_eq_true rfl) ⟨Nat.le_of_ble_eq_true rfl, Nat.le_of_ble_eq_true rfl⟩ ⟨Nat.zero_le _, Nat.zero_le _⟩ d_M_readSensor_71 (fun r11 σ12 h10 => ?_)
      refine g_istore F (ls' := [(5, .int r11), (4, .int r9), (3, .int r7), (2, .int r5), (1, .int r3), (0, .ref (xa X q))]) d_M_readSensor_74 (by decide) rfl ?_
      refine g_aload_n F d_M_readSensor_76 5 rfl ?_
      refine g_iconst F (v := 1) d_M_readSensor_77 (by decide) ?_
      refine g_bipush F (v := 50) d_M_readSensor_78 (by decide) ?_
      refine g_callV F (dp := 2) (ci := 8) (As := [.int (1 : Int32), .int (50 : Int32)]) (c_M_take_II l _ _ _ hq _) cv_8_176 hq.1 rfl rfl rfl (Nat.le_of_ble_eq_true rfl) ⟨Nat.le_of_ble_eq_true rfl, Nat.le_of_ble_eq_true rfl⟩ ⟨Nat.zero_le _, Nat.zero_le _⟩ d_M_readSensor_80 (fun r13 σ14 h11 => ?_)
      refine g_istore F (ls' := [(6, .int r13), (5, .int r11), (4, .int r9), (3, .int r7), (2, .int r5), (1, .int r3), (0, .ref (xa X q))]) d_M_readSensor_83 (by decide) rfl ?_
      refine g_aload_n F d_M_readSensor_85 6 rfl ?_
      refine g_getI F fs_8_165 hq.1 rfl d_M_readSensor_86 ?_
      refine g_if_ne F (tgt := 106) d_M_readSensor_89 (by decide) (fun h12 => ?_) (fun h13 => ?_)
      · refine g_aload_n F d_M_readSensor_92 6 rfl ?_
        refine g_iload_n F d_M_readSensor_93 5 rfl ?_
        refine g_iload_n F d_M_readSensor_94 4 rfl ?_
        refine g_iload_n F d_M_readSensor_95 3 rfl ?_
        refine g_iload F d_M_readSensor_96 2 rfl ?_
        refine g_iload F d_M_readSensor_98 1 rfl ?_
        refine g_iload F d_M_readSensor_100 0 rfl ?_
        refine g_callV F (dp := 1) (ci := 8) (As := [.int r3, .int r5, .int r7, .int r9, .int r11, .int r13]) (c_M_addPhysical l _ _ _ _ _ _ _ hq _) cv_8_120 hq.1 rfl rfl rfl (Nat.le_of_ble_eq_true rfl) ⟨Nat.le_of_ble_eq_true rfl, Nat.le_of_ble_eq_true rfl⟩ ⟨Nat.zero_le _, Nat.zero_le _⟩ d_M_readSensor_102 (fun r15 σ16 h14 => ?_)
        refine g_pop F d_M_readSensor_105 rfl ?_
        exact g_vret F hlk hr d_M_readSensor_106
      exact g_vret F hlk hr d_M_readSensor_106
    refine g_iload_n F d_M_readSensor_63 3 rfl ?_
    refine g_iconst F (v := 1) d_M_readSensor_64 (by decide) ?_
    refine g_isub F d_M_readSensor_65 ?_
    refine g_goto F (tgt := 71) d_M_readSensor_66 (by decide) ?_
    refine g_callV F (dp := 2) (ci := 8) (As := [.int (0 : Int32), .int (r3 - (1 : Int32))]) (c_M_take_II l _ _ _ hq _) cv_8_176 hq.1 rfl rfl rfl (Nat.le_of_ble_eq_true rfl) ⟨Nat.le_of_ble_eq_true rfl, Nat.le_of_ble_eq_true rfl⟩ ⟨Nat.zero_le _, Nat.zero_le _⟩ d_M_readSensor_71 (fun r17 σ18 h15 => ?_)
    refine g_istore F (ls' := [(5, .int r17), (4, .int r9), (3, .int r7), (2, .int r5), (1, .int r3), (0, .ref (xa X q))]) d_M_readSensor_74 (by decide) rfl ?_
    refine g_aload_n F d_M_readSensor_76 5 rfl ?_
    refine g_iconst F (v := 1) d_M_readSensor_77 (by decide) ?_
    refine g_bipush F (v := 50) d_M_readSensor_78 (by decide) ?_
    refine g_callV F (dp := 2) (ci := 8) (As := [.int (1 : Int32), .int (50 : Int32)]) (c_M_take_II l _ _ _ hq _) cv_8_176 hq.1 rfl rfl rfl (Nat.le_of_ble_eq_true rfl) ⟨Nat.le_of_ble_eq_true rfl, Nat.le_of_ble_eq_true rfl⟩ ⟨Nat.zero_le _, Nat.zero_le _⟩ d_M_readSensor_80 (fun r19 σ20 h16 => ?_)
    refine g_istore F (ls' := [(6, .int r19), (5, .int r17), (4, .int r9), (3, .int r7), (2, .int r5), (1, .int r3), (0, .ref (xa X q))]) d_M_readSensor_83 (by decide) rfl ?_
    refine g_aload_n F d_M_readSensor_85 6 rfl ?_
    refine g_getI F fs_8_165 hq.1 rfl d_M_readSensor_86 ?_
    refine g_if_ne F (tgt := 106) d_M_readSensor_89 (by decide) (fun h17 => ?_) (fun h18 => ?_)
    · refine g_aload_n F d_M_readSensor_92 6 rfl ?_
      refine g_iload_n F d_M_readSensor_93 5 rfl ?_
      refine g_iload_n F d_M_readSensor_94 4 rfl ?_
      refine g_iload_n F d_M_readSensor_95 3 rfl ?_
      refine g_iload F d_M_readSensor_96 2 rfl ?_
      refine g_iload F d_M_readSensor_98 1 rfl ?_
      refine g_iload F d_M_readSensor_100 0 rfl ?_
      refine g_callV F (dp := 1) (ci := 8) (As := [.int r3, .int r5, .int r7, .int r9, .int r17, .int r19]) (c_M_addPhysical l _ _ _ _ _ _ _ hq _) cv_8_120 hq.1 rfl rfl rfl (Nat.le_of_ble_eq_true rfl) ⟨Nat.le_of_ble_eq_true rfl, Nat.le_of_ble_eq_true rfl⟩ ⟨Nat.zero_le _, Nat.zero_le _⟩ d_M_readSensor_102 (fun r21 σ22 h19 => ?_)
      refine g_pop F d_M_readSensor_105 rfl ?_
      exact g_vret F hlk hr d_M_readSensor_106
    exact g_vret F hlk hr d_M_readSensor_106
  refine g_iconst F (v := 1) d_M_readSensor_12 (by decide) ?_
  refine g_goto F (tgt := 17) d_M_readSensor_13 (by decide) ?_
  refine g_callV F (dp := 2) (ci := 8) (As := [.int (1 : Int32)]) (c_M_take_Z l _ _ hq _) cv_8_172 hq.1 rfl rfl rfl (Nat.le_of_ble_eq_true rfl) ⟨Nat.le_of_ble_eq_true rfl, Nat.le_of_ble_eq_true rfl⟩ ⟨Nat.zero_le _, Nat.zero_le _⟩ d_M_readSensor_17 (fun _ σ24 h20 => ?_)
  refine g_aload_n F d_M_readSensor_20 0 rfl ?_
  refine g_iconst F (v := 1) d_M_readSensor_21 (by decide) ?_
  refine g_bipush F (v := 20) d_M_readSensor_22 (by decide) ?_
  refine g_callV F (dp := 2) (ci := 8) (As := [.int (1 : Int32), .int (20 : Int32)]) (c_M_take_II l _ _ _ hq _) cv_8_176 hq.1 rfl rfl rfl (Nat.le_of_ble_eq_true rfl) ⟨Nat.le_of_ble_eq_true rfl, Nat.le_of_ble_eq_true rfl⟩ ⟨Nat.zero_le _, Nat.zero_le _⟩ d_M_readSensor_24 (fun r25 σ26 h21 => ?_)
  refine g_istore_n F (ls' := [(1, .int r25), (0, .ref (xa X q))]) d_M_readSensor_27 (by decide) rfl ?_
  refine g_aload_n F d_M_readSensor_28 1 rfl ?_
  refine g_iconst F (v := 1) d_M_readSensor_29 (by decide) ?_
  refine g_iconst F (v := 5) d_M_readSensor_30 (by decide) ?_
  refine g_callV F (dp := 2) (ci := 8) (As := [.int (1 : Int32), .int (5 : Int32)]) (c_M_take_II l _ _ _ hq _) cv_8_176 hq.1 rfl rfl rfl (Nat.le_of_ble_eq_true rfl) ⟨Nat.le_of_ble_eq_true rfl, Nat.le_of_ble_eq_true rfl⟩ ⟨Nat.zero_le _, Nat.zero_le _⟩ d_M_readSensor_31 (fun r27 σ28 h22 => ?_)
  refine g_istore_n F (ls' := [(2, .int r27), (1, .int r25), (0, .ref (xa X q))]) d_M_readSensor_34 (by decide) rfl ?_
  refine g_aload_n F d_M_readSensor_35 2 rfl ?_
  refine g_iconst F (v := 0) d_M_readSensor_36 (by decide) ?_
  refine g_bipush F (v := 99) d_M_readSensor_37 (by decide) ?_
  refine g_callV F (dp := 2) (ci := 8) (As := [.int (0 : Int32), .int (99 : Int32)]) (c_M_take_II l _ _ _ hq _) cv_8_176 hq.1 rfl rfl rfl (Nat.le_of_ble_eq_true rfl) ⟨Nat.le_of_ble_eq_true rfl, Nat.le_of_ble_eq_true rfl⟩ ⟨Nat.zero_le _, Nat.zero_le _⟩ d_M_readSensor_39 (fun r29 σ30 h23 => ?_)
  refine g_istore_n F (ls' := [(3, .int r29), (2, .int r27), (1, .int r25), (0, .ref (xa X q))]) d_M_readSensor_42 (by decide) rfl ?_
  refine g_aload_n F d_M_readSensor_43 3 rfl ?_
  refine g_iconst F (v := 0) d_M_readSensor_44 (by decide) ?_
  refine g_sipush F (v := 999) d_M_readSensor_45 (by decide) ?_
  refine g_callV F (dp := 2) (ci := 8) (As := [.int (0 : Int32), .int (999 : Int32)]) (c_M_take_II l _ _ _ hq _) cv_8_176 hq.1 rfl rfl rfl (Nat.le_of_ble_eq_true rfl) ⟨Nat.le_of_ble_eq_true rfl, Nat.le_of_ble_eq_true rfl⟩ ⟨Nat.zero_le _, Nat.zero_le _⟩ d_M_readSensor_48 (fun r31 σ32 h24 => ?_)
  refine g_istore F (ls' := [(4, .int r31), (3, .int r29), (2, .int r27), (1, .int r25), (0, .ref (xa X q))]) d_M_readSensor_51 (by decide) rfl ?_
  refine g_aload_n F d_M_readSensor_53 4 rfl ?_
  refine g_iconst F (v := 0) d_M_readSensor_54 (by decide) ?_
  refine g_iload_n F d_M_readSensor_55 3 rfl ?_
  refine g_iconst F (v := 1) d_M_readSensor_56 (by decide) ?_
  refine g_isub F d_M_readSensor_57 ?_
  refine g_bipush F (v := 9) d_M_readSensor_58 (by decide) ?_
  refine g_icmp_ge F (tgt := 69) d_M_readSensor_60 (by decide) (fun h25 => ?_) (fun h26 => ?_)
  · refine g_bipush F (v := 9) d_M_readSensor_69 (by decide) ?_
    refine g_callV F (dp := 2) (ci := 8) (As := [.int (0 : Int32), .int (9 : Int32)]) (c_M_take_II l _ _ _ hq _) cv_8_176 hq.1 rfl rfl rfl (Nat.le_of_ble_eq_true rfl) ⟨Nat.le_of_ble_eq_true rfl, Nat.le_of_ble_eq_true rfl⟩ ⟨Nat.zero_le _, Nat.zero_le _⟩ d_M_readSensor_71 (fun r33 σ34 h27 => ?_)
    refine g_istore F (ls' := [(5, .int r33), (4, .int r31), (3, .int r29), (2, .int r27), (1, .int r25), (0, .ref (xa X q))]) d_M_readSensor_74 (by decide) rfl ?_
    refine g_aload_n F d_M_readSensor_76 5 rfl ?_
    refine g_iconst F (v := 1) d_M_readSensor_77 (by decide) ?_
    refine g_bipush F (v := 50) d_M_readSensor_78 (by decide) ?_
    refine g_callV F (dp := 2) (ci := 8) (As := [.int (1 : Int32), .int (50 : Int32)]) (c_M_take_II l _ _ _ hq _) cv_8_176 hq.1 rfl rfl rfl (Nat.le_of_ble_eq_true rfl) ⟨Nat.le_of_ble_eq_true rfl, Nat.le_of_ble_eq_true rfl⟩ ⟨Nat.zero_le _, Nat.zero_le _⟩ d_M_readSensor_80 (fun r35 σ36 h28 => ?_)
    refine g_istore F (ls' := [(6, .int r35), (5, .int r33), (4, .int r31), (3, .int r29), (2, .int r27), (1, .int r25), (0, .ref (xa X q))]) d_M_readSensor_83 (by decide) rfl ?_
    refine g_aload_n F d_M_readSensor_85 6 rfl ?_
    refine g_getI F fs_8_165 hq.1 rfl d_M_readSensor_86 ?_
    refine g_if_ne F (tgt := 106) d_M_readSensor_89 (by decide) (fun h29 => ?_) (fun h30 => ?_)
    · refine g_aload_n F d_M_readSensor_92 6 rfl ?_
      refine g_iload_n F d_M_readSensor_93 5 rfl ?_
      refine g_iload_n F d_M_readSensor_94 4 rfl ?_
      refine g_iload_n F d_M_readSensor_95 3 rfl ?_
      refine g_iload F d_M_readSensor_96 2 rfl ?_
      refine g_iload F d_M_readSensor_98 1 rfl ?_
      refine g_iload F d_M_readSensor_100 0 rfl ?_
      refine g_callV F (dp := 1) (ci := 8) (As := [.int r25, .int r27, .int r29, .int r31, .int r33, .int r35]) (c_M_addPhysical l _ _ _ _ _ _ _ hq _) cv_8_120 hq.1 rfl rfl rfl (Nat.le_of_ble_eq_true rfl) ⟨Nat.le_of_ble_eq_true rfl, Nat.le_of_ble_eq_true rfl⟩ ⟨Nat.zero_le _, Nat.zero_le _⟩ d_M_readSensor_102 (fun r37 σ38 h31 => ?_)
      refine g_pop F d_M_readSensor_105 rfl ?_
      exact g_vret F hlk hr d_M_readSensor_106
    exact g_vret F hlk hr d_M_readSensor_106
  refine g_iload_n F d_M_readSensor_63 3 rfl ?_
  refine g_iconst F (v := 1) d_M_readSensor_64 (by decide) ?_
  refine g_isub F d_M_readSensor_65 ?_
  refine g_goto F (tgt := 71) d_M_readSensor_66 (by decide) ?_
  refine g_callV F (dp := 2) (ci := 8) (As := [.int (0 : Int32), .int (r25 - (1 : Int32))]) (c_M_take_II l _ _ _ hq _) cv_8_176 hq.1 rfl rfl rfl (Nat.le_of_ble_eq_true rfl) ⟨Nat.le_of_ble_eq_true rfl, Nat.le_of_ble_eq_true rfl⟩ ⟨Nat.zero_le _, Nat.zero_le _⟩ d_M_readSensor_71 (fun r39 σ40 h32 => ?_)
  refine g_istore F (ls' := [(5, .int r39), (4, .int r31), (3, .int r29), (2, .int r27), (1, .int r25), (0, .ref (xa X q))]) d_M_readSensor_74 (by decide) rfl ?_
  refine g_aload_n F d_M_readSensor_76 5 rfl ?_
  refine g_iconst F (v := 1) d_M_readSensor_77 (by decide) ?_
  refine g_bipush F (v := 50) d_M_readSensor_78 (by decide) ?_
  refine g_callV F (dp := 2) (ci := 8) (As := [.int (1 : Int32), .int (50 : Int32)]) (c_M_take_II l _ _ _ hq _) cv_8_176 hq.1 rfl rfl rfl (Nat.le_of_ble_eq_true rfl) ⟨Nat.le_of_ble_eq_true rfl, Nat.le_of_ble_eq_true rfl⟩ ⟨Nat.zero_le _, Nat.zero_le _⟩ d_M_readSensor_80 (fun r41 σ42 h33 => ?_)
  refine g_istore F (ls' := [(6, .int r41), (5, .int r39), (4, .int r31), (3, .int r29), (2, .int r27), (1, .int r25), (0, .ref (xa X q))]) d_M_readSensor_83 (by decide) rfl ?_
  refine g_aload_n F d_M_readSensor_85 6 rfl ?_
  refine g_getI F fs_8_165 hq.1 rfl d_M_readSensor_86 ?_
  refine g_if_ne F (tgt := 106) d_M_readSensor_89 (by decide) (fun h34 => ?_) (fun h35 => ?_)
  · refine g_aload_n F d_M_readSensor_92 6 rfl ?_
    refine g_iload_n F d_M_readSensor_93 5 rfl ?_
    refine g_iload_n F d_M_readSensor_94 4 rfl ?_
    refine g_iload_n F d_M_readSensor_95 3 rfl ?_
    refine g_iload F d_M_readSensor_96 2 rfl ?_
    refine g_iload F d_M_readSensor_98 1 rfl ?_
    refine g_iload F d_M_readSensor_100 0 rfl ?_
    refine g_callV F (dp := 1) (ci := 8) (As := [.int r25, .int r27, .int r29, .int r31, .int r39, .int r41]) (c_M_addPhysical l _ _ _ _ _ _ _ hq _) cv_8_120 hq.1 rfl rfl rfl (Nat.le_of_ble_eq_true rfl) ⟨Nat.le_of_ble_eq_true rfl, Nat.le_of_ble_eq_true rfl⟩ ⟨Nat.zero_le _, Nat.zero_le _⟩ d_M_readSensor_102 (fun r43 σ44 h36 => ?_)
    refine g_pop F d_M_readSensor_105 rfl ?_
    exact g_vret F hlk hr d_M_readSensor_106
  exact g_vret F hlk hr d_M_readSensor_106
def y_M_readDerived : MethodName := ⟨"SensorHubModel", "readDerived", "(I)V"⟩
theorem d_M_readDerived_0 : decode prog_10_method_54_code 0 = .ok (.aload_n 0, 1) := by decide +kernel
theorem d_M_readDerived_1 : decode prog_10_method_54_code 1 = .ok (.aload_n 0, 1) := by decide +kernel
theorem d_M_readDerived_2 : decode prog_10_method_54_code 2 = .ok (.getfield 7, 3) := by decide +kernel
theorem d_M_readDerived_5 : decode prog_10_method_54_code 5 = .ok (.iconst 1, 1) := by decide +kernel
theorem d_M_readDerived_6 : decode prog_10_method_54_code 6 = .ok (.iaload, 1) := by decide +kernel
theorem d_M_readDerived_7 : decode prog_10_method_54_code 7 = .ok (.bipush 8, 2) := by decide +kernel
theorem d_M_readDerived_9 : decode prog_10_method_54_code 9 = .ok (.if_icmp .ge 7, 3) := by decide +kernel
theorem d_M_readDerived_12 : decode prog_10_method_54_code 12 = .ok (.iconst 1, 1) := by decide +kernel
theorem d_M_readDerived_13 : decode prog_10_method_54_code 13 = .ok (.goto 4, 3) := by decide +kernel
theorem d_M_readDerived_16 : decode prog_10_method_54_code 16 = .ok (.iconst 0, 1) := by decide +kernel
theorem d_M_readDerived_17 : decode prog_10_method_54_code 17 = .ok (.invokevirtual 172, 3) := by decide +kernel
theorem d_M_readDerived_20 : decode prog_10_method_54_code 20 = .ok (.aload_n 0, 1) := by decide +kernel
theorem d_M_readDerived_21 : decode prog_10_method_54_code 21 = .ok (.iconst 0, 1) := by decide +kernel
theorem d_M_readDerived_22 : decode prog_10_method_54_code 22 = .ok (.aload_n 0, 1) := by decide +kernel
theorem d_M_readDerived_23 : decode prog_10_method_54_code 23 = .ok (.getfield 7, 3) := by decide +kernel
theorem d_M_readDerived_26 : decode prog_10_method_54_code 26 = .ok (.iconst 1, 1) := by decide +kernel
theorem d_M_readDerived_27 : decode prog_10_method_54_code 27 = .ok (.iaload, 1) := by decide +kernel
theorem d_M_readDerived_28 : decode prog_10_method_54_code 28 = .ok (.iconst 1, 1) := by decide +kernel
theorem d_M_readDerived_29 : decode prog_10_method_54_code 29 = .ok (.isub, 1) := by decide +kernel
theorem d_M_readDerived_30 : decode prog_10_method_54_code 30 = .ok (.invokevirtual 176, 3) := by decide +kernel
theorem d_M_readDerived_33 : decode prog_10_method_54_code 33 = .ok (.istore_n 2, 1) := by decide +kernel
theorem d_M_readDerived_34 : decode prog_10_method_54_code 34 = .ok (.iload_n 1, 1) := by decide +kernel
theorem d_M_readDerived_35 : decode prog_10_method_54_code 35 = .ok (.iconst 3, 1) := by decide +kernel
theorem d_M_readDerived_36 : decode prog_10_method_54_code 36 = .ok (.if_icmp .ne 13, 3) := by decide +kernel
theorem d_M_readDerived_39 : decode prog_10_method_54_code 39 = .ok (.aload_n 0, 1) := by decide +kernel
theorem d_M_readDerived_40 : decode prog_10_method_54_code 40 = .ok (.iconst 1, 1) := by decide +kernel
theorem d_M_readDerived_41 : decode prog_10_method_54_code 41 = .ok (.bipush 8, 2) := by decide +kernel
theorem d_M_readDerived_43 : decode prog_10_method_54_code 43 = .ok (.invokevirtual 176, 3) := by decide +kernel
theorem d_M_readDerived_46 : decode prog_10_method_54_code 46 = .ok (.goto 16, 3) := by decide +kernel
theorem d_M_readDerived_49 : decode prog_10_method_54_code 49 = .ok (.aload_n 0, 1) := by decide +kernel
theorem d_M_readDerived_50 : decode prog_10_method_54_code 50 = .ok (.iconst 0, 1) := by decide +kernel
theorem d_M_readDerived_51 : decode prog_10_method_54_code 51 = .ok (.aload_n 0, 1) := by decide +kernel
theorem d_M_readDerived_52 : decode prog_10_method_54_code 52 = .ok (.getfield 7, 3) := by decide +kernel
theorem d_M_readDerived_55 : decode prog_10_method_54_code 55 = .ok (.iconst 1, 1) := by decide +kernel
theorem d_M_readDerived_56 : decode prog_10_method_54_code 56 = .ok (.iaload, 1) := by decide +kernel
theorem d_M_readDerived_57 : decode prog_10_method_54_code 57 = .ok (.iconst 1, 1) := by decide +kernel
theorem d_M_readDerived_58 : decode prog_10_method_54_code 58 = .ok (.isub, 1) := by decide +kernel
theorem d_M_readDerived_59 : decode prog_10_method_54_code 59 = .ok (.invokevirtual 176, 3) := by decide +kernel
theorem d_M_readDerived_62 : decode prog_10_method_54_code 62 = .ok (.istore_n 3, 1) := by decide +kernel
theorem d_M_readDerived_63 : decode prog_10_method_54_code 63 = .ok (.aload_n 0, 1) := by decide +kernel
theorem d_M_readDerived_64 : decode prog_10_method_54_code 64 = .ok (.getfield 165, 3) := by decide +kernel
theorem d_M_readDerived_67 : decode prog_10_method_54_code 67 = .ok (.ifCond .ne 13, 3) := by decide +kernel
theorem d_M_readDerived_70 : decode prog_10_method_54_code 70 = .ok (.aload_n 0, 1) := by decide +kernel
theorem d_M_readDerived_71 : decode prog_10_method_54_code 71 = .ok (.iload_n 1, 1) := by decide +kernel
theorem d_M_readDerived_72 : decode prog_10_method_54_code 72 = .ok (.iload_n 2, 1) := by decide +kernel
theorem d_M_readDerived_73 : decode prog_10_method_54_code 73 = .ok (.iload_n 3, 1) := by decide +kernel
theorem d_M_readDerived_74 : decode prog_10_method_54_code 74 = .ok (.iconst 0, 1) := by decide +kernel
theorem d_M_readDerived_75 : decode prog_10_method_54_code 75 = .ok (.iconst 0, 1) := by decide +kernel
theorem d_M_readDerived_76 : decode prog_10_method_54_code 76 = .ok (.invokevirtual 113, 3) := by decide +kernel
theorem d_M_readDerived_79 : decode prog_10_method_54_code 79 = .ok (.pop, 1) := by decide +kernel
theorem d_M_readDerived_80 : decode prog_10_method_54_code 80 = .ok (.return_, 1) := by decide +kernel
def f_M_readDerived (q : Nat) (p1 : Int32) (σ : Mem) : Option (Unit × Mem) :=
  if (8 : Int32) ≤ (σ (q + 1) 1) then
    bd (f_M_take_Z q (0 : Int32) σ) fun _ σ2 =>
    bd (f_M_take_II q (0 : Int32) ((σ2 (q + 1) 1) - (1 : Int32)) σ2) fun r3 σ4 =>
    if p1 = (3 : Int32) then
      bd (f_M_take_II q (1 : Int32) (8 : Int32) σ4) fun r5 σ6 =>
      if (σ6 q 15) = 0 then
        bd (f_M_addGiven q p1 r3 r5 (0 : Int32) (0 : Int32) σ6) fun r7 σ8 =>
        some ((), σ8)
      else
        some ((), σ6)
    else
      bd (f_M_take_II q (0 : Int32) ((σ4 (q + 1) 1) - (1 : Int32)) σ4) fun r9 σ10 =>
      if (σ10 q 15) = 0 then
        bd (f_M_addGiven q p1 r3 r9 (0 : Int32) (0 : Int32) σ10) fun r11 σ12 =>
        some ((), σ12)
      else
        some ((), σ10)
  else
    bd (f_M_take_Z q (1 : Int32) σ) fun _ σ14 =>
    bd (f_M_take_II q (0 : Int32) ((σ14 (q + 1) 1) - (1 : Int32)) σ14) fun r15 σ16 =>
    if p1 = (3 : Int32) then
      bd (f_M_take_II q (1 : Int32) (8 : Int32) σ16) fun r17 σ18 =>
      if (σ18 q 15) = 0 then
        bd (f_M_addGiven q p1 r15 r17 (0 : Int32) (0 : Int32) σ18) fun r19 σ20 =>
        some ((), σ20)
      else
        some ((), σ18)
    else
      bd (f_M_take_II q (0 : Int32) ((σ16 (q + 1) 1) - (1 : Int32)) σ16) fun r21 σ22 =>
      if (σ22 q 15) = 0 then
        bd (f_M_addGiven q p1 r15 r21 (0 : Int32) (0 : Int32) σ22) fun r23 σ24 =>
        some ((), σ24)
      else
        some ((), σ22)
set_option maxRecDepth 100000 in
set_option maxHeartbeats 4000000 in
theorem c_M_readDerived {X : CX} (l : Launch) (q : Nat) (p1 : Int32) (hq : ModelOK X q) (σ : Mem) : CT X l y_M_readDerived prog_10_method_54_code 4 none 3 vU [.ref (xa X q), .int p1] σ (f_M_readDerived q p1 σ) := by
  refine CT_of (by decide +kernel) (Nat.le_of_ble_eq_true rfl) ?_
  intro p e s m args below meth c F hlk hr
  have F : FR p s m args c prog_10_method_54_code 4 "SensorHubModel" X := F
  show G X p l e (rmD 3) s m args below meth c 4 0 0 (QI X below args s vU) 0 [(0, .ref (xa X q)), (1, .int p1)] [] σ _
  unfold f_M_readDerived
  refine g_aload_n F d_M_readDerived_0 0 rfl ?_
  refine g_aload_n F d_M_readDerived_1 0 rfl ?_
  refine g_getR F fs_8_7 hq.1 rfl d_M_readDerived_2 ?_
  refine g_iconst F (v := 1) d_M_readDerived_5 (by decide) ?_
  refine g_ialdC F (n := 481) 1 (by decide) (by decide) hq.2.1 d_M_readDerived_6 ?_
  refine g_bipush F (v := 8) d_M_readDerived_7 (by decide) ?_
  refine g_icmp_ge F (tgt := 16) d_M_readDerived_9 (by decide) (fun h1 => ?_) (fun h2 => ?_)
  · refine g_iconst F (v := 0) d_M_readDerived_16 (by decide) ?_
    refine g_callV F (dp := 2) (ci := 8) (As := [.int (0 : Int32)]) (c_M_take_Z l _ _ hq _) cv_8_172 hq.1 rfl rfl rfl (Nat.le_of_ble_eq_true rfl) ⟨Nat.le_of_ble_eq_true rfl, Nat.le_of_ble_eq_true rfl⟩ ⟨Nat.zero_le _, Nat.zero_le _⟩ d_M_readDerived_17 (fun _ σ2 h3 => ?_)
    refine g_aload_n F d_M_readDerived_20 0 rfl ?_
    refine g_iconst F (v := 0) d_M_readDerived_21 (by decide) ?_
    refine g_aload_n F d_M_readDerived_22 0 rfl ?_
    refine g_getR F fs_8_7 hq.1 rfl d_M_readDerived_23 ?_
    refine g_iconst F (v := 1) d_M_readDerived_26 (by decide) ?_
    refine g_ialdC F (n := 481) 1 (by decide) (by decide) hq.2.1 d_M_readDerived_27 ?_
    refine g_iconst F (v := 1) d_M_readDerived_28 (by decide) ?_
    refine g_isub F d_M_readDerived_29 ?_
    refine g_callV F (dp := 2) (ci := 8) (As := [.int (0 : Int32), .int ((σ2 (q + 1) 1) - (1 : Int32))]) (c_M_take_II l _ _ _ hq _) cv_8_176 hq.1 rfl rfl rfl (Nat.le_of_ble_eq_true rfl) ⟨Nat.le_of_ble_eq_true rfl, Nat.le_of_ble_eq_true rfl⟩ ⟨Nat.zero_le _, Nat.zero_le _⟩ d_M_readDerived_30 (fun r3 σ4 h4 => ?_)
    refine g_istore_n F (ls' := [(2, .int r3), (0, .ref (xa X q)), (1, .int p1)]) d_M_readDerived_33 (by decide) rfl ?_
    refine g_iload_n F d_M_readDerived_34 2 rfl ?_
    refine g_iconst F (v := 3) d_M_readDerived_35 (by decide) ?_
    refine g_icmp_ne F (tgt := 49) d_M_readDerived_36 (by decide) (fun h5 => ?_) (fun h6 => ?_)
    · refine g_aload_n F d_M_readDerived_39 1 rfl ?_
      refine g_iconst F (v := 1) d_M_readDerived_40 (by decide) ?_
      refine g_bipush F (v := 8) d_M_readDerived_41 (by decide) ?_
      refine g_callV F (dp := 2) (ci := 8) (As := [.int (1 : Int32), .int (8 : Int32)]) (c_M_take_II l _ _ _ hq _) cv_8_176 hq.1 rfl rfl rfl (Nat.le_of_ble_eq_true rfl) ⟨Nat.le_of_ble_eq_true rfl, Nat.le_of_ble_eq_true rfl⟩ ⟨Nat.zero_le _, Nat.zero_le _⟩ d_M_readDerived_43 (fun r5 σ6 h7 => ?_)
      refine g_goto F (tgt := 62) d_M_readDerived_46 (by decide) ?_
      refine g_istore_n F (ls' := [(3, .int r5), (2, .int r3), (0, .ref (xa X q)), (1, .int p1)]) d_M_readDerived_62 (by decide) rfl ?_
      refine g_aload_n F d_M_readDerived_63 2 rfl ?_
      refine g_getI F fs_8_165 hq.1 rfl d_M_readDerived_64 ?_
      refine g_if_ne F (tgt := 80) d_M_readDerived_67 (by decide) (fun h8 => ?_) (fun h9 => ?_)
      · refine g_aload_n F d_M_readDerived_70 2 rfl ?_
        refine g_iload_n F d_M_readDerived_71 3 rfl ?_
        refine g_iload_n F d_M_readDerived_72 1 rfl ?_
        refine g_iload_n F d_M_readDerived_73 0 rfl ?_
        refine g_iconst F (v := 0) d_M_readDerived_74 (by decide) ?_
        refine g_iconst F (v := 0) d_M_readDerived_75 (by decide) ?_
        refine g_callV F (dp := 0) (ci := 8) (As := [.int p1, .int r3, .int r5, .int (0 : Int32), .int (0 : Int32)]) (c_M_addGiven l _ _ _ _ _ _ hq _) cv_8_113 hq.1 rfl rfl rfl (Nat.le_of_ble_eq_true rfl) ⟨Nat.le_of_ble_eq_true rfl, Nat.le_of_ble_eq_true rfl⟩ ⟨Nat.zero_le _, Nat.zero_le _⟩ d_M_readDerived_76 (fun r7 σ8 h10 => ?_)
        refine g_pop F d_M_readDerived_79 rfl ?_
        exact g_vret F hlk hr d_M_readDerived_80
      exact g_vret F hlk hr d_M_readDerived_80
    refine g_aload_n F d_M_readDerived_49 1 rfl ?_
    refine g_iconst F (v := 0) d_M_readDerived_50 (by decide) ?_
    refine g_aload_n F d_M_readDerived_51 1 rfl ?_
    refine g_getR F fs_8_7 hq.1 rfl d_M_readDerived_52 ?_
    refine g_iconst F (v := 1) d_M_readDerived_55 (by decide) ?_
    refine g_ialdC F (n := 481) 1 (by decide) (by decide) hq.2.1 d_M_readDerived_56 ?_
    refine g_iconst F (v := 1) d_M_readDerived_57 (by decide) ?_
    refine g_isub F d_M_readDerived_58 ?_
    refine g_callV F (dp := 2) (ci := 8) (As := [.int (0 : Int32), .int ((σ4 (q + 1) 1) - (1 : Int32))]) (c_M_take_II l _ _ _ hq _) cv_8_176 hq.1 rfl rfl rfl (Nat.le_of_ble_eq_true rfl) ⟨Nat.le_of_ble_eq_true rfl, Nat.le_of_ble_eq_true rfl⟩ ⟨Nat.zero_le _, Nat.zero_le _⟩ d_M_readDerived_59 (fun r9 σ10 h11 => ?_)
    refine g_istore_n F (ls' := [(3, .int r9), (2, .int r3), (0, .ref (xa X q)), (1, .int p1)]) d_M_readDerived_62 (by decide) rfl ?_
    refine g_aload_n F d_M_readDerived_63 2 rfl ?_
    refine g_getI F fs_8_165 hq.1 rfl d_M_readDerived_64 ?_
    refine g_if_ne F (tgt := 80) d_M_readDerived_67 (by decide) (fun h12 => ?_) (fun h13 => ?_)
    · refine g_aload_n F d_M_readDerived_70 2 rfl ?_
      refine g_iload_n F d_M_readDerived_71 3 rfl ?_
      refine g_iload_n F d_M_readDerived_72 1 rfl ?_
      refine g_iload_n F d_M_readDerived_73 0 rfl ?_
      refine g_iconst F (v := 0) d_M_readDerived_74 (by decide) ?_
      refine g_iconst F (v := 0) d_M_readDerived_75 (by decide) ?_
      refine g_callV F (dp := 0) (ci := 8) (As := [.int p1, .int r3, .int r9, .int (0 : Int32), .int (0 : Int32)]) (c_M_addGiven l _ _ _ _ _ _ hq _) cv_8_113 hq.1 rfl rfl rfl (Nat.le_of_ble_eq_true rfl) ⟨Nat.le_of_ble_eq_true rfl, Nat.le_of_ble_eq_true rfl⟩ ⟨Nat.zero_le _, Nat.zero_le _⟩ d_M_readDerived_76 (fun r11 σ12 h14 => ?_)
      refine g_pop F d_M_readDerived_79 rfl ?_
      exact g_vret F hlk hr d_M_readDerived_80
    exact g_vret F hlk hr d_M_readDerived_80
  refine g_iconst F (v := 1) d_M_readDerived_12 (by decide) ?_
  refine g_goto F (tgt := 17) d_M_readDerived_13 (by decide) ?_
  refine g_callV F (dp := 2) (ci := 8) (As := [.int (1 : Int32)]) (c_M_take_Z l _ _ hq _) cv_8_172 hq.1 rfl rfl rfl (Nat.le_of_ble_eq_true rfl) ⟨Nat.le_of_ble_eq_true rfl, Nat.le_of_ble_eq_true rfl⟩ ⟨Nat.zero_le _, Nat.zero_le _⟩ d_M_readDerived_17 (fun _ σ14 h15 => ?_)
  refine g_aload_n F d_M_readDerived_20 0 rfl ?_
  refine g_iconst F (v := 0) d_M_readDerived_21 (by decide) ?_
  refine g_aload_n F d_M_readDerived_22 0 rfl ?_
  refine g_getR F fs_8_7 hq.1 rfl d_M_readDerived_23 ?_
  refine g_iconst F (v := 1) d_M_readDerived_26 (by decide) ?_
  refine g_ialdC F (n := 481) 1 (by decide) (by decide) hq.2.1 d_M_readDerived_27 ?_
  refine g_iconst F (v := 1) d_M_readDerived_28 (by decide) ?_
  refine g_isub F d_M_readDerived_29 ?_
  refine g_callV F (dp := 2) (ci := 8) (As := [.int (0 : Int32), .int ((σ14 (q + 1) 1) - (1 : Int32))]) (c_M_take_II l _ _ _ hq _) cv_8_176 hq.1 rfl rfl rfl (Nat.le_of_ble_eq_true rfl) ⟨Nat.le_of_ble_eq_true rfl, Nat.le_of_ble_eq_true rfl⟩ ⟨Nat.zero_le _, Nat.zero_le _⟩ d_M_readDerived_30 (fun r15 σ16 h16 => ?_)
  refine g_istore_n F (ls' := [(2, .int r15), (0, .ref (xa X q)), (1, .int p1)]) d_M_readDerived_33 (by decide) rfl ?_
  refine g_iload_n F d_M_readDerived_34 2 rfl ?_
  refine g_iconst F (v := 3) d_M_readDerived_35 (by decide) ?_
  refine g_icmp_ne F (tgt := 49) d_M_readDerived_36 (by decide) (fun h17 => ?_) (fun h18 => ?_)
  · refine g_aload_n F d_M_readDerived_39 1 rfl ?_
    refine g_iconst F (v := 1) d_M_readDerived_40 (by decide) ?_
    refine g_bipush F (v := 8) d_M_readDerived_41 (by decide) ?_
    refine g_callV F (dp := 2) (ci := 8) (As := [.int (1 : Int32), .int (8 : Int32)]) (c_M_take_II l _ _ _ hq _) cv_8_176 hq.1 rfl rfl rfl (Nat.le_of_ble_eq_true rfl) ⟨Nat.le_of_ble_eq_true rfl, Nat.le_of_ble_eq_true rfl⟩ ⟨Nat.zero_le _, Nat.zero_le _⟩ d_M_readDerived_43 (fun r17 σ18 h19 => ?_)
    refine g_goto F (tgt := 62) d_M_readDerived_46 (by decide) ?_
    refine g_istore_n F (ls' := [(3, .int r17), (2, .int r15), (0, .ref (xa X q)), (1, .int p1)]) d_M_readDerived_62 (by decide) rfl ?_
    refine g_aload_n F d_M_readDerived_63 2 rfl ?_
    refine g_getI F fs_8_165 hq.1 rfl d_M_readDerived_64 ?_
    refine g_if_ne F (tgt := 80) d_M_readDerived_67 (by decide) (fun h20 => ?_) (fun h21 => ?_)
    · refine g_aload_n F d_M_readDerived_70 2 rfl ?_
      refine g_iload_n F d_M_readDerived_71 3 rfl ?_
      refine g_iload_n F d_M_readDerived_72 1 rfl ?_
      refine g_iload_n F d_M_readDerived_73 0 rfl ?_
      refine g_iconst F (v := 0) d_M_readDerived_74 (by decide) ?_
      refine g_iconst F (v := 0) d_M_readDerived_75 (by decide) ?_
      refine g_callV F (dp := 0) (ci := 8) (As := [.int p1, .int r15, .int r17, .int (0 : Int32), .int (0 : Int32)]) (c_M_addGiven l _ _ _ _ _ _ hq _) cv_8_113 hq.1 rfl rfl rfl (Nat.le_of_ble_eq_true rfl) ⟨Nat.le_of_ble_eq_true rfl, Nat.le_of_ble_eq_true rfl⟩ ⟨Nat.zero_le _, Nat.zero_le _⟩ d_M_readDerived_76 (fun r19 σ20 h22 => ?_)
      refine g_pop F d_M_readDerived_79 rfl ?_
      exact g_vret F hlk hr d_M_readDerived_80
    exact g_vret F hlk hr d_M_readDerived_80
  refine g_aload_n F d_M_readDerived_49 1 rfl ?_
  refine g_iconst F (v := 0) d_M_readDerived_50 (by decide) ?_
  refine g_aload_n F d_M_readDerived_51 1 rfl ?_
  refine g_getR F fs_8_7 hq.1 rfl d_M_readDerived_52 ?_
  refine g_iconst F (v := 1) d_M_readDerived_55 (by decide) ?_
  refine g_ialdC F (n := 481) 1 (by decide) (by decide) hq.2.1 d_M_readDerived_56 ?_
  refine g_iconst F (v := 1) d_M_readDerived_57 (by decide) ?_
  refine g_isub F d_M_readDerived_58 ?_
  refine g_callV F (dp := 2) (ci := 8) (As := [.int (0 : Int32), .int ((σ16 (q + 1) 1) - (1 : Int32))]) (c_M_take_II l _ _ _ hq _) cv_8_176 hq.1 rfl rfl rfl (Nat.le_of_ble_eq_true rfl) ⟨Nat.le_of_ble_eq_true rfl, Nat.le_of_ble_eq_true rfl⟩ ⟨Nat.zero_le _, Nat.zero_le _⟩ d_M_readDerived_59 (fun r21 σ22 h23 => ?_)
  refine g_istore_n F (ls' := [(3, .int r21), (2, .int r15), (0, .ref (xa X q)), (1, .int p1)]) d_M_readDerived_62 (by decide) rfl ?_
  refine g_aload_n F d_M_readDerived_63 2 rfl ?_
  refine g_getI F fs_8_165 hq.1 rfl d_M_readDerived_64 ?_
  refine g_if_ne F (tgt := 80) d_M_readDerived_67 (by decide) (fun h24 => ?_) (fun h25 => ?_)
  · refine g_aload_n F d_M_readDerived_70 2 rfl ?_
    refine g_iload_n F d_M_readDerived_71 3 rfl ?_
    refine g_iload_n F d_M_readDerived_72 1 rfl ?_
    refine g_iload_n F d_M_readDerived_73 0 rfl ?_
    refine g_iconst F (v := 0) d_M_readDerived_74 (by decide) ?_
    refine g_iconst F (v := 0) d_M_readDerived_75 (by decide) ?_
    refine g_callV F (dp := 0) (ci := 8) (As := [.int p1, .int r15, .int r21, .int (0 : Int32), .int (0 : Int32)]) (c_M_addGiven l _ _ _ _ _ _ hq _) cv_8_113 hq.1 rfl rfl rfl (Nat.le_of_ble_eq_true rfl) ⟨Nat.le_of_ble_eq_true rfl, Nat.le_of_ble_eq_true rfl⟩ ⟨Nat.zero_le _, Nat.zero_le _⟩ d_M_readDerived_76 (fun r23 σ24 h26 => ?_)
    refine g_pop F d_M_readDerived_79 rfl ?_
    exact g_vret F hlk hr d_M_readDerived_80
  exact g_vret F hlk hr d_M_readDerived_80
def y_M_readOutage : MethodName := ⟨"SensorHubModel", "readOutage", "()V"⟩
theorem d_M_readOutage_0 : decode prog_10_method_55_code 0 = .ok (.aload_n 0, 1) := by decide +kernel
theorem d_M_readOutage_1 : decode prog_10_method_55_code 1 = .ok (.aload_n 0, 1) := by decide +kernel
theorem d_M_readOutage_2 : decode prog_10_method_55_code 2 = .ok (.getfield 7, 3) := by decide +kernel
theorem d_M_readOutage_5 : decode prog_10_method_55_code 5 = .ok (.iconst 2, 1) := by decide +kernel
theorem d_M_readOutage_6 : decode prog_10_method_55_code 6 = .ok (.iaload, 1) := by decide +kernel
theorem d_M_readOutage_7 : decode prog_10_method_55_code 7 = .ok (.iconst 4, 1) := by decide +kernel
theorem d_M_readOutage_8 : decode prog_10_method_55_code 8 = .ok (.if_icmp .ge 7, 3) := by decide +kernel
theorem d_M_readOutage_11 : decode prog_10_method_55_code 11 = .ok (.iconst 1, 1) := by decide +kernel
theorem d_M_readOutage_12 : decode prog_10_method_55_code 12 = .ok (.goto 4, 3) := by decide +kernel
theorem d_M_readOutage_15 : decode prog_10_method_55_code 15 = .ok (.iconst 0, 1) := by decide +kernel
theorem d_M_readOutage_16 : decode prog_10_method_55_code 16 = .ok (.invokevirtual 172, 3) := by decide +kernel
theorem d_M_readOutage_19 : decode prog_10_method_55_code 19 = .ok (.aload_n 0, 1) := by decide +kernel
theorem d_M_readOutage_20 : decode prog_10_method_55_code 20 = .ok (.aload_n 0, 1) := by decide +kernel
theorem d_M_readOutage_21 : decode prog_10_method_55_code 21 = .ok (.getfield 165, 3) := by decide +kernel
theorem d_M_readOutage_24 : decode prog_10_method_55_code 24 = .ok (.ifCond .ne 22, 3) := by decide +kernel
theorem d_M_readOutage_27 : decode prog_10_method_55_code 27 = .ok (.aload_n 0, 1) := by decide +kernel
theorem d_M_readOutage_28 : decode prog_10_method_55_code 28 = .ok (.getfield 159, 3) := by decide +kernel
theorem d_M_readOutage_31 : decode prog_10_method_55_code 31 = .ok (.iconst 1, 1) := by decide +kernel
theorem d_M_readOutage_32 : decode prog_10_method_55_code 32 = .ok (.if_icmp .ne 14, 3) := by decide +kernel
theorem d_M_readOutage_35 : decode prog_10_method_55_code 35 = .ok (.aload_n 0, 1) := by decide +kernel
theorem d_M_readOutage_36 : decode prog_10_method_55_code 36 = .ok (.aload_n 0, 1) := by decide +kernel
theorem d_M_readOutage_37 : decode prog_10_method_55_code 37 = .ok (.getfield 162, 3) := by decide +kernel
theorem d_M_readOutage_40 : decode prog_10_method_55_code 40 = .ok (.invokevirtual 124, 3) := by decide +kernel
theorem d_M_readOutage_43 : decode prog_10_method_55_code 43 = .ok (.ifCond .ne 7, 3) := by decide +kernel
theorem d_M_readOutage_46 : decode prog_10_method_55_code 46 = .ok (.iconst 1, 1) := by decide +kernel
theorem d_M_readOutage_47 : decode prog_10_method_55_code 47 = .ok (.goto 4, 3) := by decide +kernel
theorem d_M_readOutage_50 : decode prog_10_method_55_code 50 = .ok (.iconst 0, 1) := by decide +kernel
theorem d_M_readOutage_51 : decode prog_10_method_55_code 51 = .ok (.putfield 165, 3) := by decide +kernel
theorem d_M_readOutage_54 : decode prog_10_method_55_code 54 = .ok (.aload_n 0, 1) := by decide +kernel
theorem d_M_readOutage_55 : decode prog_10_method_55_code 55 = .ok (.iconst 0, 1) := by decide +kernel
theorem d_M_readOutage_56 : decode prog_10_method_55_code 56 = .ok (.bipush 7, 2) := by decide +kernel
theorem d_M_readOutage_58 : decode prog_10_method_55_code 58 = .ok (.invokevirtual 176, 3) := by decide +kernel
theorem d_M_readOutage_61 : decode prog_10_method_55_code 61 = .ok (.istore_n 1, 1) := by decide +kernel
theorem d_M_readOutage_62 : decode prog_10_method_55_code 62 = .ok (.aload_n 0, 1) := by decide +kernel
theorem d_M_readOutage_63 : decode prog_10_method_55_code 63 = .ok (.iconst 0, 1) := by decide +kernel
theorem d_M_readOutage_64 : decode prog_10_method_55_code 64 = .ok (.sipush 9999, 3) := by decide +kernel
theorem d_M_readOutage_67 : decode prog_10_method_55_code 67 = .ok (.invokevirtual 176, 3) := by decide +kernel
theorem d_M_readOutage_70 : decode prog_10_method_55_code 70 = .ok (.istore_n 2, 1) := by decide +kernel
theorem d_M_readOutage_71 : decode prog_10_method_55_code 71 = .ok (.aload_n 0, 1) := by decide +kernel
theorem d_M_readOutage_72 : decode prog_10_method_55_code 72 = .ok (.iload_n 2, 1) := by decide +kernel
theorem d_M_readOutage_73 : decode prog_10_method_55_code 73 = .ok (.sipush 9999, 3) := by decide +kernel
theorem d_M_readOutage_76 : decode prog_10_method_55_code 76 = .ok (.invokevirtual 176, 3) := by decide +kernel
theorem d_M_readOutage_79 : decode prog_10_method_55_code 79 = .ok (.istore_n 3, 1) := by decide +kernel
theorem d_M_readOutage_80 : decode prog_10_method_55_code 80 = .ok (.aload_n 0, 1) := by decide +kernel
theorem d_M_readOutage_81 : decode prog_10_method_55_code 81 = .ok (.getfield 165, 3) := by decide +kernel
theorem d_M_readOutage_84 : decode prog_10_method_55_code 84 = .ok (.ifCond .ne 11, 3) := by decide +kernel
theorem d_M_readOutage_87 : decode prog_10_method_55_code 87 = .ok (.aload_n 0, 1) := by decide +kernel
theorem d_M_readOutage_88 : decode prog_10_method_55_code 88 = .ok (.iload_n 1, 1) := by decide +kernel
theorem d_M_readOutage_89 : decode prog_10_method_55_code 89 = .ok (.iload_n 2, 1) := by decide +kernel
theorem d_M_readOutage_90 : decode prog_10_method_55_code 90 = .ok (.iload_n 3, 1) := by decide +kernel
theorem d_M_readOutage_91 : decode prog_10_method_55_code 91 = .ok (.invokevirtual 127, 3) := by decide +kernel
theorem d_M_readOutage_94 : decode prog_10_method_55_code 94 = .ok (.pop, 1) := by decide +kernel
theorem d_M_readOutage_95 : decode prog_10_method_55_code 95 = .ok (.return_, 1) := by decide +kernel
def f_M_readOutage (q : Nat) (σ : Mem) : Option (Unit × Mem) :=
  if (4 : Int32) ≤ (σ (q + 1) 2) then
    bd (f_M_take_Z q (0 : Int32) σ) fun _ σ2 =>
    if (σ2 q 15) = 0 then
      if (σ2 q 13) = (1 : Int32) then
        bd (f_M_isPhysical q (σ2 q 14) σ2) fun r3 σ4 =>
        if r3 = 0 then
          lt (wr σ4 q 15 (1 : Int32)) fun σ5 =>
          bd (f_M_take_II q (0 : Int32) (7 : Int32) σ5) fun r6 σ7 =>
          bd (f_M_take_II q (0 : Int32) (9999 : Int32) σ7) fun r8 σ9 =>
          bd (f_M_take_II q r8 (9999 : Int32) σ9) fun r10 σ11 =>
          if (σ11 q 15) = 0 then
            bd (f_M_addGap q r6 r8 r10 σ11) fun r12 σ13 =>
            some ((), σ13)
          else
            some ((), σ11)
        else
          lt (wr σ4 q 15 (0 : Int32)) fun σ14 =>
          bd (f_M_take_II q (0 : Int32) (7 : Int32) σ14) fun r15 σ16 =>
          bd (f_M_take_II q (0 : Int32) (9999 : Int32) σ16) fun r17 σ18 =>
          bd (f_M_take_II q r17 (9999 : Int32) σ18) fun r19 σ20 =>
          if (σ20 q 15) = 0 then
            bd (f_M_addGap q r15 r17 r19 σ20) fun r21 σ22 =>
            some ((), σ22)
          else
            some ((), σ20)
      else
        lt (wr σ2 q 15 (1 : Int32)) fun σ23 =>
        bd (f_M_take_II q (0 : Int32) (7 : Int32) σ23) fun r24 σ25 =>
        bd (f_M_take_II q (0 : Int32) (9999 : Int32) σ25) fun r26 σ27 =>
        bd (f_M_take_II q r26 (9999 : Int32) σ27) fun r28 σ29 =>
        if (σ29 q 15) = 0 then
          bd (f_M_addGap q r24 r26 r28 σ29) fun r30 σ31 =>
          some ((), σ31)
        else
          some ((), σ29)
    else
      lt (wr σ2 q 15 (1 : Int32)) fun σ32 =>
      bd (f_M_take_II q (0 : Int32) (7 : Int32) σ32) fun r33 σ34 =>
      bd (f_M_take_II q (0 : Int32) (9999 : Int32) σ34) fun r35 σ36 =>
      bd (f_M_take_II q r35 (9999 : Int32) σ36) fun r37 σ38 =>
      if (σ38 q 15) = 0 then
        bd (f_M_addGap q r33 r35 r37 σ38) fun r39 σ40 =>
        some ((), σ40)
      else
        some ((), σ38)
  else
    bd (f_M_take_Z q (1 : Int32) σ) fun _ σ42 =>
    if (σ42 q 15) = 0 then
      if (σ42 q 13) = (1 : Int32) then
        bd (f_M_isPhysical q (σ42 q 14) σ42) fun r43 σ44 =>
        if r43 = 0 then
          lt (wr σ44 q 15 (1 : Int32)) fun σ45 =>
          bd (f_M_take_II q (0 : Int32) (7 : Int32) σ45) fun r46 σ47 =>
          bd (f_M_take_II q (0 : Int32) (9999 : Int32) σ47) fun r48 σ49 =>
          bd (f_M_take_II q r48 (9999 : Int32) σ49) fun r50 σ51 =>
          if (σ51 q 15) = 0 then
            bd (f_M_addGap q r46 r48 r50 σ51) fun r52 σ53 =>
            some ((), σ53)
          else
            some ((), σ51)
        else
          lt (wr σ44 q 15 (0 : Int32)) fun σ54 =>
          bd (f_M_take_II q (0 : Int32) (7 : Int32) σ54) fun r55 σ56 =>
          bd (f_M_take_II q (0 : Int32) (9999 : Int32) σ56) fun r57 σ58 =>
          bd (f_M_take_II q r57 (9999 : Int32) σ58) fun r59 σ60 =>
          if (σ60 q 15) = 0 then
            bd (f_M_addGap q r55 r57 r59 σ60) fun r61 σ62 =>
            some ((), σ62)
          else
            some ((), σ60)
      else
        lt (wr σ42 q 15 (1 : Int32)) fun σ63 =>
        bd (f_M_take_II q (0 : Int32) (7 : Int32) σ63) fun r64 σ65 =>
        bd (f_M_take_II q (0 : Int32) (9999 : Int32) σ65) fun r66 σ67 =>
        bd (f_M_take_II q r66 (9999 : Int32) σ67) fun r68 σ69 =>
        if (σ69 q 15) = 0 then
          bd (f_M_addGap q r64 r66 r68 σ69) fun r70 σ71 =>
          some ((), σ71)
        else
          some ((), σ69)
    else
      lt (wr σ42 q 15 (1 : Int32)) fun σ72 =>
      bd (f_M_take_II q (0 : Int32) (7 : Int32) σ72) fun r73 σ74 =>
      bd (f_M_take_II q (0 : Int32) (9999 : Int32) σ74) fun r75 σ76 =>
      bd (f_M_take_II q r75 (9999 : Int32) σ76) fun r77 σ78 =>
      if (σ78 q 15) = 0 then
        bd (f_M_addGap q r73 r75 r77 σ78) fun r79 σ80 =>
        some ((), σ80)
      else
        some ((), σ78)
set_option maxRecDepth 100000 in
set_option maxHeartbeats 4000000 in
theorem c_M_readOutage {X : CX} (l : Launch) (q : Nat) (hq : ModelOK X q) (σ : Mem) : CT X l y_M_readOutage prog_10_method_55_code 4 none 3 vU [.ref (xa X q)] σ (f_M_readOutage q σ) := by
  refine CT_of (by decide +kernel) (Nat.le_of_ble_eq_true rfl) ?_
  intro p e s m args below meth c F hlk hr
  have F : FR p s m args c prog_10_method_55_code 4 "SensorHubModel" X := F
  show G X p l e (rmD 3) s m args below meth c 4 0 0 (QI X below args s vU) 0 [(0, .ref (xa X q))] [] σ _
  unfold f_M_readOutage
  refine g_aload_n F d_M_readOutage_0 0 rfl ?_
  refine g_aload_n F d_M_readOutage_1 0 rfl ?_
  refine g_getR F fs_8_7 hq.1 rfl d_M_readOutage_2 ?_
  refine g_iconst F (v := 2) d_M_readOutage_5 (by decide) ?_
  refine g_ialdC F (n := 481) 2 (by decide) (by decide) hq.2.1 d_M_readOutage_6 ?_
  refine g_iconst F (v := 4) d_M_readOutage_7 (by decide) ?_
  refine g_icmp_ge F (tgt := 15) d_M_readOutage_8 (by decide) (fun h1 => ?_) (fun h2 => ?_)
  · refine g_iconst F (v := 0) d_M_readOutage_15 (by decide) ?_
    refine g_callV F (dp := 2) (ci := 8) (As := [.int (0 : Int32)]) (c_M_take_Z l _ _ hq _) cv_8_172 hq.1 rfl rfl rfl (Nat.le_of_ble_eq_true rfl) ⟨Nat.le_of_ble_eq_true rfl, Nat.le_of_ble_eq_true rfl⟩ ⟨Nat.zero_le _, Nat.zero_le _⟩ d_M_readOutage_16 (fun _ σ2 h3 => ?_)
    refine g_aload_n F d_M_readOutage_19 0 rfl ?_
    refine g_aload_n F d_M_readOutage_20 0 rfl ?_
    refine g_getI F fs_8_165 hq.1 rfl d_M_readOutage_21 ?_
    refine g_if_ne F (tgt := 46) d_M_readOutage_24 (by decide) (fun h4 => ?_) (fun h5 => ?_)
    · refine g_aload_n F d_M_readOutage_27 0 rfl ?_
      refine g_getI F fs_8_159 hq.1 rfl d_M_readOutage_28 ?_
      refine g_iconst F (v := 1) d_M_readOutage_31 (by decide) ?_
      refine g_icmp_ne F (tgt := 46) d_M_readOutage_32 (by decide) (fun h6 => ?_) (fun h7 => ?_)
      · refine g_aload_n F d_M_readOutage_35 0 rfl ?_
        refine g_aload_n F d_M_readOutage_36 0 rfl ?_
        refine g_getI F fs_8_162 hq.1 rfl d_M_readOutage_37 ?_
        refine g_callV F (dp := 2) (ci := 8) (As := [.int (σ2 q 14)]) (c_M_isPhysical l _ _ hq _) cv_8_124 hq.1 rfl rfl rfl (Nat.le_of_ble_eq_true rfl) ⟨Nat.le_of_ble_eq_true rfl, Nat.le_of_ble_eq_true rfl⟩ ⟨Nat.zero_le _, Nat.zero_le _⟩ d_M_readOutage_40 (fun r3 σ4 h8 => ?_)
        refine g_if_ne F (tgt := 50) d_M_readOutage_43 (by decide) (fun h9 => ?_) (fun h10 => ?_)
        · refine g_iconst F (v := 1) d_M_readOutage_46 (by decide) ?_
          refine g_goto F (tgt := 51) d_M_readOutage_47 (by decide) ?_
          refine g_pt (q := (1 : Int32) &&& 1 = (1 : Int32)) (by decide) (g_putZ F fw_8_165 hq.1 rfl d_M_readOutage_51 ?_)
          refine g_ltM (fun σ5 _ => ?_)
          refine g_aload_n F d_M_readOutage_54 0 rfl ?_
          refine g_iconst F (v := 0) d_M_readOutage_55 (by decide) ?_
          refine g_bipush F (v := 7) d_M_readOutage_56 (by decide) ?_
          refine g_callV F (dp := 2) (ci := 8) (As := [.int (0 : Int32), .int (7 : Int32)]) (c_M_take_II l _ _ _ hq _) cv_8_176 hq.1 rfl rfl rfl (Nat.le_of_ble_eq_true rfl) ⟨Nat.le_of_ble_eq_true rfl, Nat.le_of_ble_eq_true rfl⟩ ⟨Nat.zero_le _, Nat.zero_le _⟩ d_M_readOutage_58 (fun r6 σ7 h11 => ?_)
          refine g_istore_n F (ls' := [(1, .int r6), (0, .ref (xa X q))]) d_M_readOutage_61 (by decide) rfl ?_
          refine g_aload_n F d_M_readOutage_62 1 rfl ?_
          refine g_iconst F (v := 0) d_M_readOutage_63 (by decide) ?_
          refine g_sipush F (v := 9999) d_M_readOutage_64 (by decide) ?_
          refine g_callV F (dp := 2) (ci := 8) (As := [.int (0 : Int32), .int (9999 : Int32)]) (c_M_take_II l _ _ _ hq _) cv_8_176 hq.1 rfl rfl rfl (Nat.le_of_ble_eq_true rfl) ⟨Nat.le_of_ble_eq_true rfl, Nat.le_of_ble_eq_true rfl⟩ ⟨Nat.zero_le _, Nat.zero_le _⟩ d_M_readOutage_67 (fun r8 σ9 h12 => ?_)
          refine g_istore_n F (ls' := [(2, .int r8), (1, .int r6), (0, .ref (xa X q))]) d_M_readOutage_70 (by decide) rfl ?_
          refine g_aload_n F d_M_readOutage_71 2 rfl ?_
          refine g_iload_n F d_M_readOutage_72 0 rfl ?_
          refine g_sipush F (v := 9999) d_M_readOutage_73 (by decide) ?_
          refine g_callV F (dp := 2) (ci := 8) (As := [.int r8, .int (9999 : Int32)]) (c_M_take_II l _ _ _ hq _) cv_8_176 hq.1 rfl rfl rfl (Nat.le_of_ble_eq_true rfl) ⟨Nat.le_of_ble_eq_true rfl, Nat.le_of_ble_eq_true rfl⟩ ⟨Nat.zero_le _, Nat.zero_le _⟩ d_M_readOutage_76 (fun r10 σ11 h13 => ?_)
          refine g_istore_n F (ls' := [(3, .int r10), (2, .int r8), (1, .int r6), (0, .ref (xa X q))]) d_M_readOutage_79 (by decide) rfl ?_
          refine g_aload_n F d_M_readOutage_80 3 rfl ?_
          refine g_getI F fs_8_165 hq.1 rfl d_M_readOutage_81 ?_
          refine g_if_ne F (tgt := 95) d_M_readOutage_84 (by decide) (fun h14 => ?_) (fun h15 => ?_)
          · refine g_aload_n F d_M_readOutage_87 3 rfl ?_
            refine g_iload_n F d_M_readOutage_88 2 rfl ?_
            refine g_iload_n F d_M_readOutage_89 1 rfl ?_
            refine g_iload_n F d_M_readOutage_90 0 rfl ?_
            refine g_callV F (dp := 0) (ci := 8) (As := [.int r6, .int r8, .int r10]) (c_M_addGap l _ _ _ _ hq _) cv_8_127 hq.1 rfl rfl rfl (Nat.le_of_ble_eq_true rfl) ⟨Nat.le_of_ble_eq_true rfl, Nat.le_of_ble_eq_true rfl⟩ ⟨Nat.zero_le _, Nat.zero_le _⟩ d_M_readOutage_91 (fun r12 σ13 h16 => ?_)
            refine g_pop F d_M_readOutage_94 rfl ?_
            exact g_vret F hlk hr d_M_readOutage_95
          exact g_vret F hlk hr d_M_readOutage_95
        refine g_iconst F (v := 0) d_M_readOutage_50 (by decide) ?_
        refine g_pt (q := (0 : Int32) &&& 1 = (0 : Int32)) (by decide) (g_putZ F fw_8_165 hq.1 rfl d_M_readOutage_51 ?_)
        refine g_ltM (fun σ14 _ => ?_)
        refine g_aload_n F d_M_readOutage_54 0 rfl ?_
        refine g_iconst F (v := 0) d_M_readOutage_55 (by decide) ?_
        refine g_bipush F (v := 7) d_M_readOutage_56 (by decide) ?_
        refine g_callV F (dp := 2) (ci := 8) (As := [.int (0 : Int32), .int (7 : Int32)]) (c_M_take_II l _ _ _ hq _) cv_8_176 hq.1 rfl rfl rfl (Nat.le_of_ble_eq_true rfl) ⟨Nat.le_of_ble_eq_true rfl, Nat.le_of_ble_eq_true rfl⟩ ⟨Nat.zero_le _, Nat.zero_le _⟩ d_M_readOutage_58 (fun r15 σ16 h17 => ?_)
        refine g_istore_n F (ls' := [(1, .int r15), (0, .ref (xa X q))]) d_M_readOutage_61 (by decide) rfl ?_
        refine g_aload_n F d_M_readOutage_62 1 rfl ?_
        refine g_iconst F (v := 0) d_M_readOutage_63 (by decide) ?_
        refine g_sipush F (v := 9999) d_M_readOutage_64 (by decide) ?_
        refine g_callV F (dp := 2) (ci := 8) (As := [.int (0 : Int32), .int (9999 : Int32)]) (c_M_take_II l _ _ _ hq _) cv_8_176 hq.1 rfl rfl rfl (Nat.le_of_ble_eq_true rfl) ⟨Nat.le_of_ble_eq_true rfl, Nat.le_of_ble_eq_true rfl⟩ ⟨Nat.zero_le _, Nat.zero_le _⟩ d_M_readOutage_67 (fun r17 σ18 h18 => ?_)
        refine g_istore_n F (ls' := [(2, .int r17), (1, .int r15), (0, .ref (xa X q))]) d_M_readOutage_70 (by decide) rfl ?_
        refine g_aload_n F d_M_readOutage_71 2 rfl ?_
        refine g_iload_n F d_M_readOutage_72 0 rfl ?_
        refine g_sipush F (v := 9999) d_M_readOutage_73 (by decide) ?_
        refine g_callV F (dp := 2) (ci := 8) (As := [.int r17, .int (9999 : Int32)]) (c_M_take_II l _ _ _ hq _) cv_8_176 hq.1 rfl rfl rfl (Nat.le_of_ble_eq_true rfl) ⟨Nat.le_of_ble_eq_true rfl, Nat.le_of_ble_eq_true rfl⟩ ⟨Nat.zero_le _, Nat.zero_le _⟩ d_M_readOutage_76 (fun r19 σ20 h19 => ?_)
        refine g_istore_n F (ls' := [(3, .int r19), (2, .int r17), (1, .int r15), (0, .ref (xa X q))]) d_M_readOutage_79 (by decide) rfl ?_
        refine g_aload_n F d_M_readOutage_80 3 rfl ?_
        refine g_getI F fs_8_165 hq.1 rfl d_M_readOutage_81 ?_
        refine g_if_ne F (tgt := 95) d_M_readOutage_84 (by decide) (fun h20 => ?_) (fun h21 => ?_)
        · refine g_aload_n F d_M_readOutage_87 3 rfl ?_
          refine g_iload_n F d_M_readOutage_88 2 rfl ?_
          refine g_iload_n F d_M_readOutage_89 1 rfl ?_
          refine g_iload_n F d_M_readOutage_90 0 rfl ?_
          refine g_callV F (dp := 0) (ci := 8) (As := [.int r15, .int r17, .int r19]) (c_M_addGap l _ _ _ _ hq _) cv_8_127 hq.1 rfl rfl rfl (Nat.le_of_ble_eq_true rfl) ⟨Nat.le_of_ble_eq_true rfl, Nat.le_of_ble_eq_true rfl⟩ ⟨Nat.zero_le _, Nat.zero_le _⟩ d_M_readOutage_91 (fun r21 σ22 h22 => ?_)
          refine g_pop F d_M_readOutage_94 rfl ?_
          exact g_vret F hlk hr d_M_readOutage_95
        exact g_vret F hlk hr d_M_readOutage_95
      refine g_iconst F (v := 1) d_M_readOutage_46 (by decide) ?_
      refine g_goto F (tgt := 51) d_M_readOutage_47 (by decide) ?_
      refine g_pt (q := (1 : Int32) &&& 1 = (1 : Int32)) (by decide) (g_putZ F fw_8_165 hq.1 rfl d_M_readOutage_51 ?_)
      refine g_ltM (fun σ23 _ => ?_)
      refine g_aload_n F d_M_readOutage_54 0 rfl ?_
      refine g_iconst F (v := 0) d_M_readOutage_55 (by decide) ?_
      refine g_bipush F (v := 7) d_M_readOutage_56 (by decide) ?_
      refine g_callV F (dp := 2) (ci := 8) (As := [.int (0 : Int32), .int (7 : Int32)]) (c_M_take_II l _ _ _ hq _) cv_8_176 hq.1 rfl rfl rfl (Nat.le_of_ble_eq_true rfl) ⟨Nat.le_of_ble_eq_true rfl, Nat.le_of_ble_eq_true rfl⟩ ⟨Nat.zero_le _, Nat.zero_le _⟩ d_M_readOutage_58 (fun r24 σ25 h23 => ?_)
      refine g_istore_n F (ls' := [(1, .int r24), (0, .ref (xa X q))]) d_M_readOutage_61 (by decide) rfl ?_
      refine g_aload_n F d_M_readOutage_62 1 rfl ?_
      refine g_iconst F (v := 0) d_M_readOutage_63 (by decide) ?_
      refine g_sipush F (v := 9999) d_M_readOutage_64 (by decide) ?_
      refine g_callV F (dp := 2) (ci := 8) (As := [.int (0 : Int32), .int (9999 : Int32)]) (c_M_take_II l _ _ _ hq _) cv_8_176 hq.1 rfl rfl rfl (Nat.le_of_ble_eq_true rfl) ⟨Nat.le_of_ble_eq_true rfl, Nat.le_of_ble_eq_true rfl⟩ ⟨Nat.zero_le _, Nat.zero_le _⟩ d_M_readOutage_67 (fun r26 σ27 h24 => ?_)
      refine g_istore_n F (ls' := [(2, .int r26), (1, .int r24), (0, .ref (xa X q))]) d_M_readOutage_70 (by decide) rfl ?_
      refine g_aload_n F d_M_readOutage_71 2 rfl ?_
      refine g_iload_n F d_M_readOutage_72 0 rfl ?_
      refine g_sipush F (v := 9999) d_M_readOutage_73 (by decide) ?_
      refine g_callV F (dp := 2) (ci := 8) (As := [.int r26, .int (9999 : Int32)]) (c_M_take_II l _ _ _ hq _) cv_8_176 hq.1 rfl rfl rfl (Nat.le_of_ble_eq_true rfl) ⟨Nat.le_of_ble_eq_true rfl, Nat.le_of_ble_eq_true rfl⟩ ⟨Nat.zero_le _, Nat.zero_le _⟩ d_M_readOutage_76 (fun r28 σ29 h25 => ?_)
      refine g_istore_n F (ls' := [(3, .int r28), (2, .int r26), (1, .int r24), (0, .ref (xa X q))]) d_M_readOutage_79 (by decide) rfl ?_
      refine g_aload_n F d_M_readOutage_80 3 rfl ?_
      refine g_getI F fs_8_165 hq.1 rfl d_M_readOutage_81 ?_
      refine g_if_ne F (tgt := 95) d_M_readOutage_84 (by decide) (fun h26 => ?_) (fun h27 => ?_)
      · refine g_aload_n F d_M_readOutage_87 3 rfl ?_
        refine g_iload_n F d_M_readOutage_88 2 rfl ?_
        refine g_iload_n F d_M_readOutage_89 1 rfl ?_
        refine g_iload_n F d_M_readOutage_90 0 rfl ?_
        refine g_callV F (dp := 0) (ci := 8) (As := [.int r24, .int r26, .int r28]) (c_M_addGap l _ _ _ _ hq _) cv_8_127 hq.1 rfl rfl rfl (Nat.le_of_ble_eq_true rfl) ⟨Nat.le_of_ble_eq_true rfl, Nat.le_of_ble_eq_true rfl⟩ ⟨Nat.zero_le _, Nat.zero_le _⟩ d_M_readOutage_91 (fun r30 σ31 h28 => ?_)
        refine g_pop F d_M_readOutage_94 rfl ?_
        exact g_vret F hlk hr d_M_readOutage_95
      exact g_vret F hlk hr d_M_readOutage_95
    refine g_iconst F (v := 1) d_M_readOutage_46 (by decide) ?_
    refine g_goto F (tgt := 51) d_M_readOutage_47 (by decide) ?_
    refine g_pt (q := (1 : Int32) &&& 1 = (1 : Int32)) (by decide) (g_putZ F fw_8_165 hq.1 rfl d_M_readOutage_51 ?_)
    refine g_ltM (fun σ32 _ => ?_)
    refine g_aload_n F d_M_readOutage_54 0 rfl ?_
    refine g_iconst F (v := 0) d_M_readOutage_55 (by decide) ?_
    refine g_bipush F (v := 7) d_M_readOutage_56 (by decide) ?_
    refine g_callV F (dp := 2) (ci := 8) (As := [.int (0 : Int32), .int (7 : Int32)]) (c_M_take_II l _ _ _ hq _) cv_8_176 hq.1 rfl rfl rfl (Nat.le_of_ble_eq_true rfl) ⟨Nat.le_of_ble_eq_true rfl, Nat.le_of_ble_eq_true rfl⟩ ⟨Nat.zero_le _, Nat.zero_le _⟩ d_M_readOutage_58 (fun r33 σ34 h29 => ?_)
    refine g_istore_n F (ls' := [(1, .int r33), (0, .ref (xa X q))]) d_M_readOutage_61 (by decide) rfl ?_
    refine g_aload_n F d_M_readOutage_62 1 rfl ?_
    refine g_iconst F (v := 0) d_M_readOutage_63 (by decide) ?_
    refine g_sipush F (v := 9999) d_M_readOutage_64 (by decide) ?_
    refine g_callV F (dp := 2) (ci := 8) (As := [.int (0 : Int32), .int (9999 : Int32)]) (c_M_take_II l _ _ _ hq _) cv_8_176 hq.1 rfl rfl rfl (Nat.le_of_ble_eq_true rfl) ⟨Nat.le_of_ble_eq_true rfl, Nat.le_of_ble_eq_true rfl⟩ ⟨Nat.zero_le _, Nat.zero_le _⟩ d_M_readOutage_67 (fun r35 σ36 h30 => ?_)
    refine g_istore_n F (ls' := [(2, .int r35), (1, .int r33), (0, .ref (xa X q))]) d_M_readOutage_70 (by decide) rfl ?_
    refine g_aload_n F d_M_readOutage_71 2 rfl ?_
    refine g_iload_n F d_M_readOutage_72 0 rfl ?_
    refine g_sipush F (v := 9999) d_M_readOutage_73 (by decide) ?_
    refine g_callV F (dp := 2) (ci := 8) (As := [.int r35, .int (9999 : Int32)]) (c_M_take_II l _ _ _ hq _) cv_8_176 hq.1 rfl rfl rfl (Nat.le_of_ble_eq_true rfl) ⟨Nat.le_of_ble_eq_true rfl, Nat.le_of_ble_eq_true rfl⟩ ⟨Nat.zero_le _, Nat.zero_le _⟩ d_M_readOutage_76 (fun r37 σ38 h31 => ?_)
    refine g_istore_n F (ls' := [(3, .int r37), (2, .int r35), (1, .int r33), (0, .ref (xa X q))]) d_M_readOutage_79 (by decide) rfl ?_
    refine g_aload_n F d_M_readOutage_80 3 rfl ?_
    refine g_getI F fs_8_165 hq.1 rfl d_M_readOutage_81 ?_
    refine g_if_ne F (tgt := 95) d_M_readOutage_84 (by decide) (fun h32 => ?_) (fun h33 => ?_)
    · refine g_aload_n F d_M_readOutage_87 3 rfl ?_
      refine g_iload_n F d_M_readOutage_88 2 rfl ?_
      refine g_iload_n F d_M_readOutage_89 1 rfl ?_
      refine g_iload_n F d_M_readOutage_90 0 rfl ?_
      refine g_callV F (dp := 0) (ci := 8) (As := [.int r33, .int r35, .int r37]) (c_M_addGap l _ _ _ _ hq _) cv_8_127 hq.1 rfl rfl rfl (Nat.le_of_ble_eq_true rfl) ⟨Nat.le_of_ble_eq_true rfl, Nat.le_of_ble_eq_true rfl⟩ ⟨Nat.zero_le _, Nat.zero_le _⟩ d_M_readOutage_91 (fun r39 σ40 h34 => ?_)
      refine g_pop F d_M_readOutage_94 rfl ?_
      exact g_vret F hlk hr d_M_readOutage_95
    exact g_vret F hlk hr d_M_readOutage_95
  refine g_iconst F (v := 1) d_M_readOutage_11 (by decide) ?_
  refine g_goto F (tgt := 16) d_M_readOutage_12 (by decide) ?_
  refine g_callV F (dp := 2) (ci := 8) (As := [.int (1 : Int32)]) (c_M_take_Z l _ _ hq _) cv_8_172 hq.1 rfl rfl rfl (Nat.le_of_ble_eq_true rfl) ⟨Nat.le_of_ble_eq_true rfl, Nat.le_of_ble_eq_true rfl⟩ ⟨Nat.zero_le _, Nat.zero_le _⟩ d_M_readOutage_16 (fun _ σ42 h35 => ?_)
  refine g_aload_n F d_M_readOutage_19 0 rfl ?_
  refine g_aload_n F d_M_readOutage_20 0 rfl ?_
  refine g_getI F fs_8_165 hq.1 rfl d_M_readOutage_21 ?_
  refine g_if_ne F (tgt := 46) d_M_readOutage_24 (by decide) (fun h36 => ?_) (fun h37 => ?_)
  · refine g_aload_n F d_M_readOutage_27 0 rfl ?_
    refine g_getI F fs_8_159 hq.1 rfl d_M_readOutage_28 ?_
    refine g_iconst F (v := 1) d_M_readOutage_31 (by decide) ?_
    refine g_icmp_ne F (tgt := 46) d_M_readOutage_32 (by decide) (fun h38 => ?_) (fun h39 => ?_)
    · refine g_aload_n F d_M_readOutage_35 0 rfl ?_
      refine g_aload_n F d_M_readOutage_36 0 rfl ?_
      refine g_getI F fs_8_162 hq.1 rfl d_M_readOutage_37 ?_
      refine g_callV F (dp := 2) (ci := 8) (As := [.int (σ42 q 14)]) (c_M_isPhysical l _ _ hq _) cv_8_124 hq.1 rfl rfl rfl (Nat.le_of_ble_eq_true rfl) ⟨Nat.le_of_ble_eq_true rfl, Nat.le_of_ble_eq_true rfl⟩ ⟨Nat.zero_le _, Nat.zero_le _⟩ d_M_readOutage_40 (fun r43 σ44 h40 => ?_)
      refine g_if_ne F (tgt := 50) d_M_readOutage_43 (by decide) (fun h41 => ?_) (fun h42 => ?_)
      · refine g_iconst F (v := 1) d_M_readOutage_46 (by decide) ?_
        refine g_goto F (tgt := 51) d_M_readOutage_47 (by decide) ?_
        refine g_pt (q := (1 : Int32) &&& 1 = (1 : Int32)) (by decide) (g_putZ F fw_8_165 hq.1 rfl d_M_readOutage_51 ?_)
        refine g_ltM (fun σ45 _ => ?_)
        refine g_aload_n F d_M_readOutage_54 0 rfl ?_
        refine g_iconst F (v := 0) d_M_readOutage_55 (by decide) ?_
        refine g_bipush F (v := 7) d_M_readOutage_56 (by decide) ?_
        refine g_callV F (dp := 2) (ci := 8) (As := [.int (0 : Int32), .int (7 : Int32)]) (c_M_take_II l _ _ _ hq _) cv_8_176 hq.1 rfl rfl rfl (Nat.le_of_ble_eq_true rfl) ⟨Nat.le_of_ble_eq_true rfl, Nat.le_of_ble_eq_true rfl⟩ ⟨Nat.zero_le _, Nat.zero_le _⟩ d_M_readOutage_58 (fun r46 σ47 h43 => ?_)
        refine g_istore_n F (ls' := [(1, .int r46), (0, .ref (xa X q))]) d_M_readOutage_61 (by decide) rfl ?_
        refine g_aload_n F d_M_readOutage_62 1 rfl ?_
        refine g_iconst F (v := 0) d_M_readOutage_63 (by decide) ?_
        refine g_sipush F (v := 9999) d_M_readOutage_64 (by decide) ?_
        refine g_callV F (dp := 2) (ci := 8) (As := [.int (0 : Int32), .int (9999 : Int32)]) (c_M_take_II l _ _ _ hq _) cv_8_176 hq.1 rfl rfl rfl (Nat.le_of_ble_eq_true rfl) ⟨Nat.le_of_ble_eq_true rfl, Nat.le_of_ble_eq_true rfl⟩ ⟨Nat.zero_le _, Nat.zero_le _⟩ d_M_readOutage_67 (fun r48 σ49 h44 => ?_)
        refine g_istore_n F (ls' := [(2, .int r48), (1, .int r46), (0, .ref (xa X q))]) d_M_readOutage_70 (by decide) rfl ?_
        refine g_aload_n F d_M_readOutage_71 2 rfl ?_
        refine g_iload_n F d_M_readOutage_72 0 rfl ?_
        refine g_sipush F (v := 9999) d_M_readOutage_73 (by decide) ?_
        refine g_callV F (dp := 2) (ci := 8) (As := [.int r48, .int (9999 : Int32)]) (c_M_take_II l _ _ _ hq _) cv_8_176 hq.1 rfl rfl rfl (Nat.le_of_ble_eq_true rfl) ⟨Nat.le_of_ble_eq_true rfl, Nat.le_of_ble_eq_true rfl⟩ ⟨Nat.zero_le _, Nat.zero_le _⟩ d_M_readOutage_76 (fun r50 σ51 h45 => ?_)
        refine g_istore_n F (ls' := [(3, .int r50), (2, .int r48), (1, .int r46), (0, .ref (xa X q))]) d_M_readOutage_79 (by decide) rfl ?_
        refine g_aload_n F d_M_readOutage_80 3 rfl ?_
        refine g_getI F fs_8_165 hq.1 rfl d_M_readOutage_81 ?_
        refine g_if_ne F (tgt := 95) d_M_readOutage_84 (by decide) (fun h46 => ?_) (fun h47 => ?_)
        · refine g_aload_n F d_M_readOutage_87 3 rfl ?_
          refine g_iload_n F d_M_readOutage_88 2 rfl ?_
          refine g_iload_n F d_M_readOutage_89 1 rfl ?_
          refine g_iload_n F d_M_readOutage_90 0 rfl ?_
          refine g_callV F (dp := 0) (ci := 8) (As := [.int r46, .int r48, .int r50]) (c_M_addGap l _ _ _ _ hq _) cv_8_127 hq.1 rfl rfl rfl (Nat.le_of_ble_eq_true rfl) ⟨Nat.le_of_ble_eq_true rfl, Nat.le_of_ble_eq_true rfl⟩ ⟨Nat.zero_le _, Nat.zero_le _⟩ d_M_readOutage_91 (fun r52 σ53 h48 => ?_)
          refine g_pop F d_M_readOutage_94 rfl ?_
          exact g_vret F hlk hr d_M_readOutage_95
        exact g_vret F hlk hr d_M_readOutage_95
      refine g_iconst F (v := 0) d_M_readOutage_50 (by decide) ?_
      refine g_pt (q := (0 : Int32) &&& 1 = (0 : Int32)) (by decide) (g_putZ F fw_8_165 hq.1 rfl d_M_readOutage_51 ?_)
      refine g_ltM (fun σ54 _ => ?_)
      refine g_aload_n F d_M_readOutage_54 0 rfl ?_
      refine g_iconst F (v := 0) d_M_readOutage_55 (by decide) ?_
      refine g_bipush F (v := 7) d_M_readOutage_56 (by decide) ?_
      refine g_callV F (dp := 2) (ci := 8) (As := [.int (0 : Int32), .int (7 : Int32)]) (c_M_take_II l _ _ _ hq _) cv_8_176 hq.1 rfl rfl rfl (Nat.le_of_ble_eq_true rfl) ⟨Nat.le_of_ble_eq_true rfl, Nat.le_of_ble_eq_true rfl⟩ ⟨Nat.zero_le _, Nat.zero_le _⟩ d_M_readOutage_58 (fun r55 σ56 h49 => ?_)
      refine g_istore_n F (ls' := [(1, .int r55), (0, .ref (xa X q))]) d_M_readOutage_61 (by decide) rfl ?_
      refine g_aload_n F d_M_readOutage_62 1 rfl ?_
      refine g_iconst F (v := 0) d_M_readOutage_63 (by decide) ?_
      refine g_sipush F (v := 9999) d_M_readOutage_64 (by decide) ?_
      refine g_callV F (dp := 2) (ci := 8) (As := [.int (0 : Int32), .int (9999 : Int32)]) (c_M_take_II l _ _ _ hq _) cv_8_176 hq.1 rfl rfl rfl (Nat.le_of_ble_eq_true rfl) ⟨Nat.le_of_ble_eq_true rfl, Nat.le_of_ble_eq_true rfl⟩ ⟨Nat.zero_le _, Nat.zero_le _⟩ d_M_readOutage_67 (fun r57 σ58 h50 => ?_)
      refine g_istore_n F (ls' := [(2, .int r57), (1, .int r55), (0, .ref (xa X q))]) d_M_readOutage_70 (by decide) rfl ?_
      refine g_aload_n F d_M_readOutage_71 2 rfl ?_
      refine g_iload_n F d_M_readOutage_72 0 rfl ?_
      refine g_sipush F (v := 9999) d_M_readOutage_73 (by decide) ?_
      refine g_callV F (dp := 2) (ci := 8) (As := [.int r57, .int (9999 : Int32)]) (c_M_take_II l _ _ _ hq _) cv_8_176 hq.1 rfl rfl rfl (Nat.le_of_ble_eq_true rfl) ⟨Nat.le_of_ble_eq_true rfl, Nat.le_of_ble_eq_true rfl⟩ ⟨Nat.zero_le _, Nat.zero_le _⟩ d_M_readOutage_76 (fun r59 σ60 h51 => ?_)
      refine g_istore_n F (ls' := [(3, .int r59), (2, .int r57), (1, .int r55), (0, .ref (xa X q))]) d_M_readOutage_79 (by decide) rfl ?_
      refine g_aload_n F d_M_readOutage_80 3 rfl ?_
      refine g_getI F fs_8_165 hq.1 rfl d_M_readOutage_81 ?_
      refine g_if_ne F (tgt := 95) d_M_readOutage_84 (by decide) (fun h52 => ?_) (fun h53 => ?_)
      · refine g_aload_n F d_M_readOutage_87 3 rfl ?_
        refine g_iload_n F d_M_readOutage_88 2 rfl ?_
        refine g_iload_n F d_M_readOutage_89 1 rfl ?_
        refine g_iload_n F d_M_readOutage_90 0 rfl ?_
        refine g_callV F (dp := 0) (ci := 8) (As := [.int r55, .int r57, .int r59]) (c_M_addGap l _ _ _ _ hq _) cv_8_127 hq.1 rfl rfl rfl (Nat.le_of_ble_eq_true rfl) ⟨Nat.le_of_ble_eq_true rfl, Nat.le_of_ble_eq_true rfl⟩ ⟨Nat.zero_le _, Nat.zero_le _⟩ d_M_readOutage_91 (fun r61 σ62 h54 => ?_)
        refine g_pop F d_M_readOutage_94 rfl ?_
        exact g_vret F hlk hr d_M_readOutage_95
      exact g_vret F hlk hr d_M_readOutage_95
    refine g_iconst F (v := 1) d_M_readOutage_46 (by decide) ?_
    refine g_goto F (tgt := 51) d_M_readOutage_47 (by decide) ?_
    refine g_pt (q := (1 : Int32) &&& 1 = (1 : Int32)) (by decide) (g_putZ F fw_8_165 hq.1 rfl d_M_readOutage_51 ?_)
    refine g_ltM (fun σ63 _ => ?_)
    refine g_aload_n F d_M_readOutage_54 0 rfl ?_
    refine g_iconst F (v := 0) d_M_readOutage_55 (by decide) ?_
    refine g_bipush F (v := 7) d_M_readOutage_56 (by decide) ?_
    refine g_callV F (dp := 2) (ci := 8) (As := [.int (0 : Int32), .int (7 : Int32)]) (c_M_take_II l _ _ _ hq _) cv_8_176 hq.1 rfl rfl rfl (Nat.le_of_ble_eq_true rfl) ⟨Nat.le_of_ble_eq_true rfl, Nat.le_of_ble_eq_true rfl⟩ ⟨Nat.zero_le _, Nat.zero_le _⟩ d_M_readOutage_58 (fun r64 σ65 h55 => ?_)
    refine g_istore_n F (ls' := [(1, .int r64), (0, .ref (xa X q))]) d_M_readOutage_61 (by decide) rfl ?_
    refine g_aload_n F d_M_readOutage_62 1 rfl ?_
    refine g_iconst F (v := 0) d_M_readOutage_63 (by decide) ?_
    refine g_sipush F (v := 9999) d_M_readOutage_64 (by decide) ?_
    refine g_callV F (dp := 2) (ci := 8) (As := [.int (0 : Int32), .int (9999 : Int32)]) (c_M_take_II l _ _ _ hq _) cv_8_176 hq.1 rfl rfl rfl (Nat.le_of_ble_eq_true rfl) ⟨Nat.le_of_ble_eq_true rfl, Nat.le_of_ble_eq_true rfl⟩ ⟨Nat.zero_le _, Nat.zero_le _⟩ d_M_readOutage_67 (fun r66 σ67 h56 => ?_)
    refine g_istore_n F (ls' := [(2, .int r66), (1, .int r64), (0, .ref (xa X q))]) d_M_readOutage_70 (by decide) rfl ?_
    refine g_aload_n F d_M_readOutage_71 2 rfl ?_
    refine g_iload_n F d_M_readOutage_72 0 rfl ?_
    refine g_sipush F (v := 9999) d_M_readOutage_73 (by decide) ?_
    refine g_callV F (dp := 2) (ci := 8) (As := [.int r66, .int (9999 : Int32)]) (c_M_take_II l _ _ _ hq _) cv_8_176 hq.1 rfl rfl rfl (Nat.le_of_ble_eq_true rfl) ⟨Nat.le_of_ble_eq_true rfl, Nat.le_of_ble_eq_true rfl⟩ ⟨Nat.zero_le _, Nat.zero_le _⟩ d_M_readOutage_76 (fun r68 σ69 h57 => ?_)
    refine g_istore_n F (ls' := [(3, .int r68), (2, .int r66), (1, .int r64), (0, .ref (xa X q))]) d_M_readOutage_79 (by decide) rfl ?_
    refine g_aload_n F d_M_readOutage_80 3 rfl ?_
    refine g_getI F fs_8_165 hq.1 rfl d_M_readOutage_81 ?_
    refine g_if_ne F (tgt := 95) d_M_readOutage_84 (by decide) (fun h58 => ?_) (fun h59 => ?_)
    · refine g_aload_n F d_M_readOutage_87 3 rfl ?_
      refine g_iload_n F d_M_readOutage_88 2 rfl ?_
      refine g_iload_n F d_M_readOutage_89 1 rfl ?_
      refine g_iload_n F d_M_readOutage_90 0 rfl ?_
      refine g_callV F (dp := 0) (ci := 8) (As := [.int r64, .int r66, .int r68]) (c_M_addGap l _ _ _ _ hq _) cv_8_127 hq.1 rfl rfl rfl (Nat.le_of_ble_eq_true rfl) ⟨Nat.le_of_ble_eq_true rfl, Nat.le_of_ble_eq_true rfl⟩ ⟨Nat.zero_le _, Nat.zero_le _⟩ d_M_readOutage_91 (fun r70 σ71 h60 => ?_)
      refine g_pop F d_M_readOutage_94 rfl ?_
      exact g_vret F hlk hr d_M_readOutage_95
    exact g_vret F hlk hr d_M_readOutage_95
  refine g_iconst F (v := 1) d_M_readOutage_46 (by decide) ?_
  refine g_goto F (tgt := 51) d_M_readOutage_47 (by decide) ?_
  refine g_pt (q := (1 : Int32) &&& 1 = (1 : Int32)) (by decide) (g_putZ F fw_8_165 hq.1 rfl d_M_readOutage_51 ?_)
  refine g_ltM (fun σ72 _ => ?_)
  refine g_aload_n F d_M_readOutage_54 0 rfl ?_
  refine g_iconst F (v := 0) d_M_readOutage_55 (by decide) ?_
  refine g_bipush F (v := 7) d_M_readOutage_56 (by decide) ?_
  refine g_callV F (dp := 2) (ci := 8) (As := [.int (0 : Int32), .int (7 : Int32)]) (c_M_take_II l _ _ _ hq _) cv_8_176 hq.1 rfl rfl rfl (Nat.le_of_ble_eq_true rfl) ⟨Nat.le_of_ble_eq_true rfl, Nat.le_of_ble_eq_true rfl⟩ ⟨Nat.zero_le _, Nat.zero_le _⟩ d_M_readOutage_58 (fun r73 σ74 h61 => ?_)
  refine g_istore_n F (ls' := [(1, .int r73), (0, .ref (xa X q))]) d_M_readOutage_61 (by decide) rfl ?_
  refine g_aload_n F d_M_readOutage_62 1 rfl ?_
  refine g_iconst F (v := 0) d_M_readOutage_63 (by decide) ?_
  refine g_sipush F (v := 9999) d_M_readOutage_64 (by decide) ?_
  refine g_callV F (dp := 2) (ci := 8) (As := [.int (0 : Int32), .int (9999 : Int32)]) (c_M_take_II l _ _ _ hq _) cv_8_176 hq.1 rfl rfl rfl (Nat.le_of_ble_eq_true rfl) ⟨Nat.le_of_ble_eq_true rfl, Nat.le_of_ble_eq_true rfl⟩ ⟨Nat.zero_le _, Nat.zero_le _⟩ d_M_readOutage_67 (fun r75 σ76 h62 => ?_)
  refine g_istore_n F (ls' := [(2, .int r75), (1, .int r73), (0, .ref (xa X q))]) d_M_readOutage_70 (by decide) rfl ?_
  refine g_aload_n F d_M_readOutage_71 2 rfl ?_
  refine g_iload_n F d_M_readOutage_72 0 rfl ?_
  refine g_sipush F (v := 9999) d_M_readOutage_73 (by decide) ?_
  refine g_callV F (dp := 2) (ci := 8) (As := [.int r75, .int (9999 : Int32)]) (c_M_take_II l _ _ _ hq _) cv_8_176 hq.1 rfl rfl rfl (Nat.le_of_ble_eq_true rfl) ⟨Nat.le_of_ble_eq_true rfl, Nat.le_of_ble_eq_true rfl⟩ ⟨Nat.zero_le _, Nat.zero_le _⟩ d_M_readOutage_76 (fun r77 σ78 h63 => ?_)
  refine g_istore_n F (ls' := [(3, .int r77), (2, .int r75), (1, .int r73), (0, .ref (xa X q))]) d_M_readOutage_79 (by decide) rfl ?_
  refine g_aload_n F d_M_readOutage_80 3 rfl ?_
  refine g_getI F fs_8_165 hq.1 rfl d_M_readOutage_81 ?_
  refine g_if_ne F (tgt := 95) d_M_readOutage_84 (by decide) (fun h64 => ?_) (fun h65 => ?_)
  · refine g_aload_n F d_M_readOutage_87 3 rfl ?_
    refine g_iload_n F d_M_readOutage_88 2 rfl ?_
    refine g_iload_n F d_M_readOutage_89 1 rfl ?_
    refine g_iload_n F d_M_readOutage_90 0 rfl ?_
    refine g_callV F (dp := 0) (ci := 8) (As := [.int r73, .int r75, .int r77]) (c_M_addGap l _ _ _ _ hq _) cv_8_127 hq.1 rfl rfl rfl (Nat.le_of_ble_eq_true rfl) ⟨Nat.le_of_ble_eq_true rfl, Nat.le_of_ble_eq_true rfl⟩ ⟨Nat.zero_le _, Nat.zero_le _⟩ d_M_readOutage_91 (fun r79 σ80 h66 => ?_)
    refine g_pop F d_M_readOutage_94 rfl ?_
    exact g_vret F hlk hr d_M_readOutage_95
  exact g_vret F hlk hr d_M_readOutage_95
def y_M_readItem : MethodName := ⟨"SensorHubModel", "readItem", "()V"⟩
theorem d_M_readItem_0 : decode prog_10_method_56_code 0 = .ok (.aload_n 0, 1) := by decide +kernel
theorem d_M_readItem_1 : decode prog_10_method_56_code 1 = .ok (.bipush 115, 2) := by decide +kernel
theorem d_M_readItem_3 : decode prog_10_method_56_code 3 = .ok (.bipush 101, 2) := by decide +kernel
theorem d_M_readItem_5 : decode prog_10_method_56_code 5 = .ok (.bipush 110, 2) := by decide +kernel
theorem d_M_readItem_7 : decode prog_10_method_56_code 7 = .ok (.bipush 115, 2) := by decide +kernel
theorem d_M_readItem_9 : decode prog_10_method_56_code 9 = .ok (.bipush 111, 2) := by decide +kernel
theorem d_M_readItem_11 : decode prog_10_method_56_code 11 = .ok (.bipush 114, 2) := by decide +kernel
theorem d_M_readItem_13 : decode prog_10_method_56_code 13 = .ok (.invokevirtual 178, 3) := by decide +kernel
theorem d_M_readItem_16 : decode prog_10_method_56_code 16 = .ok (.ifCond .eq 10, 3) := by decide +kernel
theorem d_M_readItem_19 : decode prog_10_method_56_code 19 = .ok (.aload_n 0, 1) := by decide +kernel
theorem d_M_readItem_20 : decode prog_10_method_56_code 20 = .ok (.invokevirtual 182, 3) := by decide +kernel
theorem d_M_readItem_23 : decode prog_10_method_56_code 23 = .ok (.goto 126, 3) := by decide +kernel
theorem d_M_readItem_26 : decode prog_10_method_56_code 26 = .ok (.aload_n 0, 1) := by decide +kernel
theorem d_M_readItem_27 : decode prog_10_method_56_code 27 = .ok (.bipush 115, 2) := by decide +kernel
theorem d_M_readItem_29 : decode prog_10_method_56_code 29 = .ok (.bipush 117, 2) := by decide +kernel
theorem d_M_readItem_31 : decode prog_10_method_56_code 31 = .ok (.bipush 109, 2) := by decide +kernel
theorem d_M_readItem_33 : decode prog_10_method_56_code 33 = .ok (.invokevirtual 185, 3) := by decide +kernel
theorem d_M_readItem_36 : decode prog_10_method_56_code 36 = .ok (.ifCond .eq 11, 3) := by decide +kernel
theorem d_M_readItem_39 : decode prog_10_method_56_code 39 = .ok (.aload_n 0, 1) := by decide +kernel
theorem d_M_readItem_40 : decode prog_10_method_56_code 40 = .ok (.iconst 0, 1) := by decide +kernel
theorem d_M_readItem_41 : decode prog_10_method_56_code 41 = .ok (.invokevirtual 188, 3) := by decide +kernel
theorem d_M_readItem_44 : decode prog_10_method_56_code 44 = .ok (.goto 105, 3) := by decide +kernel
theorem d_M_readItem_47 : decode prog_10_method_56_code 47 = .ok (.aload_n 0, 1) := by decide +kernel
theorem d_M_readItem_48 : decode prog_10_method_56_code 48 = .ok (.bipush 100, 2) := by decide +kernel
theorem d_M_readItem_50 : decode prog_10_method_56_code 50 = .ok (.bipush 105, 2) := by decide +kernel
theorem d_M_readItem_52 : decode prog_10_method_56_code 52 = .ok (.bipush 102, 2) := by decide +kernel
theorem d_M_readItem_54 : decode prog_10_method_56_code 54 = .ok (.bipush 102, 2) := by decide +kernel
theorem d_M_readItem_56 : decode prog_10_method_56_code 56 = .ok (.iconst 0, 1) := by decide +kernel
theorem d_M_readItem_57 : decode prog_10_method_56_code 57 = .ok (.iconst 0, 1) := by decide +kernel
theorem d_M_readItem_58 : decode prog_10_method_56_code 58 = .ok (.invokevirtual 178, 3) := by decide +kernel
theorem d_M_readItem_61 : decode prog_10_method_56_code 61 = .ok (.ifCond .eq 11, 3) := by decide +kernel
theorem d_M_readItem_64 : decode prog_10_method_56_code 64 = .ok (.aload_n 0, 1) := by decide +kernel
theorem d_M_readItem_65 : decode prog_10_method_56_code 65 = .ok (.iconst 1, 1) := by decide +kernel
theorem d_M_readItem_66 : decode prog_10_method_56_code 66 = .ok (.invokevirtual 188, 3) := by decide +kernel
theorem d_M_readItem_69 : decode prog_10_method_56_code 69 = .ok (.goto 80, 3) := by decide +kernel
theorem d_M_readItem_72 : decode prog_10_method_56_code 72 = .ok (.aload_n 0, 1) := by decide +kernel
theorem d_M_readItem_73 : decode prog_10_method_56_code 73 = .ok (.bipush 109, 2) := by decide +kernel
theorem d_M_readItem_75 : decode prog_10_method_56_code 75 = .ok (.bipush 97, 2) := by decide +kernel
theorem d_M_readItem_77 : decode prog_10_method_56_code 77 = .ok (.bipush 120, 2) := by decide +kernel
theorem d_M_readItem_79 : decode prog_10_method_56_code 79 = .ok (.invokevirtual 185, 3) := by decide +kernel
theorem d_M_readItem_82 : decode prog_10_method_56_code 82 = .ok (.ifCond .eq 11, 3) := by decide +kernel
theorem d_M_readItem_85 : decode prog_10_method_56_code 85 = .ok (.aload_n 0, 1) := by decide +kernel
theorem d_M_readItem_86 : decode prog_10_method_56_code 86 = .ok (.iconst 2, 1) := by decide +kernel
theorem d_M_readItem_87 : decode prog_10_method_56_code 87 = .ok (.invokevirtual 188, 3) := by decide +kernel
theorem d_M_readItem_90 : decode prog_10_method_56_code 90 = .ok (.goto 59, 3) := by decide +kernel
theorem d_M_readItem_93 : decode prog_10_method_56_code 93 = .ok (.aload_n 0, 1) := by decide +kernel
theorem d_M_readItem_94 : decode prog_10_method_56_code 94 = .ok (.bipush 109, 2) := by decide +kernel
theorem d_M_readItem_96 : decode prog_10_method_56_code 96 = .ok (.bipush 101, 2) := by decide +kernel
theorem d_M_readItem_98 : decode prog_10_method_56_code 98 = .ok (.bipush 97, 2) := by decide +kernel
theorem d_M_readItem_100 : decode prog_10_method_56_code 100 = .ok (.bipush 110, 2) := by decide +kernel
theorem d_M_readItem_102 : decode prog_10_method_56_code 102 = .ok (.iconst 0, 1) := by decide +kernel
theorem d_M_readItem_103 : decode prog_10_method_56_code 103 = .ok (.iconst 0, 1) := by decide +kernel
theorem d_M_readItem_104 : decode prog_10_method_56_code 104 = .ok (.invokevirtual 178, 3) := by decide +kernel
theorem d_M_readItem_107 : decode prog_10_method_56_code 107 = .ok (.ifCond .eq 11, 3) := by decide +kernel
theorem d_M_readItem_110 : decode prog_10_method_56_code 110 = .ok (.aload_n 0, 1) := by decide +kernel
theorem d_M_readItem_111 : decode prog_10_method_56_code 111 = .ok (.iconst 3, 1) := by decide +kernel
theorem d_M_readItem_112 : decode prog_10_method_56_code 112 = .ok (.invokevirtual 188, 3) := by decide +kernel
theorem d_M_readItem_115 : decode prog_10_method_56_code 115 = .ok (.goto 34, 3) := by decide +kernel
theorem d_M_readItem_118 : decode prog_10_method_56_code 118 = .ok (.aload_n 0, 1) := by decide +kernel
theorem d_M_readItem_119 : decode prog_10_method_56_code 119 = .ok (.bipush 111, 2) := by decide +kernel
theorem d_M_readItem_121 : decode prog_10_method_56_code 121 = .ok (.bipush 117, 2) := by decide +kernel
theorem d_M_readItem_123 : decode prog_10_method_56_code 123 = .ok (.bipush 116, 2) := by decide +kernel
theorem d_M_readItem_125 : decode prog_10_method_56_code 125 = .ok (.bipush 97, 2) := by decide +kernel
theorem d_M_readItem_127 : decode prog_10_method_56_code 127 = .ok (.bipush 103, 2) := by decide +kernel
theorem d_M_readItem_129 : decode prog_10_method_56_code 129 = .ok (.bipush 101, 2) := by decide +kernel
theorem d_M_readItem_131 : decode prog_10_method_56_code 131 = .ok (.invokevirtual 178, 3) := by decide +kernel
theorem d_M_readItem_134 : decode prog_10_method_56_code 134 = .ok (.ifCond .eq 10, 3) := by decide +kernel
theorem d_M_readItem_137 : decode prog_10_method_56_code 137 = .ok (.aload_n 0, 1) := by decide +kernel
theorem d_M_readItem_138 : decode prog_10_method_56_code 138 = .ok (.invokevirtual 191, 3) := by decide +kernel
theorem d_M_readItem_141 : decode prog_10_method_56_code 141 = .ok (.goto 8, 3) := by decide +kernel
theorem d_M_readItem_144 : decode prog_10_method_56_code 144 = .ok (.aload_n 0, 1) := by decide +kernel
theorem d_M_readItem_145 : decode prog_10_method_56_code 145 = .ok (.iconst 1, 1) := by decide +kernel
theorem d_M_readItem_146 : decode prog_10_method_56_code 146 = .ok (.putfield 165, 3) := by decide +kernel
theorem d_M_readItem_149 : decode prog_10_method_56_code 149 = .ok (.aload_n 0, 1) := by decide +kernel
theorem d_M_readItem_150 : decode prog_10_method_56_code 150 = .ok (.aload_n 0, 1) := by decide +kernel
theorem d_M_readItem_151 : decode prog_10_method_56_code 151 = .ok (.getfield 159, 3) := by decide +kernel
theorem d_M_readItem_154 : decode prog_10_method_56_code 154 = .ok (.iconst 2, 1) := by decide +kernel
theorem d_M_readItem_155 : decode prog_10_method_56_code 155 = .ok (.if_icmp .ne 28, 3) := by decide +kernel
theorem d_M_readItem_158 : decode prog_10_method_56_code 158 = .ok (.aload_n 0, 1) := by decide +kernel
theorem d_M_readItem_159 : decode prog_10_method_56_code 159 = .ok (.getfield 165, 3) := by decide +kernel
theorem d_M_readItem_162 : decode prog_10_method_56_code 162 = .ok (.ifCond .ne 21, 3) := by decide +kernel
theorem d_M_readItem_165 : decode prog_10_method_56_code 165 = .ok (.aload_n 0, 1) := by decide +kernel
theorem d_M_readItem_166 : decode prog_10_method_56_code 166 = .ok (.getfield 16, 3) := by decide +kernel
theorem d_M_readItem_169 : decode prog_10_method_56_code 169 = .ok (.aload_n 0, 1) := by decide +kernel
theorem d_M_readItem_170 : decode prog_10_method_56_code 170 = .ok (.getfield 156, 3) := by decide +kernel
theorem d_M_readItem_173 : decode prog_10_method_56_code 173 = .ok (.iaload, 1) := by decide +kernel
theorem d_M_readItem_174 : decode prog_10_method_56_code 174 = .ok (.bipush 59, 2) := by decide +kernel
theorem d_M_readItem_176 : decode prog_10_method_56_code 176 = .ok (.if_icmp .ne 7, 3) := by decide +kernel
theorem d_M_readItem_179 : decode prog_10_method_56_code 179 = .ok (.iconst 1, 1) := by decide +kernel
theorem d_M_readItem_180 : decode prog_10_method_56_code 180 = .ok (.goto 4, 3) := by decide +kernel
theorem d_M_readItem_183 : decode prog_10_method_56_code 183 = .ok (.iconst 0, 1) := by decide +kernel
theorem d_M_readItem_184 : decode prog_10_method_56_code 184 = .ok (.invokevirtual 172, 3) := by decide +kernel
theorem d_M_readItem_187 : decode prog_10_method_56_code 187 = .ok (.return_, 1) := by decide +kernel
theorem cv_8_178 : CSV "SensorHubModel" 178 y_M_isLong prog_10_method_50_code 8 (some .boolean) 6 := ⟨gw_I 1080 (by decide +kernel) rfl, gw_I 1082 (by decide +kernel) rfl, gw_I 50 (by decide +kernel) rfl, gw_I 78 (by decide +kernel) rfl, gw_I 1083 (by decide +kernel) rfl, ⟨by decide +kernel, by decide +kernel⟩, by decide +kernel⟩
theorem cv_8_185 : CSV "SensorHubModel" 185 y_M_isWord prog_10_method_49_code 4 (some .boolean) 3 := ⟨gw_I 1096 (by decide +kernel) rfl, gw_I 1098 (by decide +kernel) rfl, gw_I 54 (by decide +kernel) rfl, gw_I 78 (by decide +kernel) rfl, gw_I 1099 (by decide +kernel) rfl, ⟨by decide +kernel, by decide +kernel⟩, by decide +kernel⟩
theorem cv_8_191 : CSV "SensorHubModel" 191 y_M_readOutage prog_10_method_55_code 4 none 0 := ⟨gw_I 1104 (by decide +kernel) rfl, gw_I 1106 (by decide +kernel) rfl, gw_I 56 (by decide +kernel) rfl, gw_I 78 (by decide +kernel) rfl, gw_I 1107 (by decide +kernel) rfl, ⟨by decide +kernel, by decide +kernel⟩, by decide +kernel⟩
theorem cv_8_188 : CSV "SensorHubModel" 188 y_M_readDerived prog_10_method_54_code 4 none 1 := ⟨gw_I 1100 (by decide +kernel) rfl, gw_I 1102 (by decide +kernel) rfl, gw_I 55 (by decide +kernel) rfl, gw_I 78 (by decide +kernel) rfl, gw_I 1103 (by decide +kernel) rfl, ⟨by decide +kernel, by decide +kernel⟩, by decide +kernel⟩
theorem cv_8_182 : CSV "SensorHubModel" 182 y_M_readSensor prog_10_method_53_code 7 none 0 := ⟨gw_I 1084 (by decide +kernel) rfl, gw_I 1086 (by decide +kernel) rfl, gw_I 51 (by decide +kernel) rfl, gw_I 78 (by decide +kernel) rfl, gw_I 1087 (by decide +kernel) rfl, ⟨by decide +kernel, by decide +kernel⟩, by decide +kernel⟩
def f_M_readItem (q : Nat) (σ : Mem) : Option (Unit × Mem) :=
  bd (f_M_isLong q (115 : Int32) (101 : Int32) (110 : Int32) (115 : Int32) (111 : Int32) (114 : Int32) σ) fun r1 σ2 =>
  if r1 = 0 then
    bd (f_M_isWord q (115 : Int32) (117 : Int32) (109 : Int32) σ2) fun r3 σ4 =>
    if r3 = 0 then
      bd (f_M_isLong q (100 : Int32) (105 : Int32) (102 : Int32) (102 : Int32) (0 : Int32) (0 : Int32) σ4) fun r5 σ6 =>
      if r5 = 0 then
        bd (f_M_isWord q (109 : Int32) (97 : Int32) (120 : Int32) σ6) fun r7 σ8 =>
        if r7 = 0 then
          bd (f_M_isLong q (109 : Int32) (101 : Int32) (97 : Int32) (110 : Int32) (0 : Int32) (0 : Int32) σ8) fun r9 σ10 =>
          if r9 = 0 then
            bd (f_M_isLong q (111 : Int32) (117 : Int32) (116 : Int32) (97 : Int32) (103 : Int32) (101 : Int32) σ10) fun r11 σ12 =>
            if r11 = 0 then
              lt (wr σ12 q 15 (1 : Int32)) fun σ13 =>
              if (σ13 q 13) = (2 : Int32) then
                if (σ13 q 15) = 0 then
                  if ib (σ13 q 12) 160 then
                    if (σ13 (q + 3) (σ13 q 12).toNatClampNeg) = (59 : Int32) then
                      bd (f_M_take_Z q (1 : Int32) σ13) fun _ σ15 =>
                      some ((), σ15)
                    else
                      bd (f_M_take_Z q (0 : Int32) σ13) fun _ σ17 =>
                      some ((), σ17)
                  else none
                else
                  bd (f_M_take_Z q (0 : Int32) σ13) fun _ σ19 =>
                  some ((), σ19)
              else
                bd (f_M_take_Z q (0 : Int32) σ13) fun _ σ21 =>
                some ((), σ21)
            else
              bd (f_M_readOutage q σ12) fun _ σ23 =>
              if (σ23 q 13) = (2 : Int32) then
                if (σ23 q 15) = 0 then
                  if ib (σ23 q 12) 160 then
                    if (σ23 (q + 3) (σ23 q 12).toNatClampNeg) = (59 : Int32) then
                      bd (f_M_take_Z q (1 : Int32) σ23) fun _ σ25 =>
                      some ((), σ25)
                    else
                      bd (f_M_take_Z q (0 : Int32) σ23) fun _ σ27 =>
                      some ((), σ27)
                  else none
                else
                  bd (f_M_take_Z q (0 : Int32) σ23) fun _ σ29 =>
                  some ((), σ29)
              else
                bd (f_M_take_Z q (0 : Int32) σ23) fun _ σ31 =>
                some ((), σ31)
          else
            bd (f_M_readDerived q (3 : Int32) σ10) fun _ σ33 =>
            if (σ33 q 13) = (2 : Int32) then
              if (σ33 q 15) = 0 then
                if ib (σ33 q 12) 160 then
                  if (σ33 (q + 3) (σ33 q 12).toNatClampNeg) = (59 : Int32) then
                    bd (f_M_take_Z q (1 : Int32) σ33) fun _ σ35 =>
                    some ((), σ35)
                  else
                    bd (f_M_take_Z q (0 : Int32) σ33) fun _ σ37 =>
                    some ((), σ37)
                else none
              else
                bd (f_M_take_Z q (0 : Int32) σ33) fun _ σ39 =>
                some ((), σ39)
            else
              bd (f_M_take_Z q (0 : Int32) σ33) fun _ σ41 =>
              some ((), σ41)
        else
          bd (f_M_readDerived q (2 : Int32) σ8) fun _ σ43 =>
          if (σ43 q 13) = (2 : Int32) then
            if (σ43 q 15) = 0 then
              if ib (σ43 q 12) 160 then
                if (σ43 (q + 3) (σ43 q 12).toNatClampNeg) = (59 : Int32) then
                  bd (f_M_take_Z q (1 : Int32) σ43) fun _ σ45 =>
                  some ((), σ45)
                else
                  bd (f_M_take_Z q (0 : Int32) σ43) fun _ σ47 =>
                  some ((), σ47)
              else none
            else
              bd (f_M_take_Z q (0 : Int32) σ43) fun _ σ49 =>
              some ((), σ49)
          else
            bd (f_M_take_Z q (0 : Int32) σ43) fun _ σ51 =>
            some ((), σ51)
      else
        bd (f_M_readDerived q (1 : Int32) σ6) fun _ σ53 =>
        if (σ53 q 13) = (2 : Int32) then
          if (σ53 q 15) = 0 then
            if ib (σ53 q 12) 160 then
              if (σ53 (q + 3) (σ53 q 12).toNatClampNeg) = (59 : Int32) then
                bd (f_M_take_Z q (1 : Int32) σ53) fun _ σ55 =>
                some ((), σ55)
              else
                bd (f_M_take_Z q (0 : Int32) σ53) fun _ σ57 =>
                some ((), σ57)
            else none
          else
            bd (f_M_take_Z q (0 : Int32) σ53) fun _ σ59 =>
            some ((), σ59)
        else
          bd (f_M_take_Z q (0 : Int32) σ53) fun _ σ61 =>
          some ((), σ61)
    else
      bd (f_M_readDerived q (0 : Int32) σ4) fun _ σ63 =>
      if (σ63 q 13) = (2 : Int32) then
        if (σ63 q 15) = 0 then
          if ib (σ63 q 12) 160 then
            if (σ63 (q + 3) (σ63 q 12).toNatClampNeg) = (59 : Int32) then
              bd (f_M_take_Z q (1 : Int32) σ63) fun _ σ65 =>
              some ((), σ65)
            else
              bd (f_M_take_Z q (0 : Int32) σ63) fun _ σ67 =>
              some ((), σ67)
          else none
        else
          bd (f_M_take_Z q (0 : Int32) σ63) fun _ σ69 =>
          some ((), σ69)
      else
        bd (f_M_take_Z q (0 : Int32) σ63) fun _ σ71 =>
        some ((), σ71)
  else
    bd (f_M_readSensor q σ2) fun _ σ73 =>
    if (σ73 q 13) = (2 : Int32) then
      if (σ73 q 15) = 0 then
        if ib (σ73 q 12) 160 then
          if (σ73 (q + 3) (σ73 q 12).toNatClampNeg) = (59 : Int32) then
            bd (f_M_take_Z q (1 : Int32) σ73) fun _ σ75 =>
            some ((), σ75)
          else
            bd (f_M_take_Z q (0 : Int32) σ73) fun _ σ77 =>
            some ((), σ77)
        else none
      else
        bd (f_M_take_Z q (0 : Int32) σ73) fun _ σ79 =>
        some ((), σ79)
    else
      bd (f_M_take_Z q (0 : Int32) σ73) fun _ σ81 =>
      some ((), σ81)
set_option maxRecDepth 100000 in
set_option maxHeartbeats 4000000 in
theorem c_M_readItem {X : CX} (l : Launch) (q : Nat) (hq : ModelOK X q) (σ : Mem) : CT X l y_M_readItem prog_10_method_56_code 1 none 4 vU [.ref (xa X q)] σ (f_M_readItem q σ) := by
  refine CT_of (by decide +kernel) (Nat.le_of_ble_eq_true rfl) ?_
  intro p e s m args below meth c F hlk hr
  have F : FR p s m args c prog_10_method_56_code 1 "SensorHubModel" X := F
  show G X p l e (rmD 4) s m args below meth c 1 0 0 (QI X below args s vU) 0 [(0, .ref (xa X q))] [] σ _
  unfold f_M_readItem
  refine g_aload_n F d_M_readItem_0 0 rfl ?_
  refine g_bipush F (v := 115) d_M_readItem_1 (by decide) ?_
  refine g_bipush F (v := 101) d_M_readItem_3 (by decide) ?_
  refine g_bipush F (v := 110) d_M_readItem_5 (by decide) ?_
  refine g_bipush F (v := 115) d_M_readItem_7 (by decide) ?_
  refine g_bipush F (v := 111) d_M_readItem_9 (by decide) ?_
  refine g_bipush F (v := 114) d_M_readItem_11 (by decide) ?_
  refine g_callV F (dp := 0) (ci := 8) (As := [.int (115 : Int32), .int (101 : Int32), .int (110 : Int32), .int (115 : Int32), .int (111 : Int32), .int (114 : Int32)]) (c_M_isLong l _ _ _ _ _ _ _ hq _) cv_8_178 hq.1 rfl rfl rfl (Nat.le_of_ble_eq_true rfl) ⟨Nat.le_of_ble_eq_true rfl, Nat.le_of_ble_eq_true rfl⟩ ⟨Nat.zero_le _, Nat.zero_le _⟩ d_M_readItem_13 (fun r1 σ2 h1 => ?_)
  refine g_if_eq F (tgt := 26) d_M_readItem_16 (by decide) (fun h2 => ?_) (fun h3 => ?_)
  · refine g_aload_n F d_M_readItem_26 0 rfl ?_
    refine g_bipush F (v := 115) d_M_readItem_27 (by decide) ?_
    refine g_bipush F (v := 117) d_M_readItem_29 (by decide) ?_
    refine g_bipush F (v := 109) d_M_readItem_31 (by decide) ?_
    refine g_callV F (dp := 0) (ci := 8) (As := [.int (115 : Int32), .int (117 : Int32), .int (109 : Int32)]) (c_M_isWord l _ _ _ _ hq _) cv_8_185 hq.1 rfl rfl rfl (Nat.le_of_ble_eq_true rfl) ⟨Nat.le_of_ble_eq_true rfl, Nat.le_of_ble_eq_true rfl⟩ ⟨Nat.zero_le _, Nat.zero_le _⟩ d_M_readItem_33 (fun r3 σ4 h4 => ?_)
    refine g_if_eq F (tgt := 47) d_M_readItem_36 (by decide) (fun h5 => ?_) (fun h6 => ?_)
    · refine g_aload_n F d_M_readItem_47 0 rfl ?_
      refine g_bipush F (v := 100) d_M_readItem_48 (by decide) ?_
      refine g_bipush F (v := 105) d_M_readItem_50 (by decide) ?_
      refine g_bipush F (v := 102) d_M_readItem_52 (by decide) ?_
      refine g_bipush F (v := 102) d_M_readItem_54 (by decide) ?_
      refine g_iconst F (v := 0) d_M_readItem_56 (by decide) ?_
      refine g_iconst F (v := 0) d_M_readItem_57 (by decide) ?_
      refine g_callV F (dp := 0) (ci := 8) (As := [.int (100 : Int32), .int (105 : Int32), .int (102 : Int32), .int (102 : Int32), .int (0 : Int32), .int (0 : Int32)]) (c_M_isLong l _ _ _ _ _ _ _ hq _) cv_8_178 hq.1 rfl rfl rfl (Nat.le_of_ble_eq_true rfl) ⟨Nat.le_of_ble_eq_true rfl, Nat.le_of_ble_eq_true rfl⟩ ⟨Nat.zero_le _, Nat.zero_le _⟩ d_M_readItem_58 (fun r5 σ6 h7 => ?_)
      refine g_if_eq F (tgt := 72) d_M_readItem_61 (by decide) (fun h8 => ?_) (fun h9 => ?_)
      · refine g_aload_n F d_M_readItem_72 0 rfl ?_
        refine g_bipush F (v := 109) d_M_readItem_73 (by decide) ?_
        refine g_bipush F (v := 97) d_M_readItem_75 (by decide) ?_
        refine g_bipush F (v := 120) d_M_readItem_77 (by decide) ?_
        refine g_callV F (dp := 0) (ci := 8) (As := [.int (109 : Int32), .int (97 : Int32), .int (120 : Int32)]) (c_M_isWord l _ _ _ _ hq _) cv_8_185 hq.1 rfl rfl rfl (Nat.le_of_ble_eq_true rfl) ⟨Nat.le_of_ble_eq_true rfl, Nat.le_of_ble_eq_true rfl⟩ ⟨Nat.zero_le _, Nat.zero_le _⟩ d_M_readItem_79 (fun r7 σ8 h10 => ?_)
        refine g_if_eq F (tgt := 93) d_M_readItem_82 (by decide) (fun h11 => ?_) (fun h12 => ?_)
        · refine g_aload_n F d_M_readItem_93 0 rfl ?_
          refine g_bipush F (v := 109) d_M_readItem_94 (by decide) ?_
          refine g_bipush F (v := 101) d_M_readItem_96 (by decide) ?_
          refine g_bipush F (v := 97) d_M_readItem_98 (by decide) ?_
          refine g_bipush F (v := 110) d_M_readItem_100 (by decide) ?_
          refine g_iconst F (v := 0) d_M_readItem_102 (by decide) ?_
          refine g_iconst F (v := 0) d_M_readItem_103 (by decide) ?_
          refine g_callV F (dp := 0) (ci := 8) (As := [.int (109 : Int32), .int (101 : Int32), .int (97 : Int32), .int (110 : Int32), .int (0 : Int32), .int (0 : Int32)]) (c_M_isLong l _ _ _ _ _ _ _ hq _) cv_8_178 hq.1 rfl rfl rfl (Nat.le_of_ble_eq_true rfl) ⟨Nat.le_of_ble_eq_true rfl, Nat.le_of_ble_eq_true rfl⟩ ⟨Nat.zero_le _, Nat.zero_le _⟩ d_M_readItem_104 (fun r9 σ10 h13 => ?_)
          refine g_if_eq F (tgt := 118) d_M_readItem_107 (by decide) (fun h14 => ?_) (fun h15 => ?_)
          · refine g_aload_n F d_M_readItem_118 0 rfl ?_
            refine g_bipush F (v := 111) d_M_readItem_119 (by decide) ?_
            refine g_bipush F (v := 117) d_M_readItem_121 (by decide) ?_
            refine g_bipush F (v := 116) d_M_readItem_123 (by decide) ?_
            refine g_bipush F (v := 97) d_M_readItem_125 (by decide) ?_
            refine g_bipush F (v := 103) d_M_readItem_127 (by decide) ?_
            refine g_bipush F (v := 101) d_M_readItem_129 (by decide) ?_
            refine g_callV F (dp := 0) (ci := 8) (As := [.int (111 : Int32), .int (117 : Int32), .int (116 : Int32), .int (97 : Int32), .int (103 : Int32), .int (101 : Int32)]) (c_M_isLong l _ _ _ _ _ _ _ hq _) cv_8_178 hq.1 rfl rfl rfl (Nat.le_of_ble_eq_true rfl) ⟨Nat.le_of_ble_eq_true rfl, Nat.le_of_ble_eq_true rfl⟩ ⟨Nat.zero_le _, Nat.zero_le _⟩ d_M_readItem_131 (fun r11 σ12 h16 => ?_)
            refine g_if_eq F (tgt := 144) d_M_readItem_134 (by decide) (fun h17 => ?_) (fun h18 => ?_)
            · refine g_aload_n F d_M_readItem_144 0 rfl ?_
              refine g_iconst F (v := 1) d_M_readItem_145 (by decide) ?_
              refine g_pt (q := (1 : Int32) &&& 1 = (1 : Int32)) (by decide) (g_putZ F fw_8_165 hq.1 rfl d_M_readItem_146 ?_)
              refine g_ltM (fun σ13 _ => ?_)
              refine g_aload_n F d_M_readItem_149 0 rfl ?_
              refine g_aload_n F d_M_readItem_150 0 rfl ?_
              refine g_getI F fs_8_159 hq.1 rfl d_M_readItem_151 ?_
              refine g_iconst F (v := 2) d_M_readItem_154 (by decide) ?_
              refine g_icmp_ne F (tgt := 183) d_M_readItem_155 (by decide) (fun h19 => ?_) (fun h20 => ?_)
              · refine g_aload_n F d_M_readItem_158 0 rfl ?_
                refine g_getI F fs_8_165 hq.1 rfl d_M_readItem_159 ?_
                refine g_if_ne F (tgt := 183) d_M_readItem_162 (by decide) (fun h21 => ?_) (fun h22 => ?_)
                · refine g_aload_n F d_M_readItem_165 0 rfl ?_
                  refine g_getR F fs_8_16 hq.1 rfl d_M_readItem_166 ?_
                  refine g_aload_n F d_M_readItem_169 0 rfl ?_
                  refine g_getI F fs_8_156 hq.1 rfl d_M_readItem_170 ?_
                  refine g_iald F (n := 160) hq.2.2.2.1 d_M_readItem_173 ?_
                  refine g_bipush F (v := 59) d_M_readItem_174 (by decide) ?_
                  refine g_icmp_ne F (tgt := 183) d_M_readItem_176 (by decide) (fun h23 => ?_) (fun h24 => ?_)
                  · refine g_iconst F (v := 1) d_M_readItem_179 (by decide) ?_
                    refine g_goto F (tgt := 184) d_M_readItem_180 (by decide) ?_
                    refine g_callV F (dp := 2) (ci := 8) (As := [.int (1 : Int32)]) (c_M_take_Z l _ _ hq _) cv_8_172 hq.1 rfl rfl rfl (Nat.le_of_ble_eq_true rfl) ⟨Nat.le_of_ble_eq_true rfl, Nat.le_of_ble_eq_true rfl⟩ ⟨Nat.zero_le _, Nat.zero_le _⟩ d_M_readItem_184 (fun _ σ15 h25 => ?_)
                    exact g_vret F hlk hr d_M_readItem_187
                  refine g_iconst F (v := 0) d_M_readItem_183 (by decide) ?_
                  refine g_callV F (dp := 2) (ci := 8) (As := [.int (0 : Int32)]) (c_M_take_Z l _ _ hq _) cv_8_172 hq.1 rfl rfl rfl (Nat.le_of_ble_eq_true rfl) ⟨Nat.le_of_ble_eq_true rfl, Nat.le_of_ble_eq_true rfl⟩ ⟨Nat.zero_le _, Nat.zero_le _⟩ d_M_readItem_184 (fun _ σ17 h26 => ?_)
                  exact g_vret F hlk hr d_M_readItem_187
                refine g_iconst F (v := 0) d_M_readItem_183 (by decide) ?_
                refine g_callV F (dp := 2) (ci := 8) (As := [.int (0 : Int32)]) (c_M_take_Z l _ _ hq _) cv_8_172 hq.1 rfl rfl rfl (Nat.le_of_ble_eq_true rfl) ⟨Nat.le_of_ble_eq_true rfl, Nat.le_of_ble_eq_true rfl⟩ ⟨Nat.zero_le _, Nat.zero_le _⟩ d_M_readItem_184 (fun _ σ19 h27 => ?_)
                exact g_vret F hlk hr d_M_readItem_187
              refine g_iconst F (v := 0) d_M_readItem_183 (by decide) ?_
              refine g_callV F (dp := 2) (ci := 8) (As := [.int (0 : Int32)]) (c_M_take_Z l _ _ hq _) cv_8_172 hq.1 rfl rfl rfl (Nat.le_of_ble_eq_true rfl) ⟨Nat.le_of_ble_eq_true rfl, Nat.le_of_ble_eq_true rfl⟩ ⟨Nat.zero_le _, Nat.zero_le _⟩ d_M_readItem_184 (fun _ σ21 h28 => ?_)
              exact g_vret F hlk hr d_M_readItem_187
            refine g_aload_n F d_M_readItem_137 0 rfl ?_
            refine g_callV F (dp := 3) (ci := 8) (As := []) (c_M_readOutage l _ hq _) cv_8_191 hq.1 rfl rfl rfl (Nat.le_of_ble_eq_true rfl) ⟨Nat.le_of_ble_eq_true rfl, Nat.le_of_ble_eq_true rfl⟩ ⟨Nat.zero_le _, Nat.zero_le _⟩ d_M_readItem_138 (fun _ σ23 h29 => ?_)
            refine g_goto F (tgt := 149) d_M_readItem_141 (by decide) ?_
            refine g_aload_n F d_M_readItem_149 0 rfl ?_
            refine g_aload_n F d_M_readItem_150 0 rfl ?_
            refine g_getI F fs_8_159 hq.1 rfl d_M_readItem_151 ?_
            refine g_iconst F (v := 2) d_M_readItem_154 (by decide) ?_
            refine g_icmp_ne F (tgt := 183) d_M_readItem_155 (by decide) (fun h30 => ?_) (fun h31 => ?_)
            · refine g_aload_n F d_M_readItem_158 0 rfl ?_
              refine g_getI F fs_8_165 hq.1 rfl d_M_readItem_159 ?_
              refine g_if_ne F (tgt := 183) d_M_readItem_162 (by decide) (fun h32 => ?_) (fun h33 => ?_)
              · refine g_aload_n F d_M_readItem_165 0 rfl ?_
                refine g_getR F fs_8_16 hq.1 rfl d_M_readItem_166 ?_
                refine g_aload_n F d_M_readItem_169 0 rfl ?_
                refine g_getI F fs_8_156 hq.1 rfl d_M_readItem_170 ?_
                refine g_iald F (n := 160) hq.2.2.2.1 d_M_readItem_173 ?_
                refine g_bipush F (v := 59) d_M_readItem_174 (by decide) ?_
                refine g_icmp_ne F (tgt := 183) d_M_readItem_176 (by decide) (fun h34 => ?_) (fun h35 => ?_)
                · refine g_iconst F (v := 1) d_M_readItem_179 (by decide) ?_
                  refine g_goto F (tgt := 184) d_M_readItem_180 (by decide) ?_
                  refine g_callV F (dp := 2) (ci := 8) (As := [.int (1 : Int32)]) (c_M_take_Z l _ _ hq _) cv_8_172 hq.1 rfl rfl rfl (Nat.le_of_ble_eq_true rfl) ⟨Nat.le_of_ble_eq_true rfl, Nat.le_of_ble_eq_true rfl⟩ ⟨Nat.zero_le _, Nat.zero_le _⟩ d_M_readItem_184 (fun _ σ25 h36 => ?_)
                  exact g_vret F hlk hr d_M_readItem_187
                refine g_iconst F (v := 0) d_M_readItem_183 (by decide) ?_
                refine g_callV F (dp := 2) (ci := 8) (As := [.int (0 : Int32)]) (c_M_take_Z l _ _ hq _) cv_8_172 hq.1 rfl rfl rfl (Nat.le_of_ble_eq_true rfl) ⟨Nat.le_of_ble_eq_true rfl, Nat.le_of_ble_eq_true rfl⟩ ⟨Nat.zero_le _, Nat.zero_le _⟩ d_M_readItem_184 (fun _ σ27 h37 => ?_)
                exact g_vret F hlk hr d_M_readItem_187
              refine g_iconst F (v := 0) d_M_readItem_183 (by decide) ?_
              refine g_callV F (dp := 2) (ci := 8) (As := [.int (0 : Int32)]) (c_M_take_Z l _ _ hq _) cv_8_172 hq.1 rfl rfl rfl (Nat.le_of_ble_eq_true rfl) ⟨Nat.le_of_ble_eq_true rfl, Nat.le_of_ble_eq_true rfl⟩ ⟨Nat.zero_le _, Nat.zero_le _⟩ d_M_readItem_184 (fun _ σ29 h38 => ?_)
              exact g_vret F hlk hr d_M_readItem_187
            refine g_iconst F (v := 0) d_M_readItem_183 (by decide) ?_
            refine g_callV F (dp := 2) (ci := 8) (As := [.int (0 : Int32)]) (c_M_take_Z l _ _ hq _) cv_8_172 hq.1 rfl rfl rfl (Nat.le_of_ble_eq_true rfl) ⟨Nat.le_of_ble_eq_true rfl, Nat.le_of_ble_eq_true rfl⟩ ⟨Nat.zero_le _, Nat.zero_le _⟩ d_M_readItem_184 (fun _ σ31 h39 => ?_)
            exact g_vret F hlk hr d_M_readItem_187
          refine g_aload_n F d_M_readItem_110 0 rfl ?_
          refine g_iconst F (v := 3) d_M_readItem_111 (by decide) ?_
          refine g_callV F (dp := 3) (ci := 8) (As := [.int (3 : Int32)]) (c_M_readDerived l _ _ hq _) cv_8_188 hq.1 rfl rfl rfl (Nat.le_of_ble_eq_true rfl) ⟨Nat.le_of_ble_eq_true rfl, Nat.le_of_ble_eq_true rfl⟩ ⟨Nat.zero_le _, Nat.zero_le _⟩ d_M_readItem_112 (fun _ σ33 h40 => ?_)
          refine g_goto F (tgt := 149) d_M_readItem_115 (by decide) ?_
          refine g_aload_n F d_M_readItem_149 0 rfl ?_
          refine g_aload_n F d_M_readItem_150 0 rfl ?_
          refine g_getI F fs_8_159 hq.1 rfl d_M_readItem_151 ?_
          refine g_iconst F (v := 2) d_M_readItem_154 (by decide) ?_
          refine g_icmp_ne F (tgt := 183) d_M_readItem_155 (by decide) (fun h41 => ?_) (fun h42 => ?_)
          · refine g_aload_n F d_M_readItem_158 0 rfl ?_
            refine g_getI F fs_8_165 hq.1 rfl d_M_readItem_159 ?_
            refine g_if_ne F (tgt := 183) d_M_readItem_162 (by decide) (fun h43 => ?_) (fun h44 => ?_)
            · refine g_aload_n F d_M_readItem_165 0 rfl ?_
              refine g_getR F fs_8_16 hq.1 rfl d_M_readItem_166 ?_
              refine g_aload_n F d_M_readItem_169 0 rfl ?_
              refine g_getI F fs_8_156 hq.1 rfl d_M_readItem_170 ?_
              refine g_iald F (n := 160) hq.2.2.2.1 d_M_readItem_173 ?_
              refine g_bipush F (v := 59) d_M_readItem_174 (by decide) ?_
              refine g_icmp_ne F (tgt := 183) d_M_readItem_176 (by decide) (fun h45 => ?_) (fun h46 => ?_)
              · refine g_iconst F (v := 1) d_M_readItem_179 (by decide) ?_
                refine g_goto F (tgt := 184) d_M_readItem_180 (by decide) ?_
                refine g_callV F (dp := 2) (ci := 8) (As := [.int (1 : Int32)]) (c_M_take_Z l _ _ hq _) cv_8_172 hq.1 rfl rfl rfl (Nat.le_of_ble_eq_true rfl) ⟨Nat.le_of_ble_eq_true rfl, Nat.le_of_ble_eq_true rfl⟩ ⟨Nat.zero_le _, Nat.zero_le _⟩ d_M_readItem_184 (fun _ σ35 h47 => ?_)
                exact g_vret F hlk hr d_M_readItem_187
              refine g_iconst F (v := 0) d_M_readItem_183 (by decide) ?_
              refine g_callV F (dp := 2) (ci := 8) (As := [.int (0 : Int32)]) (c_M_take_Z l _ _ hq _) cv_8_172 hq.1 rfl rfl rfl (Nat.le_of_ble_eq_true rfl) ⟨Nat.le_of_ble_eq_true rfl, Nat.le_of_ble_eq_true rfl⟩ ⟨Nat.zero_le _, Nat.zero_le _⟩ d_M_readItem_184 (fun _ σ37 h48 => ?_)
              exact g_vret F hlk hr d_M_readItem_187
            refine g_iconst F (v := 0) d_M_readItem_183 (by decide) ?_
            refine g_callV F (dp := 2) (ci := 8) (As := [.int (0 : Int32)]) (c_M_take_Z l _ _ hq _) cv_8_172 hq.1 rfl rfl rfl (Nat.le_of_ble_eq_true rfl) ⟨Nat.le_of_ble_eq_true rfl, Nat.le_of_ble_eq_true rfl⟩ ⟨Nat.zero_le _, Nat.zero_le _⟩ d_M_readItem_184 (fun _ σ39 h49 => ?_)
            exact g_vret F hlk hr d_M_readItem_187
          refine g_iconst F (v := 0) d_M_readItem_183 (by decide) ?_
          refine g_callV F (dp := 2) (ci := 8) (As := [.int (0 : Int32)]) (c_M_take_Z l _ _ hq _) cv_8_172 hq.1 rfl rfl rfl (Nat.le_of_ble_eq_true rfl) ⟨Nat.le_of_ble_eq_true rfl, Nat.le_of_ble_eq_true rfl⟩ ⟨Nat.zero_le _, Nat.zero_le _⟩ d_M_readItem_184 (fun _ σ41 h50 => ?_)
          exact g_vret F hlk hr d_M_readItem_187
        refine g_aload_n F d_M_readItem_85 0 rfl ?_
        refine g_iconst F (v := 2) d_M_readItem_86 (by decide) ?_
        refine g_callV F (dp := 3) (ci := 8) (As := [.int (2 : Int32)]) (c_M_readDerived l _ _ hq _) cv_8_188 hq.1 rfl rfl rfl (Nat.le_of_ble_eq_true rfl) ⟨Nat.le_of_ble_eq_true rfl, Nat.le_of_ble_eq_true rfl⟩ ⟨Nat.zero_le _, Nat.zero_le _⟩ d_M_readItem_87 (fun _ σ43 h51 => ?_)
        refine g_goto F (tgt := 149) d_M_readItem_90 (by decide) ?_
        refine g_aload_n F d_M_readItem_149 0 rfl ?_
        refine g_aload_n F d_M_readItem_150 0 rfl ?_
        refine g_getI F fs_8_159 hq.1 rfl d_M_readItem_151 ?_
        refine g_iconst F (v := 2) d_M_readItem_154 (by decide) ?_
        refine g_icmp_ne F (tgt := 183) d_M_readItem_155 (by decide) (fun h52 => ?_) (fun h53 => ?_)
        · refine g_aload_n F d_M_readItem_158 0 rfl ?_
          refine g_getI F fs_8_165 hq.1 rfl d_M_readItem_159 ?_
          refine g_if_ne F (tgt := 183) d_M_readItem_162 (by decide) (fun h54 => ?_) (fun h55 => ?_)
          · refine g_aload_n F d_M_readItem_165 0 rfl ?_
            refine g_getR F fs_8_16 hq.1 rfl d_M_readItem_166 ?_
            refine g_aload_n F d_M_readItem_169 0 rfl ?_
            refine g_getI F fs_8_156 hq.1 rfl d_M_readItem_170 ?_
            refine g_iald F (n := 160) hq.2.2.2.1 d_M_readItem_173 ?_
            refine g_bipush F (v := 59) d_M_readItem_174 (by decide) ?_
            refine g_icmp_ne F (tgt := 183) d_M_readItem_176 (by decide) (fun h56 => ?_) (fun h57 => ?_)
            · refine g_iconst F (v := 1) d_M_readItem_179 (by decide) ?_
              refine g_goto F (tgt := 184) d_M_readItem_180 (by decide) ?_
              refine g_callV F (dp := 2) (ci := 8) (As := [.int (1 : Int32)]) (c_M_take_Z l _ _ hq _) cv_8_172 hq.1 rfl rfl rfl (Nat.le_of_ble_eq_true rfl) ⟨Nat.le_of_ble_eq_true rfl, Nat.le_of_ble_eq_true rfl⟩ ⟨Nat.zero_le _, Nat.zero_le _⟩ d_M_readItem_184 (fun _ σ45 h58 => ?_)
              exact g_vret F hlk hr d_M_readItem_187
            refine g_iconst F (v := 0) d_M_readItem_183 (by decide) ?_
            refine g_callV F (dp := 2) (ci := 8) (As := [.int (0 : Int32)]) (c_M_take_Z l _ _ hq _) cv_8_172 hq.1 rfl rfl rfl (Nat.le_of_ble_eq_true rfl) ⟨Nat.le_of_ble_eq_true rfl, Nat.le_of_ble_eq_true rfl⟩ ⟨Nat.zero_le _, Nat.zero_le _⟩ d_M_readItem_184 (fun _ σ47 h59 => ?_)
            exact g_vret F hlk hr d_M_readItem_187
          refine g_iconst F (v := 0) d_M_readItem_183 (by decide) ?_
          refine g_callV F (dp := 2) (ci := 8) (As := [.int (0 : Int32)]) (c_M_take_Z l _ _ hq _) cv_8_172 hq.1 rfl rfl rfl (Nat.le_of_ble_eq_true rfl) ⟨Nat.le_of_ble_eq_true rfl, Nat.le_of_ble_eq_true rfl⟩ ⟨Nat.zero_le _, Nat.zero_le _⟩ d_M_readItem_184 (fun _ σ49 h60 => ?_)
          exact g_vret F hlk hr d_M_readItem_187
        refine g_iconst F (v := 0) d_M_readItem_183 (by decide) ?_
        refine g_callV F (dp := 2) (ci := 8) (As := [.int (0 : Int32)]) (c_M_take_Z l _ _ hq _) cv_8_172 hq.1 rfl rfl rfl (Nat.le_of_ble_eq_true rfl) ⟨Nat.le_of_ble_eq_true rfl, Nat.le_of_ble_eq_true rfl⟩ ⟨Nat.zero_le _, Nat.zero_le _⟩ d_M_readItem_184 (fun _ σ51 h61 => ?_)
        exact g_vret F hlk hr d_M_readItem_187
      refine g_aload_n F d_M_readItem_64 0 rfl ?_
      refine g_iconst F (v := 1) d_M_readItem_65 (by decide) ?_
      refine g_callV F (dp := 3) (ci := 8) (As := [.int (1 : Int32)]) (c_M_readDerived l _ _ hq _) cv_8_188 hq.1 rfl rfl rfl (Nat.le_of_ble_eq_true rfl) ⟨Nat.le_of_ble_eq_true rfl, Nat.le_of_ble_eq_true rfl⟩ ⟨Nat.zero_le _, Nat.zero_le _⟩ d_M_readItem_66 (fun _ σ53 h62 => ?_)
      refine g_goto F (tgt := 149) d_M_readItem_69 (by decide) ?_
      refine g_aload_n F d_M_readItem_149 0 rfl ?_
      refine g_aload_n F d_M_readItem_150 0 rfl ?_
      refine g_getI F fs_8_159 hq.1 rfl d_M_readItem_151 ?_
      refine g_iconst F (v := 2) d_M_readItem_154 (by decide) ?_
      refine g_icmp_ne F (tgt := 183) d_M_readItem_155 (by decide) (fun h63 => ?_) (fun h64 => ?_)
      · refine g_aload_n F d_M_readItem_158 0 rfl ?_
        refine g_getI F fs_8_165 hq.1 rfl d_M_readItem_159 ?_
        refine g_if_ne F (tgt := 183) d_M_readItem_162 (by decide) (fun h65 => ?_) (fun h66 => ?_)
        · refine g_aload_n F d_M_readItem_165 0 rfl ?_
          refine g_getR F fs_8_16 hq.1 rfl d_M_readItem_166 ?_
          refine g_aload_n F d_M_readItem_169 0 rfl ?_
          refine g_getI F fs_8_156 hq.1 rfl d_M_readItem_170 ?_
          refine g_iald F (n := 160) hq.2.2.2.1 d_M_readItem_173 ?_
          refine g_bipush F (v := 59) d_M_readItem_174 (by decide) ?_
          refine g_icmp_ne F (tgt := 183) d_M_readItem_176 (by decide) (fun h67 => ?_) (fun h68 => ?_)
          · refine g_iconst F (v := 1) d_M_readItem_179 (by decide) ?_
            refine g_goto F (tgt := 184) d_M_readItem_180 (by decide) ?_
            refine g_callV F (dp := 2) (ci := 8) (As := [.int (1 : Int32)]) (c_M_take_Z l _ _ hq _) cv_8_172 hq.1 rfl rfl rfl (Nat.le_of_ble_eq_true rfl) ⟨Nat.le_of_ble_eq_true rfl, Nat.le_of_ble_eq_true rfl⟩ ⟨Nat.zero_le _, Nat.zero_le _⟩ d_M_readItem_184 (fun _ σ55 h69 => ?_)
            exact g_vret F hlk hr d_M_readItem_187
          refine g_iconst F (v := 0) d_M_readItem_183 (by decide) ?_
          refine g_callV F (dp := 2) (ci := 8) (As := [.int (0 : Int32)]) (c_M_take_Z l _ _ hq _) cv_8_172 hq.1 rfl rfl rfl (Nat.le_of_ble_eq_true rfl) ⟨Nat.le_of_ble_eq_true rfl, Nat.le_of_ble_eq_true rfl⟩ ⟨Nat.zero_le _, Nat.zero_le _⟩ d_M_readItem_184 (fun _ σ57 h70 => ?_)
          exact g_vret F hlk hr d_M_readItem_187
        refine g_iconst F (v := 0) d_M_readItem_183 (by decide) ?_
        refine g_callV F (dp := 2) (ci := 8) (As := [.int (0 : Int32)]) (c_M_take_Z l _ _ hq _) cv_8_172 hq.1 rfl rfl rfl (Nat.le_of_ble_eq_true rfl) ⟨Nat.le_of_ble_eq_true rfl, Nat.le_of_ble_eq_true rfl⟩ ⟨Nat.zero_le _, Nat.zero_le _⟩ d_M_readItem_184 (fun _ σ59 h71 => ?_)
        exact g_vret F hlk hr d_M_readItem_187
      refine g_iconst F (v := 0) d_M_readItem_183 (by decide) ?_
      refine g_callV F (dp := 2) (ci := 8) (As := [.int (0 : Int32)]) (c_M_take_Z l _ _ hq _) cv_8_172 hq.1 rfl rfl rfl (Nat.le_of_ble_eq_true rfl) ⟨Nat.le_of_ble_eq_true rfl, Nat.le_of_ble_eq_true rfl⟩ ⟨Nat.zero_le _, Nat.zero_le _⟩ d_M_readItem_184 (fun _ σ61 h72 => ?_)
      exact g_vret F hlk hr d_M_readItem_187
    refine g_aload_n F d_M_readItem_39 0 rfl ?_
    refine g_iconst F (v := 0) d_M_readItem_40 (by decide) ?_
    refine g_callV F (dp := 3) (ci := 8) (As := [.int (0 : Int32)]) (c_M_readDerived l _ _ hq _) cv_8_188 hq.1 rfl rfl rfl (Nat.le_of_ble_eq_true rfl) ⟨Nat.le_of_ble_eq_true rfl, Nat.le_of_ble_eq_true rfl⟩ ⟨Nat.zero_le _, Nat.zero_le _⟩ d_M_readItem_41 (fun _ σ63 h73 => ?_)
    refine g_goto F (tgt := 149) d_M_readItem_44 (by decide) ?_
    refine g_aload_n F d_M_readItem_149 0 rfl ?_
    refine g_aload_n F d_M_readItem_150 0 rfl ?_
    refine g_getI F fs_8_159 hq.1 rfl d_M_readItem_151 ?_
    refine g_iconst F (v := 2) d_M_readItem_154 (by decide) ?_
    refine g_icmp_ne F (tgt := 183) d_M_readItem_155 (by decide) (fun h74 => ?_) (fun h75 => ?_)
    · refine g_aload_n F d_M_readItem_158 0 rfl ?_
      refine g_getI F fs_8_165 hq.1 rfl d_M_readItem_159 ?_
      refine g_if_ne F (tgt := 183) d_M_readItem_162 (by decide) (fun h76 => ?_) (fun h77 => ?_)
      · refine g_aload_n F d_M_readItem_165 0 rfl ?_
        refine g_getR F fs_8_16 hq.1 rfl d_M_readItem_166 ?_
        refine g_aload_n F d_M_readItem_169 0 rfl ?_
        refine g_getI F fs_8_156 hq.1 rfl d_M_readItem_170 ?_
        refine g_iald F (n := 160) hq.2.2.2.1 d_M_readItem_173 ?_
        refine g_bipush F (v := 59) d_M_readItem_174 (by decide) ?_
        refine g_icmp_ne F (tgt := 183) d_M_readItem_176 (by decide) (fun h78 => ?_) (fun h79 => ?_)
        · refine g_iconst F (v := 1) d_M_readItem_179 (by decide) ?_
          refine g_goto F (tgt := 184) d_M_readItem_180 (by decide) ?_
          refine g_callV F (dp := 2) (ci := 8) (As := [.int (1 : Int32)]) (c_M_take_Z l _ _ hq _) cv_8_172 hq.1 rfl rfl rfl (Nat.le_of_ble_eq_true rfl) ⟨Nat.le_of_ble_eq_true rfl, Nat.le_of_ble_eq_true rfl⟩ ⟨Nat.zero_le _, Nat.zero_le _⟩ d_M_readItem_184 (fun _ σ65 h80 => ?_)
          exact g_vret F hlk hr d_M_readItem_187
        refine g_iconst F (v := 0) d_M_readItem_183 (by decide) ?_
        refine g_callV F (dp := 2) (ci := 8) (As := [.int (0 : Int32)]) (c_M_take_Z l _ _ hq _) cv_8_172 hq.1 rfl rfl rfl (Nat.le_of_ble_eq_true rfl) ⟨Nat.le_of_ble_eq_true rfl, Nat.le_of_ble_eq_true rfl⟩ ⟨Nat.zero_le _, Nat.zero_le _⟩ d_M_readItem_184 (fun _ σ67 h81 => ?_)
        exact g_vret F hlk hr d_M_readItem_187
      refine g_iconst F (v := 0) d_M_readItem_183 (by decide) ?_
      refine g_callV F (dp := 2) (ci := 8) (As := [.int (0 : Int32)]) (c_M_take_Z l _ _ hq _) cv_8_172 hq.1 rfl rfl rfl (Nat.le_of_ble_eq_true rfl) ⟨Nat.le_of_ble_eq_true rfl, Nat.le_of_ble_eq_true rfl⟩ ⟨Nat.zero_le _, Nat.zero_le _⟩ d_M_readItem_184 (fun _ σ69 h82 => ?_)
      exact g_vret F hlk hr d_M_readItem_187
    refine g_iconst F (v := 0) d_M_readItem_183 (by decide) ?_
    refine g_callV F (dp := 2) (ci := 8) (As := [.int (0 : Int32)]) (c_M_take_Z l _ _ hq _) cv_8_172 hq.1 rfl rfl rfl (Nat.le_of_ble_eq_true rfl) ⟨Nat.le_of_ble_eq_true rfl, Nat.le_of_ble_eq_true rfl⟩ ⟨Nat.zero_le _, Nat.zero_le _⟩ d_M_readItem_184 (fun _ σ71 h83 => ?_)
    exact g_vret F hlk hr d_M_readItem_187
  refine g_aload_n F d_M_readItem_19 0 rfl ?_
  refine g_callV F (dp := 3) (ci := 8) (As := []) (c_M_readSensor l _ hq _) cv_8_182 hq.1 rfl rfl rfl (Nat.le_of_ble_eq_true rfl) ⟨Nat.le_of_ble_eq_true rfl, Nat.le_of_ble_eq_true rfl⟩ ⟨Nat.zero_le _, Nat.zero_le _⟩ d_M_readItem_20 (fun _ σ73 h84 => ?_)
  refine g_goto F (tgt := 149) d_M_readItem_23 (by decide) ?_
  refine g_aload_n F d_M_readItem_149 0 rfl ?_
  refine g_aload_n F d_M_readItem_150 0 rfl ?_
  refine g_getI F fs_8_159 hq.1 rfl d_M_readItem_151 ?_
  refine g_iconst F (v := 2) d_M_readItem_154 (by decide) ?_
  refine g_icmp_ne F (tgt := 183) d_M_readItem_155 (by decide) (fun h85 => ?_) (fun h86 => ?_)
  · refine g_aload_n F d_M_readItem_158 0 rfl ?_
    refine g_getI F fs_8_165 hq.1 rfl d_M_readItem_159 ?_
    refine g_if_ne F (tgt := 183) d_M_readItem_162 (by decide) (fun h87 => ?_) (fun h88 => ?_)
    · refine g_aload_n F d_M_readItem_165 0 rfl ?_
      refine g_getR F fs_8_16 hq.1 rfl d_M_readItem_166 ?_
      refine g_aload_n F d_M_readItem_169 0 rfl ?_
      refine g_getI F fs_8_156 hq.1 rfl d_M_readItem_170 ?_
      refine g_iald F (n := 160) hq.2.2.2.1 d_M_readItem_173 ?_
      refine g_bipush F (v := 59) d_M_readItem_174 (by decide) ?_
      refine g_icmp_ne F (tgt := 183) d_M_readItem_176 (by decide) (fun h89 => ?_) (fun h90 => ?_)
      · refine g_iconst F (v := 1) d_M_readItem_179 (by decide) ?_
        refine g_goto F (tgt := 184) d_M_readItem_180 (by decide) ?_
        refine g_callV F (dp := 2) (ci := 8) (As := [.int (1 : Int32)]) (c_M_take_Z l _ _ hq _) cv_8_172 hq.1 rfl rfl rfl (Nat.le_of_ble_eq_true rfl) ⟨Nat.le_of_ble_eq_true rfl, Nat.le_of_ble_eq_true rfl⟩ ⟨Nat.zero_le _, Nat.zero_le _⟩ d_M_readItem_184 (fun _ σ75 h91 => ?_)
        exact g_vret F hlk hr d_M_readItem_187
      refine g_iconst F (v := 0) d_M_readItem_183 (by decide) ?_
      refine g_callV F (dp := 2) (ci := 8) (As := [.int (0 : Int32)]) (c_M_take_Z l _ _ hq _) cv_8_172 hq.1 rfl rfl rfl (Nat.le_of_ble_eq_true rfl) ⟨Nat.le_of_ble_eq_true rfl, Nat.le_of_ble_eq_true rfl⟩ ⟨Nat.zero_le _, Nat.zero_le _⟩ d_M_readItem_184 (fun _ σ77 h92 => ?_)
      exact g_vret F hlk hr d_M_readItem_187
    refine g_iconst F (v := 0) d_M_readItem_183 (by decide) ?_
    refine g_callV F (dp := 2) (ci := 8) (As := [.int (0 : Int32)]) (c_M_take_Z l _ _ hq _) cv_8_172 hq.1 rfl rfl rfl (Nat.le_of_ble_eq_true rfl) ⟨Nat.le_of_ble_eq_true rfl, Nat.le_of_ble_eq_true rfl⟩ ⟨Nat.zero_le _, Nat.zero_le _⟩ d_M_readItem_184 (fun _ σ79 h93 => ?_)
    exact g_vret F hlk hr d_M_readItem_187
  refine g_iconst F (v := 0) d_M_readItem_183 (by decide) ?_
  refine g_callV F (dp := 2) (ci := 8) (As := [.int (0 : Int32)]) (c_M_take_Z l _ _ hq _) cv_8_172 hq.1 rfl rfl rfl (Nat.le_of_ble_eq_true rfl) ⟨Nat.le_of_ble_eq_true rfl, Nat.le_of_ble_eq_true rfl⟩ ⟨Nat.zero_le _, Nat.zero_le _⟩ d_M_readItem_184 (fun _ σ81 h94 => ?_)
  exact g_vret F hlk hr d_M_readItem_187
def y_M_load : MethodName := ⟨"SensorHubModel", "load", "()I"⟩
theorem d_M_load_0 : decode prog_10_method_57_code 0 = .ok (.aload_n 0, 1) := by decide +kernel
theorem d_M_load_1 : decode prog_10_method_57_code 1 = .ok (.iconst 0, 1) := by decide +kernel
theorem d_M_load_2 : decode prog_10_method_57_code 2 = .ok (.putfield 35, 3) := by decide +kernel
theorem d_M_load_5 : decode prog_10_method_57_code 5 = .ok (.aload_n 0, 1) := by decide +kernel
theorem d_M_load_6 : decode prog_10_method_57_code 6 = .ok (.invokevirtual 194, 3) := by decide +kernel
theorem d_M_load_9 : decode prog_10_method_57_code 9 = .ok (.aload_n 0, 1) := by decide +kernel
theorem d_M_load_10 : decode prog_10_method_57_code 10 = .ok (.invokevirtual 39, 3) := by decide +kernel
theorem d_M_load_13 : decode prog_10_method_57_code 13 = .ok (.aload_n 0, 1) := by decide +kernel
theorem d_M_load_14 : decode prog_10_method_57_code 14 = .ok (.iconst 0, 1) := by decide +kernel
theorem d_M_load_15 : decode prog_10_method_57_code 15 = .ok (.putfield 150, 3) := by decide +kernel
theorem d_M_load_18 : decode prog_10_method_57_code 18 = .ok (.aload_n 0, 1) := by decide +kernel
theorem d_M_load_19 : decode prog_10_method_57_code 19 = .ok (.iconst 0, 1) := by decide +kernel
theorem d_M_load_20 : decode prog_10_method_57_code 20 = .ok (.putfield 165, 3) := by decide +kernel
theorem d_M_load_23 : decode prog_10_method_57_code 23 = .ok (.iconst 0, 1) := by decide +kernel
theorem d_M_load_24 : decode prog_10_method_57_code 24 = .ok (.istore_n 1, 1) := by decide +kernel
theorem d_M_load_25 : decode prog_10_method_57_code 25 = .ok (.aload_n 0, 1) := by decide +kernel
theorem d_M_load_26 : decode prog_10_method_57_code 26 = .ok (.invokevirtual 169, 3) := by decide +kernel
theorem d_M_load_29 : decode prog_10_method_57_code 29 = .ok (.aload_n 0, 1) := by decide +kernel
theorem d_M_load_30 : decode prog_10_method_57_code 30 = .ok (.getfield 165, 3) := by decide +kernel
theorem d_M_load_33 : decode prog_10_method_57_code 33 = .ok (.ifCond .ne 21, 3) := by decide +kernel
theorem d_M_load_36 : decode prog_10_method_57_code 36 = .ok (.aload_n 0, 1) := by decide +kernel
theorem d_M_load_37 : decode prog_10_method_57_code 37 = .ok (.getfield 159, 3) := by decide +kernel
theorem d_M_load_40 : decode prog_10_method_57_code 40 = .ok (.iconst 3, 1) := by decide +kernel
theorem d_M_load_41 : decode prog_10_method_57_code 41 = .ok (.if_icmp .eq 13, 3) := by decide +kernel
theorem d_M_load_44 : decode prog_10_method_57_code 44 = .ok (.aload_n 0, 1) := by decide +kernel
theorem d_M_load_45 : decode prog_10_method_57_code 45 = .ok (.invokevirtual 197, 3) := by decide +kernel
theorem d_M_load_48 : decode prog_10_method_57_code 48 = .ok (.iinc 1 1, 3) := by decide +kernel
theorem d_M_load_51 : decode prog_10_method_57_code 51 = .ok (.goto (-22), 3) := by decide +kernel
theorem d_M_load_54 : decode prog_10_method_57_code 54 = .ok (.aload_n 0, 1) := by decide +kernel
theorem d_M_load_55 : decode prog_10_method_57_code 55 = .ok (.getfield 165, 3) := by decide +kernel
theorem d_M_load_58 : decode prog_10_method_57_code 58 = .ok (.ifCond .eq 15, 3) := by decide +kernel
theorem d_M_load_61 : decode prog_10_method_57_code 61 = .ok (.aload_n 0, 1) := by decide +kernel
theorem d_M_load_62 : decode prog_10_method_57_code 62 = .ok (.invokevirtual 200, 3) := by decide +kernel
theorem d_M_load_65 : decode prog_10_method_57_code 65 = .ok (.bipush (-10), 2) := by decide +kernel
theorem d_M_load_67 : decode prog_10_method_57_code 67 = .ok (.aload_n 0, 1) := by decide +kernel
theorem d_M_load_68 : decode prog_10_method_57_code 68 = .ok (.getfield 156, 3) := by decide +kernel
theorem d_M_load_71 : decode prog_10_method_57_code 71 = .ok (.isub, 1) := by decide +kernel
theorem d_M_load_72 : decode prog_10_method_57_code 72 = .ok (.ireturn, 1) := by decide +kernel
theorem d_M_load_73 : decode prog_10_method_57_code 73 = .ok (.aload_n 0, 1) := by decide +kernel
theorem d_M_load_74 : decode prog_10_method_57_code 74 = .ok (.getfield 57, 3) := by decide +kernel
theorem d_M_load_77 : decode prog_10_method_57_code 77 = .ok (.iconst 5, 1) := by decide +kernel
theorem d_M_load_78 : decode prog_10_method_57_code 78 = .ok (.if_icmp .ne 44, 3) := by decide +kernel
theorem d_M_load_81 : decode prog_10_method_57_code 81 = .ok (.iconst 0, 1) := by decide +kernel
theorem d_M_load_82 : decode prog_10_method_57_code 82 = .ok (.istore_n 2, 1) := by decide +kernel
theorem d_M_load_83 : decode prog_10_method_57_code 83 = .ok (.iload_n 2, 1) := by decide +kernel
theorem d_M_load_84 : decode prog_10_method_57_code 84 = .ok (.sipush 1924, 3) := by decide +kernel
theorem d_M_load_87 : decode prog_10_method_57_code 87 = .ok (.if_icmp .ge 25, 3) := by decide +kernel
theorem d_M_load_90 : decode prog_10_method_57_code 90 = .ok (.aload_n 0, 1) := by decide +kernel
theorem d_M_load_91 : decode prog_10_method_57_code 91 = .ok (.getfield 13, 3) := by decide +kernel
theorem d_M_load_94 : decode prog_10_method_57_code 94 = .ok (.iload_n 2, 1) := by decide +kernel
theorem d_M_load_95 : decode prog_10_method_57_code 95 = .ok (.aload_n 0, 1) := by decide +kernel
theorem d_M_load_96 : decode prog_10_method_57_code 96 = .ok (.getfield 13, 3) := by decide +kernel
theorem d_M_load_99 : decode prog_10_method_57_code 99 = .ok (.iload_n 2, 1) := by decide +kernel
theorem d_M_load_100 : decode prog_10_method_57_code 100 = .ok (.sipush 481, 3) := by decide +kernel
theorem d_M_load_103 : decode prog_10_method_57_code 103 = .ok (.iadd, 1) := by decide +kernel
theorem d_M_load_104 : decode prog_10_method_57_code 104 = .ok (.iaload, 1) := by decide +kernel
theorem d_M_load_105 : decode prog_10_method_57_code 105 = .ok (.iastore, 1) := by decide +kernel
theorem d_M_load_106 : decode prog_10_method_57_code 106 = .ok (.iinc 2 1, 3) := by decide +kernel
theorem d_M_load_109 : decode prog_10_method_57_code 109 = .ok (.goto (-26), 3) := by decide +kernel
theorem d_M_load_112 : decode prog_10_method_57_code 112 = .ok (.aload_n 0, 1) := by decide +kernel
theorem d_M_load_113 : decode prog_10_method_57_code 113 = .ok (.dup, 1) := by decide +kernel
theorem d_M_load_114 : decode prog_10_method_57_code 114 = .ok (.getfield 57, 3) := by decide +kernel
theorem d_M_load_117 : decode prog_10_method_57_code 117 = .ok (.iconst 1, 1) := by decide +kernel
theorem d_M_load_118 : decode prog_10_method_57_code 118 = .ok (.isub, 1) := by decide +kernel
theorem d_M_load_119 : decode prog_10_method_57_code 119 = .ok (.putfield 57, 3) := by decide +kernel
theorem d_M_load_122 : decode prog_10_method_57_code 122 = .ok (.iconst 0, 1) := by decide +kernel
theorem d_M_load_123 : decode prog_10_method_57_code 123 = .ok (.istore_n 2, 1) := by decide +kernel
theorem d_M_load_124 : decode prog_10_method_57_code 124 = .ok (.iload_n 2, 1) := by decide +kernel
theorem d_M_load_125 : decode prog_10_method_57_code 125 = .ok (.sipush 481, 3) := by decide +kernel
theorem d_M_load_128 : decode prog_10_method_57_code 128 = .ok (.if_icmp .ge 30, 3) := by decide +kernel
theorem d_M_load_131 : decode prog_10_method_57_code 131 = .ok (.aload_n 0, 1) := by decide +kernel
theorem d_M_load_132 : decode prog_10_method_57_code 132 = .ok (.getfield 13, 3) := by decide +kernel
theorem d_M_load_135 : decode prog_10_method_57_code 135 = .ok (.sipush 481, 3) := by decide +kernel
theorem d_M_load_138 : decode prog_10_method_57_code 138 = .ok (.aload_n 0, 1) := by decide +kernel
theorem d_M_load_139 : decode prog_10_method_57_code 139 = .ok (.getfield 57, 3) := by decide +kernel
theorem d_M_load_142 : decode prog_10_method_57_code 142 = .ok (.imul, 1) := by decide +kernel
theorem d_M_load_143 : decode prog_10_method_57_code 143 = .ok (.iload_n 2, 1) := by decide +kernel
theorem d_M_load_144 : decode prog_10_method_57_code 144 = .ok (.iadd, 1) := by decide +kernel
theorem d_M_load_145 : decode prog_10_method_57_code 145 = .ok (.aload_n 0, 1) := by decide +kernel
theorem d_M_load_146 : decode prog_10_method_57_code 146 = .ok (.getfield 19, 3) := by decide +kernel
theorem d_M_load_149 : decode prog_10_method_57_code 149 = .ok (.iload_n 2, 1) := by decide +kernel
theorem d_M_load_150 : decode prog_10_method_57_code 150 = .ok (.iaload, 1) := by decide +kernel
theorem d_M_load_151 : decode prog_10_method_57_code 151 = .ok (.iastore, 1) := by decide +kernel
theorem d_M_load_152 : decode prog_10_method_57_code 152 = .ok (.iinc 2 1, 3) := by decide +kernel
theorem d_M_load_155 : decode prog_10_method_57_code 155 = .ok (.goto (-31), 3) := by decide +kernel
theorem d_M_load_158 : decode prog_10_method_57_code 158 = .ok (.aload_n 0, 1) := by decide +kernel
theorem d_M_load_159 : decode prog_10_method_57_code 159 = .ok (.dup, 1) := by decide +kernel
theorem d_M_load_160 : decode prog_10_method_57_code 160 = .ok (.getfield 57, 3) := by decide +kernel
theorem d_M_load_163 : decode prog_10_method_57_code 163 = .ok (.iconst 1, 1) := by decide +kernel
theorem d_M_load_164 : decode prog_10_method_57_code 164 = .ok (.iadd, 1) := by decide +kernel
theorem d_M_load_165 : decode prog_10_method_57_code 165 = .ok (.putfield 57, 3) := by decide +kernel
theorem d_M_load_168 : decode prog_10_method_57_code 168 = .ok (.aload_n 0, 1) := by decide +kernel
theorem d_M_load_169 : decode prog_10_method_57_code 169 = .ok (.iconst 0, 1) := by decide +kernel
theorem d_M_load_170 : decode prog_10_method_57_code 170 = .ok (.putfield 147, 3) := by decide +kernel
theorem d_M_load_173 : decode prog_10_method_57_code 173 = .ok (.iload_n 1, 1) := by decide +kernel
theorem d_M_load_174 : decode prog_10_method_57_code 174 = .ok (.ireturn, 1) := by decide +kernel
theorem cv_8_194 : CSV "SensorHubModel" 194 y_M_hold prog_10_method_11_code 2 none 0 := ⟨gw_I 1064 (by decide +kernel) rfl, gw_I 1066 (by decide +kernel) rfl, gw_I 46 (by decide +kernel) rfl, gw_I 78 (by decide +kernel) rfl, gw_I 1067 (by decide +kernel) rfl, ⟨by decide +kernel, by decide +kernel⟩, by decide +kernel⟩
theorem cv_8_39 : CSV "SensorHubModel" 39 y_M_empty prog_10_method_3_code 2 none 0 := ⟨gw_I 888 (by decide +kernel) rfl, gw_I 890 (by decide +kernel) rfl, gw_I 25 (by decide +kernel) rfl, gw_I 78 (by decide +kernel) rfl, gw_I 891 (by decide +kernel) rfl, ⟨by decide +kernel, by decide +kernel⟩, by decide +kernel⟩
theorem cv_8_197 : CSV "SensorHubModel" 197 y_M_readItem prog_10_method_56_code 1 none 0 := ⟨gw_I 1076 (by decide +kernel) rfl, gw_I 1078 (by decide +kernel) rfl, gw_I 49 (by decide +kernel) rfl, gw_I 78 (by decide +kernel) rfl, gw_I 1079 (by decide +kernel) rfl, ⟨by decide +kernel, by decide +kernel⟩, by decide +kernel⟩
theorem cv_8_200 : CSV "SensorHubModel" 200 y_M_release prog_10_method_12_code 2 none 0 := ⟨gw_I 1108 (by decide +kernel) rfl, gw_I 1110 (by decide +kernel) rfl, gw_I 57 (by decide +kernel) rfl, gw_I 78 (by decide +kernel) rfl, gw_I 1111 (by decide +kernel) rfl, ⟨by decide +kernel, by decide +kernel⟩, by decide +kernel⟩
def L_M_load_29 (r0 : Nat) (k : Int32 → Mem → Option (Int32 × Mem)) : Nat → Int32 → Mem → Option (Int32 × Mem)
  | 0, _, _ => none
  | n + 1, x1, σ =>
    if (σ r0 15) = 0 then
      if (σ r0 13) = (3 : Int32) then
        k x1 σ
      else
        bd (f_M_readItem r0 σ) fun _ σ11 =>
        L_M_load_29 r0 k n (x1 + 1) σ11
    else
      k x1 σ
def L_M_load_83 (r0 : Nat) (y1 : Int32) (k : Mem → Option (Int32 × Mem)) : Nat → Int32 → Mem → Option (Int32 × Mem)
  | 0, _, _ => none
  | n + 1, x2, σ =>
    if (1924 : Int32) ≤ x2 then
      k σ
    else
      if ib (x2 + (481 : Int32)) 2405 then
        if ib x2 2405 then
          lt (wr σ (r0 + 2) x2.toNatClampNeg (σ (r0 + 2) (x2 + (481 : Int32)).toNatClampNeg)) fun σ14 =>
          L_M_load_83 r0 y1 k n (x2 + 1) σ14
        else none
      else none
def L_M_load_124 (r0 : Nat) (y1 : Int32) (k : Mem → Option (Int32 × Mem)) : Nat → Int32 → Mem → Option (Int32 × Mem)
  | 0, _, _ => none
  | n + 1, x2, σ =>
    if (481 : Int32) ≤ x2 then
      k σ
    else
      if ib x2 481 then
        if ib (((481 : Int32) * (σ r0 3)) + x2) 2405 then
          lt (wr σ (r0 + 2) (((481 : Int32) * (σ r0 3)) + x2).toNatClampNeg (σ (r0 + 4) x2.toNatClampNeg)) fun σ17 =>
          L_M_load_124 r0 y1 k n (x2 + 1) σ17
        else none
      else none
def f_M_load (q : Nat) (σ : Mem) : Option (Int32 × Mem) :=
  lt (wr σ q 0 (0 : Int32)) fun σ1 =>
  bd (f_M_hold q σ1) fun _ σ3 =>
  bd (f_M_empty q σ3) fun _ σ5 =>
  lt (wr σ5 q 11 (0 : Int32)) fun σ6 =>
  lt (wr σ6 q 15 (0 : Int32)) fun σ7 =>
  bd (f_M_read q σ7) fun _ σ9 =>
  L_M_load_29 q (fun z12 σ13 =>
    if (σ13 q 15) = 0 then
      if (σ13 q 3) = (5 : Int32) then
        L_M_load_83 q z12 (fun σ15 =>
          lt (wr σ15 q 3 ((σ15 q 3) - (1 : Int32))) fun σ16 =>
          L_M_load_124 q z12 (fun σ18 =>
            lt (wr σ18 q 3 ((σ18 q 3) + (1 : Int32))) fun σ19 =>
            lt (wr σ19 q 5 (0 : Int32)) fun σ20 =>
            some (z12, σ20)) FU (0 : Int32) σ16) FU (0 : Int32) σ13
      else
        L_M_load_124 q z12 (fun σ21 =>
          lt (wr σ21 q 3 ((σ21 q 3) + (1 : Int32))) fun σ22 =>
          lt (wr σ22 q 5 (0 : Int32)) fun σ23 =>
          some (z12, σ23)) FU (0 : Int32) σ13
    else
      bd (f_M_release q σ13) fun _ σ25 =>
      some ((-10 : Int32) - (σ25 q 12), σ25)) FU (0 : Int32) σ9
set_option maxRecDepth 100000 in
set_option maxHeartbeats 4000000 in
theorem l_L_M_load_29 {X : CX} {p : Program} {l : Launch} {e : Env} {s : State} {m : MethodId} {args : Array Value} {below : List Frame} {meth : Method} {c : Code} (F : FR p s m args c prog_10_method_57_code 3 "SensorHubModel" X) (hlk : meth.locks = false) (hr : meth.sig.returnType = some .int) (r0 : Nat) (hr0 : ModelOK X r0) (k : Int32 → Mem → Option (Int32 × Mem)) (hk : ∀ (x1 : Int32) (σ : Mem), G X p l e (rmD 5) s m args below meth c 3 0 0 (QI X below args s vI) 54 [(0, .ref (xa X r0)), (1, .int x1)] [] σ (k x1 σ)) : ∀ (n : Nat) (x1 : Int32) (σ : Mem), G X p l e (rmD 5) s m args below meth c 3 0 0 (QI X below args s vI) 29 [(0, .ref (xa X r0)), (1, .int x1)] [] σ (L_M_load_29 r0 k n x1 σ) := by
  intro n
  induction n with
  | zero => intros; exact g_no
  | succ n ih =>
    intro x1 σ
    unfold L_M_load_29
    refine g_aload_n F d_M_load_29 0 rfl ?_
    refine g_getI F fs_8_165 hr0.1 rfl d_M_load_30 ?_
    refine g_if_ne F (tgt := 54) d_M_load_33 (by decide) (fun h4 => ?_) (fun h5 => ?_)
    · refine g_aload_n F d_M_load_36 0 rfl ?_
      refine g_getI F fs_8_159 hr0.1 rfl d_M_load_37 ?_
      refine g_iconst F (v := 3) d_M_load_40 (by decide) ?_
      refine g_icmp_eq F (tgt := 54) d_M_load_41 (by decide) (fun h6 => ?_) (fun h7 => ?_)
      · exact hk _ _
      refine g_aload_n F d_M_load_44 0 rfl ?_
      refine g_callV F (dp := 4) (ci := 8) (As := []) (c_M_readItem l _ hr0 _) cv_8_197 hr0.1 rfl rfl rfl (Nat.le_of_ble_eq_true rfl) ⟨Nat.le_of_ble_eq_true rfl, Nat.le_of_ble_eq_true rfl⟩ ⟨Nat.zero_le _, Nat.zero_le _⟩ d_M_load_45 (fun _ σ11 h8 => ?_)
      refine g_iinc F (v := 1) (ls' := [(1, .int (x1 + 1)), (0, .ref (xa X r0))]) d_M_load_48 1 rfl (by decide) (by decide) rfl ?_
      refine g_goto F (tgt := 29) d_M_load_51 (by decide) ?_
      exact g_sub [1, 0] rfl (ih _ _)
    exact hk _ _
set_option maxRecDepth 100000 in
set_option maxHeartbeats 4000000 in
theorem l_L_M_load_83 {X : CX} {p : Program} {l : Launch} {e : Env} {s : State} {m : MethodId} {args : Array Value} {below : List Frame} {meth : Method} {c : Code} (F : FR p s m args c prog_10_method_57_code 3 "SensorHubModel" X) (hlk : meth.locks = false) (hr : meth.sig.returnType = some .int) (r0 : Nat) (y1 : Int32) (hr0 : ModelOK X r0) (k : Mem → Option (Int32 × Mem)) (hk : ∀  (σ : Mem), G X p l e (rmD 5) s m args below meth c 3 0 0 (QI X below args s vI) 112 [(0, .ref (xa X r0)), (1, .int y1)] [] σ (k σ)) : ∀ (n : Nat) (x2 : Int32) (σ : Mem), G X p l e (rmD 5) s m args below meth c 3 0 0 (QI X below args s vI) 83 [(0, .ref (xa X r0)), (1, .int y1), (2, .int x2)] [] σ (L_M_load_83 r0 y1 k n x2 σ) := by
  intro n
  induction n with
  | zero => intros; exact g_no
  | succ n ih =>
    intro x2 σ
    unfold L_M_load_83
    refine g_iload_n F d_M_load_83 2 rfl ?_
    refine g_sipush F (v := 1924) d_M_load_84 (by decide) ?_
    refine g_icmp_ge F (tgt := 112) d_M_load_87 (by decide) (fun h13 => ?_) (fun h14 => ?_)
    · exact g_sub [0, 1] rfl (hk  _)
    refine g_aload_n F d_M_load_90 0 rfl ?_
    refine g_getR F fs_8_13 hr0.1 rfl d_M_load_91 ?_
    refine g_iload_n F d_M_load_94 2 rfl ?_
    refine g_aload_n F d_M_load_95 0 rfl ?_
    refine g_getR F fs_8_13 hr0.1 rfl d_M_load_96 ?_
    refine g_iload_n F d_M_load_99 2 rfl ?_
    refine g_sipush F (v := 481) d_M_load_100 (by decide) ?_
    refine g_iadd F d_M_load_103 ?_
    refine g_iald F (n := 2405) hr0.2.2.1 d_M_load_104 ?_
    refine g_iast F (n := 2405) hr0.2.2.1 d_M_load_105 ?_
    refine g_ltM (fun σ14 _ => ?_)
    refine g_iinc F (v := 1) (ls' := [(2, .int (x2 + 1)), (0, .ref (xa X r0)), (1, .int y1)]) d_M_load_106 2 rfl (by decide) (by decide) rfl ?_
    refine g_goto F (tgt := 83) d_M_load_109 (by decide) ?_
    exact g_sub [1, 2, 0] rfl (ih _ _)
set_option maxRecDepth 100000 in
set_option maxHeartbeats 4000000 in
theorem l_L_M_load_124 {X : CX} {p : Program} {l : Launch} {e : Env} {s : State} {m : MethodId} {args : Array Value} {below : List Frame} {meth : Method} {c : Code} (F : FR p s m args c prog_10_method_57_code 3 "SensorHubModel" X) (hlk : meth.locks = false) (hr : meth.sig.returnType = some .int) (r0 : Nat) (y1 : Int32) (hr0 : ModelOK X r0) (k : Mem → Option (Int32 × Mem)) (hk : ∀  (σ : Mem), G X p l e (rmD 5) s m args below meth c 3 0 0 (QI X below args s vI) 158 [(0, .ref (xa X r0)), (1, .int y1)] [] σ (k σ)) : ∀ (n : Nat) (x2 : Int32) (σ : Mem), G X p l e (rmD 5) s m args below meth c 3 0 0 (QI X below args s vI) 124 [(0, .ref (xa X r0)), (1, .int y1), (2, .int x2)] [] σ (L_M_load_124 r0 y1 k n x2 σ) := by
  intro n
  induction n with
  | zero => intros; exact g_no
  | succ n ih =>
    intro x2 σ
    unfold L_M_load_124
    refine g_iload_n F d_M_load_124 2 rfl ?_
    refine g_sipush F (v := 481) d_M_load_125 (by decide) ?_
    refine g_icmp_ge F (tgt := 158) d_M_load_128 (by decide) (fun h15 => ?_) (fun h16 => ?_)
    · exact g_sub [0, 1] rfl (hk  _)
    refine g_aload_n F d_M_load_131 0 rfl ?_
    refine g_getR F fs_8_13 hr0.1 rfl d_M_load_132 ?_
    refine g_sipush F (v := 481) d_M_load_135 (by decide) ?_
    refine g_aload_n F d_M_load_138 0 rfl ?_
    refine g_getI F fs_8_57 hr0.1 rfl d_M_load_139 ?_
    refine g_imul F d_M_load_142 ?_
    refine g_iload_n F d_M_load_143 2 rfl ?_
    refine g_iadd F d_M_load_144 ?_
    refine g_aload_n F d_M_load_145 0 rfl ?_
    refine g_getR F fs_8_19 hr0.1 rfl d_M_load_146 ?_
    refine g_iload_n F d_M_load_149 2 rfl ?_
    refine g_iald F (n := 481) hr0.2.2.2.2.1 d_M_load_150 ?_
    refine g_iast F (n := 2405) hr0.2.2.1 d_M_load_151 ?_
    refine g_ltM (fun σ17 _ => ?_)
    refine g_iinc F (v := 1) (ls' := [(2, .int (x2 + 1)), (0, .ref (xa X r0)), (1, .int y1)]) d_M_load_152 2 rfl (by decide) (by decide) rfl ?_
    refine g_goto F (tgt := 124) d_M_load_155 (by decide) ?_
    exact g_sub [1, 2, 0] rfl (ih _ _)
set_option maxRecDepth 100000 in
set_option maxHeartbeats 4000000 in
theorem c_M_load {X : CX} (l : Launch) (q : Nat) (hq : ModelOK X q) (σ : Mem) : CT X l y_M_load prog_10_method_57_code 3 (some .int) 5 vI [.ref (xa X q)] σ (f_M_load q σ) := by
  refine CT_of (by decide +kernel) (Nat.le_of_ble_eq_true rfl) ?_
  intro p e s m args below meth c F hlk hr
  have F : FR p s m args c prog_10_method_57_code 3 "SensorHubModel" X := F
  show G X p l e (rmD 5) s m args below meth c 3 0 0 (QI X below args s vI) 0 [(0, .ref (xa X q))] [] σ _
  unfold f_M_load
  refine g_aload_n F d_M_load_0 0 rfl ?_
  refine g_iconst F (v := 0) d_M_load_1 (by decide) ?_
  refine g_putI F fw_8_35 hq.1 rfl d_M_load_2 ?_
  refine g_ltM (fun σ1 _ => ?_)
  refine g_aload_n F d_M_load_5 0 rfl ?_
  refine g_callV F (dp := 0) (ci := 8) (As := []) (c_M_hold l _ hq _) cv_8_194 hq.1 rfl rfl rfl (Nat.le_of_ble_eq_true rfl) ⟨Nat.le_of_ble_eq_true rfl, Nat.le_of_ble_eq_true rfl⟩ ⟨Nat.zero_le _, Nat.zero_le _⟩ d_M_load_6 (fun _ σ3 h1 => ?_)
  refine g_aload_n F d_M_load_9 0 rfl ?_
  refine g_callV F (dp := 0) (ci := 8) (As := []) (c_M_empty l _ hq _) cv_8_39 hq.1 rfl rfl rfl (Nat.le_of_ble_eq_true rfl) ⟨Nat.le_of_ble_eq_true rfl, Nat.le_of_ble_eq_true rfl⟩ ⟨Nat.zero_le _, Nat.zero_le _⟩ d_M_load_10 (fun _ σ5 h2 => ?_)
  refine g_aload_n F d_M_load_13 0 rfl ?_
  refine g_iconst F (v := 0) d_M_load_14 (by decide) ?_
  refine g_putI F fw_8_150 hq.1 rfl d_M_load_15 ?_
  refine g_ltM (fun σ6 _ => ?_)
  refine g_aload_n F d_M_load_18 0 rfl ?_
  refine g_iconst F (v := 0) d_M_load_19 (by decide) ?_
  refine g_pt (q := (0 : Int32) &&& 1 = (0 : Int32)) (by decide) (g_putZ F fw_8_165 hq.1 rfl d_M_load_20 ?_)
  refine g_ltM (fun σ7 _ => ?_)
  refine g_iconst F (v := 0) d_M_load_23 (by decide) ?_
  refine g_istore_n F (ls' := [(1, .int (0 : Int32)), (0, .ref (xa X q))]) d_M_load_24 (by decide) rfl ?_
  refine g_aload_n F d_M_load_25 1 rfl ?_
  refine g_callV F (dp := 1) (ci := 8) (As := []) (c_M_read l _ hq _) cv_8_169 hq.1 rfl rfl rfl (Nat.le_of_ble_eq_true rfl) ⟨Nat.le_of_ble_eq_true rfl, Nat.le_of_ble_eq_true rfl⟩ ⟨Nat.zero_le _, Nat.zero_le _⟩ d_M_load_26 (fun _ σ9 h3 => ?_)
  refine g_sub [1, 0] rfl (l_L_M_load_29 F hlk hr _ hq _ (fun z12 σ13 => ?_) FU _ _)
  refine g_aload_n F d_M_load_54 0 rfl ?_
  refine g_getI F fs_8_165 hq.1 rfl d_M_load_55 ?_
  refine g_if_eq F (tgt := 73) d_M_load_58 (by decide) (fun h9 => ?_) (fun h10 => ?_)
  · refine g_aload_n F d_M_load_73 0 rfl ?_
    refine g_getI F fs_8_57 hq.1 rfl d_M_load_74 ?_
    refine g_iconst F (v := 5) d_M_load_77 (by decide) ?_
    refine g_icmp_ne F (tgt := 122) d_M_load_78 (by decide) (fun h11 => ?_) (fun h12 => ?_)
    · refine g_iconst F (v := 0) d_M_load_81 (by decide) ?_
      refine g_istore_n F (ls' := [(2, .int (0 : Int32)), (0, .ref (xa X q)), (1, .int z12)]) d_M_load_82 (by decide) rfl ?_
      refine g_sub [1, 2, 0] rfl (l_L_M_load_83 F hlk hr _ _ hq _ (fun σ15 => ?_) FU _ _)
      refine g_aload_n F d_M_load_112 0 rfl ?_
      refine g_dup F d_M_load_113 rfl ?_
      refine g_getI F fs_8_57 hq.1 rfl d_M_load_114 ?_
      refine g_iconst F (v := 1) d_M_load_117 (by decide) ?_
      refine g_isub F d_M_load_118 ?_
      refine g_putI F fw_8_57 hq.1 rfl d_M_load_119 ?_
      refine g_ltM (fun σ16 _ => ?_)
      refine g_iconst F (v := 0) d_M_load_122 (by decide) ?_
      refine g_istore_n F (ls' := [(2, .int (0 : Int32)), (0, .ref (xa X q)), (1, .int z12)]) d_M_load_123 (by decide) rfl ?_
      refine g_sub [1, 2, 0] rfl (l_L_M_load_124 F hlk hr _ _ hq _ (fun σ18 => ?_) FU _ _)
      refine g_aload_n F d_M_load_158 0 rfl ?_
      refine g_dup F d_M_load_159 rfl ?_
      refine g_getI F fs_8_57 hq.1 rfl d_M_load_160 ?_
      refine g_iconst F (v := 1) d_M_load_163 (by decide) ?_
      refine g_iadd F d_M_load_164 ?_
      refine g_putI F fw_8_57 hq.1 rfl d_M_load_165 ?_
      refine g_ltM (fun σ19 _ => ?_)
      refine g_aload_n F d_M_load_168 0 rfl ?_
      refine g_iconst F (v := 0) d_M_load_169 (by decide) ?_
      refine g_putI F fw_8_147 hq.1 rfl d_M_load_170 ?_
      refine g_ltM (fun σ20 _ => ?_)
      refine g_iload_n F d_M_load_173 1 rfl ?_
      exact g_iret F hlk hr d_M_load_174
    refine g_iconst F (v := 0) d_M_load_122 (by decide) ?_
    refine g_istore_n F (ls' := [(2, .int (0 : Int32)), (0, .ref (xa X q)), (1, .int z12)]) d_M_load_123 (by decide) rfl ?_
    refine g_sub [1, 2, 0] rfl (l_L_M_load_124 F hlk hr _ _ hq _ (fun σ21 => ?_) FU _ _)
    refine g_aload_n F d_M_load_158 0 rfl ?_
    refine g_dup F d_M_load_159 rfl ?_
    refine g_getI F fs_8_57 hq.1 rfl d_M_load_160 ?_
    refine g_iconst F (v := 1) d_M_load_163 (by decide) ?_
    refine g_iadd F d_M_load_164 ?_
    refine g_putI F fw_8_57 hq.1 rfl d_M_load_165 ?_
    refine g_ltM (fun σ22 _ => ?_)
    refine g_aload_n F d_M_load_168 0 rfl ?_
    refine g_iconst F (v := 0) d_M_load_169 (by decide) ?_
    refine g_putI F fw_8_147 hq.1 rfl d_M_load_170 ?_
    refine g_ltM (fun σ23 _ => ?_)
    refine g_iload_n F d_M_load_173 1 rfl ?_
    exact g_iret F hlk hr d_M_load_174
  refine g_aload_n F d_M_load_61 0 rfl ?_
  refine g_callV F (dp := 0) (ci := 8) (As := []) (c_M_release l _ hq _) cv_8_200 hq.1 rfl rfl rfl (Nat.le_of_ble_eq_true rfl) ⟨Nat.le_of_ble_eq_true rfl, Nat.le_of_ble_eq_true rfl⟩ ⟨Nat.zero_le _, Nat.zero_le _⟩ d_M_load_62 (fun _ σ25 h17 => ?_)
  refine g_bipush F (v := (-10)) d_M_load_65 (by decide) ?_
  refine g_aload_n F d_M_load_67 0 rfl ?_
  refine g_getI F fs_8_156 hq.1 rfl d_M_load_68 ?_
  refine g_isub F d_M_load_71 ?_
  exact g_iret F hlk hr d_M_load_72
def y_M_advance : MethodName := ⟨"SensorHubModel", "advance", "(I)I"⟩
theorem d_M_advance_0 : decode prog_10_method_58_code 0 = .ok (.aload_n 0, 1) := by decide +kernel
theorem d_M_advance_1 : decode prog_10_method_58_code 1 = .ok (.iconst 0, 1) := by decide +kernel
theorem d_M_advance_2 : decode prog_10_method_58_code 2 = .ok (.putfield 35, 3) := by decide +kernel
theorem d_M_advance_5 : decode prog_10_method_58_code 5 = .ok (.iload_n 1, 1) := by decide +kernel
theorem d_M_advance_6 : decode prog_10_method_58_code 6 = .ok (.iconst 1, 1) := by decide +kernel
theorem d_M_advance_7 : decode prog_10_method_58_code 7 = .ok (.sipush 500, 3) := by decide +kernel
theorem d_M_advance_10 : decode prog_10_method_58_code 10 = .ok (.invokestatic 42, 3) := by decide +kernel
theorem d_M_advance_13 : decode prog_10_method_58_code 13 = .ok (.ifCond .ne 5, 3) := by decide +kernel
theorem d_M_advance_16 : decode prog_10_method_58_code 16 = .ok (.iconst (-1), 1) := by decide +kernel
theorem d_M_advance_17 : decode prog_10_method_58_code 17 = .ok (.ireturn, 1) := by decide +kernel
theorem d_M_advance_18 : decode prog_10_method_58_code 18 = .ok (.aload_n 0, 1) := by decide +kernel
theorem d_M_advance_19 : decode prog_10_method_58_code 19 = .ok (.getfield 7, 3) := by decide +kernel
theorem d_M_advance_22 : decode prog_10_method_58_code 22 = .ok (.iconst 0, 1) := by decide +kernel
theorem d_M_advance_23 : decode prog_10_method_58_code 23 = .ok (.iaload, 1) := by decide +kernel
theorem d_M_advance_24 : decode prog_10_method_58_code 24 = .ok (.iload_n 1, 1) := by decide +kernel
theorem d_M_advance_25 : decode prog_10_method_58_code 25 = .ok (.iadd, 1) := by decide +kernel
theorem d_M_advance_26 : decode prog_10_method_58_code 26 = .ok (.sipush 9999, 3) := by decide +kernel
theorem d_M_advance_29 : decode prog_10_method_58_code 29 = .ok (.if_icmp .le 6, 3) := by decide +kernel
theorem d_M_advance_32 : decode prog_10_method_58_code 32 = .ok (.bipush (-3), 2) := by decide +kernel
theorem d_M_advance_34 : decode prog_10_method_58_code 34 = .ok (.ireturn, 1) := by decide +kernel
theorem d_M_advance_35 : decode prog_10_method_58_code 35 = .ok (.aload_n 0, 1) := by decide +kernel
theorem d_M_advance_36 : decode prog_10_method_58_code 36 = .ok (.invokevirtual 117, 3) := by decide +kernel
theorem d_M_advance_39 : decode prog_10_method_58_code 39 = .ok (.aload_n 0, 1) := by decide +kernel
theorem d_M_advance_40 : decode prog_10_method_58_code 40 = .ok (.invokevirtual 203, 3) := by decide +kernel
theorem d_M_advance_43 : decode prog_10_method_58_code 43 = .ok (.istore_n 2, 1) := by decide +kernel
theorem d_M_advance_44 : decode prog_10_method_58_code 44 = .ok (.aload_n 0, 1) := by decide +kernel
theorem d_M_advance_45 : decode prog_10_method_58_code 45 = .ok (.iload_n 1, 1) := by decide +kernel
theorem d_M_advance_46 : decode prog_10_method_58_code 46 = .ok (.invokevirtual 206, 3) := by decide +kernel
theorem d_M_advance_49 : decode prog_10_method_58_code 49 = .ok (.aload_n 0, 1) := by decide +kernel
theorem d_M_advance_50 : decode prog_10_method_58_code 50 = .ok (.invokevirtual 203, 3) := by decide +kernel
theorem d_M_advance_53 : decode prog_10_method_58_code 53 = .ok (.iload_n 2, 1) := by decide +kernel
theorem d_M_advance_54 : decode prog_10_method_58_code 54 = .ok (.isub, 1) := by decide +kernel
theorem d_M_advance_55 : decode prog_10_method_58_code 55 = .ok (.ireturn, 1) := by decide +kernel
theorem cv_8_203 : CSV "SensorHubModel" 203 y_M_allWakes prog_10_method_31_code 1 (some .int) 0 := ⟨gw_I 1116 (by decide +kernel) rfl, gw_I 1118 (by decide +kernel) rfl, gw_I 58 (by decide +kernel) rfl, gw_I 78 (by decide +kernel) rfl, gw_I 1119 (by decide +kernel) rfl, ⟨by decide +kernel, by decide +kernel⟩, by decide +kernel⟩
theorem cv_8_206 : CSV "SensorHubModel" 206 y_M_pass prog_10_method_32_code 3 none 1 := ⟨gw_I 1120 (by decide +kernel) rfl, gw_I 1122 (by decide +kernel) rfl, gw_I 59 (by decide +kernel) rfl, gw_I 78 (by decide +kernel) rfl, gw_I 1123 (by decide +kernel) rfl, ⟨by decide +kernel, by decide +kernel⟩, by decide +kernel⟩
def f_M_advance (q : Nat) (p1 : Int32) (σ : Mem) : Option (Int32 × Mem) :=
  lt (wr σ q 0 (0 : Int32)) fun σ1 =>
  bd (f_M_in p1 (1 : Int32) (500 : Int32) σ1) fun r2 σ3 =>
  if r2 = 0 then
    some ((-1 : Int32), σ3)
  else
    if ((σ3 (q + 1) 0) + p1) ≤ (9999 : Int32) then
      bd (f_M_keep q σ3) fun _ σ5 =>
      bd (f_M_allWakes q σ5) fun r6 σ7 =>
      bd (f_M_pass q p1 σ7) fun _ σ9 =>
      bd (f_M_allWakes q σ9) fun r10 σ11 =>
      some (r10 - r6, σ11)
    else
      some ((-3 : Int32), σ3)
set_option maxRecDepth 100000 in
set_option maxHeartbeats 4000000 in
theorem c_M_advance {X : CX} (l : Launch) (q : Nat) (p1 : Int32) (hq : ModelOK X q) (σ : Mem) : CT X l y_M_advance prog_10_method_58_code 3 (some .int) 6 vI [.ref (xa X q), .int p1] σ (f_M_advance q p1 σ) := by
  refine CT_of (by decide +kernel) (Nat.le_of_ble_eq_true rfl) ?_
  intro p e s m args below meth c F hlk hr
  have F : FR p s m args c prog_10_method_58_code 3 "SensorHubModel" X := F
  show G X p l e (rmD 6) s m args below meth c 3 0 0 (QI X below args s vI) 0 [(0, .ref (xa X q)), (1, .int p1)] [] σ _
  unfold f_M_advance
  refine g_aload_n F d_M_advance_0 0 rfl ?_
  refine g_iconst F (v := 0) d_M_advance_1 (by decide) ?_
  refine g_putI F fw_8_35 hq.1 rfl d_M_advance_2 ?_
  refine g_ltM (fun σ1 _ => ?_)
  refine g_iload_n F d_M_advance_5 1 rfl ?_
  refine g_iconst F (v := 1) d_M_advance_6 (by decide) ?_
  refine g_sipush F (v := 500) d_M_advance_7 (by decide) ?_
  refine g_callS F (dp := 0) (As := [.int p1, .int (1 : Int32), .int (500 : Int32)]) (c_M_in l _ _ _ _) cs_8_42 rfl rfl (Nat.le_of_ble_eq_true rfl) ⟨Nat.le_of_ble_eq_true rfl, Nat.le_of_ble_eq_true rfl⟩ ⟨Nat.zero_le _, Nat.zero_le _⟩ d_M_advance_10 (fun r2 σ3 h1 => ?_)
  refine g_if_ne F (tgt := 18) d_M_advance_13 (by decide) (fun h2 => ?_) (fun h3 => ?_)
  · refine g_iconst F (v := (-1)) d_M_advance_16 (by decide) ?_
    exact g_iret F hlk hr d_M_advance_17
  refine g_aload_n F d_M_advance_18 0 rfl ?_
  refine g_getR F fs_8_7 hq.1 rfl d_M_advance_19 ?_
  refine g_iconst F (v := 0) d_M_advance_22 (by decide) ?_
  refine g_ialdC F (n := 481) 0 (by decide) (by decide) hq.2.1 d_M_advance_23 ?_
  refine g_iload_n F d_M_advance_24 1 rfl ?_
  refine g_iadd F d_M_advance_25 ?_
  refine g_sipush F (v := 9999) d_M_advance_26 (by decide) ?_
  refine g_icmp_le F (tgt := 35) d_M_advance_29 (by decide) (fun h4 => ?_) (fun h5 => ?_)
  · refine g_aload_n F d_M_advance_35 0 rfl ?_
    refine g_callV F (dp := 0) (ci := 8) (As := []) (c_M_keep l _ hq _) cv_8_117 hq.1 rfl rfl rfl (Nat.le_of_ble_eq_true rfl) ⟨Nat.le_of_ble_eq_true rfl, Nat.le_of_ble_eq_true rfl⟩ ⟨Nat.zero_le _, Nat.zero_le _⟩ d_M_advance_36 (fun _ σ5 h6 => ?_)
    refine g_aload_n F d_M_advance_39 0 rfl ?_
    refine g_callV F (dp := 0) (ci := 8) (As := []) (c_M_allWakes l _ hq _) cv_8_203 hq.1 rfl rfl rfl (Nat.le_of_ble_eq_true rfl) ⟨Nat.le_of_ble_eq_true rfl, Nat.le_of_ble_eq_true rfl⟩ ⟨Nat.zero_le _, Nat.zero_le _⟩ d_M_advance_40 (fun r6 σ7 h7 => ?_)
    refine g_istore_n F (ls' := [(2, .int r6), (0, .ref (xa X q)), (1, .int p1)]) d_M_advance_43 (by decide) rfl ?_
    refine g_aload_n F d_M_advance_44 1 rfl ?_
    refine g_iload_n F d_M_advance_45 2 rfl ?_
    refine g_callV F (dp := 5) (ci := 8) (As := [.int p1]) (c_M_pass l _ _ hq _) cv_8_206 hq.1 rfl rfl rfl (Nat.le_of_ble_eq_true rfl) ⟨Nat.le_of_ble_eq_true rfl, Nat.le_of_ble_eq_true rfl⟩ ⟨Nat.zero_le _, Nat.zero_le _⟩ d_M_advance_46 (fun _ σ9 h8 => ?_)
    refine g_aload_n F d_M_advance_49 1 rfl ?_
    refine g_callV F (dp := 0) (ci := 8) (As := []) (c_M_allWakes l _ hq _) cv_8_203 hq.1 rfl rfl rfl (Nat.le_of_ble_eq_true rfl) ⟨Nat.le_of_ble_eq_true rfl, Nat.le_of_ble_eq_true rfl⟩ ⟨Nat.zero_le _, Nat.zero_le _⟩ d_M_advance_50 (fun r10 σ11 h9 => ?_)
    refine g_iload_n F d_M_advance_53 0 rfl ?_
    refine g_isub F d_M_advance_54 ?_
    exact g_iret F hlk hr d_M_advance_55
  refine g_bipush F (v := (-3)) d_M_advance_32 (by decide) ?_
  exact g_iret F hlk hr d_M_advance_34
def y_M_flush : MethodName := ⟨"SensorHubModel", "flush", "()I"⟩
theorem d_M_flush_0 : decode prog_10_method_59_code 0 = .ok (.aload_n 0, 1) := by decide +kernel
theorem d_M_flush_1 : decode prog_10_method_59_code 1 = .ok (.iconst 0, 1) := by decide +kernel
theorem d_M_flush_2 : decode prog_10_method_59_code 2 = .ok (.putfield 35, 3) := by decide +kernel
theorem d_M_flush_5 : decode prog_10_method_59_code 5 = .ok (.aload_n 0, 1) := by decide +kernel
theorem d_M_flush_6 : decode prog_10_method_59_code 6 = .ok (.getfield 7, 3) := by decide +kernel
theorem d_M_flush_9 : decode prog_10_method_59_code 9 = .ok (.iconst 3, 1) := by decide +kernel
theorem d_M_flush_10 : decode prog_10_method_59_code 10 = .ok (.iaload, 1) := by decide +kernel
theorem d_M_flush_11 : decode prog_10_method_59_code 11 = .ok (.ifCond .ne 6, 3) := by decide +kernel
theorem d_M_flush_14 : decode prog_10_method_59_code 14 = .ok (.bipush (-2), 2) := by decide +kernel
theorem d_M_flush_16 : decode prog_10_method_59_code 16 = .ok (.ireturn, 1) := by decide +kernel
theorem d_M_flush_17 : decode prog_10_method_59_code 17 = .ok (.aload_n 0, 1) := by decide +kernel
theorem d_M_flush_18 : decode prog_10_method_59_code 18 = .ok (.invokevirtual 117, 3) := by decide +kernel
theorem d_M_flush_21 : decode prog_10_method_59_code 21 = .ok (.aload_n 0, 1) := by decide +kernel
theorem d_M_flush_22 : decode prog_10_method_59_code 22 = .ok (.iconst 3, 1) := by decide +kernel
theorem d_M_flush_23 : decode prog_10_method_59_code 23 = .ok (.invokevirtual 98, 3) := by decide +kernel
theorem d_M_flush_26 : decode prog_10_method_59_code 26 = .ok (.ireturn, 1) := by decide +kernel
def f_M_flush (q : Nat) (σ : Mem) : Option (Int32 × Mem) :=
  lt (wr σ q 0 (0 : Int32)) fun σ1 =>
  if (σ1 (q + 1) 3) = 0 then
    some ((-2 : Int32), σ1)
  else
    bd (f_M_keep q σ1) fun _ σ3 =>
    bd (f_M_wake q (3 : Int32) σ3) fun r4 σ5 =>
    some (r4, σ5)
set_option maxRecDepth 100000 in
set_option maxHeartbeats 4000000 in
theorem c_M_flush {X : CX} (l : Launch) (q : Nat) (hq : ModelOK X q) (σ : Mem) : CT X l y_M_flush prog_10_method_59_code 1 (some .int) 3 vI [.ref (xa X q)] σ (f_M_flush q σ) := by
  refine CT_of (by decide +kernel) (Nat.le_of_ble_eq_true rfl) ?_
  intro p e s m args below meth c F hlk hr
  have F : FR p s m args c prog_10_method_59_code 1 "SensorHubModel" X := F
  show G X p l e (rmD 3) s m args below meth c 1 0 0 (QI X below args s vI) 0 [(0, .ref (xa X q))] [] σ _
  unfold f_M_flush
  refine g_aload_n F d_M_flush_0 0 rfl ?_
  refine g_iconst F (v := 0) d_M_flush_1 (by decide) ?_
  refine g_putI F fw_8_35 hq.1 rfl d_M_flush_2 ?_
  refine g_ltM (fun σ1 _ => ?_)
  refine g_aload_n F d_M_flush_5 0 rfl ?_
  refine g_getR F fs_8_7 hq.1 rfl d_M_flush_6 ?_
  refine g_iconst F (v := 3) d_M_flush_9 (by decide) ?_
  refine g_ialdC F (n := 481) 3 (by decide) (by decide) hq.2.1 d_M_flush_10 ?_
  refine g_if_ne F (tgt := 17) d_M_flush_11 (by decide) (fun h1 => ?_) (fun h2 => ?_)
  · refine g_bipush F (v := (-2)) d_M_flush_14 (by decide) ?_
    exact g_iret F hlk hr d_M_flush_16
  refine g_aload_n F d_M_flush_17 0 rfl ?_
  refine g_callV F (dp := 0) (ci := 8) (As := []) (c_M_keep l _ hq _) cv_8_117 hq.1 rfl rfl rfl (Nat.le_of_ble_eq_true rfl) ⟨Nat.le_of_ble_eq_true rfl, Nat.le_of_ble_eq_true rfl⟩ ⟨Nat.zero_le _, Nat.zero_le _⟩ d_M_flush_18 (fun _ σ3 h3 => ?_)
  refine g_aload_n F d_M_flush_21 0 rfl ?_
  refine g_iconst F (v := 3) d_M_flush_22 (by decide) ?_
  refine g_callV F (dp := 2) (ci := 8) (As := [.int (3 : Int32)]) (c_M_wake l _ _ hq _) cv_8_98 hq.1 rfl rfl rfl (Nat.le_of_ble_eq_true rfl) ⟨Nat.le_of_ble_eq_true rfl, Nat.le_of_ble_eq_true rfl⟩ ⟨Nat.zero_le _, Nat.zero_le _⟩ d_M_flush_23 (fun r4 σ5 h4 => ?_)
  exact g_iret F hlk hr d_M_flush_26
def y_M_undo : MethodName := ⟨"SensorHubModel", "undo", "()I"⟩
theorem d_M_undo_0 : decode prog_10_method_60_code 0 = .ok (.aload_n 0, 1) := by decide +kernel
theorem d_M_undo_1 : decode prog_10_method_60_code 1 = .ok (.iconst 0, 1) := by decide +kernel
theorem d_M_undo_2 : decode prog_10_method_60_code 2 = .ok (.putfield 35, 3) := by decide +kernel
theorem d_M_undo_5 : decode prog_10_method_60_code 5 = .ok (.aload_n 0, 1) := by decide +kernel
theorem d_M_undo_6 : decode prog_10_method_60_code 6 = .ok (.getfield 57, 3) := by decide +kernel
theorem d_M_undo_9 : decode prog_10_method_60_code 9 = .ok (.ifCond .ne 6, 3) := by decide +kernel
theorem d_M_undo_12 : decode prog_10_method_60_code 12 = .ok (.bipush (-2), 2) := by decide +kernel
theorem d_M_undo_14 : decode prog_10_method_60_code 14 = .ok (.ireturn, 1) := by decide +kernel
theorem d_M_undo_15 : decode prog_10_method_60_code 15 = .ok (.aload_n 0, 1) := by decide +kernel
theorem d_M_undo_16 : decode prog_10_method_60_code 16 = .ok (.dup, 1) := by decide +kernel
theorem d_M_undo_17 : decode prog_10_method_60_code 17 = .ok (.getfield 57, 3) := by decide +kernel
theorem d_M_undo_20 : decode prog_10_method_60_code 20 = .ok (.iconst 1, 1) := by decide +kernel
theorem d_M_undo_21 : decode prog_10_method_60_code 21 = .ok (.isub, 1) := by decide +kernel
theorem d_M_undo_22 : decode prog_10_method_60_code 22 = .ok (.putfield 57, 3) := by decide +kernel
theorem d_M_undo_25 : decode prog_10_method_60_code 25 = .ok (.iconst 0, 1) := by decide +kernel
theorem d_M_undo_26 : decode prog_10_method_60_code 26 = .ok (.istore_n 1, 1) := by decide +kernel
theorem d_M_undo_27 : decode prog_10_method_60_code 27 = .ok (.iload_n 1, 1) := by decide +kernel
theorem d_M_undo_28 : decode prog_10_method_60_code 28 = .ok (.sipush 481, 3) := by decide +kernel
theorem d_M_undo_31 : decode prog_10_method_60_code 31 = .ok (.if_icmp .ge 30, 3) := by decide +kernel
theorem d_M_undo_34 : decode prog_10_method_60_code 34 = .ok (.aload_n 0, 1) := by decide +kernel
theorem d_M_undo_35 : decode prog_10_method_60_code 35 = .ok (.getfield 7, 3) := by decide +kernel
theorem d_M_undo_38 : decode prog_10_method_60_code 38 = .ok (.iload_n 1, 1) := by decide +kernel
theorem d_M_undo_39 : decode prog_10_method_60_code 39 = .ok (.aload_n 0, 1) := by decide +kernel
theorem d_M_undo_40 : decode prog_10_method_60_code 40 = .ok (.getfield 13, 3) := by decide +kernel
theorem d_M_undo_43 : decode prog_10_method_60_code 43 = .ok (.sipush 481, 3) := by decide +kernel
theorem d_M_undo_46 : decode prog_10_method_60_code 46 = .ok (.aload_n 0, 1) := by decide +kernel
theorem d_M_undo_47 : decode prog_10_method_60_code 47 = .ok (.getfield 57, 3) := by decide +kernel
theorem d_M_undo_50 : decode prog_10_method_60_code 50 = .ok (.imul, 1) := by decide +kernel
theorem d_M_undo_51 : decode prog_10_method_60_code 51 = .ok (.iload_n 1, 1) := by decide +kernel
theorem d_M_undo_52 : decode prog_10_method_60_code 52 = .ok (.iadd, 1) := by decide +kernel
theorem d_M_undo_53 : decode prog_10_method_60_code 53 = .ok (.iaload, 1) := by decide +kernel
theorem d_M_undo_54 : decode prog_10_method_60_code 54 = .ok (.iastore, 1) := by decide +kernel
theorem d_M_undo_55 : decode prog_10_method_60_code 55 = .ok (.iinc 1 1, 3) := by decide +kernel
theorem d_M_undo_58 : decode prog_10_method_60_code 58 = .ok (.goto (-31), 3) := by decide +kernel
theorem d_M_undo_61 : decode prog_10_method_60_code 61 = .ok (.aload_n 0, 1) := by decide +kernel
theorem d_M_undo_62 : decode prog_10_method_60_code 62 = .ok (.getfield 57, 3) := by decide +kernel
theorem d_M_undo_65 : decode prog_10_method_60_code 65 = .ok (.ireturn, 1) := by decide +kernel
def L_M_undo_27 (r0 : Nat) (k : Mem → Option (Int32 × Mem)) : Nat → Int32 → Mem → Option (Int32 × Mem)
  | 0, _, _ => none
  | n + 1, x1, σ =>
    if (481 : Int32) ≤ x1 then
      k σ
    else
      if ib (((481 : Int32) * (σ r0 3)) + x1) 2405 then
        if ib x1 481 then
          lt (wr σ (r0 + 1) x1.toNatClampNeg (σ (r0 + 2) (((481 : Int32) * (σ r0 3)) + x1).toNatClampNeg)) fun σ3 =>
          L_M_undo_27 r0 k n (x1 + 1) σ3
        else none
      else none
def f_M_undo (q : Nat) (σ : Mem) : Option (Int32 × Mem) :=
  lt (wr σ q 0 (0 : Int32)) fun σ1 =>
  if (σ1 q 3) = 0 then
    some ((-2 : Int32), σ1)
  else
    lt (wr σ1 q 3 ((σ1 q 3) - (1 : Int32))) fun σ2 =>
    L_M_undo_27 q (fun σ4 =>
      some (σ4 q 3, σ4)) FU (0 : Int32) σ2
set_option maxRecDepth 100000 in
set_option maxHeartbeats 4000000 in
theorem l_L_M_undo_27 {X : CX} {p : Program} {l : Launch} {e : Env} {s : State} {m : MethodId} {args : Array Value} {below : List Frame} {meth : Method} {c : Code} (F : FR p s m args c prog_10_method_60_code 2 "SensorHubModel" X) (hlk : meth.locks = false) (hr : meth.sig.returnType = some .int) (r0 : Nat) (hr0 : ModelOK X r0) (k : Mem → Option (Int32 × Mem)) (hk : ∀  (σ : Mem), G X p l e (rmD 0) s m args below meth c 2 0 0 (QI X below args s vI) 61 [(0, .ref (xa X r0))] [] σ (k σ)) : ∀ (n : Nat) (x1 : Int32) (σ : Mem), G X p l e (rmD 0) s m args below meth c 2 0 0 (QI X below args s vI) 27 [(0, .ref (xa X r0)), (1, .int x1)] [] σ (L_M_undo_27 r0 k n x1 σ) := by
  intro n
  induction n with
  | zero => intros; exact g_no
  | succ n ih =>
    intro x1 σ
    unfold L_M_undo_27
    refine g_iload_n F d_M_undo_27 1 rfl ?_
    refine g_sipush F (v := 481) d_M_undo_28 (by decide) ?_
    refine g_icmp_ge F (tgt := 61) d_M_undo_31 (by decide) (fun h3 => ?_) (fun h4 => ?_)
    · exact g_sub [0] rfl (hk  _)
    refine g_aload_n F d_M_undo_34 0 rfl ?_
    refine g_getR F fs_8_7 hr0.1 rfl d_M_undo_35 ?_
    refine g_iload_n F d_M_undo_38 1 rfl ?_
    refine g_aload_n F d_M_undo_39 0 rfl ?_
    refine g_getR F fs_8_13 hr0.1 rfl d_M_undo_40 ?_
    refine g_sipush F (v := 481) d_M_undo_43 (by decide) ?_
    refine g_aload_n F d_M_undo_46 0 rfl ?_
    refine g_getI F fs_8_57 hr0.1 rfl d_M_undo_47 ?_
    refine g_imul F d_M_undo_50 ?_
    refine g_iload_n F d_M_undo_51 1 rfl ?_
    refine g_iadd F d_M_undo_52 ?_
    refine g_iald F (n := 2405) hr0.2.2.1 d_M_undo_53 ?_
    refine g_iast F (n := 481) hr0.2.1 d_M_undo_54 ?_
    refine g_ltM (fun σ3 _ => ?_)
    refine g_iinc F (v := 1) (ls' := [(1, .int (x1 + 1)), (0, .ref (xa X r0))]) d_M_undo_55 1 rfl (by decide) (by decide) rfl ?_
    refine g_goto F (tgt := 27) d_M_undo_58 (by decide) ?_
    exact g_sub [1, 0] rfl (ih _ _)
set_option maxRecDepth 100000 in
set_option maxHeartbeats 4000000 in
theorem c_M_undo {X : CX} (l : Launch) (q : Nat) (hq : ModelOK X q) (σ : Mem) : CT X l y_M_undo prog_10_method_60_code 2 (some .int) 0 vI [.ref (xa X q)] σ (f_M_undo q σ) := by
  refine CT_of (by decide +kernel) (Nat.le_of_ble_eq_true rfl) ?_
  intro p e s m args below meth c F hlk hr
  have F : FR p s m args c prog_10_method_60_code 2 "SensorHubModel" X := F
  show G X p l e (rmD 0) s m args below meth c 2 0 0 (QI X below args s vI) 0 [(0, .ref (xa X q))] [] σ _
  unfold f_M_undo
  refine g_aload_n F d_M_undo_0 0 rfl ?_
  refine g_iconst F (v := 0) d_M_undo_1 (by decide) ?_
  refine g_putI F fw_8_35 hq.1 rfl d_M_undo_2 ?_
  refine g_ltM (fun σ1 _ => ?_)
  refine g_aload_n F d_M_undo_5 0 rfl ?_
  refine g_getI F fs_8_57 hq.1 rfl d_M_undo_6 ?_
  refine g_if_ne F (tgt := 15) d_M_undo_9 (by decide) (fun h1 => ?_) (fun h2 => ?_)
  · refine g_bipush F (v := (-2)) d_M_undo_12 (by decide) ?_
    exact g_iret F hlk hr d_M_undo_14
  refine g_aload_n F d_M_undo_15 0 rfl ?_
  refine g_dup F d_M_undo_16 rfl ?_
  refine g_getI F fs_8_57 hq.1 rfl d_M_undo_17 ?_
  refine g_iconst F (v := 1) d_M_undo_20 (by decide) ?_
  refine g_isub F d_M_undo_21 ?_
  refine g_putI F fw_8_57 hq.1 rfl d_M_undo_22 ?_
  refine g_ltM (fun σ2 _ => ?_)
  refine g_iconst F (v := 0) d_M_undo_25 (by decide) ?_
  refine g_istore_n F (ls' := [(1, .int (0 : Int32)), (0, .ref (xa X q))]) d_M_undo_26 (by decide) rfl ?_
  refine g_sub [1, 0] rfl (l_L_M_undo_27 F hlk hr _ hq _ (fun σ4 => ?_) FU _ _)
  refine g_aload_n F d_M_undo_61 0 rfl ?_
  refine g_getI F fs_8_57 hq.1 rfl d_M_undo_62 ?_
  exact g_iret F hlk hr d_M_undo_65
def y_M_count : MethodName := ⟨"SensorHubModel", "count", "(I)I"⟩
theorem d_M_count_0 : decode prog_10_method_61_code 0 = .ok (.aload_n 0, 1) := by decide +kernel
theorem d_M_count_1 : decode prog_10_method_61_code 1 = .ok (.iconst 0, 1) := by decide +kernel
theorem d_M_count_2 : decode prog_10_method_61_code 2 = .ok (.putfield 35, 3) := by decide +kernel
theorem d_M_count_5 : decode prog_10_method_61_code 5 = .ok (.iload_n 1, 1) := by decide +kernel
theorem d_M_count_6 : decode prog_10_method_61_code 6 = .ok (.tableswitch 119 0 9 #[54, 61, 68, 73, 80, 87, 94, 101, 109, 114], 54) := by decide +kernel
theorem d_M_count_60 : decode prog_10_method_61_code 60 = .ok (.aload_n 0, 1) := by decide +kernel
theorem d_M_count_61 : decode prog_10_method_61_code 61 = .ok (.getfield 7, 3) := by decide +kernel
theorem d_M_count_64 : decode prog_10_method_61_code 64 = .ok (.iconst 0, 1) := by decide +kernel
theorem d_M_count_65 : decode prog_10_method_61_code 65 = .ok (.iaload, 1) := by decide +kernel
theorem d_M_count_66 : decode prog_10_method_61_code 66 = .ok (.ireturn, 1) := by decide +kernel
theorem d_M_count_67 : decode prog_10_method_61_code 67 = .ok (.aload_n 0, 1) := by decide +kernel
theorem d_M_count_68 : decode prog_10_method_61_code 68 = .ok (.getfield 7, 3) := by decide +kernel
theorem d_M_count_71 : decode prog_10_method_61_code 71 = .ok (.iconst 1, 1) := by decide +kernel
theorem d_M_count_72 : decode prog_10_method_61_code 72 = .ok (.iaload, 1) := by decide +kernel
theorem d_M_count_73 : decode prog_10_method_61_code 73 = .ok (.ireturn, 1) := by decide +kernel
theorem d_M_count_74 : decode prog_10_method_61_code 74 = .ok (.aload_n 0, 1) := by decide +kernel
theorem d_M_count_75 : decode prog_10_method_61_code 75 = .ok (.invokevirtual 209, 3) := by decide +kernel
theorem d_M_count_78 : decode prog_10_method_61_code 78 = .ok (.ireturn, 1) := by decide +kernel
theorem d_M_count_79 : decode prog_10_method_61_code 79 = .ok (.aload_n 0, 1) := by decide +kernel
theorem d_M_count_80 : decode prog_10_method_61_code 80 = .ok (.getfield 7, 3) := by decide +kernel
theorem d_M_count_83 : decode prog_10_method_61_code 83 = .ok (.iconst 2, 1) := by decide +kernel
theorem d_M_count_84 : decode prog_10_method_61_code 84 = .ok (.iaload, 1) := by decide +kernel
theorem d_M_count_85 : decode prog_10_method_61_code 85 = .ok (.ireturn, 1) := by decide +kernel
theorem d_M_count_86 : decode prog_10_method_61_code 86 = .ok (.aload_n 0, 1) := by decide +kernel
theorem d_M_count_87 : decode prog_10_method_61_code 87 = .ok (.getfield 7, 3) := by decide +kernel
theorem d_M_count_90 : decode prog_10_method_61_code 90 = .ok (.iconst 3, 1) := by decide +kernel
theorem d_M_count_91 : decode prog_10_method_61_code 91 = .ok (.iaload, 1) := by decide +kernel
theorem d_M_count_92 : decode prog_10_method_61_code 92 = .ok (.ireturn, 1) := by decide +kernel
theorem d_M_count_93 : decode prog_10_method_61_code 93 = .ok (.aload_n 0, 1) := by decide +kernel
theorem d_M_count_94 : decode prog_10_method_61_code 94 = .ok (.getfield 7, 3) := by decide +kernel
theorem d_M_count_97 : decode prog_10_method_61_code 97 = .ok (.iconst 4, 1) := by decide +kernel
theorem d_M_count_98 : decode prog_10_method_61_code 98 = .ok (.iaload, 1) := by decide +kernel
theorem d_M_count_99 : decode prog_10_method_61_code 99 = .ok (.ireturn, 1) := by decide +kernel
theorem d_M_count_100 : decode prog_10_method_61_code 100 = .ok (.aload_n 0, 1) := by decide +kernel
theorem d_M_count_101 : decode prog_10_method_61_code 101 = .ok (.getfield 7, 3) := by decide +kernel
theorem d_M_count_104 : decode prog_10_method_61_code 104 = .ok (.iconst 5, 1) := by decide +kernel
theorem d_M_count_105 : decode prog_10_method_61_code 105 = .ok (.iaload, 1) := by decide +kernel
theorem d_M_count_106 : decode prog_10_method_61_code 106 = .ok (.ireturn, 1) := by decide +kernel
theorem d_M_count_107 : decode prog_10_method_61_code 107 = .ok (.aload_n 0, 1) := by decide +kernel
theorem d_M_count_108 : decode prog_10_method_61_code 108 = .ok (.getfield 7, 3) := by decide +kernel
theorem d_M_count_111 : decode prog_10_method_61_code 111 = .ok (.bipush 6, 2) := by decide +kernel
theorem d_M_count_113 : decode prog_10_method_61_code 113 = .ok (.iaload, 1) := by decide +kernel
theorem d_M_count_114 : decode prog_10_method_61_code 114 = .ok (.ireturn, 1) := by decide +kernel
theorem d_M_count_115 : decode prog_10_method_61_code 115 = .ok (.aload_n 0, 1) := by decide +kernel
theorem d_M_count_116 : decode prog_10_method_61_code 116 = .ok (.getfield 57, 3) := by decide +kernel
theorem d_M_count_119 : decode prog_10_method_61_code 119 = .ok (.ireturn, 1) := by decide +kernel
theorem d_M_count_120 : decode prog_10_method_61_code 120 = .ok (.aload_n 0, 1) := by decide +kernel
theorem d_M_count_121 : decode prog_10_method_61_code 121 = .ok (.getfield 147, 3) := by decide +kernel
theorem d_M_count_124 : decode prog_10_method_61_code 124 = .ok (.ireturn, 1) := by decide +kernel
theorem d_M_count_125 : decode prog_10_method_61_code 125 = .ok (.iconst (-1), 1) := by decide +kernel
theorem d_M_count_126 : decode prog_10_method_61_code 126 = .ok (.ireturn, 1) := by decide +kernel
theorem cv_8_209 : CSV "SensorHubModel" 209 y_M_clientMany prog_10_method_39_code 3 (some .int) 0 := ⟨gw_I 1167 (by decide +kernel) rfl, gw_I 1169 (by decide +kernel) rfl, gw_I 67 (by decide +kernel) rfl, gw_I 78 (by decide +kernel) rfl, gw_I 1170 (by decide +kernel) rfl, ⟨by decide +kernel, by decide +kernel⟩, by decide +kernel⟩
def f_M_count (q : Nat) (p1 : Int32) (σ : Mem) : Option (Int32 × Mem) :=
  lt (wr σ q 0 (0 : Int32)) fun σ1 =>
  if p1 = 0 then
    some (σ1 (q + 1) 0, σ1)
  else
  if p1 = 1 then
    some (σ1 (q + 1) 1, σ1)
  else
  if p1 = 2 then
    bd (f_M_clientMany q σ1) fun r2 σ3 =>
    some (r2, σ3)
  else
  if p1 = 3 then
    some (σ1 (q + 1) 2, σ1)
  else
  if p1 = 4 then
    some (σ1 (q + 1) 3, σ1)
  else
  if p1 = 5 then
    some (σ1 (q + 1) 4, σ1)
  else
  if p1 = 6 then
    some (σ1 (q + 1) 5, σ1)
  else
  if p1 = 7 then
    some (σ1 (q + 1) 6, σ1)
  else
  if p1 = 8 then
    some (σ1 q 3, σ1)
  else
  if p1 = 9 then
    some (σ1 q 5, σ1)
  else
    some ((-1 : Int32), σ1)
set_option maxRecDepth 100000 in
set_option maxHeartbeats 4000000 in
theorem c_M_count {X : CX} (l : Launch) (q : Nat) (p1 : Int32) (hq : ModelOK X q) (σ : Mem) : CT X l y_M_count prog_10_method_61_code 2 (some .int) 2 vI [.ref (xa X q), .int p1] σ (f_M_count q p1 σ) := by
  refine CT_of (by decide +kernel) (Nat.le_of_ble_eq_true rfl) ?_
  intro p e s m args below meth c F hlk hr
  have F : FR p s m args c prog_10_method_61_code 2 "SensorHubModel" X := F
  show G X p l e (rmD 2) s m args below meth c 2 0 0 (QI X below args s vI) 0 [(0, .ref (xa X q)), (1, .int p1)] [] σ _
  unfold f_M_count
  refine g_aload_n F d_M_count_0 0 rfl ?_
  refine g_iconst F (v := 0) d_M_count_1 (by decide) ?_
  refine g_putI F fw_8_35 hq.1 rfl d_M_count_2 ?_
  refine g_ltM (fun σ1 _ => ?_)
  refine g_iload_n F d_M_count_5 1 rfl ?_
  refine g_if (fun h1 => ?_) (fun h2 => ?_)
  · refine g_tsIn F (tgt := 60) d_M_count_6 0 h1 (by decide) (by decide) rfl (by decide) ?_
    refine g_aload_n F d_M_count_60 0 rfl ?_
    refine g_getR F fs_8_7 hq.1 rfl d_M_count_61 ?_
    refine g_iconst F (v := 0) d_M_count_64 (by decide) ?_
    refine g_ialdC F (n := 481) 0 (by decide) (by decide) hq.2.1 d_M_count_65 ?_
    exact g_iret F hlk hr d_M_count_66
  refine g_if (fun h3 => ?_) (fun h4 => ?_)
  · refine g_tsIn F (tgt := 67) d_M_count_6 1 h3 (by decide) (by decide) rfl (by decide) ?_
    refine g_aload_n F d_M_count_67 0 rfl ?_
    refine g_getR F fs_8_7 hq.1 rfl d_M_count_68 ?_
    refine g_iconst F (v := 1) d_M_count_71 (by decide) ?_
    refine g_ialdC F (n := 481) 1 (by decide) (by decide) hq.2.1 d_M_count_72 ?_
    exact g_iret F hlk hr d_M_count_73
  refine g_if (fun h5 => ?_) (fun h6 => ?_)
  · refine g_tsIn F (tgt := 74) d_M_count_6 2 h5 (by decide) (by decide) rfl (by decide) ?_
    refine g_aload_n F d_M_count_74 0 rfl ?_
    refine g_callV F (dp := 1) (ci := 8) (As := []) (c_M_clientMany l _ hq _) cv_8_209 hq.1 rfl rfl rfl (Nat.le_of_ble_eq_true rfl) ⟨Nat.le_of_ble_eq_true rfl, Nat.le_of_ble_eq_true rfl⟩ ⟨Nat.zero_le _, Nat.zero_le _⟩ d_M_count_75 (fun r2 σ3 h7 => ?_)
    exact g_iret F hlk hr d_M_count_78
  refine g_if (fun h8 => ?_) (fun h9 => ?_)
  · refine g_tsIn F (tgt := 79) d_M_count_6 3 h8 (by decide) (by decide) rfl (by decide) ?_
    refine g_aload_n F d_M_count_79 0 rfl ?_
    refine g_getR F fs_8_7 hq.1 rfl d_M_count_80 ?_
    refine g_iconst F (v := 2) d_M_count_83 (by decide) ?_
    refine g_ialdC F (n := 481) 2 (by decide) (by decide) hq.2.1 d_M_count_84 ?_
    exact g_iret F hlk hr d_M_count_85
  refine g_if (fun h10 => ?_) (fun h11 => ?_)
  · refine g_tsIn F (tgt := 86) d_M_count_6 4 h10 (by decide) (by decide) rfl (by decide) ?_
    refine g_aload_n F d_M_count_86 0 rfl ?_
    refine g_getR F fs_8_7 hq.1 rfl d_M_count_87 ?_
    refine g_iconst F (v := 3) d_M_count_90 (by decide) ?_
    refine g_ialdC F (n := 481) 3 (by decide) (by decide) hq.2.1 d_M_count_91 ?_
    exact g_iret F hlk hr d_M_count_92
  refine g_if (fun h12 => ?_) (fun h13 => ?_)
  · refine g_tsIn F (tgt := 93) d_M_count_6 5 h12 (by decide) (by decide) rfl (by decide) ?_
    refine g_aload_n F d_M_count_93 0 rfl ?_
    refine g_getR F fs_8_7 hq.1 rfl d_M_count_94 ?_
    refine g_iconst F (v := 4) d_M_count_97 (by decide) ?_
    refine g_ialdC F (n := 481) 4 (by decide) (by decide) hq.2.1 d_M_count_98 ?_
    exact g_iret F hlk hr d_M_count_99
  refine g_if (fun h14 => ?_) (fun h15 => ?_)
  · refine g_tsIn F (tgt := 100) d_M_count_6 6 h14 (by decide) (by decide) rfl (by decide) ?_
    refine g_aload_n F d_M_count_100 0 rfl ?_
    refine g_getR F fs_8_7 hq.1 rfl d_M_count_101 ?_
    refine g_iconst F (v := 5) d_M_count_104 (by decide) ?_
    refine g_ialdC F (n := 481) 5 (by decide) (by decide) hq.2.1 d_M_count_105 ?_
    exact g_iret F hlk hr d_M_count_106
  refine g_if (fun h16 => ?_) (fun h17 => ?_)
  · refine g_tsIn F (tgt := 107) d_M_count_6 7 h16 (by decide) (by decide) rfl (by decide) ?_
    refine g_aload_n F d_M_count_107 0 rfl ?_
    refine g_getR F fs_8_7 hq.1 rfl d_M_count_108 ?_
    refine g_bipush F (v := 6) d_M_count_111 (by decide) ?_
    refine g_ialdC F (n := 481) 6 (by decide) (by decide) hq.2.1 d_M_count_113 ?_
    exact g_iret F hlk hr d_M_count_114
  refine g_if (fun h18 => ?_) (fun h19 => ?_)
  · refine g_tsIn F (tgt := 115) d_M_count_6 8 h18 (by decide) (by decide) rfl (by decide) ?_
    refine g_aload_n F d_M_count_115 0 rfl ?_
    refine g_getI F fs_8_57 hq.1 rfl d_M_count_116 ?_
    exact g_iret F hlk hr d_M_count_119
  refine g_if (fun h20 => ?_) (fun h21 => ?_)
  · refine g_tsIn F (tgt := 120) d_M_count_6 9 h20 (by decide) (by decide) rfl (by decide) ?_
    refine g_aload_n F d_M_count_120 0 rfl ?_
    refine g_getI F fs_8_147 hq.1 rfl d_M_count_121 ?_
    exact g_iret F hlk hr d_M_count_124
  refine g_tsOut F (tgt := 125) d_M_count_6 (by have e0 := ts_ne 0 (by decide) h2; have e1 := ts_ne 1 (by decide) h4; have e2 := ts_ne 2 (by decide) h6; have e3 := ts_ne 3 (by decide) h9; have e4 := ts_ne 4 (by decide) h11; have e5 := ts_ne 5 (by decide) h13; have e6 := ts_ne 6 (by decide) h15; have e7 := ts_ne 7 (by decide) h17; have e8 := ts_ne 8 (by decide) h19; have e9 := ts_ne 9 (by decide) h21; omega) (by decide) ?_
  refine g_iconst F (v := (-1)) d_M_count_125 (by decide) ?_
  exact g_iret F hlk hr d_M_count_126
def y_M_wakes : MethodName := ⟨"SensorHubModel", "wakes", "(I)I"⟩
theorem d_M_wakes_0 : decode prog_10_method_62_code 0 = .ok (.aload_n 0, 1) := by decide +kernel
theorem d_M_wakes_1 : decode prog_10_method_62_code 1 = .ok (.iconst 0, 1) := by decide +kernel
theorem d_M_wakes_2 : decode prog_10_method_62_code 2 = .ok (.putfield 35, 3) := by decide +kernel
theorem d_M_wakes_5 : decode prog_10_method_62_code 5 = .ok (.iload_n 1, 1) := by decide +kernel
theorem d_M_wakes_6 : decode prog_10_method_62_code 6 = .ok (.iconst 0, 1) := by decide +kernel
theorem d_M_wakes_7 : decode prog_10_method_62_code 7 = .ok (.iconst 3, 1) := by decide +kernel
theorem d_M_wakes_8 : decode prog_10_method_62_code 8 = .ok (.invokestatic 42, 3) := by decide +kernel
theorem d_M_wakes_11 : decode prog_10_method_62_code 11 = .ok (.ifCond .eq 15, 3) := by decide +kernel
theorem d_M_wakes_14 : decode prog_10_method_62_code 14 = .ok (.aload_n 0, 1) := by decide +kernel
theorem d_M_wakes_15 : decode prog_10_method_62_code 15 = .ok (.getfield 7, 3) := by decide +kernel
theorem d_M_wakes_18 : decode prog_10_method_62_code 18 = .ok (.bipush 7, 2) := by decide +kernel
theorem d_M_wakes_20 : decode prog_10_method_62_code 20 = .ok (.iload_n 1, 1) := by decide +kernel
theorem d_M_wakes_21 : decode prog_10_method_62_code 21 = .ok (.iadd, 1) := by decide +kernel
theorem d_M_wakes_22 : decode prog_10_method_62_code 22 = .ok (.iaload, 1) := by decide +kernel
theorem d_M_wakes_23 : decode prog_10_method_62_code 23 = .ok (.goto 4, 3) := by decide +kernel
theorem d_M_wakes_26 : decode prog_10_method_62_code 26 = .ok (.iconst (-1), 1) := by decide +kernel
theorem d_M_wakes_27 : decode prog_10_method_62_code 27 = .ok (.ireturn, 1) := by decide +kernel
def f_M_wakes (q : Nat) (p1 : Int32) (σ : Mem) : Option (Int32 × Mem) :=
  lt (wr σ q 0 (0 : Int32)) fun σ1 =>
  bd (f_M_in p1 (0 : Int32) (3 : Int32) σ1) fun r2 σ3 =>
  if r2 = 0 then
    some ((-1 : Int32), σ3)
  else
    if ib ((7 : Int32) + p1) 481 then
      some (σ3 (q + 1) ((7 : Int32) + p1).toNatClampNeg, σ3)
    else none
set_option maxRecDepth 100000 in
set_option maxHeartbeats 4000000 in
theorem c_M_wakes {X : CX} (l : Launch) (q : Nat) (p1 : Int32) (hq : ModelOK X q) (σ : Mem) : CT X l y_M_wakes prog_10_method_62_code 2 (some .int) 1 vI [.ref (xa X q), .int p1] σ (f_M_wakes q p1 σ) := by
  refine CT_of (by decide +kernel) (Nat.le_of_ble_eq_true rfl) ?_
  intro p e s m args below meth c F hlk hr
  have F : FR p s m args c prog_10_method_62_code 2 "SensorHubModel" X := F
  show G X p l e (rmD 1) s m args below meth c 2 0 0 (QI X below args s vI) 0 [(0, .ref (xa X q)), (1, .int p1)] [] σ _
  unfold f_M_wakes
  refine g_aload_n F d_M_wakes_0 0 rfl ?_
  refine g_iconst F (v := 0) d_M_wakes_1 (by decide) ?_
  refine g_putI F fw_8_35 hq.1 rfl d_M_wakes_2 ?_
  refine g_ltM (fun σ1 _ => ?_)
  refine g_iload_n F d_M_wakes_5 1 rfl ?_
  refine g_iconst F (v := 0) d_M_wakes_6 (by decide) ?_
  refine g_iconst F (v := 3) d_M_wakes_7 (by decide) ?_
  refine g_callS F (dp := 0) (As := [.int p1, .int (0 : Int32), .int (3 : Int32)]) (c_M_in l _ _ _ _) cs_8_42 rfl rfl (Nat.le_of_ble_eq_true rfl) ⟨Nat.le_of_ble_eq_true rfl, Nat.le_of_ble_eq_true rfl⟩ ⟨Nat.zero_le _, Nat.zero_le _⟩ d_M_wakes_8 (fun r2 σ3 h1 => ?_)
  refine g_if_eq F (tgt := 26) d_M_wakes_11 (by decide) (fun h2 => ?_) (fun h3 => ?_)
  · refine g_iconst F (v := (-1)) d_M_wakes_26 (by decide) ?_
    exact g_iret F hlk hr d_M_wakes_27
  refine g_aload_n F d_M_wakes_14 0 rfl ?_
  refine g_getR F fs_8_7 hq.1 rfl d_M_wakes_15 ?_
  refine g_bipush F (v := 7) d_M_wakes_18 (by decide) ?_
  refine g_iload_n F d_M_wakes_20 1 rfl ?_
  refine g_iadd F d_M_wakes_21 ?_
  refine g_iald F (n := 481) hq.2.1 d_M_wakes_22 ?_
  refine g_goto F (tgt := 27) d_M_wakes_23 (by decide) ?_
  exact g_iret F hlk hr d_M_wakes_27
def y_M_sensor : MethodName := ⟨"SensorHubModel", "sensor", "(II)I"⟩
theorem d_M_sensor_0 : decode prog_10_method_63_code 0 = .ok (.aload_n 0, 1) := by decide +kernel
theorem d_M_sensor_1 : decode prog_10_method_63_code 1 = .ok (.iconst 0, 1) := by decide +kernel
theorem d_M_sensor_2 : decode prog_10_method_63_code 2 = .ok (.putfield 35, 3) := by decide +kernel
theorem d_M_sensor_5 : decode prog_10_method_63_code 5 = .ok (.aload_n 0, 1) := by decide +kernel
theorem d_M_sensor_6 : decode prog_10_method_63_code 6 = .ok (.iload_n 1, 1) := by decide +kernel
theorem d_M_sensor_7 : decode prog_10_method_63_code 7 = .ok (.invokevirtual 50, 3) := by decide +kernel
theorem d_M_sensor_10 : decode prog_10_method_63_code 10 = .ok (.ifCond .eq 13, 3) := by decide +kernel
theorem d_M_sensor_13 : decode prog_10_method_63_code 13 = .ok (.iload_n 2, 1) := by decide +kernel
theorem d_M_sensor_14 : decode prog_10_method_63_code 14 = .ok (.iconst 0, 1) := by decide +kernel
theorem d_M_sensor_15 : decode prog_10_method_63_code 15 = .ok (.bipush 6, 2) := by decide +kernel
theorem d_M_sensor_17 : decode prog_10_method_63_code 17 = .ok (.invokestatic 42, 3) := by decide +kernel
theorem d_M_sensor_20 : decode prog_10_method_63_code 20 = .ok (.ifCond .ne 5, 3) := by decide +kernel
theorem d_M_sensor_23 : decode prog_10_method_63_code 23 = .ok (.iconst (-1), 1) := by decide +kernel
theorem d_M_sensor_24 : decode prog_10_method_63_code 24 = .ok (.ireturn, 1) := by decide +kernel
theorem d_M_sensor_25 : decode prog_10_method_63_code 25 = .ok (.aload_n 0, 1) := by decide +kernel
theorem d_M_sensor_26 : decode prog_10_method_63_code 26 = .ok (.invokevirtual 73, 3) := by decide +kernel
theorem d_M_sensor_29 : decode prog_10_method_63_code 29 = .ok (.pop, 1) := by decide +kernel
theorem d_M_sensor_30 : decode prog_10_method_63_code 30 = .ok (.aload_n 0, 1) := by decide +kernel
theorem d_M_sensor_31 : decode prog_10_method_63_code 31 = .ok (.iload_n 1, 1) := by decide +kernel
theorem d_M_sensor_32 : decode prog_10_method_63_code 32 = .ok (.bipush 7, 2) := by decide +kernel
theorem d_M_sensor_34 : decode prog_10_method_63_code 34 = .ok (.invokevirtual 54, 3) := by decide +kernel
theorem d_M_sensor_37 : decode prog_10_method_63_code 37 = .ok (.ifCond .le 7, 3) := by decide +kernel
theorem d_M_sensor_40 : decode prog_10_method_63_code 40 = .ok (.iconst 1, 1) := by decide +kernel
theorem d_M_sensor_41 : decode prog_10_method_63_code 41 = .ok (.goto 4, 3) := by decide +kernel
theorem d_M_sensor_44 : decode prog_10_method_63_code 44 = .ok (.iconst 0, 1) := by decide +kernel
theorem d_M_sensor_45 : decode prog_10_method_63_code 45 = .ok (.istore_n 3, 1) := by decide +kernel
theorem d_M_sensor_46 : decode prog_10_method_63_code 46 = .ok (.iload_n 2, 1) := by decide +kernel
theorem d_M_sensor_47 : decode prog_10_method_63_code 47 = .ok (.tableswitch 100 0 5 #[37, 44, 51, 58, 66, 83], 37) := by decide +kernel
theorem d_M_sensor_84 : decode prog_10_method_63_code 84 = .ok (.aload_n 0, 1) := by decide +kernel
theorem d_M_sensor_85 : decode prog_10_method_63_code 85 = .ok (.iload_n 1, 1) := by decide +kernel
theorem d_M_sensor_86 : decode prog_10_method_63_code 86 = .ok (.iconst 0, 1) := by decide +kernel
theorem d_M_sensor_87 : decode prog_10_method_63_code 87 = .ok (.invokevirtual 54, 3) := by decide +kernel
theorem d_M_sensor_90 : decode prog_10_method_63_code 90 = .ok (.ireturn, 1) := by decide +kernel
theorem d_M_sensor_91 : decode prog_10_method_63_code 91 = .ok (.aload_n 0, 1) := by decide +kernel
theorem d_M_sensor_92 : decode prog_10_method_63_code 92 = .ok (.getfield 22, 3) := by decide +kernel
theorem d_M_sensor_95 : decode prog_10_method_63_code 95 = .ok (.iload_n 1, 1) := by decide +kernel
theorem d_M_sensor_96 : decode prog_10_method_63_code 96 = .ok (.iaload, 1) := by decide +kernel
theorem d_M_sensor_97 : decode prog_10_method_63_code 97 = .ok (.ireturn, 1) := by decide +kernel
theorem d_M_sensor_98 : decode prog_10_method_63_code 98 = .ok (.aload_n 0, 1) := by decide +kernel
theorem d_M_sensor_99 : decode prog_10_method_63_code 99 = .ok (.getfield 25, 3) := by decide +kernel
theorem d_M_sensor_102 : decode prog_10_method_63_code 102 = .ok (.iload_n 1, 1) := by decide +kernel
theorem d_M_sensor_103 : decode prog_10_method_63_code 103 = .ok (.iaload, 1) := by decide +kernel
theorem d_M_sensor_104 : decode prog_10_method_63_code 104 = .ok (.ireturn, 1) := by decide +kernel
theorem d_M_sensor_105 : decode prog_10_method_63_code 105 = .ok (.aload_n 0, 1) := by decide +kernel
theorem d_M_sensor_106 : decode prog_10_method_63_code 106 = .ok (.iload_n 1, 1) := by decide +kernel
theorem d_M_sensor_107 : decode prog_10_method_63_code 107 = .ok (.bipush 7, 2) := by decide +kernel
theorem d_M_sensor_109 : decode prog_10_method_63_code 109 = .ok (.invokevirtual 54, 3) := by decide +kernel
theorem d_M_sensor_112 : decode prog_10_method_63_code 112 = .ok (.ireturn, 1) := by decide +kernel
theorem d_M_sensor_113 : decode prog_10_method_63_code 113 = .ok (.iload_n 3, 1) := by decide +kernel
theorem d_M_sensor_114 : decode prog_10_method_63_code 114 = .ok (.ifCond .eq 13, 3) := by decide +kernel
theorem d_M_sensor_117 : decode prog_10_method_63_code 117 = .ok (.aload_n 0, 1) := by decide +kernel
theorem d_M_sensor_118 : decode prog_10_method_63_code 118 = .ok (.iload_n 1, 1) := by decide +kernel
theorem d_M_sensor_119 : decode prog_10_method_63_code 119 = .ok (.bipush 8, 2) := by decide +kernel
theorem d_M_sensor_121 : decode prog_10_method_63_code 121 = .ok (.invokevirtual 54, 3) := by decide +kernel
theorem d_M_sensor_124 : decode prog_10_method_63_code 124 = .ok (.goto 5, 3) := by decide +kernel
theorem d_M_sensor_127 : decode prog_10_method_63_code 127 = .ok (.bipush (-9), 2) := by decide +kernel
theorem d_M_sensor_129 : decode prog_10_method_63_code 129 = .ok (.ireturn, 1) := by decide +kernel
theorem d_M_sensor_130 : decode prog_10_method_63_code 130 = .ok (.iload_n 3, 1) := by decide +kernel
theorem d_M_sensor_131 : decode prog_10_method_63_code 131 = .ok (.ifCond .eq 13, 3) := by decide +kernel
theorem d_M_sensor_134 : decode prog_10_method_63_code 134 = .ok (.aload_n 0, 1) := by decide +kernel
theorem d_M_sensor_135 : decode prog_10_method_63_code 135 = .ok (.iload_n 1, 1) := by decide +kernel
theorem d_M_sensor_136 : decode prog_10_method_63_code 136 = .ok (.bipush 9, 2) := by decide +kernel
theorem d_M_sensor_138 : decode prog_10_method_63_code 138 = .ok (.invokevirtual 54, 3) := by decide +kernel
theorem d_M_sensor_141 : decode prog_10_method_63_code 141 = .ok (.goto 5, 3) := by decide +kernel
theorem d_M_sensor_144 : decode prog_10_method_63_code 144 = .ok (.bipush (-9), 2) := by decide +kernel
theorem d_M_sensor_146 : decode prog_10_method_63_code 146 = .ok (.ireturn, 1) := by decide +kernel
theorem d_M_sensor_147 : decode prog_10_method_63_code 147 = .ok (.aload_n 0, 1) := by decide +kernel
theorem d_M_sensor_148 : decode prog_10_method_63_code 148 = .ok (.iload_n 1, 1) := by decide +kernel
theorem d_M_sensor_149 : decode prog_10_method_63_code 149 = .ok (.invokevirtual 67, 3) := by decide +kernel
theorem d_M_sensor_152 : decode prog_10_method_63_code 152 = .ok (.ireturn, 1) := by decide +kernel
def f_M_sensor (q : Nat) (p1 : Int32) (p2 : Int32) (σ : Mem) : Option (Int32 × Mem) :=
  lt (wr σ q 0 (0 : Int32)) fun σ1 =>
  bd (f_M_isSensor q p1 σ1) fun r2 σ3 =>
  if r2 = 0 then
    some ((-1 : Int32), σ3)
  else
    bd (f_M_in p2 (0 : Int32) (6 : Int32) σ3) fun r4 σ5 =>
    if r4 = 0 then
      some ((-1 : Int32), σ5)
    else
      bd (f_M_find q σ5) fun r6 σ7 =>
      bd (f_M_sensor0 q p1 (7 : Int32) σ7) fun r8 σ9 =>
      if r8 ≤ 0 then
        if p2 = 0 then
          bd (f_M_sensor0 q p1 (0 : Int32) σ9) fun r10 σ11 =>
          some (r10, σ11)
        else
        if p2 = 1 then
          if ib p1 8 then
            some (σ9 (q + 5) p1.toNatClampNeg, σ9)
          else none
        else
        if p2 = 2 then
          if ib p1 8 then
            some (σ9 (q + 6) p1.toNatClampNeg, σ9)
          else none
        else
        if p2 = 3 then
          bd (f_M_sensor0 q p1 (7 : Int32) σ9) fun r12 σ13 =>
          some (r12, σ13)
        else
        if p2 = 4 then
          some ((-9 : Int32), σ9)
        else
        if p2 = 5 then
          some ((-9 : Int32), σ9)
        else
          bd (f_M_source q p1 σ9) fun r14 σ15 =>
          some (r14, σ15)
      else
        if p2 = 0 then
          bd (f_M_sensor0 q p1 (0 : Int32) σ9) fun r16 σ17 =>
          some (r16, σ17)
        else
        if p2 = 1 then
          if ib p1 8 then
            some (σ9 (q + 5) p1.toNatClampNeg, σ9)
          else none
        else
        if p2 = 2 then
          if ib p1 8 then
            some (σ9 (q + 6) p1.toNatClampNeg, σ9)
          else none
        else
        if p2 = 3 then
          bd (f_M_sensor0 q p1 (7 : Int32) σ9) fun r18 σ19 =>
          some (r18, σ19)
        else
        if p2 = 4 then
          bd (f_M_sensor0 q p1 (8 : Int32) σ9) fun r20 σ21 =>
          some (r20, σ21)
        else
        if p2 = 5 then
          bd (f_M_sensor0 q p1 (9 : Int32) σ9) fun r22 σ23 =>
          some (r22, σ23)
        else
          bd (f_M_source q p1 σ9) fun r24 σ25 =>
          some (r24, σ25)
set_option maxRecDepth 100000 in
set_option maxHeartbeats 4000000 in
theorem c_M_sensor {X : CX} (l : Launch) (q : Nat) (p1 : Int32) (p2 : Int32) (hq : ModelOK X q) (σ : Mem) : CT X l y_M_sensor prog_10_method_63_code 4 (some .int) 3 vI [.ref (xa X q), .int p1, .int p2] σ (f_M_sensor q p1 p2 σ) := by
  refine CT_of (by decide +kernel) (Nat.le_of_ble_eq_true rfl) ?_
  intro p e s m args below meth c F hlk hr
  have F : FR p s m args c prog_10_method_63_code 4 "SensorHubModel" X := F
  show G X p l e (rmD 3) s m args below meth c 4 0 0 (QI X below args s vI) 0 [(0, .ref (xa X q)), (1, .int p1), (2, .int p2)] [] σ _
  unfold f_M_sensor
  refine g_aload_n F d_M_sensor_0 0 rfl ?_
  refine g_iconst F (v := 0) d_M_sensor_1 (by decide) ?_
  refine g_putI F fw_8_35 hq.1 rfl d_M_sensor_2 ?_
  refine g_ltM (fun σ1 _ => ?_)
  refine g_aload_n F d_M_sensor_5 0 rfl ?_
  refine g_iload_n F d_M_sensor_6 1 rfl ?_
  refine g_callV F (dp := 1) (ci := 8) (As := [.int p1]) (c_M_isSensor l _ _ hq _) cv_8_50 hq.1 rfl rfl rfl (Nat.le_of_ble_eq_true rfl) ⟨Nat.le_of_ble_eq_true rfl, Nat.le_of_ble_eq_true rfl⟩ ⟨Nat.zero_le _, Nat.zero_le _⟩ d_M_sensor_7 (fun r2 σ3 h1 => ?_)
  refine g_if_eq F (tgt := 23) d_M_sensor_10 (by decide) (fun h2 => ?_) (fun h3 => ?_)
  · refine g_iconst F (v := (-1)) d_M_sensor_23 (by decide) ?_
    exact g_iret F hlk hr d_M_sensor_24
  refine g_iload_n F d_M_sensor_13 2 rfl ?_
  refine g_iconst F (v := 0) d_M_sensor_14 (by decide) ?_
  refine g_bipush F (v := 6) d_M_sensor_15 (by decide) ?_
  refine g_callS F (dp := 0) (As := [.int p2, .int (0 : Int32), .int (6 : Int32)]) (c_M_in l _ _ _ _) cs_8_42 rfl rfl (Nat.le_of_ble_eq_true rfl) ⟨Nat.le_of_ble_eq_true rfl, Nat.le_of_ble_eq_true rfl⟩ ⟨Nat.zero_le _, Nat.zero_le _⟩ d_M_sensor_17 (fun r4 σ5 h4 => ?_)
  refine g_if_ne F (tgt := 25) d_M_sensor_20 (by decide) (fun h5 => ?_) (fun h6 => ?_)
  · refine g_iconst F (v := (-1)) d_M_sensor_23 (by decide) ?_
    exact g_iret F hlk hr d_M_sensor_24
  refine g_aload_n F d_M_sensor_25 0 rfl ?_
  refine g_callV F (dp := 2) (ci := 8) (As := []) (c_M_find l _ hq _) cv_8_73 hq.1 rfl rfl rfl (Nat.le_of_ble_eq_true rfl) ⟨Nat.le_of_ble_eq_true rfl, Nat.le_of_ble_eq_true rfl⟩ ⟨Nat.zero_le _, Nat.zero_le _⟩ d_M_sensor_26 (fun r6 σ7 h7 => ?_)
  refine g_pop F d_M_sensor_29 rfl ?_
  refine g_aload_n F d_M_sensor_30 0 rfl ?_
  refine g_iload_n F d_M_sensor_31 1 rfl ?_
  refine g_bipush F (v := 7) d_M_sensor_32 (by decide) ?_
  refine g_callV F (dp := 0) (ci := 8) (As := [.int p1, .int (7 : Int32)]) (c_M_sensor0 l _ _ _ hq _) cv_8_54 hq.1 rfl rfl rfl (Nat.le_of_ble_eq_true rfl) ⟨Nat.le_of_ble_eq_true rfl, Nat.le_of_ble_eq_true rfl⟩ ⟨Nat.zero_le _, Nat.zero_le _⟩ d_M_sensor_34 (fun r8 σ9 h8 => ?_)
  refine g_if_le F (tgt := 44) d_M_sensor_37 (by decide) (fun h9 => ?_) (fun h10 => ?_)
  · refine g_iconst F (v := 0) d_M_sensor_44 (by decide) ?_
    refine g_istore_n F (ls' := [(3, .int (0 : Int32)), (0, .ref (xa X q)), (1, .int p1), (2, .int p2)]) d_M_sensor_45 (by decide) rfl ?_
    refine g_iload_n F d_M_sensor_46 3 rfl ?_
    refine g_if (fun h11 => ?_) (fun h12 => ?_)
    · refine g_tsIn F (tgt := 84) d_M_sensor_47 0 h11 (by decide) (by decide) rfl (by decide) ?_
      refine g_aload_n F d_M_sensor_84 1 rfl ?_
      refine g_iload_n F d_M_sensor_85 2 rfl ?_
      refine g_iconst F (v := 0) d_M_sensor_86 (by decide) ?_
      refine g_callV F (dp := 0) (ci := 8) (As := [.int p1, .int (0 : Int32)]) (c_M_sensor0 l _ _ _ hq _) cv_8_54 hq.1 rfl rfl rfl (Nat.le_of_ble_eq_true rfl) ⟨Nat.le_of_ble_eq_true rfl, Nat.le_of_ble_eq_true rfl⟩ ⟨Nat.zero_le _, Nat.zero_le _⟩ d_M_sensor_87 (fun r10 σ11 h13 => ?_)
      exact g_iret F hlk hr d_M_sensor_90
    refine g_if (fun h14 => ?_) (fun h15 => ?_)
    · refine g_tsIn F (tgt := 91) d_M_sensor_47 1 h14 (by decide) (by decide) rfl (by decide) ?_
      refine g_aload_n F d_M_sensor_91 1 rfl ?_
      refine g_getR F fs_8_22 hq.1 rfl d_M_sensor_92 ?_
      refine g_iload_n F d_M_sensor_95 2 rfl ?_
      refine g_iald F (n := 8) hq.2.2.2.2.2.1 d_M_sensor_96 ?_
      exact g_iret F hlk hr d_M_sensor_97
    refine g_if (fun h16 => ?_) (fun h17 => ?_)
    · refine g_tsIn F (tgt := 98) d_M_sensor_47 2 h16 (by decide) (by decide) rfl (by decide) ?_
      refine g_aload_n F d_M_sensor_98 1 rfl ?_
      refine g_getR F fs_8_25 hq.1 rfl d_M_sensor_99 ?_
      refine g_iload_n F d_M_sensor_102 2 rfl ?_
      refine g_iald F (n := 8) hq.2.2.2.2.2.2.1 d_M_sensor_103 ?_
      exact g_iret F hlk hr d_M_sensor_104
    refine g_if (fun h18 => ?_) (fun h19 => ?_)
    · refine g_tsIn F (tgt := 105) d_M_sensor_47 3 h18 (by decide) (by decide) rfl (by decide) ?_
      refine g_aload_n F d_M_sensor_105 1 rfl ?_
      refine g_iload_n F d_M_sensor_106 2 rfl ?_
      refine g_bipush F (v := 7) d_M_sensor_107 (by decide) ?_
      refine g_callV F (dp := 0) (ci := 8) (As := [.int p1, .int (7 : Int32)]) (c_M_sensor0 l _ _ _ hq _) cv_8_54 hq.1 rfl rfl rfl (Nat.le_of_ble_eq_true rfl) ⟨Nat.le_of_ble_eq_true rfl, Nat.le_of_ble_eq_true rfl⟩ ⟨Nat.zero_le _, Nat.zero_le _⟩ d_M_sensor_109 (fun r12 σ13 h20 => ?_)
      exact g_iret F hlk hr d_M_sensor_112
    refine g_if (fun h21 => ?_) (fun h22 => ?_)
    · refine g_tsIn F (tgt := 113) d_M_sensor_47 4 h21 (by decide) (by decide) rfl (by decide) ?_
      refine g_iload_n F d_M_sensor_113 0 rfl ?_
      refine g_pt (q := (0 : Int32) = 0) (by decide) (g_if_eq F (tgt := 127) d_M_sensor_114 (by decide) (fun _ => ?_) (fun _ => g_no))
      refine g_bipush F (v := (-9)) d_M_sensor_127 (by decide) ?_
      exact g_iret F hlk hr d_M_sensor_129
    refine g_if (fun h23 => ?_) (fun h24 => ?_)
    · refine g_tsIn F (tgt := 130) d_M_sensor_47 5 h23 (by decide) (by decide) rfl (by decide) ?_
      refine g_iload_n F d_M_sensor_130 0 rfl ?_
      refine g_pt (q := (0 : Int32) = 0) (by decide) (g_if_eq F (tgt := 144) d_M_sensor_131 (by decide) (fun _ => ?_) (fun _ => g_no))
      refine g_bipush F (v := (-9)) d_M_sensor_144 (by decide) ?_
      exact g_iret F hlk hr d_M_sensor_146
    refine g_tsOut F (tgt := 147) d_M_sensor_47 (by have e0 := ts_ne 0 (by decide) h12; have e1 := ts_ne 1 (by decide) h15; have e2 := ts_ne 2 (by decide) h17; have e3 := ts_ne 3 (by decide) h19; have e4 := ts_ne 4 (by decide) h22; have e5 := ts_ne 5 (by decide) h24; omega) (by decide) ?_
    refine g_aload_n F d_M_sensor_147 1 rfl ?_
    refine g_iload_n F d_M_sensor_148 2 rfl ?_
    refine g_callV F (dp := 1) (ci := 8) (As := [.int p1]) (c_M_source l _ _ hq _) cv_8_67 hq.1 rfl rfl rfl (Nat.le_of_ble_eq_true rfl) ⟨Nat.le_of_ble_eq_true rfl, Nat.le_of_ble_eq_true rfl⟩ ⟨Nat.zero_le _, Nat.zero_le _⟩ d_M_sensor_149 (fun r14 σ15 h25 => ?_)
    exact g_iret F hlk hr d_M_sensor_152
  refine g_iconst F (v := 1) d_M_sensor_40 (by decide) ?_
  refine g_goto F (tgt := 45) d_M_sensor_41 (by decide) ?_
  refine g_istore_n F (ls' := [(3, .int (1 : Int32)), (0, .ref (xa X q)), (1, .int p1), (2, .int p2)]) d_M_sensor_45 (by decide) rfl ?_
  refine g_iload_n F d_M_sensor_46 3 rfl ?_
  refine g_if (fun h26 => ?_) (fun h27 => ?_)
  · refine g_tsIn F (tgt := 84) d_M_sensor_47 0 h26 (by decide) (by decide) rfl (by decide) ?_
    refine g_aload_n F d_M_sensor_84 1 rfl ?_
    refine g_iload_n F d_M_sensor_85 2 rfl ?_
    refine g_iconst F (v := 0) d_M_sensor_86 (by decide) ?_
    refine g_callV F (dp := 0) (ci := 8) (As := [.int p1, .int (0 : Int32)]) (c_M_sensor0 l _ _ _ hq _) cv_8_54 hq.1 rfl rfl rfl (Nat.le_of_ble_eq_true rfl) ⟨Nat.le_of_ble_eq_true rfl, Nat.le_of_ble_eq_true rfl⟩ ⟨Nat.zero_le _, Nat.zero_le _⟩ d_M_sensor_87 (fun r16 σ17 h28 => ?_)
    exact g_iret F hlk hr d_M_sensor_90
  refine g_if (fun h29 => ?_) (fun h30 => ?_)
  · refine g_tsIn F (tgt := 91) d_M_sensor_47 1 h29 (by decide) (by decide) rfl (by decide) ?_
    refine g_aload_n F d_M_sensor_91 1 rfl ?_
    refine g_getR F fs_8_22 hq.1 rfl d_M_sensor_92 ?_
    refine g_iload_n F d_M_sensor_95 2 rfl ?_
    refine g_iald F (n := 8) hq.2.2.2.2.2.1 d_M_sensor_96 ?_
    exact g_iret F hlk hr d_M_sensor_97
  refine g_if (fun h31 => ?_) (fun h32 => ?_)
  · refine g_tsIn F (tgt := 98) d_M_sensor_47 2 h31 (by decide) (by decide) rfl (by decide) ?_
    refine g_aload_n F d_M_sensor_98 1 rfl ?_
    refine g_getR F fs_8_25 hq.1 rfl d_M_sensor_99 ?_
    refine g_iload_n F d_M_sensor_102 2 rfl ?_
    refine g_iald F (n := 8) hq.2.2.2.2.2.2.1 d_M_sensor_103 ?_
    exact g_iret F hlk hr d_M_sensor_104
  refine g_if (fun h33 => ?_) (fun h34 => ?_)
  · refine g_tsIn F (tgt := 105) d_M_sensor_47 3 h33 (by decide) (by decide) rfl (by decide) ?_
    refine g_aload_n F d_M_sensor_105 1 rfl ?_
    refine g_iload_n F d_M_sensor_106 2 rfl ?_
    refine g_bipush F (v := 7) d_M_sensor_107 (by decide) ?_
    refine g_callV F (dp := 0) (ci := 8) (As := [.int p1, .int (7 : Int32)]) (c_M_sensor0 l _ _ _ hq _) cv_8_54 hq.1 rfl rfl rfl (Nat.le_of_ble_eq_true rfl) ⟨Nat.le_of_ble_eq_true rfl, Nat.le_of_ble_eq_true rfl⟩ ⟨Nat.zero_le _, Nat.zero_le _⟩ d_M_sensor_109 (fun r18 σ19 h35 => ?_)
    exact g_iret F hlk hr d_M_sensor_112
  refine g_if (fun h36 => ?_) (fun h37 => ?_)
  · refine g_tsIn F (tgt := 113) d_M_sensor_47 4 h36 (by decide) (by decide) rfl (by decide) ?_
    refine g_iload_n F d_M_sensor_113 0 rfl ?_
    refine g_pf (q := (1 : Int32) = 0) (by decide) (g_if_eq F (tgt := 127) d_M_sensor_114 (by decide) (fun _ => g_no) (fun _ => ?_))
    refine g_aload_n F d_M_sensor_117 1 rfl ?_
    refine g_iload_n F d_M_sensor_118 2 rfl ?_
    refine g_bipush F (v := 8) d_M_sensor_119 (by decide) ?_
    refine g_callV F (dp := 0) (ci := 8) (As := [.int p1, .int (8 : Int32)]) (c_M_sensor0 l _ _ _ hq _) cv_8_54 hq.1 rfl rfl rfl (Nat.le_of_ble_eq_true rfl) ⟨Nat.le_of_ble_eq_true rfl, Nat.le_of_ble_eq_true rfl⟩ ⟨Nat.zero_le _, Nat.zero_le _⟩ d_M_sensor_121 (fun r20 σ21 h38 => ?_)
    refine g_goto F (tgt := 129) d_M_sensor_124 (by decide) ?_
    exact g_iret F hlk hr d_M_sensor_129
  refine g_if (fun h39 => ?_) (fun h40 => ?_)
  · refine g_tsIn F (tgt := 130) d_M_sensor_47 5 h39 (by decide) (by decide) rfl (by decide) ?_
    refine g_iload_n F d_M_sensor_130 0 rfl ?_
    refine g_pf (q := (1 : Int32) = 0) (by decide) (g_if_eq F (tgt := 144) d_M_sensor_131 (by decide) (fun _ => g_no) (fun _ => ?_))
    refine g_aload_n F d_M_sensor_134 1 rfl ?_
    refine g_iload_n F d_M_sensor_135 2 rfl ?_
    refine g_bipush F (v := 9) d_M_sensor_136 (by decide) ?_
    refine g_callV F (dp := 0) (ci := 8) (As := [.int p1, .int (9 : Int32)]) (c_M_sensor0 l _ _ _ hq _) cv_8_54 hq.1 rfl rfl rfl (Nat.le_of_ble_eq_true rfl) ⟨Nat.le_of_ble_eq_true rfl, Nat.le_of_ble_eq_true rfl⟩ ⟨Nat.zero_le _, Nat.zero_le _⟩ d_M_sensor_138 (fun r22 σ23 h41 => ?_)
    refine g_goto F (tgt := 146) d_M_sensor_141 (by decide) ?_
    exact g_iret F hlk hr d_M_sensor_146
  refine g_tsOut F (tgt := 147) d_M_sensor_47 (by have e0 := ts_ne 0 (by decide) h27; have e1 := ts_ne 1 (by decide) h30; have e2 := ts_ne 2 (by decide) h32; have e3 := ts_ne 3 (by decide) h34; have e4 := ts_ne 4 (by decide) h37; have e5 := ts_ne 5 (by decide) h40; omega) (by decide) ?_
  refine g_aload_n F d_M_sensor_147 1 rfl ?_
  refine g_iload_n F d_M_sensor_148 2 rfl ?_
  refine g_callV F (dp := 1) (ci := 8) (As := [.int p1]) (c_M_source l _ _ hq _) cv_8_67 hq.1 rfl rfl rfl (Nat.le_of_ble_eq_true rfl) ⟨Nat.le_of_ble_eq_true rfl, Nat.le_of_ble_eq_true rfl⟩ ⟨Nat.zero_le _, Nat.zero_le _⟩ d_M_sensor_149 (fun r24 σ25 h42 => ?_)
  exact g_iret F hlk hr d_M_sensor_152
def y_M_stored : MethodName := ⟨"SensorHubModel", "stored", "(I)I"⟩
theorem d_M_stored_0 : decode prog_10_method_64_code 0 = .ok (.iconst 0, 1) := by decide +kernel
theorem d_M_stored_1 : decode prog_10_method_64_code 1 = .ok (.istore_n 2, 1) := by decide +kernel
theorem d_M_stored_2 : decode prog_10_method_64_code 2 = .ok (.iconst 0, 1) := by decide +kernel
theorem d_M_stored_3 : decode prog_10_method_64_code 3 = .ok (.istore_n 3, 1) := by decide +kernel
theorem d_M_stored_4 : decode prog_10_method_64_code 4 = .ok (.iload_n 3, 1) := by decide +kernel
theorem d_M_stored_5 : decode prog_10_method_64_code 5 = .ok (.aload_n 0, 1) := by decide +kernel
theorem d_M_stored_6 : decode prog_10_method_64_code 6 = .ok (.getfield 7, 3) := by decide +kernel
theorem d_M_stored_9 : decode prog_10_method_64_code 9 = .ok (.iconst 3, 1) := by decide +kernel
theorem d_M_stored_10 : decode prog_10_method_64_code 10 = .ok (.iaload, 1) := by decide +kernel
theorem d_M_stored_11 : decode prog_10_method_64_code 11 = .ok (.if_icmp .ge 27, 3) := by decide +kernel
theorem d_M_stored_14 : decode prog_10_method_64_code 14 = .ok (.iload_n 2, 1) := by decide +kernel
theorem d_M_stored_15 : decode prog_10_method_64_code 15 = .ok (.aload_n 0, 1) := by decide +kernel
theorem d_M_stored_16 : decode prog_10_method_64_code 16 = .ok (.iload_n 3, 1) := by decide +kernel
theorem d_M_stored_17 : decode prog_10_method_64_code 17 = .ok (.iconst 0, 1) := by decide +kernel
theorem d_M_stored_18 : decode prog_10_method_64_code 18 = .ok (.invokevirtual 77, 3) := by decide +kernel
theorem d_M_stored_21 : decode prog_10_method_64_code 21 = .ok (.iload_n 1, 1) := by decide +kernel
theorem d_M_stored_22 : decode prog_10_method_64_code 22 = .ok (.if_icmp .ne 7, 3) := by decide +kernel
theorem d_M_stored_25 : decode prog_10_method_64_code 25 = .ok (.iconst 1, 1) := by decide +kernel
theorem d_M_stored_26 : decode prog_10_method_64_code 26 = .ok (.goto 4, 3) := by decide +kernel
theorem d_M_stored_29 : decode prog_10_method_64_code 29 = .ok (.iconst 0, 1) := by decide +kernel
theorem d_M_stored_30 : decode prog_10_method_64_code 30 = .ok (.iadd, 1) := by decide +kernel
theorem d_M_stored_31 : decode prog_10_method_64_code 31 = .ok (.istore_n 2, 1) := by decide +kernel
theorem d_M_stored_32 : decode prog_10_method_64_code 32 = .ok (.iinc 3 1, 3) := by decide +kernel
theorem d_M_stored_35 : decode prog_10_method_64_code 35 = .ok (.goto (-31), 3) := by decide +kernel
theorem d_M_stored_38 : decode prog_10_method_64_code 38 = .ok (.iload_n 2, 1) := by decide +kernel
theorem d_M_stored_39 : decode prog_10_method_64_code 39 = .ok (.ireturn, 1) := by decide +kernel
def L_M_stored_4 (r0 : Nat) (y1 : Int32) (k : Int32 → Mem → Option (Int32 × Mem)) : Nat → Int32 → Int32 → Mem → Option (Int32 × Mem)
  | 0, _, _, _ => none
  | n + 1, x2, x3, σ =>
    if (σ (r0 + 1) 3) ≤ x3 then
      k x2 σ
    else
      bd (f_M_entryPart r0 x3 (0 : Int32) σ) fun r1 σ2 =>
      if r1 = y1 then
        lt (x2 + (1 : Int32)) fun v3 =>
        L_M_stored_4 r0 y1 k n v3 (x3 + 1) σ2
      else
        lt (x2 + (0 : Int32)) fun v4 =>
        L_M_stored_4 r0 y1 k n v4 (x3 + 1) σ2
def f_M_stored (q : Nat) (p1 : Int32) (σ : Mem) : Option (Int32 × Mem) :=
  L_M_stored_4 q p1 (fun z5 σ6 =>
    some (z5, σ6)) FU (0 : Int32) (0 : Int32) σ
set_option maxRecDepth 100000 in
set_option maxHeartbeats 4000000 in
theorem l_L_M_stored_4 {X : CX} {p : Program} {l : Launch} {e : Env} {s : State} {m : MethodId} {args : Array Value} {below : List Frame} {meth : Method} {c : Code} (F : FR p s m args c prog_10_method_64_code 4 "SensorHubModel" X) (hlk : meth.locks = false) (hr : meth.sig.returnType = some .int) (r0 : Nat) (y1 : Int32) (hr0 : ModelOK X r0) (k : Int32 → Mem → Option (Int32 × Mem)) (hk : ∀ (x2 : Int32) (σ : Mem), G X p l e (rmD 1) s m args below meth c 4 0 0 (QI X below args s vI) 38 [(2, .int x2)] [] σ (k x2 σ)) : ∀ (n : Nat) (x2 : Int32) (x3 : Int32) (σ : Mem), G X p l e (rmD 1) s m args below meth c 4 0 0 (QI X below args s vI) 4 [(0, .ref (xa X r0)), (1, .int y1), (2, .int x2), (3, .int x3)] [] σ (L_M_stored_4 r0 y1 k n x2 x3 σ) := by
  intro n
  induction n with
  | zero => intros; exact g_no
  | succ n ih =>
    intro x2 x3 σ
    unfold L_M_stored_4
    refine g_iload_n F d_M_stored_4 3 rfl ?_
    refine g_aload_n F d_M_stored_5 0 rfl ?_
    refine g_getR F fs_8_7 hr0.1 rfl d_M_stored_6 ?_
    refine g_iconst F (v := 3) d_M_stored_9 (by decide) ?_
    refine g_ialdC F (n := 481) 3 (by decide) (by decide) hr0.2.1 d_M_stored_10 ?_
    refine g_icmp_ge F (tgt := 38) d_M_stored_11 (by decide) (fun h1 => ?_) (fun h2 => ?_)
    · exact g_sub [2] rfl (hk _ _)
    refine g_iload_n F d_M_stored_14 2 rfl ?_
    refine g_aload_n F d_M_stored_15 0 rfl ?_
    refine g_iload_n F d_M_stored_16 3 rfl ?_
    refine g_iconst F (v := 0) d_M_stored_17 (by decide) ?_
    refine g_callV F (dp := 0) (ci := 8) (As := [.int x3, .int (0 : Int32)]) (c_M_entryPart l _ _ _ hr0 _) cv_8_77 hr0.1 rfl rfl rfl (Nat.le_of_ble_eq_true rfl) ⟨Nat.le_of_ble_eq_true rfl, Nat.le_of_ble_eq_true rfl⟩ ⟨Nat.zero_le _, Nat.zero_le _⟩ d_M_stored_18 (fun r1 σ2 h3 => ?_)
    refine g_iload_n F d_M_stored_21 1 rfl ?_
    refine g_icmp_ne F (tgt := 29) d_M_stored_22 (by decide) (fun h4 => ?_) (fun h5 => ?_)
    · refine g_iconst F (v := 1) d_M_stored_25 (by decide) ?_
      refine g_goto F (tgt := 30) d_M_stored_26 (by decide) ?_
      refine g_iadd F d_M_stored_30 ?_
      refine g_ltI (fun v3 _ => ?_)
      refine g_istore_n F (ls' := [(2, .int v3), (0, .ref (xa X r0)), (1, .int y1), (3, .int x3)]) d_M_stored_31 (by decide) rfl ?_
      refine g_iinc F (v := 1) (ls' := [(3, .int (x3 + 1)), (2, .int v3), (0, .ref (xa X r0)), (1, .int y1)]) d_M_stored_32 3 rfl (by decide) (by decide) rfl ?_
      refine g_goto F (tgt := 4) d_M_stored_35 (by decide) ?_
      exact g_sub [2, 3, 1, 0] rfl (ih _ _ _)
    refine g_iconst F (v := 0) d_M_stored_29 (by decide) ?_
    refine g_iadd F d_M_stored_30 ?_
    refine g_ltI (fun v4 _ => ?_)
    refine g_istore_n F (ls' := [(2, .int v4), (0, .ref (xa X r0)), (1, .int y1), (3, .int x3)]) d_M_stored_31 (by decide) rfl ?_
    refine g_iinc F (v := 1) (ls' := [(3, .int (x3 + 1)), (2, .int v4), (0, .ref (xa X r0)), (1, .int y1)]) d_M_stored_32 3 rfl (by decide) (by decide) rfl ?_
    refine g_goto F (tgt := 4) d_M_stored_35 (by decide) ?_
    exact g_sub [2, 3, 1, 0] rfl (ih _ _ _)
set_option maxRecDepth 100000 in
set_option maxHeartbeats 4000000 in
theorem c_M_stored {X : CX} (l : Launch) (q : Nat) (p1 : Int32) (hq : ModelOK X q) (σ : Mem) : CT X l y_M_stored prog_10_method_64_code 4 (some .int) 1 vI [.ref (xa X q), .int p1] σ (f_M_stored q p1 σ) := by
  refine CT_of (by decide +kernel) (Nat.le_of_ble_eq_true rfl) ?_
  intro p e s m args below meth c F hlk hr
  have F : FR p s m args c prog_10_method_64_code 4 "SensorHubModel" X := F
  show G X p l e (rmD 1) s m args below meth c 4 0 0 (QI X below args s vI) 0 [(0, .ref (xa X q)), (1, .int p1)] [] σ _
  unfold f_M_stored
  refine g_iconst F (v := 0) d_M_stored_0 (by decide) ?_
  refine g_istore_n F (ls' := [(2, .int (0 : Int32)), (0, .ref (xa X q)), (1, .int p1)]) d_M_stored_1 (by decide) rfl ?_
  refine g_iconst F (v := 0) d_M_stored_2 (by decide) ?_
  refine g_istore_n F (ls' := [(3, .int (0 : Int32)), (2, .int (0 : Int32)), (0, .ref (xa X q)), (1, .int p1)]) d_M_stored_3 (by decide) rfl ?_
  refine g_sub [2, 3, 1, 0] rfl (l_L_M_stored_4 F hlk hr _ _ hq _ (fun z5 σ6 => ?_) FU _ _ _)
  refine g_iload_n F d_M_stored_38 0 rfl ?_
  exact g_iret F hlk hr d_M_stored_39
def y_M_client : MethodName := ⟨"SensorHubModel", "client", "(II)I"⟩
theorem d_M_client_0 : decode prog_10_method_65_code 0 = .ok (.aload_n 0, 1) := by decide +kernel
theorem d_M_client_1 : decode prog_10_method_65_code 1 = .ok (.iconst 0, 1) := by decide +kernel
theorem d_M_client_2 : decode prog_10_method_65_code 2 = .ok (.putfield 35, 3) := by decide +kernel
theorem d_M_client_5 : decode prog_10_method_65_code 5 = .ok (.aload_n 0, 1) := by decide +kernel
theorem d_M_client_6 : decode prog_10_method_65_code 6 = .ok (.iload_n 1, 1) := by decide +kernel
theorem d_M_client_7 : decode prog_10_method_65_code 7 = .ok (.invokevirtual 144, 3) := by decide +kernel
theorem d_M_client_10 : decode prog_10_method_65_code 10 = .ok (.ifCond .eq 13, 3) := by decide +kernel
theorem d_M_client_13 : decode prog_10_method_65_code 13 = .ok (.iload_n 2, 1) := by decide +kernel
theorem d_M_client_14 : decode prog_10_method_65_code 14 = .ok (.iconst 0, 1) := by decide +kernel
theorem d_M_client_15 : decode prog_10_method_65_code 15 = .ok (.bipush 8, 2) := by decide +kernel
theorem d_M_client_17 : decode prog_10_method_65_code 17 = .ok (.invokestatic 42, 3) := by decide +kernel
theorem d_M_client_20 : decode prog_10_method_65_code 20 = .ok (.ifCond .ne 5, 3) := by decide +kernel
theorem d_M_client_23 : decode prog_10_method_65_code 23 = .ok (.iconst (-1), 1) := by decide +kernel
theorem d_M_client_24 : decode prog_10_method_65_code 24 = .ok (.ireturn, 1) := by decide +kernel
theorem d_M_client_25 : decode prog_10_method_65_code 25 = .ok (.aload_n 0, 1) := by decide +kernel
theorem d_M_client_26 : decode prog_10_method_65_code 26 = .ok (.invokevirtual 73, 3) := by decide +kernel
theorem d_M_client_29 : decode prog_10_method_65_code 29 = .ok (.pop, 1) := by decide +kernel
theorem d_M_client_30 : decode prog_10_method_65_code 30 = .ok (.iload_n 2, 1) := by decide +kernel
theorem d_M_client_31 : decode prog_10_method_65_code 31 = .ok (.tableswitch 128 0 7 #[45, 52, 59, 66, 85, 91, 98, 106], 45) := by decide +kernel
theorem d_M_client_76 : decode prog_10_method_65_code 76 = .ok (.aload_n 0, 1) := by decide +kernel
theorem d_M_client_77 : decode prog_10_method_65_code 77 = .ok (.iload_n 1, 1) := by decide +kernel
theorem d_M_client_78 : decode prog_10_method_65_code 78 = .ok (.iconst 1, 1) := by decide +kernel
theorem d_M_client_79 : decode prog_10_method_65_code 79 = .ok (.invokevirtual 46, 3) := by decide +kernel
theorem d_M_client_82 : decode prog_10_method_65_code 82 = .ok (.ireturn, 1) := by decide +kernel
theorem d_M_client_83 : decode prog_10_method_65_code 83 = .ok (.aload_n 0, 1) := by decide +kernel
theorem d_M_client_84 : decode prog_10_method_65_code 84 = .ok (.iload_n 1, 1) := by decide +kernel
theorem d_M_client_85 : decode prog_10_method_65_code 85 = .ok (.iconst 2, 1) := by decide +kernel
theorem d_M_client_86 : decode prog_10_method_65_code 86 = .ok (.invokevirtual 46, 3) := by decide +kernel
theorem d_M_client_89 : decode prog_10_method_65_code 89 = .ok (.ireturn, 1) := by decide +kernel
theorem d_M_client_90 : decode prog_10_method_65_code 90 = .ok (.aload_n 0, 1) := by decide +kernel
theorem d_M_client_91 : decode prog_10_method_65_code 91 = .ok (.iload_n 1, 1) := by decide +kernel
theorem d_M_client_92 : decode prog_10_method_65_code 92 = .ok (.iconst 3, 1) := by decide +kernel
theorem d_M_client_93 : decode prog_10_method_65_code 93 = .ok (.invokevirtual 46, 3) := by decide +kernel
theorem d_M_client_96 : decode prog_10_method_65_code 96 = .ok (.ireturn, 1) := by decide +kernel
theorem d_M_client_97 : decode prog_10_method_65_code 97 = .ok (.aload_n 0, 1) := by decide +kernel
theorem d_M_client_98 : decode prog_10_method_65_code 98 = .ok (.iload_n 1, 1) := by decide +kernel
theorem d_M_client_99 : decode prog_10_method_65_code 99 = .ok (.iconst 2, 1) := by decide +kernel
theorem d_M_client_100 : decode prog_10_method_65_code 100 = .ok (.invokevirtual 46, 3) := by decide +kernel
theorem d_M_client_103 : decode prog_10_method_65_code 103 = .ok (.aload_n 0, 1) := by decide +kernel
theorem d_M_client_104 : decode prog_10_method_65_code 104 = .ok (.getfield 25, 3) := by decide +kernel
theorem d_M_client_107 : decode prog_10_method_65_code 107 = .ok (.aload_n 0, 1) := by decide +kernel
theorem d_M_client_108 : decode prog_10_method_65_code 108 = .ok (.iload_n 1, 1) := by decide +kernel
theorem d_M_client_109 : decode prog_10_method_65_code 109 = .ok (.iconst 1, 1) := by decide +kernel
theorem d_M_client_110 : decode prog_10_method_65_code 110 = .ok (.invokevirtual 46, 3) := by decide +kernel
theorem d_M_client_113 : decode prog_10_method_65_code 113 = .ok (.iaload, 1) := by decide +kernel
theorem d_M_client_114 : decode prog_10_method_65_code 114 = .ok (.idiv, 1) := by decide +kernel
theorem d_M_client_115 : decode prog_10_method_65_code 115 = .ok (.ireturn, 1) := by decide +kernel
theorem d_M_client_116 : decode prog_10_method_65_code 116 = .ok (.aload_n 0, 1) := by decide +kernel
theorem d_M_client_117 : decode prog_10_method_65_code 117 = .ok (.iload_n 1, 1) := by decide +kernel
theorem d_M_client_118 : decode prog_10_method_65_code 118 = .ok (.invokevirtual 212, 3) := by decide +kernel
theorem d_M_client_121 : decode prog_10_method_65_code 121 = .ok (.ireturn, 1) := by decide +kernel
theorem d_M_client_122 : decode prog_10_method_65_code 122 = .ok (.aload_n 0, 1) := by decide +kernel
theorem d_M_client_123 : decode prog_10_method_65_code 123 = .ok (.iload_n 1, 1) := by decide +kernel
theorem d_M_client_124 : decode prog_10_method_65_code 124 = .ok (.iconst 5, 1) := by decide +kernel
theorem d_M_client_125 : decode prog_10_method_65_code 125 = .ok (.invokevirtual 46, 3) := by decide +kernel
theorem d_M_client_128 : decode prog_10_method_65_code 128 = .ok (.ireturn, 1) := by decide +kernel
theorem d_M_client_129 : decode prog_10_method_65_code 129 = .ok (.aload_n 0, 1) := by decide +kernel
theorem d_M_client_130 : decode prog_10_method_65_code 130 = .ok (.iload_n 1, 1) := by decide +kernel
theorem d_M_client_131 : decode prog_10_method_65_code 131 = .ok (.bipush 6, 2) := by decide +kernel
theorem d_M_client_133 : decode prog_10_method_65_code 133 = .ok (.invokevirtual 46, 3) := by decide +kernel
theorem d_M_client_136 : decode prog_10_method_65_code 136 = .ok (.ireturn, 1) := by decide +kernel
theorem d_M_client_137 : decode prog_10_method_65_code 137 = .ok (.aload_n 0, 1) := by decide +kernel
theorem d_M_client_138 : decode prog_10_method_65_code 138 = .ok (.iload_n 1, 1) := by decide +kernel
theorem d_M_client_139 : decode prog_10_method_65_code 139 = .ok (.iconst 5, 1) := by decide +kernel
theorem d_M_client_140 : decode prog_10_method_65_code 140 = .ok (.invokevirtual 46, 3) := by decide +kernel
theorem d_M_client_143 : decode prog_10_method_65_code 143 = .ok (.ifCond .ne 8, 3) := by decide +kernel
theorem d_M_client_146 : decode prog_10_method_65_code 146 = .ok (.bipush (-9), 2) := by decide +kernel
theorem d_M_client_148 : decode prog_10_method_65_code 148 = .ok (.goto 10, 3) := by decide +kernel
theorem d_M_client_151 : decode prog_10_method_65_code 151 = .ok (.aload_n 0, 1) := by decide +kernel
theorem d_M_client_152 : decode prog_10_method_65_code 152 = .ok (.iload_n 1, 1) := by decide +kernel
theorem d_M_client_153 : decode prog_10_method_65_code 153 = .ok (.bipush 7, 2) := by decide +kernel
theorem d_M_client_155 : decode prog_10_method_65_code 155 = .ok (.invokevirtual 46, 3) := by decide +kernel
theorem d_M_client_158 : decode prog_10_method_65_code 158 = .ok (.ireturn, 1) := by decide +kernel
theorem d_M_client_159 : decode prog_10_method_65_code 159 = .ok (.aload_n 0, 1) := by decide +kernel
theorem d_M_client_160 : decode prog_10_method_65_code 160 = .ok (.iload_n 1, 1) := by decide +kernel
theorem d_M_client_161 : decode prog_10_method_65_code 161 = .ok (.bipush 8, 2) := by decide +kernel
theorem d_M_client_163 : decode prog_10_method_65_code 163 = .ok (.invokevirtual 46, 3) := by decide +kernel
theorem d_M_client_166 : decode prog_10_method_65_code 166 = .ok (.ireturn, 1) := by decide +kernel
theorem cv_8_212 : CSV "SensorHubModel" 212 y_M_stored prog_10_method_64_code 4 (some .int) 1 := ⟨gw_I 1183 (by decide +kernel) rfl, gw_I 1185 (by decide +kernel) rfl, gw_I 68 (by decide +kernel) rfl, gw_I 78 (by decide +kernel) rfl, gw_I 1186 (by decide +kernel) rfl, ⟨by decide +kernel, by decide +kernel⟩, by decide +kernel⟩
def f_M_client (q : Nat) (p1 : Int32) (p2 : Int32) (σ : Mem) : Option (Int32 × Mem) :=
  lt (wr σ q 0 (0 : Int32)) fun σ1 =>
  bd (f_M_isClient q p1 σ1) fun r2 σ3 =>
  if r2 = 0 then
    some ((-1 : Int32), σ3)
  else
    bd (f_M_in p2 (0 : Int32) (8 : Int32) σ3) fun r4 σ5 =>
    if r4 = 0 then
      some ((-1 : Int32), σ5)
    else
      bd (f_M_find q σ5) fun r6 σ7 =>
      if p2 = 0 then
        bd (f_M_client0 q p1 (1 : Int32) σ7) fun r8 σ9 =>
        some (r8, σ9)
      else
      if p2 = 1 then
        bd (f_M_client0 q p1 (2 : Int32) σ7) fun r10 σ11 =>
        some (r10, σ11)
      else
      if p2 = 2 then
        bd (f_M_client0 q p1 (3 : Int32) σ7) fun r12 σ13 =>
        some (r12, σ13)
      else
      if p2 = 3 then
        bd (f_M_client0 q p1 (2 : Int32) σ7) fun r14 σ15 =>
        bd (f_M_client0 q p1 (1 : Int32) σ15) fun r16 σ17 =>
        if ib r16 8 then
          if σ17 (q + 6) r16.toNatClampNeg = 0 then none else
          some (r14 / (σ17 (q + 6) r16.toNatClampNeg), σ17)
        else none
      else
      if p2 = 4 then
        bd (f_M_stored q p1 σ7) fun r18 σ19 =>
        some (r18, σ19)
      else
      if p2 = 5 then
        bd (f_M_client0 q p1 (5 : Int32) σ7) fun r20 σ21 =>
        some (r20, σ21)
      else
      if p2 = 6 then
        bd (f_M_client0 q p1 (6 : Int32) σ7) fun r22 σ23 =>
        some (r22, σ23)
      else
      if p2 = 7 then
        bd (f_M_client0 q p1 (5 : Int32) σ7) fun r24 σ25 =>
        if r24 = 0 then
          some ((-9 : Int32), σ25)
        else
          bd (f_M_client0 q p1 (7 : Int32) σ25) fun r26 σ27 =>
          some (r26, σ27)
      else
        bd (f_M_client0 q p1 (8 : Int32) σ7) fun r28 σ29 =>
        some (r28, σ29)
set_option maxRecDepth 100000 in
set_option maxHeartbeats 4000000 in
theorem c_M_client {X : CX} (l : Launch) (q : Nat) (p1 : Int32) (p2 : Int32) (hq : ModelOK X q) (σ : Mem) : CT X l y_M_client prog_10_method_65_code 3 (some .int) 3 vI [.ref (xa X q), .int p1, .int p2] σ (f_M_client q p1 p2 σ) := by
  refine CT_of (by decide +kernel) (Nat.le_of_ble_eq_true rfl) ?_
  intro p e s m args below meth c F hlk hr
  have F : FR p s m args c prog_10_method_65_code 3 "SensorHubModel" X := F
  show G X p l e (rmD 3) s m args below meth c 3 0 0 (QI X below args s vI) 0 [(0, .ref (xa X q)), (1, .int p1), (2, .int p2)] [] σ _
  unfold f_M_client
  refine g_aload_n F d_M_client_0 0 rfl ?_
  refine g_iconst F (v := 0) d_M_client_1 (by decide) ?_
  refine g_putI F fw_8_35 hq.1 rfl d_M_client_2 ?_
  refine g_ltM (fun σ1 _ => ?_)
  refine g_aload_n F d_M_client_5 0 rfl ?_
  refine g_iload_n F d_M_client_6 1 rfl ?_
  refine g_callV F (dp := 1) (ci := 8) (As := [.int p1]) (c_M_isClient l _ _ hq _) cv_8_144 hq.1 rfl rfl rfl (Nat.le_of_ble_eq_true rfl) ⟨Nat.le_of_ble_eq_true rfl, Nat.le_of_ble_eq_true rfl⟩ ⟨Nat.zero_le _, Nat.zero_le _⟩ d_M_client_7 (fun r2 σ3 h1 => ?_)
  refine g_if_eq F (tgt := 23) d_M_client_10 (by decide) (fun h2 => ?_) (fun h3 => ?_)
  · refine g_iconst F (v := (-1)) d_M_client_23 (by decide) ?_
    exact g_iret F hlk hr d_M_client_24
  refine g_iload_n F d_M_client_13 2 rfl ?_
  refine g_iconst F (v := 0) d_M_client_14 (by decide) ?_
  refine g_bipush F (v := 8) d_M_client_15 (by decide) ?_
  refine g_callS F (dp := 0) (As := [.int p2, .int (0 : Int32), .int (8 : Int32)]) (c_M_in l _ _ _ _) cs_8_42 rfl rfl (Nat.le_of_ble_eq_true rfl) ⟨Nat.le_of_ble_eq_true rfl, Nat.le_of_ble_eq_true rfl⟩ ⟨Nat.zero_le _, Nat.zero_le _⟩ d_M_client_17 (fun r4 σ5 h4 => ?_)
  refine g_if_ne F (tgt := 25) d_M_client_20 (by decide) (fun h5 => ?_) (fun h6 => ?_)
  · refine g_iconst F (v := (-1)) d_M_client_23 (by decide) ?_
    exact g_iret F hlk hr d_M_client_24
  refine g_aload_n F d_M_client_25 0 rfl ?_
  refine g_callV F (dp := 2) (ci := 8) (As := []) (c_M_find l _ hq _) cv_8_73 hq.1 rfl rfl rfl (Nat.le_of_ble_eq_true rfl) ⟨Nat.le_of_ble_eq_true rfl, Nat.le_of_ble_eq_true rfl⟩ ⟨Nat.zero_le _, Nat.zero_le _⟩ d_M_client_26 (fun r6 σ7 h7 => ?_)
  refine g_pop F d_M_client_29 rfl ?_
  refine g_iload_n F d_M_client_30 2 rfl ?_
  refine g_if (fun h8 => ?_) (fun h9 => ?_)
  · refine g_tsIn F (tgt := 76) d_M_client_31 0 h8 (by decide) (by decide) rfl (by decide) ?_
    refine g_aload_n F d_M_client_76 0 rfl ?_
    refine g_iload_n F d_M_client_77 1 rfl ?_
    refine g_iconst F (v := 1) d_M_client_78 (by decide) ?_
    refine g_callV F (dp := 0) (ci := 8) (As := [.int p1, .int (1 : Int32)]) (c_M_client0 l _ _ _ hq _) cv_8_46 hq.1 rfl rfl rfl (Nat.le_of_ble_eq_true rfl) ⟨Nat.le_of_ble_eq_true rfl, Nat.le_of_ble_eq_true rfl⟩ ⟨Nat.zero_le _, Nat.zero_le _⟩ d_M_client_79 (fun r8 σ9 h10 => ?_)
    exact g_iret F hlk hr d_M_client_82
  refine g_if (fun h11 => ?_) (fun h12 => ?_)
  · refine g_tsIn F (tgt := 83) d_M_client_31 1 h11 (by decide) (by decide) rfl (by decide) ?_
    refine g_aload_n F d_M_client_83 0 rfl ?_
    refine g_iload_n F d_M_client_84 1 rfl ?_
    refine g_iconst F (v := 2) d_M_client_85 (by decide) ?_
    refine g_callV F (dp := 0) (ci := 8) (As := [.int p1, .int (2 : Int32)]) (c_M_client0 l _ _ _ hq _) cv_8_46 hq.1 rfl rfl rfl (Nat.le_of_ble_eq_true rfl) ⟨Nat.le_of_ble_eq_true rfl, Nat.le_of_ble_eq_true rfl⟩ ⟨Nat.zero_le _, Nat.zero_le _⟩ d_M_client_86 (fun r10 σ11 h13 => ?_)
    exact g_iret F hlk hr d_M_client_89
  refine g_if (fun h14 => ?_) (fun h15 => ?_)
  · refine g_tsIn F (tgt := 90) d_M_client_31 2 h14 (by decide) (by decide) rfl (by decide) ?_
    refine g_aload_n F d_M_client_90 0 rfl ?_
    refine g_iload_n F d_M_client_91 1 rfl ?_
    refine g_iconst F (v := 3) d_M_client_92 (by decide) ?_
    refine g_callV F (dp := 0) (ci := 8) (As := [.int p1, .int (3 : Int32)]) (c_M_client0 l _ _ _ hq _) cv_8_46 hq.1 rfl rfl rfl (Nat.le_of_ble_eq_true rfl) ⟨Nat.le_of_ble_eq_true rfl, Nat.le_of_ble_eq_true rfl⟩ ⟨Nat.zero_le _, Nat.zero_le _⟩ d_M_client_93 (fun r12 σ13 h16 => ?_)
    exact g_iret F hlk hr d_M_client_96
  refine g_if (fun h17 => ?_) (fun h18 => ?_)
  · refine g_tsIn F (tgt := 97) d_M_client_31 3 h17 (by decide) (by decide) rfl (by decide) ?_
    refine g_aload_n F d_M_client_97 0 rfl ?_
    refine g_iload_n F d_M_client_98 1 rfl ?_
    refine g_iconst F (v := 2) d_M_client_99 (by decide) ?_
    refine g_callV F (dp := 0) (ci := 8) (As := [.int p1, .int (2 : Int32)]) (c_M_client0 l _ _ _ hq _) cv_8_46 hq.1 rfl rfl rfl (Nat.le_of_ble_eq_true rfl) ⟨Nat.le_of_ble_eq_true rfl, Nat.le_of_ble_eq_true rfl⟩ ⟨Nat.zero_le _, Nat.zero_le _⟩ d_M_client_100 (fun r14 σ15 h19 => ?_)
    refine g_aload_n F d_M_client_103 0 rfl ?_
    refine g_getR F fs_8_25 hq.1 rfl d_M_client_104 ?_
    refine g_aload_n F d_M_client_107 0 rfl ?_
    refine g_iload_n F d_M_client_108 1 rfl ?_
    refine g_iconst F (v := 1) d_M_client_109 (by decide) ?_
    refine g_callV F (dp := 0) (ci := 8) (As := [.int p1, .int (1 : Int32)]) (c_M_client0 l _ _ _ hq _) cv_8_46 hq.1 rfl rfl rfl (Nat.le_of_ble_eq_true rfl) ⟨Nat.le_of_ble_eq_true rfl, Nat.le_of_ble_eq_true rfl⟩ ⟨Nat.zero_le _, Nat.zero_le _⟩ d_M_client_110 (fun r16 σ17 h20 => ?_)
    refine g_iald F (n := 8) hq.2.2.2.2.2.2.1 d_M_client_113 ?_
    refine g_idiv F d_M_client_114 ?_
    exact g_iret F hlk hr d_M_client_115
  refine g_if (fun h21 => ?_) (fun h22 => ?_)
  · refine g_tsIn F (tgt := 116) d_M_client_31 4 h21 (by decide) (by decide) rfl (by decide) ?_
    refine g_aload_n F d_M_client_116 0 rfl ?_
    refine g_iload_n F d_M_client_117 1 rfl ?_
    refine g_callV F (dp := 1) (ci := 8) (As := [.int p1]) (c_M_stored l _ _ hq _) cv_8_212 hq.1 rfl rfl rfl (Nat.le_of_ble_eq_true rfl) ⟨Nat.le_of_ble_eq_true rfl, Nat.le_of_ble_eq_true rfl⟩ ⟨Nat.zero_le _, Nat.zero_le _⟩ d_M_client_118 (fun r18 σ19 h23 => ?_)
    exact g_iret F hlk hr d_M_client_121
  refine g_if (fun h24 => ?_) (fun h25 => ?_)
  · refine g_tsIn F (tgt := 122) d_M_client_31 5 h24 (by decide) (by decide) rfl (by decide) ?_
    refine g_aload_n F d_M_client_122 0 rfl ?_
    refine g_iload_n F d_M_client_123 1 rfl ?_
    refine g_iconst F (v := 5) d_M_client_124 (by decide) ?_
    refine g_callV F (dp := 0) (ci := 8) (As := [.int p1, .int (5 : Int32)]) (c_M_client0 l _ _ _ hq _) cv_8_46 hq.1 rfl rfl rfl (Nat.le_of_ble_eq_true rfl) ⟨Nat.le_of_ble_eq_true rfl, Nat.le_of_ble_eq_true rfl⟩ ⟨Nat.zero_le _, Nat.zero_le _⟩ d_M_client_125 (fun r20 σ21 h26 => ?_)
    exact g_iret F hlk hr d_M_client_128
  refine g_if (fun h27 => ?_) (fun h28 => ?_)
  · refine g_tsIn F (tgt := 129) d_M_client_31 6 h27 (by decide) (by decide) rfl (by decide) ?_
    refine g_aload_n F d_M_client_129 0 rfl ?_
    refine g_iload_n F d_M_client_130 1 rfl ?_
    refine g_bipush F (v := 6) d_M_client_131 (by decide) ?_
    refine g_callV F (dp := 0) (ci := 8) (As := [.int p1, .int (6 : Int32)]) (c_M_client0 l _ _ _ hq _) cv_8_46 hq.1 rfl rfl rfl (Nat.le_of_ble_eq_true rfl) ⟨Nat.le_of_ble_eq_true rfl, Nat.le_of_ble_eq_true rfl⟩ ⟨Nat.zero_le _, Nat.zero_le _⟩ d_M_client_133 (fun r22 σ23 h29 => ?_)
    exact g_iret F hlk hr d_M_client_136
  refine g_if (fun h30 => ?_) (fun h31 => ?_)
  · refine g_tsIn F (tgt := 137) d_M_client_31 7 h30 (by decide) (by decide) rfl (by decide) ?_
    refine g_aload_n F d_M_client_137 0 rfl ?_
    refine g_iload_n F d_M_client_138 1 rfl ?_
    refine g_iconst F (v := 5) d_M_client_139 (by decide) ?_
    refine g_callV F (dp := 0) (ci := 8) (As := [.int p1, .int (5 : Int32)]) (c_M_client0 l _ _ _ hq _) cv_8_46 hq.1 rfl rfl rfl (Nat.le_of_ble_eq_true rfl) ⟨Nat.le_of_ble_eq_true rfl, Nat.le_of_ble_eq_true rfl⟩ ⟨Nat.zero_le _, Nat.zero_le _⟩ d_M_client_140 (fun r24 σ25 h32 => ?_)
    refine g_if_ne F (tgt := 151) d_M_client_143 (by decide) (fun h33 => ?_) (fun h34 => ?_)
    · refine g_bipush F (v := (-9)) d_M_client_146 (by decide) ?_
      refine g_goto F (tgt := 158) d_M_client_148 (by decide) ?_
      exact g_iret F hlk hr d_M_client_158
    refine g_aload_n F d_M_client_151 0 rfl ?_
    refine g_iload_n F d_M_client_152 1 rfl ?_
    refine g_bipush F (v := 7) d_M_client_153 (by decide) ?_
    refine g_callV F (dp := 0) (ci := 8) (As := [.int p1, .int (7 : Int32)]) (c_M_client0 l _ _ _ hq _) cv_8_46 hq.1 rfl rfl rfl (Nat.le_of_ble_eq_true rfl) ⟨Nat.le_of_ble_eq_true rfl, Nat.le_of_ble_eq_true rfl⟩ ⟨Nat.zero_le _, Nat.zero_le _⟩ d_M_client_155 (fun r26 σ27 h35 => ?_)
    exact g_iret F hlk hr d_M_client_158
  refine g_tsOut F (tgt := 159) d_M_client_31 (by have e0 := ts_ne 0 (by decide) h9; have e1 := ts_ne 1 (by decide) h12; have e2 := ts_ne 2 (by decide) h15; have e3 := ts_ne 3 (by decide) h18; have e4 := ts_ne 4 (by decide) h22; have e5 := ts_ne 5 (by decide) h25; have e6 := ts_ne 6 (by decide) h28; have e7 := ts_ne 7 (by decide) h31; omega) (by decide) ?_
  refine g_aload_n F d_M_client_159 0 rfl ?_
  refine g_iload_n F d_M_client_160 1 rfl ?_
  refine g_bipush F (v := 8) d_M_client_161 (by decide) ?_
  refine g_callV F (dp := 0) (ci := 8) (As := [.int p1, .int (8 : Int32)]) (c_M_client0 l _ _ _ hq _) cv_8_46 hq.1 rfl rfl rfl (Nat.le_of_ble_eq_true rfl) ⟨Nat.le_of_ble_eq_true rfl, Nat.le_of_ble_eq_true rfl⟩ ⟨Nat.zero_le _, Nat.zero_le _⟩ d_M_client_163 (fun r28 σ29 h36 => ?_)
  exact g_iret F hlk hr d_M_client_166
def y_M_entry : MethodName := ⟨"SensorHubModel", "entry", "(II)I"⟩
theorem d_M_entry_0 : decode prog_10_method_66_code 0 = .ok (.aload_n 0, 1) := by decide +kernel
theorem d_M_entry_1 : decode prog_10_method_66_code 1 = .ok (.iconst 0, 1) := by decide +kernel
theorem d_M_entry_2 : decode prog_10_method_66_code 2 = .ok (.putfield 35, 3) := by decide +kernel
theorem d_M_entry_5 : decode prog_10_method_66_code 5 = .ok (.iload_n 1, 1) := by decide +kernel
theorem d_M_entry_6 : decode prog_10_method_66_code 6 = .ok (.ifCond .lt 12, 3) := by decide +kernel
theorem d_M_entry_9 : decode prog_10_method_66_code 9 = .ok (.iload_n 2, 1) := by decide +kernel
theorem d_M_entry_10 : decode prog_10_method_66_code 10 = .ok (.iconst 0, 1) := by decide +kernel
theorem d_M_entry_11 : decode prog_10_method_66_code 11 = .ok (.iconst 2, 1) := by decide +kernel
theorem d_M_entry_12 : decode prog_10_method_66_code 12 = .ok (.invokestatic 42, 3) := by decide +kernel
theorem d_M_entry_15 : decode prog_10_method_66_code 15 = .ok (.ifCond .ne 5, 3) := by decide +kernel
theorem d_M_entry_18 : decode prog_10_method_66_code 18 = .ok (.iconst (-1), 1) := by decide +kernel
theorem d_M_entry_19 : decode prog_10_method_66_code 19 = .ok (.ireturn, 1) := by decide +kernel
theorem d_M_entry_20 : decode prog_10_method_66_code 20 = .ok (.iload_n 1, 1) := by decide +kernel
theorem d_M_entry_21 : decode prog_10_method_66_code 21 = .ok (.aload_n 0, 1) := by decide +kernel
theorem d_M_entry_22 : decode prog_10_method_66_code 22 = .ok (.getfield 7, 3) := by decide +kernel
theorem d_M_entry_25 : decode prog_10_method_66_code 25 = .ok (.iconst 3, 1) := by decide +kernel
theorem d_M_entry_26 : decode prog_10_method_66_code 26 = .ok (.iaload, 1) := by decide +kernel
theorem d_M_entry_27 : decode prog_10_method_66_code 27 = .ok (.if_icmp .ge 12, 3) := by decide +kernel
theorem d_M_entry_30 : decode prog_10_method_66_code 30 = .ok (.aload_n 0, 1) := by decide +kernel
theorem d_M_entry_31 : decode prog_10_method_66_code 31 = .ok (.iload_n 1, 1) := by decide +kernel
theorem d_M_entry_32 : decode prog_10_method_66_code 32 = .ok (.iload_n 2, 1) := by decide +kernel
theorem d_M_entry_33 : decode prog_10_method_66_code 33 = .ok (.invokevirtual 77, 3) := by decide +kernel
theorem d_M_entry_36 : decode prog_10_method_66_code 36 = .ok (.goto 5, 3) := by decide +kernel
theorem d_M_entry_39 : decode prog_10_method_66_code 39 = .ok (.bipush (-9), 2) := by decide +kernel
theorem d_M_entry_41 : decode prog_10_method_66_code 41 = .ok (.ireturn, 1) := by decide +kernel
def f_M_entry (q : Nat) (p1 : Int32) (p2 : Int32) (σ : Mem) : Option (Int32 × Mem) :=
  lt (wr σ q 0 (0 : Int32)) fun σ1 =>
  if p1 < 0 then
    some ((-1 : Int32), σ1)
  else
    bd (f_M_in p2 (0 : Int32) (2 : Int32) σ1) fun r2 σ3 =>
    if r2 = 0 then
      some ((-1 : Int32), σ3)
    else
      if (σ3 (q + 1) 3) ≤ p1 then
        some ((-9 : Int32), σ3)
      else
        bd (f_M_entryPart q p1 p2 σ3) fun r4 σ5 =>
        some (r4, σ5)
set_option maxRecDepth 100000 in
set_option maxHeartbeats 4000000 in
theorem c_M_entry {X : CX} (l : Launch) (q : Nat) (p1 : Int32) (p2 : Int32) (hq : ModelOK X q) (σ : Mem) : CT X l y_M_entry prog_10_method_66_code 3 (some .int) 1 vI [.ref (xa X q), .int p1, .int p2] σ (f_M_entry q p1 p2 σ) := by
  refine CT_of (by decide +kernel) (Nat.le_of_ble_eq_true rfl) ?_
  intro p e s m args below meth c F hlk hr
  have F : FR p s m args c prog_10_method_66_code 3 "SensorHubModel" X := F
  show G X p l e (rmD 1) s m args below meth c 3 0 0 (QI X below args s vI) 0 [(0, .ref (xa X q)), (1, .int p1), (2, .int p2)] [] σ _
  unfold f_M_entry
  refine g_aload_n F d_M_entry_0 0 rfl ?_
  refine g_iconst F (v := 0) d_M_entry_1 (by decide) ?_
  refine g_putI F fw_8_35 hq.1 rfl d_M_entry_2 ?_
  refine g_ltM (fun σ1 _ => ?_)
  refine g_iload_n F d_M_entry_5 1 rfl ?_
  refine g_if_lt F (tgt := 18) d_M_entry_6 (by decide) (fun h1 => ?_) (fun h2 => ?_)
  · refine g_iconst F (v := (-1)) d_M_entry_18 (by decide) ?_
    exact g_iret F hlk hr d_M_entry_19
  refine g_iload_n F d_M_entry_9 2 rfl ?_
  refine g_iconst F (v := 0) d_M_entry_10 (by decide) ?_
  refine g_iconst F (v := 2) d_M_entry_11 (by decide) ?_
  refine g_callS F (dp := 0) (As := [.int p2, .int (0 : Int32), .int (2 : Int32)]) (c_M_in l _ _ _ _) cs_8_42 rfl rfl (Nat.le_of_ble_eq_true rfl) ⟨Nat.le_of_ble_eq_true rfl, Nat.le_of_ble_eq_true rfl⟩ ⟨Nat.zero_le _, Nat.zero_le _⟩ d_M_entry_12 (fun r2 σ3 h3 => ?_)
  refine g_if_ne F (tgt := 20) d_M_entry_15 (by decide) (fun h4 => ?_) (fun h5 => ?_)
  · refine g_iconst F (v := (-1)) d_M_entry_18 (by decide) ?_
    exact g_iret F hlk hr d_M_entry_19
  refine g_iload_n F d_M_entry_20 1 rfl ?_
  refine g_aload_n F d_M_entry_21 0 rfl ?_
  refine g_getR F fs_8_7 hq.1 rfl d_M_entry_22 ?_
  refine g_iconst F (v := 3) d_M_entry_25 (by decide) ?_
  refine g_ialdC F (n := 481) 3 (by decide) (by decide) hq.2.1 d_M_entry_26 ?_
  refine g_icmp_ge F (tgt := 39) d_M_entry_27 (by decide) (fun h6 => ?_) (fun h7 => ?_)
  · refine g_bipush F (v := (-9)) d_M_entry_39 (by decide) ?_
    exact g_iret F hlk hr d_M_entry_41
  refine g_aload_n F d_M_entry_30 0 rfl ?_
  refine g_iload_n F d_M_entry_31 1 rfl ?_
  refine g_iload_n F d_M_entry_32 2 rfl ?_
  refine g_callV F (dp := 0) (ci := 8) (As := [.int p1, .int p2]) (c_M_entryPart l _ _ _ hq _) cv_8_77 hq.1 rfl rfl rfl (Nat.le_of_ble_eq_true rfl) ⟨Nat.le_of_ble_eq_true rfl, Nat.le_of_ble_eq_true rfl⟩ ⟨Nat.zero_le _, Nat.zero_le _⟩ d_M_entry_33 (fun r4 σ5 h8 => ?_)
  refine g_goto F (tgt := 41) d_M_entry_36 (by decide) ?_
  exact g_iret F hlk hr d_M_entry_41
def y_M_delivered : MethodName := ⟨"SensorHubModel", "delivered", "(III)I"⟩
theorem d_M_delivered_0 : decode prog_10_method_67_code 0 = .ok (.aload_n 0, 1) := by decide +kernel
theorem d_M_delivered_1 : decode prog_10_method_67_code 1 = .ok (.iconst 0, 1) := by decide +kernel
theorem d_M_delivered_2 : decode prog_10_method_67_code 2 = .ok (.putfield 35, 3) := by decide +kernel
theorem d_M_delivered_5 : decode prog_10_method_67_code 5 = .ok (.aload_n 0, 1) := by decide +kernel
theorem d_M_delivered_6 : decode prog_10_method_67_code 6 = .ok (.iload_n 1, 1) := by decide +kernel
theorem d_M_delivered_7 : decode prog_10_method_67_code 7 = .ok (.invokevirtual 144, 3) := by decide +kernel
theorem d_M_delivered_10 : decode prog_10_method_67_code 10 = .ok (.ifCond .eq 21, 3) := by decide +kernel
theorem d_M_delivered_13 : decode prog_10_method_67_code 13 = .ok (.iload_n 2, 1) := by decide +kernel
theorem d_M_delivered_14 : decode prog_10_method_67_code 14 = .ok (.iconst 0, 1) := by decide +kernel
theorem d_M_delivered_15 : decode prog_10_method_67_code 15 = .ok (.iconst 5, 1) := by decide +kernel
theorem d_M_delivered_16 : decode prog_10_method_67_code 16 = .ok (.invokestatic 42, 3) := by decide +kernel
theorem d_M_delivered_19 : decode prog_10_method_67_code 19 = .ok (.ifCond .eq 12, 3) := by decide +kernel
theorem d_M_delivered_22 : decode prog_10_method_67_code 22 = .ok (.iload_n 3, 1) := by decide +kernel
theorem d_M_delivered_23 : decode prog_10_method_67_code 23 = .ok (.iconst 0, 1) := by decide +kernel
theorem d_M_delivered_24 : decode prog_10_method_67_code 24 = .ok (.iconst 2, 1) := by decide +kernel
theorem d_M_delivered_25 : decode prog_10_method_67_code 25 = .ok (.invokestatic 42, 3) := by decide +kernel
theorem d_M_delivered_28 : decode prog_10_method_67_code 28 = .ok (.ifCond .ne 5, 3) := by decide +kernel
theorem d_M_delivered_31 : decode prog_10_method_67_code 31 = .ok (.iconst (-1), 1) := by decide +kernel
theorem d_M_delivered_32 : decode prog_10_method_67_code 32 = .ok (.ireturn, 1) := by decide +kernel
theorem d_M_delivered_33 : decode prog_10_method_67_code 33 = .ok (.iload_n 2, 1) := by decide +kernel
theorem d_M_delivered_34 : decode prog_10_method_67_code 34 = .ok (.aload_n 0, 1) := by decide +kernel
theorem d_M_delivered_35 : decode prog_10_method_67_code 35 = .ok (.iload_n 1, 1) := by decide +kernel
theorem d_M_delivered_36 : decode prog_10_method_67_code 36 = .ok (.iconst 5, 1) := by decide +kernel
theorem d_M_delivered_37 : decode prog_10_method_67_code 37 = .ok (.invokevirtual 46, 3) := by decide +kernel
theorem d_M_delivered_40 : decode prog_10_method_67_code 40 = .ok (.if_icmp .ge 19, 3) := by decide +kernel
theorem d_M_delivered_43 : decode prog_10_method_67_code 43 = .ok (.aload_n 0, 1) := by decide +kernel
theorem d_M_delivered_44 : decode prog_10_method_67_code 44 = .ok (.iload_n 1, 1) := by decide +kernel
theorem d_M_delivered_45 : decode prog_10_method_67_code 45 = .ok (.bipush 9, 2) := by decide +kernel
theorem d_M_delivered_47 : decode prog_10_method_67_code 47 = .ok (.iconst 3, 1) := by decide +kernel
theorem d_M_delivered_48 : decode prog_10_method_67_code 48 = .ok (.iload_n 2, 1) := by decide +kernel
theorem d_M_delivered_49 : decode prog_10_method_67_code 49 = .ok (.imul, 1) := by decide +kernel
theorem d_M_delivered_50 : decode prog_10_method_67_code 50 = .ok (.iadd, 1) := by decide +kernel
theorem d_M_delivered_51 : decode prog_10_method_67_code 51 = .ok (.iload_n 3, 1) := by decide +kernel
theorem d_M_delivered_52 : decode prog_10_method_67_code 52 = .ok (.iadd, 1) := by decide +kernel
theorem d_M_delivered_53 : decode prog_10_method_67_code 53 = .ok (.invokevirtual 46, 3) := by decide +kernel
theorem d_M_delivered_56 : decode prog_10_method_67_code 56 = .ok (.goto 5, 3) := by decide +kernel
theorem d_M_delivered_59 : decode prog_10_method_67_code 59 = .ok (.bipush (-9), 2) := by decide +kernel
theorem d_M_delivered_61 : decode prog_10_method_67_code 61 = .ok (.ireturn, 1) := by decide +kernel
def f_M_delivered (q : Nat) (p1 : Int32) (p2 : Int32) (p3 : Int32) (σ : Mem) : Option (Int32 × Mem) :=
  lt (wr σ q 0 (0 : Int32)) fun σ1 =>
  bd (f_M_isClient q p1 σ1) fun r2 σ3 =>
  if r2 = 0 then
    some ((-1 : Int32), σ3)
  else
    bd (f_M_in p2 (0 : Int32) (5 : Int32) σ3) fun r4 σ5 =>
    if r4 = 0 then
      some ((-1 : Int32), σ5)
    else
      bd (f_M_in p3 (0 : Int32) (2 : Int32) σ5) fun r6 σ7 =>
      if r6 = 0 then
        some ((-1 : Int32), σ7)
      else
        bd (f_M_client0 q p1 (5 : Int32) σ7) fun r8 σ9 =>
        if r8 ≤ p2 then
          some ((-9 : Int32), σ9)
        else
          bd (f_M_client0 q p1 (((9 : Int32) + ((3 : Int32) * p2)) + p3) σ9) fun r10 σ11 =>
          some (r10, σ11)
set_option maxRecDepth 100000 in
set_option maxHeartbeats 4000000 in
theorem c_M_delivered {X : CX} (l : Launch) (q : Nat) (p1 : Int32) (p2 : Int32) (p3 : Int32) (hq : ModelOK X q) (σ : Mem) : CT X l y_M_delivered prog_10_method_67_code 4 (some .int) 2 vI [.ref (xa X q), .int p1, .int p2, .int p3] σ (f_M_delivered q p1 p2 p3 σ) := by
  refine CT_of (by decide +kernel) (Nat.le_of_ble_eq_true rfl) ?_
  intro p e s m args below meth c F hlk hr
  have F : FR p s m args c prog_10_method_67_code 4 "SensorHubModel" X := F
  show G X p l e (rmD 2) s m args below meth c 4 0 0 (QI X below args s vI) 0 [(0, .ref (xa X q)), (1, .int p1), (2, .int p2), (3, .int p3)] [] σ _
  unfold f_M_delivered
  refine g_aload_n F d_M_delivered_0 0 rfl ?_
  refine g_iconst F (v := 0) d_M_delivered_1 (by decide) ?_
  refine g_putI F fw_8_35 hq.1 rfl d_M_delivered_2 ?_
  refine g_ltM (fun σ1 _ => ?_)
  refine g_aload_n F d_M_delivered_5 0 rfl ?_
  refine g_iload_n F d_M_delivered_6 1 rfl ?_
  refine g_callV F (dp := 1) (ci := 8) (As := [.int p1]) (c_M_isClient l _ _ hq _) cv_8_144 hq.1 rfl rfl rfl (Nat.le_of_ble_eq_true rfl) ⟨Nat.le_of_ble_eq_true rfl, Nat.le_of_ble_eq_true rfl⟩ ⟨Nat.zero_le _, Nat.zero_le _⟩ d_M_delivered_7 (fun r2 σ3 h1 => ?_)
  refine g_if_eq F (tgt := 31) d_M_delivered_10 (by decide) (fun h2 => ?_) (fun h3 => ?_)
  · refine g_iconst F (v := (-1)) d_M_delivered_31 (by decide) ?_
    exact g_iret F hlk hr d_M_delivered_32
  refine g_iload_n F d_M_delivered_13 2 rfl ?_
  refine g_iconst F (v := 0) d_M_delivered_14 (by decide) ?_
  refine g_iconst F (v := 5) d_M_delivered_15 (by decide) ?_
  refine g_callS F (dp := 0) (As := [.int p2, .int (0 : Int32), .int (5 : Int32)]) (c_M_in l _ _ _ _) cs_8_42 rfl rfl (Nat.le_of_ble_eq_true rfl) ⟨Nat.le_of_ble_eq_true rfl, Nat.le_of_ble_eq_true rfl⟩ ⟨Nat.zero_le _, Nat.zero_le _⟩ d_M_delivered_16 (fun r4 σ5 h4 => ?_)
  refine g_if_eq F (tgt := 31) d_M_delivered_19 (by decide) (fun h5 => ?_) (fun h6 => ?_)
  · refine g_iconst F (v := (-1)) d_M_delivered_31 (by decide) ?_
    exact g_iret F hlk hr d_M_delivered_32
  refine g_iload_n F d_M_delivered_22 3 rfl ?_
  refine g_iconst F (v := 0) d_M_delivered_23 (by decide) ?_
  refine g_iconst F (v := 2) d_M_delivered_24 (by decide) ?_
  refine g_callS F (dp := 0) (As := [.int p3, .int (0 : Int32), .int (2 : Int32)]) (c_M_in l _ _ _ _) cs_8_42 rfl rfl (Nat.le_of_ble_eq_true rfl) ⟨Nat.le_of_ble_eq_true rfl, Nat.le_of_ble_eq_true rfl⟩ ⟨Nat.zero_le _, Nat.zero_le _⟩ d_M_delivered_25 (fun r6 σ7 h7 => ?_)
  refine g_if_ne F (tgt := 33) d_M_delivered_28 (by decide) (fun h8 => ?_) (fun h9 => ?_)
  · refine g_iconst F (v := (-1)) d_M_delivered_31 (by decide) ?_
    exact g_iret F hlk hr d_M_delivered_32
  refine g_iload_n F d_M_delivered_33 2 rfl ?_
  refine g_aload_n F d_M_delivered_34 0 rfl ?_
  refine g_iload_n F d_M_delivered_35 1 rfl ?_
  refine g_iconst F (v := 5) d_M_delivered_36 (by decide) ?_
  refine g_callV F (dp := 0) (ci := 8) (As := [.int p1, .int (5 : Int32)]) (c_M_client0 l _ _ _ hq _) cv_8_46 hq.1 rfl rfl rfl (Nat.le_of_ble_eq_true rfl) ⟨Nat.le_of_ble_eq_true rfl, Nat.le_of_ble_eq_true rfl⟩ ⟨Nat.zero_le _, Nat.zero_le _⟩ d_M_delivered_37 (fun r8 σ9 h10 => ?_)
  refine g_icmp_ge F (tgt := 59) d_M_delivered_40 (by decide) (fun h11 => ?_) (fun h12 => ?_)
  · refine g_bipush F (v := (-9)) d_M_delivered_59 (by decide) ?_
    exact g_iret F hlk hr d_M_delivered_61
  refine g_aload_n F d_M_delivered_43 0 rfl ?_
  refine g_iload_n F d_M_delivered_44 1 rfl ?_
  refine g_bipush F (v := 9) d_M_delivered_45 (by decide) ?_
  refine g_iconst F (v := 3) d_M_delivered_47 (by decide) ?_
  refine g_iload_n F d_M_delivered_48 2 rfl ?_
  refine g_imul F d_M_delivered_49 ?_
  refine g_iadd F d_M_delivered_50 ?_
  refine g_iload_n F d_M_delivered_51 3 rfl ?_
  refine g_iadd F d_M_delivered_52 ?_
  refine g_callV F (dp := 0) (ci := 8) (As := [.int p1, .int (((9 : Int32) + ((3 : Int32) * p2)) + p3)]) (c_M_client0 l _ _ _ hq _) cv_8_46 hq.1 rfl rfl rfl (Nat.le_of_ble_eq_true rfl) ⟨Nat.le_of_ble_eq_true rfl, Nat.le_of_ble_eq_true rfl⟩ ⟨Nat.zero_le _, Nat.zero_le _⟩ d_M_delivered_53 (fun r10 σ11 h13 => ?_)
  refine g_goto F (tgt := 61) d_M_delivered_56 (by decide) ?_
  exact g_iret F hlk hr d_M_delivered_61
def y_M_nextDeadline : MethodName := ⟨"SensorHubModel", "nextDeadline", "()I"⟩
theorem d_M_nextDeadline_0 : decode prog_10_method_68_code 0 = .ok (.aload_n 0, 1) := by decide +kernel
theorem d_M_nextDeadline_1 : decode prog_10_method_68_code 1 = .ok (.iconst 0, 1) := by decide +kernel
theorem d_M_nextDeadline_2 : decode prog_10_method_68_code 2 = .ok (.putfield 35, 3) := by decide +kernel
theorem d_M_nextDeadline_5 : decode prog_10_method_68_code 5 = .ok (.bipush (-9), 2) := by decide +kernel
theorem d_M_nextDeadline_7 : decode prog_10_method_68_code 7 = .ok (.istore_n 1, 1) := by decide +kernel
theorem d_M_nextDeadline_8 : decode prog_10_method_68_code 8 = .ok (.iconst 0, 1) := by decide +kernel
theorem d_M_nextDeadline_9 : decode prog_10_method_68_code 9 = .ok (.istore_n 2, 1) := by decide +kernel
theorem d_M_nextDeadline_10 : decode prog_10_method_68_code 10 = .ok (.iload_n 2, 1) := by decide +kernel
theorem d_M_nextDeadline_11 : decode prog_10_method_68_code 11 = .ok (.aload_n 0, 1) := by decide +kernel
theorem d_M_nextDeadline_12 : decode prog_10_method_68_code 12 = .ok (.getfield 7, 3) := by decide +kernel
theorem d_M_nextDeadline_15 : decode prog_10_method_68_code 15 = .ok (.iconst 3, 1) := by decide +kernel
theorem d_M_nextDeadline_16 : decode prog_10_method_68_code 16 = .ok (.iaload, 1) := by decide +kernel
theorem d_M_nextDeadline_17 : decode prog_10_method_68_code 17 = .ok (.if_icmp .ge 43, 3) := by decide +kernel
theorem d_M_nextDeadline_20 : decode prog_10_method_68_code 20 = .ok (.aload_n 0, 1) := by decide +kernel
theorem d_M_nextDeadline_21 : decode prog_10_method_68_code 21 = .ok (.iload_n 2, 1) := by decide +kernel
theorem d_M_nextDeadline_22 : decode prog_10_method_68_code 22 = .ok (.iconst 1, 1) := by decide +kernel
theorem d_M_nextDeadline_23 : decode prog_10_method_68_code 23 = .ok (.invokevirtual 77, 3) := by decide +kernel
theorem d_M_nextDeadline_26 : decode prog_10_method_68_code 26 = .ok (.aload_n 0, 1) := by decide +kernel
theorem d_M_nextDeadline_27 : decode prog_10_method_68_code 27 = .ok (.aload_n 0, 1) := by decide +kernel
theorem d_M_nextDeadline_28 : decode prog_10_method_68_code 28 = .ok (.iload_n 2, 1) := by decide +kernel
theorem d_M_nextDeadline_29 : decode prog_10_method_68_code 29 = .ok (.iconst 0, 1) := by decide +kernel
theorem d_M_nextDeadline_30 : decode prog_10_method_68_code 30 = .ok (.invokevirtual 77, 3) := by decide +kernel
theorem d_M_nextDeadline_33 : decode prog_10_method_68_code 33 = .ok (.iconst 3, 1) := by decide +kernel
theorem d_M_nextDeadline_34 : decode prog_10_method_68_code 34 = .ok (.invokevirtual 46, 3) := by decide +kernel
theorem d_M_nextDeadline_37 : decode prog_10_method_68_code 37 = .ok (.iadd, 1) := by decide +kernel
theorem d_M_nextDeadline_38 : decode prog_10_method_68_code 38 = .ok (.istore_n 3, 1) := by decide +kernel
theorem d_M_nextDeadline_39 : decode prog_10_method_68_code 39 = .ok (.iload_n 2, 1) := by decide +kernel
theorem d_M_nextDeadline_40 : decode prog_10_method_68_code 40 = .ok (.ifCond .eq 8, 3) := by decide +kernel
theorem d_M_nextDeadline_43 : decode prog_10_method_68_code 43 = .ok (.iload_n 3, 1) := by decide +kernel
theorem d_M_nextDeadline_44 : decode prog_10_method_68_code 44 = .ok (.iload_n 1, 1) := by decide +kernel
theorem d_M_nextDeadline_45 : decode prog_10_method_68_code 45 = .ok (.if_icmp .ge 7, 3) := by decide +kernel
theorem d_M_nextDeadline_48 : decode prog_10_method_68_code 48 = .ok (.iload_n 3, 1) := by decide +kernel
theorem d_M_nextDeadline_49 : decode prog_10_method_68_code 49 = .ok (.goto 4, 3) := by decide +kernel
theorem d_M_nextDeadline_52 : decode prog_10_method_68_code 52 = .ok (.iload_n 1, 1) := by decide +kernel
theorem d_M_nextDeadline_53 : decode prog_10_method_68_code 53 = .ok (.istore_n 1, 1) := by decide +kernel
theorem d_M_nextDeadline_54 : decode prog_10_method_68_code 54 = .ok (.iinc 2 1, 3) := by decide +kernel
theorem d_M_nextDeadline_57 : decode prog_10_method_68_code 57 = .ok (.goto (-47), 3) := by decide +kernel
theorem d_M_nextDeadline_60 : decode prog_10_method_68_code 60 = .ok (.iload_n 1, 1) := by decide +kernel
theorem d_M_nextDeadline_61 : decode prog_10_method_68_code 61 = .ok (.ireturn, 1) := by decide +kernel
def L_M_nextDeadline_10 (r0 : Nat) (k : Int32 → Mem → Option (Int32 × Mem)) : Nat → Int32 → Int32 → Mem → Option (Int32 × Mem)
  | 0, _, _, _ => none
  | n + 1, x1, x2, σ =>
    if (σ (r0 + 1) 3) ≤ x2 then
      k x1 σ
    else
      bd (f_M_entryPart r0 x2 (1 : Int32) σ) fun r2 σ3 =>
      bd (f_M_entryPart r0 x2 (0 : Int32) σ3) fun r4 σ5 =>
      bd (f_M_client0 r0 r4 (3 : Int32) σ5) fun r6 σ7 =>
      lt (r2 + r6) fun v8 =>
      if x2 = 0 then L_M_nextDeadline_10 r0 k n v8 (x2 + 1) σ7 else if x1 ≤ v8 then L_M_nextDeadline_10 r0 k n x1 (x2 + 1) σ7 else L_M_nextDeadline_10 r0 k n v8 (x2 + 1) σ7
def f_M_nextDeadline (q : Nat) (σ : Mem) : Option (Int32 × Mem) :=
  lt (wr σ q 0 (0 : Int32)) fun σ1 =>
  L_M_nextDeadline_10 q (fun z9 σ10 =>
    some (z9, σ10)) FU (-9 : Int32) (0 : Int32) σ1
set_option maxRecDepth 100000 in
set_option maxHeartbeats 4000000 in
theorem l_L_M_nextDeadline_10 {X : CX} {p : Program} {l : Launch} {e : Env} {s : State} {m : MethodId} {args : Array Value} {below : List Frame} {meth : Method} {c : Code} (F : FR p s m args c prog_10_method_68_code 4 "SensorHubModel" X) (hlk : meth.locks = false) (hr : meth.sig.returnType = some .int) (r0 : Nat) (hr0 : ModelOK X r0) (k : Int32 → Mem → Option (Int32 × Mem)) (hk : ∀ (x1 : Int32) (σ : Mem), G X p l e (rmD 1) s m args below meth c 4 0 0 (QI X below args s vI) 60 [(1, .int x1)] [] σ (k x1 σ)) : ∀ (n : Nat) (x1 : Int32) (x2 : Int32) (σ : Mem), G X p l e (rmD 1) s m args below meth c 4 0 0 (QI X below args s vI) 10 [(0, .ref (xa X r0)), (1, .int x1), (2, .int x2)] [] σ (L_M_nextDeadline_10 r0 k n x1 x2 σ) := by
  intro n
  induction n with
  | zero => intros; exact g_no
  | succ n ih =>
    intro x1 x2 σ
    unfold L_M_nextDeadline_10
    refine g_iload_n F d_M_nextDeadline_10 2 rfl ?_
    refine g_aload_n F d_M_nextDeadline_11 0 rfl ?_
    refine g_getR F fs_8_7 hr0.1 rfl d_M_nextDeadline_12 ?_
    refine g_iconst F (v := 3) d_M_nextDeadline_15 (by decide) ?_
    refine g_ialdC F (n := 481) 3 (by decide) (by decide) hr0.2.1 d_M_nextDeadline_16 ?_
    refine g_icmp_ge F (tgt := 60) d_M_nextDeadline_17 (by decide) (fun h1 => ?_) (fun h2 => ?_)
    · exact g_sub [1] rfl (hk _ _)
    refine g_aload_n F d_M_nextDeadline_20 0 rfl ?_
    refine g_iload_n F d_M_nextDeadline_21 2 rfl ?_
    refine g_iconst F (v := 1) d_M_nextDeadline_22 (by decide) ?_
    refine g_callV F (dp := 0) (ci := 8) (As := [.int x2, .int (1 : Int32)]) (c_M_entryPart l _ _ _ hr0 _) cv_8_77 hr0.1 rfl rfl rfl (Nat.le_of_ble_eq_true rfl) ⟨Nat.le_of_ble_eq_true rfl, Nat.le_of_ble_eq_true rfl⟩ ⟨Nat.zero_le _, Nat.zero_le _⟩ d_M_nextDeadline_23 (fun r2 σ3 h3 => ?_)
    refine g_aload_n F d_M_nextDeadline_26 0 rfl ?_
    refine g_aload_n F d_M_nextDeadline_27 0 rfl ?_
    refine g_iload_n F d_M_nextDeadline_28 2 rfl ?_
    refine g_iconst F (v := 0) d_M_nextDeadline_29 (by decide) ?_
    refine g_callV F (dp := 0) (ci := 8) (As := [.int x2, .int (0 : Int32)]) (c_M_entryPart l _ _ _ hr0 _) cv_8_77 hr0.1 rfl rfl rfl (Nat.le_of_ble_eq_true rfl) ⟨Nat.le_of_ble_eq_true rfl, Nat.le_of_ble_eq_true rfl⟩ ⟨Nat.zero_le _, Nat.zero_le _⟩ d_M_nextDeadline_30 (fun r4 σ5 h4 => ?_)
    refine g_iconst F (v := 3) d_M_nextDeadline_33 (by decide) ?_
    refine g_callV F (dp := 0) (ci := 8) (As := [.int r4, .int (3 : Int32)]) (c_M_client0 l _ _ _ hr0 _) cv_8_46 hr0.1 rfl rfl rfl (Nat.le_of_ble_eq_true rfl) ⟨Nat.le_of_ble_eq_true rfl, Nat.le_of_ble_eq_true rfl⟩ ⟨Nat.zero_le _, Nat.zero_le _⟩ d_M_nextDeadline_34 (fun r6 σ7 h5 => ?_)
    refine g_iadd F d_M_nextDeadline_37 ?_
    refine g_ltI (fun v8 _ => ?_)
    refine g_istore_n F (ls' := [(3, .int v8), (0, .ref (xa X r0)), (1, .int x1), (2, .int x2)]) d_M_nextDeadline_38 (by decide) rfl ?_
    refine g_iload_n F d_M_nextDeadline_39 3 rfl ?_
    refine g_if_eq F (tgt := 48) d_M_nextDeadline_40 (by decide) (fun h6 => ?_) (fun h7 => ?_)
    · refine g_iload_n F d_M_nextDeadline_48 0 rfl ?_
      refine g_goto F (tgt := 53) d_M_nextDeadline_49 (by decide) ?_
      refine g_istore_n F (ls' := [(1, .int v8), (3, .int v8), (0, .ref (xa X r0)), (2, .int x2)]) d_M_nextDeadline_53 (by decide) rfl ?_
      refine g_iinc F (v := 1) (ls' := [(2, .int (x2 + 1)), (1, .int v8), (3, .int v8), (0, .ref (xa X r0))]) d_M_nextDeadline_54 3 rfl (by decide) (by decide) rfl ?_
      refine g_goto F (tgt := 10) d_M_nextDeadline_57 (by decide) ?_
      exact g_sub [3, 1, 0] rfl (ih _ _ _)
    refine g_iload_n F d_M_nextDeadline_43 0 rfl ?_
    refine g_iload_n F d_M_nextDeadline_44 2 rfl ?_
    refine g_icmp_ge F (tgt := 52) d_M_nextDeadline_45 (by decide) (fun h8 => ?_) (fun h9 => ?_)
    · refine g_iload_n F d_M_nextDeadline_52 2 rfl ?_
      refine g_istore_n F (ls' := [(1, .int x1), (3, .int v8), (0, .ref (xa X r0)), (2, .int x2)]) d_M_nextDeadline_53 (by decide) rfl ?_
      refine g_iinc F (v := 1) (ls' := [(2, .int (x2 + 1)), (1, .int x1), (3, .int v8), (0, .ref (xa X r0))]) d_M_nextDeadline_54 3 rfl (by decide) (by decide) rfl ?_
      refine g_goto F (tgt := 10) d_M_nextDeadline_57 (by decide) ?_
      exact g_sub [3, 1, 0] rfl (ih _ _ _)
    refine g_iload_n F d_M_nextDeadline_48 0 rfl ?_
    refine g_goto F (tgt := 53) d_M_nextDeadline_49 (by decide) ?_
    refine g_istore_n F (ls' := [(1, .int v8), (3, .int v8), (0, .ref (xa X r0)), (2, .int x2)]) d_M_nextDeadline_53 (by decide) rfl ?_
    refine g_iinc F (v := 1) (ls' := [(2, .int (x2 + 1)), (1, .int v8), (3, .int v8), (0, .ref (xa X r0))]) d_M_nextDeadline_54 3 rfl (by decide) (by decide) rfl ?_
    refine g_goto F (tgt := 10) d_M_nextDeadline_57 (by decide) ?_
    exact g_sub [3, 1, 0] rfl (ih _ _ _)
set_option maxRecDepth 100000 in
set_option maxHeartbeats 4000000 in
theorem c_M_nextDeadline {X : CX} (l : Launch) (q : Nat) (hq : ModelOK X q) (σ : Mem) : CT X l y_M_nextDeadline prog_10_method_68_code 4 (some .int) 1 vI [.ref (xa X q)] σ (f_M_nextDeadline q σ) := by
  refine CT_of (by decide +kernel) (Nat.le_of_ble_eq_true rfl) ?_
  intro p e s m args below meth c F hlk hr
  have F : FR p s m args c prog_10_method_68_code 4 "SensorHubModel" X := F
  show G X p l e (rmD 1) s m args below meth c 4 0 0 (QI X below args s vI) 0 [(0, .ref (xa X q))] [] σ _
  unfold f_M_nextDeadline
  refine g_aload_n F d_M_nextDeadline_0 0 rfl ?_
  refine g_iconst F (v := 0) d_M_nextDeadline_1 (by decide) ?_
  refine g_putI F fw_8_35 hq.1 rfl d_M_nextDeadline_2 ?_
  refine g_ltM (fun σ1 _ => ?_)
  refine g_bipush F (v := (-9)) d_M_nextDeadline_5 (by decide) ?_
  refine g_istore_n F (ls' := [(1, .int (-9 : Int32)), (0, .ref (xa X q))]) d_M_nextDeadline_7 (by decide) rfl ?_
  refine g_iconst F (v := 0) d_M_nextDeadline_8 (by decide) ?_
  refine g_istore_n F (ls' := [(2, .int (0 : Int32)), (1, .int (-9 : Int32)), (0, .ref (xa X q))]) d_M_nextDeadline_9 (by decide) rfl ?_
  refine g_sub [2, 1, 0] rfl (l_L_M_nextDeadline_10 F hlk hr _ hq _ (fun z9 σ10 => ?_) FU _ _ _)
  refine g_iload_n F d_M_nextDeadline_60 0 rfl ?_
  exact g_iret F hlk hr d_M_nextDeadline_61
def y_M_forecastWakes : MethodName := ⟨"SensorHubModel", "forecastWakes", "(II)I"⟩
theorem d_M_forecastWakes_0 : decode prog_10_method_69_code 0 = .ok (.aload_n 0, 1) := by decide +kernel
theorem d_M_forecastWakes_1 : decode prog_10_method_69_code 1 = .ok (.iconst 0, 1) := by decide +kernel
theorem d_M_forecastWakes_2 : decode prog_10_method_69_code 2 = .ok (.putfield 35, 3) := by decide +kernel
theorem d_M_forecastWakes_5 : decode prog_10_method_69_code 5 = .ok (.iload_n 1, 1) := by decide +kernel
theorem d_M_forecastWakes_6 : decode prog_10_method_69_code 6 = .ok (.iconst 1, 1) := by decide +kernel
theorem d_M_forecastWakes_7 : decode prog_10_method_69_code 7 = .ok (.sipush 500, 3) := by decide +kernel
theorem d_M_forecastWakes_10 : decode prog_10_method_69_code 10 = .ok (.invokestatic 42, 3) := by decide +kernel
theorem d_M_forecastWakes_13 : decode prog_10_method_69_code 13 = .ok (.ifCond .eq 12, 3) := by decide +kernel
theorem d_M_forecastWakes_16 : decode prog_10_method_69_code 16 = .ok (.iload_n 2, 1) := by decide +kernel
theorem d_M_forecastWakes_17 : decode prog_10_method_69_code 17 = .ok (.iconst 0, 1) := by decide +kernel
theorem d_M_forecastWakes_18 : decode prog_10_method_69_code 18 = .ok (.iconst 1, 1) := by decide +kernel
theorem d_M_forecastWakes_19 : decode prog_10_method_69_code 19 = .ok (.invokestatic 42, 3) := by decide +kernel
theorem d_M_forecastWakes_22 : decode prog_10_method_69_code 22 = .ok (.ifCond .ne 5, 3) := by decide +kernel
theorem d_M_forecastWakes_25 : decode prog_10_method_69_code 25 = .ok (.iconst (-1), 1) := by decide +kernel
theorem d_M_forecastWakes_26 : decode prog_10_method_69_code 26 = .ok (.ireturn, 1) := by decide +kernel
theorem d_M_forecastWakes_27 : decode prog_10_method_69_code 27 = .ok (.aload_n 0, 1) := by decide +kernel
theorem d_M_forecastWakes_28 : decode prog_10_method_69_code 28 = .ok (.invokevirtual 194, 3) := by decide +kernel
theorem d_M_forecastWakes_31 : decode prog_10_method_69_code 31 = .ok (.aload_n 0, 1) := by decide +kernel
theorem d_M_forecastWakes_32 : decode prog_10_method_69_code 32 = .ok (.getfield 7, 3) := by decide +kernel
theorem d_M_forecastWakes_35 : decode prog_10_method_69_code 35 = .ok (.bipush 7, 2) := by decide +kernel
theorem d_M_forecastWakes_37 : decode prog_10_method_69_code 37 = .ok (.iload_n 2, 1) := by decide +kernel
theorem d_M_forecastWakes_38 : decode prog_10_method_69_code 38 = .ok (.iadd, 1) := by decide +kernel
theorem d_M_forecastWakes_39 : decode prog_10_method_69_code 39 = .ok (.iaload, 1) := by decide +kernel
theorem d_M_forecastWakes_40 : decode prog_10_method_69_code 40 = .ok (.istore_n 3, 1) := by decide +kernel
theorem d_M_forecastWakes_41 : decode prog_10_method_69_code 41 = .ok (.aload_n 0, 1) := by decide +kernel
theorem d_M_forecastWakes_42 : decode prog_10_method_69_code 42 = .ok (.iload_n 1, 1) := by decide +kernel
theorem d_M_forecastWakes_43 : decode prog_10_method_69_code 43 = .ok (.invokevirtual 206, 3) := by decide +kernel
theorem d_M_forecastWakes_46 : decode prog_10_method_69_code 46 = .ok (.aload_n 0, 1) := by decide +kernel
theorem d_M_forecastWakes_47 : decode prog_10_method_69_code 47 = .ok (.getfield 7, 3) := by decide +kernel
theorem d_M_forecastWakes_50 : decode prog_10_method_69_code 50 = .ok (.bipush 7, 2) := by decide +kernel
theorem d_M_forecastWakes_52 : decode prog_10_method_69_code 52 = .ok (.iload_n 2, 1) := by decide +kernel
theorem d_M_forecastWakes_53 : decode prog_10_method_69_code 53 = .ok (.iadd, 1) := by decide +kernel
theorem d_M_forecastWakes_54 : decode prog_10_method_69_code 54 = .ok (.iaload, 1) := by decide +kernel
theorem d_M_forecastWakes_55 : decode prog_10_method_69_code 55 = .ok (.istore 4, 2) := by decide +kernel
theorem d_M_forecastWakes_57 : decode prog_10_method_69_code 57 = .ok (.aload_n 0, 1) := by decide +kernel
theorem d_M_forecastWakes_58 : decode prog_10_method_69_code 58 = .ok (.invokevirtual 200, 3) := by decide +kernel
theorem d_M_forecastWakes_61 : decode prog_10_method_69_code 61 = .ok (.iload 4, 2) := by decide +kernel
theorem d_M_forecastWakes_63 : decode prog_10_method_69_code 63 = .ok (.iload_n 3, 1) := by decide +kernel
theorem d_M_forecastWakes_64 : decode prog_10_method_69_code 64 = .ok (.isub, 1) := by decide +kernel
theorem d_M_forecastWakes_65 : decode prog_10_method_69_code 65 = .ok (.ireturn, 1) := by decide +kernel
def f_M_forecastWakes (q : Nat) (p1 : Int32) (p2 : Int32) (σ : Mem) : Option (Int32 × Mem) :=
  lt (wr σ q 0 (0 : Int32)) fun σ1 =>
  bd (f_M_in p1 (1 : Int32) (500 : Int32) σ1) fun r2 σ3 =>
  if r2 = 0 then
    some ((-1 : Int32), σ3)
  else
    bd (f_M_in p2 (0 : Int32) (1 : Int32) σ3) fun r4 σ5 =>
    if r4 = 0 then
      some ((-1 : Int32), σ5)
    else
      bd (f_M_hold q σ5) fun _ σ7 =>
      if ib ((7 : Int32) + p2) 481 then
        lt (σ7 (q + 1) ((7 : Int32) + p2).toNatClampNeg) fun v8 =>
        bd (f_M_pass q p1 σ7) fun _ σ10 =>
        if ib ((7 : Int32) + p2) 481 then
          lt (σ10 (q + 1) ((7 : Int32) + p2).toNatClampNeg) fun v11 =>
          bd (f_M_release q σ10) fun _ σ13 =>
          some (v11 - v8, σ13)
        else none
      else none
set_option maxRecDepth 100000 in
set_option maxHeartbeats 4000000 in
theorem c_M_forecastWakes {X : CX} (l : Launch) (q : Nat) (p1 : Int32) (p2 : Int32) (hq : ModelOK X q) (σ : Mem) : CT X l y_M_forecastWakes prog_10_method_69_code 5 (some .int) 6 vI [.ref (xa X q), .int p1, .int p2] σ (f_M_forecastWakes q p1 p2 σ) := by
  refine CT_of (by decide +kernel) (Nat.le_of_ble_eq_true rfl) ?_
  intro p e s m args below meth c F hlk hr
  have F : FR p s m args c prog_10_method_69_code 5 "SensorHubModel" X := F
  show G X p l e (rmD 6) s m args below meth c 5 0 0 (QI X below args s vI) 0 [(0, .ref (xa X q)), (1, .int p1), (2, .int p2)] [] σ _
  unfold f_M_forecastWakes
  refine g_aload_n F d_M_forecastWakes_0 0 rfl ?_
  refine g_iconst F (v := 0) d_M_forecastWakes_1 (by decide) ?_
  refine g_putI F fw_8_35 hq.1 rfl d_M_forecastWakes_2 ?_
  refine g_ltM (fun σ1 _ => ?_)
  refine g_iload_n F d_M_forecastWakes_5 1 rfl ?_
  refine g_iconst F (v := 1) d_M_forecastWakes_6 (by decide) ?_
  refine g_sipush F (v := 500) d_M_forecastWakes_7 (by decide) ?_
  refine g_callS F (dp := 0) (As := [.int p1, .int (1 : Int32), .int (500 : Int32)]) (c_M_in l _ _ _ _) cs_8_42 rfl rfl (Nat.le_of_ble_eq_true rfl) ⟨Nat.le_of_ble_eq_true rfl, Nat.le_of_ble_eq_true rfl⟩ ⟨Nat.zero_le _, Nat.zero_le _⟩ d_M_forecastWakes_10 (fun r2 σ3 h1 => ?_)
  refine g_if_eq F (tgt := 25) d_M_forecastWakes_13 (by decide) (fun h2 => ?_) (fun h3 => ?_)
  · refine g_iconst F (v := (-1)) d_M_forecastWakes_25 (by decide) ?_
    exact g_iret F hlk hr d_M_forecastWakes_26
  refine g_iload_n F d_M_forecastWakes_16 2 rfl ?_
  refine g_iconst F (v := 0) d_M_forecastWakes_17 (by decide) ?_
  refine g_iconst F (v := 1) d_M_forecastWakes_18 (by decide) ?_
  refine g_callS F (dp := 0) (As := [.int p2, .int (0 : Int32), .int (1 : Int32)]) (c_M_in l _ _ _ _) cs_8_42 rfl rfl (Nat.le_of_ble_eq_true rfl) ⟨Nat.le_of_ble_eq_true rfl, Nat.le_of_ble_eq_true rfl⟩ ⟨Nat.zero_le _, Nat.zero_le _⟩ d_M_forecastWakes_19 (fun r4 σ5 h4 => ?_)
  refine g_if_ne F (tgt := 27) d_M_forecastWakes_22 (by decide) (fun h5 => ?_) (fun h6 => ?_)
  · refine g_iconst F (v := (-1)) d_M_forecastWakes_25 (by decide) ?_
    exact g_iret F hlk hr d_M_forecastWakes_26
  refine g_aload_n F d_M_forecastWakes_27 0 rfl ?_
  refine g_callV F (dp := 0) (ci := 8) (As := []) (c_M_hold l _ hq _) cv_8_194 hq.1 rfl rfl rfl (Nat.le_of_ble_eq_true rfl) ⟨Nat.le_of_ble_eq_true rfl, Nat.le_of_ble_eq_true rfl⟩ ⟨Nat.zero_le _, Nat.zero_le _⟩ d_M_forecastWakes_28 (fun _ σ7 h7 => ?_)
  refine g_aload_n F d_M_forecastWakes_31 0 rfl ?_
  refine g_getR F fs_8_7 hq.1 rfl d_M_forecastWakes_32 ?_
  refine g_bipush F (v := 7) d_M_forecastWakes_35 (by decide) ?_
  refine g_iload_n F d_M_forecastWakes_37 2 rfl ?_
  refine g_iadd F d_M_forecastWakes_38 ?_
  refine g_iald F (n := 481) hq.2.1 d_M_forecastWakes_39 ?_
  refine g_ltI (fun v8 _ => ?_)
  refine g_istore_n F (ls' := [(3, .int v8), (0, .ref (xa X q)), (1, .int p1), (2, .int p2)]) d_M_forecastWakes_40 (by decide) rfl ?_
  refine g_aload_n F d_M_forecastWakes_41 1 rfl ?_
  refine g_iload_n F d_M_forecastWakes_42 2 rfl ?_
  refine g_callV F (dp := 5) (ci := 8) (As := [.int p1]) (c_M_pass l _ _ hq _) cv_8_206 hq.1 rfl rfl rfl (Nat.le_of_ble_eq_true rfl) ⟨Nat.le_of_ble_eq_true rfl, Nat.le_of_ble_eq_true rfl⟩ ⟨Nat.zero_le _, Nat.zero_le _⟩ d_M_forecastWakes_43 (fun _ σ10 h8 => ?_)
  refine g_aload_n F d_M_forecastWakes_46 1 rfl ?_
  refine g_getR F fs_8_7 hq.1 rfl d_M_forecastWakes_47 ?_
  refine g_bipush F (v := 7) d_M_forecastWakes_50 (by decide) ?_
  refine g_iload_n F d_M_forecastWakes_52 3 rfl ?_
  refine g_iadd F d_M_forecastWakes_53 ?_
  refine g_iald F (n := 481) hq.2.1 d_M_forecastWakes_54 ?_
  refine g_ltI (fun v11 _ => ?_)
  refine g_istore F (ls' := [(4, .int v11), (3, .int v8), (0, .ref (xa X q)), (1, .int p1), (2, .int p2)]) d_M_forecastWakes_55 (by decide) rfl ?_
  refine g_aload_n F d_M_forecastWakes_57 2 rfl ?_
  refine g_callV F (dp := 0) (ci := 8) (As := []) (c_M_release l _ hq _) cv_8_200 hq.1 rfl rfl rfl (Nat.le_of_ble_eq_true rfl) ⟨Nat.le_of_ble_eq_true rfl, Nat.le_of_ble_eq_true rfl⟩ ⟨Nat.zero_le _, Nat.zero_le _⟩ d_M_forecastWakes_58 (fun _ σ13 h9 => ?_)
  refine g_iload F d_M_forecastWakes_61 0 rfl ?_
  refine g_iload_n F d_M_forecastWakes_63 1 rfl ?_
  refine g_isub F d_M_forecastWakes_64 ?_
  exact g_iret F hlk hr d_M_forecastWakes_65
def y_M_smallestCapacity : MethodName := ⟨"SensorHubModel", "smallestCapacity", "(I)I"⟩
theorem d_M_smallestCapacity_0 : decode prog_10_method_70_code 0 = .ok (.aload_n 0, 1) := by decide +kernel
theorem d_M_smallestCapacity_1 : decode prog_10_method_70_code 1 = .ok (.iconst 0, 1) := by decide +kernel
theorem d_M_smallestCapacity_2 : decode prog_10_method_70_code 2 = .ok (.putfield 35, 3) := by decide +kernel
theorem d_M_smallestCapacity_5 : decode prog_10_method_70_code 5 = .ok (.iload_n 1, 1) := by decide +kernel
theorem d_M_smallestCapacity_6 : decode prog_10_method_70_code 6 = .ok (.iconst 1, 1) := by decide +kernel
theorem d_M_smallestCapacity_7 : decode prog_10_method_70_code 7 = .ok (.sipush 500, 3) := by decide +kernel
theorem d_M_smallestCapacity_10 : decode prog_10_method_70_code 10 = .ok (.invokestatic 42, 3) := by decide +kernel
theorem d_M_smallestCapacity_13 : decode prog_10_method_70_code 13 = .ok (.ifCond .ne 5, 3) := by decide +kernel
theorem d_M_smallestCapacity_16 : decode prog_10_method_70_code 16 = .ok (.iconst (-1), 1) := by decide +kernel
theorem d_M_smallestCapacity_17 : decode prog_10_method_70_code 17 = .ok (.ireturn, 1) := by decide +kernel
theorem d_M_smallestCapacity_18 : decode prog_10_method_70_code 18 = .ok (.aload_n 0, 1) := by decide +kernel
theorem d_M_smallestCapacity_19 : decode prog_10_method_70_code 19 = .ok (.invokevirtual 194, 3) := by decide +kernel
theorem d_M_smallestCapacity_22 : decode prog_10_method_70_code 22 = .ok (.bipush (-9), 2) := by decide +kernel
theorem d_M_smallestCapacity_24 : decode prog_10_method_70_code 24 = .ok (.istore_n 2, 1) := by decide +kernel
theorem d_M_smallestCapacity_25 : decode prog_10_method_70_code 25 = .ok (.iconst 1, 1) := by decide +kernel
theorem d_M_smallestCapacity_26 : decode prog_10_method_70_code 26 = .ok (.istore_n 3, 1) := by decide +kernel
theorem d_M_smallestCapacity_27 : decode prog_10_method_70_code 27 = .ok (.iload_n 3, 1) := by decide +kernel
theorem d_M_smallestCapacity_28 : decode prog_10_method_70_code 28 = .ok (.bipush 30, 2) := by decide +kernel
theorem d_M_smallestCapacity_30 : decode prog_10_method_70_code 30 = .ok (.if_icmp .gt 59, 3) := by decide +kernel
theorem d_M_smallestCapacity_33 : decode prog_10_method_70_code 33 = .ok (.iload_n 2, 1) := by decide +kernel
theorem d_M_smallestCapacity_34 : decode prog_10_method_70_code 34 = .ok (.bipush (-9), 2) := by decide +kernel
theorem d_M_smallestCapacity_36 : decode prog_10_method_70_code 36 = .ok (.if_icmp .ne 53, 3) := by decide +kernel
theorem d_M_smallestCapacity_39 : decode prog_10_method_70_code 39 = .ok (.aload_n 0, 1) := by decide +kernel
theorem d_M_smallestCapacity_40 : decode prog_10_method_70_code 40 = .ok (.getfield 7, 3) := by decide +kernel
theorem d_M_smallestCapacity_43 : decode prog_10_method_70_code 43 = .ok (.iconst 4, 1) := by decide +kernel
theorem d_M_smallestCapacity_44 : decode prog_10_method_70_code 44 = .ok (.iload_n 3, 1) := by decide +kernel
theorem d_M_smallestCapacity_45 : decode prog_10_method_70_code 45 = .ok (.iastore, 1) := by decide +kernel
theorem d_M_smallestCapacity_46 : decode prog_10_method_70_code 46 = .ok (.aload_n 0, 1) := by decide +kernel
theorem d_M_smallestCapacity_47 : decode prog_10_method_70_code 47 = .ok (.getfield 7, 3) := by decide +kernel
theorem d_M_smallestCapacity_50 : decode prog_10_method_70_code 50 = .ok (.bipush 8, 2) := by decide +kernel
theorem d_M_smallestCapacity_52 : decode prog_10_method_70_code 52 = .ok (.iaload, 1) := by decide +kernel
theorem d_M_smallestCapacity_53 : decode prog_10_method_70_code 53 = .ok (.istore 4, 2) := by decide +kernel
theorem d_M_smallestCapacity_55 : decode prog_10_method_70_code 55 = .ok (.aload_n 0, 1) := by decide +kernel
theorem d_M_smallestCapacity_56 : decode prog_10_method_70_code 56 = .ok (.iload_n 1, 1) := by decide +kernel
theorem d_M_smallestCapacity_57 : decode prog_10_method_70_code 57 = .ok (.invokevirtual 206, 3) := by decide +kernel
theorem d_M_smallestCapacity_60 : decode prog_10_method_70_code 60 = .ok (.aload_n 0, 1) := by decide +kernel
theorem d_M_smallestCapacity_61 : decode prog_10_method_70_code 61 = .ok (.getfield 7, 3) := by decide +kernel
theorem d_M_smallestCapacity_64 : decode prog_10_method_70_code 64 = .ok (.bipush 8, 2) := by decide +kernel
theorem d_M_smallestCapacity_66 : decode prog_10_method_70_code 66 = .ok (.iaload, 1) := by decide +kernel
theorem d_M_smallestCapacity_67 : decode prog_10_method_70_code 67 = .ok (.iload 4, 2) := by decide +kernel
theorem d_M_smallestCapacity_69 : decode prog_10_method_70_code 69 = .ok (.if_icmp .ne 7, 3) := by decide +kernel
theorem d_M_smallestCapacity_72 : decode prog_10_method_70_code 72 = .ok (.iload_n 3, 1) := by decide +kernel
theorem d_M_smallestCapacity_73 : decode prog_10_method_70_code 73 = .ok (.goto 5, 3) := by decide +kernel
theorem d_M_smallestCapacity_76 : decode prog_10_method_70_code 76 = .ok (.bipush (-9), 2) := by decide +kernel
theorem d_M_smallestCapacity_78 : decode prog_10_method_70_code 78 = .ok (.istore_n 2, 1) := by decide +kernel
theorem d_M_smallestCapacity_79 : decode prog_10_method_70_code 79 = .ok (.aload_n 0, 1) := by decide +kernel
theorem d_M_smallestCapacity_80 : decode prog_10_method_70_code 80 = .ok (.invokevirtual 200, 3) := by decide +kernel
theorem d_M_smallestCapacity_83 : decode prog_10_method_70_code 83 = .ok (.iinc 3 1, 3) := by decide +kernel
theorem d_M_smallestCapacity_86 : decode prog_10_method_70_code 86 = .ok (.goto (-59), 3) := by decide +kernel
theorem d_M_smallestCapacity_89 : decode prog_10_method_70_code 89 = .ok (.iload_n 2, 1) := by decide +kernel
theorem d_M_smallestCapacity_90 : decode prog_10_method_70_code 90 = .ok (.ireturn, 1) := by decide +kernel
def L_M_smallestCapacity_27 (r0 : Nat) (y1 : Int32) (k : Int32 → Mem → Option (Int32 × Mem)) : Nat → Int32 → Int32 → Mem → Option (Int32 × Mem)
  | 0, _, _, _ => none
  | n + 1, x2, x3, σ =>
    if (30 : Int32) < x3 then
      k x2 σ
    else
      if x2 = (-9 : Int32) then
        lt (wr σ (r0 + 1) 4 x3) fun σ6 =>
        lt (σ6 (r0 + 1) 8) fun v7 =>
        bd (f_M_pass r0 y1 σ6) fun _ σ9 =>
        if (σ9 (r0 + 1) 8) = v7 then
          bd (f_M_release r0 σ9) fun _ σ11 =>
          L_M_smallestCapacity_27 r0 y1 k n x3 (x3 + 1) σ11
        else
          bd (f_M_release r0 σ9) fun _ σ13 =>
          L_M_smallestCapacity_27 r0 y1 k n (-9 : Int32) (x3 + 1) σ13
      else
        k x2 σ
def f_M_smallestCapacity (q : Nat) (p1 : Int32) (σ : Mem) : Option (Int32 × Mem) :=
  lt (wr σ q 0 (0 : Int32)) fun σ1 =>
  bd (f_M_in p1 (1 : Int32) (500 : Int32) σ1) fun r2 σ3 =>
  if r2 = 0 then
    some ((-1 : Int32), σ3)
  else
    bd (f_M_hold q σ3) fun _ σ5 =>
    L_M_smallestCapacity_27 q p1 (fun z14 σ15 =>
      some (z14, σ15)) FU (-9 : Int32) (1 : Int32) σ5
set_option maxRecDepth 100000 in
set_option maxHeartbeats 4000000 in
theorem l_L_M_smallestCapacity_27 {X : CX} {p : Program} {l : Launch} {e : Env} {s : State} {m : MethodId} {args : Array Value} {below : List Frame} {meth : Method} {c : Code} (F : FR p s m args c prog_10_method_70_code 5 "SensorHubModel" X) (hlk : meth.locks = false) (hr : meth.sig.returnType = some .int) (r0 : Nat) (y1 : Int32) (hr0 : ModelOK X r0) (k : Int32 → Mem → Option (Int32 × Mem)) (hk : ∀ (x2 : Int32) (σ : Mem), G X p l e (rmD 6) s m args below meth c 5 0 0 (QI X below args s vI) 89 [(2, .int x2)] [] σ (k x2 σ)) : ∀ (n : Nat) (x2 : Int32) (x3 : Int32) (σ : Mem), G X p l e (rmD 6) s m args below meth c 5 0 0 (QI X below args s vI) 27 [(0, .ref (xa X r0)), (1, .int y1), (2, .int x2), (3, .int x3)] [] σ (L_M_smallestCapacity_27 r0 y1 k n x2 x3 σ) := by
  intro n
  induction n with
  | zero => intros; exact g_no
  | succ n ih =>
    intro x2 x3 σ
    unfold L_M_smallestCapacity_27
    refine g_iload_n F d_M_smallestCapacity_27 3 rfl ?_
    refine g_bipush F (v := 30) d_M_smallestCapacity_28 (by decide) ?_
    refine g_icmp_gt F (tgt := 89) d_M_smallestCapacity_30 (by decide) (fun h5 => ?_) (fun h6 => ?_)
    · exact g_sub [2] rfl (hk _ _)
    refine g_iload_n F d_M_smallestCapacity_33 2 rfl ?_
    refine g_bipush F (v := (-9)) d_M_smallestCapacity_34 (by decide) ?_
    refine g_icmp_ne F (tgt := 89) d_M_smallestCapacity_36 (by decide) (fun h7 => ?_) (fun h8 => ?_)
    · refine g_aload_n F d_M_smallestCapacity_39 0 rfl ?_
      refine g_getR F fs_8_7 hr0.1 rfl d_M_smallestCapacity_40 ?_
      refine g_iconst F (v := 4) d_M_smallestCapacity_43 (by decide) ?_
      refine g_iload_n F d_M_smallestCapacity_44 3 rfl ?_
      refine g_iastC F (n := 481) 4 (by decide) (by decide) hr0.2.1 d_M_smallestCapacity_45 ?_
      refine g_ltM (fun σ6 _ => ?_)
      refine g_aload_n F d_M_smallestCapacity_46 0 rfl ?_
      refine g_getR F fs_8_7 hr0.1 rfl d_M_smallestCapacity_47 ?_
      refine g_bipush F (v := 8) d_M_smallestCapacity_50 (by decide) ?_
      refine g_ialdC F (n := 481) 8 (by decide) (by decide) hr0.2.1 d_M_smallestCapacity_52 ?_
      refine g_ltI (fun v7 _ => ?_)
      refine g_istore F (ls' := [(4, .int v7), (0, .ref (xa X r0)), (1, .int y1), (2, .int x2), (3, .int x3)]) d_M_smallestCapacity_53 (by decide) rfl ?_
      refine g_aload_n F d_M_smallestCapacity_55 1 rfl ?_
      refine g_iload_n F d_M_smallestCapacity_56 2 rfl ?_
      refine g_callV F (dp := 5) (ci := 8) (As := [.int y1]) (c_M_pass l _ _ hr0 _) cv_8_206 hr0.1 rfl rfl rfl (Nat.le_of_ble_eq_true rfl) ⟨Nat.le_of_ble_eq_true rfl, Nat.le_of_ble_eq_true rfl⟩ ⟨Nat.zero_le _, Nat.zero_le _⟩ d_M_smallestCapacity_57 (fun _ σ9 h9 => ?_)
      refine g_aload_n F d_M_smallestCapacity_60 1 rfl ?_
      refine g_getR F fs_8_7 hr0.1 rfl d_M_smallestCapacity_61 ?_
      refine g_bipush F (v := 8) d_M_smallestCapacity_64 (by decide) ?_
      refine g_ialdC F (n := 481) 8 (by decide) (by decide) hr0.2.1 d_M_smallestCapacity_66 ?_
      refine g_iload F d_M_smallestCapacity_67 0 rfl ?_
      refine g_icmp_ne F (tgt := 76) d_M_smallestCapacity_69 (by decide) (fun h10 => ?_) (fun h11 => ?_)
      · refine g_iload_n F d_M_smallestCapacity_72 4 rfl ?_
        refine g_goto F (tgt := 78) d_M_smallestCapacity_73 (by decide) ?_
        refine g_istore_n F (ls' := [(2, .int x3), (4, .int v7), (0, .ref (xa X r0)), (1, .int y1), (3, .int x3)]) d_M_smallestCapacity_78 (by decide) rfl ?_
        refine g_aload_n F d_M_smallestCapacity_79 2 rfl ?_
        refine g_callV F (dp := 0) (ci := 8) (As := []) (c_M_release l _ hr0 _) cv_8_200 hr0.1 rfl rfl rfl (Nat.le_of_ble_eq_true rfl) ⟨Nat.le_of_ble_eq_true rfl, Nat.le_of_ble_eq_true rfl⟩ ⟨Nat.zero_le _, Nat.zero_le _⟩ d_M_smallestCapacity_80 (fun _ σ11 h12 => ?_)
        refine g_iinc F (v := 1) (ls' := [(3, .int (x3 + 1)), (2, .int x3), (4, .int v7), (0, .ref (xa X r0)), (1, .int y1)]) d_M_smallestCapacity_83 4 rfl (by decide) (by decide) rfl ?_
        refine g_goto F (tgt := 27) d_M_smallestCapacity_86 (by decide) ?_
        exact g_sub [3, 4, 1, 0] rfl (ih _ _ _)
      refine g_bipush F (v := (-9)) d_M_smallestCapacity_76 (by decide) ?_
      refine g_istore_n F (ls' := [(2, .int (-9 : Int32)), (4, .int v7), (0, .ref (xa X r0)), (1, .int y1), (3, .int x3)]) d_M_smallestCapacity_78 (by decide) rfl ?_
      refine g_aload_n F d_M_smallestCapacity_79 2 rfl ?_
      refine g_callV F (dp := 0) (ci := 8) (As := []) (c_M_release l _ hr0 _) cv_8_200 hr0.1 rfl rfl rfl (Nat.le_of_ble_eq_true rfl) ⟨Nat.le_of_ble_eq_true rfl, Nat.le_of_ble_eq_true rfl⟩ ⟨Nat.zero_le _, Nat.zero_le _⟩ d_M_smallestCapacity_80 (fun _ σ13 h13 => ?_)
      refine g_iinc F (v := 1) (ls' := [(3, .int (x3 + 1)), (2, .int (-9 : Int32)), (4, .int v7), (0, .ref (xa X r0)), (1, .int y1)]) d_M_smallestCapacity_83 4 rfl (by decide) (by decide) rfl ?_
      refine g_goto F (tgt := 27) d_M_smallestCapacity_86 (by decide) ?_
      exact g_sub [3, 4, 1, 0] rfl (ih _ _ _)
    exact g_sub [2] rfl (hk _ _)
set_option maxRecDepth 100000 in
set_option maxHeartbeats 4000000 in
theorem c_M_smallestCapacity {X : CX} (l : Launch) (q : Nat) (p1 : Int32) (hq : ModelOK X q) (σ : Mem) : CT X l y_M_smallestCapacity prog_10_method_70_code 5 (some .int) 6 vI [.ref (xa X q), .int p1] σ (f_M_smallestCapacity q p1 σ) := by
  refine CT_of (by decide +kernel) (Nat.le_of_ble_eq_true rfl) ?_
  intro p e s m args below meth c F hlk hr
  have F : FR p s m args c prog_10_method_70_code 5 "SensorHubModel" X := F
  show G X p l e (rmD 6) s m args below meth c 5 0 0 (QI X below args s vI) 0 [(0, .ref (xa X q)), (1, .int p1)] [] σ _
  unfold f_M_smallestCapacity
  refine g_aload_n F d_M_smallestCapacity_0 0 rfl ?_
  refine g_iconst F (v := 0) d_M_smallestCapacity_1 (by decide) ?_
  refine g_putI F fw_8_35 hq.1 rfl d_M_smallestCapacity_2 ?_
  refine g_ltM (fun σ1 _ => ?_)
  refine g_iload_n F d_M_smallestCapacity_5 1 rfl ?_
  refine g_iconst F (v := 1) d_M_smallestCapacity_6 (by decide) ?_
  refine g_sipush F (v := 500) d_M_smallestCapacity_7 (by decide) ?_
  refine g_callS F (dp := 0) (As := [.int p1, .int (1 : Int32), .int (500 : Int32)]) (c_M_in l _ _ _ _) cs_8_42 rfl rfl (Nat.le_of_ble_eq_true rfl) ⟨Nat.le_of_ble_eq_true rfl, Nat.le_of_ble_eq_true rfl⟩ ⟨Nat.zero_le _, Nat.zero_le _⟩ d_M_smallestCapacity_10 (fun r2 σ3 h1 => ?_)
  refine g_if_ne F (tgt := 18) d_M_smallestCapacity_13 (by decide) (fun h2 => ?_) (fun h3 => ?_)
  · refine g_iconst F (v := (-1)) d_M_smallestCapacity_16 (by decide) ?_
    exact g_iret F hlk hr d_M_smallestCapacity_17
  refine g_aload_n F d_M_smallestCapacity_18 0 rfl ?_
  refine g_callV F (dp := 0) (ci := 8) (As := []) (c_M_hold l _ hq _) cv_8_194 hq.1 rfl rfl rfl (Nat.le_of_ble_eq_true rfl) ⟨Nat.le_of_ble_eq_true rfl, Nat.le_of_ble_eq_true rfl⟩ ⟨Nat.zero_le _, Nat.zero_le _⟩ d_M_smallestCapacity_19 (fun _ σ5 h4 => ?_)
  refine g_bipush F (v := (-9)) d_M_smallestCapacity_22 (by decide) ?_
  refine g_istore_n F (ls' := [(2, .int (-9 : Int32)), (0, .ref (xa X q)), (1, .int p1)]) d_M_smallestCapacity_24 (by decide) rfl ?_
  refine g_iconst F (v := 1) d_M_smallestCapacity_25 (by decide) ?_
  refine g_istore_n F (ls' := [(3, .int (1 : Int32)), (2, .int (-9 : Int32)), (0, .ref (xa X q)), (1, .int p1)]) d_M_smallestCapacity_26 (by decide) rfl ?_
  refine g_sub [2, 3, 1, 0] rfl (l_L_M_smallestCapacity_27 F hlk hr _ _ hq _ (fun z14 σ15 => ?_) FU _ _ _)
  refine g_iload_n F d_M_smallestCapacity_89 0 rfl ?_
  exact g_iret F hlk hr d_M_smallestCapacity_90
def y_M_tightestClient : MethodName := ⟨"SensorHubModel", "tightestClient", "(I)I"⟩
theorem d_M_tightestClient_0 : decode prog_10_method_71_code 0 = .ok (.aload_n 0, 1) := by decide +kernel
theorem d_M_tightestClient_1 : decode prog_10_method_71_code 1 = .ok (.iconst 0, 1) := by decide +kernel
theorem d_M_tightestClient_2 : decode prog_10_method_71_code 2 = .ok (.putfield 35, 3) := by decide +kernel
theorem d_M_tightestClient_5 : decode prog_10_method_71_code 5 = .ok (.iload_n 1, 1) := by decide +kernel
theorem d_M_tightestClient_6 : decode prog_10_method_71_code 6 = .ok (.iconst 1, 1) := by decide +kernel
theorem d_M_tightestClient_7 : decode prog_10_method_71_code 7 = .ok (.sipush 500, 3) := by decide +kernel
theorem d_M_tightestClient_10 : decode prog_10_method_71_code 10 = .ok (.invokestatic 42, 3) := by decide +kernel
theorem d_M_tightestClient_13 : decode prog_10_method_71_code 13 = .ok (.ifCond .ne 5, 3) := by decide +kernel
theorem d_M_tightestClient_16 : decode prog_10_method_71_code 16 = .ok (.iconst (-1), 1) := by decide +kernel
theorem d_M_tightestClient_17 : decode prog_10_method_71_code 17 = .ok (.ireturn, 1) := by decide +kernel
theorem d_M_tightestClient_18 : decode prog_10_method_71_code 18 = .ok (.aload_n 0, 1) := by decide +kernel
theorem d_M_tightestClient_19 : decode prog_10_method_71_code 19 = .ok (.invokevirtual 194, 3) := by decide +kernel
theorem d_M_tightestClient_22 : decode prog_10_method_71_code 22 = .ok (.aload_n 0, 1) := by decide +kernel
theorem d_M_tightestClient_23 : decode prog_10_method_71_code 23 = .ok (.invokevirtual 203, 3) := by decide +kernel
theorem d_M_tightestClient_26 : decode prog_10_method_71_code 26 = .ok (.istore_n 2, 1) := by decide +kernel
theorem d_M_tightestClient_27 : decode prog_10_method_71_code 27 = .ok (.aload_n 0, 1) := by decide +kernel
theorem d_M_tightestClient_28 : decode prog_10_method_71_code 28 = .ok (.iload_n 1, 1) := by decide +kernel
theorem d_M_tightestClient_29 : decode prog_10_method_71_code 29 = .ok (.invokevirtual 206, 3) := by decide +kernel
theorem d_M_tightestClient_32 : decode prog_10_method_71_code 32 = .ok (.aload_n 0, 1) := by decide +kernel
theorem d_M_tightestClient_33 : decode prog_10_method_71_code 33 = .ok (.invokevirtual 203, 3) := by decide +kernel
theorem d_M_tightestClient_36 : decode prog_10_method_71_code 36 = .ok (.iload_n 2, 1) := by decide +kernel
theorem d_M_tightestClient_37 : decode prog_10_method_71_code 37 = .ok (.isub, 1) := by decide +kernel
theorem d_M_tightestClient_38 : decode prog_10_method_71_code 38 = .ok (.istore_n 3, 1) := by decide +kernel
theorem d_M_tightestClient_39 : decode prog_10_method_71_code 39 = .ok (.aload_n 0, 1) := by decide +kernel
theorem d_M_tightestClient_40 : decode prog_10_method_71_code 40 = .ok (.invokevirtual 200, 3) := by decide +kernel
theorem d_M_tightestClient_43 : decode prog_10_method_71_code 43 = .ok (.bipush (-9), 2) := by decide +kernel
theorem d_M_tightestClient_45 : decode prog_10_method_71_code 45 = .ok (.istore 4, 2) := by decide +kernel
theorem d_M_tightestClient_47 : decode prog_10_method_71_code 47 = .ok (.iconst 0, 1) := by decide +kernel
theorem d_M_tightestClient_48 : decode prog_10_method_71_code 48 = .ok (.istore 5, 2) := by decide +kernel
theorem d_M_tightestClient_50 : decode prog_10_method_71_code 50 = .ok (.iload 5, 2) := by decide +kernel
theorem d_M_tightestClient_52 : decode prog_10_method_71_code 52 = .ok (.bipush 8, 2) := by decide +kernel
theorem d_M_tightestClient_54 : decode prog_10_method_71_code 54 = .ok (.if_icmp .ge 84, 3) := by decide +kernel
theorem d_M_tightestClient_57 : decode prog_10_method_71_code 57 = .ok (.aload_n 0, 1) := by decide +kernel
theorem d_M_tightestClient_58 : decode prog_10_method_71_code 58 = .ok (.iload 5, 2) := by decide +kernel
theorem d_M_tightestClient_60 : decode prog_10_method_71_code 60 = .ok (.iconst 0, 1) := by decide +kernel
theorem d_M_tightestClient_61 : decode prog_10_method_71_code 61 = .ok (.invokevirtual 46, 3) := by decide +kernel
theorem d_M_tightestClient_64 : decode prog_10_method_71_code 64 = .ok (.iconst 1, 1) := by decide +kernel
theorem d_M_tightestClient_65 : decode prog_10_method_71_code 65 = .ok (.if_icmp .ne 67, 3) := by decide +kernel
theorem d_M_tightestClient_68 : decode prog_10_method_71_code 68 = .ok (.aload_n 0, 1) := by decide +kernel
theorem d_M_tightestClient_69 : decode prog_10_method_71_code 69 = .ok (.getfield 7, 3) := by decide +kernel
theorem d_M_tightestClient_72 : decode prog_10_method_71_code 72 = .ok (.sipush 163, 3) := by decide +kernel
theorem d_M_tightestClient_75 : decode prog_10_method_71_code 75 = .ok (.bipush 27, 2) := by decide +kernel
theorem d_M_tightestClient_77 : decode prog_10_method_71_code 77 = .ok (.iload 5, 2) := by decide +kernel
theorem d_M_tightestClient_79 : decode prog_10_method_71_code 79 = .ok (.imul, 1) := by decide +kernel
theorem d_M_tightestClient_80 : decode prog_10_method_71_code 80 = .ok (.iadd, 1) := by decide +kernel
theorem d_M_tightestClient_81 : decode prog_10_method_71_code 81 = .ok (.iconst 3, 1) := by decide +kernel
theorem d_M_tightestClient_82 : decode prog_10_method_71_code 82 = .ok (.iadd, 1) := by decide +kernel
theorem d_M_tightestClient_83 : decode prog_10_method_71_code 83 = .ok (.sipush 400, 3) := by decide +kernel
theorem d_M_tightestClient_86 : decode prog_10_method_71_code 86 = .ok (.iastore, 1) := by decide +kernel
theorem d_M_tightestClient_87 : decode prog_10_method_71_code 87 = .ok (.aload_n 0, 1) := by decide +kernel
theorem d_M_tightestClient_88 : decode prog_10_method_71_code 88 = .ok (.iload_n 1, 1) := by decide +kernel
theorem d_M_tightestClient_89 : decode prog_10_method_71_code 89 = .ok (.invokevirtual 206, 3) := by decide +kernel
theorem d_M_tightestClient_92 : decode prog_10_method_71_code 92 = .ok (.aload_n 0, 1) := by decide +kernel
theorem d_M_tightestClient_93 : decode prog_10_method_71_code 93 = .ok (.invokevirtual 203, 3) := by decide +kernel
theorem d_M_tightestClient_96 : decode prog_10_method_71_code 96 = .ok (.iload_n 2, 1) := by decide +kernel
theorem d_M_tightestClient_97 : decode prog_10_method_71_code 97 = .ok (.isub, 1) := by decide +kernel
theorem d_M_tightestClient_98 : decode prog_10_method_71_code 98 = .ok (.istore 6, 2) := by decide +kernel
theorem d_M_tightestClient_100 : decode prog_10_method_71_code 100 = .ok (.aload_n 0, 1) := by decide +kernel
theorem d_M_tightestClient_101 : decode prog_10_method_71_code 101 = .ok (.invokevirtual 200, 3) := by decide +kernel
theorem d_M_tightestClient_104 : decode prog_10_method_71_code 104 = .ok (.iload 6, 2) := by decide +kernel
theorem d_M_tightestClient_106 : decode prog_10_method_71_code 106 = .ok (.iload_n 3, 1) := by decide +kernel
theorem d_M_tightestClient_107 : decode prog_10_method_71_code 107 = .ok (.if_icmp .ge 8, 3) := by decide +kernel
theorem d_M_tightestClient_110 : decode prog_10_method_71_code 110 = .ok (.iload 5, 2) := by decide +kernel
theorem d_M_tightestClient_112 : decode prog_10_method_71_code 112 = .ok (.goto 5, 3) := by decide +kernel
theorem d_M_tightestClient_115 : decode prog_10_method_71_code 115 = .ok (.iload 4, 2) := by decide +kernel
theorem d_M_tightestClient_117 : decode prog_10_method_71_code 117 = .ok (.istore 4, 2) := by decide +kernel
theorem d_M_tightestClient_119 : decode prog_10_method_71_code 119 = .ok (.iload 6, 2) := by decide +kernel
theorem d_M_tightestClient_121 : decode prog_10_method_71_code 121 = .ok (.iload_n 3, 1) := by decide +kernel
theorem d_M_tightestClient_122 : decode prog_10_method_71_code 122 = .ok (.if_icmp .ge 8, 3) := by decide +kernel
theorem d_M_tightestClient_125 : decode prog_10_method_71_code 125 = .ok (.iload 6, 2) := by decide +kernel
theorem d_M_tightestClient_127 : decode prog_10_method_71_code 127 = .ok (.goto 4, 3) := by decide +kernel
theorem d_M_tightestClient_130 : decode prog_10_method_71_code 130 = .ok (.iload_n 3, 1) := by decide +kernel
theorem d_M_tightestClient_131 : decode prog_10_method_71_code 131 = .ok (.istore_n 3, 1) := by decide +kernel
theorem d_M_tightestClient_132 : decode prog_10_method_71_code 132 = .ok (.iinc 5 1, 3) := by decide +kernel
theorem d_M_tightestClient_135 : decode prog_10_method_71_code 135 = .ok (.goto (-85), 3) := by decide +kernel
theorem d_M_tightestClient_138 : decode prog_10_method_71_code 138 = .ok (.iload 4, 2) := by decide +kernel
theorem d_M_tightestClient_140 : decode prog_10_method_71_code 140 = .ok (.ireturn, 1) := by decide +kernel
def L_M_tightestClient_50 (r0 : Nat) (y1 : Int32) (y2 : Int32) (k : Int32 → Mem → Option (Int32 × Mem)) : Nat → Int32 → Int32 → Int32 → Mem → Option (Int32 × Mem)
  | 0, _, _, _, _ => none
  | n + 1, x3, x4, x5, σ =>
    if (8 : Int32) ≤ x5 then
      k x4 σ
    else
      bd (f_M_client0 r0 x5 (0 : Int32) σ) fun r15 σ16 =>
      if r15 = (1 : Int32) then
        if ib (((163 : Int32) + ((27 : Int32) * x5)) + (3 : Int32)) 481 then
          lt (wr σ16 (r0 + 1) (((163 : Int32) + ((27 : Int32) * x5)) + (3 : Int32)).toNatClampNeg (400 : Int32)) fun σ17 =>
          bd (f_M_pass r0 y1 σ17) fun _ σ19 =>
          bd (f_M_allWakes r0 σ19) fun r20 σ21 =>
          lt (r20 - y2) fun v22 =>
          bd (f_M_release r0 σ21) fun _ σ24 =>
          if x3 ≤ v22 then if x3 ≤ v22 then L_M_tightestClient_50 r0 y1 y2 k n x3 x4 (x5 + 1) σ24 else L_M_tightestClient_50 r0 y1 y2 k n v22 x4 (x5 + 1) σ24 else if x3 ≤ v22 then L_M_tightestClient_50 r0 y1 y2 k n x3 x5 (x5 + 1) σ24 else L_M_tightestClient_50 r0 y1 y2 k n v22 x5 (x5 + 1) σ24
        else none
      else
        L_M_tightestClient_50 r0 y1 y2 k n x3 x4 (x5 + 1) σ16
def f_M_tightestClient (q : Nat) (p1 : Int32) (σ : Mem) : Option (Int32 × Mem) :=
  lt (wr σ q 0 (0 : Int32)) fun σ1 =>
  bd (f_M_in p1 (1 : Int32) (500 : Int32) σ1) fun r2 σ3 =>
  if r2 = 0 then
    some ((-1 : Int32), σ3)
  else
    bd (f_M_hold q σ3) fun _ σ5 =>
    bd (f_M_allWakes q σ5) fun r6 σ7 =>
    bd (f_M_pass q p1 σ7) fun _ σ9 =>
    bd (f_M_allWakes q σ9) fun r10 σ11 =>
    lt (r10 - r6) fun v12 =>
    bd (f_M_release q σ11) fun _ σ14 =>
    L_M_tightestClient_50 q p1 r6 (fun z25 σ26 =>
      some (z25, σ26)) FU v12 (-9 : Int32) (0 : Int32) σ14
set_option maxRecDepth 100000 in
set_option maxHeartbeats 4000000 in
theorem l_L_M_tightestClient_50 {X : CX} {p : Program} {l : Launch} {e : Env} {s : State} {m : MethodId} {args : Array Value} {below : List Frame} {meth : Method} {c : Code} (F : FR p s m args c prog_10_method_71_code 7 "SensorHubModel" X) (hlk : meth.locks = false) (hr : meth.sig.returnType = some .int) (r0 : Nat) (y1 : Int32) (y2 : Int32) (hr0 : ModelOK X r0) (k : Int32 → Mem → Option (Int32 × Mem)) (hk : ∀ (x4 : Int32) (σ : Mem), G X p l e (rmD 6) s m args below meth c 7 0 0 (QI X below args s vI) 138 [(4, .int x4)] [] σ (k x4 σ)) : ∀ (n : Nat) (x3 : Int32) (x4 : Int32) (x5 : Int32) (σ : Mem), G X p l e (rmD 6) s m args below meth c 7 0 0 (QI X below args s vI) 50 [(0, .ref (xa X r0)), (1, .int y1), (2, .int y2), (3, .int x3), (4, .int x4), (5, .int x5)] [] σ (L_M_tightestClient_50 r0 y1 y2 k n x3 x4 x5 σ) := by
  intro n
  induction n with
  | zero => intros; exact g_no
  | succ n ih =>
    intro x3 x4 x5 σ
    unfold L_M_tightestClient_50
    refine g_iload F d_M_tightestClient_50 5 rfl ?_
    refine g_bipush F (v := 8) d_M_tightestClient_52 (by decide) ?_
    refine g_icmp_ge F (tgt := 138) d_M_tightestClient_54 (by decide) (fun h9 => ?_) (fun h10 => ?_)
    · exact g_sub [4] rfl (hk _ _)
    refine g_aload_n F d_M_tightestClient_57 0 rfl ?_
    refine g_iload F d_M_tightestClient_58 5 rfl ?_
    refine g_iconst F (v := 0) d_M_tightestClient_60 (by decide) ?_
    refine g_callV F (dp := 0) (ci := 8) (As := [.int x5, .int (0 : Int32)]) (c_M_client0 l _ _ _ hr0 _) cv_8_46 hr0.1 rfl rfl rfl (Nat.le_of_ble_eq_true rfl) ⟨Nat.le_of_ble_eq_true rfl, Nat.le_of_ble_eq_true rfl⟩ ⟨Nat.zero_le _, Nat.zero_le _⟩ d_M_tightestClient_61 (fun r15 σ16 h11 => ?_)
    refine g_iconst F (v := 1) d_M_tightestClient_64 (by decide) ?_
    refine g_icmp_ne F (tgt := 132) d_M_tightestClient_65 (by decide) (fun h12 => ?_) (fun h13 => ?_)
    · refine g_aload_n F d_M_tightestClient_68 0 rfl ?_
      refine g_getR F fs_8_7 hr0.1 rfl d_M_tightestClient_69 ?_
      refine g_sipush F (v := 163) d_M_tightestClient_72 (by decide) ?_
      refine g_bipush F (v := 27) d_M_tightestClient_75 (by decide) ?_
      refine g_iload F d_M_tightestClient_77 5 rfl ?_
      refine g_imul F d_M_tightestClient_79 ?_
      refine g_iadd F d_M_tightestClient_80 ?_
      refine g_iconst F (v := 3) d_M_tightestClient_81 (by decide) ?_
      refine g_iadd F d_M_tightestClient_82 ?_
      refine g_sipush F (v := 400) d_M_tightestClient_83 (by decide) ?_
      refine g_iast F (n := 481) hr0.2.1 d_M_tightestClient_86 ?_
      refine g_ltM (fun σ17 _ => ?_)
      refine g_aload_n F d_M_tightestClient_87 0 rfl ?_
      refine g_iload_n F d_M_tightestClient_88 1 rfl ?_
      refine g_callV F (dp := 5) (ci := 8) (As := [.int y1]) (c_M_pass l _ _ hr0 _) cv_8_206 hr0.1 rfl rfl rfl (Nat.le_of_ble_eq_true rfl) ⟨Nat.le_of_ble_eq_true rfl, Nat.le_of_ble_eq_true rfl⟩ ⟨Nat.zero_le _, Nat.zero_le _⟩ d_M_tightestClient_89 (fun _ σ19 h14 => ?_)
      refine g_aload_n F d_M_tightestClient_92 0 rfl ?_
      refine g_callV F (dp := 0) (ci := 8) (As := []) (c_M_allWakes l _ hr0 _) cv_8_203 hr0.1 rfl rfl rfl (Nat.le_of_ble_eq_true rfl) ⟨Nat.le_of_ble_eq_true rfl, Nat.le_of_ble_eq_true rfl⟩ ⟨Nat.zero_le _, Nat.zero_le _⟩ d_M_tightestClient_93 (fun r20 σ21 h15 => ?_)
      refine g_iload_n F d_M_tightestClient_96 2 rfl ?_
      refine g_isub F d_M_tightestClient_97 ?_
      refine g_ltI (fun v22 _ => ?_)
      refine g_istore F (ls' := [(6, .int v22), (0, .ref (xa X r0)), (1, .int y1), (2, .int y2), (3, .int x3), (4, .int x4), (5, .int x5)]) d_M_tightestClient_98 (by decide) rfl ?_
      refine g_aload_n F d_M_tightestClient_100 1 rfl ?_
      refine g_callV F (dp := 0) (ci := 8) (As := []) (c_M_release l _ hr0 _) cv_8_200 hr0.1 rfl rfl rfl (Nat.le_of_ble_eq_true rfl) ⟨Nat.le_of_ble_eq_true rfl, Nat.le_of_ble_eq_true rfl⟩ ⟨Nat.zero_le _, Nat.zero_le _⟩ d_M_tightestClient_101 (fun _ σ24 h16 => ?_)
      refine g_iload F d_M_tightestClient_104 0 rfl ?_
      refine g_iload_n F d_M_tightestClient_106 4 rfl ?_
      refine g_icmp_ge F (tgt := 115) d_M_tightestClient_107 (by decide) (fun h17 => ?_) (fun h18 => ?_)
      · refine g_iload F d_M_tightestClient_115 5 rfl ?_
        refine g_istore F (ls' := [(4, .int x4), (6, .int v22), (0, .ref (xa X r0)), (1, .int y1), (2, .int y2), (3, .int x3), (5, .int x5)]) d_M_tightestClient_117 (by decide) rfl ?_
        refine g_iload F d_M_tightestClient_119 1 rfl ?_
        refine g_iload_n F d_M_tightestClient_121 5 rfl ?_
        refine g_icmp_ge F (tgt := 130) d_M_tightestClient_122 (by decide) (fun h19 => ?_) (fun h20 => ?_)
        · refine g_iload_n F d_M_tightestClient_130 5 rfl ?_
          refine g_istore_n F (ls' := [(3, .int x3), (4, .int x4), (6, .int v22), (0, .ref (xa X r0)), (1, .int y1), (2, .int y2), (5, .int x5)]) d_M_tightestClient_131 (by decide) rfl ?_
          refine g_iinc F (v := 1) (ls' := [(5, .int (x5 + 1)), (3, .int x3), (4, .int x4), (6, .int v22), (0, .ref (xa X r0)), (1, .int y1), (2, .int y2)]) d_M_tightestClient_132 6 rfl (by decide) (by decide) rfl ?_
          refine g_goto F (tgt := 50) d_M_tightestClient_135 (by decide) ?_
          exact g_sub [4, 5, 6, 1, 2, 0] rfl (ih _ _ _ _)
        refine g_iload F d_M_tightestClient_125 1 rfl ?_
        refine g_goto F (tgt := 131) d_M_tightestClient_127 (by decide) ?_
        refine g_istore_n F (ls' := [(3, .int v22), (4, .int x4), (6, .int v22), (0, .ref (xa X r0)), (1, .int y1), (2, .int y2), (5, .int x5)]) d_M_tightestClient_131 (by decide) rfl ?_
        refine g_iinc F (v := 1) (ls' := [(5, .int (x5 + 1)), (3, .int v22), (4, .int x4), (6, .int v22), (0, .ref (xa X r0)), (1, .int y1), (2, .int y2)]) d_M_tightestClient_132 6 rfl (by decide) (by decide) rfl ?_
        refine g_goto F (tgt := 50) d_M_tightestClient_135 (by decide) ?_
        exact g_sub [4, 5, 6, 1, 2, 0] rfl (ih _ _ _ _)
      refine g_iload F d_M_tightestClient_110 6 rfl ?_
      refine g_goto F (tgt := 117) d_M_tightestClient_112 (by decide) ?_
      refine g_istore F (ls' := [(4, .int x5), (6, .int v22), (0, .ref (xa X r0)), (1, .int y1), (2, .int y2), (3, .int x3), (5, .int x5)]) d_M_tightestClient_117 (by decide) rfl ?_
      refine g_iload F d_M_tightestClient_119 1 rfl ?_
      refine g_iload_n F d_M_tightestClient_121 5 rfl ?_
      refine g_icmp_ge F (tgt := 130) d_M_tightestClient_122 (by decide) (fun h21 => ?_) (fun h22 => ?_)
      · refine g_iload_n F d_M_tightestClient_130 5 rfl ?_
        refine g_istore_n F (ls' := [(3, .int x3), (4, .int x5), (6, .int v22), (0, .ref (xa X r0)), (1, .int y1), (2, .int y2), (5, .int x5)]) d_M_tightestClient_131 (by decide) rfl ?_
        refine g_iinc F (v := 1) (ls' := [(5, .int (x5 + 1)), (3, .int x3), (4, .int x5), (6, .int v22), (0, .ref (xa X r0)), (1, .int y1), (2, .int y2)]) d_M_tightestClient_132 6 rfl (by decide) (by decide) rfl ?_
        refine g_goto F (tgt := 50) d_M_tightestClient_135 (by decide) ?_
        exact g_sub [4, 5, 6, 1, 2, 0] rfl (ih _ _ _ _)
      refine g_iload F d_M_tightestClient_125 1 rfl ?_
      refine g_goto F (tgt := 131) d_M_tightestClient_127 (by decide) ?_
      refine g_istore_n F (ls' := [(3, .int v22), (4, .int x5), (6, .int v22), (0, .ref (xa X r0)), (1, .int y1), (2, .int y2), (5, .int x5)]) d_M_tightestClient_131 (by decide) rfl ?_
      refine g_iinc F (v := 1) (ls' := [(5, .int (x5 + 1)), (3, .int v22), (4, .int x5), (6, .int v22), (0, .ref (xa X r0)), (1, .int y1), (2, .int y2)]) d_M_tightestClient_132 6 rfl (by decide) (by decide) rfl ?_
      refine g_goto F (tgt := 50) d_M_tightestClient_135 (by decide) ?_
      exact g_sub [4, 5, 6, 1, 2, 0] rfl (ih _ _ _ _)
    refine g_iinc F (v := 1) (ls' := [(5, .int (x5 + 1)), (0, .ref (xa X r0)), (1, .int y1), (2, .int y2), (3, .int x3), (4, .int x4)]) d_M_tightestClient_132 5 rfl (by decide) (by decide) rfl ?_
    refine g_goto F (tgt := 50) d_M_tightestClient_135 (by decide) ?_
    exact g_sub [1, 2, 3, 4, 5, 0] rfl (ih _ _ _ _)
set_option maxRecDepth 100000 in
set_option maxHeartbeats 4000000 in
theorem c_M_tightestClient {X : CX} (l : Launch) (q : Nat) (p1 : Int32) (hq : ModelOK X q) (σ : Mem) : CT X l y_M_tightestClient prog_10_method_71_code 7 (some .int) 6 vI [.ref (xa X q), .int p1] σ (f_M_tightestClient q p1 σ) := by
  refine CT_of (by decide +kernel) (Nat.le_of_ble_eq_true rfl) ?_
  intro p e s m args below meth c F hlk hr
  have F : FR p s m args c prog_10_method_71_code 7 "SensorHubModel" X := F
  show G X p l e (rmD 6) s m args below meth c 7 0 0 (QI X below args s vI) 0 [(0, .ref (xa X q)), (1, .int p1)] [] σ _
  unfold f_M_tightestClient
  refine g_aload_n F d_M_tightestClient_0 0 rfl ?_
  refine g_iconst F (v := 0) d_M_tightestClient_1 (by decide) ?_
  refine g_putI F fw_8_35 hq.1 rfl d_M_tightestClient_2 ?_
  refine g_ltM (fun σ1 _ => ?_)
  refine g_iload_n F d_M_tightestClient_5 1 rfl ?_
  refine g_iconst F (v := 1) d_M_tightestClient_6 (by decide) ?_
  refine g_sipush F (v := 500) d_M_tightestClient_7 (by decide) ?_
  refine g_callS F (dp := 0) (As := [.int p1, .int (1 : Int32), .int (500 : Int32)]) (c_M_in l _ _ _ _) cs_8_42 rfl rfl (Nat.le_of_ble_eq_true rfl) ⟨Nat.le_of_ble_eq_true rfl, Nat.le_of_ble_eq_true rfl⟩ ⟨Nat.zero_le _, Nat.zero_le _⟩ d_M_tightestClient_10 (fun r2 σ3 h1 => ?_)
  refine g_if_ne F (tgt := 18) d_M_tightestClient_13 (by decide) (fun h2 => ?_) (fun h3 => ?_)
  · refine g_iconst F (v := (-1)) d_M_tightestClient_16 (by decide) ?_
    exact g_iret F hlk hr d_M_tightestClient_17
  refine g_aload_n F d_M_tightestClient_18 0 rfl ?_
  refine g_callV F (dp := 0) (ci := 8) (As := []) (c_M_hold l _ hq _) cv_8_194 hq.1 rfl rfl rfl (Nat.le_of_ble_eq_true rfl) ⟨Nat.le_of_ble_eq_true rfl, Nat.le_of_ble_eq_true rfl⟩ ⟨Nat.zero_le _, Nat.zero_le _⟩ d_M_tightestClient_19 (fun _ σ5 h4 => ?_)
  refine g_aload_n F d_M_tightestClient_22 0 rfl ?_
  refine g_callV F (dp := 0) (ci := 8) (As := []) (c_M_allWakes l _ hq _) cv_8_203 hq.1 rfl rfl rfl (Nat.le_of_ble_eq_true rfl) ⟨Nat.le_of_ble_eq_true rfl, Nat.le_of_ble_eq_true rfl⟩ ⟨Nat.zero_le _, Nat.zero_le _⟩ d_M_tightestClient_23 (fun r6 σ7 h5 => ?_)
  refine g_istore_n F (ls' := [(2, .int r6), (0, .ref (xa X q)), (1, .int p1)]) d_M_tightestClient_26 (by decide) rfl ?_
  refine g_aload_n F d_M_tightestClient_27 1 rfl ?_
  refine g_iload_n F d_M_tightestClient_28 2 rfl ?_
  refine g_callV F (dp := 5) (ci := 8) (As := [.int p1]) (c_M_pass l _ _ hq _) cv_8_206 hq.1 rfl rfl rfl (Nat.le_of_ble_eq_true rfl) ⟨Nat.le_of_ble_eq_true rfl, Nat.le_of_ble_eq_true rfl⟩ ⟨Nat.zero_le _, Nat.zero_le _⟩ d_M_tightestClient_29 (fun _ σ9 h6 => ?_)
  refine g_aload_n F d_M_tightestClient_32 1 rfl ?_
  refine g_callV F (dp := 0) (ci := 8) (As := []) (c_M_allWakes l _ hq _) cv_8_203 hq.1 rfl rfl rfl (Nat.le_of_ble_eq_true rfl) ⟨Nat.le_of_ble_eq_true rfl, Nat.le_of_ble_eq_true rfl⟩ ⟨Nat.zero_le _, Nat.zero_le _⟩ d_M_tightestClient_33 (fun r10 σ11 h7 => ?_)
  refine g_iload_n F d_M_tightestClient_36 0 rfl ?_
  refine g_isub F d_M_tightestClient_37 ?_
  refine g_ltI (fun v12 _ => ?_)
  refine g_istore_n F (ls' := [(3, .int v12), (2, .int r6), (0, .ref (xa X q)), (1, .int p1)]) d_M_tightestClient_38 (by decide) rfl ?_
  refine g_aload_n F d_M_tightestClient_39 2 rfl ?_
  refine g_callV F (dp := 0) (ci := 8) (As := []) (c_M_release l _ hq _) cv_8_200 hq.1 rfl rfl rfl (Nat.le_of_ble_eq_true rfl) ⟨Nat.le_of_ble_eq_true rfl, Nat.le_of_ble_eq_true rfl⟩ ⟨Nat.zero_le _, Nat.zero_le _⟩ d_M_tightestClient_40 (fun _ σ14 h8 => ?_)
  refine g_bipush F (v := (-9)) d_M_tightestClient_43 (by decide) ?_
  refine g_istore F (ls' := [(4, .int (-9 : Int32)), (3, .int v12), (2, .int r6), (0, .ref (xa X q)), (1, .int p1)]) d_M_tightestClient_45 (by decide) rfl ?_
  refine g_iconst F (v := 0) d_M_tightestClient_47 (by decide) ?_
  refine g_istore F (ls' := [(5, .int (0 : Int32)), (4, .int (-9 : Int32)), (3, .int v12), (2, .int r6), (0, .ref (xa X q)), (1, .int p1)]) d_M_tightestClient_48 (by decide) rfl ?_
  refine g_sub [4, 5, 3, 2, 1, 0] rfl (l_L_M_tightestClient_50 F hlk hr _ _ _ hq _ (fun z25 σ26 => ?_) FU _ _ _ _)
  refine g_iload F d_M_tightestClient_138 0 rfl ?_
  exact g_iret F hlk hr d_M_tightestClient_140
