def y_His_record : MethodName := ⟨"SensorHub$History", "record", "(LSensorHub$Hub;)V"⟩
theorem d_His_record_0 : decode prog_3_method_2_code 0 = .ok (.aload_n 0, 1) := by decide +kernel
theorem d_His_record_1 : decode prog_3_method_2_code 1 = .ok (.getfield 11, 3) := by decide +kernel
theorem d_His_record_4 : decode prog_3_method_2_code 4 = .ok (.aload_n 0, 1) := by decide +kernel
theorem d_His_record_5 : decode prog_3_method_2_code 5 = .ok (.getfield 18, 3) := by decide +kernel
theorem d_His_record_8 : decode prog_3_method_2_code 8 = .ok (.iconst 5, 1) := by decide +kernel
theorem d_His_record_9 : decode prog_3_method_2_code 9 = .ok (.invokestatic 22, 3) := by decide +kernel
theorem d_His_record_12 : decode prog_3_method_2_code 12 = .ok (.aaload, 1) := by decide +kernel
theorem d_His_record_13 : decode prog_3_method_2_code 13 = .ok (.astore_n 2, 1) := by decide +kernel
theorem d_His_record_14 : decode prog_3_method_2_code 14 = .ok (.aload_n 2, 1) := by decide +kernel
theorem d_His_record_15 : decode prog_3_method_2_code 15 = .ok (.ifnull 36, 3) := by decide +kernel
theorem d_His_record_18 : decode prog_3_method_2_code 18 = .ok (.aload_n 2, 1) := by decide +kernel
theorem d_His_record_19 : decode prog_3_method_2_code 19 = .ok (.aload_n 1, 1) := by decide +kernel
theorem d_His_record_20 : decode prog_3_method_2_code 20 = .ok (.invokevirtual 28, 3) := by decide +kernel
theorem d_His_record_23 : decode prog_3_method_2_code 23 = .ok (.aload_n 0, 1) := by decide +kernel
theorem d_His_record_24 : decode prog_3_method_2_code 24 = .ok (.aload_n 0, 1) := by decide +kernel
theorem d_His_record_25 : decode prog_3_method_2_code 25 = .ok (.getfield 18, 3) := by decide +kernel
theorem d_His_record_28 : decode prog_3_method_2_code 28 = .ok (.iconst 1, 1) := by decide +kernel
theorem d_His_record_29 : decode prog_3_method_2_code 29 = .ok (.iadd, 1) := by decide +kernel
theorem d_His_record_30 : decode prog_3_method_2_code 30 = .ok (.iconst 5, 1) := by decide +kernel
theorem d_His_record_31 : decode prog_3_method_2_code 31 = .ok (.invokestatic 22, 3) := by decide +kernel
theorem d_His_record_34 : decode prog_3_method_2_code 34 = .ok (.putfield 18, 3) := by decide +kernel
theorem d_His_record_37 : decode prog_3_method_2_code 37 = .ok (.aload_n 0, 1) := by decide +kernel
theorem d_His_record_38 : decode prog_3_method_2_code 38 = .ok (.aload_n 0, 1) := by decide +kernel
theorem d_His_record_39 : decode prog_3_method_2_code 39 = .ok (.getfield 32, 3) := by decide +kernel
theorem d_His_record_42 : decode prog_3_method_2_code 42 = .ok (.iconst 1, 1) := by decide +kernel
theorem d_His_record_43 : decode prog_3_method_2_code 43 = .ok (.iadd, 1) := by decide +kernel
theorem d_His_record_44 : decode prog_3_method_2_code 44 = .ok (.iconst 5, 1) := by decide +kernel
theorem d_His_record_45 : decode prog_3_method_2_code 45 = .ok (.invokestatic 35, 3) := by decide +kernel
theorem d_His_record_48 : decode prog_3_method_2_code 48 = .ok (.putfield 32, 3) := by decide +kernel
theorem d_His_record_51 : decode prog_3_method_2_code 51 = .ok (.return_, 1) := by decide +kernel
theorem fs_1_11 : FS "SensorHub$History" 11 1 2 := ⟨"SensorHub$History", T_1, 3, rfl, by decide, rfl, gw_I 342 (by decide +kernel) rfl⟩
theorem fs_1_18 : FS "SensorHub$History" 18 1 1 := ⟨"SensorHub$History", T_1, 3, rfl, by decide, rfl, gw_I 341 (by decide +kernel) rfl⟩
theorem cs_1_22 : CSS "SensorHub$History" 22 y_Mat_floorMod prog_11_method_50_code 3 (some .int) 2 := ⟨gw_I 408 (by decide +kernel) rfl, gw_I 409 (by decide +kernel) rfl, gw_I 79 (by decide +kernel) rfl, gw_I 410 (by decide +kernel) rfl, ⟨by decide +kernel, by decide +kernel⟩, by decide +kernel⟩
theorem cv_1_28 : CSV "SensorHub$History" 28 y_Hub_copyFrom prog_4_method_3_code 5 none 1 := ⟨gw_I 411 (by decide +kernel) rfl, gw_I 412 (by decide +kernel) rfl, gw_I 413 (by decide +kernel) rfl, gw_I 71 (by decide +kernel) rfl, gw_I 414 (by decide +kernel) rfl, ⟨by decide +kernel, by decide +kernel⟩, by decide +kernel⟩
theorem fw_1_18 : FW "SensorHub$History" 18 1 1 .int := ⟨"SensorHub$History", T_1, 3, rfl, by decide, rfl, gw_I 341 (by decide +kernel) rfl, rfl, by decide +kernel⟩
theorem fs_1_32 : FS "SensorHub$History" 32 1 0 := ⟨"SensorHub$History", T_1, 3, rfl, by decide, rfl, gw_I 339 (by decide +kernel) rfl⟩
theorem cs_1_35 : CSS "SensorHub$History" 35 y_Mat_min prog_11_method_69_code 2 (some .int) 2 := ⟨gw_I 442 (by decide +kernel) rfl, gw_I 398 (by decide +kernel) rfl, gw_I 79 (by decide +kernel) rfl, gw_I 399 (by decide +kernel) rfl, ⟨by decide +kernel, by decide +kernel⟩, by decide +kernel⟩
theorem fw_1_32 : FW "SensorHub$History" 32 1 0 .int := ⟨"SensorHub$History", T_1, 3, rfl, by decide, rfl, gw_I 339 (by decide +kernel) rfl, rfl, by decide +kernel⟩
def f_His_record (q : Nat) (q1 : Nat) (σ : Mem) : Option (Unit × Mem) :=
  bd (f_Mat_floorMod (σ q 1) (5 : Int32) σ) fun r1 σ2 =>
  if ib r1 5 then
    bd (f_Hub_copyFrom (q + 1 + (1 + 42 * r1.toNatClampNeg)) q1 σ2) fun _ σ4 =>
    bd (f_Mat_floorMod ((σ4 q 1) + (1 : Int32)) (5 : Int32) σ4) fun r5 σ6 =>
    lt (wr σ6 q 1 r5) fun σ7 =>
    bd (f_Mat_min ((σ7 q 0) + (1 : Int32)) (5 : Int32) σ7) fun r8 σ9 =>
    lt (wr σ9 q 0 r8) fun σ10 =>
    some ((), σ10)
  else none
set_option maxRecDepth 100000 in
set_option maxHeartbeats 4000000 in
theorem c_His_record {X : CX} (l : Launch) (q : Nat) (q1 : Nat) (hq : HistoryOK X q) (hq1 : HubOK X q1) (σ : Mem) : CT X l y_His_record prog_3_method_2_code 3 none 3 vU [.ref (xa X q), .ref (xa X q1)] σ (f_His_record q q1 σ) := by
  refine CT_of (by decide +kernel) (Nat.le_of_ble_eq_true rfl) ?_
  intro p e s m args below meth c F hlk hr
  have F : FR p s m args c prog_3_method_2_code 3 "SensorHub$History" X := F
  show G X p l e (rmD 3) s m args below meth c 3 0 0 (QI X below args s vU) 0 [(0, .ref (xa X q)), (1, .ref (xa X q1))] [] σ _
  unfold f_His_record
  refine g_aload_n F d_His_record_0 0 rfl ?_
  refine g_getR F fs_1_11 hq.1 rfl d_His_record_1 ?_
  refine g_aload_n F d_His_record_4 0 rfl ?_
  refine g_getI F fs_1_18 hq.1 rfl d_His_record_5 ?_
  refine g_iconst F (v := 5) d_His_record_8 (by decide) ?_
  refine g_callS F (dp := 0) (As := [.int (σ q 1), .int (5 : Int32)]) (c_Mat_floorMod l _ _ _) cs_1_22 rfl rfl (Nat.le_of_ble_eq_true rfl) ⟨Nat.le_of_ble_eq_true rfl, Nat.le_of_ble_eq_true rfl⟩ ⟨Nat.zero_le _, Nat.zero_le _⟩ d_His_record_9 (fun r1 σ2 h1 => ?_)
  refine g_aald F 23 4 5 1 42 "SensorHub$Hub" hq.2.1 (Or.inr (Or.inr ⟨rfl, rfl, rfl, rfl, rfl⟩)) rfl d_His_record_12 (fun h2 => ?_)
  refine g_astore_n F (ls' := [(2, .ref (xa X (q + 1 + (1 + 42 * r1.toNatClampNeg)))), (0, .ref (xa X q)), (1, .ref (xa X q1))]) d_His_record_13 (by decide) rfl ?_
  refine g_aload_n F d_His_record_14 0 rfl ?_
  refine g_ifnull F d_His_record_15 ?_
  refine g_aload_n F d_His_record_18 0 rfl ?_
  refine g_aload_n F d_His_record_19 2 rfl ?_
  refine g_callV F (dp := 2) (ci := 2) (As := [.ref (xa X q1)]) (c_Hub_copyFrom l _ _ (hq.2.2 _ h2) hq1 _) cv_1_28 (hq.2.2 _ h2).1 rfl rfl rfl (Nat.le_of_ble_eq_true rfl) ⟨Nat.le_of_ble_eq_true rfl, Nat.le_of_ble_eq_true rfl⟩ ⟨Nat.zero_le _, Nat.zero_le _⟩ d_His_record_20 (fun _ σ4 h3 => ?_)
  refine g_aload_n F d_His_record_23 1 rfl ?_
  refine g_aload_n F d_His_record_24 1 rfl ?_
  refine g_getI F fs_1_18 hq.1 rfl d_His_record_25 ?_
  refine g_iconst F (v := 1) d_His_record_28 (by decide) ?_
  refine g_iadd F d_His_record_29 ?_
  refine g_iconst F (v := 5) d_His_record_30 (by decide) ?_
  refine g_callS F (dp := 0) (As := [.int ((σ4 q 1) + (1 : Int32)), .int (5 : Int32)]) (c_Mat_floorMod l _ _ _) cs_1_22 rfl rfl (Nat.le_of_ble_eq_true rfl) ⟨Nat.le_of_ble_eq_true rfl, Nat.le_of_ble_eq_true rfl⟩ ⟨Nat.zero_le _, Nat.zero_le _⟩ d_His_record_31 (fun r5 σ6 h4 => ?_)
  refine g_putI F fw_1_18 hq.1 rfl d_His_record_34 ?_
  refine g_ltM (fun σ7 _ => ?_)
  refine g_aload_n F d_His_record_37 1 rfl ?_
  refine g_aload_n F d_His_record_38 1 rfl ?_
  refine g_getI F fs_1_32 hq.1 rfl d_His_record_39 ?_
  refine g_iconst F (v := 1) d_His_record_42 (by decide) ?_
  refine g_iadd F d_His_record_43 ?_
  refine g_iconst F (v := 5) d_His_record_44 (by decide) ?_
  refine g_callS F (dp := 0) (As := [.int ((σ7 q 0) + (1 : Int32)), .int (5 : Int32)]) (c_Mat_min l _ _ _) cs_1_35 rfl rfl (Nat.le_of_ble_eq_true rfl) ⟨Nat.le_of_ble_eq_true rfl, Nat.le_of_ble_eq_true rfl⟩ ⟨Nat.zero_le _, Nat.zero_le _⟩ d_His_record_45 (fun r8 σ9 h5 => ?_)
  refine g_putI F fw_1_32 hq.1 rfl d_His_record_48 ?_
  refine g_ltM (fun σ10 _ => ?_)
  exact g_vret F hlk hr d_His_record_51
def y_His_restore : MethodName := ⟨"SensorHub$History", "restore", "(LSensorHub$Hub;)I"⟩
theorem d_His_restore_0 : decode prog_3_method_3_code 0 = .ok (.aload_n 0, 1) := by decide +kernel
theorem d_His_restore_1 : decode prog_3_method_3_code 1 = .ok (.getfield 18, 3) := by decide +kernel
theorem d_His_restore_4 : decode prog_3_method_3_code 4 = .ok (.iconst 1, 1) := by decide +kernel
theorem d_His_restore_5 : decode prog_3_method_3_code 5 = .ok (.isub, 1) := by decide +kernel
theorem d_His_restore_6 : decode prog_3_method_3_code 6 = .ok (.iconst 5, 1) := by decide +kernel
theorem d_His_restore_7 : decode prog_3_method_3_code 7 = .ok (.invokestatic 22, 3) := by decide +kernel
theorem d_His_restore_10 : decode prog_3_method_3_code 10 = .ok (.istore_n 2, 1) := by decide +kernel
theorem d_His_restore_11 : decode prog_3_method_3_code 11 = .ok (.aload_n 0, 1) := by decide +kernel
theorem d_His_restore_12 : decode prog_3_method_3_code 12 = .ok (.getfield 11, 3) := by decide +kernel
theorem d_His_restore_15 : decode prog_3_method_3_code 15 = .ok (.iload_n 2, 1) := by decide +kernel
theorem d_His_restore_16 : decode prog_3_method_3_code 16 = .ok (.aaload, 1) := by decide +kernel
theorem d_His_restore_17 : decode prog_3_method_3_code 17 = .ok (.astore_n 3, 1) := by decide +kernel
theorem d_His_restore_18 : decode prog_3_method_3_code 18 = .ok (.aload_n 0, 1) := by decide +kernel
theorem d_His_restore_19 : decode prog_3_method_3_code 19 = .ok (.getfield 32, 3) := by decide +kernel
theorem d_His_restore_22 : decode prog_3_method_3_code 22 = .ok (.ifCond .le 27, 3) := by decide +kernel
theorem d_His_restore_25 : decode prog_3_method_3_code 25 = .ok (.aload_n 3, 1) := by decide +kernel
theorem d_His_restore_26 : decode prog_3_method_3_code 26 = .ok (.ifnull 23, 3) := by decide +kernel
theorem d_His_restore_29 : decode prog_3_method_3_code 29 = .ok (.aload_n 1, 1) := by decide +kernel
theorem d_His_restore_30 : decode prog_3_method_3_code 30 = .ok (.aload_n 3, 1) := by decide +kernel
theorem d_His_restore_31 : decode prog_3_method_3_code 31 = .ok (.invokevirtual 28, 3) := by decide +kernel
theorem d_His_restore_34 : decode prog_3_method_3_code 34 = .ok (.aload_n 0, 1) := by decide +kernel
theorem d_His_restore_35 : decode prog_3_method_3_code 35 = .ok (.iload_n 2, 1) := by decide +kernel
theorem d_His_restore_36 : decode prog_3_method_3_code 36 = .ok (.putfield 18, 3) := by decide +kernel
theorem d_His_restore_39 : decode prog_3_method_3_code 39 = .ok (.aload_n 0, 1) := by decide +kernel
theorem d_His_restore_40 : decode prog_3_method_3_code 40 = .ok (.dup, 1) := by decide +kernel
theorem d_His_restore_41 : decode prog_3_method_3_code 41 = .ok (.getfield 32, 3) := by decide +kernel
theorem d_His_restore_44 : decode prog_3_method_3_code 44 = .ok (.iconst 1, 1) := by decide +kernel
theorem d_His_restore_45 : decode prog_3_method_3_code 45 = .ok (.isub, 1) := by decide +kernel
theorem d_His_restore_46 : decode prog_3_method_3_code 46 = .ok (.putfield 32, 3) := by decide +kernel
theorem d_His_restore_49 : decode prog_3_method_3_code 49 = .ok (.aload_n 0, 1) := by decide +kernel
theorem d_His_restore_50 : decode prog_3_method_3_code 50 = .ok (.getfield 32, 3) := by decide +kernel
theorem d_His_restore_53 : decode prog_3_method_3_code 53 = .ok (.ireturn, 1) := by decide +kernel
def f_His_restore (q : Nat) (q1 : Nat) (σ : Mem) : Option (Int32 × Mem) :=
  bd (f_Mat_floorMod ((σ q 1) - (1 : Int32)) (5 : Int32) σ) fun r1 σ2 =>
  if ib r1 5 then
    if (σ2 q 0) ≤ 0 then
      some (σ2 q 0, σ2)
    else
      bd (f_Hub_copyFrom q1 (q + 1 + (1 + 42 * r1.toNatClampNeg)) σ2) fun _ σ4 =>
      lt (wr σ4 q 1 r1) fun σ5 =>
      lt (wr σ5 q 0 ((σ5 q 0) - (1 : Int32))) fun σ6 =>
      some (σ6 q 0, σ6)
  else none
set_option maxRecDepth 100000 in
set_option maxHeartbeats 4000000 in
theorem c_His_restore {X : CX} (l : Launch) (q : Nat) (q1 : Nat) (hq : HistoryOK X q) (hq1 : HubOK X q1) (σ : Mem) : CT X l y_His_restore prog_3_method_3_code 4 (some .int) 3 vI [.ref (xa X q), .ref (xa X q1)] σ (f_His_restore q q1 σ) := by
  refine CT_of (by decide +kernel) (Nat.le_of_ble_eq_true rfl) ?_
  intro p e s m args below meth c F hlk hr
  have F : FR p s m args c prog_3_method_3_code 4 "SensorHub$History" X := F
  show G X p l e (rmD 3) s m args below meth c 4 0 0 (QI X below args s vI) 0 [(0, .ref (xa X q)), (1, .ref (xa X q1))] [] σ _
  unfold f_His_restore
  refine g_aload_n F d_His_restore_0 0 rfl ?_
  refine g_getI F fs_1_18 hq.1 rfl d_His_restore_1 ?_
  refine g_iconst F (v := 1) d_His_restore_4 (by decide) ?_
  refine g_isub F d_His_restore_5 ?_
  refine g_iconst F (v := 5) d_His_restore_6 (by decide) ?_
  refine g_callS F (dp := 0) (As := [.int ((σ q 1) - (1 : Int32)), .int (5 : Int32)]) (c_Mat_floorMod l _ _ _) cs_1_22 rfl rfl (Nat.le_of_ble_eq_true rfl) ⟨Nat.le_of_ble_eq_true rfl, Nat.le_of_ble_eq_true rfl⟩ ⟨Nat.zero_le _, Nat.zero_le _⟩ d_His_restore_7 (fun r1 σ2 h1 => ?_)
  refine g_istore_n F (ls' := [(2, .int r1), (0, .ref (xa X q)), (1, .ref (xa X q1))]) d_His_restore_10 (by decide) rfl ?_
  refine g_aload_n F d_His_restore_11 1 rfl ?_
  refine g_getR F fs_1_11 hq.1 rfl d_His_restore_12 ?_
  refine g_iload_n F d_His_restore_15 0 rfl ?_
  refine g_aald F 23 4 5 1 42 "SensorHub$Hub" hq.2.1 (Or.inr (Or.inr ⟨rfl, rfl, rfl, rfl, rfl⟩)) rfl d_His_restore_16 (fun h2 => ?_)
  refine g_astore_n F (ls' := [(3, .ref (xa X (q + 1 + (1 + 42 * r1.toNatClampNeg)))), (2, .int r1), (0, .ref (xa X q)), (1, .ref (xa X q1))]) d_His_restore_17 (by decide) rfl ?_
  refine g_aload_n F d_His_restore_18 2 rfl ?_
  refine g_getI F fs_1_32 hq.1 rfl d_His_restore_19 ?_
  refine g_if_le F (tgt := 49) d_His_restore_22 (by decide) (fun h3 => ?_) (fun h4 => ?_)
  · refine g_aload_n F d_His_restore_49 2 rfl ?_
    refine g_getI F fs_1_32 hq.1 rfl d_His_restore_50 ?_
    exact g_iret F hlk hr d_His_restore_53
  refine g_aload_n F d_His_restore_25 0 rfl ?_
  refine g_ifnull F d_His_restore_26 ?_
  refine g_aload_n F d_His_restore_29 3 rfl ?_
  refine g_aload_n F d_His_restore_30 0 rfl ?_
  refine g_callV F (dp := 2) (ci := 2) (As := [.ref (xa X (q + 1 + (1 + 42 * r1.toNatClampNeg)))]) (c_Hub_copyFrom l _ _ hq1 (hq.2.2 _ h2) _) cv_1_28 hq1.1 rfl rfl rfl (Nat.le_of_ble_eq_true rfl) ⟨Nat.le_of_ble_eq_true rfl, Nat.le_of_ble_eq_true rfl⟩ ⟨Nat.zero_le _, Nat.zero_le _⟩ d_His_restore_31 (fun _ σ4 h5 => ?_)
  refine g_aload_n F d_His_restore_34 2 rfl ?_
  refine g_iload_n F d_His_restore_35 1 rfl ?_
  refine g_putI F fw_1_18 hq.1 rfl d_His_restore_36 ?_
  refine g_ltM (fun σ5 _ => ?_)
  refine g_aload_n F d_His_restore_39 2 rfl ?_
  refine g_dup F d_His_restore_40 rfl ?_
  refine g_getI F fs_1_32 hq.1 rfl d_His_restore_41 ?_
  refine g_iconst F (v := 1) d_His_restore_44 (by decide) ?_
  refine g_isub F d_His_restore_45 ?_
  refine g_putI F fw_1_32 hq.1 rfl d_His_restore_46 ?_
  refine g_ltM (fun σ6 _ => ?_)
  refine g_aload_n F d_His_restore_49 2 rfl ?_
  refine g_getI F fs_1_32 hq.1 rfl d_His_restore_50 ?_
  exact g_iret F hlk hr d_His_restore_53
def y_X_addSensor : MethodName := ⟨"SensorHub", "addSensor", "(IIIIII)I"⟩
theorem d_X_addSensor_0 : decode prog_1_method_2_code 0 = .ok (.iload_n 1, 1) := by decide +kernel
theorem d_X_addSensor_1 : decode prog_1_method_2_code 1 = .ok (.iconst 1, 1) := by decide +kernel
theorem d_X_addSensor_2 : decode prog_1_method_2_code 2 = .ok (.bipush 20, 2) := by decide +kernel
theorem d_X_addSensor_4 : decode prog_1_method_2_code 4 = .ok (.invokestatic 33, 3) := by decide +kernel
theorem d_X_addSensor_7 : decode prog_1_method_2_code 7 = .ok (.ifCond .eq 58, 3) := by decide +kernel
theorem d_X_addSensor_10 : decode prog_1_method_2_code 10 = .ok (.iload_n 2, 1) := by decide +kernel
theorem d_X_addSensor_11 : decode prog_1_method_2_code 11 = .ok (.iconst 1, 1) := by decide +kernel
theorem d_X_addSensor_12 : decode prog_1_method_2_code 12 = .ok (.iconst 5, 1) := by decide +kernel
theorem d_X_addSensor_13 : decode prog_1_method_2_code 13 = .ok (.invokestatic 33, 3) := by decide +kernel
theorem d_X_addSensor_16 : decode prog_1_method_2_code 16 = .ok (.ifCond .eq 49, 3) := by decide +kernel
theorem d_X_addSensor_19 : decode prog_1_method_2_code 19 = .ok (.iload_n 3, 1) := by decide +kernel
theorem d_X_addSensor_20 : decode prog_1_method_2_code 20 = .ok (.iconst 0, 1) := by decide +kernel
theorem d_X_addSensor_21 : decode prog_1_method_2_code 21 = .ok (.bipush 99, 2) := by decide +kernel
theorem d_X_addSensor_23 : decode prog_1_method_2_code 23 = .ok (.invokestatic 33, 3) := by decide +kernel
theorem d_X_addSensor_26 : decode prog_1_method_2_code 26 = .ok (.ifCond .eq 39, 3) := by decide +kernel
theorem d_X_addSensor_29 : decode prog_1_method_2_code 29 = .ok (.iload 4, 2) := by decide +kernel
theorem d_X_addSensor_31 : decode prog_1_method_2_code 31 = .ok (.iconst 0, 1) := by decide +kernel
theorem d_X_addSensor_32 : decode prog_1_method_2_code 32 = .ok (.sipush 999, 3) := by decide +kernel
theorem d_X_addSensor_35 : decode prog_1_method_2_code 35 = .ok (.invokestatic 33, 3) := by decide +kernel
theorem d_X_addSensor_38 : decode prog_1_method_2_code 38 = .ok (.ifCond .eq 27, 3) := by decide +kernel
theorem d_X_addSensor_41 : decode prog_1_method_2_code 41 = .ok (.iload 5, 2) := by decide +kernel
theorem d_X_addSensor_43 : decode prog_1_method_2_code 43 = .ok (.iconst 0, 1) := by decide +kernel
theorem d_X_addSensor_44 : decode prog_1_method_2_code 44 = .ok (.iload_n 1, 1) := by decide +kernel
theorem d_X_addSensor_45 : decode prog_1_method_2_code 45 = .ok (.invokestatic 37, 3) := by decide +kernel
theorem d_X_addSensor_48 : decode prog_1_method_2_code 48 = .ok (.invokestatic 33, 3) := by decide +kernel
theorem d_X_addSensor_51 : decode prog_1_method_2_code 51 = .ok (.ifCond .eq 14, 3) := by decide +kernel
theorem d_X_addSensor_54 : decode prog_1_method_2_code 54 = .ok (.iload 6, 2) := by decide +kernel
theorem d_X_addSensor_56 : decode prog_1_method_2_code 56 = .ok (.iconst 1, 1) := by decide +kernel
theorem d_X_addSensor_57 : decode prog_1_method_2_code 57 = .ok (.bipush 50, 2) := by decide +kernel
theorem d_X_addSensor_59 : decode prog_1_method_2_code 59 = .ok (.invokestatic 33, 3) := by decide +kernel
theorem d_X_addSensor_62 : decode prog_1_method_2_code 62 = .ok (.ifCond .ne 5, 3) := by decide +kernel
theorem d_X_addSensor_65 : decode prog_1_method_2_code 65 = .ok (.iconst (-1), 1) := by decide +kernel
theorem d_X_addSensor_66 : decode prog_1_method_2_code 66 = .ok (.ireturn, 1) := by decide +kernel
theorem d_X_addSensor_67 : decode prog_1_method_2_code 67 = .ok (.aload_n 0, 1) := by decide +kernel
theorem d_X_addSensor_68 : decode prog_1_method_2_code 68 = .ok (.getfield 10, 3) := by decide +kernel
theorem d_X_addSensor_71 : decode prog_1_method_2_code 71 = .ok (.invokevirtual 41, 3) := by decide +kernel
theorem d_X_addSensor_74 : decode prog_1_method_2_code 74 = .ok (.ifCond .eq 6, 3) := by decide +kernel
theorem d_X_addSensor_77 : decode prog_1_method_2_code 77 = .ok (.bipush (-3), 2) := by decide +kernel
theorem d_X_addSensor_79 : decode prog_1_method_2_code 79 = .ok (.ireturn, 1) := by decide +kernel
theorem d_X_addSensor_80 : decode prog_1_method_2_code 80 = .ok (.aload_n 0, 1) := by decide +kernel
theorem d_X_addSensor_81 : decode prog_1_method_2_code 81 = .ok (.getfield 22, 3) := by decide +kernel
theorem d_X_addSensor_84 : decode prog_1_method_2_code 84 = .ok (.aload_n 0, 1) := by decide +kernel
theorem d_X_addSensor_85 : decode prog_1_method_2_code 85 = .ok (.getfield 10, 3) := by decide +kernel
theorem d_X_addSensor_88 : decode prog_1_method_2_code 88 = .ok (.invokevirtual 45, 3) := by decide +kernel
theorem d_X_addSensor_91 : decode prog_1_method_2_code 91 = .ok (.aload_n 0, 1) := by decide +kernel
theorem d_X_addSensor_92 : decode prog_1_method_2_code 92 = .ok (.getfield 10, 3) := by decide +kernel
theorem d_X_addSensor_95 : decode prog_1_method_2_code 95 = .ok (.iload_n 1, 1) := by decide +kernel
theorem d_X_addSensor_96 : decode prog_1_method_2_code 96 = .ok (.iload_n 2, 1) := by decide +kernel
theorem d_X_addSensor_97 : decode prog_1_method_2_code 97 = .ok (.iload_n 3, 1) := by decide +kernel
theorem d_X_addSensor_98 : decode prog_1_method_2_code 98 = .ok (.iload 4, 2) := by decide +kernel
theorem d_X_addSensor_100 : decode prog_1_method_2_code 100 = .ok (.iload 5, 2) := by decide +kernel
theorem d_X_addSensor_102 : decode prog_1_method_2_code 102 = .ok (.iload 6, 2) := by decide +kernel
theorem d_X_addSensor_104 : decode prog_1_method_2_code 104 = .ok (.invokevirtual 49, 3) := by decide +kernel
theorem d_X_addSensor_107 : decode prog_1_method_2_code 107 = .ok (.ireturn, 1) := by decide +kernel
theorem cs_7_33 : CSS "SensorHub" 33 y_X_isWithin prog_1_method_24_code 3 (some .boolean) 3 := ⟨gw_I 393 (by decide +kernel) rfl, gw_I 284 (by decide +kernel) rfl, gw_I 70 (by decide +kernel) rfl, gw_I 285 (by decide +kernel) rfl, ⟨by decide +kernel, by decide +kernel⟩, by decide +kernel⟩
theorem cs_7_37 : CSS "SensorHub" 37 y_X_greatestJitter prog_1_method_25_code 1 (some .int) 1 := ⟨gw_I 394 (by decide +kernel) rfl, gw_I 395 (by decide +kernel) rfl, gw_I 70 (by decide +kernel) rfl, gw_I 396 (by decide +kernel) rfl, ⟨by decide +kernel, by decide +kernel⟩, by decide +kernel⟩
theorem fs_7_10 : FS "SensorHub" 10 7 0 := ⟨"SensorHub", T_7, 4, rfl, by decide, rfl, gw_I 376 (by decide +kernel) rfl⟩
theorem cv_7_41 : CSV "SensorHub" 41 y_Hub_hasAllSensors prog_4_method_8_code 1 (some .boolean) 0 := ⟨gw_I 400 (by decide +kernel) rfl, gw_I 401 (by decide +kernel) rfl, gw_I 402 (by decide +kernel) rfl, gw_I 71 (by decide +kernel) rfl, gw_I 403 (by decide +kernel) rfl, ⟨by decide +kernel, by decide +kernel⟩, by decide +kernel⟩
theorem fs_7_22 : FS "SensorHub" 22 7 2 := ⟨"SensorHub", T_7, 4, rfl, by decide, rfl, gw_I 378 (by decide +kernel) rfl⟩
theorem cv_7_45 : CSV "SensorHub" 45 y_His_record prog_3_method_2_code 3 none 1 := ⟨gw_I 404 (by decide +kernel) rfl, gw_I 405 (by decide +kernel) rfl, gw_I 406 (by decide +kernel) rfl, gw_I 76 (by decide +kernel) rfl, gw_I 407 (by decide +kernel) rfl, ⟨by decide +kernel, by decide +kernel⟩, by decide +kernel⟩
theorem cv_7_49 : CSV "SensorHub" 49 y_Hub_addPhysical prog_4_method_11_code 9 (some .int) 6 := ⟨gw_I 443 (by decide +kernel) rfl, gw_I 444 (by decide +kernel) rfl, gw_I 445 (by decide +kernel) rfl, gw_I 71 (by decide +kernel) rfl, gw_I 446 (by decide +kernel) rfl, ⟨by decide +kernel, by decide +kernel⟩, by decide +kernel⟩
def f_X_addSensor (q : Nat) (p1 : Int32) (p2 : Int32) (p3 : Int32) (p4 : Int32) (p5 : Int32) (p6 : Int32) (σ : Mem) : Option (Int32 × Mem) :=
  bd (f_X_isWithin p1 (1 : Int32) (20 : Int32) σ) fun r1 σ2 =>
  if r1 = 0 then
    some ((-1 : Int32), σ2)
  else
    bd (f_X_isWithin p2 (1 : Int32) (5 : Int32) σ2) fun r3 σ4 =>
    if r3 = 0 then
      some ((-1 : Int32), σ4)
    else
      bd (f_X_isWithin p3 (0 : Int32) (99 : Int32) σ4) fun r5 σ6 =>
      if r5 = 0 then
        some ((-1 : Int32), σ6)
      else
        bd (f_X_isWithin p4 (0 : Int32) (999 : Int32) σ6) fun r7 σ8 =>
        if r7 = 0 then
          some ((-1 : Int32), σ8)
        else
          bd (f_X_greatestJitter p1 σ8) fun r9 σ10 =>
          bd (f_X_isWithin p5 (0 : Int32) r9 σ10) fun r11 σ12 =>
          if r11 = 0 then
            some ((-1 : Int32), σ12)
          else
            bd (f_X_isWithin p6 (1 : Int32) (50 : Int32) σ12) fun r13 σ14 =>
            if r13 = 0 then
              some ((-1 : Int32), σ14)
            else
              bd (f_Hub_hasAllSensors (q + 1) σ14) fun r15 σ16 =>
              if r15 = 0 then
                bd (f_His_record (q + 85) (q + 1) σ16) fun _ σ18 =>
                bd (f_Hub_addPhysical (q + 1) p1 p2 p3 p4 p5 p6 σ18) fun r19 σ20 =>
                some (r19, σ20)
              else
                some ((-3 : Int32), σ16)
set_option maxRecDepth 100000 in
set_option maxHeartbeats 4000000 in
theorem c_X_addSensor {X : CX} (l : Launch) (q : Nat) (p1 : Int32) (p2 : Int32) (p3 : Int32) (p4 : Int32) (p5 : Int32) (p6 : Int32) (hq : TopOK X q) (σ : Mem) : CT X l y_X_addSensor prog_1_method_2_code 7 (some .int) 4 vI [.ref (xa X q), .int p1, .int p2, .int p3, .int p4, .int p5, .int p6] σ (f_X_addSensor q p1 p2 p3 p4 p5 p6 σ) := by
  refine CT_of (by decide +kernel) (Nat.le_of_ble_eq_true rfl) ?_
  intro p e s m args below meth c F hlk hr
  have F : FR p s m args c prog_1_method_2_code 7 "SensorHub" X := F
  show G X p l e (rmD 4) s m args below meth c 7 0 0 (QI X below args s vI) 0 [(0, .ref (xa X q)), (1, .int p1), (2, .int p2), (3, .int p3), (4, .int p4), (5, .int p5), (6, .int p6)] [] σ _
  unfold f_X_addSensor
  refine g_iload_n F d_X_addSensor_0 1 rfl ?_
  refine g_iconst F (v := 1) d_X_addSensor_1 (by decide) ?_
  refine g_bipush F (v := 20) d_X_addSensor_2 (by decide) ?_
  refine g_callS F (dp := 0) (As := [.int p1, .int (1 : Int32), .int (20 : Int32)]) (c_X_isWithin l _ _ _ _) cs_7_33 rfl rfl (Nat.le_of_ble_eq_true rfl) ⟨Nat.le_of_ble_eq_true rfl, Nat.le_of_ble_eq_true rfl⟩ ⟨Nat.zero_le _, Nat.zero_le _⟩ d_X_addSensor_4 (fun r1 σ2 h1 => ?_)
  refine g_if_eq F (tgt := 65) d_X_addSensor_7 (by decide) (fun h2 => ?_) (fun h3 => ?_)
  · refine g_iconst F (v := (-1)) d_X_addSensor_65 (by decide) ?_
    exact g_iret F hlk hr d_X_addSensor_66
  refine g_iload_n F d_X_addSensor_10 2 rfl ?_
  refine g_iconst F (v := 1) d_X_addSensor_11 (by decide) ?_
  refine g_iconst F (v := 5) d_X_addSensor_12 (by decide) ?_
  refine g_callS F (dp := 0) (As := [.int p2, .int (1 : Int32), .int (5 : Int32)]) (c_X_isWithin l _ _ _ _) cs_7_33 rfl rfl (Nat.le_of_ble_eq_true rfl) ⟨Nat.le_of_ble_eq_true rfl, Nat.le_of_ble_eq_true rfl⟩ ⟨Nat.zero_le _, Nat.zero_le _⟩ d_X_addSensor_13 (fun r3 σ4 h4 => ?_)
  refine g_if_eq F (tgt := 65) d_X_addSensor_16 (by decide) (fun h5 => ?_) (fun h6 => ?_)
  · refine g_iconst F (v := (-1)) d_X_addSensor_65 (by decide) ?_
    exact g_iret F hlk hr d_X_addSensor_66
  refine g_iload_n F d_X_addSensor_19 3 rfl ?_
  refine g_iconst F (v := 0) d_X_addSensor_20 (by decide) ?_
  refine g_bipush F (v := 99) d_X_addSensor_21 (by decide) ?_
  refine g_callS F (dp := 0) (As := [.int p3, .int (0 : Int32), .int (99 : Int32)]) (c_X_isWithin l _ _ _ _) cs_7_33 rfl rfl (Nat.le_of_ble_eq_true rfl) ⟨Nat.le_of_ble_eq_true rfl, Nat.le_of_ble_eq_true rfl⟩ ⟨Nat.zero_le _, Nat.zero_le _⟩ d_X_addSensor_23 (fun r5 σ6 h7 => ?_)
  refine g_if_eq F (tgt := 65) d_X_addSensor_26 (by decide) (fun h8 => ?_) (fun h9 => ?_)
  · refine g_iconst F (v := (-1)) d_X_addSensor_65 (by decide) ?_
    exact g_iret F hlk hr d_X_addSensor_66
  refine g_iload F d_X_addSensor_29 4 rfl ?_
  refine g_iconst F (v := 0) d_X_addSensor_31 (by decide) ?_
  refine g_sipush F (v := 999) d_X_addSensor_32 (by decide) ?_
  refine g_callS F (dp := 0) (As := [.int p4, .int (0 : Int32), .int (999 : Int32)]) (c_X_isWithin l _ _ _ _) cs_7_33 rfl rfl (Nat.le_of_ble_eq_true rfl) ⟨Nat.le_of_ble_eq_true rfl, Nat.le_of_ble_eq_true rfl⟩ ⟨Nat.zero_le _, Nat.zero_le _⟩ d_X_addSensor_35 (fun r7 σ8 h10 => ?_)
  refine g_if_eq F (tgt := 65) d_X_addSensor_38 (by decide) (fun h11 => ?_) (fun h12 => ?_)
  · refine g_iconst F (v := (-1)) d_X_addSensor_65 (by decide) ?_
    exact g_iret F hlk hr d_X_addSensor_66
  refine g_iload F d_X_addSensor_41 5 rfl ?_
  refine g_iconst F (v := 0) d_X_addSensor_43 (by decide) ?_
  refine g_iload_n F d_X_addSensor_44 1 rfl ?_
  refine g_callS F (dp := 1) (As := [.int p1]) (c_X_greatestJitter l _ _) cs_7_37 rfl rfl (Nat.le_of_ble_eq_true rfl) ⟨Nat.le_of_ble_eq_true rfl, Nat.le_of_ble_eq_true rfl⟩ ⟨Nat.zero_le _, Nat.zero_le _⟩ d_X_addSensor_45 (fun r9 σ10 h13 => ?_)
  refine g_callS F (dp := 0) (As := [.int p5, .int (0 : Int32), .int r9]) (c_X_isWithin l _ _ _ _) cs_7_33 rfl rfl (Nat.le_of_ble_eq_true rfl) ⟨Nat.le_of_ble_eq_true rfl, Nat.le_of_ble_eq_true rfl⟩ ⟨Nat.zero_le _, Nat.zero_le _⟩ d_X_addSensor_48 (fun r11 σ12 h14 => ?_)
  refine g_if_eq F (tgt := 65) d_X_addSensor_51 (by decide) (fun h15 => ?_) (fun h16 => ?_)
  · refine g_iconst F (v := (-1)) d_X_addSensor_65 (by decide) ?_
    exact g_iret F hlk hr d_X_addSensor_66
  refine g_iload F d_X_addSensor_54 6 rfl ?_
  refine g_iconst F (v := 1) d_X_addSensor_56 (by decide) ?_
  refine g_bipush F (v := 50) d_X_addSensor_57 (by decide) ?_
  refine g_callS F (dp := 0) (As := [.int p6, .int (1 : Int32), .int (50 : Int32)]) (c_X_isWithin l _ _ _ _) cs_7_33 rfl rfl (Nat.le_of_ble_eq_true rfl) ⟨Nat.le_of_ble_eq_true rfl, Nat.le_of_ble_eq_true rfl⟩ ⟨Nat.zero_le _, Nat.zero_le _⟩ d_X_addSensor_59 (fun r13 σ14 h17 => ?_)
  refine g_if_ne F (tgt := 67) d_X_addSensor_62 (by decide) (fun h18 => ?_) (fun h19 => ?_)
  · refine g_iconst F (v := (-1)) d_X_addSensor_65 (by decide) ?_
    exact g_iret F hlk hr d_X_addSensor_66
  refine g_aload_n F d_X_addSensor_67 0 rfl ?_
  refine g_getR F fs_7_10 hq.1 rfl d_X_addSensor_68 ?_
  refine g_callV F (dp := 0) (ci := 2) (As := []) (c_Hub_hasAllSensors l _ hq.2.1 _) cv_7_41 hq.2.1.1 rfl rfl rfl (Nat.le_of_ble_eq_true rfl) ⟨Nat.le_of_ble_eq_true rfl, Nat.le_of_ble_eq_true rfl⟩ ⟨Nat.zero_le _, Nat.zero_le _⟩ d_X_addSensor_71 (fun r15 σ16 h20 => ?_)
  refine g_if_eq F (tgt := 80) d_X_addSensor_74 (by decide) (fun h21 => ?_) (fun h22 => ?_)
  · refine g_aload_n F d_X_addSensor_80 0 rfl ?_
    refine g_getR F fs_7_22 hq.1 rfl d_X_addSensor_81 ?_
    refine g_aload_n F d_X_addSensor_84 0 rfl ?_
    refine g_getR F fs_7_10 hq.1 rfl d_X_addSensor_85 ?_
    refine g_callV F (dp := 3) (ci := 1) (As := [.ref (xa X (q + 1))]) (c_His_record l _ _ hq.2.2.2.1 hq.2.1 _) cv_7_45 hq.2.2.2.1.1 rfl rfl rfl (Nat.le_of_ble_eq_true rfl) ⟨Nat.le_of_ble_eq_true rfl, Nat.le_of_ble_eq_true rfl⟩ ⟨Nat.zero_le _, Nat.zero_le _⟩ d_X_addSensor_88 (fun _ σ18 h23 => ?_)
    refine g_aload_n F d_X_addSensor_91 0 rfl ?_
    refine g_getR F fs_7_10 hq.1 rfl d_X_addSensor_92 ?_
    refine g_iload_n F d_X_addSensor_95 1 rfl ?_
    refine g_iload_n F d_X_addSensor_96 2 rfl ?_
    refine g_iload_n F d_X_addSensor_97 3 rfl ?_
    refine g_iload F d_X_addSensor_98 4 rfl ?_
    refine g_iload F d_X_addSensor_100 5 rfl ?_
    refine g_iload F d_X_addSensor_102 6 rfl ?_
    refine g_callV F (dp := 2) (ci := 2) (As := [.int p1, .int p2, .int p3, .int p4, .int p5, .int p6]) (c_Hub_addPhysical l _ _ _ _ _ _ _ hq.2.1 _) cv_7_49 hq.2.1.1 rfl rfl rfl (Nat.le_of_ble_eq_true rfl) ⟨Nat.le_of_ble_eq_true rfl, Nat.le_of_ble_eq_true rfl⟩ ⟨Nat.zero_le _, Nat.zero_le _⟩ d_X_addSensor_104 (fun r19 σ20 h24 => ?_)
    exact g_iret F hlk hr d_X_addSensor_107
  refine g_bipush F (v := (-3)) d_X_addSensor_77 (by decide) ?_
  exact g_iret F hlk hr d_X_addSensor_79
def y_X_addDerived : MethodName := ⟨"SensorHub", "addDerived", "(III)I"⟩
theorem d_X_addDerived_0 : decode prog_1_method_3_code 0 = .ok (.iload_n 1, 1) := by decide +kernel
theorem d_X_addDerived_1 : decode prog_1_method_3_code 1 = .ok (.iconst 0, 1) := by decide +kernel
theorem d_X_addDerived_2 : decode prog_1_method_3_code 2 = .ok (.iconst 3, 1) := by decide +kernel
theorem d_X_addDerived_3 : decode prog_1_method_3_code 3 = .ok (.invokestatic 33, 3) := by decide +kernel
theorem d_X_addDerived_6 : decode prog_1_method_3_code 6 = .ok (.ifCond .eq 26, 3) := by decide +kernel
theorem d_X_addDerived_9 : decode prog_1_method_3_code 9 = .ok (.aload_n 0, 1) := by decide +kernel
theorem d_X_addDerived_10 : decode prog_1_method_3_code 10 = .ok (.getfield 10, 3) := by decide +kernel
theorem d_X_addDerived_13 : decode prog_1_method_3_code 13 = .ok (.iload_n 2, 1) := by decide +kernel
theorem d_X_addDerived_14 : decode prog_1_method_3_code 14 = .ok (.invokevirtual 53, 3) := by decide +kernel
theorem d_X_addDerived_17 : decode prog_1_method_3_code 17 = .ok (.ifnull 15, 3) := by decide +kernel
theorem d_X_addDerived_20 : decode prog_1_method_3_code 20 = .ok (.aload_n 0, 1) := by decide +kernel
theorem d_X_addDerived_21 : decode prog_1_method_3_code 21 = .ok (.getfield 10, 3) := by decide +kernel
theorem d_X_addDerived_24 : decode prog_1_method_3_code 24 = .ok (.iload_n 1, 1) := by decide +kernel
theorem d_X_addDerived_25 : decode prog_1_method_3_code 25 = .ok (.iload_n 3, 1) := by decide +kernel
theorem d_X_addDerived_26 : decode prog_1_method_3_code 26 = .ok (.invokevirtual 57, 3) := by decide +kernel
theorem d_X_addDerived_29 : decode prog_1_method_3_code 29 = .ok (.ifCond .ne 5, 3) := by decide +kernel
theorem d_X_addDerived_32 : decode prog_1_method_3_code 32 = .ok (.iconst (-1), 1) := by decide +kernel
theorem d_X_addDerived_33 : decode prog_1_method_3_code 33 = .ok (.ireturn, 1) := by decide +kernel
theorem d_X_addDerived_34 : decode prog_1_method_3_code 34 = .ok (.aload_n 0, 1) := by decide +kernel
theorem d_X_addDerived_35 : decode prog_1_method_3_code 35 = .ok (.getfield 10, 3) := by decide +kernel
theorem d_X_addDerived_38 : decode prog_1_method_3_code 38 = .ok (.invokevirtual 41, 3) := by decide +kernel
theorem d_X_addDerived_41 : decode prog_1_method_3_code 41 = .ok (.ifCond .eq 6, 3) := by decide +kernel
theorem d_X_addDerived_44 : decode prog_1_method_3_code 44 = .ok (.bipush (-3), 2) := by decide +kernel
theorem d_X_addDerived_46 : decode prog_1_method_3_code 46 = .ok (.ireturn, 1) := by decide +kernel
theorem d_X_addDerived_47 : decode prog_1_method_3_code 47 = .ok (.aload_n 0, 1) := by decide +kernel
theorem d_X_addDerived_48 : decode prog_1_method_3_code 48 = .ok (.getfield 22, 3) := by decide +kernel
theorem d_X_addDerived_51 : decode prog_1_method_3_code 51 = .ok (.aload_n 0, 1) := by decide +kernel
theorem d_X_addDerived_52 : decode prog_1_method_3_code 52 = .ok (.getfield 10, 3) := by decide +kernel
theorem d_X_addDerived_55 : decode prog_1_method_3_code 55 = .ok (.invokevirtual 45, 3) := by decide +kernel
theorem d_X_addDerived_58 : decode prog_1_method_3_code 58 = .ok (.aload_n 0, 1) := by decide +kernel
theorem d_X_addDerived_59 : decode prog_1_method_3_code 59 = .ok (.getfield 10, 3) := by decide +kernel
theorem d_X_addDerived_62 : decode prog_1_method_3_code 62 = .ok (.iload_n 1, 1) := by decide +kernel
theorem d_X_addDerived_63 : decode prog_1_method_3_code 63 = .ok (.iload_n 2, 1) := by decide +kernel
theorem d_X_addDerived_64 : decode prog_1_method_3_code 64 = .ok (.iload_n 3, 1) := by decide +kernel
theorem d_X_addDerived_65 : decode prog_1_method_3_code 65 = .ok (.invokevirtual 61, 3) := by decide +kernel
theorem d_X_addDerived_68 : decode prog_1_method_3_code 68 = .ok (.ireturn, 1) := by decide +kernel
theorem cv_7_53 : CSV "SensorHub" 53 y_Hub_sensorAt prog_4_method_6_code 2 (some (.object "SensorHub$Sensor")) 1 := ⟨gw_I 463 (by decide +kernel) rfl, gw_I 464 (by decide +kernel) rfl, gw_I 465 (by decide +kernel) rfl, gw_I 71 (by decide +kernel) rfl, gw_I 466 (by decide +kernel) rfl, ⟨by decide +kernel, by decide +kernel⟩, by decide +kernel⟩
theorem cv_7_57 : CSV "SensorHub" 57 y_Hub_isSecond prog_4_method_10_code 3 (some .boolean) 2 := ⟨gw_I 467 (by decide +kernel) rfl, gw_I 468 (by decide +kernel) rfl, gw_I 469 (by decide +kernel) rfl, gw_I 71 (by decide +kernel) rfl, gw_I 470 (by decide +kernel) rfl, ⟨by decide +kernel, by decide +kernel⟩, by decide +kernel⟩
theorem cv_7_61 : CSV "SensorHub" 61 y_Hub_addComputed prog_4_method_12_code 8 (some .int) 3 := ⟨gw_I 472 (by decide +kernel) rfl, gw_I 473 (by decide +kernel) rfl, gw_I 474 (by decide +kernel) rfl, gw_I 71 (by decide +kernel) rfl, gw_I 475 (by decide +kernel) rfl, ⟨by decide +kernel, by decide +kernel⟩, by decide +kernel⟩
def f_X_addDerived (q : Nat) (p1 : Int32) (p2 : Int32) (p3 : Int32) (σ : Mem) : Option (Int32 × Mem) :=
  bd (f_X_isWithin p1 (0 : Int32) (3 : Int32) σ) fun r1 σ2 =>
  if r1 = 0 then
    some ((-1 : Int32), σ2)
  else
    bd (f_Hub_sensorAt (q + 1) p2 σ2) fun r3 σ4 =>
    oe r3 (
      some ((-1 : Int32), σ4)
    ) (fun o5 =>
      bd (f_Hub_isSecond (q + 1) p1 p3 σ4) fun r6 σ7 =>
      if r6 = 0 then
        some ((-1 : Int32), σ7)
      else
        bd (f_Hub_hasAllSensors (q + 1) σ7) fun r8 σ9 =>
        if r8 = 0 then
          bd (f_His_record (q + 85) (q + 1) σ9) fun _ σ11 =>
          bd (f_Hub_addComputed (q + 1) p1 p2 p3 σ11) fun r12 σ13 =>
          some (r12, σ13)
        else
          some ((-3 : Int32), σ9)
    )
set_option maxRecDepth 100000 in
set_option maxHeartbeats 4000000 in
theorem c_X_addDerived {X : CX} (l : Launch) (q : Nat) (p1 : Int32) (p2 : Int32) (p3 : Int32) (hq : TopOK X q) (σ : Mem) : CT X l y_X_addDerived prog_1_method_3_code 4 (some .int) 4 vI [.ref (xa X q), .int p1, .int p2, .int p3] σ (f_X_addDerived q p1 p2 p3 σ) := by
  refine CT_of (by decide +kernel) (Nat.le_of_ble_eq_true rfl) ?_
  intro p e s m args below meth c F hlk hr
  have F : FR p s m args c prog_1_method_3_code 4 "SensorHub" X := F
  show G X p l e (rmD 4) s m args below meth c 4 0 0 (QI X below args s vI) 0 [(0, .ref (xa X q)), (1, .int p1), (2, .int p2), (3, .int p3)] [] σ _
  unfold f_X_addDerived
  refine g_iload_n F d_X_addDerived_0 1 rfl ?_
  refine g_iconst F (v := 0) d_X_addDerived_1 (by decide) ?_
  refine g_iconst F (v := 3) d_X_addDerived_2 (by decide) ?_
  refine g_callS F (dp := 0) (As := [.int p1, .int (0 : Int32), .int (3 : Int32)]) (c_X_isWithin l _ _ _ _) cs_7_33 rfl rfl (Nat.le_of_ble_eq_true rfl) ⟨Nat.le_of_ble_eq_true rfl, Nat.le_of_ble_eq_true rfl⟩ ⟨Nat.zero_le _, Nat.zero_le _⟩ d_X_addDerived_3 (fun r1 σ2 h1 => ?_)
  refine g_if_eq F (tgt := 32) d_X_addDerived_6 (by decide) (fun h2 => ?_) (fun h3 => ?_)
  · refine g_iconst F (v := (-1)) d_X_addDerived_32 (by decide) ?_
    exact g_iret F hlk hr d_X_addDerived_33
  refine g_aload_n F d_X_addDerived_9 0 rfl ?_
  refine g_getR F fs_7_10 hq.1 rfl d_X_addDerived_10 ?_
  refine g_iload_n F d_X_addDerived_13 2 rfl ?_
  refine g_callV F (dp := 0) (ci := 2) (As := [.int p2]) (c_Hub_sensorAt l _ _ hq.2.1 _) cv_7_53 hq.2.1.1 rfl rfl rfl (Nat.le_of_ble_eq_true rfl) ⟨Nat.le_of_ble_eq_true rfl, Nat.le_of_ble_eq_true rfl⟩ ⟨Nat.zero_le _, Nat.zero_le _⟩ d_X_addDerived_14 (fun r3 σ4 h4 => ?_)
  refine g_oe (fun h5 => ?_) (fun o5 h6 => ?_)
  · refine g_ifnullN F (tgt := 32) d_X_addDerived_17 (by decide) ?_
    refine g_iconst F (v := (-1)) d_X_addDerived_32 (by decide) ?_
    exact g_iret F hlk hr d_X_addDerived_33
  have h7 : SensorOK X o5 := ok_Hub_sensorAt hq.2.1 (h6 ▸ h4)
  refine g_ifnull F d_X_addDerived_17 ?_
  refine g_aload_n F d_X_addDerived_20 0 rfl ?_
  refine g_getR F fs_7_10 hq.1 rfl d_X_addDerived_21 ?_
  refine g_iload_n F d_X_addDerived_24 1 rfl ?_
  refine g_iload_n F d_X_addDerived_25 3 rfl ?_
  refine g_callV F (dp := 1) (ci := 2) (As := [.int p1, .int p3]) (c_Hub_isSecond l _ _ _ hq.2.1 _) cv_7_57 hq.2.1.1 rfl rfl rfl (Nat.le_of_ble_eq_true rfl) ⟨Nat.le_of_ble_eq_true rfl, Nat.le_of_ble_eq_true rfl⟩ ⟨Nat.zero_le _, Nat.zero_le _⟩ d_X_addDerived_26 (fun r6 σ7 h8 => ?_)
  refine g_if_ne F (tgt := 34) d_X_addDerived_29 (by decide) (fun h9 => ?_) (fun h10 => ?_)
  · refine g_iconst F (v := (-1)) d_X_addDerived_32 (by decide) ?_
    exact g_iret F hlk hr d_X_addDerived_33
  refine g_aload_n F d_X_addDerived_34 0 rfl ?_
  refine g_getR F fs_7_10 hq.1 rfl d_X_addDerived_35 ?_
  refine g_callV F (dp := 0) (ci := 2) (As := []) (c_Hub_hasAllSensors l _ hq.2.1 _) cv_7_41 hq.2.1.1 rfl rfl rfl (Nat.le_of_ble_eq_true rfl) ⟨Nat.le_of_ble_eq_true rfl, Nat.le_of_ble_eq_true rfl⟩ ⟨Nat.zero_le _, Nat.zero_le _⟩ d_X_addDerived_38 (fun r8 σ9 h11 => ?_)
  refine g_if_eq F (tgt := 47) d_X_addDerived_41 (by decide) (fun h12 => ?_) (fun h13 => ?_)
  · refine g_aload_n F d_X_addDerived_47 0 rfl ?_
    refine g_getR F fs_7_22 hq.1 rfl d_X_addDerived_48 ?_
    refine g_aload_n F d_X_addDerived_51 0 rfl ?_
    refine g_getR F fs_7_10 hq.1 rfl d_X_addDerived_52 ?_
    refine g_callV F (dp := 3) (ci := 1) (As := [.ref (xa X (q + 1))]) (c_His_record l _ _ hq.2.2.2.1 hq.2.1 _) cv_7_45 hq.2.2.2.1.1 rfl rfl rfl (Nat.le_of_ble_eq_true rfl) ⟨Nat.le_of_ble_eq_true rfl, Nat.le_of_ble_eq_true rfl⟩ ⟨Nat.zero_le _, Nat.zero_le _⟩ d_X_addDerived_55 (fun _ σ11 h14 => ?_)
    refine g_aload_n F d_X_addDerived_58 0 rfl ?_
    refine g_getR F fs_7_10 hq.1 rfl d_X_addDerived_59 ?_
    refine g_iload_n F d_X_addDerived_62 1 rfl ?_
    refine g_iload_n F d_X_addDerived_63 2 rfl ?_
    refine g_iload_n F d_X_addDerived_64 3 rfl ?_
    refine g_callV F (dp := 2) (ci := 2) (As := [.int p1, .int p2, .int p3]) (c_Hub_addComputed l _ _ _ _ hq.2.1 _) cv_7_61 hq.2.1.1 rfl rfl rfl (Nat.le_of_ble_eq_true rfl) ⟨Nat.le_of_ble_eq_true rfl, Nat.le_of_ble_eq_true rfl⟩ ⟨Nat.zero_le _, Nat.zero_le _⟩ d_X_addDerived_65 (fun r12 σ13 h15 => ?_)
    exact g_iret F hlk hr d_X_addDerived_68
  refine g_bipush F (v := (-3)) d_X_addDerived_44 (by decide) ?_
  exact g_iret F hlk hr d_X_addDerived_46
def y_X_addOutage : MethodName := ⟨"SensorHub", "addOutage", "(III)I"⟩
theorem d_X_addOutage_0 : decode prog_1_method_4_code 0 = .ok (.aload_n 0, 1) := by decide +kernel
theorem d_X_addOutage_1 : decode prog_1_method_4_code 1 = .ok (.getfield 10, 3) := by decide +kernel
theorem d_X_addOutage_4 : decode prog_1_method_4_code 4 = .ok (.iload_n 1, 1) := by decide +kernel
theorem d_X_addOutage_5 : decode prog_1_method_4_code 5 = .ok (.invokevirtual 65, 3) := by decide +kernel
theorem d_X_addOutage_8 : decode prog_1_method_4_code 8 = .ok (.ifCond .eq 25, 3) := by decide +kernel
theorem d_X_addOutage_11 : decode prog_1_method_4_code 11 = .ok (.iload_n 2, 1) := by decide +kernel
theorem d_X_addOutage_12 : decode prog_1_method_4_code 12 = .ok (.iconst 0, 1) := by decide +kernel
theorem d_X_addOutage_13 : decode prog_1_method_4_code 13 = .ok (.sipush 9999, 3) := by decide +kernel
theorem d_X_addOutage_16 : decode prog_1_method_4_code 16 = .ok (.invokestatic 33, 3) := by decide +kernel
theorem d_X_addOutage_19 : decode prog_1_method_4_code 19 = .ok (.ifCond .eq 14, 3) := by decide +kernel
theorem d_X_addOutage_22 : decode prog_1_method_4_code 22 = .ok (.iload_n 3, 1) := by decide +kernel
theorem d_X_addOutage_23 : decode prog_1_method_4_code 23 = .ok (.iload_n 2, 1) := by decide +kernel
theorem d_X_addOutage_24 : decode prog_1_method_4_code 24 = .ok (.sipush 9999, 3) := by decide +kernel
theorem d_X_addOutage_27 : decode prog_1_method_4_code 27 = .ok (.invokestatic 33, 3) := by decide +kernel
theorem d_X_addOutage_30 : decode prog_1_method_4_code 30 = .ok (.ifCond .ne 5, 3) := by decide +kernel
theorem d_X_addOutage_33 : decode prog_1_method_4_code 33 = .ok (.iconst (-1), 1) := by decide +kernel
theorem d_X_addOutage_34 : decode prog_1_method_4_code 34 = .ok (.ireturn, 1) := by decide +kernel
theorem d_X_addOutage_35 : decode prog_1_method_4_code 35 = .ok (.aload_n 0, 1) := by decide +kernel
theorem d_X_addOutage_36 : decode prog_1_method_4_code 36 = .ok (.getfield 10, 3) := by decide +kernel
theorem d_X_addOutage_39 : decode prog_1_method_4_code 39 = .ok (.getfield 69, 3) := by decide +kernel
theorem d_X_addOutage_42 : decode prog_1_method_4_code 42 = .ok (.invokevirtual 73, 3) := by decide +kernel
theorem d_X_addOutage_45 : decode prog_1_method_4_code 45 = .ok (.ifCond .eq 6, 3) := by decide +kernel
theorem d_X_addOutage_48 : decode prog_1_method_4_code 48 = .ok (.bipush (-3), 2) := by decide +kernel
theorem d_X_addOutage_50 : decode prog_1_method_4_code 50 = .ok (.ireturn, 1) := by decide +kernel
theorem d_X_addOutage_51 : decode prog_1_method_4_code 51 = .ok (.aload_n 0, 1) := by decide +kernel
theorem d_X_addOutage_52 : decode prog_1_method_4_code 52 = .ok (.getfield 22, 3) := by decide +kernel
theorem d_X_addOutage_55 : decode prog_1_method_4_code 55 = .ok (.aload_n 0, 1) := by decide +kernel
theorem d_X_addOutage_56 : decode prog_1_method_4_code 56 = .ok (.getfield 10, 3) := by decide +kernel
theorem d_X_addOutage_59 : decode prog_1_method_4_code 59 = .ok (.invokevirtual 45, 3) := by decide +kernel
theorem d_X_addOutage_62 : decode prog_1_method_4_code 62 = .ok (.aload_n 0, 1) := by decide +kernel
theorem d_X_addOutage_63 : decode prog_1_method_4_code 63 = .ok (.getfield 10, 3) := by decide +kernel
theorem d_X_addOutage_66 : decode prog_1_method_4_code 66 = .ok (.getfield 69, 3) := by decide +kernel
theorem d_X_addOutage_69 : decode prog_1_method_4_code 69 = .ok (.iload_n 1, 1) := by decide +kernel
theorem d_X_addOutage_70 : decode prog_1_method_4_code 70 = .ok (.iload_n 2, 1) := by decide +kernel
theorem d_X_addOutage_71 : decode prog_1_method_4_code 71 = .ok (.iload_n 3, 1) := by decide +kernel
theorem d_X_addOutage_72 : decode prog_1_method_4_code 72 = .ok (.invokevirtual 78, 3) := by decide +kernel
theorem d_X_addOutage_75 : decode prog_1_method_4_code 75 = .ok (.ireturn, 1) := by decide +kernel
theorem cv_7_65 : CSV "SensorHub" 65 y_Hub_isPhysical prog_4_method_9_code 3 (some .boolean) 1 := ⟨gw_I 487 (by decide +kernel) rfl, gw_I 488 (by decide +kernel) rfl, gw_I 489 (by decide +kernel) rfl, gw_I 71 (by decide +kernel) rfl, gw_I 490 (by decide +kernel) rfl, ⟨by decide +kernel, by decide +kernel⟩, by decide +kernel⟩
theorem fs_7_69 : FS "SensorHub" 69 2 9 := ⟨"SensorHub$Hub", T_2, 11, rfl, by decide, rfl, gw_I 303 (by decide +kernel) rfl⟩
theorem cv_7_73 : CSV "SensorHub" 73 y_Out_isFull prog_5_method_2_code 1 (some .boolean) 0 := ⟨gw_I 491 (by decide +kernel) rfl, gw_I 492 (by decide +kernel) rfl, gw_I 493 (by decide +kernel) rfl, gw_I 72 (by decide +kernel) rfl, gw_I 494 (by decide +kernel) rfl, ⟨by decide +kernel, by decide +kernel⟩, by decide +kernel⟩
theorem cv_7_78 : CSV "SensorHub" 78 y_Out_add prog_5_method_3_code 4 (some .int) 3 := ⟨gw_I 495 (by decide +kernel) rfl, gw_I 496 (by decide +kernel) rfl, gw_I 497 (by decide +kernel) rfl, gw_I 72 (by decide +kernel) rfl, gw_I 498 (by decide +kernel) rfl, ⟨by decide +kernel, by decide +kernel⟩, by decide +kernel⟩
def f_X_addOutage (q : Nat) (p1 : Int32) (p2 : Int32) (p3 : Int32) (σ : Mem) : Option (Int32 × Mem) :=
  bd (f_Hub_isPhysical (q + 1) p1 σ) fun r1 σ2 =>
  if r1 = 0 then
    some ((-1 : Int32), σ2)
  else
    bd (f_X_isWithin p2 (0 : Int32) (9999 : Int32) σ2) fun r3 σ4 =>
    if r3 = 0 then
      some ((-1 : Int32), σ4)
    else
      bd (f_X_isWithin p3 p2 (9999 : Int32) σ4) fun r5 σ6 =>
      if r5 = 0 then
        some ((-1 : Int32), σ6)
      else
        bd (f_Out_isFull (q + 1 + 4) σ6) fun r7 σ8 =>
        if r7 = 0 then
          bd (f_His_record (q + 85) (q + 1) σ8) fun _ σ10 =>
          bd (f_Out_add (q + 1 + 4) p1 p2 p3 σ10) fun r11 σ12 =>
          some (r11, σ12)
        else
          some ((-3 : Int32), σ8)
set_option maxRecDepth 100000 in
set_option maxHeartbeats 4000000 in
theorem c_X_addOutage {X : CX} (l : Launch) (q : Nat) (p1 : Int32) (p2 : Int32) (p3 : Int32) (hq : TopOK X q) (σ : Mem) : CT X l y_X_addOutage prog_1_method_4_code 4 (some .int) 4 vI [.ref (xa X q), .int p1, .int p2, .int p3] σ (f_X_addOutage q p1 p2 p3 σ) := by
  refine CT_of (by decide +kernel) (Nat.le_of_ble_eq_true rfl) ?_
  intro p e s m args below meth c F hlk hr
  have F : FR p s m args c prog_1_method_4_code 4 "SensorHub" X := F
  show G X p l e (rmD 4) s m args below meth c 4 0 0 (QI X below args s vI) 0 [(0, .ref (xa X q)), (1, .int p1), (2, .int p2), (3, .int p3)] [] σ _
  unfold f_X_addOutage
  refine g_aload_n F d_X_addOutage_0 0 rfl ?_
  refine g_getR F fs_7_10 hq.1 rfl d_X_addOutage_1 ?_
  refine g_iload_n F d_X_addOutage_4 1 rfl ?_
  refine g_callV F (dp := 1) (ci := 2) (As := [.int p1]) (c_Hub_isPhysical l _ _ hq.2.1 _) cv_7_65 hq.2.1.1 rfl rfl rfl (Nat.le_of_ble_eq_true rfl) ⟨Nat.le_of_ble_eq_true rfl, Nat.le_of_ble_eq_true rfl⟩ ⟨Nat.zero_le _, Nat.zero_le _⟩ d_X_addOutage_5 (fun r1 σ2 h1 => ?_)
  refine g_if_eq F (tgt := 33) d_X_addOutage_8 (by decide) (fun h2 => ?_) (fun h3 => ?_)
  · refine g_iconst F (v := (-1)) d_X_addOutage_33 (by decide) ?_
    exact g_iret F hlk hr d_X_addOutage_34
  refine g_iload_n F d_X_addOutage_11 2 rfl ?_
  refine g_iconst F (v := 0) d_X_addOutage_12 (by decide) ?_
  refine g_sipush F (v := 9999) d_X_addOutage_13 (by decide) ?_
  refine g_callS F (dp := 0) (As := [.int p2, .int (0 : Int32), .int (9999 : Int32)]) (c_X_isWithin l _ _ _ _) cs_7_33 rfl rfl (Nat.le_of_ble_eq_true rfl) ⟨Nat.le_of_ble_eq_true rfl, Nat.le_of_ble_eq_true rfl⟩ ⟨Nat.zero_le _, Nat.zero_le _⟩ d_X_addOutage_16 (fun r3 σ4 h4 => ?_)
  refine g_if_eq F (tgt := 33) d_X_addOutage_19 (by decide) (fun h5 => ?_) (fun h6 => ?_)
  · refine g_iconst F (v := (-1)) d_X_addOutage_33 (by decide) ?_
    exact g_iret F hlk hr d_X_addOutage_34
  refine g_iload_n F d_X_addOutage_22 3 rfl ?_
  refine g_iload_n F d_X_addOutage_23 2 rfl ?_
  refine g_sipush F (v := 9999) d_X_addOutage_24 (by decide) ?_
  refine g_callS F (dp := 0) (As := [.int p3, .int p2, .int (9999 : Int32)]) (c_X_isWithin l _ _ _ _) cs_7_33 rfl rfl (Nat.le_of_ble_eq_true rfl) ⟨Nat.le_of_ble_eq_true rfl, Nat.le_of_ble_eq_true rfl⟩ ⟨Nat.zero_le _, Nat.zero_le _⟩ d_X_addOutage_27 (fun r5 σ6 h7 => ?_)
  refine g_if_ne F (tgt := 35) d_X_addOutage_30 (by decide) (fun h8 => ?_) (fun h9 => ?_)
  · refine g_iconst F (v := (-1)) d_X_addOutage_33 (by decide) ?_
    exact g_iret F hlk hr d_X_addOutage_34
  refine g_aload_n F d_X_addOutage_35 0 rfl ?_
  refine g_getR F fs_7_10 hq.1 rfl d_X_addOutage_36 ?_
  refine g_getR F fs_7_69 hq.2.1.1 rfl d_X_addOutage_39 ?_
  refine g_callV F (dp := 0) (ci := 3) (As := []) (c_Out_isFull l _ hq.2.1.2.2.2.2.1 _) cv_7_73 hq.2.1.2.2.2.2.1.1 rfl rfl rfl (Nat.le_of_ble_eq_true rfl) ⟨Nat.le_of_ble_eq_true rfl, Nat.le_of_ble_eq_true rfl⟩ ⟨Nat.zero_le _, Nat.zero_le _⟩ d_X_addOutage_42 (fun r7 σ8 h10 => ?_)
  refine g_if_eq F (tgt := 51) d_X_addOutage_45 (by decide) (fun h11 => ?_) (fun h12 => ?_)
  · refine g_aload_n F d_X_addOutage_51 0 rfl ?_
    refine g_getR F fs_7_22 hq.1 rfl d_X_addOutage_52 ?_
    refine g_aload_n F d_X_addOutage_55 0 rfl ?_
    refine g_getR F fs_7_10 hq.1 rfl d_X_addOutage_56 ?_
    refine g_callV F (dp := 3) (ci := 1) (As := [.ref (xa X (q + 1))]) (c_His_record l _ _ hq.2.2.2.1 hq.2.1 _) cv_7_45 hq.2.2.2.1.1 rfl rfl rfl (Nat.le_of_ble_eq_true rfl) ⟨Nat.le_of_ble_eq_true rfl, Nat.le_of_ble_eq_true rfl⟩ ⟨Nat.zero_le _, Nat.zero_le _⟩ d_X_addOutage_59 (fun _ σ10 h13 => ?_)
    refine g_aload_n F d_X_addOutage_62 0 rfl ?_
    refine g_getR F fs_7_10 hq.1 rfl d_X_addOutage_63 ?_
    refine g_getR F fs_7_69 hq.2.1.1 rfl d_X_addOutage_66 ?_
    refine g_iload_n F d_X_addOutage_69 1 rfl ?_
    refine g_iload_n F d_X_addOutage_70 2 rfl ?_
    refine g_iload_n F d_X_addOutage_71 3 rfl ?_
    refine g_callV F (dp := 1) (ci := 3) (As := [.int p1, .int p2, .int p3]) (c_Out_add l _ _ _ _ hq.2.1.2.2.2.2.1 _) cv_7_78 hq.2.1.2.2.2.2.1.1 rfl rfl rfl (Nat.le_of_ble_eq_true rfl) ⟨Nat.le_of_ble_eq_true rfl, Nat.le_of_ble_eq_true rfl⟩ ⟨Nat.zero_le _, Nat.zero_le _⟩ d_X_addOutage_72 (fun r11 σ12 h14 => ?_)
    exact g_iret F hlk hr d_X_addOutage_75
  refine g_bipush F (v := (-3)) d_X_addOutage_48 (by decide) ?_
  exact g_iret F hlk hr d_X_addOutage_50
def y_X_subscribe : MethodName := ⟨"SensorHub", "subscribe", "(III)I"⟩
theorem d_X_subscribe_0 : decode prog_1_method_5_code 0 = .ok (.aload_n 0, 1) := by decide +kernel
theorem d_X_subscribe_1 : decode prog_1_method_5_code 1 = .ok (.getfield 10, 3) := by decide +kernel
theorem d_X_subscribe_4 : decode prog_1_method_5_code 4 = .ok (.iload_n 1, 1) := by decide +kernel
theorem d_X_subscribe_5 : decode prog_1_method_5_code 5 = .ok (.invokevirtual 53, 3) := by decide +kernel
theorem d_X_subscribe_8 : decode prog_1_method_5_code 8 = .ok (.astore 4, 2) := by decide +kernel
theorem d_X_subscribe_10 : decode prog_1_method_5_code 10 = .ok (.aload 4, 2) := by decide +kernel
theorem d_X_subscribe_12 : decode prog_1_method_5_code 12 = .ok (.ifnull 25, 3) := by decide +kernel
theorem d_X_subscribe_15 : decode prog_1_method_5_code 15 = .ok (.iload_n 2, 1) := by decide +kernel
theorem d_X_subscribe_16 : decode prog_1_method_5_code 16 = .ok (.iconst 1, 1) := by decide +kernel
theorem d_X_subscribe_17 : decode prog_1_method_5_code 17 = .ok (.sipush 400, 3) := by decide +kernel
theorem d_X_subscribe_20 : decode prog_1_method_5_code 20 = .ok (.invokestatic 33, 3) := by decide +kernel
theorem d_X_subscribe_23 : decode prog_1_method_5_code 23 = .ok (.ifCond .eq 14, 3) := by decide +kernel
theorem d_X_subscribe_26 : decode prog_1_method_5_code 26 = .ok (.iload_n 3, 1) := by decide +kernel
theorem d_X_subscribe_27 : decode prog_1_method_5_code 27 = .ok (.iconst 0, 1) := by decide +kernel
theorem d_X_subscribe_28 : decode prog_1_method_5_code 28 = .ok (.sipush 400, 3) := by decide +kernel
theorem d_X_subscribe_31 : decode prog_1_method_5_code 31 = .ok (.invokestatic 33, 3) := by decide +kernel
theorem d_X_subscribe_34 : decode prog_1_method_5_code 34 = .ok (.ifCond .ne 5, 3) := by decide +kernel
theorem d_X_subscribe_37 : decode prog_1_method_5_code 37 = .ok (.iconst (-1), 1) := by decide +kernel
theorem d_X_subscribe_38 : decode prog_1_method_5_code 38 = .ok (.ireturn, 1) := by decide +kernel
theorem d_X_subscribe_39 : decode prog_1_method_5_code 39 = .ok (.iload_n 2, 1) := by decide +kernel
theorem d_X_subscribe_40 : decode prog_1_method_5_code 40 = .ok (.aload 4, 2) := by decide +kernel
theorem d_X_subscribe_42 : decode prog_1_method_5_code 42 = .ok (.getfield 81, 3) := by decide +kernel
theorem d_X_subscribe_45 : decode prog_1_method_5_code 45 = .ok (.if_icmp .ge 6, 3) := by decide +kernel
theorem d_X_subscribe_48 : decode prog_1_method_5_code 48 = .ok (.bipush (-2), 2) := by decide +kernel
theorem d_X_subscribe_50 : decode prog_1_method_5_code 50 = .ok (.ireturn, 1) := by decide +kernel
theorem d_X_subscribe_51 : decode prog_1_method_5_code 51 = .ok (.aload_n 0, 1) := by decide +kernel
theorem d_X_subscribe_52 : decode prog_1_method_5_code 52 = .ok (.getfield 10, 3) := by decide +kernel
theorem d_X_subscribe_55 : decode prog_1_method_5_code 55 = .ok (.invokevirtual 87, 3) := by decide +kernel
theorem d_X_subscribe_58 : decode prog_1_method_5_code 58 = .ok (.istore 5, 2) := by decide +kernel
theorem d_X_subscribe_60 : decode prog_1_method_5_code 60 = .ok (.iload 5, 2) := by decide +kernel
theorem d_X_subscribe_62 : decode prog_1_method_5_code 62 = .ok (.bipush (-9), 2) := by decide +kernel
theorem d_X_subscribe_64 : decode prog_1_method_5_code 64 = .ok (.if_icmp .ne 6, 3) := by decide +kernel
theorem d_X_subscribe_67 : decode prog_1_method_5_code 67 = .ok (.bipush (-3), 2) := by decide +kernel
theorem d_X_subscribe_69 : decode prog_1_method_5_code 69 = .ok (.ireturn, 1) := by decide +kernel
theorem d_X_subscribe_70 : decode prog_1_method_5_code 70 = .ok (.aload_n 0, 1) := by decide +kernel
theorem d_X_subscribe_71 : decode prog_1_method_5_code 71 = .ok (.getfield 22, 3) := by decide +kernel
theorem d_X_subscribe_74 : decode prog_1_method_5_code 74 = .ok (.aload_n 0, 1) := by decide +kernel
theorem d_X_subscribe_75 : decode prog_1_method_5_code 75 = .ok (.getfield 10, 3) := by decide +kernel
theorem d_X_subscribe_78 : decode prog_1_method_5_code 78 = .ok (.invokevirtual 45, 3) := by decide +kernel
theorem d_X_subscribe_81 : decode prog_1_method_5_code 81 = .ok (.aload_n 0, 1) := by decide +kernel
theorem d_X_subscribe_82 : decode prog_1_method_5_code 82 = .ok (.getfield 10, 3) := by decide +kernel
theorem d_X_subscribe_85 : decode prog_1_method_5_code 85 = .ok (.iconst 2, 1) := by decide +kernel
theorem d_X_subscribe_86 : decode prog_1_method_5_code 86 = .ok (.invokevirtual 91, 3) := by decide +kernel
theorem d_X_subscribe_89 : decode prog_1_method_5_code 89 = .ok (.pop, 1) := by decide +kernel
theorem d_X_subscribe_90 : decode prog_1_method_5_code 90 = .ok (.aload_n 0, 1) := by decide +kernel
theorem d_X_subscribe_91 : decode prog_1_method_5_code 91 = .ok (.getfield 10, 3) := by decide +kernel
theorem d_X_subscribe_94 : decode prog_1_method_5_code 94 = .ok (.iload 5, 2) := by decide +kernel
theorem d_X_subscribe_96 : decode prog_1_method_5_code 96 = .ok (.iload_n 1, 1) := by decide +kernel
theorem d_X_subscribe_97 : decode prog_1_method_5_code 97 = .ok (.iload_n 2, 1) := by decide +kernel
theorem d_X_subscribe_98 : decode prog_1_method_5_code 98 = .ok (.iload_n 3, 1) := by decide +kernel
theorem d_X_subscribe_99 : decode prog_1_method_5_code 99 = .ok (.invokevirtual 94, 3) := by decide +kernel
theorem d_X_subscribe_102 : decode prog_1_method_5_code 102 = .ok (.iload 5, 2) := by decide +kernel
theorem d_X_subscribe_104 : decode prog_1_method_5_code 104 = .ok (.ireturn, 1) := by decide +kernel
theorem fs_7_81 : FS "SensorHub" 81 4 1 := ⟨"SensorHub$Sensor", T_4, 18, rfl, by decide, rfl, gw_I 149 (by decide +kernel) rfl⟩
theorem cv_7_87 : CSV "SensorHub" 87 y_Hub_freeClientNumber prog_4_method_14_code 2 (some .int) 0 := ⟨gw_I 504 (by decide +kernel) rfl, gw_I 505 (by decide +kernel) rfl, gw_I 506 (by decide +kernel) rfl, gw_I 71 (by decide +kernel) rfl, gw_I 507 (by decide +kernel) rfl, ⟨by decide +kernel, by decide +kernel⟩, by decide +kernel⟩
theorem cv_7_91 : CSV "SensorHub" 91 y_Hub_wake prog_4_method_33_code 5 (some .int) 1 := ⟨gw_I 512 (by decide +kernel) rfl, gw_I 513 (by decide +kernel) rfl, gw_I 514 (by decide +kernel) rfl, gw_I 71 (by decide +kernel) rfl, gw_I 515 (by decide +kernel) rfl, ⟨by decide +kernel, by decide +kernel⟩, by decide +kernel⟩
theorem cv_7_94 : CSV "SensorHub" 94 y_Hub_putClient prog_4_method_15_code 6 none 4 := ⟨gw_I 527 (by decide +kernel) rfl, gw_I 528 (by decide +kernel) rfl, gw_I 529 (by decide +kernel) rfl, gw_I 71 (by decide +kernel) rfl, gw_I 530 (by decide +kernel) rfl, ⟨by decide +kernel, by decide +kernel⟩, by decide +kernel⟩
def f_X_subscribe (q : Nat) (p1 : Int32) (p2 : Int32) (p3 : Int32) (σ : Mem) : Option (Int32 × Mem) :=
  bd (f_Hub_sensorAt (q + 1) p1 σ) fun r1 σ2 =>
  oe r1 (
    some ((-1 : Int32), σ2)
  ) (fun o3 =>
    bd (f_X_isWithin p2 (1 : Int32) (400 : Int32) σ2) fun r4 σ5 =>
    if r4 = 0 then
      some ((-1 : Int32), σ5)
    else
      bd (f_X_isWithin p3 (0 : Int32) (400 : Int32) σ5) fun r6 σ7 =>
      if r6 = 0 then
        some ((-1 : Int32), σ7)
      else
        if (σ7 o3 1) ≤ p2 then
          bd (f_Hub_freeClientNumber (q + 1) σ7) fun r8 σ9 =>
          if r8 = (-9 : Int32) then
            some ((-3 : Int32), σ9)
          else
            bd (f_His_record (q + 85) (q + 1) σ9) fun _ σ11 =>
            bd (f_Hub_wake (q + 1) (2 : Int32) σ11) fun r12 σ13 =>
            bd (f_Hub_putClient (q + 1) r8 p1 p2 p3 σ13) fun _ σ15 =>
            some (r8, σ15)
        else
          some ((-2 : Int32), σ7)
  )
set_option maxRecDepth 100000 in
set_option maxHeartbeats 4000000 in
theorem c_X_subscribe {X : CX} (l : Launch) (q : Nat) (p1 : Int32) (p2 : Int32) (p3 : Int32) (hq : TopOK X q) (σ : Mem) : CT X l y_X_subscribe prog_1_method_5_code 6 (some .int) 5 vI [.ref (xa X q), .int p1, .int p2, .int p3] σ (f_X_subscribe q p1 p2 p3 σ) := by
  refine CT_of (by decide +kernel) (Nat.le_of_ble_eq_true rfl) ?_
  intro p e s m args below meth c F hlk hr
  have F : FR p s m args c prog_1_method_5_code 6 "SensorHub" X := F
  show G X p l e (rmD 5) s m args below meth c 6 0 0 (QI X below args s vI) 0 [(0, .ref (xa X q)), (1, .int p1), (2, .int p2), (3, .int p3)] [] σ _
  unfold f_X_subscribe
  refine g_aload_n F d_X_subscribe_0 0 rfl ?_
  refine g_getR F fs_7_10 hq.1 rfl d_X_subscribe_1 ?_
  refine g_iload_n F d_X_subscribe_4 1 rfl ?_
  refine g_callV F (dp := 0) (ci := 2) (As := [.int p1]) (c_Hub_sensorAt l _ _ hq.2.1 _) cv_7_53 hq.2.1.1 rfl rfl rfl (Nat.le_of_ble_eq_true rfl) ⟨Nat.le_of_ble_eq_true rfl, Nat.le_of_ble_eq_true rfl⟩ ⟨Nat.zero_le _, Nat.zero_le _⟩ d_X_subscribe_5 (fun r1 σ2 h1 => ?_)
  refine g_oe (fun h2 => ?_) (fun o3 h3 => ?_)
  · refine g_astoreN F (ls' := [(4, .null), (0, .ref (xa X q)), (1, .int p1), (2, .int p2), (3, .int p3)]) d_X_subscribe_8 (by decide) rfl ?_
    refine g_aloadN F d_X_subscribe_10 0 rfl ?_
    refine g_ifnullN F (tgt := 37) d_X_subscribe_12 (by decide) ?_
    refine g_iconst F (v := (-1)) d_X_subscribe_37 (by decide) ?_
    exact g_iret F hlk hr d_X_subscribe_38
  have h4 : SensorOK X o3 := ok_Hub_sensorAt hq.2.1 (h3 ▸ h1)
  refine g_astore F (ls' := [(4, .ref (xa X o3)), (0, .ref (xa X q)), (1, .int p1), (2, .int p2), (3, .int p3)]) d_X_subscribe_8 (by decide) rfl ?_
  refine g_aload F d_X_subscribe_10 0 rfl ?_
  refine g_ifnull F d_X_subscribe_12 ?_
  refine g_iload_n F d_X_subscribe_15 3 rfl ?_
  refine g_iconst F (v := 1) d_X_subscribe_16 (by decide) ?_
  refine g_sipush F (v := 400) d_X_subscribe_17 (by decide) ?_
  refine g_callS F (dp := 0) (As := [.int p2, .int (1 : Int32), .int (400 : Int32)]) (c_X_isWithin l _ _ _ _) cs_7_33 rfl rfl (Nat.le_of_ble_eq_true rfl) ⟨Nat.le_of_ble_eq_true rfl, Nat.le_of_ble_eq_true rfl⟩ ⟨Nat.zero_le _, Nat.zero_le _⟩ d_X_subscribe_20 (fun r4 σ5 h5 => ?_)
  refine g_if_eq F (tgt := 37) d_X_subscribe_23 (by decide) (fun h6 => ?_) (fun h7 => ?_)
  · refine g_iconst F (v := (-1)) d_X_subscribe_37 (by decide) ?_
    exact g_iret F hlk hr d_X_subscribe_38
  refine g_iload_n F d_X_subscribe_26 4 rfl ?_
  refine g_iconst F (v := 0) d_X_subscribe_27 (by decide) ?_
  refine g_sipush F (v := 400) d_X_subscribe_28 (by decide) ?_
  refine g_callS F (dp := 0) (As := [.int p3, .int (0 : Int32), .int (400 : Int32)]) (c_X_isWithin l _ _ _ _) cs_7_33 rfl rfl (Nat.le_of_ble_eq_true rfl) ⟨Nat.le_of_ble_eq_true rfl, Nat.le_of_ble_eq_true rfl⟩ ⟨Nat.zero_le _, Nat.zero_le _⟩ d_X_subscribe_31 (fun r6 σ7 h8 => ?_)
  refine g_if_ne F (tgt := 39) d_X_subscribe_34 (by decide) (fun h9 => ?_) (fun h10 => ?_)
  · refine g_iconst F (v := (-1)) d_X_subscribe_37 (by decide) ?_
    exact g_iret F hlk hr d_X_subscribe_38
  refine g_iload_n F d_X_subscribe_39 3 rfl ?_
  refine g_aload F d_X_subscribe_40 0 rfl ?_
  refine g_getI F fs_7_81 h4.1 rfl d_X_subscribe_42 ?_
  refine g_icmp_ge F (tgt := 51) d_X_subscribe_45 (by decide) (fun h11 => ?_) (fun h12 => ?_)
  · refine g_aload_n F d_X_subscribe_51 1 rfl ?_
    refine g_getR F fs_7_10 hq.1 rfl d_X_subscribe_52 ?_
    refine g_callV F (dp := 1) (ci := 2) (As := []) (c_Hub_freeClientNumber l _ hq.2.1 _) cv_7_87 hq.2.1.1 rfl rfl rfl (Nat.le_of_ble_eq_true rfl) ⟨Nat.le_of_ble_eq_true rfl, Nat.le_of_ble_eq_true rfl⟩ ⟨Nat.zero_le _, Nat.zero_le _⟩ d_X_subscribe_55 (fun r8 σ9 h13 => ?_)
    refine g_istore F (ls' := [(5, .int r8), (4, .ref (xa X o3)), (0, .ref (xa X q)), (1, .int p1), (2, .int p2), (3, .int p3)]) d_X_subscribe_58 (by decide) rfl ?_
    refine g_iload F d_X_subscribe_60 0 rfl ?_
    refine g_bipush F (v := (-9)) d_X_subscribe_62 (by decide) ?_
    refine g_icmp_ne F (tgt := 70) d_X_subscribe_64 (by decide) (fun h14 => ?_) (fun h15 => ?_)
    · refine g_bipush F (v := (-3)) d_X_subscribe_67 (by decide) ?_
      exact g_iret F hlk hr d_X_subscribe_69
    refine g_aload_n F d_X_subscribe_70 2 rfl ?_
    refine g_getR F fs_7_22 hq.1 rfl d_X_subscribe_71 ?_
    refine g_aload_n F d_X_subscribe_74 2 rfl ?_
    refine g_getR F fs_7_10 hq.1 rfl d_X_subscribe_75 ?_
    refine g_callV F (dp := 3) (ci := 1) (As := [.ref (xa X (q + 1))]) (c_His_record l _ _ hq.2.2.2.1 hq.2.1 _) cv_7_45 hq.2.2.2.1.1 rfl rfl rfl (Nat.le_of_ble_eq_true rfl) ⟨Nat.le_of_ble_eq_true rfl, Nat.le_of_ble_eq_true rfl⟩ ⟨Nat.zero_le _, Nat.zero_le _⟩ d_X_subscribe_78 (fun _ σ11 h16 => ?_)
    refine g_aload_n F d_X_subscribe_81 2 rfl ?_
    refine g_getR F fs_7_10 hq.1 rfl d_X_subscribe_82 ?_
    refine g_iconst F (v := 2) d_X_subscribe_85 (by decide) ?_
    refine g_callV F (dp := 2) (ci := 2) (As := [.int (2 : Int32)]) (c_Hub_wake l _ _ hq.2.1 _) cv_7_91 hq.2.1.1 rfl rfl rfl (Nat.le_of_ble_eq_true rfl) ⟨Nat.le_of_ble_eq_true rfl, Nat.le_of_ble_eq_true rfl⟩ ⟨Nat.zero_le _, Nat.zero_le _⟩ d_X_subscribe_86 (fun r12 σ13 h17 => ?_)
    refine g_pop F d_X_subscribe_89 rfl ?_
    refine g_aload_n F d_X_subscribe_90 2 rfl ?_
    refine g_getR F fs_7_10 hq.1 rfl d_X_subscribe_91 ?_
    refine g_iload F d_X_subscribe_94 0 rfl ?_
    refine g_iload_n F d_X_subscribe_96 3 rfl ?_
    refine g_iload_n F d_X_subscribe_97 4 rfl ?_
    refine g_iload_n F d_X_subscribe_98 5 rfl ?_
    refine g_callV F (dp := 4) (ci := 2) (As := [.int r8, .int p1, .int p2, .int p3]) (c_Hub_putClient l _ _ _ _ _ hq.2.1 _) cv_7_94 hq.2.1.1 rfl rfl rfl (Nat.le_of_ble_eq_true rfl) ⟨Nat.le_of_ble_eq_true rfl, Nat.le_of_ble_eq_true rfl⟩ ⟨Nat.zero_le _, Nat.zero_le _⟩ d_X_subscribe_99 (fun _ σ15 h18 => ?_)
    refine g_iload F d_X_subscribe_102 0 rfl ?_
    exact g_iret F hlk hr d_X_subscribe_104
  refine g_bipush F (v := (-2)) d_X_subscribe_48 (by decide) ?_
  exact g_iret F hlk hr d_X_subscribe_50
def y_X_unsubscribe : MethodName := ⟨"SensorHub", "unsubscribe", "(I)I"⟩
theorem d_X_unsubscribe_0 : decode prog_1_method_6_code 0 = .ok (.aload_n 0, 1) := by decide +kernel
theorem d_X_unsubscribe_1 : decode prog_1_method_6_code 1 = .ok (.getfield 10, 3) := by decide +kernel
theorem d_X_unsubscribe_4 : decode prog_1_method_6_code 4 = .ok (.iload_n 1, 1) := by decide +kernel
theorem d_X_unsubscribe_5 : decode prog_1_method_6_code 5 = .ok (.invokevirtual 98, 3) := by decide +kernel
theorem d_X_unsubscribe_8 : decode prog_1_method_6_code 8 = .ok (.astore_n 2, 1) := by decide +kernel
theorem d_X_unsubscribe_9 : decode prog_1_method_6_code 9 = .ok (.aload_n 2, 1) := by decide +kernel
theorem d_X_unsubscribe_10 : decode prog_1_method_6_code 10 = .ok (.ifnonnull 5, 3) := by decide +kernel
theorem d_X_unsubscribe_13 : decode prog_1_method_6_code 13 = .ok (.iconst (-1), 1) := by decide +kernel
theorem d_X_unsubscribe_14 : decode prog_1_method_6_code 14 = .ok (.ireturn, 1) := by decide +kernel
theorem d_X_unsubscribe_15 : decode prog_1_method_6_code 15 = .ok (.aload_n 0, 1) := by decide +kernel
theorem d_X_unsubscribe_16 : decode prog_1_method_6_code 16 = .ok (.getfield 22, 3) := by decide +kernel
theorem d_X_unsubscribe_19 : decode prog_1_method_6_code 19 = .ok (.aload_n 0, 1) := by decide +kernel
theorem d_X_unsubscribe_20 : decode prog_1_method_6_code 20 = .ok (.getfield 10, 3) := by decide +kernel
theorem d_X_unsubscribe_23 : decode prog_1_method_6_code 23 = .ok (.invokevirtual 45, 3) := by decide +kernel
theorem d_X_unsubscribe_26 : decode prog_1_method_6_code 26 = .ok (.aload_n 0, 1) := by decide +kernel
theorem d_X_unsubscribe_27 : decode prog_1_method_6_code 27 = .ok (.getfield 10, 3) := by decide +kernel
theorem d_X_unsubscribe_30 : decode prog_1_method_6_code 30 = .ok (.iconst 2, 1) := by decide +kernel
theorem d_X_unsubscribe_31 : decode prog_1_method_6_code 31 = .ok (.invokevirtual 91, 3) := by decide +kernel
theorem d_X_unsubscribe_34 : decode prog_1_method_6_code 34 = .ok (.pop, 1) := by decide +kernel
theorem d_X_unsubscribe_35 : decode prog_1_method_6_code 35 = .ok (.aload_n 0, 1) := by decide +kernel
theorem d_X_unsubscribe_36 : decode prog_1_method_6_code 36 = .ok (.getfield 10, 3) := by decide +kernel
theorem d_X_unsubscribe_39 : decode prog_1_method_6_code 39 = .ok (.aload_n 2, 1) := by decide +kernel
theorem d_X_unsubscribe_40 : decode prog_1_method_6_code 40 = .ok (.invokevirtual 102, 3) := by decide +kernel
theorem d_X_unsubscribe_43 : decode prog_1_method_6_code 43 = .ok (.aload_n 2, 1) := by decide +kernel
theorem d_X_unsubscribe_44 : decode prog_1_method_6_code 44 = .ok (.getfield 106, 3) := by decide +kernel
theorem d_X_unsubscribe_47 : decode prog_1_method_6_code 47 = .ok (.ireturn, 1) := by decide +kernel
theorem cv_7_98 : CSV "SensorHub" 98 y_Hub_clientAt prog_4_method_7_code 3 (some (.object "SensorHub$Client")) 1 := ⟨gw_I 578 (by decide +kernel) rfl, gw_I 509 (by decide +kernel) rfl, gw_I 510 (by decide +kernel) rfl, gw_I 71 (by decide +kernel) rfl, gw_I 511 (by decide +kernel) rfl, ⟨by decide +kernel, by decide +kernel⟩, by decide +kernel⟩
theorem cv_7_102 : CSV "SensorHub" 102 y_Hub_removeClient prog_4_method_16_code 2 none 1 := ⟨gw_I 579 (by decide +kernel) rfl, gw_I 580 (by decide +kernel) rfl, gw_I 581 (by decide +kernel) rfl, gw_I 71 (by decide +kernel) rfl, gw_I 582 (by decide +kernel) rfl, ⟨by decide +kernel, by decide +kernel⟩, by decide +kernel⟩
theorem fs_7_106 : FS "SensorHub" 106 0 6 := ⟨"SensorHub$Client", T_0, 11, rfl, by decide, rfl, gw_I 243 (by decide +kernel) rfl⟩
def f_X_unsubscribe (q : Nat) (p1 : Int32) (σ : Mem) : Option (Int32 × Mem) :=
  bd (f_Hub_clientAt (q + 1) p1 σ) fun r1 σ2 =>
  oe r1 (
    some ((-1 : Int32), σ2)
  ) (fun o3 =>
    bd (f_His_record (q + 85) (q + 1) σ2) fun _ σ5 =>
    bd (f_Hub_wake (q + 1) (2 : Int32) σ5) fun r6 σ7 =>
    bd (f_Hub_removeClient (q + 1) o3 σ7) fun _ σ9 =>
    some (σ9 o3 6, σ9)
  )
set_option maxRecDepth 100000 in
set_option maxHeartbeats 4000000 in
theorem c_X_unsubscribe {X : CX} (l : Launch) (q : Nat) (p1 : Int32) (hq : TopOK X q) (σ : Mem) : CT X l y_X_unsubscribe prog_1_method_6_code 3 (some .int) 5 vI [.ref (xa X q), .int p1] σ (f_X_unsubscribe q p1 σ) := by
  refine CT_of (by decide +kernel) (Nat.le_of_ble_eq_true rfl) ?_
  intro p e s m args below meth c F hlk hr
  have F : FR p s m args c prog_1_method_6_code 3 "SensorHub" X := F
  show G X p l e (rmD 5) s m args below meth c 3 0 0 (QI X below args s vI) 0 [(0, .ref (xa X q)), (1, .int p1)] [] σ _
  unfold f_X_unsubscribe
  refine g_aload_n F d_X_unsubscribe_0 0 rfl ?_
  refine g_getR F fs_7_10 hq.1 rfl d_X_unsubscribe_1 ?_
  refine g_iload_n F d_X_unsubscribe_4 1 rfl ?_
  refine g_callV F (dp := 0) (ci := 2) (As := [.int p1]) (c_Hub_clientAt l _ _ hq.2.1 _) cv_7_98 hq.2.1.1 rfl rfl rfl (Nat.le_of_ble_eq_true rfl) ⟨Nat.le_of_ble_eq_true rfl, Nat.le_of_ble_eq_true rfl⟩ ⟨Nat.zero_le _, Nat.zero_le _⟩ d_X_unsubscribe_5 (fun r1 σ2 h1 => ?_)
  refine g_oe (fun h2 => ?_) (fun o3 h3 => ?_)
  · refine g_astore_nN F (ls' := [(2, .null), (0, .ref (xa X q)), (1, .int p1)]) d_X_unsubscribe_8 (by decide) rfl ?_
    refine g_aload_nN F d_X_unsubscribe_9 0 rfl ?_
    refine g_ifnonnullN F d_X_unsubscribe_10 ?_
    refine g_iconst F (v := (-1)) d_X_unsubscribe_13 (by decide) ?_
    exact g_iret F hlk hr d_X_unsubscribe_14
  have h4 : ClientOK X o3 := ok_Hub_clientAt hq.2.1 (h3 ▸ h1)
  refine g_astore_n F (ls' := [(2, .ref (xa X o3)), (0, .ref (xa X q)), (1, .int p1)]) d_X_unsubscribe_8 (by decide) rfl ?_
  refine g_aload_n F d_X_unsubscribe_9 0 rfl ?_
  refine g_ifnonnull F (tgt := 15) d_X_unsubscribe_10 (by decide) ?_
  refine g_aload_n F d_X_unsubscribe_15 1 rfl ?_
  refine g_getR F fs_7_22 hq.1 rfl d_X_unsubscribe_16 ?_
  refine g_aload_n F d_X_unsubscribe_19 1 rfl ?_
  refine g_getR F fs_7_10 hq.1 rfl d_X_unsubscribe_20 ?_
  refine g_callV F (dp := 3) (ci := 1) (As := [.ref (xa X (q + 1))]) (c_His_record l _ _ hq.2.2.2.1 hq.2.1 _) cv_7_45 hq.2.2.2.1.1 rfl rfl rfl (Nat.le_of_ble_eq_true rfl) ⟨Nat.le_of_ble_eq_true rfl, Nat.le_of_ble_eq_true rfl⟩ ⟨Nat.zero_le _, Nat.zero_le _⟩ d_X_unsubscribe_23 (fun _ σ5 h5 => ?_)
  refine g_aload_n F d_X_unsubscribe_26 1 rfl ?_
  refine g_getR F fs_7_10 hq.1 rfl d_X_unsubscribe_27 ?_
  refine g_iconst F (v := 2) d_X_unsubscribe_30 (by decide) ?_
  refine g_callV F (dp := 2) (ci := 2) (As := [.int (2 : Int32)]) (c_Hub_wake l _ _ hq.2.1 _) cv_7_91 hq.2.1.1 rfl rfl rfl (Nat.le_of_ble_eq_true rfl) ⟨Nat.le_of_ble_eq_true rfl, Nat.le_of_ble_eq_true rfl⟩ ⟨Nat.zero_le _, Nat.zero_le _⟩ d_X_unsubscribe_31 (fun r6 σ7 h6 => ?_)
  refine g_pop F d_X_unsubscribe_34 rfl ?_
  refine g_aload_n F d_X_unsubscribe_35 1 rfl ?_
  refine g_getR F fs_7_10 hq.1 rfl d_X_unsubscribe_36 ?_
  refine g_aload_n F d_X_unsubscribe_39 0 rfl ?_
  refine g_callV F (dp := 4) (ci := 2) (As := [.ref (xa X o3)]) (c_Hub_removeClient l _ _ hq.2.1 h4 _) cv_7_102 hq.2.1.1 rfl rfl rfl (Nat.le_of_ble_eq_true rfl) ⟨Nat.le_of_ble_eq_true rfl, Nat.le_of_ble_eq_true rfl⟩ ⟨Nat.zero_le _, Nat.zero_le _⟩ d_X_unsubscribe_40 (fun _ σ9 h7 => ?_)
  refine g_aload_n F d_X_unsubscribe_43 0 rfl ?_
  refine g_getI F fs_7_106 h4.1 rfl d_X_unsubscribe_44 ?_
  exact g_iret F hlk hr d_X_unsubscribe_47
def y_X_setCapacity : MethodName := ⟨"SensorHub", "setCapacity", "(I)I"⟩
theorem d_X_setCapacity_0 : decode prog_1_method_7_code 0 = .ok (.iload_n 1, 1) := by decide +kernel
theorem d_X_setCapacity_1 : decode prog_1_method_7_code 1 = .ok (.iconst 1, 1) := by decide +kernel
theorem d_X_setCapacity_2 : decode prog_1_method_7_code 2 = .ok (.bipush 30, 2) := by decide +kernel
theorem d_X_setCapacity_4 : decode prog_1_method_7_code 4 = .ok (.invokestatic 33, 3) := by decide +kernel
theorem d_X_setCapacity_7 : decode prog_1_method_7_code 7 = .ok (.ifCond .ne 5, 3) := by decide +kernel
theorem d_X_setCapacity_10 : decode prog_1_method_7_code 10 = .ok (.iconst (-1), 1) := by decide +kernel
theorem d_X_setCapacity_11 : decode prog_1_method_7_code 11 = .ok (.ireturn, 1) := by decide +kernel
theorem d_X_setCapacity_12 : decode prog_1_method_7_code 12 = .ok (.aload_n 0, 1) := by decide +kernel
theorem d_X_setCapacity_13 : decode prog_1_method_7_code 13 = .ok (.getfield 22, 3) := by decide +kernel
theorem d_X_setCapacity_16 : decode prog_1_method_7_code 16 = .ok (.aload_n 0, 1) := by decide +kernel
theorem d_X_setCapacity_17 : decode prog_1_method_7_code 17 = .ok (.getfield 10, 3) := by decide +kernel
theorem d_X_setCapacity_20 : decode prog_1_method_7_code 20 = .ok (.invokevirtual 45, 3) := by decide +kernel
theorem d_X_setCapacity_23 : decode prog_1_method_7_code 23 = .ok (.aload_n 0, 1) := by decide +kernel
theorem d_X_setCapacity_24 : decode prog_1_method_7_code 24 = .ok (.getfield 10, 3) := by decide +kernel
theorem d_X_setCapacity_27 : decode prog_1_method_7_code 27 = .ok (.iconst 2, 1) := by decide +kernel
theorem d_X_setCapacity_28 : decode prog_1_method_7_code 28 = .ok (.invokevirtual 91, 3) := by decide +kernel
theorem d_X_setCapacity_31 : decode prog_1_method_7_code 31 = .ok (.pop, 1) := by decide +kernel
theorem d_X_setCapacity_32 : decode prog_1_method_7_code 32 = .ok (.aload_n 0, 1) := by decide +kernel
theorem d_X_setCapacity_33 : decode prog_1_method_7_code 33 = .ok (.getfield 10, 3) := by decide +kernel
theorem d_X_setCapacity_36 : decode prog_1_method_7_code 36 = .ok (.getfield 111, 3) := by decide +kernel
theorem d_X_setCapacity_39 : decode prog_1_method_7_code 39 = .ok (.istore_n 2, 1) := by decide +kernel
theorem d_X_setCapacity_40 : decode prog_1_method_7_code 40 = .ok (.aload_n 0, 1) := by decide +kernel
theorem d_X_setCapacity_41 : decode prog_1_method_7_code 41 = .ok (.getfield 10, 3) := by decide +kernel
theorem d_X_setCapacity_44 : decode prog_1_method_7_code 44 = .ok (.iload_n 1, 1) := by decide +kernel
theorem d_X_setCapacity_45 : decode prog_1_method_7_code 45 = .ok (.putfield 111, 3) := by decide +kernel
theorem d_X_setCapacity_48 : decode prog_1_method_7_code 48 = .ok (.iload_n 2, 1) := by decide +kernel
theorem d_X_setCapacity_49 : decode prog_1_method_7_code 49 = .ok (.ireturn, 1) := by decide +kernel
theorem fs_7_111 : FS "SensorHub" 111 2 3 := ⟨"SensorHub$Hub", T_2, 11, rfl, by decide, rfl, gw_I 293 (by decide +kernel) rfl⟩
theorem fw_7_111 : FW "SensorHub" 111 2 3 .int := ⟨"SensorHub$Hub", T_2, 11, rfl, by decide, rfl, gw_I 293 (by decide +kernel) rfl, rfl, by decide +kernel⟩
def f_X_setCapacity (q : Nat) (p1 : Int32) (σ : Mem) : Option (Int32 × Mem) :=
  bd (f_X_isWithin p1 (1 : Int32) (30 : Int32) σ) fun r1 σ2 =>
  if r1 = 0 then
    some ((-1 : Int32), σ2)
  else
    bd (f_His_record (q + 85) (q + 1) σ2) fun _ σ4 =>
    bd (f_Hub_wake (q + 1) (2 : Int32) σ4) fun r5 σ6 =>
    lt (σ6 (q + 1) 3) fun v7 =>
    lt (wr σ6 (q + 1) 3 p1) fun σ8 =>
    some (v7, σ8)
set_option maxRecDepth 100000 in
set_option maxHeartbeats 4000000 in
theorem c_X_setCapacity {X : CX} (l : Launch) (q : Nat) (p1 : Int32) (hq : TopOK X q) (σ : Mem) : CT X l y_X_setCapacity prog_1_method_7_code 3 (some .int) 4 vI [.ref (xa X q), .int p1] σ (f_X_setCapacity q p1 σ) := by
  refine CT_of (by decide +kernel) (Nat.le_of_ble_eq_true rfl) ?_
  intro p e s m args below meth c F hlk hr
  have F : FR p s m args c prog_1_method_7_code 3 "SensorHub" X := F
  show G X p l e (rmD 4) s m args below meth c 3 0 0 (QI X below args s vI) 0 [(0, .ref (xa X q)), (1, .int p1)] [] σ _
  unfold f_X_setCapacity
  refine g_iload_n F d_X_setCapacity_0 1 rfl ?_
  refine g_iconst F (v := 1) d_X_setCapacity_1 (by decide) ?_
  refine g_bipush F (v := 30) d_X_setCapacity_2 (by decide) ?_
  refine g_callS F (dp := 0) (As := [.int p1, .int (1 : Int32), .int (30 : Int32)]) (c_X_isWithin l _ _ _ _) cs_7_33 rfl rfl (Nat.le_of_ble_eq_true rfl) ⟨Nat.le_of_ble_eq_true rfl, Nat.le_of_ble_eq_true rfl⟩ ⟨Nat.zero_le _, Nat.zero_le _⟩ d_X_setCapacity_4 (fun r1 σ2 h1 => ?_)
  refine g_if_ne F (tgt := 12) d_X_setCapacity_7 (by decide) (fun h2 => ?_) (fun h3 => ?_)
  · refine g_iconst F (v := (-1)) d_X_setCapacity_10 (by decide) ?_
    exact g_iret F hlk hr d_X_setCapacity_11
  refine g_aload_n F d_X_setCapacity_12 0 rfl ?_
  refine g_getR F fs_7_22 hq.1 rfl d_X_setCapacity_13 ?_
  refine g_aload_n F d_X_setCapacity_16 0 rfl ?_
  refine g_getR F fs_7_10 hq.1 rfl d_X_setCapacity_17 ?_
  refine g_callV F (dp := 3) (ci := 1) (As := [.ref (xa X (q + 1))]) (c_His_record l _ _ hq.2.2.2.1 hq.2.1 _) cv_7_45 hq.2.2.2.1.1 rfl rfl rfl (Nat.le_of_ble_eq_true rfl) ⟨Nat.le_of_ble_eq_true rfl, Nat.le_of_ble_eq_true rfl⟩ ⟨Nat.zero_le _, Nat.zero_le _⟩ d_X_setCapacity_20 (fun _ σ4 h4 => ?_)
  refine g_aload_n F d_X_setCapacity_23 0 rfl ?_
  refine g_getR F fs_7_10 hq.1 rfl d_X_setCapacity_24 ?_
  refine g_iconst F (v := 2) d_X_setCapacity_27 (by decide) ?_
  refine g_callV F (dp := 2) (ci := 2) (As := [.int (2 : Int32)]) (c_Hub_wake l _ _ hq.2.1 _) cv_7_91 hq.2.1.1 rfl rfl rfl (Nat.le_of_ble_eq_true rfl) ⟨Nat.le_of_ble_eq_true rfl, Nat.le_of_ble_eq_true rfl⟩ ⟨Nat.zero_le _, Nat.zero_le _⟩ d_X_setCapacity_28 (fun r5 σ6 h5 => ?_)
  refine g_pop F d_X_setCapacity_31 rfl ?_
  refine g_aload_n F d_X_setCapacity_32 0 rfl ?_
  refine g_getR F fs_7_10 hq.1 rfl d_X_setCapacity_33 ?_
  refine g_getI F fs_7_111 hq.2.1.1 rfl d_X_setCapacity_36 ?_
  refine g_ltI (fun v7 _ => ?_)
  refine g_istore_n F (ls' := [(2, .int v7), (0, .ref (xa X q)), (1, .int p1)]) d_X_setCapacity_39 (by decide) rfl ?_
  refine g_aload_n F d_X_setCapacity_40 1 rfl ?_
  refine g_getR F fs_7_10 hq.1 rfl d_X_setCapacity_41 ?_
  refine g_iload_n F d_X_setCapacity_44 2 rfl ?_
  refine g_putI F fw_7_111 hq.2.1.1 rfl d_X_setCapacity_45 ?_
  refine g_ltM (fun σ8 _ => ?_)
  refine g_iload_n F d_X_setCapacity_48 0 rfl ?_
  exact g_iret F hlk hr d_X_setCapacity_49
def y_X_append : MethodName := ⟨"SensorHub", "append", "(I)I"⟩
theorem d_X_append_0 : decode prog_1_method_8_code 0 = .ok (.iload_n 1, 1) := by decide +kernel
theorem d_X_append_1 : decode prog_1_method_8_code 1 = .ok (.iconst 1, 1) := by decide +kernel
theorem d_X_append_2 : decode prog_1_method_8_code 2 = .ok (.sipush 255, 3) := by decide +kernel
theorem d_X_append_5 : decode prog_1_method_8_code 5 = .ok (.invokestatic 33, 3) := by decide +kernel
theorem d_X_append_8 : decode prog_1_method_8_code 8 = .ok (.ifCond .ne 5, 3) := by decide +kernel
theorem d_X_append_11 : decode prog_1_method_8_code 11 = .ok (.iconst (-1), 1) := by decide +kernel
theorem d_X_append_12 : decode prog_1_method_8_code 12 = .ok (.ireturn, 1) := by decide +kernel
theorem d_X_append_13 : decode prog_1_method_8_code 13 = .ok (.aload_n 0, 1) := by decide +kernel
theorem d_X_append_14 : decode prog_1_method_8_code 14 = .ok (.getfield 29, 3) := by decide +kernel
theorem d_X_append_17 : decode prog_1_method_8_code 17 = .ok (.invokevirtual 114, 3) := by decide +kernel
theorem d_X_append_20 : decode prog_1_method_8_code 20 = .ok (.ifCond .eq 6, 3) := by decide +kernel
theorem d_X_append_23 : decode prog_1_method_8_code 23 = .ok (.bipush (-3), 2) := by decide +kernel
theorem d_X_append_25 : decode prog_1_method_8_code 25 = .ok (.ireturn, 1) := by decide +kernel
theorem d_X_append_26 : decode prog_1_method_8_code 26 = .ok (.aload_n 0, 1) := by decide +kernel
theorem d_X_append_27 : decode prog_1_method_8_code 27 = .ok (.getfield 29, 3) := by decide +kernel
theorem d_X_append_30 : decode prog_1_method_8_code 30 = .ok (.iload_n 1, 1) := by decide +kernel
theorem d_X_append_31 : decode prog_1_method_8_code 31 = .ok (.invokevirtual 115, 3) := by decide +kernel
theorem d_X_append_34 : decode prog_1_method_8_code 34 = .ok (.ireturn, 1) := by decide +kernel
theorem fs_7_29 : FS "SensorHub" 29 7 3 := ⟨"SensorHub", T_7, 4, rfl, by decide, rfl, gw_I 379 (by decide +kernel) rfl⟩
theorem cv_7_114 : CSV "SensorHub" 114 y_Txt_isFull prog_8_method_2_code 1 (some .boolean) 0 := ⟨gw_I 591 (by decide +kernel) rfl, gw_I 592 (by decide +kernel) rfl, gw_I 593 (by decide +kernel) rfl, gw_I 77 (by decide +kernel) rfl, gw_I 594 (by decide +kernel) rfl, ⟨by decide +kernel, by decide +kernel⟩, by decide +kernel⟩
theorem cv_7_115 : CSV "SensorHub" 115 y_Txt_add prog_8_method_3_code 2 (some .int) 1 := ⟨gw_I 595 (by decide +kernel) rfl, gw_I 596 (by decide +kernel) rfl, gw_I 597 (by decide +kernel) rfl, gw_I 77 (by decide +kernel) rfl, gw_I 598 (by decide +kernel) rfl, ⟨by decide +kernel, by decide +kernel⟩, by decide +kernel⟩
def f_X_append (q : Nat) (p1 : Int32) (σ : Mem) : Option (Int32 × Mem) :=
  bd (f_X_isWithin p1 (1 : Int32) (255 : Int32) σ) fun r1 σ2 =>
  if r1 = 0 then
    some ((-1 : Int32), σ2)
  else
    bd (f_Txt_isFull (q + 297) σ2) fun r3 σ4 =>
    if r3 = 0 then
      bd (f_Txt_add (q + 297) p1 σ4) fun r5 σ6 =>
      some (r5, σ6)
    else
      some ((-3 : Int32), σ4)
set_option maxRecDepth 100000 in
set_option maxHeartbeats 4000000 in
theorem c_X_append {X : CX} (l : Launch) (q : Nat) (p1 : Int32) (hq : TopOK X q) (σ : Mem) : CT X l y_X_append prog_1_method_8_code 2 (some .int) 2 vI [.ref (xa X q), .int p1] σ (f_X_append q p1 σ) := by
  refine CT_of (by decide +kernel) (Nat.le_of_ble_eq_true rfl) ?_
  intro p e s m args below meth c F hlk hr
  have F : FR p s m args c prog_1_method_8_code 2 "SensorHub" X := F
  show G X p l e (rmD 2) s m args below meth c 2 0 0 (QI X below args s vI) 0 [(0, .ref (xa X q)), (1, .int p1)] [] σ _
  unfold f_X_append
  refine g_iload_n F d_X_append_0 1 rfl ?_
  refine g_iconst F (v := 1) d_X_append_1 (by decide) ?_
  refine g_sipush F (v := 255) d_X_append_2 (by decide) ?_
  refine g_callS F (dp := 0) (As := [.int p1, .int (1 : Int32), .int (255 : Int32)]) (c_X_isWithin l _ _ _ _) cs_7_33 rfl rfl (Nat.le_of_ble_eq_true rfl) ⟨Nat.le_of_ble_eq_true rfl, Nat.le_of_ble_eq_true rfl⟩ ⟨Nat.zero_le _, Nat.zero_le _⟩ d_X_append_5 (fun r1 σ2 h1 => ?_)
  refine g_if_ne F (tgt := 13) d_X_append_8 (by decide) (fun h2 => ?_) (fun h3 => ?_)
  · refine g_iconst F (v := (-1)) d_X_append_11 (by decide) ?_
    exact g_iret F hlk hr d_X_append_12
  refine g_aload_n F d_X_append_13 0 rfl ?_
  refine g_getR F fs_7_29 hq.1 rfl d_X_append_14 ?_
  refine g_callV F (dp := 0) (ci := 6) (As := []) (c_Txt_isFull l _ hq.2.2.2.2 _) cv_7_114 hq.2.2.2.2.1 rfl rfl rfl (Nat.le_of_ble_eq_true rfl) ⟨Nat.le_of_ble_eq_true rfl, Nat.le_of_ble_eq_true rfl⟩ ⟨Nat.zero_le _, Nat.zero_le _⟩ d_X_append_17 (fun r3 σ4 h4 => ?_)
  refine g_if_eq F (tgt := 26) d_X_append_20 (by decide) (fun h5 => ?_) (fun h6 => ?_)
  · refine g_aload_n F d_X_append_26 0 rfl ?_
    refine g_getR F fs_7_29 hq.1 rfl d_X_append_27 ?_
    refine g_iload_n F d_X_append_30 1 rfl ?_
    refine g_callV F (dp := 1) (ci := 6) (As := [.int p1]) (c_Txt_add l _ _ hq.2.2.2.2 _) cv_7_115 hq.2.2.2.2.1 rfl rfl rfl (Nat.le_of_ble_eq_true rfl) ⟨Nat.le_of_ble_eq_true rfl, Nat.le_of_ble_eq_true rfl⟩ ⟨Nat.zero_le _, Nat.zero_le _⟩ d_X_append_31 (fun r5 σ6 h7 => ?_)
    exact g_iret F hlk hr d_X_append_34
  refine g_bipush F (v := (-3)) d_X_append_23 (by decide) ?_
  exact g_iret F hlk hr d_X_append_25
def y_X_clearText : MethodName := ⟨"SensorHub", "clearText", "()I"⟩
theorem d_X_clearText_0 : decode prog_1_method_9_code 0 = .ok (.aload_n 0, 1) := by decide +kernel
theorem d_X_clearText_1 : decode prog_1_method_9_code 1 = .ok (.getfield 29, 3) := by decide +kernel
theorem d_X_clearText_4 : decode prog_1_method_9_code 4 = .ok (.invokevirtual 117, 3) := by decide +kernel
theorem d_X_clearText_7 : decode prog_1_method_9_code 7 = .ok (.ireturn, 1) := by decide +kernel
theorem cv_7_117 : CSV "SensorHub" 117 y_Txt_clear prog_8_method_4_code 2 (some .int) 0 := ⟨gw_I 604 (by decide +kernel) rfl, gw_I 605 (by decide +kernel) rfl, gw_I 606 (by decide +kernel) rfl, gw_I 77 (by decide +kernel) rfl, gw_I 607 (by decide +kernel) rfl, ⟨by decide +kernel, by decide +kernel⟩, by decide +kernel⟩
def f_X_clearText (q : Nat) (σ : Mem) : Option (Int32 × Mem) :=
  bd (f_Txt_clear (q + 297) σ) fun r1 σ2 =>
  some (r1, σ2)
set_option maxRecDepth 100000 in
set_option maxHeartbeats 4000000 in
theorem c_X_clearText {X : CX} (l : Launch) (q : Nat) (hq : TopOK X q) (σ : Mem) : CT X l y_X_clearText prog_1_method_9_code 1 (some .int) 1 vI [.ref (xa X q)] σ (f_X_clearText q σ) := by
  refine CT_of (by decide +kernel) (Nat.le_of_ble_eq_true rfl) ?_
  intro p e s m args below meth c F hlk hr
  have F : FR p s m args c prog_1_method_9_code 1 "SensorHub" X := F
  show G X p l e (rmD 1) s m args below meth c 1 0 0 (QI X below args s vI) 0 [(0, .ref (xa X q))] [] σ _
  unfold f_X_clearText
  refine g_aload_n F d_X_clearText_0 0 rfl ?_
  refine g_getR F fs_7_29 hq.1 rfl d_X_clearText_1 ?_
  refine g_callV F (dp := 0) (ci := 6) (As := []) (c_Txt_clear l _ hq.2.2.2.2 _) cv_7_117 hq.2.2.2.2.1 rfl rfl rfl (Nat.le_of_ble_eq_true rfl) ⟨Nat.le_of_ble_eq_true rfl, Nat.le_of_ble_eq_true rfl⟩ ⟨Nat.zero_le _, Nat.zero_le _⟩ d_X_clearText_4 (fun r1 σ2 h1 => ?_)
  exact g_iret F hlk hr d_X_clearText_7
def y_X_load : MethodName := ⟨"SensorHub", "load", "()I"⟩
theorem d_X_load_0 : decode prog_1_method_10_code 0 = .ok (.aload_n 0, 1) := by decide +kernel
theorem d_X_load_1 : decode prog_1_method_10_code 1 = .ok (.getfield 16, 3) := by decide +kernel
theorem d_X_load_4 : decode prog_1_method_10_code 4 = .ok (.invokevirtual 120, 3) := by decide +kernel
theorem d_X_load_7 : decode prog_1_method_10_code 7 = .ok (.aload_n 0, 1) := by decide +kernel
theorem d_X_load_8 : decode prog_1_method_10_code 8 = .ok (.getfield 29, 3) := by decide +kernel
theorem d_X_load_11 : decode prog_1_method_10_code 11 = .ok (.aload_n 0, 1) := by decide +kernel
theorem d_X_load_12 : decode prog_1_method_10_code 12 = .ok (.getfield 16, 3) := by decide +kernel
theorem d_X_load_15 : decode prog_1_method_10_code 15 = .ok (.invokevirtual 122, 3) := by decide +kernel
theorem d_X_load_18 : decode prog_1_method_10_code 18 = .ok (.istore_n 1, 1) := by decide +kernel
theorem d_X_load_19 : decode prog_1_method_10_code 19 = .ok (.iload_n 1, 1) := by decide +kernel
theorem d_X_load_20 : decode prog_1_method_10_code 20 = .ok (.ifCond .ge 5, 3) := by decide +kernel
theorem d_X_load_23 : decode prog_1_method_10_code 23 = .ok (.iload_n 1, 1) := by decide +kernel
theorem d_X_load_24 : decode prog_1_method_10_code 24 = .ok (.ireturn, 1) := by decide +kernel
theorem d_X_load_25 : decode prog_1_method_10_code 25 = .ok (.aload_n 0, 1) := by decide +kernel
theorem d_X_load_26 : decode prog_1_method_10_code 26 = .ok (.getfield 22, 3) := by decide +kernel
theorem d_X_load_29 : decode prog_1_method_10_code 29 = .ok (.aload_n 0, 1) := by decide +kernel
theorem d_X_load_30 : decode prog_1_method_10_code 30 = .ok (.getfield 10, 3) := by decide +kernel
theorem d_X_load_33 : decode prog_1_method_10_code 33 = .ok (.invokevirtual 45, 3) := by decide +kernel
theorem d_X_load_36 : decode prog_1_method_10_code 36 = .ok (.aload_n 0, 1) := by decide +kernel
theorem d_X_load_37 : decode prog_1_method_10_code 37 = .ok (.getfield 10, 3) := by decide +kernel
theorem d_X_load_40 : decode prog_1_method_10_code 40 = .ok (.aload_n 0, 1) := by decide +kernel
theorem d_X_load_41 : decode prog_1_method_10_code 41 = .ok (.getfield 16, 3) := by decide +kernel
theorem d_X_load_44 : decode prog_1_method_10_code 44 = .ok (.invokevirtual 126, 3) := by decide +kernel
theorem d_X_load_47 : decode prog_1_method_10_code 47 = .ok (.aload_n 0, 1) := by decide +kernel
theorem d_X_load_48 : decode prog_1_method_10_code 48 = .ok (.getfield 29, 3) := by decide +kernel
theorem d_X_load_51 : decode prog_1_method_10_code 51 = .ok (.invokevirtual 117, 3) := by decide +kernel
theorem d_X_load_54 : decode prog_1_method_10_code 54 = .ok (.pop, 1) := by decide +kernel
theorem d_X_load_55 : decode prog_1_method_10_code 55 = .ok (.iload_n 1, 1) := by decide +kernel
theorem d_X_load_56 : decode prog_1_method_10_code 56 = .ok (.ireturn, 1) := by decide +kernel
theorem fs_7_16 : FS "SensorHub" 16 7 1 := ⟨"SensorHub", T_7, 4, rfl, by decide, rfl, gw_I 377 (by decide +kernel) rfl⟩
theorem cv_7_120 : CSV "SensorHub" 120 y_Hub_clear prog_4_method_2_code 3 none 0 := ⟨gw_I 612 (by decide +kernel) rfl, gw_I 276 (by decide +kernel) rfl, gw_I 277 (by decide +kernel) rfl, gw_I 71 (by decide +kernel) rfl, gw_I 278 (by decide +kernel) rfl, ⟨by decide +kernel, by decide +kernel⟩, by decide +kernel⟩
theorem cv_7_122 : CSV "SensorHub" 122 y_Txt_read prog_8_method_6_code 3 (some .int) 1 := ⟨gw_I 613 (by decide +kernel) rfl, gw_I 614 (by decide +kernel) rfl, gw_I 615 (by decide +kernel) rfl, gw_I 77 (by decide +kernel) rfl, gw_I 616 (by decide +kernel) rfl, ⟨by decide +kernel, by decide +kernel⟩, by decide +kernel⟩
theorem cv_7_126 : CSV "SensorHub" 126 y_Hub_copyFrom prog_4_method_3_code 5 none 1 := ⟨gw_I 721 (by decide +kernel) rfl, gw_I 412 (by decide +kernel) rfl, gw_I 413 (by decide +kernel) rfl, gw_I 71 (by decide +kernel) rfl, gw_I 414 (by decide +kernel) rfl, ⟨by decide +kernel, by decide +kernel⟩, by decide +kernel⟩
def f_X_load (q : Nat) (σ : Mem) : Option (Int32 × Mem) :=
  bd (f_Hub_clear (q + 43) σ) fun _ σ2 =>
  bd (f_Txt_read (q + 297) (q + 43) σ2) fun r3 σ4 =>
  if 0 ≤ r3 then
    bd (f_His_record (q + 85) (q + 1) σ4) fun _ σ6 =>
    bd (f_Hub_copyFrom (q + 1) (q + 43) σ6) fun _ σ8 =>
    bd (f_Txt_clear (q + 297) σ8) fun r9 σ10 =>
    some (r3, σ10)
  else
    some (r3, σ4)
set_option maxRecDepth 100000 in
set_option maxHeartbeats 4000000 in
theorem c_X_load {X : CX} (l : Launch) (q : Nat) (hq : TopOK X q) (σ : Mem) : CT X l y_X_load prog_1_method_10_code 2 (some .int) 8 vI [.ref (xa X q)] σ (f_X_load q σ) := by
  refine CT_of (by decide +kernel) (Nat.le_of_ble_eq_true rfl) ?_
  intro p e s m args below meth c F hlk hr
  have F : FR p s m args c prog_1_method_10_code 2 "SensorHub" X := F
  show G X p l e (rmD 8) s m args below meth c 2 0 0 (QI X below args s vI) 0 [(0, .ref (xa X q))] [] σ _
  unfold f_X_load
  refine g_aload_n F d_X_load_0 0 rfl ?_
  refine g_getR F fs_7_16 hq.1 rfl d_X_load_1 ?_
  refine g_callV F (dp := 2) (ci := 2) (As := []) (c_Hub_clear l _ hq.2.2.1 _) cv_7_120 hq.2.2.1.1 rfl rfl rfl (Nat.le_of_ble_eq_true rfl) ⟨Nat.le_of_ble_eq_true rfl, Nat.le_of_ble_eq_true rfl⟩ ⟨Nat.zero_le _, Nat.zero_le _⟩ d_X_load_4 (fun _ σ2 h1 => ?_)
  refine g_aload_n F d_X_load_7 0 rfl ?_
  refine g_getR F fs_7_29 hq.1 rfl d_X_load_8 ?_
  refine g_aload_n F d_X_load_11 0 rfl ?_
  refine g_getR F fs_7_16 hq.1 rfl d_X_load_12 ?_
  refine g_callV F (dp := 7) (ci := 6) (As := [.ref (xa X (q + 43))]) (c_Txt_read l _ _ hq.2.2.2.2 hq.2.2.1 _) cv_7_122 hq.2.2.2.2.1 rfl rfl rfl (Nat.le_of_ble_eq_true rfl) ⟨Nat.le_of_ble_eq_true rfl, Nat.le_of_ble_eq_true rfl⟩ ⟨Nat.zero_le _, Nat.zero_le _⟩ d_X_load_15 (fun r3 σ4 h2 => ?_)
  refine g_istore_n F (ls' := [(1, .int r3), (0, .ref (xa X q))]) d_X_load_18 (by decide) rfl ?_
  refine g_iload_n F d_X_load_19 0 rfl ?_
  refine g_if_ge F (tgt := 25) d_X_load_20 (by decide) (fun h3 => ?_) (fun h4 => ?_)
  · refine g_aload_n F d_X_load_25 1 rfl ?_
    refine g_getR F fs_7_22 hq.1 rfl d_X_load_26 ?_
    refine g_aload_n F d_X_load_29 1 rfl ?_
    refine g_getR F fs_7_10 hq.1 rfl d_X_load_30 ?_
    refine g_callV F (dp := 3) (ci := 1) (As := [.ref (xa X (q + 1))]) (c_His_record l _ _ hq.2.2.2.1 hq.2.1 _) cv_7_45 hq.2.2.2.1.1 rfl rfl rfl (Nat.le_of_ble_eq_true rfl) ⟨Nat.le_of_ble_eq_true rfl, Nat.le_of_ble_eq_true rfl⟩ ⟨Nat.zero_le _, Nat.zero_le _⟩ d_X_load_33 (fun _ σ6 h5 => ?_)
    refine g_aload_n F d_X_load_36 1 rfl ?_
    refine g_getR F fs_7_10 hq.1 rfl d_X_load_37 ?_
    refine g_aload_n F d_X_load_40 1 rfl ?_
    refine g_getR F fs_7_16 hq.1 rfl d_X_load_41 ?_
    refine g_callV F (dp := 2) (ci := 2) (As := [.ref (xa X (q + 43))]) (c_Hub_copyFrom l _ _ hq.2.1 hq.2.2.1 _) cv_7_126 hq.2.1.1 rfl rfl rfl (Nat.le_of_ble_eq_true rfl) ⟨Nat.le_of_ble_eq_true rfl, Nat.le_of_ble_eq_true rfl⟩ ⟨Nat.zero_le _, Nat.zero_le _⟩ d_X_load_44 (fun _ σ8 h6 => ?_)
    refine g_aload_n F d_X_load_47 1 rfl ?_
    refine g_getR F fs_7_29 hq.1 rfl d_X_load_48 ?_
    refine g_callV F (dp := 0) (ci := 6) (As := []) (c_Txt_clear l _ hq.2.2.2.2 _) cv_7_117 hq.2.2.2.2.1 rfl rfl rfl (Nat.le_of_ble_eq_true rfl) ⟨Nat.le_of_ble_eq_true rfl, Nat.le_of_ble_eq_true rfl⟩ ⟨Nat.zero_le _, Nat.zero_le _⟩ d_X_load_51 (fun r9 σ10 h7 => ?_)
    refine g_pop F d_X_load_54 rfl ?_
    refine g_iload_n F d_X_load_55 0 rfl ?_
    exact g_iret F hlk hr d_X_load_56
  refine g_iload_n F d_X_load_23 0 rfl ?_
  exact g_iret F hlk hr d_X_load_24
def y_X_advance : MethodName := ⟨"SensorHub", "advance", "(I)I"⟩
theorem d_X_advance_0 : decode prog_1_method_11_code 0 = .ok (.iload_n 1, 1) := by decide +kernel
theorem d_X_advance_1 : decode prog_1_method_11_code 1 = .ok (.iconst 1, 1) := by decide +kernel
theorem d_X_advance_2 : decode prog_1_method_11_code 2 = .ok (.sipush 500, 3) := by decide +kernel
theorem d_X_advance_5 : decode prog_1_method_11_code 5 = .ok (.invokestatic 33, 3) := by decide +kernel
theorem d_X_advance_8 : decode prog_1_method_11_code 8 = .ok (.ifCond .ne 5, 3) := by decide +kernel
theorem d_X_advance_11 : decode prog_1_method_11_code 11 = .ok (.iconst (-1), 1) := by decide +kernel
theorem d_X_advance_12 : decode prog_1_method_11_code 12 = .ok (.ireturn, 1) := by decide +kernel
theorem d_X_advance_13 : decode prog_1_method_11_code 13 = .ok (.aload_n 0, 1) := by decide +kernel
theorem d_X_advance_14 : decode prog_1_method_11_code 14 = .ok (.getfield 10, 3) := by decide +kernel
theorem d_X_advance_17 : decode prog_1_method_11_code 17 = .ok (.getfield 129, 3) := by decide +kernel
theorem d_X_advance_20 : decode prog_1_method_11_code 20 = .ok (.iload_n 1, 1) := by decide +kernel
theorem d_X_advance_21 : decode prog_1_method_11_code 21 = .ok (.iadd, 1) := by decide +kernel
theorem d_X_advance_22 : decode prog_1_method_11_code 22 = .ok (.sipush 9999, 3) := by decide +kernel
theorem d_X_advance_25 : decode prog_1_method_11_code 25 = .ok (.if_icmp .le 6, 3) := by decide +kernel
theorem d_X_advance_28 : decode prog_1_method_11_code 28 = .ok (.bipush (-3), 2) := by decide +kernel
theorem d_X_advance_30 : decode prog_1_method_11_code 30 = .ok (.ireturn, 1) := by decide +kernel
theorem d_X_advance_31 : decode prog_1_method_11_code 31 = .ok (.aload_n 0, 1) := by decide +kernel
theorem d_X_advance_32 : decode prog_1_method_11_code 32 = .ok (.getfield 22, 3) := by decide +kernel
theorem d_X_advance_35 : decode prog_1_method_11_code 35 = .ok (.aload_n 0, 1) := by decide +kernel
theorem d_X_advance_36 : decode prog_1_method_11_code 36 = .ok (.getfield 10, 3) := by decide +kernel
theorem d_X_advance_39 : decode prog_1_method_11_code 39 = .ok (.invokevirtual 45, 3) := by decide +kernel
theorem d_X_advance_42 : decode prog_1_method_11_code 42 = .ok (.aload_n 0, 1) := by decide +kernel
theorem d_X_advance_43 : decode prog_1_method_11_code 43 = .ok (.getfield 10, 3) := by decide +kernel
theorem d_X_advance_46 : decode prog_1_method_11_code 46 = .ok (.invokevirtual 132, 3) := by decide +kernel
theorem d_X_advance_49 : decode prog_1_method_11_code 49 = .ok (.istore_n 2, 1) := by decide +kernel
theorem d_X_advance_50 : decode prog_1_method_11_code 50 = .ok (.aload_n 0, 1) := by decide +kernel
theorem d_X_advance_51 : decode prog_1_method_11_code 51 = .ok (.getfield 10, 3) := by decide +kernel
theorem d_X_advance_54 : decode prog_1_method_11_code 54 = .ok (.iload_n 1, 1) := by decide +kernel
theorem d_X_advance_55 : decode prog_1_method_11_code 55 = .ok (.invokevirtual 135, 3) := by decide +kernel
theorem d_X_advance_58 : decode prog_1_method_11_code 58 = .ok (.aload_n 0, 1) := by decide +kernel
theorem d_X_advance_59 : decode prog_1_method_11_code 59 = .ok (.getfield 10, 3) := by decide +kernel
theorem d_X_advance_62 : decode prog_1_method_11_code 62 = .ok (.invokevirtual 132, 3) := by decide +kernel
theorem d_X_advance_65 : decode prog_1_method_11_code 65 = .ok (.iload_n 2, 1) := by decide +kernel
theorem d_X_advance_66 : decode prog_1_method_11_code 66 = .ok (.isub, 1) := by decide +kernel
theorem d_X_advance_67 : decode prog_1_method_11_code 67 = .ok (.ireturn, 1) := by decide +kernel
theorem fs_7_129 : FS "SensorHub" 129 2 0 := ⟨"SensorHub$Hub", T_2, 11, rfl, by decide, rfl, gw_I 287 (by decide +kernel) rfl⟩
theorem cv_7_132 : CSV "SensorHub" 132 y_Hub_allWakes prog_4_method_35_code 3 (some .int) 0 := ⟨gw_I 727 (by decide +kernel) rfl, gw_I 728 (by decide +kernel) rfl, gw_I 729 (by decide +kernel) rfl, gw_I 71 (by decide +kernel) rfl, gw_I 730 (by decide +kernel) rfl, ⟨by decide +kernel, by decide +kernel⟩, by decide +kernel⟩
theorem cv_7_135 : CSV "SensorHub" 135 y_Hub_runTicks prog_4_method_23_code 3 none 1 := ⟨gw_I 731 (by decide +kernel) rfl, gw_I 732 (by decide +kernel) rfl, gw_I 733 (by decide +kernel) rfl, gw_I 71 (by decide +kernel) rfl, gw_I 734 (by decide +kernel) rfl, ⟨by decide +kernel, by decide +kernel⟩, by decide +kernel⟩
def f_X_advance (q : Nat) (p1 : Int32) (σ : Mem) : Option (Int32 × Mem) :=
  bd (f_X_isWithin p1 (1 : Int32) (500 : Int32) σ) fun r1 σ2 =>
  if r1 = 0 then
    some ((-1 : Int32), σ2)
  else
    if ((σ2 (q + 1) 0) + p1) ≤ (9999 : Int32) then
      bd (f_His_record (q + 85) (q + 1) σ2) fun _ σ4 =>
      bd (f_Hub_allWakes (q + 1) σ4) fun r5 σ6 =>
      bd (f_Hub_runTicks (q + 1) p1 σ6) fun _ σ8 =>
      bd (f_Hub_allWakes (q + 1) σ8) fun r9 σ10 =>
      some (r9 - r5, σ10)
    else
      some ((-3 : Int32), σ2)
set_option maxRecDepth 100000 in
set_option maxHeartbeats 4000000 in
theorem c_X_advance {X : CX} (l : Launch) (q : Nat) (p1 : Int32) (hq : TopOK X q) (σ : Mem) : CT X l y_X_advance prog_1_method_11_code 3 (some .int) 6 vI [.ref (xa X q), .int p1] σ (f_X_advance q p1 σ) := by
  refine CT_of (by decide +kernel) (Nat.le_of_ble_eq_true rfl) ?_
  intro p e s m args below meth c F hlk hr
  have F : FR p s m args c prog_1_method_11_code 3 "SensorHub" X := F
  show G X p l e (rmD 6) s m args below meth c 3 0 0 (QI X below args s vI) 0 [(0, .ref (xa X q)), (1, .int p1)] [] σ _
  unfold f_X_advance
  refine g_iload_n F d_X_advance_0 1 rfl ?_
  refine g_iconst F (v := 1) d_X_advance_1 (by decide) ?_
  refine g_sipush F (v := 500) d_X_advance_2 (by decide) ?_
  refine g_callS F (dp := 0) (As := [.int p1, .int (1 : Int32), .int (500 : Int32)]) (c_X_isWithin l _ _ _ _) cs_7_33 rfl rfl (Nat.le_of_ble_eq_true rfl) ⟨Nat.le_of_ble_eq_true rfl, Nat.le_of_ble_eq_true rfl⟩ ⟨Nat.zero_le _, Nat.zero_le _⟩ d_X_advance_5 (fun r1 σ2 h1 => ?_)
  refine g_if_ne F (tgt := 13) d_X_advance_8 (by decide) (fun h2 => ?_) (fun h3 => ?_)
  · refine g_iconst F (v := (-1)) d_X_advance_11 (by decide) ?_
    exact g_iret F hlk hr d_X_advance_12
  refine g_aload_n F d_X_advance_13 0 rfl ?_
  refine g_getR F fs_7_10 hq.1 rfl d_X_advance_14 ?_
  refine g_getI F fs_7_129 hq.2.1.1 rfl d_X_advance_17 ?_
  refine g_iload_n F d_X_advance_20 1 rfl ?_
  refine g_iadd F d_X_advance_21 ?_
  refine g_sipush F (v := 9999) d_X_advance_22 (by decide) ?_
  refine g_icmp_le F (tgt := 31) d_X_advance_25 (by decide) (fun h4 => ?_) (fun h5 => ?_)
  · refine g_aload_n F d_X_advance_31 0 rfl ?_
    refine g_getR F fs_7_22 hq.1 rfl d_X_advance_32 ?_
    refine g_aload_n F d_X_advance_35 0 rfl ?_
    refine g_getR F fs_7_10 hq.1 rfl d_X_advance_36 ?_
    refine g_callV F (dp := 3) (ci := 1) (As := [.ref (xa X (q + 1))]) (c_His_record l _ _ hq.2.2.2.1 hq.2.1 _) cv_7_45 hq.2.2.2.1.1 rfl rfl rfl (Nat.le_of_ble_eq_true rfl) ⟨Nat.le_of_ble_eq_true rfl, Nat.le_of_ble_eq_true rfl⟩ ⟨Nat.zero_le _, Nat.zero_le _⟩ d_X_advance_39 (fun _ σ4 h6 => ?_)
    refine g_aload_n F d_X_advance_42 0 rfl ?_
    refine g_getR F fs_7_10 hq.1 rfl d_X_advance_43 ?_
    refine g_callV F (dp := 0) (ci := 2) (As := []) (c_Hub_allWakes l _ hq.2.1 _) cv_7_132 hq.2.1.1 rfl rfl rfl (Nat.le_of_ble_eq_true rfl) ⟨Nat.le_of_ble_eq_true rfl, Nat.le_of_ble_eq_true rfl⟩ ⟨Nat.zero_le _, Nat.zero_le _⟩ d_X_advance_46 (fun r5 σ6 h7 => ?_)
    refine g_istore_n F (ls' := [(2, .int r5), (0, .ref (xa X q)), (1, .int p1)]) d_X_advance_49 (by decide) rfl ?_
    refine g_aload_n F d_X_advance_50 1 rfl ?_
    refine g_getR F fs_7_10 hq.1 rfl d_X_advance_51 ?_
    refine g_iload_n F d_X_advance_54 2 rfl ?_
    refine g_callV F (dp := 5) (ci := 2) (As := [.int p1]) (c_Hub_runTicks l _ _ hq.2.1 _) cv_7_135 hq.2.1.1 rfl rfl rfl (Nat.le_of_ble_eq_true rfl) ⟨Nat.le_of_ble_eq_true rfl, Nat.le_of_ble_eq_true rfl⟩ ⟨Nat.zero_le _, Nat.zero_le _⟩ d_X_advance_55 (fun _ σ8 h8 => ?_)
    refine g_aload_n F d_X_advance_58 1 rfl ?_
    refine g_getR F fs_7_10 hq.1 rfl d_X_advance_59 ?_
    refine g_callV F (dp := 0) (ci := 2) (As := []) (c_Hub_allWakes l _ hq.2.1 _) cv_7_132 hq.2.1.1 rfl rfl rfl (Nat.le_of_ble_eq_true rfl) ⟨Nat.le_of_ble_eq_true rfl, Nat.le_of_ble_eq_true rfl⟩ ⟨Nat.zero_le _, Nat.zero_le _⟩ d_X_advance_62 (fun r9 σ10 h9 => ?_)
    refine g_iload_n F d_X_advance_65 0 rfl ?_
    refine g_isub F d_X_advance_66 ?_
    exact g_iret F hlk hr d_X_advance_67
  refine g_bipush F (v := (-3)) d_X_advance_28 (by decide) ?_
  exact g_iret F hlk hr d_X_advance_30
def y_X_flush : MethodName := ⟨"SensorHub", "flush", "()I"⟩
theorem d_X_flush_0 : decode prog_1_method_12_code 0 = .ok (.aload_n 0, 1) := by decide +kernel
theorem d_X_flush_1 : decode prog_1_method_12_code 1 = .ok (.getfield 10, 3) := by decide +kernel
theorem d_X_flush_4 : decode prog_1_method_12_code 4 = .ok (.getfield 139, 3) := by decide +kernel
theorem d_X_flush_7 : decode prog_1_method_12_code 7 = .ok (.getfield 143, 3) := by decide +kernel
theorem d_X_flush_10 : decode prog_1_method_12_code 10 = .ok (.ifCond .ne 6, 3) := by decide +kernel
theorem d_X_flush_13 : decode prog_1_method_12_code 13 = .ok (.bipush (-2), 2) := by decide +kernel
theorem d_X_flush_15 : decode prog_1_method_12_code 15 = .ok (.ireturn, 1) := by decide +kernel
theorem d_X_flush_16 : decode prog_1_method_12_code 16 = .ok (.aload_n 0, 1) := by decide +kernel
theorem d_X_flush_17 : decode prog_1_method_12_code 17 = .ok (.getfield 22, 3) := by decide +kernel
theorem d_X_flush_20 : decode prog_1_method_12_code 20 = .ok (.aload_n 0, 1) := by decide +kernel
theorem d_X_flush_21 : decode prog_1_method_12_code 21 = .ok (.getfield 10, 3) := by decide +kernel
theorem d_X_flush_24 : decode prog_1_method_12_code 24 = .ok (.invokevirtual 45, 3) := by decide +kernel
theorem d_X_flush_27 : decode prog_1_method_12_code 27 = .ok (.aload_n 0, 1) := by decide +kernel
theorem d_X_flush_28 : decode prog_1_method_12_code 28 = .ok (.getfield 10, 3) := by decide +kernel
theorem d_X_flush_31 : decode prog_1_method_12_code 31 = .ok (.iconst 3, 1) := by decide +kernel
theorem d_X_flush_32 : decode prog_1_method_12_code 32 = .ok (.invokevirtual 91, 3) := by decide +kernel
theorem d_X_flush_35 : decode prog_1_method_12_code 35 = .ok (.ireturn, 1) := by decide +kernel
theorem fs_7_139 : FS "SensorHub" 139 2 10 := ⟨"SensorHub$Hub", T_2, 11, rfl, by decide, rfl, gw_I 306 (by decide +kernel) rfl⟩
theorem fs_7_143 : FS "SensorHub" 143 5 0 := ⟨"SensorHub$Store", T_5, 2, rfl, by decide, rfl, gw_I 133 (by decide +kernel) rfl⟩
def f_X_flush (q : Nat) (σ : Mem) : Option (Int32 × Mem) :=
  if (σ (q + 1 + 8) 0) = 0 then
    some ((-2 : Int32), σ)
  else
    bd (f_His_record (q + 85) (q + 1) σ) fun _ σ2 =>
    bd (f_Hub_wake (q + 1) (3 : Int32) σ2) fun r3 σ4 =>
    some (r3, σ4)
set_option maxRecDepth 100000 in
set_option maxHeartbeats 4000000 in
theorem c_X_flush {X : CX} (l : Launch) (q : Nat) (hq : TopOK X q) (σ : Mem) : CT X l y_X_flush prog_1_method_12_code 1 (some .int) 4 vI [.ref (xa X q)] σ (f_X_flush q σ) := by
  refine CT_of (by decide +kernel) (Nat.le_of_ble_eq_true rfl) ?_
  intro p e s m args below meth c F hlk hr
  have F : FR p s m args c prog_1_method_12_code 1 "SensorHub" X := F
  show G X p l e (rmD 4) s m args below meth c 1 0 0 (QI X below args s vI) 0 [(0, .ref (xa X q))] [] σ _
  unfold f_X_flush
  refine g_aload_n F d_X_flush_0 0 rfl ?_
  refine g_getR F fs_7_10 hq.1 rfl d_X_flush_1 ?_
  refine g_getR F fs_7_139 hq.2.1.1 rfl d_X_flush_4 ?_
  refine g_getI F fs_7_143 hq.2.1.2.2.2.2.2.1.1 rfl d_X_flush_7 ?_
  refine g_if_ne F (tgt := 16) d_X_flush_10 (by decide) (fun h1 => ?_) (fun h2 => ?_)
  · refine g_bipush F (v := (-2)) d_X_flush_13 (by decide) ?_
    exact g_iret F hlk hr d_X_flush_15
  refine g_aload_n F d_X_flush_16 0 rfl ?_
  refine g_getR F fs_7_22 hq.1 rfl d_X_flush_17 ?_
  refine g_aload_n F d_X_flush_20 0 rfl ?_
  refine g_getR F fs_7_10 hq.1 rfl d_X_flush_21 ?_
  refine g_callV F (dp := 3) (ci := 1) (As := [.ref (xa X (q + 1))]) (c_His_record l _ _ hq.2.2.2.1 hq.2.1 _) cv_7_45 hq.2.2.2.1.1 rfl rfl rfl (Nat.le_of_ble_eq_true rfl) ⟨Nat.le_of_ble_eq_true rfl, Nat.le_of_ble_eq_true rfl⟩ ⟨Nat.zero_le _, Nat.zero_le _⟩ d_X_flush_24 (fun _ σ2 h3 => ?_)
  refine g_aload_n F d_X_flush_27 0 rfl ?_
  refine g_getR F fs_7_10 hq.1 rfl d_X_flush_28 ?_
  refine g_iconst F (v := 3) d_X_flush_31 (by decide) ?_
  refine g_callV F (dp := 2) (ci := 2) (As := [.int (3 : Int32)]) (c_Hub_wake l _ _ hq.2.1 _) cv_7_91 hq.2.1.1 rfl rfl rfl (Nat.le_of_ble_eq_true rfl) ⟨Nat.le_of_ble_eq_true rfl, Nat.le_of_ble_eq_true rfl⟩ ⟨Nat.zero_le _, Nat.zero_le _⟩ d_X_flush_32 (fun r3 σ4 h4 => ?_)
  exact g_iret F hlk hr d_X_flush_35
def y_X_undo : MethodName := ⟨"SensorHub", "undo", "()I"⟩
theorem d_X_undo_0 : decode prog_1_method_13_code 0 = .ok (.aload_n 0, 1) := by decide +kernel
theorem d_X_undo_1 : decode prog_1_method_13_code 1 = .ok (.getfield 22, 3) := by decide +kernel
theorem d_X_undo_4 : decode prog_1_method_13_code 4 = .ok (.getfield 148, 3) := by decide +kernel
theorem d_X_undo_7 : decode prog_1_method_13_code 7 = .ok (.ifCond .ne 6, 3) := by decide +kernel
theorem d_X_undo_10 : decode prog_1_method_13_code 10 = .ok (.bipush (-2), 2) := by decide +kernel
theorem d_X_undo_12 : decode prog_1_method_13_code 12 = .ok (.ireturn, 1) := by decide +kernel
theorem d_X_undo_13 : decode prog_1_method_13_code 13 = .ok (.aload_n 0, 1) := by decide +kernel
theorem d_X_undo_14 : decode prog_1_method_13_code 14 = .ok (.getfield 22, 3) := by decide +kernel
theorem d_X_undo_17 : decode prog_1_method_13_code 17 = .ok (.aload_n 0, 1) := by decide +kernel
theorem d_X_undo_18 : decode prog_1_method_13_code 18 = .ok (.getfield 10, 3) := by decide +kernel
theorem d_X_undo_21 : decode prog_1_method_13_code 21 = .ok (.invokevirtual 149, 3) := by decide +kernel
theorem d_X_undo_24 : decode prog_1_method_13_code 24 = .ok (.ireturn, 1) := by decide +kernel
theorem fs_7_148 : FS "SensorHub" 148 1 0 := ⟨"SensorHub$History", T_1, 3, rfl, by decide, rfl, gw_I 340 (by decide +kernel) rfl⟩
theorem cv_7_149 : CSV "SensorHub" 149 y_His_restore prog_3_method_3_code 4 (some .int) 1 := ⟨gw_I 813 (by decide +kernel) rfl, gw_I 814 (by decide +kernel) rfl, gw_I 815 (by decide +kernel) rfl, gw_I 76 (by decide +kernel) rfl, gw_I 816 (by decide +kernel) rfl, ⟨by decide +kernel, by decide +kernel⟩, by decide +kernel⟩
def f_X_undo (q : Nat) (σ : Mem) : Option (Int32 × Mem) :=
  if (σ (q + 85) 0) = 0 then
    some ((-2 : Int32), σ)
  else
    bd (f_His_restore (q + 85) (q + 1) σ) fun r1 σ2 =>
    some (r1, σ2)
set_option maxRecDepth 100000 in
set_option maxHeartbeats 4000000 in
theorem c_X_undo {X : CX} (l : Launch) (q : Nat) (hq : TopOK X q) (σ : Mem) : CT X l y_X_undo prog_1_method_13_code 1 (some .int) 4 vI [.ref (xa X q)] σ (f_X_undo q σ) := by
  refine CT_of (by decide +kernel) (Nat.le_of_ble_eq_true rfl) ?_
  intro p e s m args below meth c F hlk hr
  have F : FR p s m args c prog_1_method_13_code 1 "SensorHub" X := F
  show G X p l e (rmD 4) s m args below meth c 1 0 0 (QI X below args s vI) 0 [(0, .ref (xa X q))] [] σ _
  unfold f_X_undo
  refine g_aload_n F d_X_undo_0 0 rfl ?_
  refine g_getR F fs_7_22 hq.1 rfl d_X_undo_1 ?_
  refine g_getI F fs_7_148 hq.2.2.2.1.1 rfl d_X_undo_4 ?_
  refine g_if_ne F (tgt := 13) d_X_undo_7 (by decide) (fun h1 => ?_) (fun h2 => ?_)
  · refine g_bipush F (v := (-2)) d_X_undo_10 (by decide) ?_
    exact g_iret F hlk hr d_X_undo_12
  refine g_aload_n F d_X_undo_13 0 rfl ?_
  refine g_getR F fs_7_22 hq.1 rfl d_X_undo_14 ?_
  refine g_aload_n F d_X_undo_17 0 rfl ?_
  refine g_getR F fs_7_10 hq.1 rfl d_X_undo_18 ?_
  refine g_callV F (dp := 3) (ci := 1) (As := [.ref (xa X (q + 1))]) (c_His_restore l _ _ hq.2.2.2.1 hq.2.1 _) cv_7_149 hq.2.2.2.1.1 rfl rfl rfl (Nat.le_of_ble_eq_true rfl) ⟨Nat.le_of_ble_eq_true rfl, Nat.le_of_ble_eq_true rfl⟩ ⟨Nat.zero_le _, Nat.zero_le _⟩ d_X_undo_21 (fun r1 σ2 h3 => ?_)
  exact g_iret F hlk hr d_X_undo_24
def y_X_count : MethodName := ⟨"SensorHub", "count", "(I)I"⟩
theorem d_X_count_0 : decode prog_1_method_14_code 0 = .ok (.iload_n 1, 1) := by decide +kernel
theorem d_X_count_1 : decode prog_1_method_14_code 1 = .ok (.tableswitch 141 0 9 #[55, 63, 71, 79, 90, 101, 109, 117, 125, 133], 55) := by decide +kernel
theorem d_X_count_56 : decode prog_1_method_14_code 56 = .ok (.aload_n 0, 1) := by decide +kernel
theorem d_X_count_57 : decode prog_1_method_14_code 57 = .ok (.getfield 10, 3) := by decide +kernel
theorem d_X_count_60 : decode prog_1_method_14_code 60 = .ok (.getfield 129, 3) := by decide +kernel
theorem d_X_count_63 : decode prog_1_method_14_code 63 = .ok (.ireturn, 1) := by decide +kernel
theorem d_X_count_64 : decode prog_1_method_14_code 64 = .ok (.aload_n 0, 1) := by decide +kernel
theorem d_X_count_65 : decode prog_1_method_14_code 65 = .ok (.getfield 10, 3) := by decide +kernel
theorem d_X_count_68 : decode prog_1_method_14_code 68 = .ok (.getfield 152, 3) := by decide +kernel
theorem d_X_count_71 : decode prog_1_method_14_code 71 = .ok (.ireturn, 1) := by decide +kernel
theorem d_X_count_72 : decode prog_1_method_14_code 72 = .ok (.aload_n 0, 1) := by decide +kernel
theorem d_X_count_73 : decode prog_1_method_14_code 73 = .ok (.getfield 10, 3) := by decide +kernel
theorem d_X_count_76 : decode prog_1_method_14_code 76 = .ok (.invokevirtual 155, 3) := by decide +kernel
theorem d_X_count_79 : decode prog_1_method_14_code 79 = .ok (.ireturn, 1) := by decide +kernel
theorem d_X_count_80 : decode prog_1_method_14_code 80 = .ok (.aload_n 0, 1) := by decide +kernel
theorem d_X_count_81 : decode prog_1_method_14_code 81 = .ok (.getfield 10, 3) := by decide +kernel
theorem d_X_count_84 : decode prog_1_method_14_code 84 = .ok (.getfield 69, 3) := by decide +kernel
theorem d_X_count_87 : decode prog_1_method_14_code 87 = .ok (.getfield 158, 3) := by decide +kernel
theorem d_X_count_90 : decode prog_1_method_14_code 90 = .ok (.ireturn, 1) := by decide +kernel
theorem d_X_count_91 : decode prog_1_method_14_code 91 = .ok (.aload_n 0, 1) := by decide +kernel
theorem d_X_count_92 : decode prog_1_method_14_code 92 = .ok (.getfield 10, 3) := by decide +kernel
theorem d_X_count_95 : decode prog_1_method_14_code 95 = .ok (.getfield 139, 3) := by decide +kernel
theorem d_X_count_98 : decode prog_1_method_14_code 98 = .ok (.getfield 143, 3) := by decide +kernel
theorem d_X_count_101 : decode prog_1_method_14_code 101 = .ok (.ireturn, 1) := by decide +kernel
theorem d_X_count_102 : decode prog_1_method_14_code 102 = .ok (.aload_n 0, 1) := by decide +kernel
theorem d_X_count_103 : decode prog_1_method_14_code 103 = .ok (.getfield 10, 3) := by decide +kernel
theorem d_X_count_106 : decode prog_1_method_14_code 106 = .ok (.getfield 111, 3) := by decide +kernel
theorem d_X_count_109 : decode prog_1_method_14_code 109 = .ok (.ireturn, 1) := by decide +kernel
theorem d_X_count_110 : decode prog_1_method_14_code 110 = .ok (.aload_n 0, 1) := by decide +kernel
theorem d_X_count_111 : decode prog_1_method_14_code 111 = .ok (.getfield 10, 3) := by decide +kernel
theorem d_X_count_114 : decode prog_1_method_14_code 114 = .ok (.getfield 159, 3) := by decide +kernel
theorem d_X_count_117 : decode prog_1_method_14_code 117 = .ok (.ireturn, 1) := by decide +kernel
theorem d_X_count_118 : decode prog_1_method_14_code 118 = .ok (.aload_n 0, 1) := by decide +kernel
theorem d_X_count_119 : decode prog_1_method_14_code 119 = .ok (.getfield 10, 3) := by decide +kernel
theorem d_X_count_122 : decode prog_1_method_14_code 122 = .ok (.getfield 162, 3) := by decide +kernel
theorem d_X_count_125 : decode prog_1_method_14_code 125 = .ok (.ireturn, 1) := by decide +kernel
theorem d_X_count_126 : decode prog_1_method_14_code 126 = .ok (.aload_n 0, 1) := by decide +kernel
theorem d_X_count_127 : decode prog_1_method_14_code 127 = .ok (.getfield 22, 3) := by decide +kernel
theorem d_X_count_130 : decode prog_1_method_14_code 130 = .ok (.getfield 148, 3) := by decide +kernel
theorem d_X_count_133 : decode prog_1_method_14_code 133 = .ok (.ireturn, 1) := by decide +kernel
theorem d_X_count_134 : decode prog_1_method_14_code 134 = .ok (.aload_n 0, 1) := by decide +kernel
theorem d_X_count_135 : decode prog_1_method_14_code 135 = .ok (.getfield 29, 3) := by decide +kernel
theorem d_X_count_138 : decode prog_1_method_14_code 138 = .ok (.getfield 165, 3) := by decide +kernel
theorem d_X_count_141 : decode prog_1_method_14_code 141 = .ok (.ireturn, 1) := by decide +kernel
theorem d_X_count_142 : decode prog_1_method_14_code 142 = .ok (.iconst (-1), 1) := by decide +kernel
theorem d_X_count_143 : decode prog_1_method_14_code 143 = .ok (.ireturn, 1) := by decide +kernel
theorem fs_7_152 : FS "SensorHub" 152 2 4 := ⟨"SensorHub$Hub", T_2, 11, rfl, by decide, rfl, gw_I 296 (by decide +kernel) rfl⟩
theorem cv_7_155 : CSV "SensorHub" 155 y_Hub_clientCount prog_4_method_13_code 3 (some .int) 0 := ⟨gw_I 821 (by decide +kernel) rfl, gw_I 822 (by decide +kernel) rfl, gw_I 823 (by decide +kernel) rfl, gw_I 71 (by decide +kernel) rfl, gw_I 824 (by decide +kernel) rfl, ⟨by decide +kernel, by decide +kernel⟩, by decide +kernel⟩
theorem fs_7_158 : FS "SensorHub" 158 3 0 := ⟨"SensorHub$Outages", T_3, 4, rfl, by decide, rfl, gw_I 111 (by decide +kernel) rfl⟩
theorem fs_7_159 : FS "SensorHub" 159 2 2 := ⟨"SensorHub$Hub", T_2, 11, rfl, by decide, rfl, gw_I 291 (by decide +kernel) rfl⟩
theorem fs_7_162 : FS "SensorHub" 162 2 1 := ⟨"SensorHub$Hub", T_2, 11, rfl, by decide, rfl, gw_I 289 (by decide +kernel) rfl⟩
theorem fs_7_165 : FS "SensorHub" 165 6 0 := ⟨"SensorHub$Text", T_6, 6, rfl, by decide, rfl, gw_I 357 (by decide +kernel) rfl⟩
def f_X_count (q : Nat) (p1 : Int32) (σ : Mem) : Option (Int32 × Mem) :=
  if p1 = 0 then
    some (σ (q + 1) 0, σ)
  else
  if p1 = 1 then
    some (σ (q + 1) 4, σ)
  else
  if p1 = 2 then
    bd (f_Hub_clientCount (q + 1) σ) fun r1 σ2 =>
    some (r1, σ2)
  else
  if p1 = 3 then
    some (σ (q + 1 + 4) 0, σ)
  else
  if p1 = 4 then
    some (σ (q + 1 + 8) 0, σ)
  else
  if p1 = 5 then
    some (σ (q + 1) 3, σ)
  else
  if p1 = 6 then
    some (σ (q + 1) 2, σ)
  else
  if p1 = 7 then
    some (σ (q + 1) 1, σ)
  else
  if p1 = 8 then
    some (σ (q + 85) 0, σ)
  else
  if p1 = 9 then
    some (σ (q + 297) 0, σ)
  else
    some ((-1 : Int32), σ)
set_option maxRecDepth 100000 in
set_option maxHeartbeats 4000000 in
theorem c_X_count {X : CX} (l : Launch) (q : Nat) (p1 : Int32) (hq : TopOK X q) (σ : Mem) : CT X l y_X_count prog_1_method_14_code 2 (some .int) 2 vI [.ref (xa X q), .int p1] σ (f_X_count q p1 σ) := by
  refine CT_of (by decide +kernel) (Nat.le_of_ble_eq_true rfl) ?_
  intro p e s m args below meth c F hlk hr
  have F : FR p s m args c prog_1_method_14_code 2 "SensorHub" X := F
  show G X p l e (rmD 2) s m args below meth c 2 0 0 (QI X below args s vI) 0 [(0, .ref (xa X q)), (1, .int p1)] [] σ _
  unfold f_X_count
  refine g_iload_n F d_X_count_0 1 rfl ?_
  refine g_if (fun h1 => ?_) (fun h2 => ?_)
  · refine g_tsIn F (tgt := 56) d_X_count_1 0 h1 (by decide) (by decide) rfl (by decide) ?_
    refine g_aload_n F d_X_count_56 0 rfl ?_
    refine g_getR F fs_7_10 hq.1 rfl d_X_count_57 ?_
    refine g_getI F fs_7_129 hq.2.1.1 rfl d_X_count_60 ?_
    exact g_iret F hlk hr d_X_count_63
  refine g_if (fun h3 => ?_) (fun h4 => ?_)
  · refine g_tsIn F (tgt := 64) d_X_count_1 1 h3 (by decide) (by decide) rfl (by decide) ?_
    refine g_aload_n F d_X_count_64 0 rfl ?_
    refine g_getR F fs_7_10 hq.1 rfl d_X_count_65 ?_
    refine g_getI F fs_7_152 hq.2.1.1 rfl d_X_count_68 ?_
    exact g_iret F hlk hr d_X_count_71
  refine g_if (fun h5 => ?_) (fun h6 => ?_)
  · refine g_tsIn F (tgt := 72) d_X_count_1 2 h5 (by decide) (by decide) rfl (by decide) ?_
    refine g_aload_n F d_X_count_72 0 rfl ?_
    refine g_getR F fs_7_10 hq.1 rfl d_X_count_73 ?_
    refine g_callV F (dp := 1) (ci := 2) (As := []) (c_Hub_clientCount l _ hq.2.1 _) cv_7_155 hq.2.1.1 rfl rfl rfl (Nat.le_of_ble_eq_true rfl) ⟨Nat.le_of_ble_eq_true rfl, Nat.le_of_ble_eq_true rfl⟩ ⟨Nat.zero_le _, Nat.zero_le _⟩ d_X_count_76 (fun r1 σ2 h7 => ?_)
    exact g_iret F hlk hr d_X_count_79
  refine g_if (fun h8 => ?_) (fun h9 => ?_)
  · refine g_tsIn F (tgt := 80) d_X_count_1 3 h8 (by decide) (by decide) rfl (by decide) ?_
    refine g_aload_n F d_X_count_80 0 rfl ?_
    refine g_getR F fs_7_10 hq.1 rfl d_X_count_81 ?_
    refine g_getR F fs_7_69 hq.2.1.1 rfl d_X_count_84 ?_
    refine g_getI F fs_7_158 hq.2.1.2.2.2.2.1.1 rfl d_X_count_87 ?_
    exact g_iret F hlk hr d_X_count_90
  refine g_if (fun h10 => ?_) (fun h11 => ?_)
  · refine g_tsIn F (tgt := 91) d_X_count_1 4 h10 (by decide) (by decide) rfl (by decide) ?_
    refine g_aload_n F d_X_count_91 0 rfl ?_
    refine g_getR F fs_7_10 hq.1 rfl d_X_count_92 ?_
    refine g_getR F fs_7_139 hq.2.1.1 rfl d_X_count_95 ?_
    refine g_getI F fs_7_143 hq.2.1.2.2.2.2.2.1.1 rfl d_X_count_98 ?_
    exact g_iret F hlk hr d_X_count_101
  refine g_if (fun h12 => ?_) (fun h13 => ?_)
  · refine g_tsIn F (tgt := 102) d_X_count_1 5 h12 (by decide) (by decide) rfl (by decide) ?_
    refine g_aload_n F d_X_count_102 0 rfl ?_
    refine g_getR F fs_7_10 hq.1 rfl d_X_count_103 ?_
    refine g_getI F fs_7_111 hq.2.1.1 rfl d_X_count_106 ?_
    exact g_iret F hlk hr d_X_count_109
  refine g_if (fun h14 => ?_) (fun h15 => ?_)
  · refine g_tsIn F (tgt := 110) d_X_count_1 6 h14 (by decide) (by decide) rfl (by decide) ?_
    refine g_aload_n F d_X_count_110 0 rfl ?_
    refine g_getR F fs_7_10 hq.1 rfl d_X_count_111 ?_
    refine g_getI F fs_7_159 hq.2.1.1 rfl d_X_count_114 ?_
    exact g_iret F hlk hr d_X_count_117
  refine g_if (fun h16 => ?_) (fun h17 => ?_)
  · refine g_tsIn F (tgt := 118) d_X_count_1 7 h16 (by decide) (by decide) rfl (by decide) ?_
    refine g_aload_n F d_X_count_118 0 rfl ?_
    refine g_getR F fs_7_10 hq.1 rfl d_X_count_119 ?_
    refine g_getI F fs_7_162 hq.2.1.1 rfl d_X_count_122 ?_
    exact g_iret F hlk hr d_X_count_125
  refine g_if (fun h18 => ?_) (fun h19 => ?_)
  · refine g_tsIn F (tgt := 126) d_X_count_1 8 h18 (by decide) (by decide) rfl (by decide) ?_
    refine g_aload_n F d_X_count_126 0 rfl ?_
    refine g_getR F fs_7_22 hq.1 rfl d_X_count_127 ?_
    refine g_getI F fs_7_148 hq.2.2.2.1.1 rfl d_X_count_130 ?_
    exact g_iret F hlk hr d_X_count_133
  refine g_if (fun h20 => ?_) (fun h21 => ?_)
  · refine g_tsIn F (tgt := 134) d_X_count_1 9 h20 (by decide) (by decide) rfl (by decide) ?_
    refine g_aload_n F d_X_count_134 0 rfl ?_
    refine g_getR F fs_7_29 hq.1 rfl d_X_count_135 ?_
    refine g_getI F fs_7_165 hq.2.2.2.2.1 rfl d_X_count_138 ?_
    exact g_iret F hlk hr d_X_count_141
  refine g_tsOut F (tgt := 142) d_X_count_1 (by have e0 := ts_ne 0 (by decide) h2; have e1 := ts_ne 1 (by decide) h4; have e2 := ts_ne 2 (by decide) h6; have e3 := ts_ne 3 (by decide) h9; have e4 := ts_ne 4 (by decide) h11; have e5 := ts_ne 5 (by decide) h13; have e6 := ts_ne 6 (by decide) h15; have e7 := ts_ne 7 (by decide) h17; have e8 := ts_ne 8 (by decide) h19; have e9 := ts_ne 9 (by decide) h21; omega) (by decide) ?_
  refine g_iconst F (v := (-1)) d_X_count_142 (by decide) ?_
  exact g_iret F hlk hr d_X_count_143
def y_X_wakes : MethodName := ⟨"SensorHub", "wakes", "(I)I"⟩
theorem d_X_wakes_0 : decode prog_1_method_15_code 0 = .ok (.iload_n 1, 1) := by decide +kernel
theorem d_X_wakes_1 : decode prog_1_method_15_code 1 = .ok (.iconst 0, 1) := by decide +kernel
theorem d_X_wakes_2 : decode prog_1_method_15_code 2 = .ok (.iconst 3, 1) := by decide +kernel
theorem d_X_wakes_3 : decode prog_1_method_15_code 3 = .ok (.invokestatic 33, 3) := by decide +kernel
theorem d_X_wakes_6 : decode prog_1_method_15_code 6 = .ok (.ifCond .ne 5, 3) := by decide +kernel
theorem d_X_wakes_9 : decode prog_1_method_15_code 9 = .ok (.iconst (-1), 1) := by decide +kernel
theorem d_X_wakes_10 : decode prog_1_method_15_code 10 = .ok (.ireturn, 1) := by decide +kernel
theorem d_X_wakes_11 : decode prog_1_method_15_code 11 = .ok (.aload_n 0, 1) := by decide +kernel
theorem d_X_wakes_12 : decode prog_1_method_15_code 12 = .ok (.getfield 10, 3) := by decide +kernel
theorem d_X_wakes_15 : decode prog_1_method_15_code 15 = .ok (.iload_n 1, 1) := by decide +kernel
theorem d_X_wakes_16 : decode prog_1_method_15_code 16 = .ok (.invokevirtual 166, 3) := by decide +kernel
theorem d_X_wakes_19 : decode prog_1_method_15_code 19 = .ok (.ireturn, 1) := by decide +kernel
theorem cv_7_166 : CSV "SensorHub" 166 y_Hub_wakesOf prog_4_method_34_code 2 (some .int) 1 := ⟨gw_I 829 (by decide +kernel) rfl, gw_I 830 (by decide +kernel) rfl, gw_I 831 (by decide +kernel) rfl, gw_I 71 (by decide +kernel) rfl, gw_I 832 (by decide +kernel) rfl, ⟨by decide +kernel, by decide +kernel⟩, by decide +kernel⟩
def f_X_wakes (q : Nat) (p1 : Int32) (σ : Mem) : Option (Int32 × Mem) :=
  bd (f_X_isWithin p1 (0 : Int32) (3 : Int32) σ) fun r1 σ2 =>
  if r1 = 0 then
    some ((-1 : Int32), σ2)
  else
    bd (f_Hub_wakesOf (q + 1) p1 σ2) fun r3 σ4 =>
    some (r3, σ4)
set_option maxRecDepth 100000 in
set_option maxHeartbeats 4000000 in
theorem c_X_wakes {X : CX} (l : Launch) (q : Nat) (p1 : Int32) (hq : TopOK X q) (σ : Mem) : CT X l y_X_wakes prog_1_method_15_code 2 (some .int) 2 vI [.ref (xa X q), .int p1] σ (f_X_wakes q p1 σ) := by
  refine CT_of (by decide +kernel) (Nat.le_of_ble_eq_true rfl) ?_
  intro p e s m args below meth c F hlk hr
  have F : FR p s m args c prog_1_method_15_code 2 "SensorHub" X := F
  show G X p l e (rmD 2) s m args below meth c 2 0 0 (QI X below args s vI) 0 [(0, .ref (xa X q)), (1, .int p1)] [] σ _
  unfold f_X_wakes
  refine g_iload_n F d_X_wakes_0 1 rfl ?_
  refine g_iconst F (v := 0) d_X_wakes_1 (by decide) ?_
  refine g_iconst F (v := 3) d_X_wakes_2 (by decide) ?_
  refine g_callS F (dp := 0) (As := [.int p1, .int (0 : Int32), .int (3 : Int32)]) (c_X_isWithin l _ _ _ _) cs_7_33 rfl rfl (Nat.le_of_ble_eq_true rfl) ⟨Nat.le_of_ble_eq_true rfl, Nat.le_of_ble_eq_true rfl⟩ ⟨Nat.zero_le _, Nat.zero_le _⟩ d_X_wakes_3 (fun r1 σ2 h1 => ?_)
  refine g_if_ne F (tgt := 11) d_X_wakes_6 (by decide) (fun h2 => ?_) (fun h3 => ?_)
  · refine g_iconst F (v := (-1)) d_X_wakes_9 (by decide) ?_
    exact g_iret F hlk hr d_X_wakes_10
  refine g_aload_n F d_X_wakes_11 0 rfl ?_
  refine g_getR F fs_7_10 hq.1 rfl d_X_wakes_12 ?_
  refine g_iload_n F d_X_wakes_15 1 rfl ?_
  refine g_callV F (dp := 1) (ci := 2) (As := [.int p1]) (c_Hub_wakesOf l _ _ hq.2.1 _) cv_7_166 hq.2.1.1 rfl rfl rfl (Nat.le_of_ble_eq_true rfl) ⟨Nat.le_of_ble_eq_true rfl, Nat.le_of_ble_eq_true rfl⟩ ⟨Nat.zero_le _, Nat.zero_le _⟩ d_X_wakes_16 (fun r3 σ4 h4 => ?_)
  exact g_iret F hlk hr d_X_wakes_19
def y_X_sensor : MethodName := ⟨"SensorHub", "sensor", "(II)I"⟩
theorem d_X_sensor_0 : decode prog_1_method_16_code 0 = .ok (.aload_n 0, 1) := by decide +kernel
theorem d_X_sensor_1 : decode prog_1_method_16_code 1 = .ok (.getfield 10, 3) := by decide +kernel
theorem d_X_sensor_4 : decode prog_1_method_16_code 4 = .ok (.iload_n 1, 1) := by decide +kernel
theorem d_X_sensor_5 : decode prog_1_method_16_code 5 = .ok (.invokevirtual 53, 3) := by decide +kernel
theorem d_X_sensor_8 : decode prog_1_method_16_code 8 = .ok (.astore_n 3, 1) := by decide +kernel
theorem d_X_sensor_9 : decode prog_1_method_16_code 9 = .ok (.aload_n 3, 1) := by decide +kernel
theorem d_X_sensor_10 : decode prog_1_method_16_code 10 = .ok (.ifnonnull 5, 3) := by decide +kernel
theorem d_X_sensor_13 : decode prog_1_method_16_code 13 = .ok (.iconst (-1), 1) := by decide +kernel
theorem d_X_sensor_14 : decode prog_1_method_16_code 14 = .ok (.ireturn, 1) := by decide +kernel
theorem d_X_sensor_15 : decode prog_1_method_16_code 15 = .ok (.iload_n 2, 1) := by decide +kernel
theorem d_X_sensor_16 : decode prog_1_method_16_code 16 = .ok (.tableswitch 103 0 6 #[44, 49, 54, 59, 64, 81, 98], 44) := by decide +kernel
theorem d_X_sensor_60 : decode prog_1_method_16_code 60 = .ok (.aload_n 3, 1) := by decide +kernel
theorem d_X_sensor_61 : decode prog_1_method_16_code 61 = .ok (.getfield 169, 3) := by decide +kernel
theorem d_X_sensor_64 : decode prog_1_method_16_code 64 = .ok (.ireturn, 1) := by decide +kernel
theorem d_X_sensor_65 : decode prog_1_method_16_code 65 = .ok (.aload_n 3, 1) := by decide +kernel
theorem d_X_sensor_66 : decode prog_1_method_16_code 66 = .ok (.getfield 172, 3) := by decide +kernel
theorem d_X_sensor_69 : decode prog_1_method_16_code 69 = .ok (.ireturn, 1) := by decide +kernel
theorem d_X_sensor_70 : decode prog_1_method_16_code 70 = .ok (.aload_n 3, 1) := by decide +kernel
theorem d_X_sensor_71 : decode prog_1_method_16_code 71 = .ok (.getfield 175, 3) := by decide +kernel
theorem d_X_sensor_74 : decode prog_1_method_16_code 74 = .ok (.ireturn, 1) := by decide +kernel
theorem d_X_sensor_75 : decode prog_1_method_16_code 75 = .ok (.aload_n 3, 1) := by decide +kernel
theorem d_X_sensor_76 : decode prog_1_method_16_code 76 = .ok (.getfield 178, 3) := by decide +kernel
theorem d_X_sensor_79 : decode prog_1_method_16_code 79 = .ok (.ireturn, 1) := by decide +kernel
theorem d_X_sensor_80 : decode prog_1_method_16_code 80 = .ok (.aload_n 3, 1) := by decide +kernel
theorem d_X_sensor_81 : decode prog_1_method_16_code 81 = .ok (.getfield 178, 3) := by decide +kernel
theorem d_X_sensor_84 : decode prog_1_method_16_code 84 = .ok (.ifCond .ne 8, 3) := by decide +kernel
theorem d_X_sensor_87 : decode prog_1_method_16_code 87 = .ok (.bipush (-9), 2) := by decide +kernel
theorem d_X_sensor_89 : decode prog_1_method_16_code 89 = .ok (.goto 7, 3) := by decide +kernel
theorem d_X_sensor_92 : decode prog_1_method_16_code 92 = .ok (.aload_n 3, 1) := by decide +kernel
theorem d_X_sensor_93 : decode prog_1_method_16_code 93 = .ok (.getfield 181, 3) := by decide +kernel
theorem d_X_sensor_96 : decode prog_1_method_16_code 96 = .ok (.ireturn, 1) := by decide +kernel
theorem d_X_sensor_97 : decode prog_1_method_16_code 97 = .ok (.aload_n 3, 1) := by decide +kernel
theorem d_X_sensor_98 : decode prog_1_method_16_code 98 = .ok (.getfield 178, 3) := by decide +kernel
theorem d_X_sensor_101 : decode prog_1_method_16_code 101 = .ok (.ifCond .ne 8, 3) := by decide +kernel
theorem d_X_sensor_104 : decode prog_1_method_16_code 104 = .ok (.bipush (-9), 2) := by decide +kernel
theorem d_X_sensor_106 : decode prog_1_method_16_code 106 = .ok (.goto 7, 3) := by decide +kernel
theorem d_X_sensor_109 : decode prog_1_method_16_code 109 = .ok (.aload_n 3, 1) := by decide +kernel
theorem d_X_sensor_110 : decode prog_1_method_16_code 110 = .ok (.getfield 184, 3) := by decide +kernel
theorem d_X_sensor_113 : decode prog_1_method_16_code 113 = .ok (.ireturn, 1) := by decide +kernel
theorem d_X_sensor_114 : decode prog_1_method_16_code 114 = .ok (.aload_n 3, 1) := by decide +kernel
theorem d_X_sensor_115 : decode prog_1_method_16_code 115 = .ok (.getfield 187, 3) := by decide +kernel
theorem d_X_sensor_118 : decode prog_1_method_16_code 118 = .ok (.ireturn, 1) := by decide +kernel
theorem d_X_sensor_119 : decode prog_1_method_16_code 119 = .ok (.iconst (-1), 1) := by decide +kernel
theorem d_X_sensor_120 : decode prog_1_method_16_code 120 = .ok (.ireturn, 1) := by decide +kernel
theorem fs_7_169 : FS "SensorHub" 169 4 0 := ⟨"SensorHub$Sensor", T_4, 18, rfl, by decide, rfl, gw_I 147 (by decide +kernel) rfl⟩
theorem fs_7_172 : FS "SensorHub" 172 4 10 := ⟨"SensorHub$Sensor", T_4, 18, rfl, by decide, rfl, gw_I 166 (by decide +kernel) rfl⟩
theorem fs_7_175 : FS "SensorHub" 175 4 11 := ⟨"SensorHub$Sensor", T_4, 18, rfl, by decide, rfl, gw_I 169 (by decide +kernel) rfl⟩
theorem fs_7_178 : FS "SensorHub" 178 4 12 := ⟨"SensorHub$Sensor", T_4, 18, rfl, by decide, rfl, gw_I 172 (by decide +kernel) rfl⟩
theorem fs_7_181 : FS "SensorHub" 181 4 14 := ⟨"SensorHub$Sensor", T_4, 18, rfl, by decide, rfl, gw_I 177 (by decide +kernel) rfl⟩
theorem fs_7_184 : FS "SensorHub" 184 4 15 := ⟨"SensorHub$Sensor", T_4, 18, rfl, by decide, rfl, gw_I 180 (by decide +kernel) rfl⟩
theorem fs_7_187 : FS "SensorHub" 187 4 9 := ⟨"SensorHub$Sensor", T_4, 18, rfl, by decide, rfl, gw_I 164 (by decide +kernel) rfl⟩
def f_X_sensor (q : Nat) (p1 : Int32) (p2 : Int32) (σ : Mem) : Option (Int32 × Mem) :=
  bd (f_Hub_sensorAt (q + 1) p1 σ) fun r1 σ2 =>
  oe r1 (
    some ((-1 : Int32), σ2)
  ) (fun o3 =>
    if p2 = 0 then
      some (σ2 o3 0, σ2)
    else
    if p2 = 1 then
      some (σ2 o3 10, σ2)
    else
    if p2 = 2 then
      some (σ2 o3 11, σ2)
    else
    if p2 = 3 then
      some (σ2 o3 12, σ2)
    else
    if p2 = 4 then
      if (σ2 o3 12) = 0 then some ((-9 : Int32), σ2) else some (σ2 o3 14, σ2)
    else
    if p2 = 5 then
      if (σ2 o3 12) = 0 then some ((-9 : Int32), σ2) else some (σ2 o3 15, σ2)
    else
    if p2 = 6 then
      some (σ2 o3 9, σ2)
    else
      some ((-1 : Int32), σ2)
  )
set_option maxRecDepth 100000 in
set_option maxHeartbeats 4000000 in
theorem c_X_sensor {X : CX} (l : Launch) (q : Nat) (p1 : Int32) (p2 : Int32) (hq : TopOK X q) (σ : Mem) : CT X l y_X_sensor prog_1_method_16_code 4 (some .int) 1 vI [.ref (xa X q), .int p1, .int p2] σ (f_X_sensor q p1 p2 σ) := by
  refine CT_of (by decide +kernel) (Nat.le_of_ble_eq_true rfl) ?_
  intro p e s m args below meth c F hlk hr
  have F : FR p s m args c prog_1_method_16_code 4 "SensorHub" X := F
  show G X p l e (rmD 1) s m args below meth c 4 0 0 (QI X below args s vI) 0 [(0, .ref (xa X q)), (1, .int p1), (2, .int p2)] [] σ _
  unfold f_X_sensor
  refine g_aload_n F d_X_sensor_0 0 rfl ?_
  refine g_getR F fs_7_10 hq.1 rfl d_X_sensor_1 ?_
  refine g_iload_n F d_X_sensor_4 1 rfl ?_
  refine g_callV F (dp := 0) (ci := 2) (As := [.int p1]) (c_Hub_sensorAt l _ _ hq.2.1 _) cv_7_53 hq.2.1.1 rfl rfl rfl (Nat.le_of_ble_eq_true rfl) ⟨Nat.le_of_ble_eq_true rfl, Nat.le_of_ble_eq_true rfl⟩ ⟨Nat.zero_le _, Nat.zero_le _⟩ d_X_sensor_5 (fun r1 σ2 h1 => ?_)
  refine g_oe (fun h2 => ?_) (fun o3 h3 => ?_)
  · refine g_astore_nN F (ls' := [(3, .null), (0, .ref (xa X q)), (1, .int p1), (2, .int p2)]) d_X_sensor_8 (by decide) rfl ?_
    refine g_aload_nN F d_X_sensor_9 0 rfl ?_
    refine g_ifnonnullN F d_X_sensor_10 ?_
    refine g_iconst F (v := (-1)) d_X_sensor_13 (by decide) ?_
    exact g_iret F hlk hr d_X_sensor_14
  have h4 : SensorOK X o3 := ok_Hub_sensorAt hq.2.1 (h3 ▸ h1)
  refine g_astore_n F (ls' := [(3, .ref (xa X o3)), (0, .ref (xa X q)), (1, .int p1), (2, .int p2)]) d_X_sensor_8 (by decide) rfl ?_
  refine g_aload_n F d_X_sensor_9 0 rfl ?_
  refine g_ifnonnull F (tgt := 15) d_X_sensor_10 (by decide) ?_
  refine g_iload_n F d_X_sensor_15 3 rfl ?_
  refine g_if (fun h5 => ?_) (fun h6 => ?_)
  · refine g_tsIn F (tgt := 60) d_X_sensor_16 0 h5 (by decide) (by decide) rfl (by decide) ?_
    refine g_aload_n F d_X_sensor_60 0 rfl ?_
    refine g_getI F fs_7_169 h4.1 rfl d_X_sensor_61 ?_
    exact g_iret F hlk hr d_X_sensor_64
  refine g_if (fun h7 => ?_) (fun h8 => ?_)
  · refine g_tsIn F (tgt := 65) d_X_sensor_16 1 h7 (by decide) (by decide) rfl (by decide) ?_
    refine g_aload_n F d_X_sensor_65 0 rfl ?_
    refine g_getI F fs_7_172 h4.1 rfl d_X_sensor_66 ?_
    exact g_iret F hlk hr d_X_sensor_69
  refine g_if (fun h9 => ?_) (fun h10 => ?_)
  · refine g_tsIn F (tgt := 70) d_X_sensor_16 2 h9 (by decide) (by decide) rfl (by decide) ?_
    refine g_aload_n F d_X_sensor_70 0 rfl ?_
    refine g_getI F fs_7_175 h4.1 rfl d_X_sensor_71 ?_
    exact g_iret F hlk hr d_X_sensor_74
  refine g_if (fun h11 => ?_) (fun h12 => ?_)
  · refine g_tsIn F (tgt := 75) d_X_sensor_16 3 h11 (by decide) (by decide) rfl (by decide) ?_
    refine g_aload_n F d_X_sensor_75 0 rfl ?_
    refine g_getI F fs_7_178 h4.1 rfl d_X_sensor_76 ?_
    exact g_iret F hlk hr d_X_sensor_79
  refine g_if (fun h13 => ?_) (fun h14 => ?_)
  · refine g_tsIn F (tgt := 80) d_X_sensor_16 4 h13 (by decide) (by decide) rfl (by decide) ?_
    refine g_aload_n F d_X_sensor_80 0 rfl ?_
    refine g_getI F fs_7_178 h4.1 rfl d_X_sensor_81 ?_
    refine g_if_ne F (tgt := 92) d_X_sensor_84 (by decide) (fun h15 => ?_) (fun h16 => ?_)
    · refine g_bipush F (v := (-9)) d_X_sensor_87 (by decide) ?_
      refine g_goto F (tgt := 96) d_X_sensor_89 (by decide) ?_
      exact g_iret F hlk hr d_X_sensor_96
    refine g_aload_n F d_X_sensor_92 0 rfl ?_
    refine g_getI F fs_7_181 h4.1 rfl d_X_sensor_93 ?_
    exact g_iret F hlk hr d_X_sensor_96
  refine g_if (fun h17 => ?_) (fun h18 => ?_)
  · refine g_tsIn F (tgt := 97) d_X_sensor_16 5 h17 (by decide) (by decide) rfl (by decide) ?_
    refine g_aload_n F d_X_sensor_97 0 rfl ?_
    refine g_getI F fs_7_178 h4.1 rfl d_X_sensor_98 ?_
    refine g_if_ne F (tgt := 109) d_X_sensor_101 (by decide) (fun h19 => ?_) (fun h20 => ?_)
    · refine g_bipush F (v := (-9)) d_X_sensor_104 (by decide) ?_
      refine g_goto F (tgt := 113) d_X_sensor_106 (by decide) ?_
      exact g_iret F hlk hr d_X_sensor_113
    refine g_aload_n F d_X_sensor_109 0 rfl ?_
    refine g_getI F fs_7_184 h4.1 rfl d_X_sensor_110 ?_
    exact g_iret F hlk hr d_X_sensor_113
  refine g_if (fun h21 => ?_) (fun h22 => ?_)
  · refine g_tsIn F (tgt := 114) d_X_sensor_16 6 h21 (by decide) (by decide) rfl (by decide) ?_
    refine g_aload_n F d_X_sensor_114 0 rfl ?_
    refine g_getI F fs_7_187 h4.1 rfl d_X_sensor_115 ?_
    exact g_iret F hlk hr d_X_sensor_118
  refine g_tsOut F (tgt := 119) d_X_sensor_16 (by have e0 := ts_ne 0 (by decide) h6; have e1 := ts_ne 1 (by decide) h8; have e2 := ts_ne 2 (by decide) h10; have e3 := ts_ne 3 (by decide) h12; have e4 := ts_ne 4 (by decide) h14; have e5 := ts_ne 5 (by decide) h18; have e6 := ts_ne 6 (by decide) h22; omega) (by decide) ?_
  refine g_iconst F (v := (-1)) d_X_sensor_119 (by decide) ?_
  exact g_iret F hlk hr d_X_sensor_120
def y_X_client : MethodName := ⟨"SensorHub", "client", "(II)I"⟩
theorem d_X_client_0 : decode prog_1_method_17_code 0 = .ok (.aload_n 0, 1) := by decide +kernel
theorem d_X_client_1 : decode prog_1_method_17_code 1 = .ok (.getfield 10, 3) := by decide +kernel
theorem d_X_client_4 : decode prog_1_method_17_code 4 = .ok (.iload_n 1, 1) := by decide +kernel
theorem d_X_client_5 : decode prog_1_method_17_code 5 = .ok (.invokevirtual 98, 3) := by decide +kernel
theorem d_X_client_8 : decode prog_1_method_17_code 8 = .ok (.astore_n 3, 1) := by decide +kernel
theorem d_X_client_9 : decode prog_1_method_17_code 9 = .ok (.aload_n 3, 1) := by decide +kernel
theorem d_X_client_10 : decode prog_1_method_17_code 10 = .ok (.ifnonnull 5, 3) := by decide +kernel
theorem d_X_client_13 : decode prog_1_method_17_code 13 = .ok (.iconst (-1), 1) := by decide +kernel
theorem d_X_client_14 : decode prog_1_method_17_code 14 = .ok (.ireturn, 1) := by decide +kernel
theorem d_X_client_15 : decode prog_1_method_17_code 15 = .ok (.iload_n 2, 1) := by decide +kernel
theorem d_X_client_16 : decode prog_1_method_17_code 16 = .ok (.tableswitch 104 0 8 #[52, 57, 62, 67, 72, 84, 89, 94, 99], 52) := by decide +kernel
theorem d_X_client_68 : decode prog_1_method_17_code 68 = .ok (.aload_n 3, 1) := by decide +kernel
theorem d_X_client_69 : decode prog_1_method_17_code 69 = .ok (.getfield 190, 3) := by decide +kernel
theorem d_X_client_72 : decode prog_1_method_17_code 72 = .ok (.ireturn, 1) := by decide +kernel
theorem d_X_client_73 : decode prog_1_method_17_code 73 = .ok (.aload_n 3, 1) := by decide +kernel
theorem d_X_client_74 : decode prog_1_method_17_code 74 = .ok (.getfield 193, 3) := by decide +kernel
theorem d_X_client_77 : decode prog_1_method_17_code 77 = .ok (.ireturn, 1) := by decide +kernel
theorem d_X_client_78 : decode prog_1_method_17_code 78 = .ok (.aload_n 3, 1) := by decide +kernel
theorem d_X_client_79 : decode prog_1_method_17_code 79 = .ok (.getfield 194, 3) := by decide +kernel
theorem d_X_client_82 : decode prog_1_method_17_code 82 = .ok (.ireturn, 1) := by decide +kernel
theorem d_X_client_83 : decode prog_1_method_17_code 83 = .ok (.aload_n 3, 1) := by decide +kernel
theorem d_X_client_84 : decode prog_1_method_17_code 84 = .ok (.getfield 197, 3) := by decide +kernel
theorem d_X_client_87 : decode prog_1_method_17_code 87 = .ok (.ireturn, 1) := by decide +kernel
theorem d_X_client_88 : decode prog_1_method_17_code 88 = .ok (.aload_n 0, 1) := by decide +kernel
theorem d_X_client_89 : decode prog_1_method_17_code 89 = .ok (.getfield 10, 3) := by decide +kernel
theorem d_X_client_92 : decode prog_1_method_17_code 92 = .ok (.getfield 139, 3) := by decide +kernel
theorem d_X_client_95 : decode prog_1_method_17_code 95 = .ok (.iload_n 1, 1) := by decide +kernel
theorem d_X_client_96 : decode prog_1_method_17_code 96 = .ok (.invokevirtual 200, 3) := by decide +kernel
theorem d_X_client_99 : decode prog_1_method_17_code 99 = .ok (.ireturn, 1) := by decide +kernel
theorem d_X_client_100 : decode prog_1_method_17_code 100 = .ok (.aload_n 3, 1) := by decide +kernel
theorem d_X_client_101 : decode prog_1_method_17_code 101 = .ok (.getfield 106, 3) := by decide +kernel
theorem d_X_client_104 : decode prog_1_method_17_code 104 = .ok (.ireturn, 1) := by decide +kernel
theorem d_X_client_105 : decode prog_1_method_17_code 105 = .ok (.aload_n 3, 1) := by decide +kernel
theorem d_X_client_106 : decode prog_1_method_17_code 106 = .ok (.getfield 203, 3) := by decide +kernel
theorem d_X_client_109 : decode prog_1_method_17_code 109 = .ok (.ireturn, 1) := by decide +kernel
theorem d_X_client_110 : decode prog_1_method_17_code 110 = .ok (.aload_n 3, 1) := by decide +kernel
theorem d_X_client_111 : decode prog_1_method_17_code 111 = .ok (.getfield 206, 3) := by decide +kernel
theorem d_X_client_114 : decode prog_1_method_17_code 114 = .ok (.ireturn, 1) := by decide +kernel
theorem d_X_client_115 : decode prog_1_method_17_code 115 = .ok (.aload_n 3, 1) := by decide +kernel
theorem d_X_client_116 : decode prog_1_method_17_code 116 = .ok (.getfield 209, 3) := by decide +kernel
theorem d_X_client_119 : decode prog_1_method_17_code 119 = .ok (.ireturn, 1) := by decide +kernel
theorem d_X_client_120 : decode prog_1_method_17_code 120 = .ok (.iconst (-1), 1) := by decide +kernel
theorem d_X_client_121 : decode prog_1_method_17_code 121 = .ok (.ireturn, 1) := by decide +kernel
theorem fs_7_190 : FS "SensorHub" 190 0 1 := ⟨"SensorHub$Client", T_0, 11, rfl, by decide, rfl, gw_I 230 (by decide +kernel) rfl⟩
theorem fs_7_193 : FS "SensorHub" 193 0 2 := ⟨"SensorHub$Client", T_0, 11, rfl, by decide, rfl, gw_I 233 (by decide +kernel) rfl⟩
theorem fs_7_194 : FS "SensorHub" 194 0 3 := ⟨"SensorHub$Client", T_0, 11, rfl, by decide, rfl, gw_I 235 (by decide +kernel) rfl⟩
theorem fs_7_197 : FS "SensorHub" 197 0 4 := ⟨"SensorHub$Client", T_0, 11, rfl, by decide, rfl, gw_I 239 (by decide +kernel) rfl⟩
theorem cv_7_200 : CSV "SensorHub" 200 y_Sto_entriesOf prog_7_method_4_code 4 (some .int) 1 := ⟨gw_I 841 (by decide +kernel) rfl, gw_I 842 (by decide +kernel) rfl, gw_I 843 (by decide +kernel) rfl, gw_I 73 (by decide +kernel) rfl, gw_I 844 (by decide +kernel) rfl, ⟨by decide +kernel, by decide +kernel⟩, by decide +kernel⟩
theorem fs_7_203 : FS "SensorHub" 203 0 7 := ⟨"SensorHub$Client", T_0, 11, rfl, by decide, rfl, gw_I 245 (by decide +kernel) rfl⟩
theorem fs_7_206 : FS "SensorHub" 206 0 8 := ⟨"SensorHub$Client", T_0, 11, rfl, by decide, rfl, gw_I 247 (by decide +kernel) rfl⟩
theorem fs_7_209 : FS "SensorHub" 209 0 9 := ⟨"SensorHub$Client", T_0, 11, rfl, by decide, rfl, gw_I 249 (by decide +kernel) rfl⟩
def f_X_client (q : Nat) (p1 : Int32) (p2 : Int32) (σ : Mem) : Option (Int32 × Mem) :=
  bd (f_Hub_clientAt (q + 1) p1 σ) fun r1 σ2 =>
  oe r1 (
    some ((-1 : Int32), σ2)
  ) (fun o3 =>
    if p2 = 0 then
      some (σ2 o3 1, σ2)
    else
    if p2 = 1 then
      some (σ2 o3 2, σ2)
    else
    if p2 = 2 then
      some (σ2 o3 3, σ2)
    else
    if p2 = 3 then
      some (σ2 o3 4, σ2)
    else
    if p2 = 4 then
      bd (f_Sto_entriesOf (q + 1 + 8) p1 σ2) fun r4 σ5 =>
      some (r4, σ5)
    else
    if p2 = 5 then
      some (σ2 o3 6, σ2)
    else
    if p2 = 6 then
      some (σ2 o3 7, σ2)
    else
    if p2 = 7 then
      some (σ2 o3 8, σ2)
    else
    if p2 = 8 then
      some (σ2 o3 9, σ2)
    else
      some ((-1 : Int32), σ2)
  )
set_option maxRecDepth 100000 in
set_option maxHeartbeats 4000000 in
theorem c_X_client {X : CX} (l : Launch) (q : Nat) (p1 : Int32) (p2 : Int32) (hq : TopOK X q) (σ : Mem) : CT X l y_X_client prog_1_method_17_code 4 (some .int) 3 vI [.ref (xa X q), .int p1, .int p2] σ (f_X_client q p1 p2 σ) := by
  refine CT_of (by decide +kernel) (Nat.le_of_ble_eq_true rfl) ?_
  intro p e s m args below meth c F hlk hr
  have F : FR p s m args c prog_1_method_17_code 4 "SensorHub" X := F
  show G X p l e (rmD 3) s m args below meth c 4 0 0 (QI X below args s vI) 0 [(0, .ref (xa X q)), (1, .int p1), (2, .int p2)] [] σ _
  unfold f_X_client
  refine g_aload_n F d_X_client_0 0 rfl ?_
  refine g_getR F fs_7_10 hq.1 rfl d_X_client_1 ?_
  refine g_iload_n F d_X_client_4 1 rfl ?_
  refine g_callV F (dp := 0) (ci := 2) (As := [.int p1]) (c_Hub_clientAt l _ _ hq.2.1 _) cv_7_98 hq.2.1.1 rfl rfl rfl (Nat.le_of_ble_eq_true rfl) ⟨Nat.le_of_ble_eq_true rfl, Nat.le_of_ble_eq_true rfl⟩ ⟨Nat.zero_le _, Nat.zero_le _⟩ d_X_client_5 (fun r1 σ2 h1 => ?_)
  refine g_oe (fun h2 => ?_) (fun o3 h3 => ?_)
  · refine g_astore_nN F (ls' := [(3, .null), (0, .ref (xa X q)), (1, .int p1), (2, .int p2)]) d_X_client_8 (by decide) rfl ?_
    refine g_aload_nN F d_X_client_9 0 rfl ?_
    refine g_ifnonnullN F d_X_client_10 ?_
    refine g_iconst F (v := (-1)) d_X_client_13 (by decide) ?_
    exact g_iret F hlk hr d_X_client_14
  have h4 : ClientOK X o3 := ok_Hub_clientAt hq.2.1 (h3 ▸ h1)
  refine g_astore_n F (ls' := [(3, .ref (xa X o3)), (0, .ref (xa X q)), (1, .int p1), (2, .int p2)]) d_X_client_8 (by decide) rfl ?_
  refine g_aload_n F d_X_client_9 0 rfl ?_
  refine g_ifnonnull F (tgt := 15) d_X_client_10 (by decide) ?_
  refine g_iload_n F d_X_client_15 3 rfl ?_
  refine g_if (fun h5 => ?_) (fun h6 => ?_)
  · refine g_tsIn F (tgt := 68) d_X_client_16 0 h5 (by decide) (by decide) rfl (by decide) ?_
    refine g_aload_n F d_X_client_68 0 rfl ?_
    refine g_getI F fs_7_190 h4.1 rfl d_X_client_69 ?_
    exact g_iret F hlk hr d_X_client_72
  refine g_if (fun h7 => ?_) (fun h8 => ?_)
  · refine g_tsIn F (tgt := 73) d_X_client_16 1 h7 (by decide) (by decide) rfl (by decide) ?_
    refine g_aload_n F d_X_client_73 0 rfl ?_
    refine g_getI F fs_7_193 h4.1 rfl d_X_client_74 ?_
    exact g_iret F hlk hr d_X_client_77
  refine g_if (fun h9 => ?_) (fun h10 => ?_)
  · refine g_tsIn F (tgt := 78) d_X_client_16 2 h9 (by decide) (by decide) rfl (by decide) ?_
    refine g_aload_n F d_X_client_78 0 rfl ?_
    refine g_getI F fs_7_194 h4.1 rfl d_X_client_79 ?_
    exact g_iret F hlk hr d_X_client_82
  refine g_if (fun h11 => ?_) (fun h12 => ?_)
  · refine g_tsIn F (tgt := 83) d_X_client_16 3 h11 (by decide) (by decide) rfl (by decide) ?_
    refine g_aload_n F d_X_client_83 0 rfl ?_
    refine g_getI F fs_7_197 h4.1 rfl d_X_client_84 ?_
    exact g_iret F hlk hr d_X_client_87
  refine g_if (fun h13 => ?_) (fun h14 => ?_)
  · refine g_tsIn F (tgt := 88) d_X_client_16 4 h13 (by decide) (by decide) rfl (by decide) ?_
    refine g_aload_n F d_X_client_88 1 rfl ?_
    refine g_getR F fs_7_10 hq.1 rfl d_X_client_89 ?_
    refine g_getR F fs_7_139 hq.2.1.1 rfl d_X_client_92 ?_
    refine g_iload_n F d_X_client_95 2 rfl ?_
    refine g_callV F (dp := 2) (ci := 5) (As := [.int p1]) (c_Sto_entriesOf l _ _ hq.2.1.2.2.2.2.2.1 _) cv_7_200 hq.2.1.2.2.2.2.2.1.1 rfl rfl rfl (Nat.le_of_ble_eq_true rfl) ⟨Nat.le_of_ble_eq_true rfl, Nat.le_of_ble_eq_true rfl⟩ ⟨Nat.zero_le _, Nat.zero_le _⟩ d_X_client_96 (fun r4 σ5 h15 => ?_)
    exact g_iret F hlk hr d_X_client_99
  refine g_if (fun h16 => ?_) (fun h17 => ?_)
  · refine g_tsIn F (tgt := 100) d_X_client_16 5 h16 (by decide) (by decide) rfl (by decide) ?_
    refine g_aload_n F d_X_client_100 0 rfl ?_
    refine g_getI F fs_7_106 h4.1 rfl d_X_client_101 ?_
    exact g_iret F hlk hr d_X_client_104
  refine g_if (fun h18 => ?_) (fun h19 => ?_)
  · refine g_tsIn F (tgt := 105) d_X_client_16 6 h18 (by decide) (by decide) rfl (by decide) ?_
    refine g_aload_n F d_X_client_105 0 rfl ?_
    refine g_getI F fs_7_203 h4.1 rfl d_X_client_106 ?_
    exact g_iret F hlk hr d_X_client_109
  refine g_if (fun h20 => ?_) (fun h21 => ?_)
  · refine g_tsIn F (tgt := 110) d_X_client_16 7 h20 (by decide) (by decide) rfl (by decide) ?_
    refine g_aload_n F d_X_client_110 0 rfl ?_
    refine g_getI F fs_7_206 h4.1 rfl d_X_client_111 ?_
    exact g_iret F hlk hr d_X_client_114
  refine g_if (fun h22 => ?_) (fun h23 => ?_)
  · refine g_tsIn F (tgt := 115) d_X_client_16 8 h22 (by decide) (by decide) rfl (by decide) ?_
    refine g_aload_n F d_X_client_115 0 rfl ?_
    refine g_getI F fs_7_209 h4.1 rfl d_X_client_116 ?_
    exact g_iret F hlk hr d_X_client_119
  refine g_tsOut F (tgt := 120) d_X_client_16 (by have e0 := ts_ne 0 (by decide) h6; have e1 := ts_ne 1 (by decide) h8; have e2 := ts_ne 2 (by decide) h10; have e3 := ts_ne 3 (by decide) h12; have e4 := ts_ne 4 (by decide) h14; have e5 := ts_ne 5 (by decide) h17; have e6 := ts_ne 6 (by decide) h19; have e7 := ts_ne 7 (by decide) h21; have e8 := ts_ne 8 (by decide) h23; omega) (by decide) ?_
  refine g_iconst F (v := (-1)) d_X_client_120 (by decide) ?_
  exact g_iret F hlk hr d_X_client_121
def y_X_entry : MethodName := ⟨"SensorHub", "entry", "(II)I"⟩
theorem d_X_entry_0 : decode prog_1_method_18_code 0 = .ok (.iload_n 1, 1) := by decide +kernel
theorem d_X_entry_1 : decode prog_1_method_18_code 1 = .ok (.ifCond .lt 12, 3) := by decide +kernel
theorem d_X_entry_4 : decode prog_1_method_18_code 4 = .ok (.iload_n 2, 1) := by decide +kernel
theorem d_X_entry_5 : decode prog_1_method_18_code 5 = .ok (.iconst 0, 1) := by decide +kernel
theorem d_X_entry_6 : decode prog_1_method_18_code 6 = .ok (.iconst 2, 1) := by decide +kernel
theorem d_X_entry_7 : decode prog_1_method_18_code 7 = .ok (.invokestatic 33, 3) := by decide +kernel
theorem d_X_entry_10 : decode prog_1_method_18_code 10 = .ok (.ifCond .ne 5, 3) := by decide +kernel
theorem d_X_entry_13 : decode prog_1_method_18_code 13 = .ok (.iconst (-1), 1) := by decide +kernel
theorem d_X_entry_14 : decode prog_1_method_18_code 14 = .ok (.ireturn, 1) := by decide +kernel
theorem d_X_entry_15 : decode prog_1_method_18_code 15 = .ok (.aload_n 0, 1) := by decide +kernel
theorem d_X_entry_16 : decode prog_1_method_18_code 16 = .ok (.getfield 10, 3) := by decide +kernel
theorem d_X_entry_19 : decode prog_1_method_18_code 19 = .ok (.getfield 139, 3) := by decide +kernel
theorem d_X_entry_22 : decode prog_1_method_18_code 22 = .ok (.iload_n 1, 1) := by decide +kernel
theorem d_X_entry_23 : decode prog_1_method_18_code 23 = .ok (.iload_n 2, 1) := by decide +kernel
theorem d_X_entry_24 : decode prog_1_method_18_code 24 = .ok (.invokevirtual 212, 3) := by decide +kernel
theorem d_X_entry_27 : decode prog_1_method_18_code 27 = .ok (.ireturn, 1) := by decide +kernel
theorem cv_7_212 : CSV "SensorHub" 212 y_Sto_part prog_7_method_3_code 3 (some .int) 2 := ⟨gw_I 850 (by decide +kernel) rfl, gw_I 517 (by decide +kernel) rfl, gw_I 518 (by decide +kernel) rfl, gw_I 73 (by decide +kernel) rfl, gw_I 519 (by decide +kernel) rfl, ⟨by decide +kernel, by decide +kernel⟩, by decide +kernel⟩
def f_X_entry (q : Nat) (p1 : Int32) (p2 : Int32) (σ : Mem) : Option (Int32 × Mem) :=
  if p1 < 0 then
    some ((-1 : Int32), σ)
  else
    bd (f_X_isWithin p2 (0 : Int32) (2 : Int32) σ) fun r1 σ2 =>
    if r1 = 0 then
      some ((-1 : Int32), σ2)
    else
      bd (f_Sto_part (q + 1 + 8) p1 p2 σ2) fun r3 σ4 =>
      some (r3, σ4)
set_option maxRecDepth 100000 in
set_option maxHeartbeats 4000000 in
theorem c_X_entry {X : CX} (l : Launch) (q : Nat) (p1 : Int32) (p2 : Int32) (hq : TopOK X q) (σ : Mem) : CT X l y_X_entry prog_1_method_18_code 3 (some .int) 2 vI [.ref (xa X q), .int p1, .int p2] σ (f_X_entry q p1 p2 σ) := by
  refine CT_of (by decide +kernel) (Nat.le_of_ble_eq_true rfl) ?_
  intro p e s m args below meth c F hlk hr
  have F : FR p s m args c prog_1_method_18_code 3 "SensorHub" X := F
  show G X p l e (rmD 2) s m args below meth c 3 0 0 (QI X below args s vI) 0 [(0, .ref (xa X q)), (1, .int p1), (2, .int p2)] [] σ _
  unfold f_X_entry
  refine g_iload_n F d_X_entry_0 1 rfl ?_
  refine g_if_lt F (tgt := 13) d_X_entry_1 (by decide) (fun h1 => ?_) (fun h2 => ?_)
  · refine g_iconst F (v := (-1)) d_X_entry_13 (by decide) ?_
    exact g_iret F hlk hr d_X_entry_14
  refine g_iload_n F d_X_entry_4 2 rfl ?_
  refine g_iconst F (v := 0) d_X_entry_5 (by decide) ?_
  refine g_iconst F (v := 2) d_X_entry_6 (by decide) ?_
  refine g_callS F (dp := 0) (As := [.int p2, .int (0 : Int32), .int (2 : Int32)]) (c_X_isWithin l _ _ _ _) cs_7_33 rfl rfl (Nat.le_of_ble_eq_true rfl) ⟨Nat.le_of_ble_eq_true rfl, Nat.le_of_ble_eq_true rfl⟩ ⟨Nat.zero_le _, Nat.zero_le _⟩ d_X_entry_7 (fun r1 σ2 h3 => ?_)
  refine g_if_ne F (tgt := 15) d_X_entry_10 (by decide) (fun h4 => ?_) (fun h5 => ?_)
  · refine g_iconst F (v := (-1)) d_X_entry_13 (by decide) ?_
    exact g_iret F hlk hr d_X_entry_14
  refine g_aload_n F d_X_entry_15 0 rfl ?_
  refine g_getR F fs_7_10 hq.1 rfl d_X_entry_16 ?_
  refine g_getR F fs_7_139 hq.2.1.1 rfl d_X_entry_19 ?_
  refine g_iload_n F d_X_entry_22 1 rfl ?_
  refine g_iload_n F d_X_entry_23 2 rfl ?_
  refine g_callV F (dp := 1) (ci := 5) (As := [.int p1, .int p2]) (c_Sto_part l _ _ _ hq.2.1.2.2.2.2.2.1 _) cv_7_212 hq.2.1.2.2.2.2.2.1.1 rfl rfl rfl (Nat.le_of_ble_eq_true rfl) ⟨Nat.le_of_ble_eq_true rfl, Nat.le_of_ble_eq_true rfl⟩ ⟨Nat.zero_le _, Nat.zero_le _⟩ d_X_entry_24 (fun r3 σ4 h6 => ?_)
  exact g_iret F hlk hr d_X_entry_27
def y_X_delivered : MethodName := ⟨"SensorHub", "delivered", "(III)I"⟩
theorem d_X_delivered_0 : decode prog_1_method_19_code 0 = .ok (.aload_n 0, 1) := by decide +kernel
theorem d_X_delivered_1 : decode prog_1_method_19_code 1 = .ok (.getfield 10, 3) := by decide +kernel
theorem d_X_delivered_4 : decode prog_1_method_19_code 4 = .ok (.iload_n 1, 1) := by decide +kernel
theorem d_X_delivered_5 : decode prog_1_method_19_code 5 = .ok (.invokevirtual 98, 3) := by decide +kernel
theorem d_X_delivered_8 : decode prog_1_method_19_code 8 = .ok (.astore 4, 2) := by decide +kernel
theorem d_X_delivered_10 : decode prog_1_method_19_code 10 = .ok (.aload 4, 2) := by decide +kernel
theorem d_X_delivered_12 : decode prog_1_method_19_code 12 = .ok (.ifnull 21, 3) := by decide +kernel
theorem d_X_delivered_15 : decode prog_1_method_19_code 15 = .ok (.iload_n 2, 1) := by decide +kernel
theorem d_X_delivered_16 : decode prog_1_method_19_code 16 = .ok (.iconst 0, 1) := by decide +kernel
theorem d_X_delivered_17 : decode prog_1_method_19_code 17 = .ok (.iconst 5, 1) := by decide +kernel
theorem d_X_delivered_18 : decode prog_1_method_19_code 18 = .ok (.invokestatic 33, 3) := by decide +kernel
theorem d_X_delivered_21 : decode prog_1_method_19_code 21 = .ok (.ifCond .eq 12, 3) := by decide +kernel
theorem d_X_delivered_24 : decode prog_1_method_19_code 24 = .ok (.iload_n 3, 1) := by decide +kernel
theorem d_X_delivered_25 : decode prog_1_method_19_code 25 = .ok (.iconst 0, 1) := by decide +kernel
theorem d_X_delivered_26 : decode prog_1_method_19_code 26 = .ok (.iconst 2, 1) := by decide +kernel
theorem d_X_delivered_27 : decode prog_1_method_19_code 27 = .ok (.invokestatic 33, 3) := by decide +kernel
theorem d_X_delivered_30 : decode prog_1_method_19_code 30 = .ok (.ifCond .ne 5, 3) := by decide +kernel
theorem d_X_delivered_33 : decode prog_1_method_19_code 33 = .ok (.iconst (-1), 1) := by decide +kernel
theorem d_X_delivered_34 : decode prog_1_method_19_code 34 = .ok (.ireturn, 1) := by decide +kernel
theorem d_X_delivered_35 : decode prog_1_method_19_code 35 = .ok (.aload 4, 2) := by decide +kernel
theorem d_X_delivered_37 : decode prog_1_method_19_code 37 = .ok (.iload_n 2, 1) := by decide +kernel
theorem d_X_delivered_38 : decode prog_1_method_19_code 38 = .ok (.iload_n 3, 1) := by decide +kernel
theorem d_X_delivered_39 : decode prog_1_method_19_code 39 = .ok (.invokevirtual 216, 3) := by decide +kernel
theorem d_X_delivered_42 : decode prog_1_method_19_code 42 = .ok (.ireturn, 1) := by decide +kernel
theorem cv_7_216 : CSV "SensorHub" 216 y_Cli_recalled prog_2_method_5_code 3 (some .int) 2 := ⟨gw_I 855 (by decide +kernel) rfl, gw_I 856 (by decide +kernel) rfl, gw_I 857 (by decide +kernel) rfl, gw_I 75 (by decide +kernel) rfl, gw_I 858 (by decide +kernel) rfl, ⟨by decide +kernel, by decide +kernel⟩, by decide +kernel⟩
def f_X_delivered (q : Nat) (p1 : Int32) (p2 : Int32) (p3 : Int32) (σ : Mem) : Option (Int32 × Mem) :=
  bd (f_Hub_clientAt (q + 1) p1 σ) fun r1 σ2 =>
  oe r1 (
    some ((-1 : Int32), σ2)
  ) (fun o3 =>
    bd (f_X_isWithin p2 (0 : Int32) (5 : Int32) σ2) fun r4 σ5 =>
    if r4 = 0 then
      some ((-1 : Int32), σ5)
    else
      bd (f_X_isWithin p3 (0 : Int32) (2 : Int32) σ5) fun r6 σ7 =>
      if r6 = 0 then
        some ((-1 : Int32), σ7)
      else
        bd (f_Cli_recalled o3 p2 p3 σ7) fun r8 σ9 =>
        some (r8, σ9)
  )
set_option maxRecDepth 100000 in
set_option maxHeartbeats 4000000 in
theorem c_X_delivered {X : CX} (l : Launch) (q : Nat) (p1 : Int32) (p2 : Int32) (p3 : Int32) (hq : TopOK X q) (σ : Mem) : CT X l y_X_delivered prog_1_method_19_code 5 (some .int) 2 vI [.ref (xa X q), .int p1, .int p2, .int p3] σ (f_X_delivered q p1 p2 p3 σ) := by
  refine CT_of (by decide +kernel) (Nat.le_of_ble_eq_true rfl) ?_
  intro p e s m args below meth c F hlk hr
  have F : FR p s m args c prog_1_method_19_code 5 "SensorHub" X := F
  show G X p l e (rmD 2) s m args below meth c 5 0 0 (QI X below args s vI) 0 [(0, .ref (xa X q)), (1, .int p1), (2, .int p2), (3, .int p3)] [] σ _
  unfold f_X_delivered
  refine g_aload_n F d_X_delivered_0 0 rfl ?_
  refine g_getR F fs_7_10 hq.1 rfl d_X_delivered_1 ?_
  refine g_iload_n F d_X_delivered_4 1 rfl ?_
  refine g_callV F (dp := 0) (ci := 2) (As := [.int p1]) (c_Hub_clientAt l _ _ hq.2.1 _) cv_7_98 hq.2.1.1 rfl rfl rfl (Nat.le_of_ble_eq_true rfl) ⟨Nat.le_of_ble_eq_true rfl, Nat.le_of_ble_eq_true rfl⟩ ⟨Nat.zero_le _, Nat.zero_le _⟩ d_X_delivered_5 (fun r1 σ2 h1 => ?_)
  refine g_oe (fun h2 => ?_) (fun o3 h3 => ?_)
  · refine g_astoreN F (ls' := [(4, .null), (0, .ref (xa X q)), (1, .int p1), (2, .int p2), (3, .int p3)]) d_X_delivered_8 (by decide) rfl ?_
    refine g_aloadN F d_X_delivered_10 0 rfl ?_
    refine g_ifnullN F (tgt := 33) d_X_delivered_12 (by decide) ?_
    refine g_iconst F (v := (-1)) d_X_delivered_33 (by decide) ?_
    exact g_iret F hlk hr d_X_delivered_34
  have h4 : ClientOK X o3 := ok_Hub_clientAt hq.2.1 (h3 ▸ h1)
  refine g_astore F (ls' := [(4, .ref (xa X o3)), (0, .ref (xa X q)), (1, .int p1), (2, .int p2), (3, .int p3)]) d_X_delivered_8 (by decide) rfl ?_
  refine g_aload F d_X_delivered_10 0 rfl ?_
  refine g_ifnull F d_X_delivered_12 ?_
  refine g_iload_n F d_X_delivered_15 3 rfl ?_
  refine g_iconst F (v := 0) d_X_delivered_16 (by decide) ?_
  refine g_iconst F (v := 5) d_X_delivered_17 (by decide) ?_
  refine g_callS F (dp := 0) (As := [.int p2, .int (0 : Int32), .int (5 : Int32)]) (c_X_isWithin l _ _ _ _) cs_7_33 rfl rfl (Nat.le_of_ble_eq_true rfl) ⟨Nat.le_of_ble_eq_true rfl, Nat.le_of_ble_eq_true rfl⟩ ⟨Nat.zero_le _, Nat.zero_le _⟩ d_X_delivered_18 (fun r4 σ5 h5 => ?_)
  refine g_if_eq F (tgt := 33) d_X_delivered_21 (by decide) (fun h6 => ?_) (fun h7 => ?_)
  · refine g_iconst F (v := (-1)) d_X_delivered_33 (by decide) ?_
    exact g_iret F hlk hr d_X_delivered_34
  refine g_iload_n F d_X_delivered_24 4 rfl ?_
  refine g_iconst F (v := 0) d_X_delivered_25 (by decide) ?_
  refine g_iconst F (v := 2) d_X_delivered_26 (by decide) ?_
  refine g_callS F (dp := 0) (As := [.int p3, .int (0 : Int32), .int (2 : Int32)]) (c_X_isWithin l _ _ _ _) cs_7_33 rfl rfl (Nat.le_of_ble_eq_true rfl) ⟨Nat.le_of_ble_eq_true rfl, Nat.le_of_ble_eq_true rfl⟩ ⟨Nat.zero_le _, Nat.zero_le _⟩ d_X_delivered_27 (fun r6 σ7 h8 => ?_)
  refine g_if_ne F (tgt := 35) d_X_delivered_30 (by decide) (fun h9 => ?_) (fun h10 => ?_)
  · refine g_iconst F (v := (-1)) d_X_delivered_33 (by decide) ?_
    exact g_iret F hlk hr d_X_delivered_34
  refine g_aload F d_X_delivered_35 0 rfl ?_
  refine g_iload_n F d_X_delivered_37 3 rfl ?_
  refine g_iload_n F d_X_delivered_38 4 rfl ?_
  refine g_callV F (dp := 1) (ci := 0) (As := [.int p2, .int p3]) (c_Cli_recalled l _ _ _ h4 _) cv_7_216 h4.1 rfl rfl rfl (Nat.le_of_ble_eq_true rfl) ⟨Nat.le_of_ble_eq_true rfl, Nat.le_of_ble_eq_true rfl⟩ ⟨Nat.zero_le _, Nat.zero_le _⟩ d_X_delivered_39 (fun r8 σ9 h11 => ?_)
  exact g_iret F hlk hr d_X_delivered_42
def y_X_nextDeadline : MethodName := ⟨"SensorHub", "nextDeadline", "()I"⟩
theorem d_X_nextDeadline_0 : decode prog_1_method_20_code 0 = .ok (.aload_n 0, 1) := by decide +kernel
theorem d_X_nextDeadline_1 : decode prog_1_method_20_code 1 = .ok (.getfield 10, 3) := by decide +kernel
theorem d_X_nextDeadline_4 : decode prog_1_method_20_code 4 = .ok (.invokevirtual 219, 3) := by decide +kernel
theorem d_X_nextDeadline_7 : decode prog_1_method_20_code 7 = .ok (.ireturn, 1) := by decide +kernel
theorem cv_7_219 : CSV "SensorHub" 219 y_Hub_earliestDeadline prog_4_method_32_code 3 (some .int) 0 := ⟨gw_I 864 (by decide +kernel) rfl, gw_I 865 (by decide +kernel) rfl, gw_I 866 (by decide +kernel) rfl, gw_I 71 (by decide +kernel) rfl, gw_I 867 (by decide +kernel) rfl, ⟨by decide +kernel, by decide +kernel⟩, by decide +kernel⟩
def f_X_nextDeadline (q : Nat) (σ : Mem) : Option (Int32 × Mem) :=
  bd (f_Hub_earliestDeadline (q + 1) σ) fun r1 σ2 =>
  some (r1, σ2)
set_option maxRecDepth 100000 in
set_option maxHeartbeats 4000000 in
theorem c_X_nextDeadline {X : CX} (l : Launch) (q : Nat) (hq : TopOK X q) (σ : Mem) : CT X l y_X_nextDeadline prog_1_method_20_code 1 (some .int) 4 vI [.ref (xa X q)] σ (f_X_nextDeadline q σ) := by
  refine CT_of (by decide +kernel) (Nat.le_of_ble_eq_true rfl) ?_
  intro p e s m args below meth c F hlk hr
  have F : FR p s m args c prog_1_method_20_code 1 "SensorHub" X := F
  show G X p l e (rmD 4) s m args below meth c 1 0 0 (QI X below args s vI) 0 [(0, .ref (xa X q))] [] σ _
  unfold f_X_nextDeadline
  refine g_aload_n F d_X_nextDeadline_0 0 rfl ?_
  refine g_getR F fs_7_10 hq.1 rfl d_X_nextDeadline_1 ?_
  refine g_callV F (dp := 3) (ci := 2) (As := []) (c_Hub_earliestDeadline l _ hq.2.1 _) cv_7_219 hq.2.1.1 rfl rfl rfl (Nat.le_of_ble_eq_true rfl) ⟨Nat.le_of_ble_eq_true rfl, Nat.le_of_ble_eq_true rfl⟩ ⟨Nat.zero_le _, Nat.zero_le _⟩ d_X_nextDeadline_4 (fun r1 σ2 h1 => ?_)
  exact g_iret F hlk hr d_X_nextDeadline_7
def y_X_forecastWakes : MethodName := ⟨"SensorHub", "forecastWakes", "(II)I"⟩
theorem d_X_forecastWakes_0 : decode prog_1_method_21_code 0 = .ok (.iload_n 1, 1) := by decide +kernel
theorem d_X_forecastWakes_1 : decode prog_1_method_21_code 1 = .ok (.iconst 1, 1) := by decide +kernel
theorem d_X_forecastWakes_2 : decode prog_1_method_21_code 2 = .ok (.sipush 500, 3) := by decide +kernel
theorem d_X_forecastWakes_5 : decode prog_1_method_21_code 5 = .ok (.invokestatic 33, 3) := by decide +kernel
theorem d_X_forecastWakes_8 : decode prog_1_method_21_code 8 = .ok (.ifCond .eq 12, 3) := by decide +kernel
theorem d_X_forecastWakes_11 : decode prog_1_method_21_code 11 = .ok (.iload_n 2, 1) := by decide +kernel
theorem d_X_forecastWakes_12 : decode prog_1_method_21_code 12 = .ok (.iconst 0, 1) := by decide +kernel
theorem d_X_forecastWakes_13 : decode prog_1_method_21_code 13 = .ok (.iconst 1, 1) := by decide +kernel
theorem d_X_forecastWakes_14 : decode prog_1_method_21_code 14 = .ok (.invokestatic 33, 3) := by decide +kernel
theorem d_X_forecastWakes_17 : decode prog_1_method_21_code 17 = .ok (.ifCond .ne 5, 3) := by decide +kernel
theorem d_X_forecastWakes_20 : decode prog_1_method_21_code 20 = .ok (.iconst (-1), 1) := by decide +kernel
theorem d_X_forecastWakes_21 : decode prog_1_method_21_code 21 = .ok (.ireturn, 1) := by decide +kernel
theorem d_X_forecastWakes_22 : decode prog_1_method_21_code 22 = .ok (.aload_n 0, 1) := by decide +kernel
theorem d_X_forecastWakes_23 : decode prog_1_method_21_code 23 = .ok (.getfield 16, 3) := by decide +kernel
theorem d_X_forecastWakes_26 : decode prog_1_method_21_code 26 = .ok (.aload_n 0, 1) := by decide +kernel
theorem d_X_forecastWakes_27 : decode prog_1_method_21_code 27 = .ok (.getfield 10, 3) := by decide +kernel
theorem d_X_forecastWakes_30 : decode prog_1_method_21_code 30 = .ok (.invokevirtual 126, 3) := by decide +kernel
theorem d_X_forecastWakes_33 : decode prog_1_method_21_code 33 = .ok (.aload_n 0, 1) := by decide +kernel
theorem d_X_forecastWakes_34 : decode prog_1_method_21_code 34 = .ok (.getfield 16, 3) := by decide +kernel
theorem d_X_forecastWakes_37 : decode prog_1_method_21_code 37 = .ok (.iload_n 1, 1) := by decide +kernel
theorem d_X_forecastWakes_38 : decode prog_1_method_21_code 38 = .ok (.invokevirtual 135, 3) := by decide +kernel
theorem d_X_forecastWakes_41 : decode prog_1_method_21_code 41 = .ok (.aload_n 0, 1) := by decide +kernel
theorem d_X_forecastWakes_42 : decode prog_1_method_21_code 42 = .ok (.getfield 16, 3) := by decide +kernel
theorem d_X_forecastWakes_45 : decode prog_1_method_21_code 45 = .ok (.iload_n 2, 1) := by decide +kernel
theorem d_X_forecastWakes_46 : decode prog_1_method_21_code 46 = .ok (.invokevirtual 166, 3) := by decide +kernel
theorem d_X_forecastWakes_49 : decode prog_1_method_21_code 49 = .ok (.aload_n 0, 1) := by decide +kernel
theorem d_X_forecastWakes_50 : decode prog_1_method_21_code 50 = .ok (.getfield 10, 3) := by decide +kernel
theorem d_X_forecastWakes_53 : decode prog_1_method_21_code 53 = .ok (.iload_n 2, 1) := by decide +kernel
theorem d_X_forecastWakes_54 : decode prog_1_method_21_code 54 = .ok (.invokevirtual 166, 3) := by decide +kernel
theorem d_X_forecastWakes_57 : decode prog_1_method_21_code 57 = .ok (.isub, 1) := by decide +kernel
theorem d_X_forecastWakes_58 : decode prog_1_method_21_code 58 = .ok (.ireturn, 1) := by decide +kernel
def f_X_forecastWakes (q : Nat) (p1 : Int32) (p2 : Int32) (σ : Mem) : Option (Int32 × Mem) :=
  bd (f_X_isWithin p1 (1 : Int32) (500 : Int32) σ) fun r1 σ2 =>
  if r1 = 0 then
    some ((-1 : Int32), σ2)
  else
    bd (f_X_isWithin p2 (0 : Int32) (1 : Int32) σ2) fun r3 σ4 =>
    if r3 = 0 then
      some ((-1 : Int32), σ4)
    else
      bd (f_Hub_copyFrom (q + 43) (q + 1) σ4) fun _ σ6 =>
      bd (f_Hub_runTicks (q + 43) p1 σ6) fun _ σ8 =>
      bd (f_Hub_wakesOf (q + 43) p2 σ8) fun r9 σ10 =>
      bd (f_Hub_wakesOf (q + 1) p2 σ10) fun r11 σ12 =>
      some (r9 - r11, σ12)
set_option maxRecDepth 100000 in
set_option maxHeartbeats 4000000 in
theorem c_X_forecastWakes {X : CX} (l : Launch) (q : Nat) (p1 : Int32) (p2 : Int32) (hq : TopOK X q) (σ : Mem) : CT X l y_X_forecastWakes prog_1_method_21_code 3 (some .int) 6 vI [.ref (xa X q), .int p1, .int p2] σ (f_X_forecastWakes q p1 p2 σ) := by
  refine CT_of (by decide +kernel) (Nat.le_of_ble_eq_true rfl) ?_
  intro p e s m args below meth c F hlk hr
  have F : FR p s m args c prog_1_method_21_code 3 "SensorHub" X := F
  show G X p l e (rmD 6) s m args below meth c 3 0 0 (QI X below args s vI) 0 [(0, .ref (xa X q)), (1, .int p1), (2, .int p2)] [] σ _
  unfold f_X_forecastWakes
  refine g_iload_n F d_X_forecastWakes_0 1 rfl ?_
  refine g_iconst F (v := 1) d_X_forecastWakes_1 (by decide) ?_
  refine g_sipush F (v := 500) d_X_forecastWakes_2 (by decide) ?_
  refine g_callS F (dp := 0) (As := [.int p1, .int (1 : Int32), .int (500 : Int32)]) (c_X_isWithin l _ _ _ _) cs_7_33 rfl rfl (Nat.le_of_ble_eq_true rfl) ⟨Nat.le_of_ble_eq_true rfl, Nat.le_of_ble_eq_true rfl⟩ ⟨Nat.zero_le _, Nat.zero_le _⟩ d_X_forecastWakes_5 (fun r1 σ2 h1 => ?_)
  refine g_if_eq F (tgt := 20) d_X_forecastWakes_8 (by decide) (fun h2 => ?_) (fun h3 => ?_)
  · refine g_iconst F (v := (-1)) d_X_forecastWakes_20 (by decide) ?_
    exact g_iret F hlk hr d_X_forecastWakes_21
  refine g_iload_n F d_X_forecastWakes_11 2 rfl ?_
  refine g_iconst F (v := 0) d_X_forecastWakes_12 (by decide) ?_
  refine g_iconst F (v := 1) d_X_forecastWakes_13 (by decide) ?_
  refine g_callS F (dp := 0) (As := [.int p2, .int (0 : Int32), .int (1 : Int32)]) (c_X_isWithin l _ _ _ _) cs_7_33 rfl rfl (Nat.le_of_ble_eq_true rfl) ⟨Nat.le_of_ble_eq_true rfl, Nat.le_of_ble_eq_true rfl⟩ ⟨Nat.zero_le _, Nat.zero_le _⟩ d_X_forecastWakes_14 (fun r3 σ4 h4 => ?_)
  refine g_if_ne F (tgt := 22) d_X_forecastWakes_17 (by decide) (fun h5 => ?_) (fun h6 => ?_)
  · refine g_iconst F (v := (-1)) d_X_forecastWakes_20 (by decide) ?_
    exact g_iret F hlk hr d_X_forecastWakes_21
  refine g_aload_n F d_X_forecastWakes_22 0 rfl ?_
  refine g_getR F fs_7_16 hq.1 rfl d_X_forecastWakes_23 ?_
  refine g_aload_n F d_X_forecastWakes_26 0 rfl ?_
  refine g_getR F fs_7_10 hq.1 rfl d_X_forecastWakes_27 ?_
  refine g_callV F (dp := 2) (ci := 2) (As := [.ref (xa X (q + 1))]) (c_Hub_copyFrom l _ _ hq.2.2.1 hq.2.1 _) cv_7_126 hq.2.2.1.1 rfl rfl rfl (Nat.le_of_ble_eq_true rfl) ⟨Nat.le_of_ble_eq_true rfl, Nat.le_of_ble_eq_true rfl⟩ ⟨Nat.zero_le _, Nat.zero_le _⟩ d_X_forecastWakes_30 (fun _ σ6 h7 => ?_)
  refine g_aload_n F d_X_forecastWakes_33 0 rfl ?_
  refine g_getR F fs_7_16 hq.1 rfl d_X_forecastWakes_34 ?_
  refine g_iload_n F d_X_forecastWakes_37 1 rfl ?_
  refine g_callV F (dp := 5) (ci := 2) (As := [.int p1]) (c_Hub_runTicks l _ _ hq.2.2.1 _) cv_7_135 hq.2.2.1.1 rfl rfl rfl (Nat.le_of_ble_eq_true rfl) ⟨Nat.le_of_ble_eq_true rfl, Nat.le_of_ble_eq_true rfl⟩ ⟨Nat.zero_le _, Nat.zero_le _⟩ d_X_forecastWakes_38 (fun _ σ8 h8 => ?_)
  refine g_aload_n F d_X_forecastWakes_41 0 rfl ?_
  refine g_getR F fs_7_16 hq.1 rfl d_X_forecastWakes_42 ?_
  refine g_iload_n F d_X_forecastWakes_45 2 rfl ?_
  refine g_callV F (dp := 1) (ci := 2) (As := [.int p2]) (c_Hub_wakesOf l _ _ hq.2.2.1 _) cv_7_166 hq.2.2.1.1 rfl rfl rfl (Nat.le_of_ble_eq_true rfl) ⟨Nat.le_of_ble_eq_true rfl, Nat.le_of_ble_eq_true rfl⟩ ⟨Nat.zero_le _, Nat.zero_le _⟩ d_X_forecastWakes_46 (fun r9 σ10 h9 => ?_)
  refine g_aload_n F d_X_forecastWakes_49 0 rfl ?_
  refine g_getR F fs_7_10 hq.1 rfl d_X_forecastWakes_50 ?_
  refine g_iload_n F d_X_forecastWakes_53 2 rfl ?_
  refine g_callV F (dp := 1) (ci := 2) (As := [.int p2]) (c_Hub_wakesOf l _ _ hq.2.1 _) cv_7_166 hq.2.1.1 rfl rfl rfl (Nat.le_of_ble_eq_true rfl) ⟨Nat.le_of_ble_eq_true rfl, Nat.le_of_ble_eq_true rfl⟩ ⟨Nat.zero_le _, Nat.zero_le _⟩ d_X_forecastWakes_54 (fun r11 σ12 h10 => ?_)
  refine g_isub F d_X_forecastWakes_57 ?_
  exact g_iret F hlk hr d_X_forecastWakes_58
def y_X_smallestCapacity : MethodName := ⟨"SensorHub", "smallestCapacity", "(I)I"⟩
theorem d_X_smallestCapacity_0 : decode prog_1_method_22_code 0 = .ok (.iload_n 1, 1) := by decide +kernel
theorem d_X_smallestCapacity_1 : decode prog_1_method_22_code 1 = .ok (.iconst 1, 1) := by decide +kernel
theorem d_X_smallestCapacity_2 : decode prog_1_method_22_code 2 = .ok (.sipush 500, 3) := by decide +kernel
theorem d_X_smallestCapacity_5 : decode prog_1_method_22_code 5 = .ok (.invokestatic 33, 3) := by decide +kernel
theorem d_X_smallestCapacity_8 : decode prog_1_method_22_code 8 = .ok (.ifCond .ne 5, 3) := by decide +kernel
theorem d_X_smallestCapacity_11 : decode prog_1_method_22_code 11 = .ok (.iconst (-1), 1) := by decide +kernel
theorem d_X_smallestCapacity_12 : decode prog_1_method_22_code 12 = .ok (.ireturn, 1) := by decide +kernel
theorem d_X_smallestCapacity_13 : decode prog_1_method_22_code 13 = .ok (.aload_n 0, 1) := by decide +kernel
theorem d_X_smallestCapacity_14 : decode prog_1_method_22_code 14 = .ok (.getfield 16, 3) := by decide +kernel
theorem d_X_smallestCapacity_17 : decode prog_1_method_22_code 17 = .ok (.aload_n 0, 1) := by decide +kernel
theorem d_X_smallestCapacity_18 : decode prog_1_method_22_code 18 = .ok (.getfield 10, 3) := by decide +kernel
theorem d_X_smallestCapacity_21 : decode prog_1_method_22_code 21 = .ok (.invokevirtual 126, 3) := by decide +kernel
theorem d_X_smallestCapacity_24 : decode prog_1_method_22_code 24 = .ok (.aload_n 0, 1) := by decide +kernel
theorem d_X_smallestCapacity_25 : decode prog_1_method_22_code 25 = .ok (.getfield 16, 3) := by decide +kernel
theorem d_X_smallestCapacity_28 : decode prog_1_method_22_code 28 = .ok (.bipush 30, 2) := by decide +kernel
theorem d_X_smallestCapacity_30 : decode prog_1_method_22_code 30 = .ok (.putfield 111, 3) := by decide +kernel
theorem d_X_smallestCapacity_33 : decode prog_1_method_22_code 33 = .ok (.aload_n 0, 1) := by decide +kernel
theorem d_X_smallestCapacity_34 : decode prog_1_method_22_code 34 = .ok (.getfield 16, 3) := by decide +kernel
theorem d_X_smallestCapacity_37 : decode prog_1_method_22_code 37 = .ok (.iload_n 1, 1) := by decide +kernel
theorem d_X_smallestCapacity_38 : decode prog_1_method_22_code 38 = .ok (.invokevirtual 135, 3) := by decide +kernel
theorem d_X_smallestCapacity_41 : decode prog_1_method_22_code 41 = .ok (.aload_n 0, 1) := by decide +kernel
theorem d_X_smallestCapacity_42 : decode prog_1_method_22_code 42 = .ok (.getfield 16, 3) := by decide +kernel
theorem d_X_smallestCapacity_45 : decode prog_1_method_22_code 45 = .ok (.iconst 1, 1) := by decide +kernel
theorem d_X_smallestCapacity_46 : decode prog_1_method_22_code 46 = .ok (.invokevirtual 166, 3) := by decide +kernel
theorem d_X_smallestCapacity_49 : decode prog_1_method_22_code 49 = .ok (.aload_n 0, 1) := by decide +kernel
theorem d_X_smallestCapacity_50 : decode prog_1_method_22_code 50 = .ok (.getfield 10, 3) := by decide +kernel
theorem d_X_smallestCapacity_53 : decode prog_1_method_22_code 53 = .ok (.iconst 1, 1) := by decide +kernel
theorem d_X_smallestCapacity_54 : decode prog_1_method_22_code 54 = .ok (.invokevirtual 166, 3) := by decide +kernel
theorem d_X_smallestCapacity_57 : decode prog_1_method_22_code 57 = .ok (.if_icmp .le 6, 3) := by decide +kernel
theorem d_X_smallestCapacity_60 : decode prog_1_method_22_code 60 = .ok (.bipush (-9), 2) := by decide +kernel
theorem d_X_smallestCapacity_62 : decode prog_1_method_22_code 62 = .ok (.ireturn, 1) := by decide +kernel
theorem d_X_smallestCapacity_63 : decode prog_1_method_22_code 63 = .ok (.iconst 1, 1) := by decide +kernel
theorem d_X_smallestCapacity_64 : decode prog_1_method_22_code 64 = .ok (.aload_n 0, 1) := by decide +kernel
theorem d_X_smallestCapacity_65 : decode prog_1_method_22_code 65 = .ok (.getfield 16, 3) := by decide +kernel
theorem d_X_smallestCapacity_68 : decode prog_1_method_22_code 68 = .ok (.getfield 222, 3) := by decide +kernel
theorem d_X_smallestCapacity_71 : decode prog_1_method_22_code 71 = .ok (.invokestatic 225, 3) := by decide +kernel
theorem d_X_smallestCapacity_74 : decode prog_1_method_22_code 74 = .ok (.ireturn, 1) := by decide +kernel
theorem fs_7_222 : FS "SensorHub" 222 2 5 := ⟨"SensorHub$Hub", T_2, 11, rfl, by decide, rfl, gw_I 297 (by decide +kernel) rfl⟩
theorem cs_7_225 : CSS "SensorHub" 225 y_Mat_max prog_11_method_65_code 2 (some .int) 2 := ⟨gw_I 877 (by decide +kernel) rfl, gw_I 481 (by decide +kernel) rfl, gw_I 79 (by decide +kernel) rfl, gw_I 482 (by decide +kernel) rfl, ⟨by decide +kernel, by decide +kernel⟩, by decide +kernel⟩
def f_X_smallestCapacity (q : Nat) (p1 : Int32) (σ : Mem) : Option (Int32 × Mem) :=
  bd (f_X_isWithin p1 (1 : Int32) (500 : Int32) σ) fun r1 σ2 =>
  if r1 = 0 then
    some ((-1 : Int32), σ2)
  else
    bd (f_Hub_copyFrom (q + 43) (q + 1) σ2) fun _ σ4 =>
    lt (wr σ4 (q + 43) 3 (30 : Int32)) fun σ5 =>
    bd (f_Hub_runTicks (q + 43) p1 σ5) fun _ σ7 =>
    bd (f_Hub_wakesOf (q + 43) (1 : Int32) σ7) fun r8 σ9 =>
    bd (f_Hub_wakesOf (q + 1) (1 : Int32) σ9) fun r10 σ11 =>
    if r8 ≤ r10 then
      bd (f_Mat_max (1 : Int32) (σ11 (q + 43) 5) σ11) fun r12 σ13 =>
      some (r12, σ13)
    else
      some ((-9 : Int32), σ11)
set_option maxRecDepth 100000 in
set_option maxHeartbeats 4000000 in
theorem c_X_smallestCapacity {X : CX} (l : Launch) (q : Nat) (p1 : Int32) (hq : TopOK X q) (σ : Mem) : CT X l y_X_smallestCapacity prog_1_method_22_code 2 (some .int) 6 vI [.ref (xa X q), .int p1] σ (f_X_smallestCapacity q p1 σ) := by
  refine CT_of (by decide +kernel) (Nat.le_of_ble_eq_true rfl) ?_
  intro p e s m args below meth c F hlk hr
  have F : FR p s m args c prog_1_method_22_code 2 "SensorHub" X := F
  show G X p l e (rmD 6) s m args below meth c 2 0 0 (QI X below args s vI) 0 [(0, .ref (xa X q)), (1, .int p1)] [] σ _
  unfold f_X_smallestCapacity
  refine g_iload_n F d_X_smallestCapacity_0 1 rfl ?_
  refine g_iconst F (v := 1) d_X_smallestCapacity_1 (by decide) ?_
  refine g_sipush F (v := 500) d_X_smallestCapacity_2 (by decide) ?_
  refine g_callS F (dp := 0) (As := [.int p1, .int (1 : Int32), .int (500 : Int32)]) (c_X_isWithin l _ _ _ _) cs_7_33 rfl rfl (Nat.le_of_ble_eq_true rfl) ⟨Nat.le_of_ble_eq_true rfl, Nat.le_of_ble_eq_true rfl⟩ ⟨Nat.zero_le _, Nat.zero_le _⟩ d_X_smallestCapacity_5 (fun r1 σ2 h1 => ?_)
  refine g_if_ne F (tgt := 13) d_X_smallestCapacity_8 (by decide) (fun h2 => ?_) (fun h3 => ?_)
  · refine g_iconst F (v := (-1)) d_X_smallestCapacity_11 (by decide) ?_
    exact g_iret F hlk hr d_X_smallestCapacity_12
  refine g_aload_n F d_X_smallestCapacity_13 0 rfl ?_
  refine g_getR F fs_7_16 hq.1 rfl d_X_smallestCapacity_14 ?_
  refine g_aload_n F d_X_smallestCapacity_17 0 rfl ?_
  refine g_getR F fs_7_10 hq.1 rfl d_X_smallestCapacity_18 ?_
  refine g_callV F (dp := 2) (ci := 2) (As := [.ref (xa X (q + 1))]) (c_Hub_copyFrom l _ _ hq.2.2.1 hq.2.1 _) cv_7_126 hq.2.2.1.1 rfl rfl rfl (Nat.le_of_ble_eq_true rfl) ⟨Nat.le_of_ble_eq_true rfl, Nat.le_of_ble_eq_true rfl⟩ ⟨Nat.zero_le _, Nat.zero_le _⟩ d_X_smallestCapacity_21 (fun _ σ4 h4 => ?_)
  refine g_aload_n F d_X_smallestCapacity_24 0 rfl ?_
  refine g_getR F fs_7_16 hq.1 rfl d_X_smallestCapacity_25 ?_
  refine g_bipush F (v := 30) d_X_smallestCapacity_28 (by decide) ?_
  refine g_putI F fw_7_111 hq.2.2.1.1 rfl d_X_smallestCapacity_30 ?_
  refine g_ltM (fun σ5 _ => ?_)
  refine g_aload_n F d_X_smallestCapacity_33 0 rfl ?_
  refine g_getR F fs_7_16 hq.1 rfl d_X_smallestCapacity_34 ?_
  refine g_iload_n F d_X_smallestCapacity_37 1 rfl ?_
  refine g_callV F (dp := 5) (ci := 2) (As := [.int p1]) (c_Hub_runTicks l _ _ hq.2.2.1 _) cv_7_135 hq.2.2.1.1 rfl rfl rfl (Nat.le_of_ble_eq_true rfl) ⟨Nat.le_of_ble_eq_true rfl, Nat.le_of_ble_eq_true rfl⟩ ⟨Nat.zero_le _, Nat.zero_le _⟩ d_X_smallestCapacity_38 (fun _ σ7 h5 => ?_)
  refine g_aload_n F d_X_smallestCapacity_41 0 rfl ?_
  refine g_getR F fs_7_16 hq.1 rfl d_X_smallestCapacity_42 ?_
  refine g_iconst F (v := 1) d_X_smallestCapacity_45 (by decide) ?_
  refine g_callV F (dp := 1) (ci := 2) (As := [.int (1 : Int32)]) (c_Hub_wakesOf l _ _ hq.2.2.1 _) cv_7_166 hq.2.2.1.1 rfl rfl rfl (Nat.le_of_ble_eq_true rfl) ⟨Nat.le_of_ble_eq_true rfl, Nat.le_of_ble_eq_true rfl⟩ ⟨Nat.zero_le _, Nat.zero_le _⟩ d_X_smallestCapacity_46 (fun r8 σ9 h6 => ?_)
  refine g_aload_n F d_X_smallestCapacity_49 0 rfl ?_
  refine g_getR F fs_7_10 hq.1 rfl d_X_smallestCapacity_50 ?_
  refine g_iconst F (v := 1) d_X_smallestCapacity_53 (by decide) ?_
  refine g_callV F (dp := 1) (ci := 2) (As := [.int (1 : Int32)]) (c_Hub_wakesOf l _ _ hq.2.1 _) cv_7_166 hq.2.1.1 rfl rfl rfl (Nat.le_of_ble_eq_true rfl) ⟨Nat.le_of_ble_eq_true rfl, Nat.le_of_ble_eq_true rfl⟩ ⟨Nat.zero_le _, Nat.zero_le _⟩ d_X_smallestCapacity_54 (fun r10 σ11 h7 => ?_)
  refine g_icmp_le F (tgt := 63) d_X_smallestCapacity_57 (by decide) (fun h8 => ?_) (fun h9 => ?_)
  · refine g_iconst F (v := 1) d_X_smallestCapacity_63 (by decide) ?_
    refine g_aload_n F d_X_smallestCapacity_64 0 rfl ?_
    refine g_getR F fs_7_16 hq.1 rfl d_X_smallestCapacity_65 ?_
    refine g_getI F fs_7_222 hq.2.2.1.1 rfl d_X_smallestCapacity_68 ?_
    refine g_callS F (dp := 0) (As := [.int (1 : Int32), .int (σ11 (q + 43) 5)]) (c_Mat_max l _ _ _) cs_7_225 rfl rfl (Nat.le_of_ble_eq_true rfl) ⟨Nat.le_of_ble_eq_true rfl, Nat.le_of_ble_eq_true rfl⟩ ⟨Nat.zero_le _, Nat.zero_le _⟩ d_X_smallestCapacity_71 (fun r12 σ13 h10 => ?_)
    exact g_iret F hlk hr d_X_smallestCapacity_74
  refine g_bipush F (v := (-9)) d_X_smallestCapacity_60 (by decide) ?_
  exact g_iret F hlk hr d_X_smallestCapacity_62
def y_X_tightestClient : MethodName := ⟨"SensorHub", "tightestClient", "(I)I"⟩
theorem d_X_tightestClient_0 : decode prog_1_method_23_code 0 = .ok (.iload_n 1, 1) := by decide +kernel
theorem d_X_tightestClient_1 : decode prog_1_method_23_code 1 = .ok (.iconst 1, 1) := by decide +kernel
theorem d_X_tightestClient_2 : decode prog_1_method_23_code 2 = .ok (.sipush 500, 3) := by decide +kernel
theorem d_X_tightestClient_5 : decode prog_1_method_23_code 5 = .ok (.invokestatic 33, 3) := by decide +kernel
theorem d_X_tightestClient_8 : decode prog_1_method_23_code 8 = .ok (.ifCond .ne 5, 3) := by decide +kernel
theorem d_X_tightestClient_11 : decode prog_1_method_23_code 11 = .ok (.iconst (-1), 1) := by decide +kernel
theorem d_X_tightestClient_12 : decode prog_1_method_23_code 12 = .ok (.ireturn, 1) := by decide +kernel
theorem d_X_tightestClient_13 : decode prog_1_method_23_code 13 = .ok (.aload_n 0, 1) := by decide +kernel
theorem d_X_tightestClient_14 : decode prog_1_method_23_code 14 = .ok (.getfield 16, 3) := by decide +kernel
theorem d_X_tightestClient_17 : decode prog_1_method_23_code 17 = .ok (.aload_n 0, 1) := by decide +kernel
theorem d_X_tightestClient_18 : decode prog_1_method_23_code 18 = .ok (.getfield 10, 3) := by decide +kernel
theorem d_X_tightestClient_21 : decode prog_1_method_23_code 21 = .ok (.invokevirtual 126, 3) := by decide +kernel
theorem d_X_tightestClient_24 : decode prog_1_method_23_code 24 = .ok (.aload_n 0, 1) := by decide +kernel
theorem d_X_tightestClient_25 : decode prog_1_method_23_code 25 = .ok (.getfield 16, 3) := by decide +kernel
theorem d_X_tightestClient_28 : decode prog_1_method_23_code 28 = .ok (.iload_n 1, 1) := by decide +kernel
theorem d_X_tightestClient_29 : decode prog_1_method_23_code 29 = .ok (.invokevirtual 135, 3) := by decide +kernel
theorem d_X_tightestClient_32 : decode prog_1_method_23_code 32 = .ok (.aload_n 0, 1) := by decide +kernel
theorem d_X_tightestClient_33 : decode prog_1_method_23_code 33 = .ok (.getfield 16, 3) := by decide +kernel
theorem d_X_tightestClient_36 : decode prog_1_method_23_code 36 = .ok (.invokevirtual 132, 3) := by decide +kernel
theorem d_X_tightestClient_39 : decode prog_1_method_23_code 39 = .ok (.istore_n 2, 1) := by decide +kernel
theorem d_X_tightestClient_40 : decode prog_1_method_23_code 40 = .ok (.bipush (-9), 2) := by decide +kernel
theorem d_X_tightestClient_42 : decode prog_1_method_23_code 42 = .ok (.istore_n 3, 1) := by decide +kernel
theorem d_X_tightestClient_43 : decode prog_1_method_23_code 43 = .ok (.iconst 0, 1) := by decide +kernel
theorem d_X_tightestClient_44 : decode prog_1_method_23_code 44 = .ok (.istore 4, 2) := by decide +kernel
theorem d_X_tightestClient_46 : decode prog_1_method_23_code 46 = .ok (.iload 4, 2) := by decide +kernel
theorem d_X_tightestClient_48 : decode prog_1_method_23_code 48 = .ok (.bipush 8, 2) := by decide +kernel
theorem d_X_tightestClient_50 : decode prog_1_method_23_code 50 = .ok (.if_icmp .ge 74, 3) := by decide +kernel
theorem d_X_tightestClient_53 : decode prog_1_method_23_code 53 = .ok (.aload_n 0, 1) := by decide +kernel
theorem d_X_tightestClient_54 : decode prog_1_method_23_code 54 = .ok (.getfield 16, 3) := by decide +kernel
theorem d_X_tightestClient_57 : decode prog_1_method_23_code 57 = .ok (.aload_n 0, 1) := by decide +kernel
theorem d_X_tightestClient_58 : decode prog_1_method_23_code 58 = .ok (.getfield 10, 3) := by decide +kernel
theorem d_X_tightestClient_61 : decode prog_1_method_23_code 61 = .ok (.invokevirtual 126, 3) := by decide +kernel
theorem d_X_tightestClient_64 : decode prog_1_method_23_code 64 = .ok (.aload_n 0, 1) := by decide +kernel
theorem d_X_tightestClient_65 : decode prog_1_method_23_code 65 = .ok (.getfield 16, 3) := by decide +kernel
theorem d_X_tightestClient_68 : decode prog_1_method_23_code 68 = .ok (.iload 4, 2) := by decide +kernel
theorem d_X_tightestClient_70 : decode prog_1_method_23_code 70 = .ok (.invokevirtual 98, 3) := by decide +kernel
theorem d_X_tightestClient_73 : decode prog_1_method_23_code 73 = .ok (.astore 5, 2) := by decide +kernel
theorem d_X_tightestClient_75 : decode prog_1_method_23_code 75 = .ok (.aload 5, 2) := by decide +kernel
theorem d_X_tightestClient_77 : decode prog_1_method_23_code 77 = .ok (.ifnull 41, 3) := by decide +kernel
theorem d_X_tightestClient_80 : decode prog_1_method_23_code 80 = .ok (.aload 5, 2) := by decide +kernel
theorem d_X_tightestClient_82 : decode prog_1_method_23_code 82 = .ok (.sipush 400, 3) := by decide +kernel
theorem d_X_tightestClient_85 : decode prog_1_method_23_code 85 = .ok (.putfield 194, 3) := by decide +kernel
theorem d_X_tightestClient_88 : decode prog_1_method_23_code 88 = .ok (.aload_n 0, 1) := by decide +kernel
theorem d_X_tightestClient_89 : decode prog_1_method_23_code 89 = .ok (.getfield 16, 3) := by decide +kernel
theorem d_X_tightestClient_92 : decode prog_1_method_23_code 92 = .ok (.iload_n 1, 1) := by decide +kernel
theorem d_X_tightestClient_93 : decode prog_1_method_23_code 93 = .ok (.invokevirtual 135, 3) := by decide +kernel
theorem d_X_tightestClient_96 : decode prog_1_method_23_code 96 = .ok (.aload_n 0, 1) := by decide +kernel
theorem d_X_tightestClient_97 : decode prog_1_method_23_code 97 = .ok (.getfield 16, 3) := by decide +kernel
theorem d_X_tightestClient_100 : decode prog_1_method_23_code 100 = .ok (.invokevirtual 132, 3) := by decide +kernel
theorem d_X_tightestClient_103 : decode prog_1_method_23_code 103 = .ok (.iload_n 2, 1) := by decide +kernel
theorem d_X_tightestClient_104 : decode prog_1_method_23_code 104 = .ok (.if_icmp .ge 14, 3) := by decide +kernel
theorem d_X_tightestClient_107 : decode prog_1_method_23_code 107 = .ok (.aload_n 0, 1) := by decide +kernel
theorem d_X_tightestClient_108 : decode prog_1_method_23_code 108 = .ok (.getfield 16, 3) := by decide +kernel
theorem d_X_tightestClient_111 : decode prog_1_method_23_code 111 = .ok (.invokevirtual 132, 3) := by decide +kernel
theorem d_X_tightestClient_114 : decode prog_1_method_23_code 114 = .ok (.istore_n 2, 1) := by decide +kernel
theorem d_X_tightestClient_115 : decode prog_1_method_23_code 115 = .ok (.iload 4, 2) := by decide +kernel
theorem d_X_tightestClient_117 : decode prog_1_method_23_code 117 = .ok (.istore_n 3, 1) := by decide +kernel
theorem d_X_tightestClient_118 : decode prog_1_method_23_code 118 = .ok (.iinc 4 1, 3) := by decide +kernel
theorem d_X_tightestClient_121 : decode prog_1_method_23_code 121 = .ok (.goto (-75), 3) := by decide +kernel
theorem d_X_tightestClient_124 : decode prog_1_method_23_code 124 = .ok (.iload_n 3, 1) := by decide +kernel
theorem d_X_tightestClient_125 : decode prog_1_method_23_code 125 = .ok (.ireturn, 1) := by decide +kernel
theorem fw_7_194 : FW "SensorHub" 194 0 3 .int := ⟨"SensorHub$Client", T_0, 11, rfl, by decide, rfl, gw_I 235 (by decide +kernel) rfl, rfl, by decide +kernel⟩
def L_X_tightestClient_46 (r0 : Nat) (y1 : Int32) (k : Int32 → Mem → Option (Int32 × Mem)) : Nat → Int32 → Int32 → Int32 → Mem → Option (Int32 × Mem)
  | 0, _, _, _, _ => none
  | n + 1, x2, x3, x4, σ =>
    if (8 : Int32) ≤ x4 then
      k x3 σ
    else
      bd (f_Hub_copyFrom (r0 + 43) (r0 + 1) σ) fun _ σ10 =>
      bd (f_Hub_clientAt (r0 + 43) x4 σ10) fun r11 σ12 =>
      oe r11 (
        L_X_tightestClient_46 r0 y1 k n x2 x3 (x4 + 1) σ12
      ) (fun o13 =>
        lt (wr σ12 o13 3 (400 : Int32)) fun σ14 =>
        bd (f_Hub_runTicks (r0 + 43) y1 σ14) fun _ σ16 =>
        bd (f_Hub_allWakes (r0 + 43) σ16) fun r17 σ18 =>
        if x2 ≤ r17 then
          L_X_tightestClient_46 r0 y1 k n x2 x3 (x4 + 1) σ18
        else
          bd (f_Hub_allWakes (r0 + 43) σ18) fun r19 σ20 =>
          L_X_tightestClient_46 r0 y1 k n r19 x4 (x4 + 1) σ20
      )
def f_X_tightestClient (q : Nat) (p1 : Int32) (σ : Mem) : Option (Int32 × Mem) :=
  bd (f_X_isWithin p1 (1 : Int32) (500 : Int32) σ) fun r1 σ2 =>
  if r1 = 0 then
    some ((-1 : Int32), σ2)
  else
    bd (f_Hub_copyFrom (q + 43) (q + 1) σ2) fun _ σ4 =>
    bd (f_Hub_runTicks (q + 43) p1 σ4) fun _ σ6 =>
    bd (f_Hub_allWakes (q + 43) σ6) fun r7 σ8 =>
    L_X_tightestClient_46 q p1 (fun z21 σ22 =>
      some (z21, σ22)) FU r7 (-9 : Int32) (0 : Int32) σ8
set_option maxRecDepth 100000 in
set_option maxHeartbeats 4000000 in
theorem l_L_X_tightestClient_46 {X : CX} {p : Program} {l : Launch} {e : Env} {s : State} {m : MethodId} {args : Array Value} {below : List Frame} {meth : Method} {c : Code} (F : FR p s m args c prog_1_method_23_code 6 "SensorHub" X) (hlk : meth.locks = false) (hr : meth.sig.returnType = some .int) (r0 : Nat) (y1 : Int32) (hr0 : TopOK X r0) (k : Int32 → Mem → Option (Int32 × Mem)) (hk : ∀ (x3 : Int32) (σ : Mem), G X p l e (rmD 6) s m args below meth c 6 0 0 (QI X below args s vI) 124 [(3, .int x3)] [] σ (k x3 σ)) : ∀ (n : Nat) (x2 : Int32) (x3 : Int32) (x4 : Int32) (σ : Mem), G X p l e (rmD 6) s m args below meth c 6 0 0 (QI X below args s vI) 46 [(0, .ref (xa X r0)), (1, .int y1), (2, .int x2), (3, .int x3), (4, .int x4)] [] σ (L_X_tightestClient_46 r0 y1 k n x2 x3 x4 σ) := by
  intro n
  induction n with
  | zero => intros; exact g_no
  | succ n ih =>
    intro x2 x3 x4 σ
    unfold L_X_tightestClient_46
    refine g_iload F d_X_tightestClient_46 4 rfl ?_
    refine g_bipush F (v := 8) d_X_tightestClient_48 (by decide) ?_
    refine g_icmp_ge F (tgt := 124) d_X_tightestClient_50 (by decide) (fun h7 => ?_) (fun h8 => ?_)
    · exact g_sub [3] rfl (hk _ _)
    refine g_aload_n F d_X_tightestClient_53 0 rfl ?_
    refine g_getR F fs_7_16 hr0.1 rfl d_X_tightestClient_54 ?_
    refine g_aload_n F d_X_tightestClient_57 0 rfl ?_
    refine g_getR F fs_7_10 hr0.1 rfl d_X_tightestClient_58 ?_
    refine g_callV F (dp := 2) (ci := 2) (As := [.ref (xa X (r0 + 1))]) (c_Hub_copyFrom l _ _ hr0.2.2.1 hr0.2.1 _) cv_7_126 hr0.2.2.1.1 rfl rfl rfl (Nat.le_of_ble_eq_true rfl) ⟨Nat.le_of_ble_eq_true rfl, Nat.le_of_ble_eq_true rfl⟩ ⟨Nat.zero_le _, Nat.zero_le _⟩ d_X_tightestClient_61 (fun _ σ10 h9 => ?_)
    refine g_aload_n F d_X_tightestClient_64 0 rfl ?_
    refine g_getR F fs_7_16 hr0.1 rfl d_X_tightestClient_65 ?_
    refine g_iload F d_X_tightestClient_68 4 rfl ?_
    refine g_callV F (dp := 0) (ci := 2) (As := [.int x4]) (c_Hub_clientAt l _ _ hr0.2.2.1 _) cv_7_98 hr0.2.2.1.1 rfl rfl rfl (Nat.le_of_ble_eq_true rfl) ⟨Nat.le_of_ble_eq_true rfl, Nat.le_of_ble_eq_true rfl⟩ ⟨Nat.zero_le _, Nat.zero_le _⟩ d_X_tightestClient_70 (fun r11 σ12 h10 => ?_)
    refine g_oe (fun h11 => ?_) (fun o13 h12 => ?_)
    · refine g_astoreN F (ls' := [(5, .null), (0, .ref (xa X r0)), (1, .int y1), (2, .int x2), (3, .int x3), (4, .int x4)]) d_X_tightestClient_73 (by decide) rfl ?_
      refine g_aloadN F d_X_tightestClient_75 0 rfl ?_
      refine g_ifnullN F (tgt := 118) d_X_tightestClient_77 (by decide) ?_
      refine g_iinc F (v := 1) (ls' := [(4, .int (x4 + 1)), (5, .null), (0, .ref (xa X r0)), (1, .int y1), (2, .int x2), (3, .int x3)]) d_X_tightestClient_118 5 rfl (by decide) (by decide) rfl ?_
      refine g_goto F (tgt := 46) d_X_tightestClient_121 (by decide) ?_
      exact g_sub [2, 3, 4, 5, 0] rfl (ih _ _ _ _)
    have h13 : ClientOK X o13 := ok_Hub_clientAt hr0.2.2.1 (h12 ▸ h10)
    refine g_astore F (ls' := [(5, .ref (xa X o13)), (0, .ref (xa X r0)), (1, .int y1), (2, .int x2), (3, .int x3), (4, .int x4)]) d_X_tightestClient_73 (by decide) rfl ?_
    refine g_aload F d_X_tightestClient_75 0 rfl ?_
    refine g_ifnull F d_X_tightestClient_77 ?_
    refine g_aload F d_X_tightestClient_80 0 rfl ?_
    refine g_sipush F (v := 400) d_X_tightestClient_82 (by decide) ?_
    refine g_putI F fw_7_194 h13.1 rfl d_X_tightestClient_85 ?_
    refine g_ltM (fun σ14 _ => ?_)
    refine g_aload_n F d_X_tightestClient_88 1 rfl ?_
    refine g_getR F fs_7_16 hr0.1 rfl d_X_tightestClient_89 ?_
    refine g_iload_n F d_X_tightestClient_92 2 rfl ?_
    refine g_callV F (dp := 5) (ci := 2) (As := [.int y1]) (c_Hub_runTicks l _ _ hr0.2.2.1 _) cv_7_135 hr0.2.2.1.1 rfl rfl rfl (Nat.le_of_ble_eq_true rfl) ⟨Nat.le_of_ble_eq_true rfl, Nat.le_of_ble_eq_true rfl⟩ ⟨Nat.zero_le _, Nat.zero_le _⟩ d_X_tightestClient_93 (fun _ σ16 h14 => ?_)
    refine g_aload_n F d_X_tightestClient_96 1 rfl ?_
    refine g_getR F fs_7_16 hr0.1 rfl d_X_tightestClient_97 ?_
    refine g_callV F (dp := 0) (ci := 2) (As := []) (c_Hub_allWakes l _ hr0.2.2.1 _) cv_7_132 hr0.2.2.1.1 rfl rfl rfl (Nat.le_of_ble_eq_true rfl) ⟨Nat.le_of_ble_eq_true rfl, Nat.le_of_ble_eq_true rfl⟩ ⟨Nat.zero_le _, Nat.zero_le _⟩ d_X_tightestClient_100 (fun r17 σ18 h15 => ?_)
    refine g_iload_n F d_X_tightestClient_103 3 rfl ?_
    refine g_icmp_ge F (tgt := 118) d_X_tightestClient_104 (by decide) (fun h16 => ?_) (fun h17 => ?_)
    · refine g_iinc F (v := 1) (ls' := [(4, .int (x4 + 1)), (5, .ref (xa X o13)), (0, .ref (xa X r0)), (1, .int y1), (2, .int x2), (3, .int x3)]) d_X_tightestClient_118 5 rfl (by decide) (by decide) rfl ?_
      refine g_goto F (tgt := 46) d_X_tightestClient_121 (by decide) ?_
      exact g_sub [2, 3, 4, 5, 0] rfl (ih _ _ _ _)
    refine g_aload_n F d_X_tightestClient_107 1 rfl ?_
    refine g_getR F fs_7_16 hr0.1 rfl d_X_tightestClient_108 ?_
    refine g_callV F (dp := 0) (ci := 2) (As := []) (c_Hub_allWakes l _ hr0.2.2.1 _) cv_7_132 hr0.2.2.1.1 rfl rfl rfl (Nat.le_of_ble_eq_true rfl) ⟨Nat.le_of_ble_eq_true rfl, Nat.le_of_ble_eq_true rfl⟩ ⟨Nat.zero_le _, Nat.zero_le _⟩ d_X_tightestClient_111 (fun r19 σ20 h18 => ?_)
    refine g_istore_n F (ls' := [(2, .int r19), (5, .ref (xa X o13)), (0, .ref (xa X r0)), (1, .int y1), (3, .int x3), (4, .int x4)]) d_X_tightestClient_114 (by decide) rfl ?_
    refine g_iload F d_X_tightestClient_115 5 rfl ?_
    refine g_istore_n F (ls' := [(3, .int x4), (2, .int r19), (5, .ref (xa X o13)), (0, .ref (xa X r0)), (1, .int y1), (4, .int x4)]) d_X_tightestClient_117 (by decide) rfl ?_
    refine g_iinc F (v := 1) (ls' := [(4, .int (x4 + 1)), (3, .int x4), (2, .int r19), (5, .ref (xa X o13)), (0, .ref (xa X r0)), (1, .int y1)]) d_X_tightestClient_118 5 rfl (by decide) (by decide) rfl ?_
    refine g_goto F (tgt := 46) d_X_tightestClient_121 (by decide) ?_
    exact g_sub [4, 5, 2, 1, 0] rfl (ih _ _ _ _)
set_option maxRecDepth 100000 in
set_option maxHeartbeats 4000000 in
theorem c_X_tightestClient {X : CX} (l : Launch) (q : Nat) (p1 : Int32) (hq : TopOK X q) (σ : Mem) : CT X l y_X_tightestClient prog_1_method_23_code 6 (some .int) 6 vI [.ref (xa X q), .int p1] σ (f_X_tightestClient q p1 σ) := by
  refine CT_of (by decide +kernel) (Nat.le_of_ble_eq_true rfl) ?_
  intro p e s m args below meth c F hlk hr
  have F : FR p s m args c prog_1_method_23_code 6 "SensorHub" X := F
  show G X p l e (rmD 6) s m args below meth c 6 0 0 (QI X below args s vI) 0 [(0, .ref (xa X q)), (1, .int p1)] [] σ _
  unfold f_X_tightestClient
  refine g_iload_n F d_X_tightestClient_0 1 rfl ?_
  refine g_iconst F (v := 1) d_X_tightestClient_1 (by decide) ?_
  refine g_sipush F (v := 500) d_X_tightestClient_2 (by decide) ?_
  refine g_callS F (dp := 0) (As := [.int p1, .int (1 : Int32), .int (500 : Int32)]) (c_X_isWithin l _ _ _ _) cs_7_33 rfl rfl (Nat.le_of_ble_eq_true rfl) ⟨Nat.le_of_ble_eq_true rfl, Nat.le_of_ble_eq_true rfl⟩ ⟨Nat.zero_le _, Nat.zero_le _⟩ d_X_tightestClient_5 (fun r1 σ2 h1 => ?_)
  refine g_if_ne F (tgt := 13) d_X_tightestClient_8 (by decide) (fun h2 => ?_) (fun h3 => ?_)
  · refine g_iconst F (v := (-1)) d_X_tightestClient_11 (by decide) ?_
    exact g_iret F hlk hr d_X_tightestClient_12
  refine g_aload_n F d_X_tightestClient_13 0 rfl ?_
  refine g_getR F fs_7_16 hq.1 rfl d_X_tightestClient_14 ?_
  refine g_aload_n F d_X_tightestClient_17 0 rfl ?_
  refine g_getR F fs_7_10 hq.1 rfl d_X_tightestClient_18 ?_
  refine g_callV F (dp := 2) (ci := 2) (As := [.ref (xa X (q + 1))]) (c_Hub_copyFrom l _ _ hq.2.2.1 hq.2.1 _) cv_7_126 hq.2.2.1.1 rfl rfl rfl (Nat.le_of_ble_eq_true rfl) ⟨Nat.le_of_ble_eq_true rfl, Nat.le_of_ble_eq_true rfl⟩ ⟨Nat.zero_le _, Nat.zero_le _⟩ d_X_tightestClient_21 (fun _ σ4 h4 => ?_)
  refine g_aload_n F d_X_tightestClient_24 0 rfl ?_
  refine g_getR F fs_7_16 hq.1 rfl d_X_tightestClient_25 ?_
  refine g_iload_n F d_X_tightestClient_28 1 rfl ?_
  refine g_callV F (dp := 5) (ci := 2) (As := [.int p1]) (c_Hub_runTicks l _ _ hq.2.2.1 _) cv_7_135 hq.2.2.1.1 rfl rfl rfl (Nat.le_of_ble_eq_true rfl) ⟨Nat.le_of_ble_eq_true rfl, Nat.le_of_ble_eq_true rfl⟩ ⟨Nat.zero_le _, Nat.zero_le _⟩ d_X_tightestClient_29 (fun _ σ6 h5 => ?_)
  refine g_aload_n F d_X_tightestClient_32 0 rfl ?_
  refine g_getR F fs_7_16 hq.1 rfl d_X_tightestClient_33 ?_
  refine g_callV F (dp := 0) (ci := 2) (As := []) (c_Hub_allWakes l _ hq.2.2.1 _) cv_7_132 hq.2.2.1.1 rfl rfl rfl (Nat.le_of_ble_eq_true rfl) ⟨Nat.le_of_ble_eq_true rfl, Nat.le_of_ble_eq_true rfl⟩ ⟨Nat.zero_le _, Nat.zero_le _⟩ d_X_tightestClient_36 (fun r7 σ8 h6 => ?_)
  refine g_istore_n F (ls' := [(2, .int r7), (0, .ref (xa X q)), (1, .int p1)]) d_X_tightestClient_39 (by decide) rfl ?_
  refine g_bipush F (v := (-9)) d_X_tightestClient_40 (by decide) ?_
  refine g_istore_n F (ls' := [(3, .int (-9 : Int32)), (2, .int r7), (0, .ref (xa X q)), (1, .int p1)]) d_X_tightestClient_42 (by decide) rfl ?_
  refine g_iconst F (v := 0) d_X_tightestClient_43 (by decide) ?_
  refine g_istore F (ls' := [(4, .int (0 : Int32)), (3, .int (-9 : Int32)), (2, .int r7), (0, .ref (xa X q)), (1, .int p1)]) d_X_tightestClient_44 (by decide) rfl ?_
  refine g_sub [3, 4, 2, 1, 0] rfl (l_L_X_tightestClient_46 F hlk hr _ _ hq _ (fun z21 σ22 => ?_) FU _ _ _ _)
  refine g_iload_n F d_X_tightestClient_124 0 rfl ?_
  exact g_iret F hlk hr d_X_tightestClient_125
