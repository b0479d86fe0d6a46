def y_Cli_begin : MethodName := ⟨"SensorHub$Client", "begin", "(III)V"⟩
theorem d_Cli_begin_0 : decode prog_2_method_2_code 0 = .ok (.aload_n 0, 1) := by decide +kernel
theorem d_Cli_begin_1 : decode prog_2_method_2_code 1 = .ok (.iload_n 1, 1) := by decide +kernel
theorem d_Cli_begin_2 : decode prog_2_method_2_code 2 = .ok (.putfield 15, 3) := by decide +kernel
theorem d_Cli_begin_5 : decode prog_2_method_2_code 5 = .ok (.aload_n 0, 1) := by decide +kernel
theorem d_Cli_begin_6 : decode prog_2_method_2_code 6 = .ok (.iload_n 2, 1) := by decide +kernel
theorem d_Cli_begin_7 : decode prog_2_method_2_code 7 = .ok (.putfield 19, 3) := by decide +kernel
theorem d_Cli_begin_10 : decode prog_2_method_2_code 10 = .ok (.aload_n 0, 1) := by decide +kernel
theorem d_Cli_begin_11 : decode prog_2_method_2_code 11 = .ok (.iload_n 3, 1) := by decide +kernel
theorem d_Cli_begin_12 : decode prog_2_method_2_code 12 = .ok (.putfield 22, 3) := by decide +kernel
theorem d_Cli_begin_15 : decode prog_2_method_2_code 15 = .ok (.aload_n 0, 1) := by decide +kernel
theorem d_Cli_begin_16 : decode prog_2_method_2_code 16 = .ok (.iconst 1, 1) := by decide +kernel
theorem d_Cli_begin_17 : decode prog_2_method_2_code 17 = .ok (.putfield 25, 3) := by decide +kernel
theorem d_Cli_begin_20 : decode prog_2_method_2_code 20 = .ok (.aload_n 0, 1) := by decide +kernel
theorem d_Cli_begin_21 : decode prog_2_method_2_code 21 = .ok (.iconst 0, 1) := by decide +kernel
theorem d_Cli_begin_22 : decode prog_2_method_2_code 22 = .ok (.putfield 29, 3) := by decide +kernel
theorem d_Cli_begin_25 : decode prog_2_method_2_code 25 = .ok (.aload_n 0, 1) := by decide +kernel
theorem d_Cli_begin_26 : decode prog_2_method_2_code 26 = .ok (.iconst 0, 1) := by decide +kernel
theorem d_Cli_begin_27 : decode prog_2_method_2_code 27 = .ok (.putfield 32, 3) := by decide +kernel
theorem d_Cli_begin_30 : decode prog_2_method_2_code 30 = .ok (.aload_n 0, 1) := by decide +kernel
theorem d_Cli_begin_31 : decode prog_2_method_2_code 31 = .ok (.iconst 0, 1) := by decide +kernel
theorem d_Cli_begin_32 : decode prog_2_method_2_code 32 = .ok (.putfield 35, 3) := by decide +kernel
theorem d_Cli_begin_35 : decode prog_2_method_2_code 35 = .ok (.aload_n 0, 1) := by decide +kernel
theorem d_Cli_begin_36 : decode prog_2_method_2_code 36 = .ok (.iconst 0, 1) := by decide +kernel
theorem d_Cli_begin_37 : decode prog_2_method_2_code 37 = .ok (.putfield 38, 3) := by decide +kernel
theorem d_Cli_begin_40 : decode prog_2_method_2_code 40 = .ok (.aload_n 0, 1) := by decide +kernel
theorem d_Cli_begin_41 : decode prog_2_method_2_code 41 = .ok (.bipush (-9), 2) := by decide +kernel
theorem d_Cli_begin_43 : decode prog_2_method_2_code 43 = .ok (.putfield 41, 3) := by decide +kernel
theorem d_Cli_begin_46 : decode prog_2_method_2_code 46 = .ok (.aload_n 0, 1) := by decide +kernel
theorem d_Cli_begin_47 : decode prog_2_method_2_code 47 = .ok (.iconst 0, 1) := by decide +kernel
theorem d_Cli_begin_48 : decode prog_2_method_2_code 48 = .ok (.putfield 44, 3) := by decide +kernel
theorem d_Cli_begin_51 : decode prog_2_method_2_code 51 = .ok (.return_, 1) := by decide +kernel
theorem fw_0_15 : FW "SensorHub$Client" 15 0 1 .int := ⟨"SensorHub$Client", T_0, 11, rfl, by decide, rfl, gw_I 228 (by decide +kernel) rfl, rfl, by decide +kernel⟩
theorem fw_0_19 : FW "SensorHub$Client" 19 0 2 .int := ⟨"SensorHub$Client", T_0, 11, rfl, by decide, rfl, gw_I 231 (by decide +kernel) rfl, rfl, by decide +kernel⟩
theorem fw_0_22 : FW "SensorHub$Client" 22 0 3 .int := ⟨"SensorHub$Client", T_0, 11, rfl, by decide, rfl, gw_I 234 (by decide +kernel) rfl, rfl, by decide +kernel⟩
theorem fw_0_25 : FW "SensorHub$Client" 25 0 0 .boolean := ⟨"SensorHub$Client", T_0, 11, rfl, by decide, rfl, gw_I 226 (by decide +kernel) rfl, rfl, by decide +kernel⟩
theorem fw_0_29 : FW "SensorHub$Client" 29 0 4 .int := ⟨"SensorHub$Client", T_0, 11, rfl, by decide, rfl, gw_I 237 (by decide +kernel) rfl, rfl, by decide +kernel⟩
theorem fw_0_32 : FW "SensorHub$Client" 32 0 5 .int := ⟨"SensorHub$Client", T_0, 11, rfl, by decide, rfl, gw_I 240 (by decide +kernel) rfl, rfl, by decide +kernel⟩
theorem fw_0_35 : FW "SensorHub$Client" 35 0 6 .int := ⟨"SensorHub$Client", T_0, 11, rfl, by decide, rfl, gw_I 242 (by decide +kernel) rfl, rfl, by decide +kernel⟩
theorem fw_0_38 : FW "SensorHub$Client" 38 0 7 .int := ⟨"SensorHub$Client", T_0, 11, rfl, by decide, rfl, gw_I 244 (by decide +kernel) rfl, rfl, by decide +kernel⟩
theorem fw_0_41 : FW "SensorHub$Client" 41 0 8 .int := ⟨"SensorHub$Client", T_0, 11, rfl, by decide, rfl, gw_I 246 (by decide +kernel) rfl, rfl, by decide +kernel⟩
theorem fw_0_44 : FW "SensorHub$Client" 44 0 9 .int := ⟨"SensorHub$Client", T_0, 11, rfl, by decide, rfl, gw_I 248 (by decide +kernel) rfl, rfl, by decide +kernel⟩
def f_Cli_begin (q : Nat) (p1 : Int32) (p2 : Int32) (p3 : Int32) (σ : Mem) : Option (Unit × Mem) :=
  lt (wr σ q 1 p1) fun σ1 =>
  lt (wr σ1 q 2 p2) fun σ2 =>
  lt (wr σ2 q 3 p3) fun σ3 =>
  lt (wr σ3 q 0 (1 : Int32)) fun σ4 =>
  lt (wr σ4 q 4 (0 : Int32)) fun σ5 =>
  lt (wr σ5 q 5 (0 : Int32)) fun σ6 =>
  lt (wr σ6 q 6 (0 : Int32)) fun σ7 =>
  lt (wr σ7 q 7 (0 : Int32)) fun σ8 =>
  lt (wr σ8 q 8 (-9 : Int32)) fun σ9 =>
  lt (wr σ9 q 9 (0 : Int32)) fun σ10 =>
  some ((), σ10)
set_option maxRecDepth 100000 in
set_option maxHeartbeats 4000000 in
theorem c_Cli_begin {X : CX} (l : Launch) (q : Nat) (p1 : Int32) (p2 : Int32) (p3 : Int32) (hq : ClientOK X q) (σ : Mem) : CT X l y_Cli_begin prog_2_method_2_code 4 none 0 vU [.ref (xa X q), .int p1, .int p2, .int p3] σ (f_Cli_begin q p1 p2 p3 σ) := by
  refine CT_of (by decide +kernel) (Nat.le_of_ble_eq_true rfl) ?_
  intro p e s m args below meth c F hlk hr
  have F : FR p s m args c prog_2_method_2_code 4 "SensorHub$Client" X := F
  show G X p l e (rmD 0) s m args below meth c 4 0 0 (QI X below args s vU) 0 [(0, .ref (xa X q)), (1, .int p1), (2, .int p2), (3, .int p3)] [] σ _
  unfold f_Cli_begin
  refine g_aload_n F d_Cli_begin_0 0 rfl ?_
  refine g_iload_n F d_Cli_begin_1 1 rfl ?_
  refine g_putI F fw_0_15 hq.1 rfl d_Cli_begin_2 ?_
  refine g_ltM (fun σ1 _ => ?_)
  refine g_aload_n F d_Cli_begin_5 0 rfl ?_
  refine g_iload_n F d_Cli_begin_6 2 rfl ?_
  refine g_putI F fw_0_19 hq.1 rfl d_Cli_begin_7 ?_
  refine g_ltM (fun σ2 _ => ?_)
  refine g_aload_n F d_Cli_begin_10 0 rfl ?_
  refine g_iload_n F d_Cli_begin_11 3 rfl ?_
  refine g_putI F fw_0_22 hq.1 rfl d_Cli_begin_12 ?_
  refine g_ltM (fun σ3 _ => ?_)
  refine g_aload_n F d_Cli_begin_15 0 rfl ?_
  refine g_iconst F (v := 1) d_Cli_begin_16 (by decide) ?_
  refine g_pt (q := (1 : Int32) &&& 1 = (1 : Int32)) (by decide) (g_putZ F fw_0_25 hq.1 rfl d_Cli_begin_17 ?_)
  refine g_ltM (fun σ4 _ => ?_)
  refine g_aload_n F d_Cli_begin_20 0 rfl ?_
  refine g_iconst F (v := 0) d_Cli_begin_21 (by decide) ?_
  refine g_putI F fw_0_29 hq.1 rfl d_Cli_begin_22 ?_
  refine g_ltM (fun σ5 _ => ?_)
  refine g_aload_n F d_Cli_begin_25 0 rfl ?_
  refine g_iconst F (v := 0) d_Cli_begin_26 (by decide) ?_
  refine g_putI F fw_0_32 hq.1 rfl d_Cli_begin_27 ?_
  refine g_ltM (fun σ6 _ => ?_)
  refine g_aload_n F d_Cli_begin_30 0 rfl ?_
  refine g_iconst F (v := 0) d_Cli_begin_31 (by decide) ?_
  refine g_putI F fw_0_35 hq.1 rfl d_Cli_begin_32 ?_
  refine g_ltM (fun σ7 _ => ?_)
  refine g_aload_n F d_Cli_begin_35 0 rfl ?_
  refine g_iconst F (v := 0) d_Cli_begin_36 (by decide) ?_
  refine g_putI F fw_0_38 hq.1 rfl d_Cli_begin_37 ?_
  refine g_ltM (fun σ8 _ => ?_)
  refine g_aload_n F d_Cli_begin_40 0 rfl ?_
  refine g_bipush F (v := (-9)) d_Cli_begin_41 (by decide) ?_
  refine g_putI F fw_0_41 hq.1 rfl d_Cli_begin_43 ?_
  refine g_ltM (fun σ9 _ => ?_)
  refine g_aload_n F d_Cli_begin_46 0 rfl ?_
  refine g_iconst F (v := 0) d_Cli_begin_47 (by decide) ?_
  refine g_putI F fw_0_44 hq.1 rfl d_Cli_begin_48 ?_
  refine g_ltM (fun σ10 _ => ?_)
  exact g_vret F hlk hr d_Cli_begin_51
def y_X_remainder : MethodName := ⟨"SensorHub", "remainder", "(II)I"⟩
theorem d_X_remainder_0 : decode prog_1_method_27_code 0 = .ok (.iload_n 1, 1) := by decide +kernel
theorem d_X_remainder_1 : decode prog_1_method_27_code 1 = .ok (.ifCond .le 11, 3) := by decide +kernel
theorem d_X_remainder_4 : decode prog_1_method_27_code 4 = .ok (.iload_n 0, 1) := by decide +kernel
theorem d_X_remainder_5 : decode prog_1_method_27_code 5 = .ok (.iload_n 1, 1) := by decide +kernel
theorem d_X_remainder_6 : decode prog_1_method_27_code 6 = .ok (.invokestatic 236, 3) := by decide +kernel
theorem d_X_remainder_9 : decode prog_1_method_27_code 9 = .ok (.goto 4, 3) := by decide +kernel
theorem d_X_remainder_12 : decode prog_1_method_27_code 12 = .ok (.iconst 0, 1) := by decide +kernel
theorem d_X_remainder_13 : decode prog_1_method_27_code 13 = .ok (.ireturn, 1) := by decide +kernel
theorem cs_7_236 : CSS "SensorHub" 236 y_Mat_floorMod prog_11_method_50_code 3 (some .int) 2 := ⟨gw_I 750 (by decide +kernel) rfl, gw_I 409 (by decide +kernel) rfl, gw_I 79 (by decide +kernel) rfl, gw_I 410 (by decide +kernel) rfl, ⟨by decide +kernel, by decide +kernel⟩, by decide +kernel⟩
def f_X_remainder (p0 : Int32) (p1 : Int32) (σ : Mem) : Option (Int32 × Mem) :=
  if p1 ≤ 0 then
    some ((0 : Int32), σ)
  else
    bd (f_Mat_floorMod p0 p1 σ) fun r1 σ2 =>
    some (r1, σ2)
set_option maxRecDepth 100000 in
set_option maxHeartbeats 4000000 in
theorem c_X_remainder {X : CX} (l : Launch) (p0 : Int32) (p1 : Int32)  (σ : Mem) : CT X l y_X_remainder prog_1_method_27_code 2 (some .int) 1 vI [.int p0, .int p1] σ (f_X_remainder p0 p1 σ) := by
  refine CT_of (by decide +kernel) (Nat.le_of_ble_eq_true rfl) ?_
  intro p e s m args below meth c F hlk hr
  have F : FR p s m args c prog_1_method_27_code 2 "SensorHub" X := F
  show G X p l e (rmD 1) s m args below meth c 2 0 0 (QI X below args s vI) 0 [(0, .int p0), (1, .int p1)] [] σ _
  unfold f_X_remainder
  refine g_iload_n F d_X_remainder_0 1 rfl ?_
  refine g_if_le F (tgt := 12) d_X_remainder_1 (by decide) (fun h1 => ?_) (fun h2 => ?_)
  · refine g_iconst F (v := 0) d_X_remainder_12 (by decide) ?_
    exact g_iret F hlk hr d_X_remainder_13
  refine g_iload_n F d_X_remainder_4 0 rfl ?_
  refine g_iload_n F d_X_remainder_5 1 rfl ?_
  refine g_callS F (dp := 0) (As := [.int p0, .int p1]) (c_Mat_floorMod l _ _ _) cs_7_236 rfl rfl (Nat.le_of_ble_eq_true rfl) ⟨Nat.le_of_ble_eq_true rfl, Nat.le_of_ble_eq_true rfl⟩ ⟨Nat.zero_le _, Nat.zero_le _⟩ d_X_remainder_6 (fun r1 σ2 h3 => ?_)
  refine g_goto F (tgt := 13) d_X_remainder_9 (by decide) ?_
  exact g_iret F hlk hr d_X_remainder_13
def y_Cli_takesNext : MethodName := ⟨"SensorHub$Client", "takesNext", "()Z"⟩
theorem d_Cli_takesNext_0 : decode prog_2_method_3_code 0 = .ok (.aload_n 0, 1) := by decide +kernel
theorem d_Cli_takesNext_1 : decode prog_2_method_3_code 1 = .ok (.getfield 32, 3) := by decide +kernel
theorem d_Cli_takesNext_4 : decode prog_2_method_3_code 4 = .ok (.aload_n 0, 1) := by decide +kernel
theorem d_Cli_takesNext_5 : decode prog_2_method_3_code 5 = .ok (.getfield 29, 3) := by decide +kernel
theorem d_Cli_takesNext_8 : decode prog_2_method_3_code 8 = .ok (.invokestatic 47, 3) := by decide +kernel
theorem d_Cli_takesNext_11 : decode prog_2_method_3_code 11 = .ok (.ifCond .ne 7, 3) := by decide +kernel
theorem d_Cli_takesNext_14 : decode prog_2_method_3_code 14 = .ok (.iconst 1, 1) := by decide +kernel
theorem d_Cli_takesNext_15 : decode prog_2_method_3_code 15 = .ok (.goto 4, 3) := by decide +kernel
theorem d_Cli_takesNext_18 : decode prog_2_method_3_code 18 = .ok (.iconst 0, 1) := by decide +kernel
theorem d_Cli_takesNext_19 : decode prog_2_method_3_code 19 = .ok (.ireturn, 1) := by decide +kernel
theorem fs_0_32 : FS "SensorHub$Client" 32 0 5 := ⟨"SensorHub$Client", T_0, 11, rfl, by decide, rfl, gw_I 240 (by decide +kernel) rfl⟩
theorem fs_0_29 : FS "SensorHub$Client" 29 0 4 := ⟨"SensorHub$Client", T_0, 11, rfl, by decide, rfl, gw_I 237 (by decide +kernel) rfl⟩
theorem cs_0_47 : CSN "SensorHub$Client" 47 y_X_remainder "SensorHub" prog_1_method_27_code 2 (some .int) 2 := ⟨List.mem_of_getElem? (i := 12) rfl, gw_I 748 (by decide +kernel) rfl, gw_I 70 (by decide +kernel) rfl, gw_I 749 (by decide +kernel) rfl, ⟨by decide +kernel, by decide +kernel⟩, by decide +kernel⟩
def f_Cli_takesNext (q : Nat) (σ : Mem) : Option (Int32 × Mem) :=
  bd (f_X_remainder (σ q 5) (σ q 4) σ) fun r1 σ2 =>
  if r1 = 0 then some ((1 : Int32), σ2) else some ((0 : Int32), σ2)
set_option maxRecDepth 100000 in
set_option maxHeartbeats 4000000 in
theorem c_Cli_takesNext {X : CX} (l : Launch) (q : Nat) (hq : ClientOK X q) (σ : Mem) : CT X l y_Cli_takesNext prog_2_method_3_code 1 (some .boolean) 2 vI [.ref (xa X q)] σ (f_Cli_takesNext q σ) := by
  refine CT_of (by decide +kernel) (Nat.le_of_ble_eq_true rfl) ?_
  intro p e s m args below meth c F hlk hr
  have F : FR p s m args c prog_2_method_3_code 1 "SensorHub$Client" X := F
  show G X p l e (rmD 2) s m args below meth c 1 0 0 (QI X below args s vI) 0 [(0, .ref (xa X q))] [] σ _
  unfold f_Cli_takesNext
  refine g_aload_n F d_Cli_takesNext_0 0 rfl ?_
  refine g_getI F fs_0_32 hq.1 rfl d_Cli_takesNext_1 ?_
  refine g_aload_n F d_Cli_takesNext_4 0 rfl ?_
  refine g_getI F fs_0_29 hq.1 rfl d_Cli_takesNext_5 ?_
  refine g_callSN F (dp := 1) (As := [.int (σ q 5), .int (σ q 4)]) (c_X_remainder l _ _ _) cs_0_47 rfl rfl (Nat.le_of_ble_eq_true rfl) ⟨Nat.le_of_ble_eq_true rfl, Nat.le_of_ble_eq_true rfl⟩ ⟨Nat.zero_le _, Nat.zero_le _⟩ d_Cli_takesNext_8 (fun r1 σ2 h1 => ?_)
  refine g_if_ne F (tgt := 18) d_Cli_takesNext_11 (by decide) (fun h2 => ?_) (fun h3 => ?_)
  · refine g_iconst F (v := 1) d_Cli_takesNext_14 (by decide) ?_
    refine g_goto F (tgt := 19) d_Cli_takesNext_15 (by decide) ?_
    exact g_zretC F hlk hr (by decide) d_Cli_takesNext_19
  refine g_iconst F (v := 0) d_Cli_takesNext_18 (by decide) ?_
  exact g_zretC F hlk hr (by decide) d_Cli_takesNext_19
def y_Cli_receive : MethodName := ⟨"SensorHub$Client", "receive", "(III)V"⟩
theorem d_Cli_receive_0 : decode prog_2_method_4_code 0 = .ok (.aload_n 0, 1) := by decide +kernel
theorem d_Cli_receive_1 : decode prog_2_method_4_code 1 = .ok (.getfield 35, 3) := by decide +kernel
theorem d_Cli_receive_4 : decode prog_2_method_4_code 4 = .ok (.bipush 6, 2) := by decide +kernel
theorem d_Cli_receive_6 : decode prog_2_method_4_code 6 = .ok (.invokestatic 51, 3) := by decide +kernel
theorem d_Cli_receive_9 : decode prog_2_method_4_code 9 = .ok (.iconst 3, 1) := by decide +kernel
theorem d_Cli_receive_10 : decode prog_2_method_4_code 10 = .ok (.imul, 1) := by decide +kernel
theorem d_Cli_receive_11 : decode prog_2_method_4_code 11 = .ok (.istore 4, 2) := by decide +kernel
theorem d_Cli_receive_13 : decode prog_2_method_4_code 13 = .ok (.aload_n 0, 1) := by decide +kernel
theorem d_Cli_receive_14 : decode prog_2_method_4_code 14 = .ok (.getfield 9, 3) := by decide +kernel
theorem d_Cli_receive_17 : decode prog_2_method_4_code 17 = .ok (.iload 4, 2) := by decide +kernel
theorem d_Cli_receive_19 : decode prog_2_method_4_code 19 = .ok (.iload_n 1, 1) := by decide +kernel
theorem d_Cli_receive_20 : decode prog_2_method_4_code 20 = .ok (.iastore, 1) := by decide +kernel
theorem d_Cli_receive_21 : decode prog_2_method_4_code 21 = .ok (.aload_n 0, 1) := by decide +kernel
theorem d_Cli_receive_22 : decode prog_2_method_4_code 22 = .ok (.getfield 9, 3) := by decide +kernel
theorem d_Cli_receive_25 : decode prog_2_method_4_code 25 = .ok (.iload 4, 2) := by decide +kernel
theorem d_Cli_receive_27 : decode prog_2_method_4_code 27 = .ok (.iconst 1, 1) := by decide +kernel
theorem d_Cli_receive_28 : decode prog_2_method_4_code 28 = .ok (.iadd, 1) := by decide +kernel
theorem d_Cli_receive_29 : decode prog_2_method_4_code 29 = .ok (.iload_n 2, 1) := by decide +kernel
theorem d_Cli_receive_30 : decode prog_2_method_4_code 30 = .ok (.iastore, 1) := by decide +kernel
theorem d_Cli_receive_31 : decode prog_2_method_4_code 31 = .ok (.aload_n 0, 1) := by decide +kernel
theorem d_Cli_receive_32 : decode prog_2_method_4_code 32 = .ok (.getfield 9, 3) := by decide +kernel
theorem d_Cli_receive_35 : decode prog_2_method_4_code 35 = .ok (.iload 4, 2) := by decide +kernel
theorem d_Cli_receive_37 : decode prog_2_method_4_code 37 = .ok (.iconst 2, 1) := by decide +kernel
theorem d_Cli_receive_38 : decode prog_2_method_4_code 38 = .ok (.iadd, 1) := by decide +kernel
theorem d_Cli_receive_39 : decode prog_2_method_4_code 39 = .ok (.iload_n 3, 1) := by decide +kernel
theorem d_Cli_receive_40 : decode prog_2_method_4_code 40 = .ok (.iastore, 1) := by decide +kernel
theorem d_Cli_receive_41 : decode prog_2_method_4_code 41 = .ok (.aload_n 0, 1) := by decide +kernel
theorem d_Cli_receive_42 : decode prog_2_method_4_code 42 = .ok (.dup, 1) := by decide +kernel
theorem d_Cli_receive_43 : decode prog_2_method_4_code 43 = .ok (.getfield 35, 3) := by decide +kernel
theorem d_Cli_receive_46 : decode prog_2_method_4_code 46 = .ok (.iconst 1, 1) := by decide +kernel
theorem d_Cli_receive_47 : decode prog_2_method_4_code 47 = .ok (.iadd, 1) := by decide +kernel
theorem d_Cli_receive_48 : decode prog_2_method_4_code 48 = .ok (.putfield 35, 3) := by decide +kernel
theorem d_Cli_receive_51 : decode prog_2_method_4_code 51 = .ok (.iload_n 2, 1) := by decide +kernel
theorem d_Cli_receive_52 : decode prog_2_method_4_code 52 = .ok (.bipush (-8), 2) := by decide +kernel
theorem d_Cli_receive_54 : decode prog_2_method_4_code 54 = .ok (.if_icmp .ne 13, 3) := by decide +kernel
theorem d_Cli_receive_57 : decode prog_2_method_4_code 57 = .ok (.aload_n 0, 1) := by decide +kernel
theorem d_Cli_receive_58 : decode prog_2_method_4_code 58 = .ok (.dup, 1) := by decide +kernel
theorem d_Cli_receive_59 : decode prog_2_method_4_code 59 = .ok (.getfield 38, 3) := by decide +kernel
theorem d_Cli_receive_62 : decode prog_2_method_4_code 62 = .ok (.iconst 1, 1) := by decide +kernel
theorem d_Cli_receive_63 : decode prog_2_method_4_code 63 = .ok (.iadd, 1) := by decide +kernel
theorem d_Cli_receive_64 : decode prog_2_method_4_code 64 = .ok (.putfield 38, 3) := by decide +kernel
theorem d_Cli_receive_67 : decode prog_2_method_4_code 67 = .ok (.aload_n 0, 1) := by decide +kernel
theorem d_Cli_receive_68 : decode prog_2_method_4_code 68 = .ok (.aload_n 0, 1) := by decide +kernel
theorem d_Cli_receive_69 : decode prog_2_method_4_code 69 = .ok (.getfield 41, 3) := by decide +kernel
theorem d_Cli_receive_72 : decode prog_2_method_4_code 72 = .ok (.iconst 0, 1) := by decide +kernel
theorem d_Cli_receive_73 : decode prog_2_method_4_code 73 = .ok (.iload_n 3, 1) := by decide +kernel
theorem d_Cli_receive_74 : decode prog_2_method_4_code 74 = .ok (.iload_n 1, 1) := by decide +kernel
theorem d_Cli_receive_75 : decode prog_2_method_4_code 75 = .ok (.isub, 1) := by decide +kernel
theorem d_Cli_receive_76 : decode prog_2_method_4_code 76 = .ok (.invokestatic 56, 3) := by decide +kernel
theorem d_Cli_receive_79 : decode prog_2_method_4_code 79 = .ok (.invokestatic 56, 3) := by decide +kernel
theorem d_Cli_receive_82 : decode prog_2_method_4_code 82 = .ok (.putfield 41, 3) := by decide +kernel
theorem d_Cli_receive_85 : decode prog_2_method_4_code 85 = .ok (.return_, 1) := by decide +kernel
theorem fs_0_35 : FS "SensorHub$Client" 35 0 6 := ⟨"SensorHub$Client", T_0, 11, rfl, by decide, rfl, gw_I 242 (by decide +kernel) rfl⟩
theorem cs_0_51 : CSS "SensorHub$Client" 51 y_Mat_floorMod prog_11_method_50_code 3 (some .int) 2 := ⟨gw_I 525 (by decide +kernel) rfl, gw_I 409 (by decide +kernel) rfl, gw_I 79 (by decide +kernel) rfl, gw_I 410 (by decide +kernel) rfl, ⟨by decide +kernel, by decide +kernel⟩, by decide +kernel⟩
theorem fs_0_9 : FS "SensorHub$Client" 9 0 10 := ⟨"SensorHub$Client", T_0, 11, rfl, by decide, rfl, gw_I 251 (by decide +kernel) rfl⟩
theorem fs_0_38 : FS "SensorHub$Client" 38 0 7 := ⟨"SensorHub$Client", T_0, 11, rfl, by decide, rfl, gw_I 244 (by decide +kernel) rfl⟩
theorem fs_0_41 : FS "SensorHub$Client" 41 0 8 := ⟨"SensorHub$Client", T_0, 11, rfl, by decide, rfl, gw_I 246 (by decide +kernel) rfl⟩
theorem cs_0_56 : CSS "SensorHub$Client" 56 y_Mat_max prog_11_method_65_code 2 (some .int) 2 := ⟨gw_I 526 (by decide +kernel) rfl, gw_I 481 (by decide +kernel) rfl, gw_I 79 (by decide +kernel) rfl, gw_I 482 (by decide +kernel) rfl, ⟨by decide +kernel, by decide +kernel⟩, by decide +kernel⟩
def f_Cli_receive (q : Nat) (p1 : Int32) (p2 : Int32) (p3 : Int32) (σ : Mem) : Option (Unit × Mem) :=
  bd (f_Mat_floorMod (σ q 6) (6 : Int32) σ) fun r1 σ2 =>
  lt (r1 * (3 : Int32)) fun v3 =>
  if ib v3 18 then
    lt (wr σ2 (q + 1) v3.toNatClampNeg p1) fun σ4 =>
    if ib (v3 + (1 : Int32)) 18 then
      lt (wr σ4 (q + 1) (v3 + (1 : Int32)).toNatClampNeg p2) fun σ5 =>
      if ib (v3 + (2 : Int32)) 18 then
        lt (wr σ5 (q + 1) (v3 + (2 : Int32)).toNatClampNeg p3) fun σ6 =>
        lt (wr σ6 q 6 ((σ6 q 6) + (1 : Int32))) fun σ7 =>
        if p2 = (-8 : Int32) then
          lt (wr σ7 q 7 ((σ7 q 7) + (1 : Int32))) fun σ8 =>
          bd (f_Mat_max (0 : Int32) (p3 - p1) σ8) fun r9 σ10 =>
          bd (f_Mat_max (σ8 q 8) r9 σ10) fun r11 σ12 =>
          lt (wr σ12 q 8 r11) fun σ13 =>
          some ((), σ13)
        else
          bd (f_Mat_max (0 : Int32) (p3 - p1) σ7) fun r14 σ15 =>
          bd (f_Mat_max (σ7 q 8) r14 σ15) fun r16 σ17 =>
          lt (wr σ17 q 8 r16) fun σ18 =>
          some ((), σ18)
      else none
    else none
  else none
set_option maxRecDepth 100000 in
set_option maxHeartbeats 4000000 in
theorem c_Cli_receive {X : CX} (l : Launch) (q : Nat) (p1 : Int32) (p2 : Int32) (p3 : Int32) (hq : ClientOK X q) (σ : Mem) : CT X l y_Cli_receive prog_2_method_4_code 5 none 1 vU [.ref (xa X q), .int p1, .int p2, .int p3] σ (f_Cli_receive q p1 p2 p3 σ) := by
  refine CT_of (by decide +kernel) (Nat.le_of_ble_eq_true rfl) ?_
  intro p e s m args below meth c F hlk hr
  have F : FR p s m args c prog_2_method_4_code 5 "SensorHub$Client" X := F
  show G X p l e (rmD 1) s m args below meth c 5 0 0 (QI X below args s vU) 0 [(0, .ref (xa X q)), (1, .int p1), (2, .int p2), (3, .int p3)] [] σ _
  unfold f_Cli_receive
  refine g_aload_n F d_Cli_receive_0 0 rfl ?_
  refine g_getI F fs_0_35 hq.1 rfl d_Cli_receive_1 ?_
  refine g_bipush F (v := 6) d_Cli_receive_4 (by decide) ?_
  refine g_callS F (dp := 0) (As := [.int (σ q 6), .int (6 : Int32)]) (c_Mat_floorMod l _ _ _) cs_0_51 rfl rfl (Nat.le_of_ble_eq_true rfl) ⟨Nat.le_of_ble_eq_true rfl, Nat.le_of_ble_eq_true rfl⟩ ⟨Nat.zero_le _, Nat.zero_le _⟩ d_Cli_receive_6 (fun r1 σ2 h1 => ?_)
  refine g_iconst F (v := 3) d_Cli_receive_9 (by decide) ?_
  refine g_imul F d_Cli_receive_10 ?_
  refine g_ltI (fun v3 _ => ?_)
  refine g_istore F (ls' := [(4, .int v3), (0, .ref (xa X q)), (1, .int p1), (2, .int p2), (3, .int p3)]) d_Cli_receive_11 (by decide) rfl ?_
  refine g_aload_n F d_Cli_receive_13 1 rfl ?_
  refine g_getR F fs_0_9 hq.1 rfl d_Cli_receive_14 ?_
  refine g_iload F d_Cli_receive_17 0 rfl ?_
  refine g_iload_n F d_Cli_receive_19 2 rfl ?_
  refine g_iast F (n := 18) hq.2 d_Cli_receive_20 ?_
  refine g_ltM (fun σ4 _ => ?_)
  refine g_aload_n F d_Cli_receive_21 1 rfl ?_
  refine g_getR F fs_0_9 hq.1 rfl d_Cli_receive_22 ?_
  refine g_iload F d_Cli_receive_25 0 rfl ?_
  refine g_iconst F (v := 1) d_Cli_receive_27 (by decide) ?_
  refine g_iadd F d_Cli_receive_28 ?_
  refine g_iload_n F d_Cli_receive_29 3 rfl ?_
  refine g_iast F (n := 18) hq.2 d_Cli_receive_30 ?_
  refine g_ltM (fun σ5 _ => ?_)
  refine g_aload_n F d_Cli_receive_31 1 rfl ?_
  refine g_getR F fs_0_9 hq.1 rfl d_Cli_receive_32 ?_
  refine g_iload F d_Cli_receive_35 0 rfl ?_
  refine g_iconst F (v := 2) d_Cli_receive_37 (by decide) ?_
  refine g_iadd F d_Cli_receive_38 ?_
  refine g_iload_n F d_Cli_receive_39 4 rfl ?_
  refine g_iast F (n := 18) hq.2 d_Cli_receive_40 ?_
  refine g_ltM (fun σ6 _ => ?_)
  refine g_aload_n F d_Cli_receive_41 1 rfl ?_
  refine g_dup F d_Cli_receive_42 rfl ?_
  refine g_getI F fs_0_35 hq.1 rfl d_Cli_receive_43 ?_
  refine g_iconst F (v := 1) d_Cli_receive_46 (by decide) ?_
  refine g_iadd F d_Cli_receive_47 ?_
  refine g_putI F fw_0_35 hq.1 rfl d_Cli_receive_48 ?_
  refine g_ltM (fun σ7 _ => ?_)
  refine g_iload_n F d_Cli_receive_51 3 rfl ?_
  refine g_bipush F (v := (-8)) d_Cli_receive_52 (by decide) ?_
  refine g_icmp_ne F (tgt := 67) d_Cli_receive_54 (by decide) (fun h2 => ?_) (fun h3 => ?_)
  · refine g_aload_n F d_Cli_receive_57 1 rfl ?_
    refine g_dup F d_Cli_receive_58 rfl ?_
    refine g_getI F fs_0_38 hq.1 rfl d_Cli_receive_59 ?_
    refine g_iconst F (v := 1) d_Cli_receive_62 (by decide) ?_
    refine g_iadd F d_Cli_receive_63 ?_
    refine g_putI F fw_0_38 hq.1 rfl d_Cli_receive_64 ?_
    refine g_ltM (fun σ8 _ => ?_)
    refine g_aload_n F d_Cli_receive_67 1 rfl ?_
    refine g_aload_n F d_Cli_receive_68 1 rfl ?_
    refine g_getI F fs_0_41 hq.1 rfl d_Cli_receive_69 ?_
    refine g_iconst F (v := 0) d_Cli_receive_72 (by decide) ?_
    refine g_iload_n F d_Cli_receive_73 4 rfl ?_
    refine g_iload_n F d_Cli_receive_74 2 rfl ?_
    refine g_isub F d_Cli_receive_75 ?_
    refine g_callS F (dp := 0) (As := [.int (0 : Int32), .int (p3 - p1)]) (c_Mat_max l _ _ _) cs_0_56 rfl rfl (Nat.le_of_ble_eq_true rfl) ⟨Nat.le_of_ble_eq_true rfl, Nat.le_of_ble_eq_true rfl⟩ ⟨Nat.zero_le _, Nat.zero_le _⟩ d_Cli_receive_76 (fun r9 σ10 h4 => ?_)
    refine g_callS F (dp := 0) (As := [.int (σ8 q 8), .int r9]) (c_Mat_max l _ _ _) cs_0_56 rfl rfl (Nat.le_of_ble_eq_true rfl) ⟨Nat.le_of_ble_eq_true rfl, Nat.le_of_ble_eq_true rfl⟩ ⟨Nat.zero_le _, Nat.zero_le _⟩ d_Cli_receive_79 (fun r11 σ12 h5 => ?_)
    refine g_putI F fw_0_41 hq.1 rfl d_Cli_receive_82 ?_
    refine g_ltM (fun σ13 _ => ?_)
    exact g_vret F hlk hr d_Cli_receive_85
  refine g_aload_n F d_Cli_receive_67 1 rfl ?_
  refine g_aload_n F d_Cli_receive_68 1 rfl ?_
  refine g_getI F fs_0_41 hq.1 rfl d_Cli_receive_69 ?_
  refine g_iconst F (v := 0) d_Cli_receive_72 (by decide) ?_
  refine g_iload_n F d_Cli_receive_73 4 rfl ?_
  refine g_iload_n F d_Cli_receive_74 2 rfl ?_
  refine g_isub F d_Cli_receive_75 ?_
  refine g_callS F (dp := 0) (As := [.int (0 : Int32), .int (p3 - p1)]) (c_Mat_max l _ _ _) cs_0_56 rfl rfl (Nat.le_of_ble_eq_true rfl) ⟨Nat.le_of_ble_eq_true rfl, Nat.le_of_ble_eq_true rfl⟩ ⟨Nat.zero_le _, Nat.zero_le _⟩ d_Cli_receive_76 (fun r14 σ15 h6 => ?_)
  refine g_callS F (dp := 0) (As := [.int (σ7 q 8), .int r14]) (c_Mat_max l _ _ _) cs_0_56 rfl rfl (Nat.le_of_ble_eq_true rfl) ⟨Nat.le_of_ble_eq_true rfl, Nat.le_of_ble_eq_true rfl⟩ ⟨Nat.zero_le _, Nat.zero_le _⟩ d_Cli_receive_79 (fun r16 σ17 h7 => ?_)
  refine g_putI F fw_0_41 hq.1 rfl d_Cli_receive_82 ?_
  refine g_ltM (fun σ18 _ => ?_)
  exact g_vret F hlk hr d_Cli_receive_85
def y_X_isWithin : MethodName := ⟨"SensorHub", "isWithin", "(III)Z"⟩
theorem d_X_isWithin_0 : decode prog_1_method_24_code 0 = .ok (.iload_n 0, 1) := by decide +kernel
theorem d_X_isWithin_1 : decode prog_1_method_24_code 1 = .ok (.iload_n 1, 1) := by decide +kernel
theorem d_X_isWithin_2 : decode prog_1_method_24_code 2 = .ok (.if_icmp .lt 12, 3) := by decide +kernel
theorem d_X_isWithin_5 : decode prog_1_method_24_code 5 = .ok (.iload_n 0, 1) := by decide +kernel
theorem d_X_isWithin_6 : decode prog_1_method_24_code 6 = .ok (.iload_n 2, 1) := by decide +kernel
theorem d_X_isWithin_7 : decode prog_1_method_24_code 7 = .ok (.if_icmp .gt 7, 3) := by decide +kernel
theorem d_X_isWithin_10 : decode prog_1_method_24_code 10 = .ok (.iconst 1, 1) := by decide +kernel
theorem d_X_isWithin_11 : decode prog_1_method_24_code 11 = .ok (.goto 4, 3) := by decide +kernel
theorem d_X_isWithin_14 : decode prog_1_method_24_code 14 = .ok (.iconst 0, 1) := by decide +kernel
theorem d_X_isWithin_15 : decode prog_1_method_24_code 15 = .ok (.ireturn, 1) := by decide +kernel
def f_X_isWithin (p0 : Int32) (p1 : Int32) (p2 : Int32) (σ : Mem) : Option (Int32 × Mem) :=
  if p0 < p1 then some ((0 : Int32), σ) else if p2 < p0 then some ((0 : Int32), σ) else some ((1 : Int32), σ)
set_option maxRecDepth 100000 in
set_option maxHeartbeats 4000000 in
theorem c_X_isWithin {X : CX} (l : Launch) (p0 : Int32) (p1 : Int32) (p2 : Int32)  (σ : Mem) : CT X l y_X_isWithin prog_1_method_24_code 3 (some .boolean) 0 vI [.int p0, .int p1, .int p2] σ (f_X_isWithin p0 p1 p2 σ) := by
  refine CT_of (by decide +kernel) (Nat.le_of_ble_eq_true rfl) ?_
  intro p e s m args below meth c F hlk hr
  have F : FR p s m args c prog_1_method_24_code 3 "SensorHub" X := F
  show G X p l e (rmD 0) s m args below meth c 3 0 0 (QI X below args s vI) 0 [(0, .int p0), (1, .int p1), (2, .int p2)] [] σ _
  unfold f_X_isWithin
  refine g_iload_n F d_X_isWithin_0 0 rfl ?_
  refine g_iload_n F d_X_isWithin_1 1 rfl ?_
  refine g_icmp_lt F (tgt := 14) d_X_isWithin_2 (by decide) (fun h1 => ?_) (fun h2 => ?_)
  · refine g_iconst F (v := 0) d_X_isWithin_14 (by decide) ?_
    exact g_zretC F hlk hr (by decide) d_X_isWithin_15
  refine g_iload_n F d_X_isWithin_5 0 rfl ?_
  refine g_iload_n F d_X_isWithin_6 2 rfl ?_
  refine g_icmp_gt F (tgt := 14) d_X_isWithin_7 (by decide) (fun h3 => ?_) (fun h4 => ?_)
  · refine g_iconst F (v := 0) d_X_isWithin_14 (by decide) ?_
    exact g_zretC F hlk hr (by decide) d_X_isWithin_15
  refine g_iconst F (v := 1) d_X_isWithin_10 (by decide) ?_
  refine g_goto F (tgt := 15) d_X_isWithin_11 (by decide) ?_
  exact g_zretC F hlk hr (by decide) d_X_isWithin_15
def y_Cli_recalled : MethodName := ⟨"SensorHub$Client", "recalled", "(II)I"⟩
theorem d_Cli_recalled_0 : decode prog_2_method_5_code 0 = .ok (.iload_n 1, 1) := by decide +kernel
theorem d_Cli_recalled_1 : decode prog_2_method_5_code 1 = .ok (.aload_n 0, 1) := by decide +kernel
theorem d_Cli_recalled_2 : decode prog_2_method_5_code 2 = .ok (.getfield 35, 3) := by decide +kernel
theorem d_Cli_recalled_5 : decode prog_2_method_5_code 5 = .ok (.if_icmp .ge 21, 3) := by decide +kernel
theorem d_Cli_recalled_8 : decode prog_2_method_5_code 8 = .ok (.iload_n 1, 1) := by decide +kernel
theorem d_Cli_recalled_9 : decode prog_2_method_5_code 9 = .ok (.iconst 0, 1) := by decide +kernel
theorem d_Cli_recalled_10 : decode prog_2_method_5_code 10 = .ok (.iconst 5, 1) := by decide +kernel
theorem d_Cli_recalled_11 : decode prog_2_method_5_code 11 = .ok (.invokestatic 59, 3) := by decide +kernel
theorem d_Cli_recalled_14 : decode prog_2_method_5_code 14 = .ok (.ifCond .eq 12, 3) := by decide +kernel
theorem d_Cli_recalled_17 : decode prog_2_method_5_code 17 = .ok (.iload_n 2, 1) := by decide +kernel
theorem d_Cli_recalled_18 : decode prog_2_method_5_code 18 = .ok (.iconst 0, 1) := by decide +kernel
theorem d_Cli_recalled_19 : decode prog_2_method_5_code 19 = .ok (.iconst 2, 1) := by decide +kernel
theorem d_Cli_recalled_20 : decode prog_2_method_5_code 20 = .ok (.invokestatic 59, 3) := by decide +kernel
theorem d_Cli_recalled_23 : decode prog_2_method_5_code 23 = .ok (.ifCond .ne 6, 3) := by decide +kernel
theorem d_Cli_recalled_26 : decode prog_2_method_5_code 26 = .ok (.bipush (-9), 2) := by decide +kernel
theorem d_Cli_recalled_28 : decode prog_2_method_5_code 28 = .ok (.ireturn, 1) := by decide +kernel
theorem d_Cli_recalled_29 : decode prog_2_method_5_code 29 = .ok (.aload_n 0, 1) := by decide +kernel
theorem d_Cli_recalled_30 : decode prog_2_method_5_code 30 = .ok (.getfield 9, 3) := by decide +kernel
theorem d_Cli_recalled_33 : decode prog_2_method_5_code 33 = .ok (.aload_n 0, 1) := by decide +kernel
theorem d_Cli_recalled_34 : decode prog_2_method_5_code 34 = .ok (.getfield 35, 3) := by decide +kernel
theorem d_Cli_recalled_37 : decode prog_2_method_5_code 37 = .ok (.iconst 1, 1) := by decide +kernel
theorem d_Cli_recalled_38 : decode prog_2_method_5_code 38 = .ok (.isub, 1) := by decide +kernel
theorem d_Cli_recalled_39 : decode prog_2_method_5_code 39 = .ok (.iload_n 1, 1) := by decide +kernel
theorem d_Cli_recalled_40 : decode prog_2_method_5_code 40 = .ok (.isub, 1) := by decide +kernel
theorem d_Cli_recalled_41 : decode prog_2_method_5_code 41 = .ok (.bipush 6, 2) := by decide +kernel
theorem d_Cli_recalled_43 : decode prog_2_method_5_code 43 = .ok (.invokestatic 51, 3) := by decide +kernel
theorem d_Cli_recalled_46 : decode prog_2_method_5_code 46 = .ok (.iconst 3, 1) := by decide +kernel
theorem d_Cli_recalled_47 : decode prog_2_method_5_code 47 = .ok (.imul, 1) := by decide +kernel
theorem d_Cli_recalled_48 : decode prog_2_method_5_code 48 = .ok (.iload_n 2, 1) := by decide +kernel
theorem d_Cli_recalled_49 : decode prog_2_method_5_code 49 = .ok (.iadd, 1) := by decide +kernel
theorem d_Cli_recalled_50 : decode prog_2_method_5_code 50 = .ok (.iaload, 1) := by decide +kernel
theorem d_Cli_recalled_51 : decode prog_2_method_5_code 51 = .ok (.ireturn, 1) := by decide +kernel
theorem cs_0_59 : CSN "SensorHub$Client" 59 y_X_isWithin "SensorHub" prog_1_method_24_code 3 (some .boolean) 3 := ⟨List.mem_of_getElem? (i := 13) rfl, gw_I 284 (by decide +kernel) rfl, gw_I 70 (by decide +kernel) rfl, gw_I 285 (by decide +kernel) rfl, ⟨by decide +kernel, by decide +kernel⟩, by decide +kernel⟩
def f_Cli_recalled (q : Nat) (p1 : Int32) (p2 : Int32) (σ : Mem) : Option (Int32 × Mem) :=
  if (σ q 6) ≤ p1 then
    some ((-9 : Int32), σ)
  else
    bd (f_X_isWithin p1 (0 : Int32) (5 : Int32) σ) fun r1 σ2 =>
    if r1 = 0 then
      some ((-9 : Int32), σ2)
    else
      bd (f_X_isWithin p2 (0 : Int32) (2 : Int32) σ2) fun r3 σ4 =>
      if r3 = 0 then
        some ((-9 : Int32), σ4)
      else
        bd (f_Mat_floorMod (((σ4 q 6) - (1 : Int32)) - p1) (6 : Int32) σ4) fun r5 σ6 =>
        if ib ((r5 * (3 : Int32)) + p2) 18 then
          some (σ6 (q + 1) ((r5 * (3 : Int32)) + p2).toNatClampNeg, σ6)
        else none
set_option maxRecDepth 100000 in
set_option maxHeartbeats 4000000 in
theorem c_Cli_recalled {X : CX} (l : Launch) (q : Nat) (p1 : Int32) (p2 : Int32) (hq : ClientOK X q) (σ : Mem) : CT X l y_Cli_recalled prog_2_method_5_code 3 (some .int) 1 vI [.ref (xa X q), .int p1, .int p2] σ (f_Cli_recalled q p1 p2 σ) := by
  refine CT_of (by decide +kernel) (Nat.le_of_ble_eq_true rfl) ?_
  intro p e s m args below meth c F hlk hr
  have F : FR p s m args c prog_2_method_5_code 3 "SensorHub$Client" X := F
  show G X p l e (rmD 1) s m args below meth c 3 0 0 (QI X below args s vI) 0 [(0, .ref (xa X q)), (1, .int p1), (2, .int p2)] [] σ _
  unfold f_Cli_recalled
  refine g_iload_n F d_Cli_recalled_0 1 rfl ?_
  refine g_aload_n F d_Cli_recalled_1 0 rfl ?_
  refine g_getI F fs_0_35 hq.1 rfl d_Cli_recalled_2 ?_
  refine g_icmp_ge F (tgt := 26) d_Cli_recalled_5 (by decide) (fun h1 => ?_) (fun h2 => ?_)
  · refine g_bipush F (v := (-9)) d_Cli_recalled_26 (by decide) ?_
    exact g_iret F hlk hr d_Cli_recalled_28
  refine g_iload_n F d_Cli_recalled_8 1 rfl ?_
  refine g_iconst F (v := 0) d_Cli_recalled_9 (by decide) ?_
  refine g_iconst F (v := 5) d_Cli_recalled_10 (by decide) ?_
  refine g_callSN F (dp := 0) (As := [.int p1, .int (0 : Int32), .int (5 : Int32)]) (c_X_isWithin l _ _ _ _) cs_0_59 rfl rfl (Nat.le_of_ble_eq_true rfl) ⟨Nat.le_of_ble_eq_true rfl, Nat.le_of_ble_eq_true rfl⟩ ⟨Nat.zero_le _, Nat.zero_le _⟩ d_Cli_recalled_11 (fun r1 σ2 h3 => ?_)
  refine g_if_eq F (tgt := 26) d_Cli_recalled_14 (by decide) (fun h4 => ?_) (fun h5 => ?_)
  · refine g_bipush F (v := (-9)) d_Cli_recalled_26 (by decide) ?_
    exact g_iret F hlk hr d_Cli_recalled_28
  refine g_iload_n F d_Cli_recalled_17 2 rfl ?_
  refine g_iconst F (v := 0) d_Cli_recalled_18 (by decide) ?_
  refine g_iconst F (v := 2) d_Cli_recalled_19 (by decide) ?_
  refine g_callSN F (dp := 0) (As := [.int p2, .int (0 : Int32), .int (2 : Int32)]) (c_X_isWithin l _ _ _ _) cs_0_59 rfl rfl (Nat.le_of_ble_eq_true rfl) ⟨Nat.le_of_ble_eq_true rfl, Nat.le_of_ble_eq_true rfl⟩ ⟨Nat.zero_le _, Nat.zero_le _⟩ d_Cli_recalled_20 (fun r3 σ4 h6 => ?_)
  refine g_if_ne F (tgt := 29) d_Cli_recalled_23 (by decide) (fun h7 => ?_) (fun h8 => ?_)
  · refine g_bipush F (v := (-9)) d_Cli_recalled_26 (by decide) ?_
    exact g_iret F hlk hr d_Cli_recalled_28
  refine g_aload_n F d_Cli_recalled_29 0 rfl ?_
  refine g_getR F fs_0_9 hq.1 rfl d_Cli_recalled_30 ?_
  refine g_aload_n F d_Cli_recalled_33 0 rfl ?_
  refine g_getI F fs_0_35 hq.1 rfl d_Cli_recalled_34 ?_
  refine g_iconst F (v := 1) d_Cli_recalled_37 (by decide) ?_
  refine g_isub F d_Cli_recalled_38 ?_
  refine g_iload_n F d_Cli_recalled_39 1 rfl ?_
  refine g_isub F d_Cli_recalled_40 ?_
  refine g_bipush F (v := 6) d_Cli_recalled_41 (by decide) ?_
  refine g_callS F (dp := 0) (As := [.int (((σ4 q 6) - (1 : Int32)) - p1), .int (6 : Int32)]) (c_Mat_floorMod l _ _ _) cs_0_51 rfl rfl (Nat.le_of_ble_eq_true rfl) ⟨Nat.le_of_ble_eq_true rfl, Nat.le_of_ble_eq_true rfl⟩ ⟨Nat.zero_le _, Nat.zero_le _⟩ d_Cli_recalled_43 (fun r5 σ6 h9 => ?_)
  refine g_iconst F (v := 3) d_Cli_recalled_46 (by decide) ?_
  refine g_imul F d_Cli_recalled_47 ?_
  refine g_iload_n F d_Cli_recalled_48 2 rfl ?_
  refine g_iadd F d_Cli_recalled_49 ?_
  refine g_iald F (n := 18) hq.2 d_Cli_recalled_50 ?_
  exact g_iret F hlk hr d_Cli_recalled_51
def y_Cli_copyFrom : MethodName := ⟨"SensorHub$Client", "copyFrom", "(LSensorHub$Client;)V"⟩
theorem d_Cli_copyFrom_0 : decode prog_2_method_6_code 0 = .ok (.aload_n 0, 1) := by decide +kernel
theorem d_Cli_copyFrom_1 : decode prog_2_method_6_code 1 = .ok (.aload_n 1, 1) := by decide +kernel
theorem d_Cli_copyFrom_2 : decode prog_2_method_6_code 2 = .ok (.getfield 25, 3) := by decide +kernel
theorem d_Cli_copyFrom_5 : decode prog_2_method_6_code 5 = .ok (.putfield 25, 3) := by decide +kernel
theorem d_Cli_copyFrom_8 : decode prog_2_method_6_code 8 = .ok (.aload_n 0, 1) := by decide +kernel
theorem d_Cli_copyFrom_9 : decode prog_2_method_6_code 9 = .ok (.aload_n 1, 1) := by decide +kernel
theorem d_Cli_copyFrom_10 : decode prog_2_method_6_code 10 = .ok (.getfield 15, 3) := by decide +kernel
theorem d_Cli_copyFrom_13 : decode prog_2_method_6_code 13 = .ok (.putfield 15, 3) := by decide +kernel
theorem d_Cli_copyFrom_16 : decode prog_2_method_6_code 16 = .ok (.aload_n 0, 1) := by decide +kernel
theorem d_Cli_copyFrom_17 : decode prog_2_method_6_code 17 = .ok (.aload_n 1, 1) := by decide +kernel
theorem d_Cli_copyFrom_18 : decode prog_2_method_6_code 18 = .ok (.getfield 19, 3) := by decide +kernel
theorem d_Cli_copyFrom_21 : decode prog_2_method_6_code 21 = .ok (.putfield 19, 3) := by decide +kernel
theorem d_Cli_copyFrom_24 : decode prog_2_method_6_code 24 = .ok (.aload_n 0, 1) := by decide +kernel
theorem d_Cli_copyFrom_25 : decode prog_2_method_6_code 25 = .ok (.aload_n 1, 1) := by decide +kernel
theorem d_Cli_copyFrom_26 : decode prog_2_method_6_code 26 = .ok (.getfield 22, 3) := by decide +kernel
theorem d_Cli_copyFrom_29 : decode prog_2_method_6_code 29 = .ok (.putfield 22, 3) := by decide +kernel
theorem d_Cli_copyFrom_32 : decode prog_2_method_6_code 32 = .ok (.aload_n 0, 1) := by decide +kernel
theorem d_Cli_copyFrom_33 : decode prog_2_method_6_code 33 = .ok (.aload_n 1, 1) := by decide +kernel
theorem d_Cli_copyFrom_34 : decode prog_2_method_6_code 34 = .ok (.getfield 29, 3) := by decide +kernel
theorem d_Cli_copyFrom_37 : decode prog_2_method_6_code 37 = .ok (.putfield 29, 3) := by decide +kernel
theorem d_Cli_copyFrom_40 : decode prog_2_method_6_code 40 = .ok (.aload_n 0, 1) := by decide +kernel
theorem d_Cli_copyFrom_41 : decode prog_2_method_6_code 41 = .ok (.aload_n 1, 1) := by decide +kernel
theorem d_Cli_copyFrom_42 : decode prog_2_method_6_code 42 = .ok (.getfield 32, 3) := by decide +kernel
theorem d_Cli_copyFrom_45 : decode prog_2_method_6_code 45 = .ok (.putfield 32, 3) := by decide +kernel
theorem d_Cli_copyFrom_48 : decode prog_2_method_6_code 48 = .ok (.aload_n 0, 1) := by decide +kernel
theorem d_Cli_copyFrom_49 : decode prog_2_method_6_code 49 = .ok (.aload_n 1, 1) := by decide +kernel
theorem d_Cli_copyFrom_50 : decode prog_2_method_6_code 50 = .ok (.getfield 35, 3) := by decide +kernel
theorem d_Cli_copyFrom_53 : decode prog_2_method_6_code 53 = .ok (.putfield 35, 3) := by decide +kernel
theorem d_Cli_copyFrom_56 : decode prog_2_method_6_code 56 = .ok (.aload_n 0, 1) := by decide +kernel
theorem d_Cli_copyFrom_57 : decode prog_2_method_6_code 57 = .ok (.aload_n 1, 1) := by decide +kernel
theorem d_Cli_copyFrom_58 : decode prog_2_method_6_code 58 = .ok (.getfield 38, 3) := by decide +kernel
theorem d_Cli_copyFrom_61 : decode prog_2_method_6_code 61 = .ok (.putfield 38, 3) := by decide +kernel
theorem d_Cli_copyFrom_64 : decode prog_2_method_6_code 64 = .ok (.aload_n 0, 1) := by decide +kernel
theorem d_Cli_copyFrom_65 : decode prog_2_method_6_code 65 = .ok (.aload_n 1, 1) := by decide +kernel
theorem d_Cli_copyFrom_66 : decode prog_2_method_6_code 66 = .ok (.getfield 41, 3) := by decide +kernel
theorem d_Cli_copyFrom_69 : decode prog_2_method_6_code 69 = .ok (.putfield 41, 3) := by decide +kernel
theorem d_Cli_copyFrom_72 : decode prog_2_method_6_code 72 = .ok (.aload_n 0, 1) := by decide +kernel
theorem d_Cli_copyFrom_73 : decode prog_2_method_6_code 73 = .ok (.aload_n 1, 1) := by decide +kernel
theorem d_Cli_copyFrom_74 : decode prog_2_method_6_code 74 = .ok (.getfield 44, 3) := by decide +kernel
theorem d_Cli_copyFrom_77 : decode prog_2_method_6_code 77 = .ok (.putfield 44, 3) := by decide +kernel
theorem d_Cli_copyFrom_80 : decode prog_2_method_6_code 80 = .ok (.aload_n 1, 1) := by decide +kernel
theorem d_Cli_copyFrom_81 : decode prog_2_method_6_code 81 = .ok (.getfield 9, 3) := by decide +kernel
theorem d_Cli_copyFrom_84 : decode prog_2_method_6_code 84 = .ok (.iconst 0, 1) := by decide +kernel
theorem d_Cli_copyFrom_85 : decode prog_2_method_6_code 85 = .ok (.aload_n 0, 1) := by decide +kernel
theorem d_Cli_copyFrom_86 : decode prog_2_method_6_code 86 = .ok (.getfield 9, 3) := by decide +kernel
theorem d_Cli_copyFrom_89 : decode prog_2_method_6_code 89 = .ok (.iconst 0, 1) := by decide +kernel
theorem d_Cli_copyFrom_90 : decode prog_2_method_6_code 90 = .ok (.bipush 18, 2) := by decide +kernel
theorem d_Cli_copyFrom_92 : decode prog_2_method_6_code 92 = .ok (.invokestatic 63, 3) := by decide +kernel
theorem d_Cli_copyFrom_95 : decode prog_2_method_6_code 95 = .ok (.return_, 1) := by decide +kernel
theorem fs_0_25 : FS "SensorHub$Client" 25 0 0 := ⟨"SensorHub$Client", T_0, 11, rfl, by decide, rfl, gw_I 226 (by decide +kernel) rfl⟩
theorem fs_0_15 : FS "SensorHub$Client" 15 0 1 := ⟨"SensorHub$Client", T_0, 11, rfl, by decide, rfl, gw_I 228 (by decide +kernel) rfl⟩
theorem fs_0_19 : FS "SensorHub$Client" 19 0 2 := ⟨"SensorHub$Client", T_0, 11, rfl, by decide, rfl, gw_I 231 (by decide +kernel) rfl⟩
theorem fs_0_22 : FS "SensorHub$Client" 22 0 3 := ⟨"SensorHub$Client", T_0, 11, rfl, by decide, rfl, gw_I 234 (by decide +kernel) rfl⟩
theorem fs_0_44 : FS "SensorHub$Client" 44 0 9 := ⟨"SensorHub$Client", T_0, 11, rfl, by decide, rfl, gw_I 248 (by decide +kernel) rfl⟩
theorem cp_0_63 : CPY "SensorHub$Client" 63 := ⟨gw_I 441 (by decide +kernel) rfl, gw_I 417 (by decide +kernel) rfl, gw_I 416 (by decide +kernel) rfl, gw_I 80 (by decide +kernel) rfl⟩
def f_Cli_copyFrom (q : Nat) (q1 : Nat) (σ : Mem) : Option (Unit × Mem) :=
  if (σ q1 0) &&& 1 = σ q1 0 then
    lt (wr σ q 0 (σ q1 0)) fun σ1 =>
    lt (wr σ1 q 1 (σ1 q1 1)) fun σ2 =>
    lt (wr σ2 q 2 (σ2 q1 2)) fun σ3 =>
    lt (wr σ3 q 3 (σ3 q1 3)) fun σ4 =>
    lt (wr σ4 q 4 (σ4 q1 4)) fun σ5 =>
    lt (wr σ5 q 5 (σ5 q1 5)) fun σ6 =>
    lt (wr σ6 q 6 (σ6 q1 6)) fun σ7 =>
    lt (wr σ7 q 7 (σ7 q1 7)) fun σ8 =>
    lt (wr σ8 q 8 (σ8 q1 8)) fun σ9 =>
    lt (wr σ9 q 9 (σ9 q1 9)) fun σ10 =>
    lt (cpy σ10 (q1 + 1) (q + 1) 18) fun σ11 =>
    some ((), σ11)
  else none
set_option maxRecDepth 100000 in
set_option maxHeartbeats 4000000 in
theorem c_Cli_copyFrom {X : CX} (l : Launch) (q : Nat) (q1 : Nat) (hq : ClientOK X q) (hq1 : ClientOK X q1) (σ : Mem) : CT X l y_Cli_copyFrom prog_2_method_6_code 2 none 1 vU [.ref (xa X q), .ref (xa X q1)] σ (f_Cli_copyFrom q q1 σ) := by
  refine CT_of (by decide +kernel) (Nat.le_of_ble_eq_true rfl) ?_
  intro p e s m args below meth c F hlk hr
  have F : FR p s m args c prog_2_method_6_code 2 "SensorHub$Client" X := F
  show G X p l e (rmD 1) s m args below meth c 2 0 0 (QI X below args s vU) 0 [(0, .ref (xa X q)), (1, .ref (xa X q1))] [] σ _
  unfold f_Cli_copyFrom
  refine g_aload_n F d_Cli_copyFrom_0 0 rfl ?_
  refine g_aload_n F d_Cli_copyFrom_1 1 rfl ?_
  refine g_getI F fs_0_25 hq1.1 rfl d_Cli_copyFrom_2 ?_
  refine g_putZ F fw_0_25 hq.1 rfl d_Cli_copyFrom_5 ?_
  refine g_ltM (fun σ1 _ => ?_)
  refine g_aload_n F d_Cli_copyFrom_8 0 rfl ?_
  refine g_aload_n F d_Cli_copyFrom_9 1 rfl ?_
  refine g_getI F fs_0_15 hq1.1 rfl d_Cli_copyFrom_10 ?_
  refine g_putI F fw_0_15 hq.1 rfl d_Cli_copyFrom_13 ?_
  refine g_ltM (fun σ2 _ => ?_)
  refine g_aload_n F d_Cli_copyFrom_16 0 rfl ?_
  refine g_aload_n F d_Cli_copyFrom_17 1 rfl ?_
  refine g_getI F fs_0_19 hq1.1 rfl d_Cli_copyFrom_18 ?_
  refine g_putI F fw_0_19 hq.1 rfl d_Cli_copyFrom_21 ?_
  refine g_ltM (fun σ3 _ => ?_)
  refine g_aload_n F d_Cli_copyFrom_24 0 rfl ?_
  refine g_aload_n F d_Cli_copyFrom_25 1 rfl ?_
  refine g_getI F fs_0_22 hq1.1 rfl d_Cli_copyFrom_26 ?_
  refine g_putI F fw_0_22 hq.1 rfl d_Cli_copyFrom_29 ?_
  refine g_ltM (fun σ4 _ => ?_)
  refine g_aload_n F d_Cli_copyFrom_32 0 rfl ?_
  refine g_aload_n F d_Cli_copyFrom_33 1 rfl ?_
  refine g_getI F fs_0_29 hq1.1 rfl d_Cli_copyFrom_34 ?_
  refine g_putI F fw_0_29 hq.1 rfl d_Cli_copyFrom_37 ?_
  refine g_ltM (fun σ5 _ => ?_)
  refine g_aload_n F d_Cli_copyFrom_40 0 rfl ?_
  refine g_aload_n F d_Cli_copyFrom_41 1 rfl ?_
  refine g_getI F fs_0_32 hq1.1 rfl d_Cli_copyFrom_42 ?_
  refine g_putI F fw_0_32 hq.1 rfl d_Cli_copyFrom_45 ?_
  refine g_ltM (fun σ6 _ => ?_)
  refine g_aload_n F d_Cli_copyFrom_48 0 rfl ?_
  refine g_aload_n F d_Cli_copyFrom_49 1 rfl ?_
  refine g_getI F fs_0_35 hq1.1 rfl d_Cli_copyFrom_50 ?_
  refine g_putI F fw_0_35 hq.1 rfl d_Cli_copyFrom_53 ?_
  refine g_ltM (fun σ7 _ => ?_)
  refine g_aload_n F d_Cli_copyFrom_56 0 rfl ?_
  refine g_aload_n F d_Cli_copyFrom_57 1 rfl ?_
  refine g_getI F fs_0_38 hq1.1 rfl d_Cli_copyFrom_58 ?_
  refine g_putI F fw_0_38 hq.1 rfl d_Cli_copyFrom_61 ?_
  refine g_ltM (fun σ8 _ => ?_)
  refine g_aload_n F d_Cli_copyFrom_64 0 rfl ?_
  refine g_aload_n F d_Cli_copyFrom_65 1 rfl ?_
  refine g_getI F fs_0_41 hq1.1 rfl d_Cli_copyFrom_66 ?_
  refine g_putI F fw_0_41 hq.1 rfl d_Cli_copyFrom_69 ?_
  refine g_ltM (fun σ9 _ => ?_)
  refine g_aload_n F d_Cli_copyFrom_72 0 rfl ?_
  refine g_aload_n F d_Cli_copyFrom_73 1 rfl ?_
  refine g_getI F fs_0_44 hq1.1 rfl d_Cli_copyFrom_74 ?_
  refine g_putI F fw_0_44 hq.1 rfl d_Cli_copyFrom_77 ?_
  refine g_ltM (fun σ10 _ => ?_)
  refine g_aload_n F d_Cli_copyFrom_80 1 rfl ?_
  refine g_getR F fs_0_9 hq1.1 rfl d_Cli_copyFrom_81 ?_
  refine g_iconst F (v := 0) d_Cli_copyFrom_84 (by decide) ?_
  refine g_aload_n F d_Cli_copyFrom_85 0 rfl ?_
  refine g_getR F fs_0_9 hq.1 rfl d_Cli_copyFrom_86 ?_
  refine g_iconst F (v := 0) d_Cli_copyFrom_89 (by decide) ?_
  refine g_bipush F (v := 18) d_Cli_copyFrom_90 (by decide) ?_
  refine g_copy F (n := 18) cp_0_63 hq1.2 hq.2 (by decide) ⟨Nat.le_of_ble_eq_true rfl, by decide⟩ d_Cli_copyFrom_92 ?_
  refine g_ltM (fun σ11 _ => ?_)
  exact g_vret F hlk hr d_Cli_copyFrom_95
def y_Out_copyFrom : MethodName := ⟨"SensorHub$Outages", "copyFrom", "(LSensorHub$Outages;)V"⟩
theorem d_Out_copyFrom_0 : decode prog_5_method_5_code 0 = .ok (.aload_n 0, 1) := by decide +kernel
theorem d_Out_copyFrom_1 : decode prog_5_method_5_code 1 = .ok (.aload_n 1, 1) := by decide +kernel
theorem d_Out_copyFrom_2 : decode prog_5_method_5_code 2 = .ok (.getfield 21, 3) := by decide +kernel
theorem d_Out_copyFrom_5 : decode prog_5_method_5_code 5 = .ok (.putfield 21, 3) := by decide +kernel
theorem d_Out_copyFrom_8 : decode prog_5_method_5_code 8 = .ok (.aload_n 1, 1) := by decide +kernel
theorem d_Out_copyFrom_9 : decode prog_5_method_5_code 9 = .ok (.getfield 9, 3) := by decide +kernel
theorem d_Out_copyFrom_12 : decode prog_5_method_5_code 12 = .ok (.iconst 0, 1) := by decide +kernel
theorem d_Out_copyFrom_13 : decode prog_5_method_5_code 13 = .ok (.aload_n 0, 1) := by decide +kernel
theorem d_Out_copyFrom_14 : decode prog_5_method_5_code 14 = .ok (.getfield 9, 3) := by decide +kernel
theorem d_Out_copyFrom_17 : decode prog_5_method_5_code 17 = .ok (.iconst 0, 1) := by decide +kernel
theorem d_Out_copyFrom_18 : decode prog_5_method_5_code 18 = .ok (.iconst 4, 1) := by decide +kernel
theorem d_Out_copyFrom_19 : decode prog_5_method_5_code 19 = .ok (.invokestatic 29, 3) := by decide +kernel
theorem d_Out_copyFrom_22 : decode prog_5_method_5_code 22 = .ok (.aload_n 1, 1) := by decide +kernel
theorem d_Out_copyFrom_23 : decode prog_5_method_5_code 23 = .ok (.getfield 15, 3) := by decide +kernel
theorem d_Out_copyFrom_26 : decode prog_5_method_5_code 26 = .ok (.iconst 0, 1) := by decide +kernel
theorem d_Out_copyFrom_27 : decode prog_5_method_5_code 27 = .ok (.aload_n 0, 1) := by decide +kernel
theorem d_Out_copyFrom_28 : decode prog_5_method_5_code 28 = .ok (.getfield 15, 3) := by decide +kernel
theorem d_Out_copyFrom_31 : decode prog_5_method_5_code 31 = .ok (.iconst 0, 1) := by decide +kernel
theorem d_Out_copyFrom_32 : decode prog_5_method_5_code 32 = .ok (.iconst 4, 1) := by decide +kernel
theorem d_Out_copyFrom_33 : decode prog_5_method_5_code 33 = .ok (.invokestatic 29, 3) := by decide +kernel
theorem d_Out_copyFrom_36 : decode prog_5_method_5_code 36 = .ok (.aload_n 1, 1) := by decide +kernel
theorem d_Out_copyFrom_37 : decode prog_5_method_5_code 37 = .ok (.getfield 18, 3) := by decide +kernel
theorem d_Out_copyFrom_40 : decode prog_5_method_5_code 40 = .ok (.iconst 0, 1) := by decide +kernel
theorem d_Out_copyFrom_41 : decode prog_5_method_5_code 41 = .ok (.aload_n 0, 1) := by decide +kernel
theorem d_Out_copyFrom_42 : decode prog_5_method_5_code 42 = .ok (.getfield 18, 3) := by decide +kernel
theorem d_Out_copyFrom_45 : decode prog_5_method_5_code 45 = .ok (.iconst 0, 1) := by decide +kernel
theorem d_Out_copyFrom_46 : decode prog_5_method_5_code 46 = .ok (.iconst 4, 1) := by decide +kernel
theorem d_Out_copyFrom_47 : decode prog_5_method_5_code 47 = .ok (.invokestatic 29, 3) := by decide +kernel
theorem d_Out_copyFrom_50 : decode prog_5_method_5_code 50 = .ok (.return_, 1) := by decide +kernel
theorem fs_3_21 : FS "SensorHub$Outages" 21 3 0 := ⟨"SensorHub$Outages", T_3, 4, rfl, by decide, rfl, gw_I 109 (by decide +kernel) rfl⟩
theorem fw_3_21 : FW "SensorHub$Outages" 21 3 0 .int := ⟨"SensorHub$Outages", T_3, 4, rfl, by decide, rfl, gw_I 109 (by decide +kernel) rfl, rfl, by decide +kernel⟩
theorem fs_3_9 : FS "SensorHub$Outages" 9 3 1 := ⟨"SensorHub$Outages", T_3, 4, rfl, by decide, rfl, gw_I 112 (by decide +kernel) rfl⟩
theorem cp_3_29 : CPY "SensorHub$Outages" 29 := ⟨gw_I 422 (by decide +kernel) rfl, gw_I 417 (by decide +kernel) rfl, gw_I 416 (by decide +kernel) rfl, gw_I 80 (by decide +kernel) rfl⟩
theorem fs_3_15 : FS "SensorHub$Outages" 15 3 2 := ⟨"SensorHub$Outages", T_3, 4, rfl, by decide, rfl, gw_I 113 (by decide +kernel) rfl⟩
theorem fs_3_18 : FS "SensorHub$Outages" 18 3 3 := ⟨"SensorHub$Outages", T_3, 4, rfl, by decide, rfl, gw_I 114 (by decide +kernel) rfl⟩
def f_Out_copyFrom (q : Nat) (q1 : Nat) (σ : Mem) : Option (Unit × Mem) :=
  lt (wr σ q 0 (σ q1 0)) fun σ1 =>
  lt (cpy σ1 (q1 + 1) (q + 1) 4) fun σ2 =>
  lt (cpy σ2 (q1 + 2) (q + 2) 4) fun σ3 =>
  lt (cpy σ3 (q1 + 3) (q + 3) 4) fun σ4 =>
  some ((), σ4)
set_option maxRecDepth 100000 in
set_option maxHeartbeats 4000000 in
theorem c_Out_copyFrom {X : CX} (l : Launch) (q : Nat) (q1 : Nat) (hq : OutagesOK X q) (hq1 : OutagesOK X q1) (σ : Mem) : CT X l y_Out_copyFrom prog_5_method_5_code 2 none 1 vU [.ref (xa X q), .ref (xa X q1)] σ (f_Out_copyFrom q q1 σ) := by
  refine CT_of (by decide +kernel) (Nat.le_of_ble_eq_true rfl) ?_
  intro p e s m args below meth c F hlk hr
  have F : FR p s m args c prog_5_method_5_code 2 "SensorHub$Outages" X := F
  show G X p l e (rmD 1) s m args below meth c 2 0 0 (QI X below args s vU) 0 [(0, .ref (xa X q)), (1, .ref (xa X q1))] [] σ _
  unfold f_Out_copyFrom
  refine g_aload_n F d_Out_copyFrom_0 0 rfl ?_
  refine g_aload_n F d_Out_copyFrom_1 1 rfl ?_
  refine g_getI F fs_3_21 hq1.1 rfl d_Out_copyFrom_2 ?_
  refine g_putI F fw_3_21 hq.1 rfl d_Out_copyFrom_5 ?_
  refine g_ltM (fun σ1 _ => ?_)
  refine g_aload_n F d_Out_copyFrom_8 1 rfl ?_
  refine g_getR F fs_3_9 hq1.1 rfl d_Out_copyFrom_9 ?_
  refine g_iconst F (v := 0) d_Out_copyFrom_12 (by decide) ?_
  refine g_aload_n F d_Out_copyFrom_13 0 rfl ?_
  refine g_getR F fs_3_9 hq.1 rfl d_Out_copyFrom_14 ?_
  refine g_iconst F (v := 0) d_Out_copyFrom_17 (by decide) ?_
  refine g_iconst F (v := 4) d_Out_copyFrom_18 (by decide) ?_
  refine g_copy F (n := 4) cp_3_29 hq1.2.1 hq.2.1 (by decide) ⟨Nat.le_of_ble_eq_true rfl, by decide⟩ d_Out_copyFrom_19 ?_
  refine g_ltM (fun σ2 _ => ?_)
  refine g_aload_n F d_Out_copyFrom_22 1 rfl ?_
  refine g_getR F fs_3_15 hq1.1 rfl d_Out_copyFrom_23 ?_
  refine g_iconst F (v := 0) d_Out_copyFrom_26 (by decide) ?_
  refine g_aload_n F d_Out_copyFrom_27 0 rfl ?_
  refine g_getR F fs_3_15 hq.1 rfl d_Out_copyFrom_28 ?_
  refine g_iconst F (v := 0) d_Out_copyFrom_31 (by decide) ?_
  refine g_iconst F (v := 4) d_Out_copyFrom_32 (by decide) ?_
  refine g_copy F (n := 4) cp_3_29 hq1.2.2.1 hq.2.2.1 (by decide) ⟨Nat.le_of_ble_eq_true rfl, by decide⟩ d_Out_copyFrom_33 ?_
  refine g_ltM (fun σ3 _ => ?_)
  refine g_aload_n F d_Out_copyFrom_36 1 rfl ?_
  refine g_getR F fs_3_18 hq1.1 rfl d_Out_copyFrom_37 ?_
  refine g_iconst F (v := 0) d_Out_copyFrom_40 (by decide) ?_
  refine g_aload_n F d_Out_copyFrom_41 0 rfl ?_
  refine g_getR F fs_3_18 hq.1 rfl d_Out_copyFrom_42 ?_
  refine g_iconst F (v := 0) d_Out_copyFrom_45 (by decide) ?_
  refine g_iconst F (v := 4) d_Out_copyFrom_46 (by decide) ?_
  refine g_copy F (n := 4) cp_3_29 hq1.2.2.2 hq.2.2.2 (by decide) ⟨Nat.le_of_ble_eq_true rfl, by decide⟩ d_Out_copyFrom_47 ?_
  refine g_ltM (fun σ4 _ => ?_)
  exact g_vret F hlk hr d_Out_copyFrom_50
def y_Sto_copyFrom : MethodName := ⟨"SensorHub$Store", "copyFrom", "(LSensorHub$Store;)V"⟩
theorem d_Sto_copyFrom_0 : decode prog_7_method_5_code 0 = .ok (.aload_n 0, 1) := by decide +kernel
theorem d_Sto_copyFrom_1 : decode prog_7_method_5_code 1 = .ok (.aload_n 1, 1) := by decide +kernel
theorem d_Sto_copyFrom_2 : decode prog_7_method_5_code 2 = .ok (.getfield 15, 3) := by decide +kernel
theorem d_Sto_copyFrom_5 : decode prog_7_method_5_code 5 = .ok (.putfield 15, 3) := by decide +kernel
theorem d_Sto_copyFrom_8 : decode prog_7_method_5_code 8 = .ok (.aload_n 1, 1) := by decide +kernel
theorem d_Sto_copyFrom_9 : decode prog_7_method_5_code 9 = .ok (.getfield 9, 3) := by decide +kernel
theorem d_Sto_copyFrom_12 : decode prog_7_method_5_code 12 = .ok (.iconst 0, 1) := by decide +kernel
theorem d_Sto_copyFrom_13 : decode prog_7_method_5_code 13 = .ok (.aload_n 0, 1) := by decide +kernel
theorem d_Sto_copyFrom_14 : decode prog_7_method_5_code 14 = .ok (.getfield 9, 3) := by decide +kernel
theorem d_Sto_copyFrom_17 : decode prog_7_method_5_code 17 = .ok (.iconst 0, 1) := by decide +kernel
theorem d_Sto_copyFrom_18 : decode prog_7_method_5_code 18 = .ok (.bipush 90, 2) := by decide +kernel
theorem d_Sto_copyFrom_20 : decode prog_7_method_5_code 20 = .ok (.invokestatic 27, 3) := by decide +kernel
theorem d_Sto_copyFrom_23 : decode prog_7_method_5_code 23 = .ok (.return_, 1) := by decide +kernel
theorem fs_5_15 : FS "SensorHub$Store" 15 5 0 := ⟨"SensorHub$Store", T_5, 2, rfl, by decide, rfl, gw_I 131 (by decide +kernel) rfl⟩
theorem fw_5_15 : FW "SensorHub$Store" 15 5 0 .int := ⟨"SensorHub$Store", T_5, 2, rfl, by decide, rfl, gw_I 131 (by decide +kernel) rfl, rfl, by decide +kernel⟩
theorem fs_5_9 : FS "SensorHub$Store" 9 5 1 := ⟨"SensorHub$Store", T_5, 2, rfl, by decide, rfl, gw_I 134 (by decide +kernel) rfl⟩
theorem cp_5_27 : CPY "SensorHub$Store" 27 := ⟨gw_I 427 (by decide +kernel) rfl, gw_I 417 (by decide +kernel) rfl, gw_I 416 (by decide +kernel) rfl, gw_I 80 (by decide +kernel) rfl⟩
def f_Sto_copyFrom (q : Nat) (q1 : Nat) (σ : Mem) : Option (Unit × Mem) :=
  lt (wr σ q 0 (σ q1 0)) fun σ1 =>
  lt (cpy σ1 (q1 + 1) (q + 1) 90) fun σ2 =>
  some ((), σ2)
set_option maxRecDepth 100000 in
set_option maxHeartbeats 4000000 in
theorem c_Sto_copyFrom {X : CX} (l : Launch) (q : Nat) (q1 : Nat) (hq : StoreOK X q) (hq1 : StoreOK X q1) (σ : Mem) : CT X l y_Sto_copyFrom prog_7_method_5_code 2 none 1 vU [.ref (xa X q), .ref (xa X q1)] σ (f_Sto_copyFrom q q1 σ) := by
  refine CT_of (by decide +kernel) (Nat.le_of_ble_eq_true rfl) ?_
  intro p e s m args below meth c F hlk hr
  have F : FR p s m args c prog_7_method_5_code 2 "SensorHub$Store" X := F
  show G X p l e (rmD 1) s m args below meth c 2 0 0 (QI X below args s vU) 0 [(0, .ref (xa X q)), (1, .ref (xa X q1))] [] σ _
  unfold f_Sto_copyFrom
  refine g_aload_n F d_Sto_copyFrom_0 0 rfl ?_
  refine g_aload_n F d_Sto_copyFrom_1 1 rfl ?_
  refine g_getI F fs_5_15 hq1.1 rfl d_Sto_copyFrom_2 ?_
  refine g_putI F fw_5_15 hq.1 rfl d_Sto_copyFrom_5 ?_
  refine g_ltM (fun σ1 _ => ?_)
  refine g_aload_n F d_Sto_copyFrom_8 1 rfl ?_
  refine g_getR F fs_5_9 hq1.1 rfl d_Sto_copyFrom_9 ?_
  refine g_iconst F (v := 0) d_Sto_copyFrom_12 (by decide) ?_
  refine g_aload_n F d_Sto_copyFrom_13 0 rfl ?_
  refine g_getR F fs_5_9 hq.1 rfl d_Sto_copyFrom_14 ?_
  refine g_iconst F (v := 0) d_Sto_copyFrom_17 (by decide) ?_
  refine g_bipush F (v := 90) d_Sto_copyFrom_18 (by decide) ?_
  refine g_copy F (n := 90) cp_5_27 hq1.2 hq.2 (by decide) ⟨Nat.le_of_ble_eq_true rfl, by decide⟩ d_Sto_copyFrom_20 ?_
  refine g_ltM (fun σ2 _ => ?_)
  exact g_vret F hlk hr d_Sto_copyFrom_23
def y_Sen_copyFrom : MethodName := ⟨"SensorHub$Sensor", "copyFrom", "(LSensorHub$Sensor;)V"⟩
theorem d_Sen_copyFrom_0 : decode prog_6_method_12_code 0 = .ok (.aload_n 0, 1) := by decide +kernel
theorem d_Sen_copyFrom_1 : decode prog_6_method_12_code 1 = .ok (.aload_n 1, 1) := by decide +kernel
theorem d_Sen_copyFrom_2 : decode prog_6_method_12_code 2 = .ok (.getfield 15, 3) := by decide +kernel
theorem d_Sen_copyFrom_5 : decode prog_6_method_12_code 5 = .ok (.putfield 15, 3) := by decide +kernel
theorem d_Sen_copyFrom_8 : decode prog_6_method_12_code 8 = .ok (.aload_n 0, 1) := by decide +kernel
theorem d_Sen_copyFrom_9 : decode prog_6_method_12_code 9 = .ok (.aload_n 1, 1) := by decide +kernel
theorem d_Sen_copyFrom_10 : decode prog_6_method_12_code 10 = .ok (.getfield 19, 3) := by decide +kernel
theorem d_Sen_copyFrom_13 : decode prog_6_method_12_code 13 = .ok (.putfield 19, 3) := by decide +kernel
theorem d_Sen_copyFrom_16 : decode prog_6_method_12_code 16 = .ok (.aload_n 0, 1) := by decide +kernel
theorem d_Sen_copyFrom_17 : decode prog_6_method_12_code 17 = .ok (.aload_n 1, 1) := by decide +kernel
theorem d_Sen_copyFrom_18 : decode prog_6_method_12_code 18 = .ok (.getfield 22, 3) := by decide +kernel
theorem d_Sen_copyFrom_21 : decode prog_6_method_12_code 21 = .ok (.putfield 22, 3) := by decide +kernel
theorem d_Sen_copyFrom_24 : decode prog_6_method_12_code 24 = .ok (.aload_n 0, 1) := by decide +kernel
theorem d_Sen_copyFrom_25 : decode prog_6_method_12_code 25 = .ok (.aload_n 1, 1) := by decide +kernel
theorem d_Sen_copyFrom_26 : decode prog_6_method_12_code 26 = .ok (.getfield 25, 3) := by decide +kernel
theorem d_Sen_copyFrom_29 : decode prog_6_method_12_code 29 = .ok (.putfield 25, 3) := by decide +kernel
theorem d_Sen_copyFrom_32 : decode prog_6_method_12_code 32 = .ok (.aload_n 0, 1) := by decide +kernel
theorem d_Sen_copyFrom_33 : decode prog_6_method_12_code 33 = .ok (.aload_n 1, 1) := by decide +kernel
theorem d_Sen_copyFrom_34 : decode prog_6_method_12_code 34 = .ok (.getfield 28, 3) := by decide +kernel
theorem d_Sen_copyFrom_37 : decode prog_6_method_12_code 37 = .ok (.putfield 28, 3) := by decide +kernel
theorem d_Sen_copyFrom_40 : decode prog_6_method_12_code 40 = .ok (.aload_n 0, 1) := by decide +kernel
theorem d_Sen_copyFrom_41 : decode prog_6_method_12_code 41 = .ok (.aload_n 1, 1) := by decide +kernel
theorem d_Sen_copyFrom_42 : decode prog_6_method_12_code 42 = .ok (.getfield 31, 3) := by decide +kernel
theorem d_Sen_copyFrom_45 : decode prog_6_method_12_code 45 = .ok (.putfield 31, 3) := by decide +kernel
theorem d_Sen_copyFrom_48 : decode prog_6_method_12_code 48 = .ok (.aload_n 0, 1) := by decide +kernel
theorem d_Sen_copyFrom_49 : decode prog_6_method_12_code 49 = .ok (.aload_n 1, 1) := by decide +kernel
theorem d_Sen_copyFrom_50 : decode prog_6_method_12_code 50 = .ok (.getfield 34, 3) := by decide +kernel
theorem d_Sen_copyFrom_53 : decode prog_6_method_12_code 53 = .ok (.putfield 34, 3) := by decide +kernel
theorem d_Sen_copyFrom_56 : decode prog_6_method_12_code 56 = .ok (.aload_n 0, 1) := by decide +kernel
theorem d_Sen_copyFrom_57 : decode prog_6_method_12_code 57 = .ok (.aload_n 1, 1) := by decide +kernel
theorem d_Sen_copyFrom_58 : decode prog_6_method_12_code 58 = .ok (.getfield 37, 3) := by decide +kernel
theorem d_Sen_copyFrom_61 : decode prog_6_method_12_code 61 = .ok (.putfield 37, 3) := by decide +kernel
theorem d_Sen_copyFrom_64 : decode prog_6_method_12_code 64 = .ok (.aload_n 0, 1) := by decide +kernel
theorem d_Sen_copyFrom_65 : decode prog_6_method_12_code 65 = .ok (.aload_n 1, 1) := by decide +kernel
theorem d_Sen_copyFrom_66 : decode prog_6_method_12_code 66 = .ok (.getfield 40, 3) := by decide +kernel
theorem d_Sen_copyFrom_69 : decode prog_6_method_12_code 69 = .ok (.putfield 40, 3) := by decide +kernel
theorem d_Sen_copyFrom_72 : decode prog_6_method_12_code 72 = .ok (.aload_n 0, 1) := by decide +kernel
theorem d_Sen_copyFrom_73 : decode prog_6_method_12_code 73 = .ok (.aload_n 1, 1) := by decide +kernel
theorem d_Sen_copyFrom_74 : decode prog_6_method_12_code 74 = .ok (.getfield 80, 3) := by decide +kernel
theorem d_Sen_copyFrom_77 : decode prog_6_method_12_code 77 = .ok (.putfield 80, 3) := by decide +kernel
theorem d_Sen_copyFrom_80 : decode prog_6_method_12_code 80 = .ok (.aload_n 0, 1) := by decide +kernel
theorem d_Sen_copyFrom_81 : decode prog_6_method_12_code 81 = .ok (.aload_n 1, 1) := by decide +kernel
theorem d_Sen_copyFrom_82 : decode prog_6_method_12_code 82 = .ok (.getfield 43, 3) := by decide +kernel
theorem d_Sen_copyFrom_85 : decode prog_6_method_12_code 85 = .ok (.putfield 43, 3) := by decide +kernel
theorem d_Sen_copyFrom_88 : decode prog_6_method_12_code 88 = .ok (.aload_n 0, 1) := by decide +kernel
theorem d_Sen_copyFrom_89 : decode prog_6_method_12_code 89 = .ok (.aload_n 1, 1) := by decide +kernel
theorem d_Sen_copyFrom_90 : decode prog_6_method_12_code 90 = .ok (.getfield 46, 3) := by decide +kernel
theorem d_Sen_copyFrom_93 : decode prog_6_method_12_code 93 = .ok (.putfield 46, 3) := by decide +kernel
theorem d_Sen_copyFrom_96 : decode prog_6_method_12_code 96 = .ok (.aload_n 0, 1) := by decide +kernel
theorem d_Sen_copyFrom_97 : decode prog_6_method_12_code 97 = .ok (.aload_n 1, 1) := by decide +kernel
theorem d_Sen_copyFrom_98 : decode prog_6_method_12_code 98 = .ok (.getfield 52, 3) := by decide +kernel
theorem d_Sen_copyFrom_101 : decode prog_6_method_12_code 101 = .ok (.putfield 52, 3) := by decide +kernel
theorem d_Sen_copyFrom_104 : decode prog_6_method_12_code 104 = .ok (.aload_n 0, 1) := by decide +kernel
theorem d_Sen_copyFrom_105 : decode prog_6_method_12_code 105 = .ok (.aload_n 1, 1) := by decide +kernel
theorem d_Sen_copyFrom_106 : decode prog_6_method_12_code 106 = .ok (.getfield 58, 3) := by decide +kernel
theorem d_Sen_copyFrom_109 : decode prog_6_method_12_code 109 = .ok (.putfield 58, 3) := by decide +kernel
theorem d_Sen_copyFrom_112 : decode prog_6_method_12_code 112 = .ok (.aload_n 0, 1) := by decide +kernel
theorem d_Sen_copyFrom_113 : decode prog_6_method_12_code 113 = .ok (.aload_n 1, 1) := by decide +kernel
theorem d_Sen_copyFrom_114 : decode prog_6_method_12_code 114 = .ok (.getfield 68, 3) := by decide +kernel
theorem d_Sen_copyFrom_117 : decode prog_6_method_12_code 117 = .ok (.putfield 68, 3) := by decide +kernel
theorem d_Sen_copyFrom_120 : decode prog_6_method_12_code 120 = .ok (.aload_n 0, 1) := by decide +kernel
theorem d_Sen_copyFrom_121 : decode prog_6_method_12_code 121 = .ok (.aload_n 1, 1) := by decide +kernel
theorem d_Sen_copyFrom_122 : decode prog_6_method_12_code 122 = .ok (.getfield 74, 3) := by decide +kernel
theorem d_Sen_copyFrom_125 : decode prog_6_method_12_code 125 = .ok (.putfield 74, 3) := by decide +kernel
theorem d_Sen_copyFrom_128 : decode prog_6_method_12_code 128 = .ok (.aload_n 0, 1) := by decide +kernel
theorem d_Sen_copyFrom_129 : decode prog_6_method_12_code 129 = .ok (.aload_n 1, 1) := by decide +kernel
theorem d_Sen_copyFrom_130 : decode prog_6_method_12_code 130 = .ok (.getfield 55, 3) := by decide +kernel
theorem d_Sen_copyFrom_133 : decode prog_6_method_12_code 133 = .ok (.putfield 55, 3) := by decide +kernel
theorem d_Sen_copyFrom_136 : decode prog_6_method_12_code 136 = .ok (.aload_n 1, 1) := by decide +kernel
theorem d_Sen_copyFrom_137 : decode prog_6_method_12_code 137 = .ok (.getfield 9, 3) := by decide +kernel
theorem d_Sen_copyFrom_140 : decode prog_6_method_12_code 140 = .ok (.iconst 0, 1) := by decide +kernel
theorem d_Sen_copyFrom_141 : decode prog_6_method_12_code 141 = .ok (.aload_n 0, 1) := by decide +kernel
theorem d_Sen_copyFrom_142 : decode prog_6_method_12_code 142 = .ok (.getfield 9, 3) := by decide +kernel
theorem d_Sen_copyFrom_145 : decode prog_6_method_12_code 145 = .ok (.iconst 0, 1) := by decide +kernel
theorem d_Sen_copyFrom_146 : decode prog_6_method_12_code 146 = .ok (.bipush 8, 2) := by decide +kernel
theorem d_Sen_copyFrom_148 : decode prog_6_method_12_code 148 = .ok (.invokestatic 83, 3) := by decide +kernel
theorem d_Sen_copyFrom_151 : decode prog_6_method_12_code 151 = .ok (.return_, 1) := by decide +kernel
theorem fs_4_15 : FS "SensorHub$Sensor" 15 4 0 := ⟨"SensorHub$Sensor", T_4, 18, rfl, by decide, rfl, gw_I 145 (by decide +kernel) rfl⟩
theorem fw_4_15 : FW "SensorHub$Sensor" 15 4 0 .int := ⟨"SensorHub$Sensor", T_4, 18, rfl, by decide, rfl, gw_I 145 (by decide +kernel) rfl, rfl, by decide +kernel⟩
theorem fs_4_19 : FS "SensorHub$Sensor" 19 4 1 := ⟨"SensorHub$Sensor", T_4, 18, rfl, by decide, rfl, gw_I 148 (by decide +kernel) rfl⟩
theorem fw_4_19 : FW "SensorHub$Sensor" 19 4 1 .int := ⟨"SensorHub$Sensor", T_4, 18, rfl, by decide, rfl, gw_I 148 (by decide +kernel) rfl, rfl, by decide +kernel⟩
theorem fs_4_22 : FS "SensorHub$Sensor" 22 4 2 := ⟨"SensorHub$Sensor", T_4, 18, rfl, by decide, rfl, gw_I 151 (by decide +kernel) rfl⟩
theorem fw_4_22 : FW "SensorHub$Sensor" 22 4 2 .int := ⟨"SensorHub$Sensor", T_4, 18, rfl, by decide, rfl, gw_I 151 (by decide +kernel) rfl, rfl, by decide +kernel⟩
theorem fs_4_25 : FS "SensorHub$Sensor" 25 4 3 := ⟨"SensorHub$Sensor", T_4, 18, rfl, by decide, rfl, gw_I 152 (by decide +kernel) rfl⟩
theorem fw_4_25 : FW "SensorHub$Sensor" 25 4 3 .int := ⟨"SensorHub$Sensor", T_4, 18, rfl, by decide, rfl, gw_I 152 (by decide +kernel) rfl, rfl, by decide +kernel⟩
theorem fs_4_28 : FS "SensorHub$Sensor" 28 4 4 := ⟨"SensorHub$Sensor", T_4, 18, rfl, by decide, rfl, gw_I 153 (by decide +kernel) rfl⟩
theorem fw_4_28 : FW "SensorHub$Sensor" 28 4 4 .int := ⟨"SensorHub$Sensor", T_4, 18, rfl, by decide, rfl, gw_I 153 (by decide +kernel) rfl, rfl, by decide +kernel⟩
theorem fs_4_31 : FS "SensorHub$Sensor" 31 4 5 := ⟨"SensorHub$Sensor", T_4, 18, rfl, by decide, rfl, gw_I 154 (by decide +kernel) rfl⟩
theorem fw_4_31 : FW "SensorHub$Sensor" 31 4 5 .int := ⟨"SensorHub$Sensor", T_4, 18, rfl, by decide, rfl, gw_I 154 (by decide +kernel) rfl, rfl, by decide +kernel⟩
theorem fs_4_34 : FS "SensorHub$Sensor" 34 4 6 := ⟨"SensorHub$Sensor", T_4, 18, rfl, by decide, rfl, gw_I 156 (by decide +kernel) rfl⟩
theorem fw_4_34 : FW "SensorHub$Sensor" 34 4 6 .int := ⟨"SensorHub$Sensor", T_4, 18, rfl, by decide, rfl, gw_I 156 (by decide +kernel) rfl, rfl, by decide +kernel⟩
theorem fs_4_37 : FS "SensorHub$Sensor" 37 4 7 := ⟨"SensorHub$Sensor", T_4, 18, rfl, by decide, rfl, gw_I 158 (by decide +kernel) rfl⟩
theorem fw_4_37 : FW "SensorHub$Sensor" 37 4 7 .int := ⟨"SensorHub$Sensor", T_4, 18, rfl, by decide, rfl, gw_I 158 (by decide +kernel) rfl, rfl, by decide +kernel⟩
theorem fs_4_40 : FS "SensorHub$Sensor" 40 4 8 := ⟨"SensorHub$Sensor", T_4, 18, rfl, by decide, rfl, gw_I 160 (by decide +kernel) rfl⟩
theorem fw_4_40 : FW "SensorHub$Sensor" 40 4 8 .int := ⟨"SensorHub$Sensor", T_4, 18, rfl, by decide, rfl, gw_I 160 (by decide +kernel) rfl, rfl, by decide +kernel⟩
theorem fs_4_80 : FS "SensorHub$Sensor" 80 4 9 := ⟨"SensorHub$Sensor", T_4, 18, rfl, by decide, rfl, gw_I 163 (by decide +kernel) rfl⟩
theorem fw_4_80 : FW "SensorHub$Sensor" 80 4 9 .int := ⟨"SensorHub$Sensor", T_4, 18, rfl, by decide, rfl, gw_I 163 (by decide +kernel) rfl, rfl, by decide +kernel⟩
theorem fs_4_43 : FS "SensorHub$Sensor" 43 4 10 := ⟨"SensorHub$Sensor", T_4, 18, rfl, by decide, rfl, gw_I 165 (by decide +kernel) rfl⟩
theorem fw_4_43 : FW "SensorHub$Sensor" 43 4 10 .int := ⟨"SensorHub$Sensor", T_4, 18, rfl, by decide, rfl, gw_I 165 (by decide +kernel) rfl, rfl, by decide +kernel⟩
theorem fs_4_46 : FS "SensorHub$Sensor" 46 4 11 := ⟨"SensorHub$Sensor", T_4, 18, rfl, by decide, rfl, gw_I 168 (by decide +kernel) rfl⟩
theorem fw_4_46 : FW "SensorHub$Sensor" 46 4 11 .int := ⟨"SensorHub$Sensor", T_4, 18, rfl, by decide, rfl, gw_I 168 (by decide +kernel) rfl, rfl, by decide +kernel⟩
theorem fs_4_52 : FS "SensorHub$Sensor" 52 4 12 := ⟨"SensorHub$Sensor", T_4, 18, rfl, by decide, rfl, gw_I 171 (by decide +kernel) rfl⟩
theorem fw_4_52 : FW "SensorHub$Sensor" 52 4 12 .int := ⟨"SensorHub$Sensor", T_4, 18, rfl, by decide, rfl, gw_I 171 (by decide +kernel) rfl, rfl, by decide +kernel⟩
theorem fs_4_58 : FS "SensorHub$Sensor" 58 4 13 := ⟨"SensorHub$Sensor", T_4, 18, rfl, by decide, rfl, gw_I 174 (by decide +kernel) rfl⟩
theorem fw_4_58 : FW "SensorHub$Sensor" 58 4 13 .boolean := ⟨"SensorHub$Sensor", T_4, 18, rfl, by decide, rfl, gw_I 174 (by decide +kernel) rfl, rfl, by decide +kernel⟩
theorem fs_4_68 : FS "SensorHub$Sensor" 68 4 14 := ⟨"SensorHub$Sensor", T_4, 18, rfl, by decide, rfl, gw_I 176 (by decide +kernel) rfl⟩
theorem fw_4_68 : FW "SensorHub$Sensor" 68 4 14 .int := ⟨"SensorHub$Sensor", T_4, 18, rfl, by decide, rfl, gw_I 176 (by decide +kernel) rfl, rfl, by decide +kernel⟩
theorem fs_4_74 : FS "SensorHub$Sensor" 74 4 15 := ⟨"SensorHub$Sensor", T_4, 18, rfl, by decide, rfl, gw_I 179 (by decide +kernel) rfl⟩
theorem fw_4_74 : FW "SensorHub$Sensor" 74 4 15 .int := ⟨"SensorHub$Sensor", T_4, 18, rfl, by decide, rfl, gw_I 179 (by decide +kernel) rfl, rfl, by decide +kernel⟩
theorem fs_4_55 : FS "SensorHub$Sensor" 55 4 16 := ⟨"SensorHub$Sensor", T_4, 18, rfl, by decide, rfl, gw_I 182 (by decide +kernel) rfl⟩
theorem fw_4_55 : FW "SensorHub$Sensor" 55 4 16 .int := ⟨"SensorHub$Sensor", T_4, 18, rfl, by decide, rfl, gw_I 182 (by decide +kernel) rfl, rfl, by decide +kernel⟩
theorem fs_4_9 : FS "SensorHub$Sensor" 9 4 17 := ⟨"SensorHub$Sensor", T_4, 18, rfl, by decide, rfl, gw_I 183 (by decide +kernel) rfl⟩
theorem cp_4_83 : CPY "SensorHub$Sensor" 83 := ⟨gw_I 436 (by decide +kernel) rfl, gw_I 417 (by decide +kernel) rfl, gw_I 416 (by decide +kernel) rfl, gw_I 80 (by decide +kernel) rfl⟩
def f_Sen_copyFrom (q : Nat) (q1 : Nat) (σ : Mem) : Option (Unit × Mem) :=
  lt (wr σ q 0 (σ q1 0)) fun σ1 =>
  lt (wr σ1 q 1 (σ1 q1 1)) fun σ2 =>
  lt (wr σ2 q 2 (σ2 q1 2)) fun σ3 =>
  lt (wr σ3 q 3 (σ3 q1 3)) fun σ4 =>
  lt (wr σ4 q 4 (σ4 q1 4)) fun σ5 =>
  lt (wr σ5 q 5 (σ5 q1 5)) fun σ6 =>
  lt (wr σ6 q 6 (σ6 q1 6)) fun σ7 =>
  lt (wr σ7 q 7 (σ7 q1 7)) fun σ8 =>
  lt (wr σ8 q 8 (σ8 q1 8)) fun σ9 =>
  lt (wr σ9 q 9 (σ9 q1 9)) fun σ10 =>
  lt (wr σ10 q 10 (σ10 q1 10)) fun σ11 =>
  lt (wr σ11 q 11 (σ11 q1 11)) fun σ12 =>
  lt (wr σ12 q 12 (σ12 q1 12)) fun σ13 =>
  if (σ13 q1 13) &&& 1 = σ13 q1 13 then
    lt (wr σ13 q 13 (σ13 q1 13)) fun σ14 =>
    lt (wr σ14 q 14 (σ14 q1 14)) fun σ15 =>
    lt (wr σ15 q 15 (σ15 q1 15)) fun σ16 =>
    lt (wr σ16 q 16 (σ16 q1 16)) fun σ17 =>
    lt (cpy σ17 (q1 + 1) (q + 1) 8) fun σ18 =>
    some ((), σ18)
  else none
set_option maxRecDepth 100000 in
set_option maxHeartbeats 4000000 in
theorem c_Sen_copyFrom {X : CX} (l : Launch) (q : Nat) (q1 : Nat) (hq : SensorOK X q) (hq1 : SensorOK X q1) (σ : Mem) : CT X l y_Sen_copyFrom prog_6_method_12_code 2 none 1 vU [.ref (xa X q), .ref (xa X q1)] σ (f_Sen_copyFrom q q1 σ) := by
  refine CT_of (by decide +kernel) (Nat.le_of_ble_eq_true rfl) ?_
  intro p e s m args below meth c F hlk hr
  have F : FR p s m args c prog_6_method_12_code 2 "SensorHub$Sensor" X := F
  show G X p l e (rmD 1) s m args below meth c 2 0 0 (QI X below args s vU) 0 [(0, .ref (xa X q)), (1, .ref (xa X q1))] [] σ _
  unfold f_Sen_copyFrom
  refine g_aload_n F d_Sen_copyFrom_0 0 rfl ?_
  refine g_aload_n F d_Sen_copyFrom_1 1 rfl ?_
  refine g_getI F fs_4_15 hq1.1 rfl d_Sen_copyFrom_2 ?_
  refine g_putI F fw_4_15 hq.1 rfl d_Sen_copyFrom_5 ?_
  refine g_ltM (fun σ1 _ => ?_)
  refine g_aload_n F d_Sen_copyFrom_8 0 rfl ?_
  refine g_aload_n F d_Sen_copyFrom_9 1 rfl ?_
  refine g_getI F fs_4_19 hq1.1 rfl d_Sen_copyFrom_10 ?_
  refine g_putI F fw_4_19 hq.1 rfl d_Sen_copyFrom_13 ?_
  refine g_ltM (fun σ2 _ => ?_)
  refine g_aload_n F d_Sen_copyFrom_16 0 rfl ?_
  refine g_aload_n F d_Sen_copyFrom_17 1 rfl ?_
  refine g_getI F fs_4_22 hq1.1 rfl d_Sen_copyFrom_18 ?_
  refine g_putI F fw_4_22 hq.1 rfl d_Sen_copyFrom_21 ?_
  refine g_ltM (fun σ3 _ => ?_)
  refine g_aload_n F d_Sen_copyFrom_24 0 rfl ?_
  refine g_aload_n F d_Sen_copyFrom_25 1 rfl ?_
  refine g_getI F fs_4_25 hq1.1 rfl d_Sen_copyFrom_26 ?_
  refine g_putI F fw_4_25 hq.1 rfl d_Sen_copyFrom_29 ?_
  refine g_ltM (fun σ4 _ => ?_)
  refine g_aload_n F d_Sen_copyFrom_32 0 rfl ?_
  refine g_aload_n F d_Sen_copyFrom_33 1 rfl ?_
  refine g_getI F fs_4_28 hq1.1 rfl d_Sen_copyFrom_34 ?_
  refine g_putI F fw_4_28 hq.1 rfl d_Sen_copyFrom_37 ?_
  refine g_ltM (fun σ5 _ => ?_)
  refine g_aload_n F d_Sen_copyFrom_40 0 rfl ?_
  refine g_aload_n F d_Sen_copyFrom_41 1 rfl ?_
  refine g_getI F fs_4_31 hq1.1 rfl d_Sen_copyFrom_42 ?_
  refine g_putI F fw_4_31 hq.1 rfl d_Sen_copyFrom_45 ?_
  refine g_ltM (fun σ6 _ => ?_)
  refine g_aload_n F d_Sen_copyFrom_48 0 rfl ?_
  refine g_aload_n F d_Sen_copyFrom_49 1 rfl ?_
  refine g_getI F fs_4_34 hq1.1 rfl d_Sen_copyFrom_50 ?_
  refine g_putI F fw_4_34 hq.1 rfl d_Sen_copyFrom_53 ?_
  refine g_ltM (fun σ7 _ => ?_)
  refine g_aload_n F d_Sen_copyFrom_56 0 rfl ?_
  refine g_aload_n F d_Sen_copyFrom_57 1 rfl ?_
  refine g_getI F fs_4_37 hq1.1 rfl d_Sen_copyFrom_58 ?_
  refine g_putI F fw_4_37 hq.1 rfl d_Sen_copyFrom_61 ?_
  refine g_ltM (fun σ8 _ => ?_)
  refine g_aload_n F d_Sen_copyFrom_64 0 rfl ?_
  refine g_aload_n F d_Sen_copyFrom_65 1 rfl ?_
  refine g_getI F fs_4_40 hq1.1 rfl d_Sen_copyFrom_66 ?_
  refine g_putI F fw_4_40 hq.1 rfl d_Sen_copyFrom_69 ?_
  refine g_ltM (fun σ9 _ => ?_)
  refine g_aload_n F d_Sen_copyFrom_72 0 rfl ?_
  refine g_aload_n F d_Sen_copyFrom_73 1 rfl ?_
  refine g_getI F fs_4_80 hq1.1 rfl d_Sen_copyFrom_74 ?_
  refine g_putI F fw_4_80 hq.1 rfl d_Sen_copyFrom_77 ?_
  refine g_ltM (fun σ10 _ => ?_)
  refine g_aload_n F d_Sen_copyFrom_80 0 rfl ?_
  refine g_aload_n F d_Sen_copyFrom_81 1 rfl ?_
  refine g_getI F fs_4_43 hq1.1 rfl d_Sen_copyFrom_82 ?_
  refine g_putI F fw_4_43 hq.1 rfl d_Sen_copyFrom_85 ?_
  refine g_ltM (fun σ11 _ => ?_)
  refine g_aload_n F d_Sen_copyFrom_88 0 rfl ?_
  refine g_aload_n F d_Sen_copyFrom_89 1 rfl ?_
  refine g_getI F fs_4_46 hq1.1 rfl d_Sen_copyFrom_90 ?_
  refine g_putI F fw_4_46 hq.1 rfl d_Sen_copyFrom_93 ?_
  refine g_ltM (fun σ12 _ => ?_)
  refine g_aload_n F d_Sen_copyFrom_96 0 rfl ?_
  refine g_aload_n F d_Sen_copyFrom_97 1 rfl ?_
  refine g_getI F fs_4_52 hq1.1 rfl d_Sen_copyFrom_98 ?_
  refine g_putI F fw_4_52 hq.1 rfl d_Sen_copyFrom_101 ?_
  refine g_ltM (fun σ13 _ => ?_)
  refine g_aload_n F d_Sen_copyFrom_104 0 rfl ?_
  refine g_aload_n F d_Sen_copyFrom_105 1 rfl ?_
  refine g_getI F fs_4_58 hq1.1 rfl d_Sen_copyFrom_106 ?_
  refine g_putZ F fw_4_58 hq.1 rfl d_Sen_copyFrom_109 ?_
  refine g_ltM (fun σ14 _ => ?_)
  refine g_aload_n F d_Sen_copyFrom_112 0 rfl ?_
  refine g_aload_n F d_Sen_copyFrom_113 1 rfl ?_
  refine g_getI F fs_4_68 hq1.1 rfl d_Sen_copyFrom_114 ?_
  refine g_putI F fw_4_68 hq.1 rfl d_Sen_copyFrom_117 ?_
  refine g_ltM (fun σ15 _ => ?_)
  refine g_aload_n F d_Sen_copyFrom_120 0 rfl ?_
  refine g_aload_n F d_Sen_copyFrom_121 1 rfl ?_
  refine g_getI F fs_4_74 hq1.1 rfl d_Sen_copyFrom_122 ?_
  refine g_putI F fw_4_74 hq.1 rfl d_Sen_copyFrom_125 ?_
  refine g_ltM (fun σ16 _ => ?_)
  refine g_aload_n F d_Sen_copyFrom_128 0 rfl ?_
  refine g_aload_n F d_Sen_copyFrom_129 1 rfl ?_
  refine g_getI F fs_4_55 hq1.1 rfl d_Sen_copyFrom_130 ?_
  refine g_putI F fw_4_55 hq.1 rfl d_Sen_copyFrom_133 ?_
  refine g_ltM (fun σ17 _ => ?_)
  refine g_aload_n F d_Sen_copyFrom_136 1 rfl ?_
  refine g_getR F fs_4_9 hq1.1 rfl d_Sen_copyFrom_137 ?_
  refine g_iconst F (v := 0) d_Sen_copyFrom_140 (by decide) ?_
  refine g_aload_n F d_Sen_copyFrom_141 0 rfl ?_
  refine g_getR F fs_4_9 hq.1 rfl d_Sen_copyFrom_142 ?_
  refine g_iconst F (v := 0) d_Sen_copyFrom_145 (by decide) ?_
  refine g_bipush F (v := 8) d_Sen_copyFrom_146 (by decide) ?_
  refine g_copy F (n := 8) cp_4_83 hq1.2 hq.2 (by decide) ⟨Nat.le_of_ble_eq_true rfl, by decide⟩ d_Sen_copyFrom_148 ?_
  refine g_ltM (fun σ18 _ => ?_)
  exact g_vret F hlk hr d_Sen_copyFrom_151
def y_Sen_becomePhysical : MethodName := ⟨"SensorHub$Sensor", "becomePhysical", "(IIIIII)V"⟩
theorem d_Sen_becomePhysical_0 : decode prog_6_method_2_code 0 = .ok (.aload_n 0, 1) := by decide +kernel
theorem d_Sen_becomePhysical_1 : decode prog_6_method_2_code 1 = .ok (.iconst 4, 1) := by decide +kernel
theorem d_Sen_becomePhysical_2 : decode prog_6_method_2_code 2 = .ok (.putfield 15, 3) := by decide +kernel
theorem d_Sen_becomePhysical_5 : decode prog_6_method_2_code 5 = .ok (.aload_n 0, 1) := by decide +kernel
theorem d_Sen_becomePhysical_6 : decode prog_6_method_2_code 6 = .ok (.iload_n 1, 1) := by decide +kernel
theorem d_Sen_becomePhysical_7 : decode prog_6_method_2_code 7 = .ok (.putfield 19, 3) := by decide +kernel
theorem d_Sen_becomePhysical_10 : decode prog_6_method_2_code 10 = .ok (.aload_n 0, 1) := by decide +kernel
theorem d_Sen_becomePhysical_11 : decode prog_6_method_2_code 11 = .ok (.iload_n 2, 1) := by decide +kernel
theorem d_Sen_becomePhysical_12 : decode prog_6_method_2_code 12 = .ok (.putfield 22, 3) := by decide +kernel
theorem d_Sen_becomePhysical_15 : decode prog_6_method_2_code 15 = .ok (.aload_n 0, 1) := by decide +kernel
theorem d_Sen_becomePhysical_16 : decode prog_6_method_2_code 16 = .ok (.iload_n 3, 1) := by decide +kernel
theorem d_Sen_becomePhysical_17 : decode prog_6_method_2_code 17 = .ok (.putfield 25, 3) := by decide +kernel
theorem d_Sen_becomePhysical_20 : decode prog_6_method_2_code 20 = .ok (.aload_n 0, 1) := by decide +kernel
theorem d_Sen_becomePhysical_21 : decode prog_6_method_2_code 21 = .ok (.iload 4, 2) := by decide +kernel
theorem d_Sen_becomePhysical_23 : decode prog_6_method_2_code 23 = .ok (.putfield 28, 3) := by decide +kernel
theorem d_Sen_becomePhysical_26 : decode prog_6_method_2_code 26 = .ok (.aload_n 0, 1) := by decide +kernel
theorem d_Sen_becomePhysical_27 : decode prog_6_method_2_code 27 = .ok (.iload 5, 2) := by decide +kernel
theorem d_Sen_becomePhysical_29 : decode prog_6_method_2_code 29 = .ok (.putfield 31, 3) := by decide +kernel
theorem d_Sen_becomePhysical_32 : decode prog_6_method_2_code 32 = .ok (.aload_n 0, 1) := by decide +kernel
theorem d_Sen_becomePhysical_33 : decode prog_6_method_2_code 33 = .ok (.iload 6, 2) := by decide +kernel
theorem d_Sen_becomePhysical_35 : decode prog_6_method_2_code 35 = .ok (.putfield 34, 3) := by decide +kernel
theorem d_Sen_becomePhysical_38 : decode prog_6_method_2_code 38 = .ok (.return_, 1) := by decide +kernel
def f_Sen_becomePhysical (q : Nat) (p1 : Int32) (p2 : Int32) (p3 : Int32) (p4 : Int32) (p5 : Int32) (p6 : Int32) (σ : Mem) : Option (Unit × Mem) :=
  lt (wr σ q 0 (4 : Int32)) fun σ1 =>
  lt (wr σ1 q 1 p1) fun σ2 =>
  lt (wr σ2 q 2 p2) fun σ3 =>
  lt (wr σ3 q 3 p3) fun σ4 =>
  lt (wr σ4 q 4 p4) fun σ5 =>
  lt (wr σ5 q 5 p5) fun σ6 =>
  lt (wr σ6 q 6 p6) fun σ7 =>
  some ((), σ7)
set_option maxRecDepth 100000 in
set_option maxHeartbeats 4000000 in
theorem c_Sen_becomePhysical {X : CX} (l : Launch) (q : Nat) (p1 : Int32) (p2 : Int32) (p3 : Int32) (p4 : Int32) (p5 : Int32) (p6 : Int32) (hq : SensorOK X q) (σ : Mem) : CT X l y_Sen_becomePhysical prog_6_method_2_code 7 none 0 vU [.ref (xa X q), .int p1, .int p2, .int p3, .int p4, .int p5, .int p6] σ (f_Sen_becomePhysical q p1 p2 p3 p4 p5 p6 σ) := by
  refine CT_of (by decide +kernel) (Nat.le_of_ble_eq_true rfl) ?_
  intro p e s m args below meth c F hlk hr
  have F : FR p s m args c prog_6_method_2_code 7 "SensorHub$Sensor" X := F
  show G X p l e (rmD 0) s m args below meth c 7 0 0 (QI X below args s vU) 0 [(0, .ref (xa X q)), (1, .int p1), (2, .int p2), (3, .int p3), (4, .int p4), (5, .int p5), (6, .int p6)] [] σ _
  unfold f_Sen_becomePhysical
  refine g_aload_n F d_Sen_becomePhysical_0 0 rfl ?_
  refine g_iconst F (v := 4) d_Sen_becomePhysical_1 (by decide) ?_
  refine g_putI F fw_4_15 hq.1 rfl d_Sen_becomePhysical_2 ?_
  refine g_ltM (fun σ1 _ => ?_)
  refine g_aload_n F d_Sen_becomePhysical_5 0 rfl ?_
  refine g_iload_n F d_Sen_becomePhysical_6 1 rfl ?_
  refine g_putI F fw_4_19 hq.1 rfl d_Sen_becomePhysical_7 ?_
  refine g_ltM (fun σ2 _ => ?_)
  refine g_aload_n F d_Sen_becomePhysical_10 0 rfl ?_
  refine g_iload_n F d_Sen_becomePhysical_11 2 rfl ?_
  refine g_putI F fw_4_22 hq.1 rfl d_Sen_becomePhysical_12 ?_
  refine g_ltM (fun σ3 _ => ?_)
  refine g_aload_n F d_Sen_becomePhysical_15 0 rfl ?_
  refine g_iload_n F d_Sen_becomePhysical_16 3 rfl ?_
  refine g_putI F fw_4_25 hq.1 rfl d_Sen_becomePhysical_17 ?_
  refine g_ltM (fun σ4 _ => ?_)
  refine g_aload_n F d_Sen_becomePhysical_20 0 rfl ?_
  refine g_iload F d_Sen_becomePhysical_21 4 rfl ?_
  refine g_putI F fw_4_28 hq.1 rfl d_Sen_becomePhysical_23 ?_
  refine g_ltM (fun σ5 _ => ?_)
  refine g_aload_n F d_Sen_becomePhysical_26 0 rfl ?_
  refine g_iload F d_Sen_becomePhysical_27 5 rfl ?_
  refine g_putI F fw_4_31 hq.1 rfl d_Sen_becomePhysical_29 ?_
  refine g_ltM (fun σ6 _ => ?_)
  refine g_aload_n F d_Sen_becomePhysical_32 0 rfl ?_
  refine g_iload F d_Sen_becomePhysical_33 6 rfl ?_
  refine g_putI F fw_4_34 hq.1 rfl d_Sen_becomePhysical_35 ?_
  refine g_ltM (fun σ7 _ => ?_)
  exact g_vret F hlk hr d_Sen_becomePhysical_38
def y_Sen_forget : MethodName := ⟨"SensorHub$Sensor", "forget", "()V"⟩
theorem d_Sen_forget_0 : decode prog_6_method_5_code 0 = .ok (.aload_n 0, 1) := by decide +kernel
theorem d_Sen_forget_1 : decode prog_6_method_5_code 1 = .ok (.iconst 0, 1) := by decide +kernel
theorem d_Sen_forget_2 : decode prog_6_method_5_code 2 = .ok (.putfield 52, 3) := by decide +kernel
theorem d_Sen_forget_5 : decode prog_6_method_5_code 5 = .ok (.aload_n 0, 1) := by decide +kernel
theorem d_Sen_forget_6 : decode prog_6_method_5_code 6 = .ok (.iconst 0, 1) := by decide +kernel
theorem d_Sen_forget_7 : decode prog_6_method_5_code 7 = .ok (.putfield 55, 3) := by decide +kernel
theorem d_Sen_forget_10 : decode prog_6_method_5_code 10 = .ok (.aload_n 0, 1) := by decide +kernel
theorem d_Sen_forget_11 : decode prog_6_method_5_code 11 = .ok (.iconst 0, 1) := by decide +kernel
theorem d_Sen_forget_12 : decode prog_6_method_5_code 12 = .ok (.putfield 58, 3) := by decide +kernel
theorem d_Sen_forget_15 : decode prog_6_method_5_code 15 = .ok (.return_, 1) := by decide +kernel
def f_Sen_forget (q : Nat) (σ : Mem) : Option (Unit × Mem) :=
  lt (wr σ q 12 (0 : Int32)) fun σ1 =>
  lt (wr σ1 q 16 (0 : Int32)) fun σ2 =>
  lt (wr σ2 q 13 (0 : Int32)) fun σ3 =>
  some ((), σ3)
set_option maxRecDepth 100000 in
set_option maxHeartbeats 4000000 in
theorem c_Sen_forget {X : CX} (l : Launch) (q : Nat) (hq : SensorOK X q) (σ : Mem) : CT X l y_Sen_forget prog_6_method_5_code 1 none 0 vU [.ref (xa X q)] σ (f_Sen_forget q σ) := by
  refine CT_of (by decide +kernel) (Nat.le_of_ble_eq_true rfl) ?_
  intro p e s m args below meth c F hlk hr
  have F : FR p s m args c prog_6_method_5_code 1 "SensorHub$Sensor" X := F
  show G X p l e (rmD 0) s m args below meth c 1 0 0 (QI X below args s vU) 0 [(0, .ref (xa X q))] [] σ _
  unfold f_Sen_forget
  refine g_aload_n F d_Sen_forget_0 0 rfl ?_
  refine g_iconst F (v := 0) d_Sen_forget_1 (by decide) ?_
  refine g_putI F fw_4_52 hq.1 rfl d_Sen_forget_2 ?_
  refine g_ltM (fun σ1 _ => ?_)
  refine g_aload_n F d_Sen_forget_5 0 rfl ?_
  refine g_iconst F (v := 0) d_Sen_forget_6 (by decide) ?_
  refine g_putI F fw_4_55 hq.1 rfl d_Sen_forget_7 ?_
  refine g_ltM (fun σ2 _ => ?_)
  refine g_aload_n F d_Sen_forget_10 0 rfl ?_
  refine g_iconst F (v := 0) d_Sen_forget_11 (by decide) ?_
  refine g_pt (q := (0 : Int32) &&& 1 = (0 : Int32)) (by decide) (g_putZ F fw_4_58 hq.1 rfl d_Sen_forget_12 ?_)
  refine g_ltM (fun σ3 _ => ?_)
  exact g_vret F hlk hr d_Sen_forget_15
def y_Sen_becomeIdle : MethodName := ⟨"SensorHub$Sensor", "becomeIdle", "()V"⟩
theorem d_Sen_becomeIdle_0 : decode prog_6_method_4_code 0 = .ok (.aload_n 0, 1) := by decide +kernel
theorem d_Sen_becomeIdle_1 : decode prog_6_method_4_code 1 = .ok (.bipush (-9), 2) := by decide +kernel
theorem d_Sen_becomeIdle_3 : decode prog_6_method_4_code 3 = .ok (.putfield 43, 3) := by decide +kernel
theorem d_Sen_becomeIdle_6 : decode prog_6_method_4_code 6 = .ok (.aload_n 0, 1) := by decide +kernel
theorem d_Sen_becomeIdle_7 : decode prog_6_method_4_code 7 = .ok (.bipush (-9), 2) := by decide +kernel
theorem d_Sen_becomeIdle_9 : decode prog_6_method_4_code 9 = .ok (.putfield 46, 3) := by decide +kernel
theorem d_Sen_becomeIdle_12 : decode prog_6_method_4_code 12 = .ok (.aload_n 0, 1) := by decide +kernel
theorem d_Sen_becomeIdle_13 : decode prog_6_method_4_code 13 = .ok (.invokevirtual 49, 3) := by decide +kernel
theorem d_Sen_becomeIdle_16 : decode prog_6_method_4_code 16 = .ok (.return_, 1) := by decide +kernel
theorem cv_4_49 : CSV "SensorHub$Sensor" 49 y_Sen_forget prog_6_method_5_code 1 none 0 := ⟨gw_I 455 (by decide +kernel) rfl, gw_I 456 (by decide +kernel) rfl, gw_I 457 (by decide +kernel) rfl, gw_I 74 (by decide +kernel) rfl, gw_I 458 (by decide +kernel) rfl, ⟨by decide +kernel, by decide +kernel⟩, by decide +kernel⟩
def f_Sen_becomeIdle (q : Nat) (σ : Mem) : Option (Unit × Mem) :=
  lt (wr σ q 10 (-9 : Int32)) fun σ1 =>
  lt (wr σ1 q 11 (-9 : Int32)) fun σ2 =>
  bd (f_Sen_forget q σ2) fun _ σ4 =>
  some ((), σ4)
set_option maxRecDepth 100000 in
set_option maxHeartbeats 4000000 in
theorem c_Sen_becomeIdle {X : CX} (l : Launch) (q : Nat) (hq : SensorOK X q) (σ : Mem) : CT X l y_Sen_becomeIdle prog_6_method_4_code 1 none 1 vU [.ref (xa X q)] σ (f_Sen_becomeIdle q σ) := by
  refine CT_of (by decide +kernel) (Nat.le_of_ble_eq_true rfl) ?_
  intro p e s m args below meth c F hlk hr
  have F : FR p s m args c prog_6_method_4_code 1 "SensorHub$Sensor" X := F
  show G X p l e (rmD 1) s m args below meth c 1 0 0 (QI X below args s vU) 0 [(0, .ref (xa X q))] [] σ _
  unfold f_Sen_becomeIdle
  refine g_aload_n F d_Sen_becomeIdle_0 0 rfl ?_
  refine g_bipush F (v := (-9)) d_Sen_becomeIdle_1 (by decide) ?_
  refine g_putI F fw_4_43 hq.1 rfl d_Sen_becomeIdle_3 ?_
  refine g_ltM (fun σ1 _ => ?_)
  refine g_aload_n F d_Sen_becomeIdle_6 0 rfl ?_
  refine g_bipush F (v := (-9)) d_Sen_becomeIdle_7 (by decide) ?_
  refine g_putI F fw_4_46 hq.1 rfl d_Sen_becomeIdle_9 ?_
  refine g_ltM (fun σ2 _ => ?_)
  refine g_aload_n F d_Sen_becomeIdle_12 0 rfl ?_
  refine g_callV F (dp := 0) (ci := 4) (As := []) (c_Sen_forget l _ hq _) cv_4_49 hq.1 rfl rfl rfl (Nat.le_of_ble_eq_true rfl) ⟨Nat.le_of_ble_eq_true rfl, Nat.le_of_ble_eq_true rfl⟩ ⟨Nat.zero_le _, Nat.zero_le _⟩ d_Sen_becomeIdle_13 (fun _ σ4 h1 => ?_)
  exact g_vret F hlk hr d_Sen_becomeIdle_16
def y_Sen_becomeComputed : MethodName := ⟨"SensorHub$Sensor", "becomeComputed", "(III)V"⟩
theorem d_Sen_becomeComputed_0 : decode prog_6_method_3_code 0 = .ok (.aload_n 0, 1) := by decide +kernel
theorem d_Sen_becomeComputed_1 : decode prog_6_method_3_code 1 = .ok (.iload_n 1, 1) := by decide +kernel
theorem d_Sen_becomeComputed_2 : decode prog_6_method_3_code 2 = .ok (.putfield 15, 3) := by decide +kernel
theorem d_Sen_becomeComputed_5 : decode prog_6_method_3_code 5 = .ok (.aload_n 0, 1) := by decide +kernel
theorem d_Sen_becomeComputed_6 : decode prog_6_method_3_code 6 = .ok (.iload_n 2, 1) := by decide +kernel
theorem d_Sen_becomeComputed_7 : decode prog_6_method_3_code 7 = .ok (.putfield 37, 3) := by decide +kernel
theorem d_Sen_becomeComputed_10 : decode prog_6_method_3_code 10 = .ok (.aload_n 0, 1) := by decide +kernel
theorem d_Sen_becomeComputed_11 : decode prog_6_method_3_code 11 = .ok (.iload_n 3, 1) := by decide +kernel
theorem d_Sen_becomeComputed_12 : decode prog_6_method_3_code 12 = .ok (.putfield 40, 3) := by decide +kernel
theorem d_Sen_becomeComputed_15 : decode prog_6_method_3_code 15 = .ok (.return_, 1) := by decide +kernel
def f_Sen_becomeComputed (q : Nat) (p1 : Int32) (p2 : Int32) (p3 : Int32) (σ : Mem) : Option (Unit × Mem) :=
  lt (wr σ q 0 p1) fun σ1 =>
  lt (wr σ1 q 7 p2) fun σ2 =>
  lt (wr σ2 q 8 p3) fun σ3 =>
  some ((), σ3)
set_option maxRecDepth 100000 in
set_option maxHeartbeats 4000000 in
theorem c_Sen_becomeComputed {X : CX} (l : Launch) (q : Nat) (p1 : Int32) (p2 : Int32) (p3 : Int32) (hq : SensorOK X q) (σ : Mem) : CT X l y_Sen_becomeComputed prog_6_method_3_code 4 none 0 vU [.ref (xa X q), .int p1, .int p2, .int p3] σ (f_Sen_becomeComputed q p1 p2 p3 σ) := by
  refine CT_of (by decide +kernel) (Nat.le_of_ble_eq_true rfl) ?_
  intro p e s m args below meth c F hlk hr
  have F : FR p s m args c prog_6_method_3_code 4 "SensorHub$Sensor" X := F
  show G X p l e (rmD 0) s m args below meth c 4 0 0 (QI X below args s vU) 0 [(0, .ref (xa X q)), (1, .int p1), (2, .int p2), (3, .int p3)] [] σ _
  unfold f_Sen_becomeComputed
  refine g_aload_n F d_Sen_becomeComputed_0 0 rfl ?_
  refine g_iload_n F d_Sen_becomeComputed_1 1 rfl ?_
  refine g_putI F fw_4_15 hq.1 rfl d_Sen_becomeComputed_2 ?_
  refine g_ltM (fun σ1 _ => ?_)
  refine g_aload_n F d_Sen_becomeComputed_5 0 rfl ?_
  refine g_iload_n F d_Sen_becomeComputed_6 2 rfl ?_
  refine g_putI F fw_4_37 hq.1 rfl d_Sen_becomeComputed_7 ?_
  refine g_ltM (fun σ2 _ => ?_)
  refine g_aload_n F d_Sen_becomeComputed_10 0 rfl ?_
  refine g_iload_n F d_Sen_becomeComputed_11 3 rfl ?_
  refine g_putI F fw_4_40 hq.1 rfl d_Sen_becomeComputed_12 ?_
  refine g_ltM (fun σ3 _ => ?_)
  exact g_vret F hlk hr d_Sen_becomeComputed_15
def y_Sen_demandAtMost : MethodName := ⟨"SensorHub$Sensor", "demandAtMost", "(I)V"⟩
theorem d_Sen_demandAtMost_0 : decode prog_6_method_6_code 0 = .ok (.aload_n 0, 1) := by decide +kernel
theorem d_Sen_demandAtMost_1 : decode prog_6_method_6_code 1 = .ok (.getfield 43, 3) := by decide +kernel
theorem d_Sen_demandAtMost_4 : decode prog_6_method_6_code 4 = .ok (.bipush (-9), 2) := by decide +kernel
theorem d_Sen_demandAtMost_6 : decode prog_6_method_6_code 6 = .ok (.if_icmp .eq 11, 3) := by decide +kernel
theorem d_Sen_demandAtMost_9 : decode prog_6_method_6_code 9 = .ok (.aload_n 0, 1) := by decide +kernel
theorem d_Sen_demandAtMost_10 : decode prog_6_method_6_code 10 = .ok (.getfield 43, 3) := by decide +kernel
theorem d_Sen_demandAtMost_13 : decode prog_6_method_6_code 13 = .ok (.iload_n 1, 1) := by decide +kernel
theorem d_Sen_demandAtMost_14 : decode prog_6_method_6_code 14 = .ok (.if_icmp .le 8, 3) := by decide +kernel
theorem d_Sen_demandAtMost_17 : decode prog_6_method_6_code 17 = .ok (.aload_n 0, 1) := by decide +kernel
theorem d_Sen_demandAtMost_18 : decode prog_6_method_6_code 18 = .ok (.iload_n 1, 1) := by decide +kernel
theorem d_Sen_demandAtMost_19 : decode prog_6_method_6_code 19 = .ok (.putfield 43, 3) := by decide +kernel
theorem d_Sen_demandAtMost_22 : decode prog_6_method_6_code 22 = .ok (.return_, 1) := by decide +kernel
def f_Sen_demandAtMost (q : Nat) (p1 : Int32) (σ : Mem) : Option (Unit × Mem) :=
  if (σ q 10) = (-9 : Int32) then
    lt (wr σ q 10 p1) fun σ1 =>
    some ((), σ1)
  else
    if (σ q 10) ≤ p1 then
      some ((), σ)
    else
      lt (wr σ q 10 p1) fun σ2 =>
      some ((), σ2)
set_option maxRecDepth 100000 in
set_option maxHeartbeats 4000000 in
theorem c_Sen_demandAtMost {X : CX} (l : Launch) (q : Nat) (p1 : Int32) (hq : SensorOK X q) (σ : Mem) : CT X l y_Sen_demandAtMost prog_6_method_6_code 2 none 0 vU [.ref (xa X q), .int p1] σ (f_Sen_demandAtMost q p1 σ) := by
  refine CT_of (by decide +kernel) (Nat.le_of_ble_eq_true rfl) ?_
  intro p e s m args below meth c F hlk hr
  have F : FR p s m args c prog_6_method_6_code 2 "SensorHub$Sensor" X := F
  show G X p l e (rmD 0) s m args below meth c 2 0 0 (QI X below args s vU) 0 [(0, .ref (xa X q)), (1, .int p1)] [] σ _
  unfold f_Sen_demandAtMost
  refine g_aload_n F d_Sen_demandAtMost_0 0 rfl ?_
  refine g_getI F fs_4_43 hq.1 rfl d_Sen_demandAtMost_1 ?_
  refine g_bipush F (v := (-9)) d_Sen_demandAtMost_4 (by decide) ?_
  refine g_icmp_eq F (tgt := 17) d_Sen_demandAtMost_6 (by decide) (fun h1 => ?_) (fun h2 => ?_)
  · refine g_aload_n F d_Sen_demandAtMost_17 0 rfl ?_
    refine g_iload_n F d_Sen_demandAtMost_18 1 rfl ?_
    refine g_putI F fw_4_43 hq.1 rfl d_Sen_demandAtMost_19 ?_
    refine g_ltM (fun σ1 _ => ?_)
    exact g_vret F hlk hr d_Sen_demandAtMost_22
  refine g_aload_n F d_Sen_demandAtMost_9 0 rfl ?_
  refine g_getI F fs_4_43 hq.1 rfl d_Sen_demandAtMost_10 ?_
  refine g_iload_n F d_Sen_demandAtMost_13 1 rfl ?_
  refine g_icmp_le F (tgt := 22) d_Sen_demandAtMost_14 (by decide) (fun h3 => ?_) (fun h4 => ?_)
  · exact g_vret F hlk hr d_Sen_demandAtMost_22
  refine g_aload_n F d_Sen_demandAtMost_17 0 rfl ?_
  refine g_iload_n F d_Sen_demandAtMost_18 1 rfl ?_
  refine g_putI F fw_4_43 hq.1 rfl d_Sen_demandAtMost_19 ?_
  refine g_ltM (fun σ2 _ => ?_)
  exact g_vret F hlk hr d_Sen_demandAtMost_22
def y_Sen_greatestSupported : MethodName := ⟨"SensorHub$Sensor", "greatestSupported", "()I"⟩
theorem d_Sen_greatestSupported_0 : decode prog_6_method_7_code 0 = .ok (.aload_n 0, 1) := by decide +kernel
theorem d_Sen_greatestSupported_1 : decode prog_6_method_7_code 1 = .ok (.getfield 19, 3) := by decide +kernel
theorem d_Sen_greatestSupported_4 : decode prog_6_method_7_code 4 = .ok (.istore_n 1, 1) := by decide +kernel
theorem d_Sen_greatestSupported_5 : decode prog_6_method_7_code 5 = .ok (.iconst 1, 1) := by decide +kernel
theorem d_Sen_greatestSupported_6 : decode prog_6_method_7_code 6 = .ok (.istore_n 2, 1) := by decide +kernel
theorem d_Sen_greatestSupported_7 : decode prog_6_method_7_code 7 = .ok (.iload_n 2, 1) := by decide +kernel
theorem d_Sen_greatestSupported_8 : decode prog_6_method_7_code 8 = .ok (.aload_n 0, 1) := by decide +kernel
theorem d_Sen_greatestSupported_9 : decode prog_6_method_7_code 9 = .ok (.getfield 22, 3) := by decide +kernel
theorem d_Sen_greatestSupported_12 : decode prog_6_method_7_code 12 = .ok (.if_icmp .ge 23, 3) := by decide +kernel
theorem d_Sen_greatestSupported_15 : decode prog_6_method_7_code 15 = .ok (.iconst 2, 1) := by decide +kernel
theorem d_Sen_greatestSupported_16 : decode prog_6_method_7_code 16 = .ok (.iload_n 1, 1) := by decide +kernel
theorem d_Sen_greatestSupported_17 : decode prog_6_method_7_code 17 = .ok (.imul, 1) := by decide +kernel
theorem d_Sen_greatestSupported_18 : decode prog_6_method_7_code 18 = .ok (.aload_n 0, 1) := by decide +kernel
theorem d_Sen_greatestSupported_19 : decode prog_6_method_7_code 19 = .ok (.getfield 43, 3) := by decide +kernel
theorem d_Sen_greatestSupported_22 : decode prog_6_method_7_code 22 = .ok (.if_icmp .gt 13, 3) := by decide +kernel
theorem d_Sen_greatestSupported_25 : decode prog_6_method_7_code 25 = .ok (.iconst 2, 1) := by decide +kernel
theorem d_Sen_greatestSupported_26 : decode prog_6_method_7_code 26 = .ok (.iload_n 1, 1) := by decide +kernel
theorem d_Sen_greatestSupported_27 : decode prog_6_method_7_code 27 = .ok (.imul, 1) := by decide +kernel
theorem d_Sen_greatestSupported_28 : decode prog_6_method_7_code 28 = .ok (.istore_n 1, 1) := by decide +kernel
theorem d_Sen_greatestSupported_29 : decode prog_6_method_7_code 29 = .ok (.iinc 2 1, 3) := by decide +kernel
theorem d_Sen_greatestSupported_32 : decode prog_6_method_7_code 32 = .ok (.goto (-25), 3) := by decide +kernel
theorem d_Sen_greatestSupported_35 : decode prog_6_method_7_code 35 = .ok (.iload_n 1, 1) := by decide +kernel
theorem d_Sen_greatestSupported_36 : decode prog_6_method_7_code 36 = .ok (.ireturn, 1) := by decide +kernel
def L_Sen_greatestSupported_7 (r0 : Nat) (k : Int32 → Mem → Option (Int32 × Mem)) : Nat → Int32 → Int32 → Mem → Option (Int32 × Mem)
  | 0, _, _, _ => none
  | n + 1, x1, x2, σ =>
    if (σ r0 2) ≤ x2 then
      k x1 σ
    else
      if (σ r0 10) < ((2 : Int32) * x1) then
        k x1 σ
      else
        lt ((2 : Int32) * x1) fun v2 =>
        L_Sen_greatestSupported_7 r0 k n v2 (x2 + 1) σ
def f_Sen_greatestSupported (q : Nat) (σ : Mem) : Option (Int32 × Mem) :=
  lt (σ q 1) fun v1 =>
  L_Sen_greatestSupported_7 q (fun z3 σ4 =>
    some (z3, σ4)) FU v1 (1 : Int32) σ
set_option maxRecDepth 100000 in
set_option maxHeartbeats 4000000 in
theorem l_L_Sen_greatestSupported_7 {X : CX} {p : Program} {l : Launch} {e : Env} {s : State} {m : MethodId} {args : Array Value} {below : List Frame} {meth : Method} {c : Code} (F : FR p s m args c prog_6_method_7_code 3 "SensorHub$Sensor" X) (hlk : meth.locks = false) (hr : meth.sig.returnType = some .int) (r0 : Nat) (hr0 : SensorOK X r0) (k : Int32 → Mem → Option (Int32 × Mem)) (hk : ∀ (x1 : Int32) (σ : Mem), G X p l e (rmD 0) s m args below meth c 3 0 0 (QI X below args s vI) 35 [(1, .int x1)] [] σ (k x1 σ)) : ∀ (n : Nat) (x1 : Int32) (x2 : Int32) (σ : Mem), G X p l e (rmD 0) s m args below meth c 3 0 0 (QI X below args s vI) 7 [(0, .ref (xa X r0)), (1, .int x1), (2, .int x2)] [] σ (L_Sen_greatestSupported_7 r0 k n x1 x2 σ) := by
  intro n
  induction n with
  | zero => intros; exact g_no
  | succ n ih =>
    intro x1 x2 σ
    unfold L_Sen_greatestSupported_7
    refine g_iload_n F d_Sen_greatestSupported_7 2 rfl ?_
    refine g_aload_n F d_Sen_greatestSupported_8 0 rfl ?_
    refine g_getI F fs_4_22 hr0.1 rfl d_Sen_greatestSupported_9 ?_
    refine g_icmp_ge F (tgt := 35) d_Sen_greatestSupported_12 (by decide) (fun h1 => ?_) (fun h2 => ?_)
    · exact g_sub [1] rfl (hk _ _)
    refine g_iconst F (v := 2) d_Sen_greatestSupported_15 (by decide) ?_
    refine g_iload_n F d_Sen_greatestSupported_16 1 rfl ?_
    refine g_imul F d_Sen_greatestSupported_17 ?_
    refine g_aload_n F d_Sen_greatestSupported_18 0 rfl ?_
    refine g_getI F fs_4_43 hr0.1 rfl d_Sen_greatestSupported_19 ?_
    refine g_icmp_gt F (tgt := 35) d_Sen_greatestSupported_22 (by decide) (fun h3 => ?_) (fun h4 => ?_)
    · exact g_sub [1] rfl (hk _ _)
    refine g_iconst F (v := 2) d_Sen_greatestSupported_25 (by decide) ?_
    refine g_iload_n F d_Sen_greatestSupported_26 1 rfl ?_
    refine g_imul F d_Sen_greatestSupported_27 ?_
    refine g_ltI (fun v2 _ => ?_)
    refine g_istore_n F (ls' := [(1, .int v2), (0, .ref (xa X r0)), (2, .int x2)]) d_Sen_greatestSupported_28 (by decide) rfl ?_
    refine g_iinc F (v := 1) (ls' := [(2, .int (x2 + 1)), (1, .int v2), (0, .ref (xa X r0))]) d_Sen_greatestSupported_29 2 rfl (by decide) (by decide) rfl ?_
    refine g_goto F (tgt := 7) d_Sen_greatestSupported_32 (by decide) ?_
    exact g_sub [2, 1, 0] rfl (ih _ _ _)
set_option maxRecDepth 100000 in
set_option maxHeartbeats 4000000 in
theorem c_Sen_greatestSupported {X : CX} (l : Launch) (q : Nat) (hq : SensorOK X q) (σ : Mem) : CT X l y_Sen_greatestSupported prog_6_method_7_code 3 (some .int) 0 vI [.ref (xa X q)] σ (f_Sen_greatestSupported q σ) := by
  refine CT_of (by decide +kernel) (Nat.le_of_ble_eq_true rfl) ?_
  intro p e s m args below meth c F hlk hr
  have F : FR p s m args c prog_6_method_7_code 3 "SensorHub$Sensor" X := F
  show G X p l e (rmD 0) s m args below meth c 3 0 0 (QI X below args s vI) 0 [(0, .ref (xa X q))] [] σ _
  unfold f_Sen_greatestSupported
  refine g_aload_n F d_Sen_greatestSupported_0 0 rfl ?_
  refine g_getI F fs_4_19 hq.1 rfl d_Sen_greatestSupported_1 ?_
  refine g_ltI (fun v1 _ => ?_)
  refine g_istore_n F (ls' := [(1, .int v1), (0, .ref (xa X q))]) d_Sen_greatestSupported_4 (by decide) rfl ?_
  refine g_iconst F (v := 1) d_Sen_greatestSupported_5 (by decide) ?_
  refine g_istore_n F (ls' := [(2, .int (1 : Int32)), (1, .int v1), (0, .ref (xa X q))]) d_Sen_greatestSupported_6 (by decide) rfl ?_
  refine g_sub [2, 1, 0] rfl (l_L_Sen_greatestSupported_7 F hlk hr _ hq _ (fun z3 σ4 => ?_) FU _ _ _)
  refine g_iload_n F d_Sen_greatestSupported_35 0 rfl ?_
  exact g_iret F hlk hr d_Sen_greatestSupported_36
def y_X_quotient : MethodName := ⟨"SensorHub", "quotient", "(II)I"⟩
theorem d_X_quotient_0 : decode prog_1_method_26_code 0 = .ok (.iload_n 1, 1) := by decide +kernel
theorem d_X_quotient_1 : decode prog_1_method_26_code 1 = .ok (.ifCond .le 11, 3) := by decide +kernel
theorem d_X_quotient_4 : decode prog_1_method_26_code 4 = .ok (.iload_n 0, 1) := by decide +kernel
theorem d_X_quotient_5 : decode prog_1_method_26_code 5 = .ok (.iload_n 1, 1) := by decide +kernel
theorem d_X_quotient_6 : decode prog_1_method_26_code 6 = .ok (.invokestatic 233, 3) := by decide +kernel
theorem d_X_quotient_9 : decode prog_1_method_26_code 9 = .ok (.goto 4, 3) := by decide +kernel
theorem d_X_quotient_12 : decode prog_1_method_26_code 12 = .ok (.iconst 0, 1) := by decide +kernel
theorem d_X_quotient_13 : decode prog_1_method_26_code 13 = .ok (.ireturn, 1) := by decide +kernel
theorem cs_7_233 : CSS "SensorHub" 233 y_Mat_floorDiv prog_11_method_47_code 3 (some .int) 2 := ⟨gw_I 571 (by decide +kernel) rfl, gw_I 572 (by decide +kernel) rfl, gw_I 79 (by decide +kernel) rfl, gw_I 573 (by decide +kernel) rfl, ⟨by decide +kernel, by decide +kernel⟩, by decide +kernel⟩
def f_X_quotient (p0 : Int32) (p1 : Int32) (σ : Mem) : Option (Int32 × Mem) :=
  if p1 ≤ 0 then
    some ((0 : Int32), σ)
  else
    bd (f_Mat_floorDiv p0 p1 σ) fun r1 σ2 =>
    some (r1, σ2)
set_option maxRecDepth 100000 in
set_option maxHeartbeats 4000000 in
theorem c_X_quotient {X : CX} (l : Launch) (p0 : Int32) (p1 : Int32)  (σ : Mem) : CT X l y_X_quotient prog_1_method_26_code 2 (some .int) 1 vI [.int p0, .int p1] σ (f_X_quotient p0 p1 σ) := by
  refine CT_of (by decide +kernel) (Nat.le_of_ble_eq_true rfl) ?_
  intro p e s m args below meth c F hlk hr
  have F : FR p s m args c prog_1_method_26_code 2 "SensorHub" X := F
  show G X p l e (rmD 1) s m args below meth c 2 0 0 (QI X below args s vI) 0 [(0, .int p0), (1, .int p1)] [] σ _
  unfold f_X_quotient
  refine g_iload_n F d_X_quotient_0 1 rfl ?_
  refine g_if_le F (tgt := 12) d_X_quotient_1 (by decide) (fun h1 => ?_) (fun h2 => ?_)
  · refine g_iconst F (v := 0) d_X_quotient_12 (by decide) ?_
    exact g_iret F hlk hr d_X_quotient_13
  refine g_iload_n F d_X_quotient_4 0 rfl ?_
  refine g_iload_n F d_X_quotient_5 1 rfl ?_
  refine g_callS F (dp := 0) (As := [.int p0, .int p1]) (c_Mat_floorDiv l _ _ _) cs_7_233 rfl rfl (Nat.le_of_ble_eq_true rfl) ⟨Nat.le_of_ble_eq_true rfl, Nat.le_of_ble_eq_true rfl⟩ ⟨Nat.zero_le _, Nat.zero_le _⟩ d_X_quotient_6 (fun r1 σ2 h3 => ?_)
  refine g_goto F (tgt := 13) d_X_quotient_9 (by decide) ?_
  exact g_iret F hlk hr d_X_quotient_13
def y_Out_cover : MethodName := ⟨"SensorHub$Outages", "cover", "(II)Z"⟩
theorem d_Out_cover_0 : decode prog_5_method_4_code 0 = .ok (.iconst 0, 1) := by decide +kernel
theorem d_Out_cover_1 : decode prog_5_method_4_code 1 = .ok (.istore_n 3, 1) := by decide +kernel
theorem d_Out_cover_2 : decode prog_5_method_4_code 2 = .ok (.iload_n 3, 1) := by decide +kernel
theorem d_Out_cover_3 : decode prog_5_method_4_code 3 = .ok (.aload_n 0, 1) := by decide +kernel
theorem d_Out_cover_4 : decode prog_5_method_4_code 4 = .ok (.getfield 21, 3) := by decide +kernel
theorem d_Out_cover_7 : decode prog_5_method_4_code 7 = .ok (.if_icmp .ge 45, 3) := by decide +kernel
theorem d_Out_cover_10 : decode prog_5_method_4_code 10 = .ok (.iload_n 3, 1) := by decide +kernel
theorem d_Out_cover_11 : decode prog_5_method_4_code 11 = .ok (.iconst 4, 1) := by decide +kernel
theorem d_Out_cover_12 : decode prog_5_method_4_code 12 = .ok (.if_icmp .ge 40, 3) := by decide +kernel
theorem d_Out_cover_15 : decode prog_5_method_4_code 15 = .ok (.aload_n 0, 1) := by decide +kernel
theorem d_Out_cover_16 : decode prog_5_method_4_code 16 = .ok (.getfield 9, 3) := by decide +kernel
theorem d_Out_cover_19 : decode prog_5_method_4_code 19 = .ok (.iload_n 3, 1) := by decide +kernel
theorem d_Out_cover_20 : decode prog_5_method_4_code 20 = .ok (.iaload, 1) := by decide +kernel
theorem d_Out_cover_21 : decode prog_5_method_4_code 21 = .ok (.iload_n 1, 1) := by decide +kernel
theorem d_Out_cover_22 : decode prog_5_method_4_code 22 = .ok (.if_icmp .ne 24, 3) := by decide +kernel
theorem d_Out_cover_25 : decode prog_5_method_4_code 25 = .ok (.iload_n 2, 1) := by decide +kernel
theorem d_Out_cover_26 : decode prog_5_method_4_code 26 = .ok (.aload_n 0, 1) := by decide +kernel
theorem d_Out_cover_27 : decode prog_5_method_4_code 27 = .ok (.getfield 15, 3) := by decide +kernel
theorem d_Out_cover_30 : decode prog_5_method_4_code 30 = .ok (.iload_n 3, 1) := by decide +kernel
theorem d_Out_cover_31 : decode prog_5_method_4_code 31 = .ok (.iaload, 1) := by decide +kernel
theorem d_Out_cover_32 : decode prog_5_method_4_code 32 = .ok (.aload_n 0, 1) := by decide +kernel
theorem d_Out_cover_33 : decode prog_5_method_4_code 33 = .ok (.getfield 18, 3) := by decide +kernel
theorem d_Out_cover_36 : decode prog_5_method_4_code 36 = .ok (.iload_n 3, 1) := by decide +kernel
theorem d_Out_cover_37 : decode prog_5_method_4_code 37 = .ok (.iaload, 1) := by decide +kernel
theorem d_Out_cover_38 : decode prog_5_method_4_code 38 = .ok (.invokestatic 25, 3) := by decide +kernel
theorem d_Out_cover_41 : decode prog_5_method_4_code 41 = .ok (.ifCond .eq 5, 3) := by decide +kernel
theorem d_Out_cover_44 : decode prog_5_method_4_code 44 = .ok (.iconst 1, 1) := by decide +kernel
theorem d_Out_cover_45 : decode prog_5_method_4_code 45 = .ok (.ireturn, 1) := by decide +kernel
theorem d_Out_cover_46 : decode prog_5_method_4_code 46 = .ok (.iinc 3 1, 3) := by decide +kernel
theorem d_Out_cover_49 : decode prog_5_method_4_code 49 = .ok (.goto (-47), 3) := by decide +kernel
theorem d_Out_cover_52 : decode prog_5_method_4_code 52 = .ok (.iconst 0, 1) := by decide +kernel
theorem d_Out_cover_53 : decode prog_5_method_4_code 53 = .ok (.ireturn, 1) := by decide +kernel
theorem cs_3_25 : CSN "SensorHub$Outages" 25 y_X_isWithin "SensorHub" prog_1_method_24_code 3 (some .boolean) 3 := ⟨List.mem_of_getElem? (i := 6) rfl, gw_I 284 (by decide +kernel) rfl, gw_I 70 (by decide +kernel) rfl, gw_I 285 (by decide +kernel) rfl, ⟨by decide +kernel, by decide +kernel⟩, by decide +kernel⟩
def L_Out_cover_2 (r0 : Nat) (y1 : Int32) (y2 : Int32) (k : Mem → Option (Int32 × Mem)) : Nat → Int32 → Mem → Option (Int32 × Mem)
  | 0, _, _ => none
  | n + 1, x3, σ =>
    if (σ r0 0) ≤ x3 then
      k σ
    else
      if (4 : Int32) ≤ x3 then
        k σ
      else
        if ib x3 4 then
          if (σ (r0 + 1) x3.toNatClampNeg) = y1 then
            if ib x3 4 then
              if ib x3 4 then
                bd (f_X_isWithin y2 (σ (r0 + 2) x3.toNatClampNeg) (σ (r0 + 3) x3.toNatClampNeg) σ) fun r1 σ2 =>
                if r1 = 0 then L_Out_cover_2 r0 y1 y2 k n (x3 + 1) σ2 else some ((1 : Int32), σ2)
              else none
            else none
          else
            L_Out_cover_2 r0 y1 y2 k n (x3 + 1) σ
        else none
def f_Out_cover (q : Nat) (p1 : Int32) (p2 : Int32) (σ : Mem) : Option (Int32 × Mem) :=
  L_Out_cover_2 q p1 p2 (fun σ3 =>
    some ((0 : Int32), σ3)) FU (0 : Int32) σ
set_option maxRecDepth 100000 in
set_option maxHeartbeats 4000000 in
theorem l_L_Out_cover_2 {X : CX} {p : Program} {l : Launch} {e : Env} {s : State} {m : MethodId} {args : Array Value} {below : List Frame} {meth : Method} {c : Code} (F : FR p s m args c prog_5_method_4_code 4 "SensorHub$Outages" X) (hlk : meth.locks = false) (hr : meth.sig.returnType = some .boolean) (r0 : Nat) (y1 : Int32) (y2 : Int32) (hr0 : OutagesOK X r0) (k : Mem → Option (Int32 × Mem)) (hk : ∀  (σ : Mem), G X p l e (rmD 1) s m args below meth c 4 0 0 (QI X below args s vI) 52 [] [] σ (k σ)) : ∀ (n : Nat) (x3 : Int32) (σ : Mem), G X p l e (rmD 1) s m args below meth c 4 0 0 (QI X below args s vI) 2 [(0, .ref (xa X r0)), (1, .int y1), (2, .int y2), (3, .int x3)] [] σ (L_Out_cover_2 r0 y1 y2 k n x3 σ) := by
  intro n
  induction n with
  | zero => intros; exact g_no
  | succ n ih =>
    intro x3 σ
    unfold L_Out_cover_2
    refine g_iload_n F d_Out_cover_2 3 rfl ?_
    refine g_aload_n F d_Out_cover_3 0 rfl ?_
    refine g_getI F fs_3_21 hr0.1 rfl d_Out_cover_4 ?_
    refine g_icmp_ge F (tgt := 52) d_Out_cover_7 (by decide) (fun h1 => ?_) (fun h2 => ?_)
    · exact g_sub [] rfl (hk  _)
    refine g_iload_n F d_Out_cover_10 3 rfl ?_
    refine g_iconst F (v := 4) d_Out_cover_11 (by decide) ?_
    refine g_icmp_ge F (tgt := 52) d_Out_cover_12 (by decide) (fun h3 => ?_) (fun h4 => ?_)
    · exact g_sub [] rfl (hk  _)
    refine g_aload_n F d_Out_cover_15 0 rfl ?_
    refine g_getR F fs_3_9 hr0.1 rfl d_Out_cover_16 ?_
    refine g_iload_n F d_Out_cover_19 3 rfl ?_
    refine g_iald F (n := 4) hr0.2.1 d_Out_cover_20 ?_
    refine g_iload_n F d_Out_cover_21 1 rfl ?_
    refine g_icmp_ne F (tgt := 46) d_Out_cover_22 (by decide) (fun h5 => ?_) (fun h6 => ?_)
    · refine g_iload_n F d_Out_cover_25 2 rfl ?_
      refine g_aload_n F d_Out_cover_26 0 rfl ?_
      refine g_getR F fs_3_15 hr0.1 rfl d_Out_cover_27 ?_
      refine g_iload_n F d_Out_cover_30 3 rfl ?_
      refine g_iald F (n := 4) hr0.2.2.1 d_Out_cover_31 ?_
      refine g_aload_n F d_Out_cover_32 0 rfl ?_
      refine g_getR F fs_3_18 hr0.1 rfl d_Out_cover_33 ?_
      refine g_iload_n F d_Out_cover_36 3 rfl ?_
      refine g_iald F (n := 4) hr0.2.2.2 d_Out_cover_37 ?_
      refine g_callSN F (dp := 0) (As := [.int y2, .int (σ (r0 + 2) x3.toNatClampNeg), .int (σ (r0 + 3) x3.toNatClampNeg)]) (c_X_isWithin l _ _ _ _) cs_3_25 rfl rfl (Nat.le_of_ble_eq_true rfl) ⟨Nat.le_of_ble_eq_true rfl, Nat.le_of_ble_eq_true rfl⟩ ⟨Nat.zero_le _, Nat.zero_le _⟩ d_Out_cover_38 (fun r1 σ2 h7 => ?_)
      refine g_if_eq F (tgt := 46) d_Out_cover_41 (by decide) (fun h8 => ?_) (fun h9 => ?_)
      · refine g_iinc F (v := 1) (ls' := [(3, .int (x3 + 1)), (0, .ref (xa X r0)), (1, .int y1), (2, .int y2)]) d_Out_cover_46 3 rfl (by decide) (by decide) rfl ?_
        refine g_goto F (tgt := 2) d_Out_cover_49 (by decide) ?_
        exact g_sub [1, 2, 3, 0] rfl (ih _ _)
      refine g_iconst F (v := 1) d_Out_cover_44 (by decide) ?_
      exact g_zretC F hlk hr (by decide) d_Out_cover_45
    refine g_iinc F (v := 1) (ls' := [(3, .int (x3 + 1)), (0, .ref (xa X r0)), (1, .int y1), (2, .int y2)]) d_Out_cover_46 3 rfl (by decide) (by decide) rfl ?_
    refine g_goto F (tgt := 2) d_Out_cover_49 (by decide) ?_
    exact g_sub [1, 2, 3, 0] rfl (ih _ _)
set_option maxRecDepth 100000 in
set_option maxHeartbeats 4000000 in
theorem c_Out_cover {X : CX} (l : Launch) (q : Nat) (p1 : Int32) (p2 : Int32) (hq : OutagesOK X q) (σ : Mem) : CT X l y_Out_cover prog_5_method_4_code 4 (some .boolean) 1 vI [.ref (xa X q), .int p1, .int p2] σ (f_Out_cover q p1 p2 σ) := by
  refine CT_of (by decide +kernel) (Nat.le_of_ble_eq_true rfl) ?_
  intro p e s m args below meth c F hlk hr
  have F : FR p s m args c prog_5_method_4_code 4 "SensorHub$Outages" X := F
  show G X p l e (rmD 1) s m args below meth c 4 0 0 (QI X below args s vI) 0 [(0, .ref (xa X q)), (1, .int p1), (2, .int p2)] [] σ _
  unfold f_Out_cover
  refine g_iconst F (v := 0) d_Out_cover_0 (by decide) ?_
  refine g_istore_n F (ls' := [(3, .int (0 : Int32)), (0, .ref (xa X q)), (1, .int p1), (2, .int p2)]) d_Out_cover_1 (by decide) rfl ?_
  refine g_sub [1, 2, 3, 0] rfl (l_L_Out_cover_2 F hlk hr _ _ _ hq _ (fun σ3 => ?_) FU _ _)
  refine g_iconst F (v := 0) d_Out_cover_52 (by decide) ?_
  exact g_zretC F hlk hr (by decide) d_Out_cover_53
def y_Sen_valueAt : MethodName := ⟨"SensorHub$Sensor", "valueAt", "(I)I"⟩
theorem d_Sen_valueAt_0 : decode prog_6_method_8_code 0 = .ok (.aload_n 0, 1) := by decide +kernel
theorem d_Sen_valueAt_1 : decode prog_6_method_8_code 1 = .ok (.getfield 25, 3) := by decide +kernel
theorem d_Sen_valueAt_4 : decode prog_6_method_8_code 4 = .ok (.iload_n 1, 1) := by decide +kernel
theorem d_Sen_valueAt_5 : decode prog_6_method_8_code 5 = .ok (.imul, 1) := by decide +kernel
theorem d_Sen_valueAt_6 : decode prog_6_method_8_code 6 = .ok (.aload_n 0, 1) := by decide +kernel
theorem d_Sen_valueAt_7 : decode prog_6_method_8_code 7 = .ok (.getfield 28, 3) := by decide +kernel
theorem d_Sen_valueAt_10 : decode prog_6_method_8_code 10 = .ok (.iadd, 1) := by decide +kernel
theorem d_Sen_valueAt_11 : decode prog_6_method_8_code 11 = .ok (.sipush 1000, 3) := by decide +kernel
theorem d_Sen_valueAt_14 : decode prog_6_method_8_code 14 = .ok (.invokestatic 62, 3) := by decide +kernel
theorem d_Sen_valueAt_17 : decode prog_6_method_8_code 17 = .ok (.ireturn, 1) := by decide +kernel
theorem cs_4_62 : CSS "SensorHub$Sensor" 62 y_Mat_floorMod prog_11_method_50_code 3 (some .int) 2 := ⟨gw_I 759 (by decide +kernel) rfl, gw_I 409 (by decide +kernel) rfl, gw_I 79 (by decide +kernel) rfl, gw_I 410 (by decide +kernel) rfl, ⟨by decide +kernel, by decide +kernel⟩, by decide +kernel⟩
def f_Sen_valueAt (q : Nat) (p1 : Int32) (σ : Mem) : Option (Int32 × Mem) :=
  bd (f_Mat_floorMod (((σ q 3) * p1) + (σ q 4)) (1000 : Int32) σ) fun r1 σ2 =>
  some (r1, σ2)
set_option maxRecDepth 100000 in
set_option maxHeartbeats 4000000 in
theorem c_Sen_valueAt {X : CX} (l : Launch) (q : Nat) (p1 : Int32) (hq : SensorOK X q) (σ : Mem) : CT X l y_Sen_valueAt prog_6_method_8_code 2 (some .int) 1 vI [.ref (xa X q), .int p1] σ (f_Sen_valueAt q p1 σ) := by
  refine CT_of (by decide +kernel) (Nat.le_of_ble_eq_true rfl) ?_
  intro p e s m args below meth c F hlk hr
  have F : FR p s m args c prog_6_method_8_code 2 "SensorHub$Sensor" X := F
  show G X p l e (rmD 1) s m args below meth c 2 0 0 (QI X below args s vI) 0 [(0, .ref (xa X q)), (1, .int p1)] [] σ _
  unfold f_Sen_valueAt
  refine g_aload_n F d_Sen_valueAt_0 0 rfl ?_
  refine g_getI F fs_4_25 hq.1 rfl d_Sen_valueAt_1 ?_
  refine g_iload_n F d_Sen_valueAt_4 1 rfl ?_
  refine g_imul F d_Sen_valueAt_5 ?_
  refine g_aload_n F d_Sen_valueAt_6 0 rfl ?_
  refine g_getI F fs_4_28 hq.1 rfl d_Sen_valueAt_7 ?_
  refine g_iadd F d_Sen_valueAt_10 ?_
  refine g_sipush F (v := 1000) d_Sen_valueAt_11 (by decide) ?_
  refine g_callS F (dp := 0) (As := [.int (((σ q 3) * p1) + (σ q 4)), .int (1000 : Int32)]) (c_Mat_floorMod l _ _ _) cs_4_62 rfl rfl (Nat.le_of_ble_eq_true rfl) ⟨Nat.le_of_ble_eq_true rfl, Nat.le_of_ble_eq_true rfl⟩ ⟨Nat.zero_le _, Nat.zero_le _⟩ d_Sen_valueAt_14 (fun r1 σ2 h1 => ?_)
  exact g_iret F hlk hr d_Sen_valueAt_17
def y_Sen_smoothedStamp : MethodName := ⟨"SensorHub$Sensor", "smoothedStamp", "(I)I"⟩
theorem d_Sen_smoothedStamp_0 : decode prog_6_method_9_code 0 = .ok (.aload_n 0, 1) := by decide +kernel
theorem d_Sen_smoothedStamp_1 : decode prog_6_method_9_code 1 = .ok (.getfield 52, 3) := by decide +kernel
theorem d_Sen_smoothedStamp_4 : decode prog_6_method_9_code 4 = .ok (.ifCond .ne 5, 3) := by decide +kernel
theorem d_Sen_smoothedStamp_7 : decode prog_6_method_9_code 7 = .ok (.iload_n 1, 1) := by decide +kernel
theorem d_Sen_smoothedStamp_8 : decode prog_6_method_9_code 8 = .ok (.ireturn, 1) := by decide +kernel
theorem d_Sen_smoothedStamp_9 : decode prog_6_method_9_code 9 = .ok (.aload_n 0, 1) := by decide +kernel
theorem d_Sen_smoothedStamp_10 : decode prog_6_method_9_code 10 = .ok (.getfield 68, 3) := by decide +kernel
theorem d_Sen_smoothedStamp_13 : decode prog_6_method_9_code 13 = .ok (.aload_n 0, 1) := by decide +kernel
theorem d_Sen_smoothedStamp_14 : decode prog_6_method_9_code 14 = .ok (.getfield 46, 3) := by decide +kernel
theorem d_Sen_smoothedStamp_17 : decode prog_6_method_9_code 17 = .ok (.iadd, 1) := by decide +kernel
theorem d_Sen_smoothedStamp_18 : decode prog_6_method_9_code 18 = .ok (.istore_n 2, 1) := by decide +kernel
theorem d_Sen_smoothedStamp_19 : decode prog_6_method_9_code 19 = .ok (.iload_n 2, 1) := by decide +kernel
theorem d_Sen_smoothedStamp_20 : decode prog_6_method_9_code 20 = .ok (.iload_n 1, 1) := by decide +kernel
theorem d_Sen_smoothedStamp_21 : decode prog_6_method_9_code 21 = .ok (.iload_n 2, 1) := by decide +kernel
theorem d_Sen_smoothedStamp_22 : decode prog_6_method_9_code 22 = .ok (.isub, 1) := by decide +kernel
theorem d_Sen_smoothedStamp_23 : decode prog_6_method_9_code 23 = .ok (.iconst 4, 1) := by decide +kernel
theorem d_Sen_smoothedStamp_24 : decode prog_6_method_9_code 24 = .ok (.invokestatic 71, 3) := by decide +kernel
theorem d_Sen_smoothedStamp_27 : decode prog_6_method_9_code 27 = .ok (.iadd, 1) := by decide +kernel
theorem d_Sen_smoothedStamp_28 : decode prog_6_method_9_code 28 = .ok (.ireturn, 1) := by decide +kernel
theorem cs_4_71 : CSS "SensorHub$Sensor" 71 y_Mat_floorDiv prog_11_method_47_code 3 (some .int) 2 := ⟨gw_I 764 (by decide +kernel) rfl, gw_I 572 (by decide +kernel) rfl, gw_I 79 (by decide +kernel) rfl, gw_I 573 (by decide +kernel) rfl, ⟨by decide +kernel, by decide +kernel⟩, by decide +kernel⟩
def f_Sen_smoothedStamp (q : Nat) (p1 : Int32) (σ : Mem) : Option (Int32 × Mem) :=
  if (σ q 12) = 0 then
    some (p1, σ)
  else
    lt ((σ q 14) + (σ q 11)) fun v1 =>
    bd (f_Mat_floorDiv (p1 - v1) (4 : Int32) σ) fun r2 σ3 =>
    some (v1 + r2, σ3)
set_option maxRecDepth 100000 in
set_option maxHeartbeats 4000000 in
theorem c_Sen_smoothedStamp {X : CX} (l : Launch) (q : Nat) (p1 : Int32) (hq : SensorOK X q) (σ : Mem) : CT X l y_Sen_smoothedStamp prog_6_method_9_code 3 (some .int) 1 vI [.ref (xa X q), .int p1] σ (f_Sen_smoothedStamp q p1 σ) := by
  refine CT_of (by decide +kernel) (Nat.le_of_ble_eq_true rfl) ?_
  intro p e s m args below meth c F hlk hr
  have F : FR p s m args c prog_6_method_9_code 3 "SensorHub$Sensor" X := F
  show G X p l e (rmD 1) s m args below meth c 3 0 0 (QI X below args s vI) 0 [(0, .ref (xa X q)), (1, .int p1)] [] σ _
  unfold f_Sen_smoothedStamp
  refine g_aload_n F d_Sen_smoothedStamp_0 0 rfl ?_
  refine g_getI F fs_4_52 hq.1 rfl d_Sen_smoothedStamp_1 ?_
  refine g_if_ne F (tgt := 9) d_Sen_smoothedStamp_4 (by decide) (fun h1 => ?_) (fun h2 => ?_)
  · refine g_iload_n F d_Sen_smoothedStamp_7 1 rfl ?_
    exact g_iret F hlk hr d_Sen_smoothedStamp_8
  refine g_aload_n F d_Sen_smoothedStamp_9 0 rfl ?_
  refine g_getI F fs_4_68 hq.1 rfl d_Sen_smoothedStamp_10 ?_
  refine g_aload_n F d_Sen_smoothedStamp_13 0 rfl ?_
  refine g_getI F fs_4_46 hq.1 rfl d_Sen_smoothedStamp_14 ?_
  refine g_iadd F d_Sen_smoothedStamp_17 ?_
  refine g_ltI (fun v1 _ => ?_)
  refine g_istore_n F (ls' := [(2, .int v1), (0, .ref (xa X q)), (1, .int p1)]) d_Sen_smoothedStamp_18 (by decide) rfl ?_
  refine g_iload_n F d_Sen_smoothedStamp_19 0 rfl ?_
  refine g_iload_n F d_Sen_smoothedStamp_20 2 rfl ?_
  refine g_iload_n F d_Sen_smoothedStamp_21 0 rfl ?_
  refine g_isub F d_Sen_smoothedStamp_22 ?_
  refine g_iconst F (v := 4) d_Sen_smoothedStamp_23 (by decide) ?_
  refine g_callS F (dp := 0) (As := [.int (p1 - v1), .int (4 : Int32)]) (c_Mat_floorDiv l _ _ _) cs_4_71 rfl rfl (Nat.le_of_ble_eq_true rfl) ⟨Nat.le_of_ble_eq_true rfl, Nat.le_of_ble_eq_true rfl⟩ ⟨Nat.zero_le _, Nat.zero_le _⟩ d_Sen_smoothedStamp_24 (fun r2 σ3 h3 => ?_)
  refine g_iadd F d_Sen_smoothedStamp_27 ?_
  exact g_iret F hlk hr d_Sen_smoothedStamp_28
def y_Sen_accept : MethodName := ⟨"SensorHub$Sensor", "accept", "(II)V"⟩
theorem d_Sen_accept_0 : decode prog_6_method_10_code 0 = .ok (.aload_n 0, 1) := by decide +kernel
theorem d_Sen_accept_1 : decode prog_6_method_10_code 1 = .ok (.iload_n 1, 1) := by decide +kernel
theorem d_Sen_accept_2 : decode prog_6_method_10_code 2 = .ok (.putfield 68, 3) := by decide +kernel
theorem d_Sen_accept_5 : decode prog_6_method_10_code 5 = .ok (.aload_n 0, 1) := by decide +kernel
theorem d_Sen_accept_6 : decode prog_6_method_10_code 6 = .ok (.iload_n 2, 1) := by decide +kernel
theorem d_Sen_accept_7 : decode prog_6_method_10_code 7 = .ok (.putfield 74, 3) := by decide +kernel
theorem d_Sen_accept_10 : decode prog_6_method_10_code 10 = .ok (.aload_n 0, 1) := by decide +kernel
theorem d_Sen_accept_11 : decode prog_6_method_10_code 11 = .ok (.dup, 1) := by decide +kernel
theorem d_Sen_accept_12 : decode prog_6_method_10_code 12 = .ok (.getfield 52, 3) := by decide +kernel
theorem d_Sen_accept_15 : decode prog_6_method_10_code 15 = .ok (.iconst 1, 1) := by decide +kernel
theorem d_Sen_accept_16 : decode prog_6_method_10_code 16 = .ok (.iadd, 1) := by decide +kernel
theorem d_Sen_accept_17 : decode prog_6_method_10_code 17 = .ok (.putfield 52, 3) := by decide +kernel
theorem d_Sen_accept_20 : decode prog_6_method_10_code 20 = .ok (.aload_n 0, 1) := by decide +kernel
theorem d_Sen_accept_21 : decode prog_6_method_10_code 21 = .ok (.iconst 1, 1) := by decide +kernel
theorem d_Sen_accept_22 : decode prog_6_method_10_code 22 = .ok (.putfield 58, 3) := by decide +kernel
theorem d_Sen_accept_25 : decode prog_6_method_10_code 25 = .ok (.iload_n 2, 1) := by decide +kernel
theorem d_Sen_accept_26 : decode prog_6_method_10_code 26 = .ok (.bipush (-8), 2) := by decide +kernel
theorem d_Sen_accept_28 : decode prog_6_method_10_code 28 = .ok (.if_icmp .eq 28, 3) := by decide +kernel
theorem d_Sen_accept_31 : decode prog_6_method_10_code 31 = .ok (.aload_n 0, 1) := by decide +kernel
theorem d_Sen_accept_32 : decode prog_6_method_10_code 32 = .ok (.getfield 9, 3) := by decide +kernel
theorem d_Sen_accept_35 : decode prog_6_method_10_code 35 = .ok (.aload_n 0, 1) := by decide +kernel
theorem d_Sen_accept_36 : decode prog_6_method_10_code 36 = .ok (.getfield 55, 3) := by decide +kernel
theorem d_Sen_accept_39 : decode prog_6_method_10_code 39 = .ok (.bipush 8, 2) := by decide +kernel
theorem d_Sen_accept_41 : decode prog_6_method_10_code 41 = .ok (.invokestatic 62, 3) := by decide +kernel
theorem d_Sen_accept_44 : decode prog_6_method_10_code 44 = .ok (.iload_n 2, 1) := by decide +kernel
theorem d_Sen_accept_45 : decode prog_6_method_10_code 45 = .ok (.iastore, 1) := by decide +kernel
theorem d_Sen_accept_46 : decode prog_6_method_10_code 46 = .ok (.aload_n 0, 1) := by decide +kernel
theorem d_Sen_accept_47 : decode prog_6_method_10_code 47 = .ok (.dup, 1) := by decide +kernel
theorem d_Sen_accept_48 : decode prog_6_method_10_code 48 = .ok (.getfield 55, 3) := by decide +kernel
theorem d_Sen_accept_51 : decode prog_6_method_10_code 51 = .ok (.iconst 1, 1) := by decide +kernel
theorem d_Sen_accept_52 : decode prog_6_method_10_code 52 = .ok (.iadd, 1) := by decide +kernel
theorem d_Sen_accept_53 : decode prog_6_method_10_code 53 = .ok (.putfield 55, 3) := by decide +kernel
theorem d_Sen_accept_56 : decode prog_6_method_10_code 56 = .ok (.return_, 1) := by decide +kernel
def f_Sen_accept (q : Nat) (p1 : Int32) (p2 : Int32) (σ : Mem) : Option (Unit × Mem) :=
  lt (wr σ q 14 p1) fun σ1 =>
  lt (wr σ1 q 15 p2) fun σ2 =>
  lt (wr σ2 q 12 ((σ2 q 12) + (1 : Int32))) fun σ3 =>
  lt (wr σ3 q 13 (1 : Int32)) fun σ4 =>
  if p2 = (-8 : Int32) then
    some ((), σ4)
  else
    bd (f_Mat_floorMod (σ4 q 16) (8 : Int32) σ4) fun r5 σ6 =>
    if ib r5 8 then
      lt (wr σ6 (q + 1) r5.toNatClampNeg p2) fun σ7 =>
      lt (wr σ7 q 16 ((σ7 q 16) + (1 : Int32))) fun σ8 =>
      some ((), σ8)
    else none
set_option maxRecDepth 100000 in
set_option maxHeartbeats 4000000 in
theorem c_Sen_accept {X : CX} (l : Launch) (q : Nat) (p1 : Int32) (p2 : Int32) (hq : SensorOK X q) (σ : Mem) : CT X l y_Sen_accept prog_6_method_10_code 3 none 1 vU [.ref (xa X q), .int p1, .int p2] σ (f_Sen_accept q p1 p2 σ) := by
  refine CT_of (by decide +kernel) (Nat.le_of_ble_eq_true rfl) ?_
  intro p e s m args below meth c F hlk hr
  have F : FR p s m args c prog_6_method_10_code 3 "SensorHub$Sensor" X := F
  show G X p l e (rmD 1) s m args below meth c 3 0 0 (QI X below args s vU) 0 [(0, .ref (xa X q)), (1, .int p1), (2, .int p2)] [] σ _
  unfold f_Sen_accept
  refine g_aload_n F d_Sen_accept_0 0 rfl ?_
  refine g_iload_n F d_Sen_accept_1 1 rfl ?_
  refine g_putI F fw_4_68 hq.1 rfl d_Sen_accept_2 ?_
  refine g_ltM (fun σ1 _ => ?_)
  refine g_aload_n F d_Sen_accept_5 0 rfl ?_
  refine g_iload_n F d_Sen_accept_6 2 rfl ?_
  refine g_putI F fw_4_74 hq.1 rfl d_Sen_accept_7 ?_
  refine g_ltM (fun σ2 _ => ?_)
  refine g_aload_n F d_Sen_accept_10 0 rfl ?_
  refine g_dup F d_Sen_accept_11 rfl ?_
  refine g_getI F fs_4_52 hq.1 rfl d_Sen_accept_12 ?_
  refine g_iconst F (v := 1) d_Sen_accept_15 (by decide) ?_
  refine g_iadd F d_Sen_accept_16 ?_
  refine g_putI F fw_4_52 hq.1 rfl d_Sen_accept_17 ?_
  refine g_ltM (fun σ3 _ => ?_)
  refine g_aload_n F d_Sen_accept_20 0 rfl ?_
  refine g_iconst F (v := 1) d_Sen_accept_21 (by decide) ?_
  refine g_pt (q := (1 : Int32) &&& 1 = (1 : Int32)) (by decide) (g_putZ F fw_4_58 hq.1 rfl d_Sen_accept_22 ?_)
  refine g_ltM (fun σ4 _ => ?_)
  refine g_iload_n F d_Sen_accept_25 2 rfl ?_
  refine g_bipush F (v := (-8)) d_Sen_accept_26 (by decide) ?_
  refine g_icmp_eq F (tgt := 56) d_Sen_accept_28 (by decide) (fun h1 => ?_) (fun h2 => ?_)
  · exact g_vret F hlk hr d_Sen_accept_56
  refine g_aload_n F d_Sen_accept_31 0 rfl ?_
  refine g_getR F fs_4_9 hq.1 rfl d_Sen_accept_32 ?_
  refine g_aload_n F d_Sen_accept_35 0 rfl ?_
  refine g_getI F fs_4_55 hq.1 rfl d_Sen_accept_36 ?_
  refine g_bipush F (v := 8) d_Sen_accept_39 (by decide) ?_
  refine g_callS F (dp := 0) (As := [.int (σ4 q 16), .int (8 : Int32)]) (c_Mat_floorMod l _ _ _) cs_4_62 rfl rfl (Nat.le_of_ble_eq_true rfl) ⟨Nat.le_of_ble_eq_true rfl, Nat.le_of_ble_eq_true rfl⟩ ⟨Nat.zero_le _, Nat.zero_le _⟩ d_Sen_accept_41 (fun r5 σ6 h3 => ?_)
  refine g_iload_n F d_Sen_accept_44 2 rfl ?_
  refine g_iast F (n := 8) hq.2 d_Sen_accept_45 ?_
  refine g_ltM (fun σ7 _ => ?_)
  refine g_aload_n F d_Sen_accept_46 0 rfl ?_
  refine g_dup F d_Sen_accept_47 rfl ?_
  refine g_getI F fs_4_55 hq.1 rfl d_Sen_accept_48 ?_
  refine g_iconst F (v := 1) d_Sen_accept_51 (by decide) ?_
  refine g_iadd F d_Sen_accept_52 ?_
  refine g_putI F fw_4_55 hq.1 rfl d_Sen_accept_53 ?_
  refine g_ltM (fun σ8 _ => ?_)
  exact g_vret F hlk hr d_Sen_accept_56
def y_Sen_meanOfLatest : MethodName := ⟨"SensorHub$Sensor", "meanOfLatest", "(I)I"⟩
theorem d_Sen_meanOfLatest_0 : decode prog_6_method_11_code 0 = .ok (.iload_n 1, 1) := by decide +kernel
theorem d_Sen_meanOfLatest_1 : decode prog_6_method_11_code 1 = .ok (.bipush 8, 2) := by decide +kernel
theorem d_Sen_meanOfLatest_3 : decode prog_6_method_11_code 3 = .ok (.invokestatic 77, 3) := by decide +kernel
theorem d_Sen_meanOfLatest_6 : decode prog_6_method_11_code 6 = .ok (.aload_n 0, 1) := by decide +kernel
theorem d_Sen_meanOfLatest_7 : decode prog_6_method_11_code 7 = .ok (.getfield 55, 3) := by decide +kernel
theorem d_Sen_meanOfLatest_10 : decode prog_6_method_11_code 10 = .ok (.invokestatic 77, 3) := by decide +kernel
theorem d_Sen_meanOfLatest_13 : decode prog_6_method_11_code 13 = .ok (.istore_n 2, 1) := by decide +kernel
theorem d_Sen_meanOfLatest_14 : decode prog_6_method_11_code 14 = .ok (.iconst 0, 1) := by decide +kernel
theorem d_Sen_meanOfLatest_15 : decode prog_6_method_11_code 15 = .ok (.istore_n 3, 1) := by decide +kernel
theorem d_Sen_meanOfLatest_16 : decode prog_6_method_11_code 16 = .ok (.iconst 1, 1) := by decide +kernel
theorem d_Sen_meanOfLatest_17 : decode prog_6_method_11_code 17 = .ok (.istore 4, 2) := by decide +kernel
theorem d_Sen_meanOfLatest_19 : decode prog_6_method_11_code 19 = .ok (.iload 4, 2) := by decide +kernel
theorem d_Sen_meanOfLatest_21 : decode prog_6_method_11_code 21 = .ok (.iload_n 2, 1) := by decide +kernel
theorem d_Sen_meanOfLatest_22 : decode prog_6_method_11_code 22 = .ok (.if_icmp .gt 29, 3) := by decide +kernel
theorem d_Sen_meanOfLatest_25 : decode prog_6_method_11_code 25 = .ok (.iload_n 3, 1) := by decide +kernel
theorem d_Sen_meanOfLatest_26 : decode prog_6_method_11_code 26 = .ok (.aload_n 0, 1) := by decide +kernel
theorem d_Sen_meanOfLatest_27 : decode prog_6_method_11_code 27 = .ok (.getfield 9, 3) := by decide +kernel
theorem d_Sen_meanOfLatest_30 : decode prog_6_method_11_code 30 = .ok (.aload_n 0, 1) := by decide +kernel
theorem d_Sen_meanOfLatest_31 : decode prog_6_method_11_code 31 = .ok (.getfield 55, 3) := by decide +kernel
theorem d_Sen_meanOfLatest_34 : decode prog_6_method_11_code 34 = .ok (.iload 4, 2) := by decide +kernel
theorem d_Sen_meanOfLatest_36 : decode prog_6_method_11_code 36 = .ok (.isub, 1) := by decide +kernel
theorem d_Sen_meanOfLatest_37 : decode prog_6_method_11_code 37 = .ok (.bipush 8, 2) := by decide +kernel
theorem d_Sen_meanOfLatest_39 : decode prog_6_method_11_code 39 = .ok (.invokestatic 62, 3) := by decide +kernel
theorem d_Sen_meanOfLatest_42 : decode prog_6_method_11_code 42 = .ok (.iaload, 1) := by decide +kernel
theorem d_Sen_meanOfLatest_43 : decode prog_6_method_11_code 43 = .ok (.iadd, 1) := by decide +kernel
theorem d_Sen_meanOfLatest_44 : decode prog_6_method_11_code 44 = .ok (.istore_n 3, 1) := by decide +kernel
theorem d_Sen_meanOfLatest_45 : decode prog_6_method_11_code 45 = .ok (.iinc 4 1, 3) := by decide +kernel
theorem d_Sen_meanOfLatest_48 : decode prog_6_method_11_code 48 = .ok (.goto (-29), 3) := by decide +kernel
theorem d_Sen_meanOfLatest_51 : decode prog_6_method_11_code 51 = .ok (.iload_n 2, 1) := by decide +kernel
theorem d_Sen_meanOfLatest_52 : decode prog_6_method_11_code 52 = .ok (.ifCond .le 9, 3) := by decide +kernel
theorem d_Sen_meanOfLatest_55 : decode prog_6_method_11_code 55 = .ok (.iload_n 3, 1) := by decide +kernel
theorem d_Sen_meanOfLatest_56 : decode prog_6_method_11_code 56 = .ok (.iload_n 2, 1) := by decide +kernel
theorem d_Sen_meanOfLatest_57 : decode prog_6_method_11_code 57 = .ok (.idiv, 1) := by decide +kernel
theorem d_Sen_meanOfLatest_58 : decode prog_6_method_11_code 58 = .ok (.goto 5, 3) := by decide +kernel
theorem d_Sen_meanOfLatest_61 : decode prog_6_method_11_code 61 = .ok (.bipush (-8), 2) := by decide +kernel
theorem d_Sen_meanOfLatest_63 : decode prog_6_method_11_code 63 = .ok (.ireturn, 1) := by decide +kernel
theorem cs_4_77 : CSS "SensorHub$Sensor" 77 y_Mat_min prog_11_method_69_code 2 (some .int) 2 := ⟨gw_I 777 (by decide +kernel) rfl, gw_I 398 (by decide +kernel) rfl, gw_I 79 (by decide +kernel) rfl, gw_I 399 (by decide +kernel) rfl, ⟨by decide +kernel, by decide +kernel⟩, by decide +kernel⟩
def L_Sen_meanOfLatest_19 (r0 : Nat) (y2 : Int32) (k : Int32 → Mem → Option (Int32 × Mem)) : Nat → Int32 → Int32 → Mem → Option (Int32 × Mem)
  | 0, _, _, _ => none
  | n + 1, x3, x4, σ =>
    if y2 < x4 then
      k x3 σ
    else
      bd (f_Mat_floorMod ((σ r0 16) - x4) (8 : Int32) σ) fun r5 σ6 =>
      if ib r5 8 then
        lt (x3 + (σ6 (r0 + 1) r5.toNatClampNeg)) fun v7 =>
        L_Sen_meanOfLatest_19 r0 y2 k n v7 (x4 + 1) σ6
      else none
def f_Sen_meanOfLatest (q : Nat) (p1 : Int32) (σ : Mem) : Option (Int32 × Mem) :=
  bd (f_Mat_min p1 (8 : Int32) σ) fun r1 σ2 =>
  bd (f_Mat_min r1 (σ2 q 16) σ2) fun r3 σ4 =>
  L_Sen_meanOfLatest_19 q r3 (fun z8 σ9 =>
    if r3 ≤ 0 then
      some ((-8 : Int32), σ9)
    else
      if r3 = 0 then none else
      some (z8 / r3, σ9)) FU (0 : Int32) (1 : Int32) σ4
set_option maxRecDepth 100000 in
set_option maxHeartbeats 4000000 in
theorem l_L_Sen_meanOfLatest_19 {X : CX} {p : Program} {l : Launch} {e : Env} {s : State} {m : MethodId} {args : Array Value} {below : List Frame} {meth : Method} {c : Code} (F : FR p s m args c prog_6_method_11_code 5 "SensorHub$Sensor" X) (hlk : meth.locks = false) (hr : meth.sig.returnType = some .int) (r0 : Nat) (y2 : Int32) (hr0 : SensorOK X r0) (k : Int32 → Mem → Option (Int32 × Mem)) (hk : ∀ (x3 : Int32) (σ : Mem), G X p l e (rmD 1) s m args below meth c 5 0 0 (QI X below args s vI) 51 [(2, .int y2), (3, .int x3)] [] σ (k x3 σ)) : ∀ (n : Nat) (x3 : Int32) (x4 : Int32) (σ : Mem), G X p l e (rmD 1) s m args below meth c 5 0 0 (QI X below args s vI) 19 [(0, .ref (xa X r0)), (2, .int y2), (3, .int x3), (4, .int x4)] [] σ (L_Sen_meanOfLatest_19 r0 y2 k n x3 x4 σ) := by
  intro n
  induction n with
  | zero => intros; exact g_no
  | succ n ih =>
    intro x3 x4 σ
    unfold L_Sen_meanOfLatest_19
    refine g_iload F d_Sen_meanOfLatest_19 3 rfl ?_
    refine g_iload_n F d_Sen_meanOfLatest_21 1 rfl ?_
    refine g_icmp_gt F (tgt := 51) d_Sen_meanOfLatest_22 (by decide) (fun h3 => ?_) (fun h4 => ?_)
    · exact g_sub [1, 2] rfl (hk _ _)
    refine g_iload_n F d_Sen_meanOfLatest_25 2 rfl ?_
    refine g_aload_n F d_Sen_meanOfLatest_26 0 rfl ?_
    refine g_getR F fs_4_9 hr0.1 rfl d_Sen_meanOfLatest_27 ?_
    refine g_aload_n F d_Sen_meanOfLatest_30 0 rfl ?_
    refine g_getI F fs_4_55 hr0.1 rfl d_Sen_meanOfLatest_31 ?_
    refine g_iload F d_Sen_meanOfLatest_34 3 rfl ?_
    refine g_isub F d_Sen_meanOfLatest_36 ?_
    refine g_bipush F (v := 8) d_Sen_meanOfLatest_37 (by decide) ?_
    refine g_callS F (dp := 0) (As := [.int ((σ r0 16) - x4), .int (8 : Int32)]) (c_Mat_floorMod l _ _ _) cs_4_62 rfl rfl (Nat.le_of_ble_eq_true rfl) ⟨Nat.le_of_ble_eq_true rfl, Nat.le_of_ble_eq_true rfl⟩ ⟨Nat.zero_le _, Nat.zero_le _⟩ d_Sen_meanOfLatest_39 (fun r5 σ6 h5 => ?_)
    refine g_iald F (n := 8) hr0.2 d_Sen_meanOfLatest_42 ?_
    refine g_iadd F d_Sen_meanOfLatest_43 ?_
    refine g_ltI (fun v7 _ => ?_)
    refine g_istore_n F (ls' := [(3, .int v7), (0, .ref (xa X r0)), (2, .int y2), (4, .int x4)]) d_Sen_meanOfLatest_44 (by decide) rfl ?_
    refine g_iinc F (v := 1) (ls' := [(4, .int (x4 + 1)), (3, .int v7), (0, .ref (xa X r0)), (2, .int y2)]) d_Sen_meanOfLatest_45 3 rfl (by decide) (by decide) rfl ?_
    refine g_goto F (tgt := 19) d_Sen_meanOfLatest_48 (by decide) ?_
    exact g_sub [2, 3, 1, 0] rfl (ih _ _ _)
set_option maxRecDepth 100000 in
set_option maxHeartbeats 4000000 in
theorem c_Sen_meanOfLatest {X : CX} (l : Launch) (q : Nat) (p1 : Int32) (hq : SensorOK X q) (σ : Mem) : CT X l y_Sen_meanOfLatest prog_6_method_11_code 5 (some .int) 1 vI [.ref (xa X q), .int p1] σ (f_Sen_meanOfLatest q p1 σ) := by
  refine CT_of (by decide +kernel) (Nat.le_of_ble_eq_true rfl) ?_
  intro p e s m args below meth c F hlk hr
  have F : FR p s m args c prog_6_method_11_code 5 "SensorHub$Sensor" X := F
  show G X p l e (rmD 1) s m args below meth c 5 0 0 (QI X below args s vI) 0 [(0, .ref (xa X q)), (1, .int p1)] [] σ _
  unfold f_Sen_meanOfLatest
  refine g_iload_n F d_Sen_meanOfLatest_0 1 rfl ?_
  refine g_bipush F (v := 8) d_Sen_meanOfLatest_1 (by decide) ?_
  refine g_callS F (dp := 0) (As := [.int p1, .int (8 : Int32)]) (c_Mat_min l _ _ _) cs_4_77 rfl rfl (Nat.le_of_ble_eq_true rfl) ⟨Nat.le_of_ble_eq_true rfl, Nat.le_of_ble_eq_true rfl⟩ ⟨Nat.zero_le _, Nat.zero_le _⟩ d_Sen_meanOfLatest_3 (fun r1 σ2 h1 => ?_)
  refine g_aload_n F d_Sen_meanOfLatest_6 0 rfl ?_
  refine g_getI F fs_4_55 hq.1 rfl d_Sen_meanOfLatest_7 ?_
  refine g_callS F (dp := 0) (As := [.int r1, .int (σ2 q 16)]) (c_Mat_min l _ _ _) cs_4_77 rfl rfl (Nat.le_of_ble_eq_true rfl) ⟨Nat.le_of_ble_eq_true rfl, Nat.le_of_ble_eq_true rfl⟩ ⟨Nat.zero_le _, Nat.zero_le _⟩ d_Sen_meanOfLatest_10 (fun r3 σ4 h2 => ?_)
  refine g_istore_n F (ls' := [(2, .int r3), (0, .ref (xa X q)), (1, .int p1)]) d_Sen_meanOfLatest_13 (by decide) rfl ?_
  refine g_iconst F (v := 0) d_Sen_meanOfLatest_14 (by decide) ?_
  refine g_istore_n F (ls' := [(3, .int (0 : Int32)), (2, .int r3), (0, .ref (xa X q)), (1, .int p1)]) d_Sen_meanOfLatest_15 (by decide) rfl ?_
  refine g_iconst F (v := 1) d_Sen_meanOfLatest_16 (by decide) ?_
  refine g_istore F (ls' := [(4, .int (1 : Int32)), (3, .int (0 : Int32)), (2, .int r3), (0, .ref (xa X q)), (1, .int p1)]) d_Sen_meanOfLatest_17 (by decide) rfl ?_
  refine g_sub [3, 2, 1, 0] rfl (l_L_Sen_meanOfLatest_19 F hlk hr _ _ hq _ (fun z8 σ9 => ?_) FU _ _ _)
  refine g_iload_n F d_Sen_meanOfLatest_51 0 rfl ?_
  refine g_if_le F (tgt := 61) d_Sen_meanOfLatest_52 (by decide) (fun h6 => ?_) (fun h7 => ?_)
  · refine g_bipush F (v := (-8)) d_Sen_meanOfLatest_61 (by decide) ?_
    exact g_iret F hlk hr d_Sen_meanOfLatest_63
  refine g_iload_n F d_Sen_meanOfLatest_55 1 rfl ?_
  refine g_iload_n F d_Sen_meanOfLatest_56 0 rfl ?_
  refine g_idiv F d_Sen_meanOfLatest_57 ?_
  refine g_goto F (tgt := 63) d_Sen_meanOfLatest_58 (by decide) ?_
  exact g_iret F hlk hr d_Sen_meanOfLatest_63
def y_Sto_part : MethodName := ⟨"SensorHub$Store", "part", "(II)I"⟩
theorem d_Sto_part_0 : decode prog_7_method_3_code 0 = .ok (.iload_n 1, 1) := by decide +kernel
theorem d_Sto_part_1 : decode prog_7_method_3_code 1 = .ok (.aload_n 0, 1) := by decide +kernel
theorem d_Sto_part_2 : decode prog_7_method_3_code 2 = .ok (.getfield 15, 3) := by decide +kernel
theorem d_Sto_part_5 : decode prog_7_method_3_code 5 = .ok (.if_icmp .ge 22, 3) := by decide +kernel
theorem d_Sto_part_8 : decode prog_7_method_3_code 8 = .ok (.iload_n 1, 1) := by decide +kernel
theorem d_Sto_part_9 : decode prog_7_method_3_code 9 = .ok (.iconst 0, 1) := by decide +kernel
theorem d_Sto_part_10 : decode prog_7_method_3_code 10 = .ok (.bipush 29, 2) := by decide +kernel
theorem d_Sto_part_12 : decode prog_7_method_3_code 12 = .ok (.invokestatic 19, 3) := by decide +kernel
theorem d_Sto_part_15 : decode prog_7_method_3_code 15 = .ok (.ifCond .eq 12, 3) := by decide +kernel
theorem d_Sto_part_18 : decode prog_7_method_3_code 18 = .ok (.iload_n 2, 1) := by decide +kernel
theorem d_Sto_part_19 : decode prog_7_method_3_code 19 = .ok (.iconst 0, 1) := by decide +kernel
theorem d_Sto_part_20 : decode prog_7_method_3_code 20 = .ok (.iconst 2, 1) := by decide +kernel
theorem d_Sto_part_21 : decode prog_7_method_3_code 21 = .ok (.invokestatic 19, 3) := by decide +kernel
theorem d_Sto_part_24 : decode prog_7_method_3_code 24 = .ok (.ifCond .ne 6, 3) := by decide +kernel
theorem d_Sto_part_27 : decode prog_7_method_3_code 27 = .ok (.bipush (-9), 2) := by decide +kernel
theorem d_Sto_part_29 : decode prog_7_method_3_code 29 = .ok (.ireturn, 1) := by decide +kernel
theorem d_Sto_part_30 : decode prog_7_method_3_code 30 = .ok (.aload_n 0, 1) := by decide +kernel
theorem d_Sto_part_31 : decode prog_7_method_3_code 31 = .ok (.getfield 9, 3) := by decide +kernel
theorem d_Sto_part_34 : decode prog_7_method_3_code 34 = .ok (.iload_n 1, 1) := by decide +kernel
theorem d_Sto_part_35 : decode prog_7_method_3_code 35 = .ok (.iconst 3, 1) := by decide +kernel
theorem d_Sto_part_36 : decode prog_7_method_3_code 36 = .ok (.imul, 1) := by decide +kernel
theorem d_Sto_part_37 : decode prog_7_method_3_code 37 = .ok (.iload_n 2, 1) := by decide +kernel
theorem d_Sto_part_38 : decode prog_7_method_3_code 38 = .ok (.iadd, 1) := by decide +kernel
theorem d_Sto_part_39 : decode prog_7_method_3_code 39 = .ok (.iaload, 1) := by decide +kernel
theorem d_Sto_part_40 : decode prog_7_method_3_code 40 = .ok (.ireturn, 1) := by decide +kernel
theorem cs_5_19 : CSN "SensorHub$Store" 19 y_X_isWithin "SensorHub" prog_1_method_24_code 3 (some .boolean) 3 := ⟨List.mem_of_getElem? (i := 7) rfl, gw_I 284 (by decide +kernel) rfl, gw_I 70 (by decide +kernel) rfl, gw_I 285 (by decide +kernel) rfl, ⟨by decide +kernel, by decide +kernel⟩, by decide +kernel⟩
def f_Sto_part (q : Nat) (p1 : Int32) (p2 : Int32) (σ : Mem) : Option (Int32 × Mem) :=
  if (σ q 0) ≤ p1 then
    some ((-9 : Int32), σ)
  else
    bd (f_X_isWithin p1 (0 : Int32) (29 : Int32) σ) fun r1 σ2 =>
    if r1 = 0 then
      some ((-9 : Int32), σ2)
    else
      bd (f_X_isWithin p2 (0 : Int32) (2 : Int32) σ2) fun r3 σ4 =>
      if r3 = 0 then
        some ((-9 : Int32), σ4)
      else
        if ib ((p1 * (3 : Int32)) + p2) 90 then
          some (σ4 (q + 1) ((p1 * (3 : Int32)) + p2).toNatClampNeg, σ4)
        else none
set_option maxRecDepth 100000 in
set_option maxHeartbeats 4000000 in
theorem c_Sto_part {X : CX} (l : Launch) (q : Nat) (p1 : Int32) (p2 : Int32) (hq : StoreOK X q) (σ : Mem) : CT X l y_Sto_part prog_7_method_3_code 3 (some .int) 1 vI [.ref (xa X q), .int p1, .int p2] σ (f_Sto_part q p1 p2 σ) := by
  refine CT_of (by decide +kernel) (Nat.le_of_ble_eq_true rfl) ?_
  intro p e s m args below meth c F hlk hr
  have F : FR p s m args c prog_7_method_3_code 3 "SensorHub$Store" X := F
  show G X p l e (rmD 1) s m args below meth c 3 0 0 (QI X below args s vI) 0 [(0, .ref (xa X q)), (1, .int p1), (2, .int p2)] [] σ _
  unfold f_Sto_part
  refine g_iload_n F d_Sto_part_0 1 rfl ?_
  refine g_aload_n F d_Sto_part_1 0 rfl ?_
  refine g_getI F fs_5_15 hq.1 rfl d_Sto_part_2 ?_
  refine g_icmp_ge F (tgt := 27) d_Sto_part_5 (by decide) (fun h1 => ?_) (fun h2 => ?_)
  · refine g_bipush F (v := (-9)) d_Sto_part_27 (by decide) ?_
    exact g_iret F hlk hr d_Sto_part_29
  refine g_iload_n F d_Sto_part_8 1 rfl ?_
  refine g_iconst F (v := 0) d_Sto_part_9 (by decide) ?_
  refine g_bipush F (v := 29) d_Sto_part_10 (by decide) ?_
  refine g_callSN F (dp := 0) (As := [.int p1, .int (0 : Int32), .int (29 : Int32)]) (c_X_isWithin l _ _ _ _) cs_5_19 rfl rfl (Nat.le_of_ble_eq_true rfl) ⟨Nat.le_of_ble_eq_true rfl, Nat.le_of_ble_eq_true rfl⟩ ⟨Nat.zero_le _, Nat.zero_le _⟩ d_Sto_part_12 (fun r1 σ2 h3 => ?_)
  refine g_if_eq F (tgt := 27) d_Sto_part_15 (by decide) (fun h4 => ?_) (fun h5 => ?_)
  · refine g_bipush F (v := (-9)) d_Sto_part_27 (by decide) ?_
    exact g_iret F hlk hr d_Sto_part_29
  refine g_iload_n F d_Sto_part_18 2 rfl ?_
  refine g_iconst F (v := 0) d_Sto_part_19 (by decide) ?_
  refine g_iconst F (v := 2) d_Sto_part_20 (by decide) ?_
  refine g_callSN F (dp := 0) (As := [.int p2, .int (0 : Int32), .int (2 : Int32)]) (c_X_isWithin l _ _ _ _) cs_5_19 rfl rfl (Nat.le_of_ble_eq_true rfl) ⟨Nat.le_of_ble_eq_true rfl, Nat.le_of_ble_eq_true rfl⟩ ⟨Nat.zero_le _, Nat.zero_le _⟩ d_Sto_part_21 (fun r3 σ4 h6 => ?_)
  refine g_if_ne F (tgt := 30) d_Sto_part_24 (by decide) (fun h7 => ?_) (fun h8 => ?_)
  · refine g_bipush F (v := (-9)) d_Sto_part_27 (by decide) ?_
    exact g_iret F hlk hr d_Sto_part_29
  refine g_aload_n F d_Sto_part_30 0 rfl ?_
  refine g_getR F fs_5_9 hq.1 rfl d_Sto_part_31 ?_
  refine g_iload_n F d_Sto_part_34 1 rfl ?_
  refine g_iconst F (v := 3) d_Sto_part_35 (by decide) ?_
  refine g_imul F d_Sto_part_36 ?_
  refine g_iload_n F d_Sto_part_37 2 rfl ?_
  refine g_iadd F d_Sto_part_38 ?_
  refine g_iald F (n := 90) hq.2 d_Sto_part_39 ?_
  exact g_iret F hlk hr d_Sto_part_40
def y_Sto_add : MethodName := ⟨"SensorHub$Store", "add", "(III)V"⟩
theorem d_Sto_add_0 : decode prog_7_method_2_code 0 = .ok (.aload_n 0, 1) := by decide +kernel
theorem d_Sto_add_1 : decode prog_7_method_2_code 1 = .ok (.getfield 15, 3) := by decide +kernel
theorem d_Sto_add_4 : decode prog_7_method_2_code 4 = .ok (.iconst 0, 1) := by decide +kernel
theorem d_Sto_add_5 : decode prog_7_method_2_code 5 = .ok (.bipush 29, 2) := by decide +kernel
theorem d_Sto_add_7 : decode prog_7_method_2_code 7 = .ok (.invokestatic 19, 3) := by decide +kernel
theorem d_Sto_add_10 : decode prog_7_method_2_code 10 = .ok (.ifCond .eq 55, 3) := by decide +kernel
theorem d_Sto_add_13 : decode prog_7_method_2_code 13 = .ok (.aload_n 0, 1) := by decide +kernel
theorem d_Sto_add_14 : decode prog_7_method_2_code 14 = .ok (.getfield 9, 3) := by decide +kernel
theorem d_Sto_add_17 : decode prog_7_method_2_code 17 = .ok (.aload_n 0, 1) := by decide +kernel
theorem d_Sto_add_18 : decode prog_7_method_2_code 18 = .ok (.getfield 15, 3) := by decide +kernel
theorem d_Sto_add_21 : decode prog_7_method_2_code 21 = .ok (.iconst 3, 1) := by decide +kernel
theorem d_Sto_add_22 : decode prog_7_method_2_code 22 = .ok (.imul, 1) := by decide +kernel
theorem d_Sto_add_23 : decode prog_7_method_2_code 23 = .ok (.iconst 0, 1) := by decide +kernel
theorem d_Sto_add_24 : decode prog_7_method_2_code 24 = .ok (.iadd, 1) := by decide +kernel
theorem d_Sto_add_25 : decode prog_7_method_2_code 25 = .ok (.iload_n 1, 1) := by decide +kernel
theorem d_Sto_add_26 : decode prog_7_method_2_code 26 = .ok (.iastore, 1) := by decide +kernel
theorem d_Sto_add_27 : decode prog_7_method_2_code 27 = .ok (.aload_n 0, 1) := by decide +kernel
theorem d_Sto_add_28 : decode prog_7_method_2_code 28 = .ok (.getfield 9, 3) := by decide +kernel
theorem d_Sto_add_31 : decode prog_7_method_2_code 31 = .ok (.aload_n 0, 1) := by decide +kernel
theorem d_Sto_add_32 : decode prog_7_method_2_code 32 = .ok (.getfield 15, 3) := by decide +kernel
theorem d_Sto_add_35 : decode prog_7_method_2_code 35 = .ok (.iconst 3, 1) := by decide +kernel
theorem d_Sto_add_36 : decode prog_7_method_2_code 36 = .ok (.imul, 1) := by decide +kernel
theorem d_Sto_add_37 : decode prog_7_method_2_code 37 = .ok (.iconst 1, 1) := by decide +kernel
theorem d_Sto_add_38 : decode prog_7_method_2_code 38 = .ok (.iadd, 1) := by decide +kernel
theorem d_Sto_add_39 : decode prog_7_method_2_code 39 = .ok (.iload_n 2, 1) := by decide +kernel
theorem d_Sto_add_40 : decode prog_7_method_2_code 40 = .ok (.iastore, 1) := by decide +kernel
theorem d_Sto_add_41 : decode prog_7_method_2_code 41 = .ok (.aload_n 0, 1) := by decide +kernel
theorem d_Sto_add_42 : decode prog_7_method_2_code 42 = .ok (.getfield 9, 3) := by decide +kernel
theorem d_Sto_add_45 : decode prog_7_method_2_code 45 = .ok (.aload_n 0, 1) := by decide +kernel
theorem d_Sto_add_46 : decode prog_7_method_2_code 46 = .ok (.getfield 15, 3) := by decide +kernel
theorem d_Sto_add_49 : decode prog_7_method_2_code 49 = .ok (.iconst 3, 1) := by decide +kernel
theorem d_Sto_add_50 : decode prog_7_method_2_code 50 = .ok (.imul, 1) := by decide +kernel
theorem d_Sto_add_51 : decode prog_7_method_2_code 51 = .ok (.iconst 2, 1) := by decide +kernel
theorem d_Sto_add_52 : decode prog_7_method_2_code 52 = .ok (.iadd, 1) := by decide +kernel
theorem d_Sto_add_53 : decode prog_7_method_2_code 53 = .ok (.iload_n 3, 1) := by decide +kernel
theorem d_Sto_add_54 : decode prog_7_method_2_code 54 = .ok (.iastore, 1) := by decide +kernel
theorem d_Sto_add_55 : decode prog_7_method_2_code 55 = .ok (.aload_n 0, 1) := by decide +kernel
theorem d_Sto_add_56 : decode prog_7_method_2_code 56 = .ok (.dup, 1) := by decide +kernel
theorem d_Sto_add_57 : decode prog_7_method_2_code 57 = .ok (.getfield 15, 3) := by decide +kernel
theorem d_Sto_add_60 : decode prog_7_method_2_code 60 = .ok (.iconst 1, 1) := by decide +kernel
theorem d_Sto_add_61 : decode prog_7_method_2_code 61 = .ok (.iadd, 1) := by decide +kernel
theorem d_Sto_add_62 : decode prog_7_method_2_code 62 = .ok (.putfield 15, 3) := by decide +kernel
theorem d_Sto_add_65 : decode prog_7_method_2_code 65 = .ok (.return_, 1) := by decide +kernel
def f_Sto_add (q : Nat) (p1 : Int32) (p2 : Int32) (p3 : Int32) (σ : Mem) : Option (Unit × Mem) :=
  bd (f_X_isWithin (σ q 0) (0 : Int32) (29 : Int32) σ) fun r1 σ2 =>
  if r1 = 0 then
    some ((), σ2)
  else
    if ib (((σ2 q 0) * (3 : Int32)) + (0 : Int32)) 90 then
      lt (wr σ2 (q + 1) (((σ2 q 0) * (3 : Int32)) + (0 : Int32)).toNatClampNeg p1) fun σ3 =>
      if ib (((σ3 q 0) * (3 : Int32)) + (1 : Int32)) 90 then
        lt (wr σ3 (q + 1) (((σ3 q 0) * (3 : Int32)) + (1 : Int32)).toNatClampNeg p2) fun σ4 =>
        if ib (((σ4 q 0) * (3 : Int32)) + (2 : Int32)) 90 then
          lt (wr σ4 (q + 1) (((σ4 q 0) * (3 : Int32)) + (2 : Int32)).toNatClampNeg p3) fun σ5 =>
          lt (wr σ5 q 0 ((σ5 q 0) + (1 : Int32))) fun σ6 =>
          some ((), σ6)
        else none
      else none
    else none
set_option maxRecDepth 100000 in
set_option maxHeartbeats 4000000 in
theorem c_Sto_add {X : CX} (l : Launch) (q : Nat) (p1 : Int32) (p2 : Int32) (p3 : Int32) (hq : StoreOK X q) (σ : Mem) : CT X l y_Sto_add prog_7_method_2_code 4 none 1 vU [.ref (xa X q), .int p1, .int p2, .int p3] σ (f_Sto_add q p1 p2 p3 σ) := by
  refine CT_of (by decide +kernel) (Nat.le_of_ble_eq_true rfl) ?_
  intro p e s m args below meth c F hlk hr
  have F : FR p s m args c prog_7_method_2_code 4 "SensorHub$Store" X := F
  show G X p l e (rmD 1) s m args below meth c 4 0 0 (QI X below args s vU) 0 [(0, .ref (xa X q)), (1, .int p1), (2, .int p2), (3, .int p3)] [] σ _
  unfold f_Sto_add
  refine g_aload_n F d_Sto_add_0 0 rfl ?_
  refine g_getI F fs_5_15 hq.1 rfl d_Sto_add_1 ?_
  refine g_iconst F (v := 0) d_Sto_add_4 (by decide) ?_
  refine g_bipush F (v := 29) d_Sto_add_5 (by decide) ?_
  refine g_callSN F (dp := 0) (As := [.int (σ q 0), .int (0 : Int32), .int (29 : Int32)]) (c_X_isWithin l _ _ _ _) cs_5_19 rfl rfl (Nat.le_of_ble_eq_true rfl) ⟨Nat.le_of_ble_eq_true rfl, Nat.le_of_ble_eq_true rfl⟩ ⟨Nat.zero_le _, Nat.zero_le _⟩ d_Sto_add_7 (fun r1 σ2 h1 => ?_)
  refine g_if_eq F (tgt := 65) d_Sto_add_10 (by decide) (fun h2 => ?_) (fun h3 => ?_)
  · exact g_vret F hlk hr d_Sto_add_65
  refine g_aload_n F d_Sto_add_13 0 rfl ?_
  refine g_getR F fs_5_9 hq.1 rfl d_Sto_add_14 ?_
  refine g_aload_n F d_Sto_add_17 0 rfl ?_
  refine g_getI F fs_5_15 hq.1 rfl d_Sto_add_18 ?_
  refine g_iconst F (v := 3) d_Sto_add_21 (by decide) ?_
  refine g_imul F d_Sto_add_22 ?_
  refine g_iconst F (v := 0) d_Sto_add_23 (by decide) ?_
  refine g_iadd F d_Sto_add_24 ?_
  refine g_iload_n F d_Sto_add_25 1 rfl ?_
  refine g_iast F (n := 90) hq.2 d_Sto_add_26 ?_
  refine g_ltM (fun σ3 _ => ?_)
  refine g_aload_n F d_Sto_add_27 0 rfl ?_
  refine g_getR F fs_5_9 hq.1 rfl d_Sto_add_28 ?_
  refine g_aload_n F d_Sto_add_31 0 rfl ?_
  refine g_getI F fs_5_15 hq.1 rfl d_Sto_add_32 ?_
  refine g_iconst F (v := 3) d_Sto_add_35 (by decide) ?_
  refine g_imul F d_Sto_add_36 ?_
  refine g_iconst F (v := 1) d_Sto_add_37 (by decide) ?_
  refine g_iadd F d_Sto_add_38 ?_
  refine g_iload_n F d_Sto_add_39 2 rfl ?_
  refine g_iast F (n := 90) hq.2 d_Sto_add_40 ?_
  refine g_ltM (fun σ4 _ => ?_)
  refine g_aload_n F d_Sto_add_41 0 rfl ?_
  refine g_getR F fs_5_9 hq.1 rfl d_Sto_add_42 ?_
  refine g_aload_n F d_Sto_add_45 0 rfl ?_
  refine g_getI F fs_5_15 hq.1 rfl d_Sto_add_46 ?_
  refine g_iconst F (v := 3) d_Sto_add_49 (by decide) ?_
  refine g_imul F d_Sto_add_50 ?_
  refine g_iconst F (v := 2) d_Sto_add_51 (by decide) ?_
  refine g_iadd F d_Sto_add_52 ?_
  refine g_iload_n F d_Sto_add_53 3 rfl ?_
  refine g_iast F (n := 90) hq.2 d_Sto_add_54 ?_
  refine g_ltM (fun σ5 _ => ?_)
  refine g_aload_n F d_Sto_add_55 0 rfl ?_
  refine g_dup F d_Sto_add_56 rfl ?_
  refine g_getI F fs_5_15 hq.1 rfl d_Sto_add_57 ?_
  refine g_iconst F (v := 1) d_Sto_add_60 (by decide) ?_
  refine g_iadd F d_Sto_add_61 ?_
  refine g_putI F fw_5_15 hq.1 rfl d_Sto_add_62 ?_
  refine g_ltM (fun σ6 _ => ?_)
  exact g_vret F hlk hr d_Sto_add_65
def y_Out_isFull : MethodName := ⟨"SensorHub$Outages", "isFull", "()Z"⟩
theorem d_Out_isFull_0 : decode prog_5_method_2_code 0 = .ok (.aload_n 0, 1) := by decide +kernel
theorem d_Out_isFull_1 : decode prog_5_method_2_code 1 = .ok (.getfield 21, 3) := by decide +kernel
theorem d_Out_isFull_4 : decode prog_5_method_2_code 4 = .ok (.iconst 4, 1) := by decide +kernel
theorem d_Out_isFull_5 : decode prog_5_method_2_code 5 = .ok (.if_icmp .lt 7, 3) := by decide +kernel
theorem d_Out_isFull_8 : decode prog_5_method_2_code 8 = .ok (.iconst 1, 1) := by decide +kernel
theorem d_Out_isFull_9 : decode prog_5_method_2_code 9 = .ok (.goto 4, 3) := by decide +kernel
theorem d_Out_isFull_12 : decode prog_5_method_2_code 12 = .ok (.iconst 0, 1) := by decide +kernel
theorem d_Out_isFull_13 : decode prog_5_method_2_code 13 = .ok (.ireturn, 1) := by decide +kernel
def f_Out_isFull (q : Nat) (σ : Mem) : Option (Int32 × Mem) :=
  if (σ q 0) < (4 : Int32) then some ((0 : Int32), σ) else some ((1 : Int32), σ)
set_option maxRecDepth 100000 in
set_option maxHeartbeats 4000000 in
theorem c_Out_isFull {X : CX} (l : Launch) (q : Nat) (hq : OutagesOK X q) (σ : Mem) : CT X l y_Out_isFull prog_5_method_2_code 1 (some .boolean) 0 vI [.ref (xa X q)] σ (f_Out_isFull q σ) := by
  refine CT_of (by decide +kernel) (Nat.le_of_ble_eq_true rfl) ?_
  intro p e s m args below meth c F hlk hr
  have F : FR p s m args c prog_5_method_2_code 1 "SensorHub$Outages" X := F
  show G X p l e (rmD 0) s m args below meth c 1 0 0 (QI X below args s vI) 0 [(0, .ref (xa X q))] [] σ _
  unfold f_Out_isFull
  refine g_aload_n F d_Out_isFull_0 0 rfl ?_
  refine g_getI F fs_3_21 hq.1 rfl d_Out_isFull_1 ?_
  refine g_iconst F (v := 4) d_Out_isFull_4 (by decide) ?_
  refine g_icmp_lt F (tgt := 12) d_Out_isFull_5 (by decide) (fun h1 => ?_) (fun h2 => ?_)
  · refine g_iconst F (v := 0) d_Out_isFull_12 (by decide) ?_
    exact g_zretC F hlk hr (by decide) d_Out_isFull_13
  refine g_iconst F (v := 1) d_Out_isFull_8 (by decide) ?_
  refine g_goto F (tgt := 13) d_Out_isFull_9 (by decide) ?_
  exact g_zretC F hlk hr (by decide) d_Out_isFull_13
def y_Out_add : MethodName := ⟨"SensorHub$Outages", "add", "(III)I"⟩
theorem d_Out_add_0 : decode prog_5_method_3_code 0 = .ok (.aload_n 0, 1) := by decide +kernel
theorem d_Out_add_1 : decode prog_5_method_3_code 1 = .ok (.getfield 21, 3) := by decide +kernel
theorem d_Out_add_4 : decode prog_5_method_3_code 4 = .ok (.iconst 0, 1) := by decide +kernel
theorem d_Out_add_5 : decode prog_5_method_3_code 5 = .ok (.iconst 3, 1) := by decide +kernel
theorem d_Out_add_6 : decode prog_5_method_3_code 6 = .ok (.invokestatic 25, 3) := by decide +kernel
theorem d_Out_add_9 : decode prog_5_method_3_code 9 = .ok (.ifCond .eq 43, 3) := by decide +kernel
theorem d_Out_add_12 : decode prog_5_method_3_code 12 = .ok (.aload_n 0, 1) := by decide +kernel
theorem d_Out_add_13 : decode prog_5_method_3_code 13 = .ok (.getfield 9, 3) := by decide +kernel
theorem d_Out_add_16 : decode prog_5_method_3_code 16 = .ok (.aload_n 0, 1) := by decide +kernel
theorem d_Out_add_17 : decode prog_5_method_3_code 17 = .ok (.getfield 21, 3) := by decide +kernel
theorem d_Out_add_20 : decode prog_5_method_3_code 20 = .ok (.iload_n 1, 1) := by decide +kernel
theorem d_Out_add_21 : decode prog_5_method_3_code 21 = .ok (.iastore, 1) := by decide +kernel
theorem d_Out_add_22 : decode prog_5_method_3_code 22 = .ok (.aload_n 0, 1) := by decide +kernel
theorem d_Out_add_23 : decode prog_5_method_3_code 23 = .ok (.getfield 15, 3) := by decide +kernel
theorem d_Out_add_26 : decode prog_5_method_3_code 26 = .ok (.aload_n 0, 1) := by decide +kernel
theorem d_Out_add_27 : decode prog_5_method_3_code 27 = .ok (.getfield 21, 3) := by decide +kernel
theorem d_Out_add_30 : decode prog_5_method_3_code 30 = .ok (.iload_n 2, 1) := by decide +kernel
theorem d_Out_add_31 : decode prog_5_method_3_code 31 = .ok (.iastore, 1) := by decide +kernel
theorem d_Out_add_32 : decode prog_5_method_3_code 32 = .ok (.aload_n 0, 1) := by decide +kernel
theorem d_Out_add_33 : decode prog_5_method_3_code 33 = .ok (.getfield 18, 3) := by decide +kernel
theorem d_Out_add_36 : decode prog_5_method_3_code 36 = .ok (.aload_n 0, 1) := by decide +kernel
theorem d_Out_add_37 : decode prog_5_method_3_code 37 = .ok (.getfield 21, 3) := by decide +kernel
theorem d_Out_add_40 : decode prog_5_method_3_code 40 = .ok (.iload_n 3, 1) := by decide +kernel
theorem d_Out_add_41 : decode prog_5_method_3_code 41 = .ok (.iastore, 1) := by decide +kernel
theorem d_Out_add_42 : decode prog_5_method_3_code 42 = .ok (.aload_n 0, 1) := by decide +kernel
theorem d_Out_add_43 : decode prog_5_method_3_code 43 = .ok (.dup, 1) := by decide +kernel
theorem d_Out_add_44 : decode prog_5_method_3_code 44 = .ok (.getfield 21, 3) := by decide +kernel
theorem d_Out_add_47 : decode prog_5_method_3_code 47 = .ok (.iconst 1, 1) := by decide +kernel
theorem d_Out_add_48 : decode prog_5_method_3_code 48 = .ok (.iadd, 1) := by decide +kernel
theorem d_Out_add_49 : decode prog_5_method_3_code 49 = .ok (.putfield 21, 3) := by decide +kernel
theorem d_Out_add_52 : decode prog_5_method_3_code 52 = .ok (.aload_n 0, 1) := by decide +kernel
theorem d_Out_add_53 : decode prog_5_method_3_code 53 = .ok (.getfield 21, 3) := by decide +kernel
theorem d_Out_add_56 : decode prog_5_method_3_code 56 = .ok (.ireturn, 1) := by decide +kernel
def f_Out_add (q : Nat) (p1 : Int32) (p2 : Int32) (p3 : Int32) (σ : Mem) : Option (Int32 × Mem) :=
  bd (f_X_isWithin (σ q 0) (0 : Int32) (3 : Int32) σ) fun r1 σ2 =>
  if r1 = 0 then
    some (σ2 q 0, σ2)
  else
    if ib (σ2 q 0) 4 then
      lt (wr σ2 (q + 1) (σ2 q 0).toNatClampNeg p1) fun σ3 =>
      if ib (σ3 q 0) 4 then
        lt (wr σ3 (q + 2) (σ3 q 0).toNatClampNeg p2) fun σ4 =>
        if ib (σ4 q 0) 4 then
          lt (wr σ4 (q + 3) (σ4 q 0).toNatClampNeg p3) fun σ5 =>
          lt (wr σ5 q 0 ((σ5 q 0) + (1 : Int32))) fun σ6 =>
          some (σ6 q 0, σ6)
        else none
      else none
    else none
set_option maxRecDepth 100000 in
set_option maxHeartbeats 4000000 in
theorem c_Out_add {X : CX} (l : Launch) (q : Nat) (p1 : Int32) (p2 : Int32) (p3 : Int32) (hq : OutagesOK X q) (σ : Mem) : CT X l y_Out_add prog_5_method_3_code 4 (some .int) 1 vI [.ref (xa X q), .int p1, .int p2, .int p3] σ (f_Out_add q p1 p2 p3 σ) := by
  refine CT_of (by decide +kernel) (Nat.le_of_ble_eq_true rfl) ?_
  intro p e s m args below meth c F hlk hr
  have F : FR p s m args c prog_5_method_3_code 4 "SensorHub$Outages" X := F
  show G X p l e (rmD 1) s m args below meth c 4 0 0 (QI X below args s vI) 0 [(0, .ref (xa X q)), (1, .int p1), (2, .int p2), (3, .int p3)] [] σ _
  unfold f_Out_add
  refine g_aload_n F d_Out_add_0 0 rfl ?_
  refine g_getI F fs_3_21 hq.1 rfl d_Out_add_1 ?_
  refine g_iconst F (v := 0) d_Out_add_4 (by decide) ?_
  refine g_iconst F (v := 3) d_Out_add_5 (by decide) ?_
  refine g_callSN F (dp := 0) (As := [.int (σ q 0), .int (0 : Int32), .int (3 : Int32)]) (c_X_isWithin l _ _ _ _) cs_3_25 rfl rfl (Nat.le_of_ble_eq_true rfl) ⟨Nat.le_of_ble_eq_true rfl, Nat.le_of_ble_eq_true rfl⟩ ⟨Nat.zero_le _, Nat.zero_le _⟩ d_Out_add_6 (fun r1 σ2 h1 => ?_)
  refine g_if_eq F (tgt := 52) d_Out_add_9 (by decide) (fun h2 => ?_) (fun h3 => ?_)
  · refine g_aload_n F d_Out_add_52 0 rfl ?_
    refine g_getI F fs_3_21 hq.1 rfl d_Out_add_53 ?_
    exact g_iret F hlk hr d_Out_add_56
  refine g_aload_n F d_Out_add_12 0 rfl ?_
  refine g_getR F fs_3_9 hq.1 rfl d_Out_add_13 ?_
  refine g_aload_n F d_Out_add_16 0 rfl ?_
  refine g_getI F fs_3_21 hq.1 rfl d_Out_add_17 ?_
  refine g_iload_n F d_Out_add_20 1 rfl ?_
  refine g_iast F (n := 4) hq.2.1 d_Out_add_21 ?_
  refine g_ltM (fun σ3 _ => ?_)
  refine g_aload_n F d_Out_add_22 0 rfl ?_
  refine g_getR F fs_3_15 hq.1 rfl d_Out_add_23 ?_
  refine g_aload_n F d_Out_add_26 0 rfl ?_
  refine g_getI F fs_3_21 hq.1 rfl d_Out_add_27 ?_
  refine g_iload_n F d_Out_add_30 2 rfl ?_
  refine g_iast F (n := 4) hq.2.2.1 d_Out_add_31 ?_
  refine g_ltM (fun σ4 _ => ?_)
  refine g_aload_n F d_Out_add_32 0 rfl ?_
  refine g_getR F fs_3_18 hq.1 rfl d_Out_add_33 ?_
  refine g_aload_n F d_Out_add_36 0 rfl ?_
  refine g_getI F fs_3_21 hq.1 rfl d_Out_add_37 ?_
  refine g_iload_n F d_Out_add_40 3 rfl ?_
  refine g_iast F (n := 4) hq.2.2.2 d_Out_add_41 ?_
  refine g_ltM (fun σ5 _ => ?_)
  refine g_aload_n F d_Out_add_42 0 rfl ?_
  refine g_dup F d_Out_add_43 rfl ?_
  refine g_getI F fs_3_21 hq.1 rfl d_Out_add_44 ?_
  refine g_iconst F (v := 1) d_Out_add_47 (by decide) ?_
  refine g_iadd F d_Out_add_48 ?_
  refine g_putI F fw_3_21 hq.1 rfl d_Out_add_49 ?_
  refine g_ltM (fun σ6 _ => ?_)
  refine g_aload_n F d_Out_add_52 0 rfl ?_
  refine g_getI F fs_3_21 hq.1 rfl d_Out_add_53 ?_
  exact g_iret F hlk hr d_Out_add_56
def y_Sto_entriesOf : MethodName := ⟨"SensorHub$Store", "entriesOf", "(I)I"⟩
theorem d_Sto_entriesOf_0 : decode prog_7_method_4_code 0 = .ok (.iconst 0, 1) := by decide +kernel
theorem d_Sto_entriesOf_1 : decode prog_7_method_4_code 1 = .ok (.istore_n 2, 1) := by decide +kernel
theorem d_Sto_entriesOf_2 : decode prog_7_method_4_code 2 = .ok (.iconst 0, 1) := by decide +kernel
theorem d_Sto_entriesOf_3 : decode prog_7_method_4_code 3 = .ok (.istore_n 3, 1) := by decide +kernel
theorem d_Sto_entriesOf_4 : decode prog_7_method_4_code 4 = .ok (.iload_n 3, 1) := by decide +kernel
theorem d_Sto_entriesOf_5 : decode prog_7_method_4_code 5 = .ok (.aload_n 0, 1) := by decide +kernel
theorem d_Sto_entriesOf_6 : decode prog_7_method_4_code 6 = .ok (.getfield 15, 3) := by decide +kernel
theorem d_Sto_entriesOf_9 : decode prog_7_method_4_code 9 = .ok (.if_icmp .ge 22, 3) := by decide +kernel
theorem d_Sto_entriesOf_12 : decode prog_7_method_4_code 12 = .ok (.aload_n 0, 1) := by decide +kernel
theorem d_Sto_entriesOf_13 : decode prog_7_method_4_code 13 = .ok (.iload_n 3, 1) := by decide +kernel
theorem d_Sto_entriesOf_14 : decode prog_7_method_4_code 14 = .ok (.iconst 0, 1) := by decide +kernel
theorem d_Sto_entriesOf_15 : decode prog_7_method_4_code 15 = .ok (.invokevirtual 23, 3) := by decide +kernel
theorem d_Sto_entriesOf_18 : decode prog_7_method_4_code 18 = .ok (.iload_n 1, 1) := by decide +kernel
theorem d_Sto_entriesOf_19 : decode prog_7_method_4_code 19 = .ok (.if_icmp .ne 6, 3) := by decide +kernel
theorem d_Sto_entriesOf_22 : decode prog_7_method_4_code 22 = .ok (.iinc 2 1, 3) := by decide +kernel
theorem d_Sto_entriesOf_25 : decode prog_7_method_4_code 25 = .ok (.iinc 3 1, 3) := by decide +kernel
theorem d_Sto_entriesOf_28 : decode prog_7_method_4_code 28 = .ok (.goto (-24), 3) := by decide +kernel
theorem d_Sto_entriesOf_31 : decode prog_7_method_4_code 31 = .ok (.iload_n 2, 1) := by decide +kernel
theorem d_Sto_entriesOf_32 : decode prog_7_method_4_code 32 = .ok (.ireturn, 1) := by decide +kernel
theorem cv_5_23 : CSV "SensorHub$Store" 23 y_Sto_part prog_7_method_3_code 3 (some .int) 2 := ⟨gw_I 845 (by decide +kernel) rfl, gw_I 517 (by decide +kernel) rfl, gw_I 518 (by decide +kernel) rfl, gw_I 73 (by decide +kernel) rfl, gw_I 519 (by decide +kernel) rfl, ⟨by decide +kernel, by decide +kernel⟩, by decide +kernel⟩
def L_Sto_entriesOf_4 (r0 : Nat) (y1 : Int32) (k : Int32 → Mem → Option (Int32 × Mem)) : Nat → Int32 → Int32 → Mem → Option (Int32 × Mem)
  | 0, _, _, _ => none
  | n + 1, x2, x3, σ =>
    if (σ r0 0) ≤ x3 then
      k x2 σ
    else
      bd (f_Sto_part r0 x3 (0 : Int32) σ) fun r1 σ2 =>
      if r1 = y1 then L_Sto_entriesOf_4 r0 y1 k n (x2 + 1) (x3 + 1) σ2 else L_Sto_entriesOf_4 r0 y1 k n x2 (x3 + 1) σ2
def f_Sto_entriesOf (q : Nat) (p1 : Int32) (σ : Mem) : Option (Int32 × Mem) :=
  L_Sto_entriesOf_4 q p1 (fun z3 σ4 =>
    some (z3, σ4)) FU (0 : Int32) (0 : Int32) σ
set_option maxRecDepth 100000 in
set_option maxHeartbeats 4000000 in
theorem l_L_Sto_entriesOf_4 {X : CX} {p : Program} {l : Launch} {e : Env} {s : State} {m : MethodId} {args : Array Value} {below : List Frame} {meth : Method} {c : Code} (F : FR p s m args c prog_7_method_4_code 4 "SensorHub$Store" X) (hlk : meth.locks = false) (hr : meth.sig.returnType = some .int) (r0 : Nat) (y1 : Int32) (hr0 : StoreOK X r0) (k : Int32 → Mem → Option (Int32 × Mem)) (hk : ∀ (x2 : Int32) (σ : Mem), G X p l e (rmD 2) s m args below meth c 4 0 0 (QI X below args s vI) 31 [(2, .int x2)] [] σ (k x2 σ)) : ∀ (n : Nat) (x2 : Int32) (x3 : Int32) (σ : Mem), G X p l e (rmD 2) s m args below meth c 4 0 0 (QI X below args s vI) 4 [(0, .ref (xa X r0)), (1, .int y1), (2, .int x2), (3, .int x3)] [] σ (L_Sto_entriesOf_4 r0 y1 k n x2 x3 σ) := by
  intro n
  induction n with
  | zero => intros; exact g_no
  | succ n ih =>
    intro x2 x3 σ
    unfold L_Sto_entriesOf_4
    refine g_iload_n F d_Sto_entriesOf_4 3 rfl ?_
    refine g_aload_n F d_Sto_entriesOf_5 0 rfl ?_
    refine g_getI F fs_5_15 hr0.1 rfl d_Sto_entriesOf_6 ?_
    refine g_icmp_ge F (tgt := 31) d_Sto_entriesOf_9 (by decide) (fun h1 => ?_) (fun h2 => ?_)
    · exact g_sub [2] rfl (hk _ _)
    refine g_aload_n F d_Sto_entriesOf_12 0 rfl ?_
    refine g_iload_n F d_Sto_entriesOf_13 3 rfl ?_
    refine g_iconst F (v := 0) d_Sto_entriesOf_14 (by decide) ?_
    refine g_callV F (dp := 1) (ci := 5) (As := [.int x3, .int (0 : Int32)]) (c_Sto_part l _ _ _ hr0 _) cv_5_23 hr0.1 rfl rfl rfl (Nat.le_of_ble_eq_true rfl) ⟨Nat.le_of_ble_eq_true rfl, Nat.le_of_ble_eq_true rfl⟩ ⟨Nat.zero_le _, Nat.zero_le _⟩ d_Sto_entriesOf_15 (fun r1 σ2 h3 => ?_)
    refine g_iload_n F d_Sto_entriesOf_18 1 rfl ?_
    refine g_icmp_ne F (tgt := 25) d_Sto_entriesOf_19 (by decide) (fun h4 => ?_) (fun h5 => ?_)
    · refine g_iinc F (v := 1) (ls' := [(2, .int (x2 + 1)), (0, .ref (xa X r0)), (1, .int y1), (3, .int x3)]) d_Sto_entriesOf_22 2 rfl (by decide) (by decide) rfl ?_
      refine g_iinc F (v := 1) (ls' := [(3, .int (x3 + 1)), (2, .int (x2 + 1)), (0, .ref (xa X r0)), (1, .int y1)]) d_Sto_entriesOf_25 3 rfl (by decide) (by decide) rfl ?_
      refine g_goto F (tgt := 4) d_Sto_entriesOf_28 (by decide) ?_
      exact g_sub [2, 3, 1, 0] rfl (ih _ _ _)
    refine g_iinc F (v := 1) (ls' := [(3, .int (x3 + 1)), (0, .ref (xa X r0)), (1, .int y1), (2, .int x2)]) d_Sto_entriesOf_25 3 rfl (by decide) (by decide) rfl ?_
    refine g_goto F (tgt := 4) d_Sto_entriesOf_28 (by decide) ?_
    exact g_sub [1, 2, 3, 0] rfl (ih _ _ _)
set_option maxRecDepth 100000 in
set_option maxHeartbeats 4000000 in
theorem c_Sto_entriesOf {X : CX} (l : Launch) (q : Nat) (p1 : Int32) (hq : StoreOK X q) (σ : Mem) : CT X l y_Sto_entriesOf prog_7_method_4_code 4 (some .int) 2 vI [.ref (xa X q), .int p1] σ (f_Sto_entriesOf q p1 σ) := by
  refine CT_of (by decide +kernel) (Nat.le_of_ble_eq_true rfl) ?_
  intro p e s m args below meth c F hlk hr
  have F : FR p s m args c prog_7_method_4_code 4 "SensorHub$Store" X := F
  show G X p l e (rmD 2) s m args below meth c 4 0 0 (QI X below args s vI) 0 [(0, .ref (xa X q)), (1, .int p1)] [] σ _
  unfold f_Sto_entriesOf
  refine g_iconst F (v := 0) d_Sto_entriesOf_0 (by decide) ?_
  refine g_istore_n F (ls' := [(2, .int (0 : Int32)), (0, .ref (xa X q)), (1, .int p1)]) d_Sto_entriesOf_1 (by decide) rfl ?_
  refine g_iconst F (v := 0) d_Sto_entriesOf_2 (by decide) ?_
  refine g_istore_n F (ls' := [(3, .int (0 : Int32)), (2, .int (0 : Int32)), (0, .ref (xa X q)), (1, .int p1)]) d_Sto_entriesOf_3 (by decide) rfl ?_
  refine g_sub [2, 3, 1, 0] rfl (l_L_Sto_entriesOf_4 F hlk hr _ _ hq _ (fun z3 σ4 => ?_) FU _ _ _)
  refine g_iload_n F d_Sto_entriesOf_31 0 rfl ?_
  exact g_iret F hlk hr d_Sto_entriesOf_32
def y_X_greatestJitter : MethodName := ⟨"SensorHub", "greatestJitter", "(I)I"⟩
theorem d_X_greatestJitter_0 : decode prog_1_method_25_code 0 = .ok (.bipush 9, 2) := by decide +kernel
theorem d_X_greatestJitter_2 : decode prog_1_method_25_code 2 = .ok (.iload_n 0, 1) := by decide +kernel
theorem d_X_greatestJitter_3 : decode prog_1_method_25_code 3 = .ok (.iconst 1, 1) := by decide +kernel
theorem d_X_greatestJitter_4 : decode prog_1_method_25_code 4 = .ok (.isub, 1) := by decide +kernel
theorem d_X_greatestJitter_5 : decode prog_1_method_25_code 5 = .ok (.invokestatic 230, 3) := by decide +kernel
theorem d_X_greatestJitter_8 : decode prog_1_method_25_code 8 = .ok (.ireturn, 1) := by decide +kernel
theorem cs_7_230 : CSS "SensorHub" 230 y_Mat_min prog_11_method_69_code 2 (some .int) 2 := ⟨gw_I 397 (by decide +kernel) rfl, gw_I 398 (by decide +kernel) rfl, gw_I 79 (by decide +kernel) rfl, gw_I 399 (by decide +kernel) rfl, ⟨by decide +kernel, by decide +kernel⟩, by decide +kernel⟩
def f_X_greatestJitter (p0 : Int32) (σ : Mem) : Option (Int32 × Mem) :=
  bd (f_Mat_min (9 : Int32) (p0 - (1 : Int32)) σ) fun r1 σ2 =>
  some (r1, σ2)
set_option maxRecDepth 100000 in
set_option maxHeartbeats 4000000 in
theorem c_X_greatestJitter {X : CX} (l : Launch) (p0 : Int32)  (σ : Mem) : CT X l y_X_greatestJitter prog_1_method_25_code 1 (some .int) 1 vI [.int p0] σ (f_X_greatestJitter p0 σ) := by
  refine CT_of (by decide +kernel) (Nat.le_of_ble_eq_true rfl) ?_
  intro p e s m args below meth c F hlk hr
  have F : FR p s m args c prog_1_method_25_code 1 "SensorHub" X := F
  show G X p l e (rmD 1) s m args below meth c 1 0 0 (QI X below args s vI) 0 [(0, .int p0)] [] σ _
  unfold f_X_greatestJitter
  refine g_bipush F (v := 9) d_X_greatestJitter_0 (by decide) ?_
  refine g_iload_n F d_X_greatestJitter_2 0 rfl ?_
  refine g_iconst F (v := 1) d_X_greatestJitter_3 (by decide) ?_
  refine g_isub F d_X_greatestJitter_4 ?_
  refine g_callS F (dp := 0) (As := [.int (9 : Int32), .int (p0 - (1 : Int32))]) (c_Mat_min l _ _ _) cs_7_230 rfl rfl (Nat.le_of_ble_eq_true rfl) ⟨Nat.le_of_ble_eq_true rfl, Nat.le_of_ble_eq_true rfl⟩ ⟨Nat.zero_le _, Nat.zero_le _⟩ d_X_greatestJitter_5 (fun r1 σ2 h1 => ?_)
  exact g_iret F hlk hr d_X_greatestJitter_8
