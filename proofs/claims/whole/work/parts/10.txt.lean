def y_Txt_isFull : MethodName := ⟨"SensorHub$Text", "isFull", "()Z"⟩
theorem d_Txt_isFull_0 : decode prog_8_method_2_code 0 = .ok (.aload_n 0, 1) := by decide +kernel
theorem d_Txt_isFull_1 : decode prog_8_method_2_code 1 = .ok (.getfield 15, 3) := by decide +kernel
theorem d_Txt_isFull_4 : decode prog_8_method_2_code 4 = .ok (.sipush 160, 3) := by decide +kernel
theorem d_Txt_isFull_7 : decode prog_8_method_2_code 7 = .ok (.if_icmp .lt 7, 3) := by decide +kernel
theorem d_Txt_isFull_10 : decode prog_8_method_2_code 10 = .ok (.iconst 1, 1) := by decide +kernel
theorem d_Txt_isFull_11 : decode prog_8_method_2_code 11 = .ok (.goto 4, 3) := by decide +kernel
theorem d_Txt_isFull_14 : decode prog_8_method_2_code 14 = .ok (.iconst 0, 1) := by decide +kernel
theorem d_Txt_isFull_15 : decode prog_8_method_2_code 15 = .ok (.ireturn, 1) := by decide +kernel
theorem fs_6_15 : FS "SensorHub$Text" 15 6 0 := ⟨"SensorHub$Text", T_6, 6, rfl, by decide, rfl, gw_I 356 (by decide +kernel) rfl⟩
def f_Txt_isFull (q : Nat) (σ : Mem) : Option (Int32 × Mem) :=
  if (σ q 0) < (160 : Int32) then some ((0 : Int32), σ) else some ((1 : Int32), σ)
set_option maxRecDepth 100000 in
set_option maxHeartbeats 4000000 in
theorem c_Txt_isFull {X : CX} (l : Launch) (q : Nat) (hq : TextOK X q) (σ : Mem) : CT X l y_Txt_isFull prog_8_method_2_code 1 (some .boolean) 0 vI [.ref (xa X q)] σ (f_Txt_isFull q σ) := by
  refine CT_of (by decide +kernel) (Nat.le_of_ble_eq_true rfl) ?_
  intro p e s m args below meth c F hlk hr
  have F : FR p s m args c prog_8_method_2_code 1 "SensorHub$Text" X := F
  show G X p l e (rmD 0) s m args below meth c 1 0 0 (QI X below args s vI) 0 [(0, .ref (xa X q))] [] σ _
  unfold f_Txt_isFull
  refine g_aload_n F d_Txt_isFull_0 0 rfl ?_
  refine g_getI F fs_6_15 hq.1 rfl d_Txt_isFull_1 ?_
  refine g_sipush F (v := 160) d_Txt_isFull_4 (by decide) ?_
  refine g_icmp_lt F (tgt := 14) d_Txt_isFull_7 (by decide) (fun h1 => ?_) (fun h2 => ?_)
  · refine g_iconst F (v := 0) d_Txt_isFull_14 (by decide) ?_
    exact g_zretC F hlk hr (by decide) d_Txt_isFull_15
  refine g_iconst F (v := 1) d_Txt_isFull_10 (by decide) ?_
  refine g_goto F (tgt := 15) d_Txt_isFull_11 (by decide) ?_
  exact g_zretC F hlk hr (by decide) d_Txt_isFull_15
def y_Txt_add : MethodName := ⟨"SensorHub$Text", "add", "(I)I"⟩
theorem d_Txt_add_0 : decode prog_8_method_3_code 0 = .ok (.aload_n 0, 1) := by decide +kernel
theorem d_Txt_add_1 : decode prog_8_method_3_code 1 = .ok (.getfield 15, 3) := by decide +kernel
theorem d_Txt_add_4 : decode prog_8_method_3_code 4 = .ok (.iconst 0, 1) := by decide +kernel
theorem d_Txt_add_5 : decode prog_8_method_3_code 5 = .ok (.sipush 159, 3) := by decide +kernel
theorem d_Txt_add_8 : decode prog_8_method_3_code 8 = .ok (.invokestatic 19, 3) := by decide +kernel
theorem d_Txt_add_11 : decode prog_8_method_3_code 11 = .ok (.ifCond .eq 23, 3) := by decide +kernel
theorem d_Txt_add_14 : decode prog_8_method_3_code 14 = .ok (.aload_n 0, 1) := by decide +kernel
theorem d_Txt_add_15 : decode prog_8_method_3_code 15 = .ok (.getfield 9, 3) := by decide +kernel
theorem d_Txt_add_18 : decode prog_8_method_3_code 18 = .ok (.aload_n 0, 1) := by decide +kernel
theorem d_Txt_add_19 : decode prog_8_method_3_code 19 = .ok (.getfield 15, 3) := by decide +kernel
theorem d_Txt_add_22 : decode prog_8_method_3_code 22 = .ok (.iload_n 1, 1) := by decide +kernel
theorem d_Txt_add_23 : decode prog_8_method_3_code 23 = .ok (.iastore, 1) := by decide +kernel
theorem d_Txt_add_24 : decode prog_8_method_3_code 24 = .ok (.aload_n 0, 1) := by decide +kernel
theorem d_Txt_add_25 : decode prog_8_method_3_code 25 = .ok (.dup, 1) := by decide +kernel
theorem d_Txt_add_26 : decode prog_8_method_3_code 26 = .ok (.getfield 15, 3) := by decide +kernel
theorem d_Txt_add_29 : decode prog_8_method_3_code 29 = .ok (.iconst 1, 1) := by decide +kernel
theorem d_Txt_add_30 : decode prog_8_method_3_code 30 = .ok (.iadd, 1) := by decide +kernel
theorem d_Txt_add_31 : decode prog_8_method_3_code 31 = .ok (.putfield 15, 3) := by decide +kernel
theorem d_Txt_add_34 : decode prog_8_method_3_code 34 = .ok (.aload_n 0, 1) := by decide +kernel
theorem d_Txt_add_35 : decode prog_8_method_3_code 35 = .ok (.getfield 15, 3) := by decide +kernel
theorem d_Txt_add_38 : decode prog_8_method_3_code 38 = .ok (.ireturn, 1) := by decide +kernel
theorem cs_6_19 : CSN "SensorHub$Text" 19 y_X_isWithin "SensorHub" prog_1_method_24_code 3 (some .boolean) 3 := ⟨List.mem_of_getElem? (i := 9) rfl, gw_I 284 (by decide +kernel) rfl, gw_I 70 (by decide +kernel) rfl, gw_I 285 (by decide +kernel) rfl, ⟨by decide +kernel, by decide +kernel⟩, by decide +kernel⟩
theorem fs_6_9 : FS "SensorHub$Text" 9 6 1 := ⟨"SensorHub$Text", T_6, 6, rfl, by decide, rfl, gw_I 358 (by decide +kernel) rfl⟩
theorem fw_6_15 : FW "SensorHub$Text" 15 6 0 .int := ⟨"SensorHub$Text", T_6, 6, rfl, by decide, rfl, gw_I 356 (by decide +kernel) rfl, rfl, by decide +kernel⟩
def f_Txt_add (q : Nat) (p1 : Int32) (σ : Mem) : Option (Int32 × Mem) :=
  bd (f_X_isWithin (σ q 0) (0 : Int32) (159 : Int32) σ) fun r1 σ2 =>
  if r1 = 0 then
    some (σ2 q 0, σ2)
  else
    if ib (σ2 q 0) 160 then
      lt (wr σ2 (q + 1) (σ2 q 0).toNatClampNeg p1) fun σ3 =>
      lt (wr σ3 q 0 ((σ3 q 0) + (1 : Int32))) fun σ4 =>
      some (σ4 q 0, σ4)
    else none
set_option maxRecDepth 100000 in
set_option maxHeartbeats 4000000 in
theorem c_Txt_add {X : CX} (l : Launch) (q : Nat) (p1 : Int32) (hq : TextOK X q) (σ : Mem) : CT X l y_Txt_add prog_8_method_3_code 2 (some .int) 1 vI [.ref (xa X q), .int p1] σ (f_Txt_add q p1 σ) := by
  refine CT_of (by decide +kernel) (Nat.le_of_ble_eq_true rfl) ?_
  intro p e s m args below meth c F hlk hr
  have F : FR p s m args c prog_8_method_3_code 2 "SensorHub$Text" X := F
  show G X p l e (rmD 1) s m args below meth c 2 0 0 (QI X below args s vI) 0 [(0, .ref (xa X q)), (1, .int p1)] [] σ _
  unfold f_Txt_add
  refine g_aload_n F d_Txt_add_0 0 rfl ?_
  refine g_getI F fs_6_15 hq.1 rfl d_Txt_add_1 ?_
  refine g_iconst F (v := 0) d_Txt_add_4 (by decide) ?_
  refine g_sipush F (v := 159) d_Txt_add_5 (by decide) ?_
  refine g_callSN F (dp := 0) (As := [.int (σ q 0), .int (0 : Int32), .int (159 : Int32)]) (c_X_isWithin l _ _ _ _) cs_6_19 rfl rfl (Nat.le_of_ble_eq_true rfl) ⟨Nat.le_of_ble_eq_true rfl, Nat.le_of_ble_eq_true rfl⟩ ⟨Nat.zero_le _, Nat.zero_le _⟩ d_Txt_add_8 (fun r1 σ2 h1 => ?_)
  refine g_if_eq F (tgt := 34) d_Txt_add_11 (by decide) (fun h2 => ?_) (fun h3 => ?_)
  · refine g_aload_n F d_Txt_add_34 0 rfl ?_
    refine g_getI F fs_6_15 hq.1 rfl d_Txt_add_35 ?_
    exact g_iret F hlk hr d_Txt_add_38
  refine g_aload_n F d_Txt_add_14 0 rfl ?_
  refine g_getR F fs_6_9 hq.1 rfl d_Txt_add_15 ?_
  refine g_aload_n F d_Txt_add_18 0 rfl ?_
  refine g_getI F fs_6_15 hq.1 rfl d_Txt_add_19 ?_
  refine g_iload_n F d_Txt_add_22 1 rfl ?_
  refine g_iast F (n := 160) hq.2 d_Txt_add_23 ?_
  refine g_ltM (fun σ3 _ => ?_)
  refine g_aload_n F d_Txt_add_24 0 rfl ?_
  refine g_dup F d_Txt_add_25 rfl ?_
  refine g_getI F fs_6_15 hq.1 rfl d_Txt_add_26 ?_
  refine g_iconst F (v := 1) d_Txt_add_29 (by decide) ?_
  refine g_iadd F d_Txt_add_30 ?_
  refine g_putI F fw_6_15 hq.1 rfl d_Txt_add_31 ?_
  refine g_ltM (fun σ4 _ => ?_)
  refine g_aload_n F d_Txt_add_34 0 rfl ?_
  refine g_getI F fs_6_15 hq.1 rfl d_Txt_add_35 ?_
  exact g_iret F hlk hr d_Txt_add_38
def y_Txt_clear : MethodName := ⟨"SensorHub$Text", "clear", "()I"⟩
theorem d_Txt_clear_0 : decode prog_8_method_4_code 0 = .ok (.aload_n 0, 1) := by decide +kernel
theorem d_Txt_clear_1 : decode prog_8_method_4_code 1 = .ok (.getfield 15, 3) := by decide +kernel
theorem d_Txt_clear_4 : decode prog_8_method_4_code 4 = .ok (.istore_n 1, 1) := by decide +kernel
theorem d_Txt_clear_5 : decode prog_8_method_4_code 5 = .ok (.aload_n 0, 1) := by decide +kernel
theorem d_Txt_clear_6 : decode prog_8_method_4_code 6 = .ok (.iconst 0, 1) := by decide +kernel
theorem d_Txt_clear_7 : decode prog_8_method_4_code 7 = .ok (.putfield 15, 3) := by decide +kernel
theorem d_Txt_clear_10 : decode prog_8_method_4_code 10 = .ok (.iload_n 1, 1) := by decide +kernel
theorem d_Txt_clear_11 : decode prog_8_method_4_code 11 = .ok (.ireturn, 1) := by decide +kernel
def f_Txt_clear (q : Nat) (σ : Mem) : Option (Int32 × Mem) :=
  lt (σ q 0) fun v1 =>
  lt (wr σ q 0 (0 : Int32)) fun σ2 =>
  some (v1, σ2)
set_option maxRecDepth 100000 in
set_option maxHeartbeats 4000000 in
theorem c_Txt_clear {X : CX} (l : Launch) (q : Nat) (hq : TextOK X q) (σ : Mem) : CT X l y_Txt_clear prog_8_method_4_code 2 (some .int) 0 vI [.ref (xa X q)] σ (f_Txt_clear q σ) := by
  refine CT_of (by decide +kernel) (Nat.le_of_ble_eq_true rfl) ?_
  intro p e s m args below meth c F hlk hr
  have F : FR p s m args c prog_8_method_4_code 2 "SensorHub$Text" X := F
  show G X p l e (rmD 0) s m args below meth c 2 0 0 (QI X below args s vI) 0 [(0, .ref (xa X q))] [] σ _
  unfold f_Txt_clear
  refine g_aload_n F d_Txt_clear_0 0 rfl ?_
  refine g_getI F fs_6_15 hq.1 rfl d_Txt_clear_1 ?_
  refine g_ltI (fun v1 _ => ?_)
  refine g_istore_n F (ls' := [(1, .int v1), (0, .ref (xa X q))]) d_Txt_clear_4 (by decide) rfl ?_
  refine g_aload_n F d_Txt_clear_5 1 rfl ?_
  refine g_iconst F (v := 0) d_Txt_clear_6 (by decide) ?_
  refine g_putI F fw_6_15 hq.1 rfl d_Txt_clear_7 ?_
  refine g_ltM (fun σ2 _ => ?_)
  refine g_iload_n F d_Txt_clear_10 0 rfl ?_
  exact g_iret F hlk hr d_Txt_clear_11
def y_Txt_codeAt : MethodName := ⟨"SensorHub$Text", "codeAt", "(I)I"⟩
theorem d_Txt_codeAt_0 : decode prog_8_method_5_code 0 = .ok (.iload_n 1, 1) := by decide +kernel
theorem d_Txt_codeAt_1 : decode prog_8_method_5_code 1 = .ok (.ifCond .lt 27, 3) := by decide +kernel
theorem d_Txt_codeAt_4 : decode prog_8_method_5_code 4 = .ok (.iload_n 1, 1) := by decide +kernel
theorem d_Txt_codeAt_5 : decode prog_8_method_5_code 5 = .ok (.aload_n 0, 1) := by decide +kernel
theorem d_Txt_codeAt_6 : decode prog_8_method_5_code 6 = .ok (.getfield 15, 3) := by decide +kernel
theorem d_Txt_codeAt_9 : decode prog_8_method_5_code 9 = .ok (.if_icmp .ge 19, 3) := by decide +kernel
theorem d_Txt_codeAt_12 : decode prog_8_method_5_code 12 = .ok (.iload_n 1, 1) := by decide +kernel
theorem d_Txt_codeAt_13 : decode prog_8_method_5_code 13 = .ok (.sipush 160, 3) := by decide +kernel
theorem d_Txt_codeAt_16 : decode prog_8_method_5_code 16 = .ok (.if_icmp .ge 12, 3) := by decide +kernel
theorem d_Txt_codeAt_19 : decode prog_8_method_5_code 19 = .ok (.aload_n 0, 1) := by decide +kernel
theorem d_Txt_codeAt_20 : decode prog_8_method_5_code 20 = .ok (.getfield 9, 3) := by decide +kernel
theorem d_Txt_codeAt_23 : decode prog_8_method_5_code 23 = .ok (.iload_n 1, 1) := by decide +kernel
theorem d_Txt_codeAt_24 : decode prog_8_method_5_code 24 = .ok (.iaload, 1) := by decide +kernel
theorem d_Txt_codeAt_25 : decode prog_8_method_5_code 25 = .ok (.goto 4, 3) := by decide +kernel
theorem d_Txt_codeAt_28 : decode prog_8_method_5_code 28 = .ok (.iconst 0, 1) := by decide +kernel
theorem d_Txt_codeAt_29 : decode prog_8_method_5_code 29 = .ok (.ireturn, 1) := by decide +kernel
def f_Txt_codeAt (q : Nat) (p1 : Int32) (σ : Mem) : Option (Int32 × Mem) :=
  if p1 < 0 then
    some ((0 : Int32), σ)
  else
    if (σ q 0) ≤ p1 then
      some ((0 : Int32), σ)
    else
      if (160 : Int32) ≤ p1 then
        some ((0 : Int32), σ)
      else
        if ib p1 160 then
          some (σ (q + 1) p1.toNatClampNeg, σ)
        else none
set_option maxRecDepth 100000 in
set_option maxHeartbeats 4000000 in
theorem c_Txt_codeAt {X : CX} (l : Launch) (q : Nat) (p1 : Int32) (hq : TextOK X q) (σ : Mem) : CT X l y_Txt_codeAt prog_8_method_5_code 2 (some .int) 0 vI [.ref (xa X q), .int p1] σ (f_Txt_codeAt q p1 σ) := by
  refine CT_of (by decide +kernel) (Nat.le_of_ble_eq_true rfl) ?_
  intro p e s m args below meth c F hlk hr
  have F : FR p s m args c prog_8_method_5_code 2 "SensorHub$Text" X := F
  show G X p l e (rmD 0) s m args below meth c 2 0 0 (QI X below args s vI) 0 [(0, .ref (xa X q)), (1, .int p1)] [] σ _
  unfold f_Txt_codeAt
  refine g_iload_n F d_Txt_codeAt_0 1 rfl ?_
  refine g_if_lt F (tgt := 28) d_Txt_codeAt_1 (by decide) (fun h1 => ?_) (fun h2 => ?_)
  · refine g_iconst F (v := 0) d_Txt_codeAt_28 (by decide) ?_
    exact g_iret F hlk hr d_Txt_codeAt_29
  refine g_iload_n F d_Txt_codeAt_4 1 rfl ?_
  refine g_aload_n F d_Txt_codeAt_5 0 rfl ?_
  refine g_getI F fs_6_15 hq.1 rfl d_Txt_codeAt_6 ?_
  refine g_icmp_ge F (tgt := 28) d_Txt_codeAt_9 (by decide) (fun h3 => ?_) (fun h4 => ?_)
  · refine g_iconst F (v := 0) d_Txt_codeAt_28 (by decide) ?_
    exact g_iret F hlk hr d_Txt_codeAt_29
  refine g_iload_n F d_Txt_codeAt_12 1 rfl ?_
  refine g_sipush F (v := 160) d_Txt_codeAt_13 (by decide) ?_
  refine g_icmp_ge F (tgt := 28) d_Txt_codeAt_16 (by decide) (fun h5 => ?_) (fun h6 => ?_)
  · refine g_iconst F (v := 0) d_Txt_codeAt_28 (by decide) ?_
    exact g_iret F hlk hr d_Txt_codeAt_29
  refine g_aload_n F d_Txt_codeAt_19 0 rfl ?_
  refine g_getR F fs_6_9 hq.1 rfl d_Txt_codeAt_20 ?_
  refine g_iload_n F d_Txt_codeAt_23 1 rfl ?_
  refine g_iald F (n := 160) hq.2 d_Txt_codeAt_24 ?_
  refine g_goto F (tgt := 29) d_Txt_codeAt_25 (by decide) ?_
  exact g_iret F hlk hr d_Txt_codeAt_29
def y_Txt_typeOf : MethodName := ⟨"SensorHub$Text", "typeOf", "(I)I"⟩
theorem d_Txt_typeOf_0 : decode prog_8_method_14_code 0 = .ok (.iload_n 0, 1) := by decide +kernel
theorem d_Txt_typeOf_1 : decode prog_8_method_14_code 1 = .ok (.ifCond .ne 5, 3) := by decide +kernel
theorem d_Txt_typeOf_4 : decode prog_8_method_14_code 4 = .ok (.iconst 0, 1) := by decide +kernel
theorem d_Txt_typeOf_5 : decode prog_8_method_14_code 5 = .ok (.ireturn, 1) := by decide +kernel
theorem d_Txt_typeOf_6 : decode prog_8_method_14_code 6 = .ok (.iload_n 0, 1) := by decide +kernel
theorem d_Txt_typeOf_7 : decode prog_8_method_14_code 7 = .ok (.bipush 97, 2) := by decide +kernel
theorem d_Txt_typeOf_9 : decode prog_8_method_14_code 9 = .ok (.if_icmp .lt 11, 3) := by decide +kernel
theorem d_Txt_typeOf_12 : decode prog_8_method_14_code 12 = .ok (.iload_n 0, 1) := by decide +kernel
theorem d_Txt_typeOf_13 : decode prog_8_method_14_code 13 = .ok (.bipush 122, 2) := by decide +kernel
theorem d_Txt_typeOf_15 : decode prog_8_method_14_code 15 = .ok (.if_icmp .gt 5, 3) := by decide +kernel
theorem d_Txt_typeOf_18 : decode prog_8_method_14_code 18 = .ok (.iconst 1, 1) := by decide +kernel
theorem d_Txt_typeOf_19 : decode prog_8_method_14_code 19 = .ok (.ireturn, 1) := by decide +kernel
theorem d_Txt_typeOf_20 : decode prog_8_method_14_code 20 = .ok (.iload_n 0, 1) := by decide +kernel
theorem d_Txt_typeOf_21 : decode prog_8_method_14_code 21 = .ok (.bipush 48, 2) := by decide +kernel
theorem d_Txt_typeOf_23 : decode prog_8_method_14_code 23 = .ok (.if_icmp .lt 13, 3) := by decide +kernel
theorem d_Txt_typeOf_26 : decode prog_8_method_14_code 26 = .ok (.iload_n 0, 1) := by decide +kernel
theorem d_Txt_typeOf_27 : decode prog_8_method_14_code 27 = .ok (.bipush 57, 2) := by decide +kernel
theorem d_Txt_typeOf_29 : decode prog_8_method_14_code 29 = .ok (.if_icmp .gt 7, 3) := by decide +kernel
theorem d_Txt_typeOf_32 : decode prog_8_method_14_code 32 = .ok (.iconst 2, 1) := by decide +kernel
theorem d_Txt_typeOf_33 : decode prog_8_method_14_code 33 = .ok (.goto 4, 3) := by decide +kernel
theorem d_Txt_typeOf_36 : decode prog_8_method_14_code 36 = .ok (.iconst 3, 1) := by decide +kernel
theorem d_Txt_typeOf_37 : decode prog_8_method_14_code 37 = .ok (.ireturn, 1) := by decide +kernel
def f_Txt_typeOf (p0 : Int32) (σ : Mem) : Option (Int32 × Mem) :=
  if p0 = 0 then some ((0 : Int32), σ) else if p0 < (97 : Int32) then if p0 < (48 : Int32) then some ((3 : Int32), σ) else if (57 : Int32) < p0 then some ((3 : Int32), σ) else some ((2 : Int32), σ) else if (122 : Int32) < p0 then if p0 < (48 : Int32) then some ((3 : Int32), σ) else if (57 : Int32) < p0 then some ((3 : Int32), σ) else some ((2 : Int32), σ) else some ((1 : Int32), σ)
set_option maxRecDepth 100000 in
set_option maxHeartbeats 4000000 in
theorem c_Txt_typeOf {X : CX} (l : Launch) (p0 : Int32)  (σ : Mem) : CT X l y_Txt_typeOf prog_8_method_14_code 1 (some .int) 0 vI [.int p0] σ (f_Txt_typeOf p0 σ) := by
  refine CT_of (by decide +kernel) (Nat.le_of_ble_eq_true rfl) ?_
  intro p e s m args below meth c F hlk hr
  have F : FR p s m args c prog_8_method_14_code 1 "SensorHub$Text" X := F
  show G X p l e (rmD 0) s m args below meth c 1 0 0 (QI X below args s vI) 0 [(0, .int p0)] [] σ _
  unfold f_Txt_typeOf
  refine g_iload_n F d_Txt_typeOf_0 0 rfl ?_
  refine g_if_ne F (tgt := 6) d_Txt_typeOf_1 (by decide) (fun h1 => ?_) (fun h2 => ?_)
  · refine g_iconst F (v := 0) d_Txt_typeOf_4 (by decide) ?_
    exact g_iret F hlk hr d_Txt_typeOf_5
  refine g_iload_n F d_Txt_typeOf_6 0 rfl ?_
  refine g_bipush F (v := 97) d_Txt_typeOf_7 (by decide) ?_
  refine g_icmp_lt F (tgt := 20) d_Txt_typeOf_9 (by decide) (fun h3 => ?_) (fun h4 => ?_)
  · refine g_iload_n F d_Txt_typeOf_20 0 rfl ?_
    refine g_bipush F (v := 48) d_Txt_typeOf_21 (by decide) ?_
    refine g_icmp_lt F (tgt := 36) d_Txt_typeOf_23 (by decide) (fun h5 => ?_) (fun h6 => ?_)
    · refine g_iconst F (v := 3) d_Txt_typeOf_36 (by decide) ?_
      exact g_iret F hlk hr d_Txt_typeOf_37
    refine g_iload_n F d_Txt_typeOf_26 0 rfl ?_
    refine g_bipush F (v := 57) d_Txt_typeOf_27 (by decide) ?_
    refine g_icmp_gt F (tgt := 36) d_Txt_typeOf_29 (by decide) (fun h7 => ?_) (fun h8 => ?_)
    · refine g_iconst F (v := 3) d_Txt_typeOf_36 (by decide) ?_
      exact g_iret F hlk hr d_Txt_typeOf_37
    refine g_iconst F (v := 2) d_Txt_typeOf_32 (by decide) ?_
    refine g_goto F (tgt := 37) d_Txt_typeOf_33 (by decide) ?_
    exact g_iret F hlk hr d_Txt_typeOf_37
  refine g_iload_n F d_Txt_typeOf_12 0 rfl ?_
  refine g_bipush F (v := 122) d_Txt_typeOf_13 (by decide) ?_
  refine g_icmp_gt F (tgt := 20) d_Txt_typeOf_15 (by decide) (fun h9 => ?_) (fun h10 => ?_)
  · refine g_iload_n F d_Txt_typeOf_20 0 rfl ?_
    refine g_bipush F (v := 48) d_Txt_typeOf_21 (by decide) ?_
    refine g_icmp_lt F (tgt := 36) d_Txt_typeOf_23 (by decide) (fun h11 => ?_) (fun h12 => ?_)
    · refine g_iconst F (v := 3) d_Txt_typeOf_36 (by decide) ?_
      exact g_iret F hlk hr d_Txt_typeOf_37
    refine g_iload_n F d_Txt_typeOf_26 0 rfl ?_
    refine g_bipush F (v := 57) d_Txt_typeOf_27 (by decide) ?_
    refine g_icmp_gt F (tgt := 36) d_Txt_typeOf_29 (by decide) (fun h13 => ?_) (fun h14 => ?_)
    · refine g_iconst F (v := 3) d_Txt_typeOf_36 (by decide) ?_
      exact g_iret F hlk hr d_Txt_typeOf_37
    refine g_iconst F (v := 2) d_Txt_typeOf_32 (by decide) ?_
    refine g_goto F (tgt := 37) d_Txt_typeOf_33 (by decide) ?_
    exact g_iret F hlk hr d_Txt_typeOf_37
  refine g_iconst F (v := 1) d_Txt_typeOf_18 (by decide) ?_
  exact g_iret F hlk hr d_Txt_typeOf_19
def y_Txt_nextToken : MethodName := ⟨"SensorHub$Text", "nextToken", "()V"⟩
theorem d_Txt_nextToken_0 : decode prog_8_method_13_code 0 = .ok (.aload_n 0, 1) := by decide +kernel
theorem d_Txt_nextToken_1 : decode prog_8_method_13_code 1 = .ok (.getfield 23, 3) := by decide +kernel
theorem d_Txt_nextToken_4 : decode prog_8_method_13_code 4 = .ok (.ifCond .eq 4, 3) := by decide +kernel
theorem d_Txt_nextToken_7 : decode prog_8_method_13_code 7 = .ok (.return_, 1) := by decide +kernel
theorem d_Txt_nextToken_8 : decode prog_8_method_13_code 8 = .ok (.aload_n 0, 1) := by decide +kernel
theorem d_Txt_nextToken_9 : decode prog_8_method_13_code 9 = .ok (.getfield 27, 3) := by decide +kernel
theorem d_Txt_nextToken_12 : decode prog_8_method_13_code 12 = .ok (.aload_n 0, 1) := by decide +kernel
theorem d_Txt_nextToken_13 : decode prog_8_method_13_code 13 = .ok (.getfield 15, 3) := by decide +kernel
theorem d_Txt_nextToken_16 : decode prog_8_method_13_code 16 = .ok (.if_icmp .ge 29, 3) := by decide +kernel
theorem d_Txt_nextToken_19 : decode prog_8_method_13_code 19 = .ok (.aload_n 0, 1) := by decide +kernel
theorem d_Txt_nextToken_20 : decode prog_8_method_13_code 20 = .ok (.aload_n 0, 1) := by decide +kernel
theorem d_Txt_nextToken_21 : decode prog_8_method_13_code 21 = .ok (.getfield 27, 3) := by decide +kernel
theorem d_Txt_nextToken_24 : decode prog_8_method_13_code 24 = .ok (.invokevirtual 117, 3) := by decide +kernel
theorem d_Txt_nextToken_27 : decode prog_8_method_13_code 27 = .ok (.bipush 32, 2) := by decide +kernel
theorem d_Txt_nextToken_29 : decode prog_8_method_13_code 29 = .ok (.if_icmp .ne 16, 3) := by decide +kernel
theorem d_Txt_nextToken_32 : decode prog_8_method_13_code 32 = .ok (.aload_n 0, 1) := by decide +kernel
theorem d_Txt_nextToken_33 : decode prog_8_method_13_code 33 = .ok (.dup, 1) := by decide +kernel
theorem d_Txt_nextToken_34 : decode prog_8_method_13_code 34 = .ok (.getfield 27, 3) := by decide +kernel
theorem d_Txt_nextToken_37 : decode prog_8_method_13_code 37 = .ok (.iconst 1, 1) := by decide +kernel
theorem d_Txt_nextToken_38 : decode prog_8_method_13_code 38 = .ok (.iadd, 1) := by decide +kernel
theorem d_Txt_nextToken_39 : decode prog_8_method_13_code 39 = .ok (.putfield 27, 3) := by decide +kernel
theorem d_Txt_nextToken_42 : decode prog_8_method_13_code 42 = .ok (.goto (-34), 3) := by decide +kernel
theorem d_Txt_nextToken_45 : decode prog_8_method_13_code 45 = .ok (.aload_n 0, 1) := by decide +kernel
theorem d_Txt_nextToken_46 : decode prog_8_method_13_code 46 = .ok (.aload_n 0, 1) := by decide +kernel
theorem d_Txt_nextToken_47 : decode prog_8_method_13_code 47 = .ok (.getfield 27, 3) := by decide +kernel
theorem d_Txt_nextToken_50 : decode prog_8_method_13_code 50 = .ok (.putfield 40, 3) := by decide +kernel
theorem d_Txt_nextToken_53 : decode prog_8_method_13_code 53 = .ok (.aload_n 0, 1) := by decide +kernel
theorem d_Txt_nextToken_54 : decode prog_8_method_13_code 54 = .ok (.aload_n 0, 1) := by decide +kernel
theorem d_Txt_nextToken_55 : decode prog_8_method_13_code 55 = .ok (.aload_n 0, 1) := by decide +kernel
theorem d_Txt_nextToken_56 : decode prog_8_method_13_code 56 = .ok (.getfield 40, 3) := by decide +kernel
theorem d_Txt_nextToken_59 : decode prog_8_method_13_code 59 = .ok (.invokevirtual 117, 3) := by decide +kernel
theorem d_Txt_nextToken_62 : decode prog_8_method_13_code 62 = .ok (.invokestatic 120, 3) := by decide +kernel
theorem d_Txt_nextToken_65 : decode prog_8_method_13_code 65 = .ok (.putfield 33, 3) := by decide +kernel
theorem d_Txt_nextToken_68 : decode prog_8_method_13_code 68 = .ok (.aload_n 0, 1) := by decide +kernel
theorem d_Txt_nextToken_69 : decode prog_8_method_13_code 69 = .ok (.getfield 33, 3) := by decide +kernel
theorem d_Txt_nextToken_72 : decode prog_8_method_13_code 72 = .ok (.ifCond .eq 13, 3) := by decide +kernel
theorem d_Txt_nextToken_75 : decode prog_8_method_13_code 75 = .ok (.aload_n 0, 1) := by decide +kernel
theorem d_Txt_nextToken_76 : decode prog_8_method_13_code 76 = .ok (.dup, 1) := by decide +kernel
theorem d_Txt_nextToken_77 : decode prog_8_method_13_code 77 = .ok (.getfield 27, 3) := by decide +kernel
theorem d_Txt_nextToken_80 : decode prog_8_method_13_code 80 = .ok (.iconst 1, 1) := by decide +kernel
theorem d_Txt_nextToken_81 : decode prog_8_method_13_code 81 = .ok (.iadd, 1) := by decide +kernel
theorem d_Txt_nextToken_82 : decode prog_8_method_13_code 82 = .ok (.putfield 27, 3) := by decide +kernel
theorem d_Txt_nextToken_85 : decode prog_8_method_13_code 85 = .ok (.aload_n 0, 1) := by decide +kernel
theorem d_Txt_nextToken_86 : decode prog_8_method_13_code 86 = .ok (.getfield 33, 3) := by decide +kernel
theorem d_Txt_nextToken_89 : decode prog_8_method_13_code 89 = .ok (.iconst 1, 1) := by decide +kernel
theorem d_Txt_nextToken_90 : decode prog_8_method_13_code 90 = .ok (.if_icmp .eq 11, 3) := by decide +kernel
theorem d_Txt_nextToken_93 : decode prog_8_method_13_code 93 = .ok (.aload_n 0, 1) := by decide +kernel
theorem d_Txt_nextToken_94 : decode prog_8_method_13_code 94 = .ok (.getfield 33, 3) := by decide +kernel
theorem d_Txt_nextToken_97 : decode prog_8_method_13_code 97 = .ok (.iconst 2, 1) := by decide +kernel
theorem d_Txt_nextToken_98 : decode prog_8_method_13_code 98 = .ok (.if_icmp .ne 7, 3) := by decide +kernel
theorem d_Txt_nextToken_101 : decode prog_8_method_13_code 101 = .ok (.iconst 1, 1) := by decide +kernel
theorem d_Txt_nextToken_102 : decode prog_8_method_13_code 102 = .ok (.goto 4, 3) := by decide +kernel
theorem d_Txt_nextToken_105 : decode prog_8_method_13_code 105 = .ok (.iconst 0, 1) := by decide +kernel
theorem d_Txt_nextToken_106 : decode prog_8_method_13_code 106 = .ok (.istore_n 1, 1) := by decide +kernel
theorem d_Txt_nextToken_107 : decode prog_8_method_13_code 107 = .ok (.iload_n 1, 1) := by decide +kernel
theorem d_Txt_nextToken_108 : decode prog_8_method_13_code 108 = .ok (.ifCond .eq 45, 3) := by decide +kernel
theorem d_Txt_nextToken_111 : decode prog_8_method_13_code 111 = .ok (.aload_n 0, 1) := by decide +kernel
theorem d_Txt_nextToken_112 : decode prog_8_method_13_code 112 = .ok (.getfield 27, 3) := by decide +kernel
theorem d_Txt_nextToken_115 : decode prog_8_method_13_code 115 = .ok (.aload_n 0, 1) := by decide +kernel
theorem d_Txt_nextToken_116 : decode prog_8_method_13_code 116 = .ok (.getfield 15, 3) := by decide +kernel
theorem d_Txt_nextToken_119 : decode prog_8_method_13_code 119 = .ok (.if_icmp .ge 34, 3) := by decide +kernel
theorem d_Txt_nextToken_122 : decode prog_8_method_13_code 122 = .ok (.aload_n 0, 1) := by decide +kernel
theorem d_Txt_nextToken_123 : decode prog_8_method_13_code 123 = .ok (.aload_n 0, 1) := by decide +kernel
theorem d_Txt_nextToken_124 : decode prog_8_method_13_code 124 = .ok (.getfield 27, 3) := by decide +kernel
theorem d_Txt_nextToken_127 : decode prog_8_method_13_code 127 = .ok (.invokevirtual 117, 3) := by decide +kernel
theorem d_Txt_nextToken_130 : decode prog_8_method_13_code 130 = .ok (.invokestatic 120, 3) := by decide +kernel
theorem d_Txt_nextToken_133 : decode prog_8_method_13_code 133 = .ok (.aload_n 0, 1) := by decide +kernel
theorem d_Txt_nextToken_134 : decode prog_8_method_13_code 134 = .ok (.getfield 33, 3) := by decide +kernel
theorem d_Txt_nextToken_137 : decode prog_8_method_13_code 137 = .ok (.if_icmp .ne 16, 3) := by decide +kernel
theorem d_Txt_nextToken_140 : decode prog_8_method_13_code 140 = .ok (.aload_n 0, 1) := by decide +kernel
theorem d_Txt_nextToken_141 : decode prog_8_method_13_code 141 = .ok (.dup, 1) := by decide +kernel
theorem d_Txt_nextToken_142 : decode prog_8_method_13_code 142 = .ok (.getfield 27, 3) := by decide +kernel
theorem d_Txt_nextToken_145 : decode prog_8_method_13_code 145 = .ok (.iconst 1, 1) := by decide +kernel
theorem d_Txt_nextToken_146 : decode prog_8_method_13_code 146 = .ok (.iadd, 1) := by decide +kernel
theorem d_Txt_nextToken_147 : decode prog_8_method_13_code 147 = .ok (.putfield 27, 3) := by decide +kernel
theorem d_Txt_nextToken_150 : decode prog_8_method_13_code 150 = .ok (.goto (-43), 3) := by decide +kernel
theorem d_Txt_nextToken_153 : decode prog_8_method_13_code 153 = .ok (.return_, 1) := by decide +kernel
theorem fs_6_23 : FS "SensorHub$Text" 23 6 2 := ⟨"SensorHub$Text", T_6, 6, rfl, by decide, rfl, gw_I 359 (by decide +kernel) rfl⟩
theorem fs_6_27 : FS "SensorHub$Text" 27 6 5 := ⟨"SensorHub$Text", T_6, 6, rfl, by decide, rfl, gw_I 362 (by decide +kernel) rfl⟩
theorem cv_6_117 : CSV "SensorHub$Text" 117 y_Txt_codeAt prog_8_method_5_code 2 (some .int) 1 := ⟨gw_I 621 (by decide +kernel) rfl, gw_I 622 (by decide +kernel) rfl, gw_I 623 (by decide +kernel) rfl, gw_I 77 (by decide +kernel) rfl, gw_I 624 (by decide +kernel) rfl, ⟨by decide +kernel, by decide +kernel⟩, by decide +kernel⟩
theorem fw_6_27 : FW "SensorHub$Text" 27 6 5 .int := ⟨"SensorHub$Text", T_6, 6, rfl, by decide, rfl, gw_I 362 (by decide +kernel) rfl, rfl, by decide +kernel⟩
theorem fw_6_40 : FW "SensorHub$Text" 40 6 4 .int := ⟨"SensorHub$Text", T_6, 6, rfl, by decide, rfl, gw_I 361 (by decide +kernel) rfl, rfl, by decide +kernel⟩
theorem fs_6_40 : FS "SensorHub$Text" 40 6 4 := ⟨"SensorHub$Text", T_6, 6, rfl, by decide, rfl, gw_I 361 (by decide +kernel) rfl⟩
theorem cs_6_120 : CSS "SensorHub$Text" 120 y_Txt_typeOf prog_8_method_14_code 1 (some .int) 1 := ⟨gw_I 625 (by decide +kernel) rfl, gw_I 626 (by decide +kernel) rfl, gw_I 77 (by decide +kernel) rfl, gw_I 627 (by decide +kernel) rfl, ⟨by decide +kernel, by decide +kernel⟩, by decide +kernel⟩
theorem fw_6_33 : FW "SensorHub$Text" 33 6 3 .int := ⟨"SensorHub$Text", T_6, 6, rfl, by decide, rfl, gw_I 360 (by decide +kernel) rfl, rfl, by decide +kernel⟩
theorem fs_6_33 : FS "SensorHub$Text" 33 6 3 := ⟨"SensorHub$Text", T_6, 6, rfl, by decide, rfl, gw_I 360 (by decide +kernel) rfl⟩
def L_Txt_nextToken_8 (r0 : Nat) (k : Mem → Option (Unit × Mem)) : Nat → Mem → Option (Unit × Mem)
  | 0, _ => none
  | n + 1, σ =>
    if (σ r0 0) ≤ (σ r0 5) then
      k σ
    else
      bd (f_Txt_codeAt r0 (σ r0 5) σ) fun r1 σ2 =>
      if r1 = (32 : Int32) then
        lt (wr σ2 r0 5 ((σ2 r0 5) + (1 : Int32))) fun σ3 =>
        L_Txt_nextToken_8 r0 k n σ3
      else
        k σ2
def L_Txt_nextToken_107 (r0 : Nat) (y1 : Int32) (k : Mem → Option (Unit × Mem)) : Nat → Mem → Option (Unit × Mem)
  | 0, _ => none
  | n + 1, σ =>
    if y1 = 0 then
      k σ
    else
      if (σ r0 0) ≤ (σ r0 5) then
        k σ
      else
        bd (f_Txt_codeAt r0 (σ r0 5) σ) fun r11 σ12 =>
        bd (f_Txt_typeOf r11 σ12) fun r13 σ14 =>
        if r13 = (σ14 r0 3) then
          lt (wr σ14 r0 5 ((σ14 r0 5) + (1 : Int32))) fun σ15 =>
          L_Txt_nextToken_107 r0 y1 k n σ15
        else
          k σ14
def f_Txt_nextToken (q : Nat) (σ : Mem) : Option (Unit × Mem) :=
  if (σ q 2) = 0 then
    L_Txt_nextToken_8 q (fun σ4 =>
      lt (wr σ4 q 4 (σ4 q 5)) fun σ5 =>
      bd (f_Txt_codeAt q (σ5 q 4) σ5) fun r6 σ7 =>
      bd (f_Txt_typeOf r6 σ7) fun r8 σ9 =>
      lt (wr σ9 q 3 r8) fun σ10 =>
      if (σ10 q 3) = 0 then
        if (σ10 q 3) = (1 : Int32) then
          L_Txt_nextToken_107 q (1 : Int32) (fun σ16 =>
            some ((), σ16)) FU σ10
        else
          if (σ10 q 3) = (2 : Int32) then
            L_Txt_nextToken_107 q (1 : Int32) (fun σ17 =>
              some ((), σ17)) FU σ10
          else
            L_Txt_nextToken_107 q (0 : Int32) (fun σ18 =>
              some ((), σ18)) FU σ10
      else
        lt (wr σ10 q 5 ((σ10 q 5) + (1 : Int32))) fun σ19 =>
        if (σ19 q 3) = (1 : Int32) then
          L_Txt_nextToken_107 q (1 : Int32) (fun σ20 =>
            some ((), σ20)) FU σ19
        else
          if (σ19 q 3) = (2 : Int32) then
            L_Txt_nextToken_107 q (1 : Int32) (fun σ21 =>
              some ((), σ21)) FU σ19
          else
            L_Txt_nextToken_107 q (0 : Int32) (fun σ22 =>
              some ((), σ22)) FU σ19) FU σ
  else
    some ((), σ)
set_option maxRecDepth 100000 in
set_option maxHeartbeats 4000000 in
theorem l_L_Txt_nextToken_8 {X : CX} {p : Program} {l : Launch} {e : Env} {s : State} {m : MethodId} {args : Array Value} {below : List Frame} {meth : Method} {c : Code} (F : FR p s m args c prog_8_method_13_code 2 "SensorHub$Text" X) (hlk : meth.locks = false) (hr : meth.sig.returnType = none) (r0 : Nat) (hr0 : TextOK X r0) (k : Mem → Option (Unit × Mem)) (hk : ∀  (σ : Mem), G X p l e (rmD 1) s m args below meth c 2 0 0 (QI X below args s vU) 45 [(0, .ref (xa X r0))] [] σ (k σ)) : ∀ (n : Nat)  (σ : Mem), G X p l e (rmD 1) s m args below meth c 2 0 0 (QI X below args s vU) 8 [(0, .ref (xa X r0))] [] σ (L_Txt_nextToken_8 r0 k n σ) := by
  intro n
  induction n with
  | zero => intros; exact g_no
  | succ n ih =>
    intro σ
    unfold L_Txt_nextToken_8
    refine g_aload_n F d_Txt_nextToken_8 0 rfl ?_
    refine g_getI F fs_6_27 hr0.1 rfl d_Txt_nextToken_9 ?_
    refine g_aload_n F d_Txt_nextToken_12 0 rfl ?_
    refine g_getI F fs_6_15 hr0.1 rfl d_Txt_nextToken_13 ?_
    refine g_icmp_ge F (tgt := 45) d_Txt_nextToken_16 (by decide) (fun h3 => ?_) (fun h4 => ?_)
    · exact hk  _
    refine g_aload_n F d_Txt_nextToken_19 0 rfl ?_
    refine g_aload_n F d_Txt_nextToken_20 0 rfl ?_
    refine g_getI F fs_6_27 hr0.1 rfl d_Txt_nextToken_21 ?_
    refine g_callV F (dp := 0) (ci := 6) (As := [.int (σ r0 5)]) (c_Txt_codeAt l _ _ hr0 _) cv_6_117 hr0.1 rfl rfl rfl (Nat.le_of_ble_eq_true rfl) ⟨Nat.le_of_ble_eq_true rfl, Nat.le_of_ble_eq_true rfl⟩ ⟨Nat.zero_le _, Nat.zero_le _⟩ d_Txt_nextToken_24 (fun r1 σ2 h5 => ?_)
    refine g_bipush F (v := 32) d_Txt_nextToken_27 (by decide) ?_
    refine g_icmp_ne F (tgt := 45) d_Txt_nextToken_29 (by decide) (fun h6 => ?_) (fun h7 => ?_)
    · refine g_aload_n F d_Txt_nextToken_32 0 rfl ?_
      refine g_dup F d_Txt_nextToken_33 rfl ?_
      refine g_getI F fs_6_27 hr0.1 rfl d_Txt_nextToken_34 ?_
      refine g_iconst F (v := 1) d_Txt_nextToken_37 (by decide) ?_
      refine g_iadd F d_Txt_nextToken_38 ?_
      refine g_putI F fw_6_27 hr0.1 rfl d_Txt_nextToken_39 ?_
      refine g_ltM (fun σ3 _ => ?_)
      refine g_goto F (tgt := 8) d_Txt_nextToken_42 (by decide) ?_
      exact ih  _
    exact hk  _
set_option maxRecDepth 100000 in
set_option maxHeartbeats 4000000 in
theorem l_L_Txt_nextToken_107 {X : CX} {p : Program} {l : Launch} {e : Env} {s : State} {m : MethodId} {args : Array Value} {below : List Frame} {meth : Method} {c : Code} (F : FR p s m args c prog_8_method_13_code 2 "SensorHub$Text" X) (hlk : meth.locks = false) (hr : meth.sig.returnType = none) (r0 : Nat) (y1 : Int32) (hr0 : TextOK X r0) (k : Mem → Option (Unit × Mem)) (hk : ∀  (σ : Mem), G X p l e (rmD 1) s m args below meth c 2 0 0 (QI X below args s vU) 153 [] [] σ (k σ)) : ∀ (n : Nat)  (σ : Mem), G X p l e (rmD 1) s m args below meth c 2 0 0 (QI X below args s vU) 107 [(0, .ref (xa X r0)), (1, .int y1)] [] σ (L_Txt_nextToken_107 r0 y1 k n σ) := by
  intro n
  induction n with
  | zero => intros; exact g_no
  | succ n ih =>
    intro σ
    unfold L_Txt_nextToken_107
    refine g_iload_n F d_Txt_nextToken_107 1 rfl ?_
    refine g_if_eq F (tgt := 153) d_Txt_nextToken_108 (by decide) (fun h14 => ?_) (fun h15 => ?_)
    · exact g_sub [] rfl (hk  _)
    refine g_aload_n F d_Txt_nextToken_111 0 rfl ?_
    refine g_getI F fs_6_27 hr0.1 rfl d_Txt_nextToken_112 ?_
    refine g_aload_n F d_Txt_nextToken_115 0 rfl ?_
    refine g_getI F fs_6_15 hr0.1 rfl d_Txt_nextToken_116 ?_
    refine g_icmp_ge F (tgt := 153) d_Txt_nextToken_119 (by decide) (fun h16 => ?_) (fun h17 => ?_)
    · exact g_sub [] rfl (hk  _)
    refine g_aload_n F d_Txt_nextToken_122 0 rfl ?_
    refine g_aload_n F d_Txt_nextToken_123 0 rfl ?_
    refine g_getI F fs_6_27 hr0.1 rfl d_Txt_nextToken_124 ?_
    refine g_callV F (dp := 0) (ci := 6) (As := [.int (σ r0 5)]) (c_Txt_codeAt l _ _ hr0 _) cv_6_117 hr0.1 rfl rfl rfl (Nat.le_of_ble_eq_true rfl) ⟨Nat.le_of_ble_eq_true rfl, Nat.le_of_ble_eq_true rfl⟩ ⟨Nat.zero_le _, Nat.zero_le _⟩ d_Txt_nextToken_127 (fun r11 σ12 h18 => ?_)
    refine g_callS F (dp := 0) (As := [.int r11]) (c_Txt_typeOf l _ _) cs_6_120 rfl rfl (Nat.le_of_ble_eq_true rfl) ⟨Nat.le_of_ble_eq_true rfl, Nat.le_of_ble_eq_true rfl⟩ ⟨Nat.zero_le _, Nat.zero_le _⟩ d_Txt_nextToken_130 (fun r13 σ14 h19 => ?_)
    refine g_aload_n F d_Txt_nextToken_133 0 rfl ?_
    refine g_getI F fs_6_33 hr0.1 rfl d_Txt_nextToken_134 ?_
    refine g_icmp_ne F (tgt := 153) d_Txt_nextToken_137 (by decide) (fun h20 => ?_) (fun h21 => ?_)
    · refine g_aload_n F d_Txt_nextToken_140 0 rfl ?_
      refine g_dup F d_Txt_nextToken_141 rfl ?_
      refine g_getI F fs_6_27 hr0.1 rfl d_Txt_nextToken_142 ?_
      refine g_iconst F (v := 1) d_Txt_nextToken_145 (by decide) ?_
      refine g_iadd F d_Txt_nextToken_146 ?_
      refine g_putI F fw_6_27 hr0.1 rfl d_Txt_nextToken_147 ?_
      refine g_ltM (fun σ15 _ => ?_)
      refine g_goto F (tgt := 107) d_Txt_nextToken_150 (by decide) ?_
      exact ih  _
    exact g_sub [] rfl (hk  _)
set_option maxRecDepth 100000 in
set_option maxHeartbeats 4000000 in
theorem c_Txt_nextToken {X : CX} (l : Launch) (q : Nat) (hq : TextOK X q) (σ : Mem) : CT X l y_Txt_nextToken prog_8_method_13_code 2 none 1 vU [.ref (xa X q)] σ (f_Txt_nextToken q σ) := by
  refine CT_of (by decide +kernel) (Nat.le_of_ble_eq_true rfl) ?_
  intro p e s m args below meth c F hlk hr
  have F : FR p s m args c prog_8_method_13_code 2 "SensorHub$Text" X := F
  show G X p l e (rmD 1) s m args below meth c 2 0 0 (QI X below args s vU) 0 [(0, .ref (xa X q))] [] σ _
  unfold f_Txt_nextToken
  refine g_aload_n F d_Txt_nextToken_0 0 rfl ?_
  refine g_getI F fs_6_23 hq.1 rfl d_Txt_nextToken_1 ?_
  refine g_if_eq F (tgt := 8) d_Txt_nextToken_4 (by decide) (fun h1 => ?_) (fun h2 => ?_)
  · refine g_sub [0] rfl (l_L_Txt_nextToken_8 F hlk hr _ hq _ (fun σ4 => ?_) FU _)
    refine g_aload_n F d_Txt_nextToken_45 0 rfl ?_
    refine g_aload_n F d_Txt_nextToken_46 0 rfl ?_
    refine g_getI F fs_6_27 hq.1 rfl d_Txt_nextToken_47 ?_
    refine g_putI F fw_6_40 hq.1 rfl d_Txt_nextToken_50 ?_
    refine g_ltM (fun σ5 _ => ?_)
    refine g_aload_n F d_Txt_nextToken_53 0 rfl ?_
    refine g_aload_n F d_Txt_nextToken_54 0 rfl ?_
    refine g_aload_n F d_Txt_nextToken_55 0 rfl ?_
    refine g_getI F fs_6_40 hq.1 rfl d_Txt_nextToken_56 ?_
    refine g_callV F (dp := 0) (ci := 6) (As := [.int (σ5 q 4)]) (c_Txt_codeAt l _ _ hq _) cv_6_117 hq.1 rfl rfl rfl (Nat.le_of_ble_eq_true rfl) ⟨Nat.le_of_ble_eq_true rfl, Nat.le_of_ble_eq_true rfl⟩ ⟨Nat.zero_le _, Nat.zero_le _⟩ d_Txt_nextToken_59 (fun r6 σ7 h8 => ?_)
    refine g_callS F (dp := 0) (As := [.int r6]) (c_Txt_typeOf l _ _) cs_6_120 rfl rfl (Nat.le_of_ble_eq_true rfl) ⟨Nat.le_of_ble_eq_true rfl, Nat.le_of_ble_eq_true rfl⟩ ⟨Nat.zero_le _, Nat.zero_le _⟩ d_Txt_nextToken_62 (fun r8 σ9 h9 => ?_)
    refine g_putI F fw_6_33 hq.1 rfl d_Txt_nextToken_65 ?_
    refine g_ltM (fun σ10 _ => ?_)
    refine g_aload_n F d_Txt_nextToken_68 0 rfl ?_
    refine g_getI F fs_6_33 hq.1 rfl d_Txt_nextToken_69 ?_
    refine g_if_eq F (tgt := 85) d_Txt_nextToken_72 (by decide) (fun h10 => ?_) (fun h11 => ?_)
    · refine g_aload_n F d_Txt_nextToken_85 0 rfl ?_
      refine g_getI F fs_6_33 hq.1 rfl d_Txt_nextToken_86 ?_
      refine g_iconst F (v := 1) d_Txt_nextToken_89 (by decide) ?_
      refine g_icmp_eq F (tgt := 101) d_Txt_nextToken_90 (by decide) (fun h12 => ?_) (fun h13 => ?_)
      · refine g_iconst F (v := 1) d_Txt_nextToken_101 (by decide) ?_
        refine g_goto F (tgt := 106) d_Txt_nextToken_102 (by decide) ?_
        refine g_istore_n F (ls' := [(1, .int (1 : Int32)), (0, .ref (xa X q))]) d_Txt_nextToken_106 (by decide) rfl ?_
        refine g_sub [1, 0] rfl (l_L_Txt_nextToken_107 F hlk hr _ _ hq _ (fun σ16 => ?_) FU _)
        exact g_vret F hlk hr d_Txt_nextToken_153
      refine g_aload_n F d_Txt_nextToken_93 0 rfl ?_
      refine g_getI F fs_6_33 hq.1 rfl d_Txt_nextToken_94 ?_
      refine g_iconst F (v := 2) d_Txt_nextToken_97 (by decide) ?_
      refine g_icmp_ne F (tgt := 105) d_Txt_nextToken_98 (by decide) (fun h22 => ?_) (fun h23 => ?_)
      · refine g_iconst F (v := 1) d_Txt_nextToken_101 (by decide) ?_
        refine g_goto F (tgt := 106) d_Txt_nextToken_102 (by decide) ?_
        refine g_istore_n F (ls' := [(1, .int (1 : Int32)), (0, .ref (xa X q))]) d_Txt_nextToken_106 (by decide) rfl ?_
        refine g_sub [1, 0] rfl (l_L_Txt_nextToken_107 F hlk hr _ _ hq _ (fun σ17 => ?_) FU _)
        exact g_vret F hlk hr d_Txt_nextToken_153
      refine g_iconst F (v := 0) d_Txt_nextToken_105 (by decide) ?_
      refine g_istore_n F (ls' := [(1, .int (0 : Int32)), (0, .ref (xa X q))]) d_Txt_nextToken_106 (by decide) rfl ?_
      refine g_sub [1, 0] rfl (l_L_Txt_nextToken_107 F hlk hr _ _ hq _ (fun σ18 => ?_) FU _)
      exact g_vret F hlk hr d_Txt_nextToken_153
    refine g_aload_n F d_Txt_nextToken_75 0 rfl ?_
    refine g_dup F d_Txt_nextToken_76 rfl ?_
    refine g_getI F fs_6_27 hq.1 rfl d_Txt_nextToken_77 ?_
    refine g_iconst F (v := 1) d_Txt_nextToken_80 (by decide) ?_
    refine g_iadd F d_Txt_nextToken_81 ?_
    refine g_putI F fw_6_27 hq.1 rfl d_Txt_nextToken_82 ?_
    refine g_ltM (fun σ19 _ => ?_)
    refine g_aload_n F d_Txt_nextToken_85 0 rfl ?_
    refine g_getI F fs_6_33 hq.1 rfl d_Txt_nextToken_86 ?_
    refine g_iconst F (v := 1) d_Txt_nextToken_89 (by decide) ?_
    refine g_icmp_eq F (tgt := 101) d_Txt_nextToken_90 (by decide) (fun h24 => ?_) (fun h25 => ?_)
    · refine g_iconst F (v := 1) d_Txt_nextToken_101 (by decide) ?_
      refine g_goto F (tgt := 106) d_Txt_nextToken_102 (by decide) ?_
      refine g_istore_n F (ls' := [(1, .int (1 : Int32)), (0, .ref (xa X q))]) d_Txt_nextToken_106 (by decide) rfl ?_
      refine g_sub [1, 0] rfl (l_L_Txt_nextToken_107 F hlk hr _ _ hq _ (fun σ20 => ?_) FU _)
      exact g_vret F hlk hr d_Txt_nextToken_153
    refine g_aload_n F d_Txt_nextToken_93 0 rfl ?_
    refine g_getI F fs_6_33 hq.1 rfl d_Txt_nextToken_94 ?_
    refine g_iconst F (v := 2) d_Txt_nextToken_97 (by decide) ?_
    refine g_icmp_ne F (tgt := 105) d_Txt_nextToken_98 (by decide) (fun h26 => ?_) (fun h27 => ?_)
    · refine g_iconst F (v := 1) d_Txt_nextToken_101 (by decide) ?_
      refine g_goto F (tgt := 106) d_Txt_nextToken_102 (by decide) ?_
      refine g_istore_n F (ls' := [(1, .int (1 : Int32)), (0, .ref (xa X q))]) d_Txt_nextToken_106 (by decide) rfl ?_
      refine g_sub [1, 0] rfl (l_L_Txt_nextToken_107 F hlk hr _ _ hq _ (fun σ21 => ?_) FU _)
      exact g_vret F hlk hr d_Txt_nextToken_153
    refine g_iconst F (v := 0) d_Txt_nextToken_105 (by decide) ?_
    refine g_istore_n F (ls' := [(1, .int (0 : Int32)), (0, .ref (xa X q))]) d_Txt_nextToken_106 (by decide) rfl ?_
    refine g_sub [1, 0] rfl (l_L_Txt_nextToken_107 F hlk hr _ _ hq _ (fun σ22 => ?_) FU _)
    exact g_vret F hlk hr d_Txt_nextToken_153
  exact g_vret F hlk hr d_Txt_nextToken_7
def y_Txt_isWord : MethodName := ⟨"SensorHub$Text", "isWord", "(Ljava/lang/String;)Z"⟩
theorem d_Txt_isWord_0 : decode prog_8_method_16_code 0 = .ok (.aload_n 0, 1) := by decide +kernel
theorem d_Txt_isWord_1 : decode prog_8_method_16_code 1 = .ok (.getfield 33, 3) := by decide +kernel
theorem d_Txt_isWord_4 : decode prog_8_method_16_code 4 = .ok (.iconst 1, 1) := by decide +kernel
theorem d_Txt_isWord_5 : decode prog_8_method_16_code 5 = .ok (.if_icmp .ne 19, 3) := by decide +kernel
theorem d_Txt_isWord_8 : decode prog_8_method_16_code 8 = .ok (.aload_n 0, 1) := by decide +kernel
theorem d_Txt_isWord_9 : decode prog_8_method_16_code 9 = .ok (.getfield 27, 3) := by decide +kernel
theorem d_Txt_isWord_12 : decode prog_8_method_16_code 12 = .ok (.aload_n 0, 1) := by decide +kernel
theorem d_Txt_isWord_13 : decode prog_8_method_16_code 13 = .ok (.getfield 40, 3) := by decide +kernel
theorem d_Txt_isWord_16 : decode prog_8_method_16_code 16 = .ok (.isub, 1) := by decide +kernel
theorem d_Txt_isWord_17 : decode prog_8_method_16_code 17 = .ok (.aload_n 1, 1) := by decide +kernel
theorem d_Txt_isWord_18 : decode prog_8_method_16_code 18 = .ok (.invokevirtual 123, 3) := by decide +kernel
theorem d_Txt_isWord_21 : decode prog_8_method_16_code 21 = .ok (.if_icmp .eq 5, 3) := by decide +kernel
theorem d_Txt_isWord_24 : decode prog_8_method_16_code 24 = .ok (.iconst 0, 1) := by decide +kernel
theorem d_Txt_isWord_25 : decode prog_8_method_16_code 25 = .ok (.ireturn, 1) := by decide +kernel
theorem d_Txt_isWord_26 : decode prog_8_method_16_code 26 = .ok (.iconst 0, 1) := by decide +kernel
theorem d_Txt_isWord_27 : decode prog_8_method_16_code 27 = .ok (.istore_n 2, 1) := by decide +kernel
theorem d_Txt_isWord_28 : decode prog_8_method_16_code 28 = .ok (.iload_n 2, 1) := by decide +kernel
theorem d_Txt_isWord_29 : decode prog_8_method_16_code 29 = .ok (.aload_n 1, 1) := by decide +kernel
theorem d_Txt_isWord_30 : decode prog_8_method_16_code 30 = .ok (.invokevirtual 123, 3) := by decide +kernel
theorem d_Txt_isWord_33 : decode prog_8_method_16_code 33 = .ok (.if_icmp .ge 29, 3) := by decide +kernel
theorem d_Txt_isWord_36 : decode prog_8_method_16_code 36 = .ok (.aload_n 0, 1) := by decide +kernel
theorem d_Txt_isWord_37 : decode prog_8_method_16_code 37 = .ok (.aload_n 0, 1) := by decide +kernel
theorem d_Txt_isWord_38 : decode prog_8_method_16_code 38 = .ok (.getfield 40, 3) := by decide +kernel
theorem d_Txt_isWord_41 : decode prog_8_method_16_code 41 = .ok (.iload_n 2, 1) := by decide +kernel
theorem d_Txt_isWord_42 : decode prog_8_method_16_code 42 = .ok (.iadd, 1) := by decide +kernel
theorem d_Txt_isWord_43 : decode prog_8_method_16_code 43 = .ok (.invokevirtual 117, 3) := by decide +kernel
theorem d_Txt_isWord_46 : decode prog_8_method_16_code 46 = .ok (.aload_n 1, 1) := by decide +kernel
theorem d_Txt_isWord_47 : decode prog_8_method_16_code 47 = .ok (.iload_n 2, 1) := by decide +kernel
theorem d_Txt_isWord_48 : decode prog_8_method_16_code 48 = .ok (.invokevirtual 128, 3) := by decide +kernel
theorem d_Txt_isWord_51 : decode prog_8_method_16_code 51 = .ok (.if_icmp .eq 5, 3) := by decide +kernel
theorem d_Txt_isWord_54 : decode prog_8_method_16_code 54 = .ok (.iconst 0, 1) := by decide +kernel
theorem d_Txt_isWord_55 : decode prog_8_method_16_code 55 = .ok (.ireturn, 1) := by decide +kernel
theorem d_Txt_isWord_56 : decode prog_8_method_16_code 56 = .ok (.iinc 2 1, 3) := by decide +kernel
theorem d_Txt_isWord_59 : decode prog_8_method_16_code 59 = .ok (.goto (-31), 3) := by decide +kernel
theorem d_Txt_isWord_62 : decode prog_8_method_16_code 62 = .ok (.iconst 1, 1) := by decide +kernel
theorem d_Txt_isWord_63 : decode prog_8_method_16_code 63 = .ok (.ireturn, 1) := by decide +kernel
theorem cv_6_123 : CSV "SensorHub$Text" 123 y_Str_length prog_12_method_54_code 1 (some .int) 0 := ⟨gw_I 637 (by decide +kernel) rfl, gw_I 638 (by decide +kernel) rfl, gw_I 639 (by decide +kernel) rfl, gw_I 81 (by decide +kernel) rfl, gw_I 640 (by decide +kernel) rfl, ⟨by decide +kernel, by decide +kernel⟩, by decide +kernel⟩
theorem cv_6_128 : CSV "SensorHub$Text" 128 y_Str_charAt prog_12_method_56_code 2 (some .char) 1 := ⟨gw_I 647 (by decide +kernel) rfl, gw_I 648 (by decide +kernel) rfl, gw_I 649 (by decide +kernel) rfl, gw_I 81 (by decide +kernel) rfl, gw_I 650 (by decide +kernel) rfl, ⟨by decide +kernel, by decide +kernel⟩, by decide +kernel⟩
def L_Txt_isWord_28 (r0 : Nat) (w1 : Nat) (k : Mem → Option (Int32 × Mem)) : Nat → Int32 → Mem → Option (Int32 × Mem)
  | 0, _, _ => none
  | n + 1, x2, σ =>
    bd (f_Str_length w1 σ) fun r3 σ4 =>
    if r3 ≤ x2 then
      k σ4
    else
      bd (f_Txt_codeAt r0 ((σ4 r0 4) + x2) σ4) fun r5 σ6 =>
      bd (f_Str_charAt w1 x2 σ6) fun r7 σ8 =>
      if r5 = r7 then L_Txt_isWord_28 r0 w1 k n (x2 + 1) σ8 else some ((0 : Int32), σ8)
def f_Txt_isWord (q : Nat) (w1 : Nat) (σ : Mem) : Option (Int32 × Mem) :=
  if (σ q 3) = (1 : Int32) then
    bd (f_Str_length w1 σ) fun r1 σ2 =>
    if ((σ q 5) - (σ q 4)) = r1 then
      L_Txt_isWord_28 q w1 (fun σ9 =>
        some ((1 : Int32), σ9)) FU (0 : Int32) σ2
    else
      some ((0 : Int32), σ2)
  else
    some ((0 : Int32), σ)
set_option maxRecDepth 100000 in
set_option maxHeartbeats 4000000 in
theorem l_L_Txt_isWord_28 {X : CX} {p : Program} {l : Launch} {e : Env} {s : State} {m : MethodId} {args : Array Value} {below : List Frame} {meth : Method} {c : Code} (F : FR p s m args c prog_8_method_16_code 3 "SensorHub$Text" X) (hlk : meth.locks = false) (hr : meth.sig.returnType = some .boolean) (r0 : Nat) (w1 : Nat) (hr0 : TextOK X r0) (hw1 : w1 < 6) (k : Mem → Option (Int32 × Mem)) (hk : ∀  (σ : Mem), G X p l e (rmD 5) s m args below meth c 3 0 0 (QI X below args s vI) 62 [] [] σ (k σ)) : ∀ (n : Nat) (x2 : Int32) (σ : Mem), G X p l e (rmD 5) s m args below meth c 3 0 0 (QI X below args s vI) 28 [(0, .ref (xa X r0)), (1, .ref (xk X w1)), (2, .int x2)] [] σ (L_Txt_isWord_28 r0 w1 k n x2 σ) := by
  intro n
  induction n with
  | zero => intros; exact g_no
  | succ n ih =>
    intro x2 σ
    unfold L_Txt_isWord_28
    refine g_iload_n F d_Txt_isWord_28 2 rfl ?_
    refine g_aload_n F d_Txt_isWord_29 1 rfl ?_
    refine g_callVS F (dp := 1) (As := []) hw1 (c_Str_length l _ hw1 _) cv_6_123 rfl rfl rfl (Nat.le_of_ble_eq_true rfl) ⟨Nat.le_of_ble_eq_true rfl, Nat.le_of_ble_eq_true rfl⟩ ⟨Nat.zero_le _, Nat.zero_le _⟩ d_Txt_isWord_30 (fun r3 σ4 h6 => ?_)
    refine g_icmp_ge F (tgt := 62) d_Txt_isWord_33 (by decide) (fun h7 => ?_) (fun h8 => ?_)
    · exact g_sub [] rfl (hk  _)
    refine g_aload_n F d_Txt_isWord_36 0 rfl ?_
    refine g_aload_n F d_Txt_isWord_37 0 rfl ?_
    refine g_getI F fs_6_40 hr0.1 rfl d_Txt_isWord_38 ?_
    refine g_iload_n F d_Txt_isWord_41 2 rfl ?_
    refine g_iadd F d_Txt_isWord_42 ?_
    refine g_callV F (dp := 0) (ci := 6) (As := [.int ((σ4 r0 4) + x2)]) (c_Txt_codeAt l _ _ hr0 _) cv_6_117 hr0.1 rfl rfl rfl (Nat.le_of_ble_eq_true rfl) ⟨Nat.le_of_ble_eq_true rfl, Nat.le_of_ble_eq_true rfl⟩ ⟨Nat.zero_le _, Nat.zero_le _⟩ d_Txt_isWord_43 (fun r5 σ6 h9 => ?_)
    refine g_aload_n F d_Txt_isWord_46 1 rfl ?_
    refine g_iload_n F d_Txt_isWord_47 2 rfl ?_
    refine g_callVS F (dp := 4) (As := [.int x2]) hw1 (c_Str_charAt l _ _ hw1 _) cv_6_128 rfl rfl rfl (Nat.le_of_ble_eq_true rfl) ⟨Nat.le_of_ble_eq_true rfl, Nat.le_of_ble_eq_true rfl⟩ ⟨Nat.zero_le _, Nat.zero_le _⟩ d_Txt_isWord_48 (fun r7 σ8 h10 => ?_)
    refine g_icmp_eq F (tgt := 56) d_Txt_isWord_51 (by decide) (fun h11 => ?_) (fun h12 => ?_)
    · refine g_iinc F (v := 1) (ls' := [(2, .int (x2 + 1)), (0, .ref (xa X r0)), (1, .ref (xk X w1))]) d_Txt_isWord_56 2 rfl (by decide) (by decide) rfl ?_
      refine g_goto F (tgt := 28) d_Txt_isWord_59 (by decide) ?_
      exact g_sub [1, 2, 0] rfl (ih _ _)
    refine g_iconst F (v := 0) d_Txt_isWord_54 (by decide) ?_
    exact g_zretC F hlk hr (by decide) d_Txt_isWord_55
set_option maxRecDepth 100000 in
set_option maxHeartbeats 4000000 in
theorem c_Txt_isWord {X : CX} (l : Launch) (q : Nat) (w1 : Nat) (hq : TextOK X q) (hw1 : w1 < 6) (σ : Mem) : CT X l y_Txt_isWord prog_8_method_16_code 3 (some .boolean) 5 vI [.ref (xa X q), .ref (xk X w1)] σ (f_Txt_isWord q w1 σ) := by
  refine CT_of (by decide +kernel) (Nat.le_of_ble_eq_true rfl) ?_
  intro p e s m args below meth c F hlk hr
  have F : FR p s m args c prog_8_method_16_code 3 "SensorHub$Text" X := F
  show G X p l e (rmD 5) s m args below meth c 3 0 0 (QI X below args s vI) 0 [(0, .ref (xa X q)), (1, .ref (xk X w1))] [] σ _
  unfold f_Txt_isWord
  refine g_aload_n F d_Txt_isWord_0 0 rfl ?_
  refine g_getI F fs_6_33 hq.1 rfl d_Txt_isWord_1 ?_
  refine g_iconst F (v := 1) d_Txt_isWord_4 (by decide) ?_
  refine g_icmp_ne F (tgt := 24) d_Txt_isWord_5 (by decide) (fun h1 => ?_) (fun h2 => ?_)
  · refine g_aload_n F d_Txt_isWord_8 0 rfl ?_
    refine g_getI F fs_6_27 hq.1 rfl d_Txt_isWord_9 ?_
    refine g_aload_n F d_Txt_isWord_12 0 rfl ?_
    refine g_getI F fs_6_40 hq.1 rfl d_Txt_isWord_13 ?_
    refine g_isub F d_Txt_isWord_16 ?_
    refine g_aload_n F d_Txt_isWord_17 1 rfl ?_
    refine g_callVS F (dp := 1) (As := []) hw1 (c_Str_length l _ hw1 _) cv_6_123 rfl rfl rfl (Nat.le_of_ble_eq_true rfl) ⟨Nat.le_of_ble_eq_true rfl, Nat.le_of_ble_eq_true rfl⟩ ⟨Nat.zero_le _, Nat.zero_le _⟩ d_Txt_isWord_18 (fun r1 σ2 h3 => ?_)
    refine g_icmp_eq F (tgt := 26) d_Txt_isWord_21 (by decide) (fun h4 => ?_) (fun h5 => ?_)
    · refine g_iconst F (v := 0) d_Txt_isWord_26 (by decide) ?_
      refine g_istore_n F (ls' := [(2, .int (0 : Int32)), (0, .ref (xa X q)), (1, .ref (xk X w1))]) d_Txt_isWord_27 (by decide) rfl ?_
      refine g_sub [1, 2, 0] rfl (l_L_Txt_isWord_28 F hlk hr _ _ hq hw1 _ (fun σ9 => ?_) FU _ _)
      refine g_iconst F (v := 1) d_Txt_isWord_62 (by decide) ?_
      exact g_zretC F hlk hr (by decide) d_Txt_isWord_63
    refine g_iconst F (v := 0) d_Txt_isWord_24 (by decide) ?_
    exact g_zretC F hlk hr (by decide) d_Txt_isWord_25
  refine g_iconst F (v := 0) d_Txt_isWord_24 (by decide) ?_
  exact g_zretC F hlk hr (by decide) d_Txt_isWord_25
def y_Txt_numberOfToken : MethodName := ⟨"SensorHub$Text", "numberOfToken", "()I"⟩
theorem d_Txt_numberOfToken_0 : decode prog_8_method_15_code 0 = .ok (.aload_n 0, 1) := by decide +kernel
theorem d_Txt_numberOfToken_1 : decode prog_8_method_15_code 1 = .ok (.getfield 27, 3) := by decide +kernel
theorem d_Txt_numberOfToken_4 : decode prog_8_method_15_code 4 = .ok (.aload_n 0, 1) := by decide +kernel
theorem d_Txt_numberOfToken_5 : decode prog_8_method_15_code 5 = .ok (.getfield 40, 3) := by decide +kernel
theorem d_Txt_numberOfToken_8 : decode prog_8_method_15_code 8 = .ok (.isub, 1) := by decide +kernel
theorem d_Txt_numberOfToken_9 : decode prog_8_method_15_code 9 = .ok (.istore_n 1, 1) := by decide +kernel
theorem d_Txt_numberOfToken_10 : decode prog_8_method_15_code 10 = .ok (.iload_n 1, 1) := by decide +kernel
theorem d_Txt_numberOfToken_11 : decode prog_8_method_15_code 11 = .ok (.iconst 4, 1) := by decide +kernel
theorem d_Txt_numberOfToken_12 : decode prog_8_method_15_code 12 = .ok (.if_icmp .gt 21, 3) := by decide +kernel
theorem d_Txt_numberOfToken_15 : decode prog_8_method_15_code 15 = .ok (.iload_n 1, 1) := by decide +kernel
theorem d_Txt_numberOfToken_16 : decode prog_8_method_15_code 16 = .ok (.iconst 1, 1) := by decide +kernel
theorem d_Txt_numberOfToken_17 : decode prog_8_method_15_code 17 = .ok (.if_icmp .le 19, 3) := by decide +kernel
theorem d_Txt_numberOfToken_20 : decode prog_8_method_15_code 20 = .ok (.aload_n 0, 1) := by decide +kernel
theorem d_Txt_numberOfToken_21 : decode prog_8_method_15_code 21 = .ok (.aload_n 0, 1) := by decide +kernel
theorem d_Txt_numberOfToken_22 : decode prog_8_method_15_code 22 = .ok (.getfield 40, 3) := by decide +kernel
theorem d_Txt_numberOfToken_25 : decode prog_8_method_15_code 25 = .ok (.invokevirtual 117, 3) := by decide +kernel
theorem d_Txt_numberOfToken_28 : decode prog_8_method_15_code 28 = .ok (.bipush 48, 2) := by decide +kernel
theorem d_Txt_numberOfToken_30 : decode prog_8_method_15_code 30 = .ok (.if_icmp .ne 6, 3) := by decide +kernel
theorem d_Txt_numberOfToken_33 : decode prog_8_method_15_code 33 = .ok (.bipush (-9), 2) := by decide +kernel
theorem d_Txt_numberOfToken_35 : decode prog_8_method_15_code 35 = .ok (.ireturn, 1) := by decide +kernel
theorem d_Txt_numberOfToken_36 : decode prog_8_method_15_code 36 = .ok (.iconst 0, 1) := by decide +kernel
theorem d_Txt_numberOfToken_37 : decode prog_8_method_15_code 37 = .ok (.istore_n 2, 1) := by decide +kernel
theorem d_Txt_numberOfToken_38 : decode prog_8_method_15_code 38 = .ok (.aload_n 0, 1) := by decide +kernel
theorem d_Txt_numberOfToken_39 : decode prog_8_method_15_code 39 = .ok (.getfield 40, 3) := by decide +kernel
theorem d_Txt_numberOfToken_42 : decode prog_8_method_15_code 42 = .ok (.istore_n 3, 1) := by decide +kernel
theorem d_Txt_numberOfToken_43 : decode prog_8_method_15_code 43 = .ok (.iload_n 3, 1) := by decide +kernel
theorem d_Txt_numberOfToken_44 : decode prog_8_method_15_code 44 = .ok (.aload_n 0, 1) := by decide +kernel
theorem d_Txt_numberOfToken_45 : decode prog_8_method_15_code 45 = .ok (.getfield 27, 3) := by decide +kernel
theorem d_Txt_numberOfToken_48 : decode prog_8_method_15_code 48 = .ok (.if_icmp .ge 23, 3) := by decide +kernel
theorem d_Txt_numberOfToken_51 : decode prog_8_method_15_code 51 = .ok (.bipush 10, 2) := by decide +kernel
theorem d_Txt_numberOfToken_53 : decode prog_8_method_15_code 53 = .ok (.iload_n 2, 1) := by decide +kernel
theorem d_Txt_numberOfToken_54 : decode prog_8_method_15_code 54 = .ok (.imul, 1) := by decide +kernel
theorem d_Txt_numberOfToken_55 : decode prog_8_method_15_code 55 = .ok (.aload_n 0, 1) := by decide +kernel
theorem d_Txt_numberOfToken_56 : decode prog_8_method_15_code 56 = .ok (.iload_n 3, 1) := by decide +kernel
theorem d_Txt_numberOfToken_57 : decode prog_8_method_15_code 57 = .ok (.invokevirtual 117, 3) := by decide +kernel
theorem d_Txt_numberOfToken_60 : decode prog_8_method_15_code 60 = .ok (.iadd, 1) := by decide +kernel
theorem d_Txt_numberOfToken_61 : decode prog_8_method_15_code 61 = .ok (.bipush 48, 2) := by decide +kernel
theorem d_Txt_numberOfToken_63 : decode prog_8_method_15_code 63 = .ok (.isub, 1) := by decide +kernel
theorem d_Txt_numberOfToken_64 : decode prog_8_method_15_code 64 = .ok (.istore_n 2, 1) := by decide +kernel
theorem d_Txt_numberOfToken_65 : decode prog_8_method_15_code 65 = .ok (.iinc 3 1, 3) := by decide +kernel
theorem d_Txt_numberOfToken_68 : decode prog_8_method_15_code 68 = .ok (.goto (-25), 3) := by decide +kernel
theorem d_Txt_numberOfToken_71 : decode prog_8_method_15_code 71 = .ok (.iload_n 2, 1) := by decide +kernel
theorem d_Txt_numberOfToken_72 : decode prog_8_method_15_code 72 = .ok (.ireturn, 1) := by decide +kernel
def L_Txt_numberOfToken_43 (r0 : Nat) (k : Int32 → Mem → Option (Int32 × Mem)) : Nat → Int32 → Int32 → Mem → Option (Int32 × Mem)
  | 0, _, _, _ => none
  | n + 1, x2, x3, σ =>
    if (σ r0 5) ≤ x3 then
      k x2 σ
    else
      bd (f_Txt_codeAt r0 x3 σ) fun r3 σ4 =>
      lt ((((10 : Int32) * x2) + r3) - (48 : Int32)) fun v5 =>
      L_Txt_numberOfToken_43 r0 k n v5 (x3 + 1) σ4
def f_Txt_numberOfToken (q : Nat) (σ : Mem) : Option (Int32 × Mem) :=
  lt ((σ q 5) - (σ q 4)) fun v1 =>
  if (4 : Int32) < v1 then
    some ((-9 : Int32), σ)
  else
    if v1 ≤ (1 : Int32) then
      lt (σ q 4) fun v2 =>
      L_Txt_numberOfToken_43 q (fun z6 σ7 =>
        some (z6, σ7)) FU (0 : Int32) v2 σ
    else
      bd (f_Txt_codeAt q (σ q 4) σ) fun r8 σ9 =>
      if r8 = (48 : Int32) then
        some ((-9 : Int32), σ9)
      else
        lt (σ9 q 4) fun v10 =>
        L_Txt_numberOfToken_43 q (fun z11 σ12 =>
          some (z11, σ12)) FU (0 : Int32) v10 σ9
set_option maxRecDepth 100000 in
set_option maxHeartbeats 4000000 in
theorem l_L_Txt_numberOfToken_43 {X : CX} {p : Program} {l : Launch} {e : Env} {s : State} {m : MethodId} {args : Array Value} {below : List Frame} {meth : Method} {c : Code} (F : FR p s m args c prog_8_method_15_code 4 "SensorHub$Text" X) (hlk : meth.locks = false) (hr : meth.sig.returnType = some .int) (r0 : Nat) (hr0 : TextOK X r0) (k : Int32 → Mem → Option (Int32 × Mem)) (hk : ∀ (x2 : Int32) (σ : Mem), G X p l e (rmD 1) s m args below meth c 4 0 0 (QI X below args s vI) 71 [(2, .int x2)] [] σ (k x2 σ)) : ∀ (n : Nat) (x2 : Int32) (x3 : Int32) (σ : Mem), G X p l e (rmD 1) s m args below meth c 4 0 0 (QI X below args s vI) 43 [(0, .ref (xa X r0)), (2, .int x2), (3, .int x3)] [] σ (L_Txt_numberOfToken_43 r0 k n x2 x3 σ) := by
  intro n
  induction n with
  | zero => intros; exact g_no
  | succ n ih =>
    intro x2 x3 σ
    unfold L_Txt_numberOfToken_43
    refine g_iload_n F d_Txt_numberOfToken_43 2 rfl ?_
    refine g_aload_n F d_Txt_numberOfToken_44 0 rfl ?_
    refine g_getI F fs_6_27 hr0.1 rfl d_Txt_numberOfToken_45 ?_
    refine g_icmp_ge F (tgt := 71) d_Txt_numberOfToken_48 (by decide) (fun h5 => ?_) (fun h6 => ?_)
    · exact g_sub [1] rfl (hk _ _)
    refine g_bipush F (v := 10) d_Txt_numberOfToken_51 (by decide) ?_
    refine g_iload_n F d_Txt_numberOfToken_53 1 rfl ?_
    refine g_imul F d_Txt_numberOfToken_54 ?_
    refine g_aload_n F d_Txt_numberOfToken_55 0 rfl ?_
    refine g_iload_n F d_Txt_numberOfToken_56 2 rfl ?_
    refine g_callV F (dp := 0) (ci := 6) (As := [.int x3]) (c_Txt_codeAt l _ _ hr0 _) cv_6_117 hr0.1 rfl rfl rfl (Nat.le_of_ble_eq_true rfl) ⟨Nat.le_of_ble_eq_true rfl, Nat.le_of_ble_eq_true rfl⟩ ⟨Nat.zero_le _, Nat.zero_le _⟩ d_Txt_numberOfToken_57 (fun r3 σ4 h7 => ?_)
    refine g_iadd F d_Txt_numberOfToken_60 ?_
    refine g_bipush F (v := 48) d_Txt_numberOfToken_61 (by decide) ?_
    refine g_isub F d_Txt_numberOfToken_63 ?_
    refine g_ltI (fun v5 _ => ?_)
    refine g_istore_n F (ls' := [(2, .int v5), (0, .ref (xa X r0)), (3, .int x3)]) d_Txt_numberOfToken_64 (by decide) rfl ?_
    refine g_iinc F (v := 1) (ls' := [(3, .int (x3 + 1)), (2, .int v5), (0, .ref (xa X r0))]) d_Txt_numberOfToken_65 2 rfl (by decide) (by decide) rfl ?_
    refine g_goto F (tgt := 43) d_Txt_numberOfToken_68 (by decide) ?_
    exact g_sub [2, 1, 0] rfl (ih _ _ _)
set_option maxRecDepth 100000 in
set_option maxHeartbeats 4000000 in
theorem c_Txt_numberOfToken {X : CX} (l : Launch) (q : Nat) (hq : TextOK X q) (σ : Mem) : CT X l y_Txt_numberOfToken prog_8_method_15_code 4 (some .int) 1 vI [.ref (xa X q)] σ (f_Txt_numberOfToken q σ) := by
  refine CT_of (by decide +kernel) (Nat.le_of_ble_eq_true rfl) ?_
  intro p e s m args below meth c F hlk hr
  have F : FR p s m args c prog_8_method_15_code 4 "SensorHub$Text" X := F
  show G X p l e (rmD 1) s m args below meth c 4 0 0 (QI X below args s vI) 0 [(0, .ref (xa X q))] [] σ _
  unfold f_Txt_numberOfToken
  refine g_aload_n F d_Txt_numberOfToken_0 0 rfl ?_
  refine g_getI F fs_6_27 hq.1 rfl d_Txt_numberOfToken_1 ?_
  refine g_aload_n F d_Txt_numberOfToken_4 0 rfl ?_
  refine g_getI F fs_6_40 hq.1 rfl d_Txt_numberOfToken_5 ?_
  refine g_isub F d_Txt_numberOfToken_8 ?_
  refine g_ltI (fun v1 _ => ?_)
  refine g_istore_n F (ls' := [(1, .int v1), (0, .ref (xa X q))]) d_Txt_numberOfToken_9 (by decide) rfl ?_
  refine g_iload_n F d_Txt_numberOfToken_10 0 rfl ?_
  refine g_iconst F (v := 4) d_Txt_numberOfToken_11 (by decide) ?_
  refine g_icmp_gt F (tgt := 33) d_Txt_numberOfToken_12 (by decide) (fun h1 => ?_) (fun h2 => ?_)
  · refine g_bipush F (v := (-9)) d_Txt_numberOfToken_33 (by decide) ?_
    exact g_iret F hlk hr d_Txt_numberOfToken_35
  refine g_iload_n F d_Txt_numberOfToken_15 0 rfl ?_
  refine g_iconst F (v := 1) d_Txt_numberOfToken_16 (by decide) ?_
  refine g_icmp_le F (tgt := 36) d_Txt_numberOfToken_17 (by decide) (fun h3 => ?_) (fun h4 => ?_)
  · refine g_iconst F (v := 0) d_Txt_numberOfToken_36 (by decide) ?_
    refine g_istore_n F (ls' := [(2, .int (0 : Int32)), (1, .int v1), (0, .ref (xa X q))]) d_Txt_numberOfToken_37 (by decide) rfl ?_
    refine g_aload_n F d_Txt_numberOfToken_38 2 rfl ?_
    refine g_getI F fs_6_40 hq.1 rfl d_Txt_numberOfToken_39 ?_
    refine g_ltI (fun v2 _ => ?_)
    refine g_istore_n F (ls' := [(3, .int v2), (2, .int (0 : Int32)), (1, .int v1), (0, .ref (xa X q))]) d_Txt_numberOfToken_42 (by decide) rfl ?_
    refine g_sub [3, 1, 0] rfl (l_L_Txt_numberOfToken_43 F hlk hr _ hq _ (fun z6 σ7 => ?_) FU _ _ _)
    refine g_iload_n F d_Txt_numberOfToken_71 0 rfl ?_
    exact g_iret F hlk hr d_Txt_numberOfToken_72
  refine g_aload_n F d_Txt_numberOfToken_20 1 rfl ?_
  refine g_aload_n F d_Txt_numberOfToken_21 1 rfl ?_
  refine g_getI F fs_6_40 hq.1 rfl d_Txt_numberOfToken_22 ?_
  refine g_callV F (dp := 0) (ci := 6) (As := [.int (σ q 4)]) (c_Txt_codeAt l _ _ hq _) cv_6_117 hq.1 rfl rfl rfl (Nat.le_of_ble_eq_true rfl) ⟨Nat.le_of_ble_eq_true rfl, Nat.le_of_ble_eq_true rfl⟩ ⟨Nat.zero_le _, Nat.zero_le _⟩ d_Txt_numberOfToken_25 (fun r8 σ9 h8 => ?_)
  refine g_bipush F (v := 48) d_Txt_numberOfToken_28 (by decide) ?_
  refine g_icmp_ne F (tgt := 36) d_Txt_numberOfToken_30 (by decide) (fun h9 => ?_) (fun h10 => ?_)
  · refine g_bipush F (v := (-9)) d_Txt_numberOfToken_33 (by decide) ?_
    exact g_iret F hlk hr d_Txt_numberOfToken_35
  refine g_iconst F (v := 0) d_Txt_numberOfToken_36 (by decide) ?_
  refine g_istore_n F (ls' := [(2, .int (0 : Int32)), (1, .int v1), (0, .ref (xa X q))]) d_Txt_numberOfToken_37 (by decide) rfl ?_
  refine g_aload_n F d_Txt_numberOfToken_38 2 rfl ?_
  refine g_getI F fs_6_40 hq.1 rfl d_Txt_numberOfToken_39 ?_
  refine g_ltI (fun v10 _ => ?_)
  refine g_istore_n F (ls' := [(3, .int v10), (2, .int (0 : Int32)), (1, .int v1), (0, .ref (xa X q))]) d_Txt_numberOfToken_42 (by decide) rfl ?_
  refine g_sub [3, 1, 0] rfl (l_L_Txt_numberOfToken_43 F hlk hr _ hq _ (fun z11 σ12 => ?_) FU _ _ _)
  refine g_iload_n F d_Txt_numberOfToken_71 0 rfl ?_
  exact g_iret F hlk hr d_Txt_numberOfToken_72
def y_Txt_readNumber : MethodName := ⟨"SensorHub$Text", "readNumber", "(II)I"⟩
theorem d_Txt_readNumber_0 : decode prog_8_method_11_code 0 = .ok (.aload_n 0, 1) := by decide +kernel
theorem d_Txt_readNumber_1 : decode prog_8_method_11_code 1 = .ok (.invokevirtual 30, 3) := by decide +kernel
theorem d_Txt_readNumber_4 : decode prog_8_method_11_code 4 = .ok (.aload_n 0, 1) := by decide +kernel
theorem d_Txt_readNumber_5 : decode prog_8_method_11_code 5 = .ok (.getfield 33, 3) := by decide +kernel
theorem d_Txt_readNumber_8 : decode prog_8_method_11_code 8 = .ok (.iconst 2, 1) := by decide +kernel
theorem d_Txt_readNumber_9 : decode prog_8_method_11_code 9 = .ok (.if_icmp .ne 10, 3) := by decide +kernel
theorem d_Txt_readNumber_12 : decode prog_8_method_11_code 12 = .ok (.aload_n 0, 1) := by decide +kernel
theorem d_Txt_readNumber_13 : decode prog_8_method_11_code 13 = .ok (.invokevirtual 113, 3) := by decide +kernel
theorem d_Txt_readNumber_16 : decode prog_8_method_11_code 16 = .ok (.goto 5, 3) := by decide +kernel
theorem d_Txt_readNumber_19 : decode prog_8_method_11_code 19 = .ok (.bipush (-9), 2) := by decide +kernel
theorem d_Txt_readNumber_21 : decode prog_8_method_11_code 21 = .ok (.istore_n 3, 1) := by decide +kernel
theorem d_Txt_readNumber_22 : decode prog_8_method_11_code 22 = .ok (.iload_n 3, 1) := by decide +kernel
theorem d_Txt_readNumber_23 : decode prog_8_method_11_code 23 = .ok (.ifCond .lt 12, 3) := by decide +kernel
theorem d_Txt_readNumber_26 : decode prog_8_method_11_code 26 = .ok (.iload_n 3, 1) := by decide +kernel
theorem d_Txt_readNumber_27 : decode prog_8_method_11_code 27 = .ok (.iload_n 1, 1) := by decide +kernel
theorem d_Txt_readNumber_28 : decode prog_8_method_11_code 28 = .ok (.iload_n 2, 1) := by decide +kernel
theorem d_Txt_readNumber_29 : decode prog_8_method_11_code 29 = .ok (.invokestatic 19, 3) := by decide +kernel
theorem d_Txt_readNumber_32 : decode prog_8_method_11_code 32 = .ok (.ifCond .ne 8, 3) := by decide +kernel
theorem d_Txt_readNumber_35 : decode prog_8_method_11_code 35 = .ok (.aload_n 0, 1) := by decide +kernel
theorem d_Txt_readNumber_36 : decode prog_8_method_11_code 36 = .ok (.iconst 1, 1) := by decide +kernel
theorem d_Txt_readNumber_37 : decode prog_8_method_11_code 37 = .ok (.putfield 23, 3) := by decide +kernel
theorem d_Txt_readNumber_40 : decode prog_8_method_11_code 40 = .ok (.iload_n 3, 1) := by decide +kernel
theorem d_Txt_readNumber_41 : decode prog_8_method_11_code 41 = .ok (.ireturn, 1) := by decide +kernel
theorem cv_6_30 : CSV "SensorHub$Text" 30 y_Txt_nextToken prog_8_method_13_code 2 none 0 := ⟨gw_I 617 (by decide +kernel) rfl, gw_I 619 (by decide +kernel) rfl, gw_I 8 (by decide +kernel) rfl, gw_I 77 (by decide +kernel) rfl, gw_I 620 (by decide +kernel) rfl, ⟨by decide +kernel, by decide +kernel⟩, by decide +kernel⟩
theorem cv_6_113 : CSV "SensorHub$Text" 113 y_Txt_numberOfToken prog_8_method_15_code 4 (some .int) 0 := ⟨gw_I 694 (by decide +kernel) rfl, gw_I 696 (by decide +kernel) rfl, gw_I 13 (by decide +kernel) rfl, gw_I 77 (by decide +kernel) rfl, gw_I 697 (by decide +kernel) rfl, ⟨by decide +kernel, by decide +kernel⟩, by decide +kernel⟩
theorem fw_6_23 : FW "SensorHub$Text" 23 6 2 .boolean := ⟨"SensorHub$Text", T_6, 6, rfl, by decide, rfl, gw_I 359 (by decide +kernel) rfl, rfl, by decide +kernel⟩
def f_Txt_readNumber (q : Nat) (p1 : Int32) (p2 : Int32) (σ : Mem) : Option (Int32 × Mem) :=
  bd (f_Txt_nextToken q σ) fun _ σ2 =>
  if (σ2 q 3) = (2 : Int32) then
    bd (f_Txt_numberOfToken q σ2) fun r3 σ4 =>
    if r3 < 0 then
      lt (wr σ4 q 2 (1 : Int32)) fun σ5 =>
      some (r3, σ5)
    else
      bd (f_X_isWithin r3 p1 p2 σ4) fun r6 σ7 =>
      if r6 = 0 then
        lt (wr σ7 q 2 (1 : Int32)) fun σ8 =>
        some (r3, σ8)
      else
        some (r3, σ7)
  else
    lt (wr σ2 q 2 (1 : Int32)) fun σ9 =>
    some ((-9 : Int32), σ9)
set_option maxRecDepth 100000 in
set_option maxHeartbeats 4000000 in
theorem c_Txt_readNumber {X : CX} (l : Launch) (q : Nat) (p1 : Int32) (p2 : Int32) (hq : TextOK X q) (σ : Mem) : CT X l y_Txt_readNumber prog_8_method_11_code 4 (some .int) 2 vI [.ref (xa X q), .int p1, .int p2] σ (f_Txt_readNumber q p1 p2 σ) := by
  refine CT_of (by decide +kernel) (Nat.le_of_ble_eq_true rfl) ?_
  intro p e s m args below meth c F hlk hr
  have F : FR p s m args c prog_8_method_11_code 4 "SensorHub$Text" X := F
  show G X p l e (rmD 2) s m args below meth c 4 0 0 (QI X below args s vI) 0 [(0, .ref (xa X q)), (1, .int p1), (2, .int p2)] [] σ _
  unfold f_Txt_readNumber
  refine g_aload_n F d_Txt_readNumber_0 0 rfl ?_
  refine g_callV F (dp := 1) (ci := 6) (As := []) (c_Txt_nextToken l _ hq _) cv_6_30 hq.1 rfl rfl rfl (Nat.le_of_ble_eq_true rfl) ⟨Nat.le_of_ble_eq_true rfl, Nat.le_of_ble_eq_true rfl⟩ ⟨Nat.zero_le _, Nat.zero_le _⟩ d_Txt_readNumber_1 (fun _ σ2 h1 => ?_)
  refine g_aload_n F d_Txt_readNumber_4 0 rfl ?_
  refine g_getI F fs_6_33 hq.1 rfl d_Txt_readNumber_5 ?_
  refine g_iconst F (v := 2) d_Txt_readNumber_8 (by decide) ?_
  refine g_icmp_ne F (tgt := 19) d_Txt_readNumber_9 (by decide) (fun h2 => ?_) (fun h3 => ?_)
  · refine g_aload_n F d_Txt_readNumber_12 0 rfl ?_
    refine g_callV F (dp := 1) (ci := 6) (As := []) (c_Txt_numberOfToken l _ hq _) cv_6_113 hq.1 rfl rfl rfl (Nat.le_of_ble_eq_true rfl) ⟨Nat.le_of_ble_eq_true rfl, Nat.le_of_ble_eq_true rfl⟩ ⟨Nat.zero_le _, Nat.zero_le _⟩ d_Txt_readNumber_13 (fun r3 σ4 h4 => ?_)
    refine g_goto F (tgt := 21) d_Txt_readNumber_16 (by decide) ?_
    refine g_istore_n F (ls' := [(3, .int r3), (0, .ref (xa X q)), (1, .int p1), (2, .int p2)]) d_Txt_readNumber_21 (by decide) rfl ?_
    refine g_iload_n F d_Txt_readNumber_22 0 rfl ?_
    refine g_if_lt F (tgt := 35) d_Txt_readNumber_23 (by decide) (fun h5 => ?_) (fun h6 => ?_)
    · refine g_aload_n F d_Txt_readNumber_35 1 rfl ?_
      refine g_iconst F (v := 1) d_Txt_readNumber_36 (by decide) ?_
      refine g_pt (q := (1 : Int32) &&& 1 = (1 : Int32)) (by decide) (g_putZ F fw_6_23 hq.1 rfl d_Txt_readNumber_37 ?_)
      refine g_ltM (fun σ5 _ => ?_)
      refine g_iload_n F d_Txt_readNumber_40 0 rfl ?_
      exact g_iret F hlk hr d_Txt_readNumber_41
    refine g_iload_n F d_Txt_readNumber_26 0 rfl ?_
    refine g_iload_n F d_Txt_readNumber_27 2 rfl ?_
    refine g_iload_n F d_Txt_readNumber_28 3 rfl ?_
    refine g_callSN F (dp := 0) (As := [.int r3, .int p1, .int p2]) (c_X_isWithin l _ _ _ _) cs_6_19 rfl rfl (Nat.le_of_ble_eq_true rfl) ⟨Nat.le_of_ble_eq_true rfl, Nat.le_of_ble_eq_true rfl⟩ ⟨Nat.zero_le _, Nat.zero_le _⟩ d_Txt_readNumber_29 (fun r6 σ7 h7 => ?_)
    refine g_if_ne F (tgt := 40) d_Txt_readNumber_32 (by decide) (fun h8 => ?_) (fun h9 => ?_)
    · refine g_aload_n F d_Txt_readNumber_35 1 rfl ?_
      refine g_iconst F (v := 1) d_Txt_readNumber_36 (by decide) ?_
      refine g_pt (q := (1 : Int32) &&& 1 = (1 : Int32)) (by decide) (g_putZ F fw_6_23 hq.1 rfl d_Txt_readNumber_37 ?_)
      refine g_ltM (fun σ8 _ => ?_)
      refine g_iload_n F d_Txt_readNumber_40 0 rfl ?_
      exact g_iret F hlk hr d_Txt_readNumber_41
    refine g_iload_n F d_Txt_readNumber_40 0 rfl ?_
    exact g_iret F hlk hr d_Txt_readNumber_41
  refine g_bipush F (v := (-9)) d_Txt_readNumber_19 (by decide) ?_
  refine g_istore_n F (ls' := [(3, .int (-9 : Int32)), (0, .ref (xa X q)), (1, .int p1), (2, .int p2)]) d_Txt_readNumber_21 (by decide) rfl ?_
  refine g_iload_n F d_Txt_readNumber_22 0 rfl ?_
  refine g_pt (q := (-9 : Int32) < 0) (by decide) (g_if_lt F (tgt := 35) d_Txt_readNumber_23 (by decide) (fun _ => ?_) (fun _ => g_no))
  refine g_aload_n F d_Txt_readNumber_35 1 rfl ?_
  refine g_iconst F (v := 1) d_Txt_readNumber_36 (by decide) ?_
  refine g_pt (q := (1 : Int32) &&& 1 = (1 : Int32)) (by decide) (g_putZ F fw_6_23 hq.1 rfl d_Txt_readNumber_37 ?_)
  refine g_ltM (fun σ9 _ => ?_)
  refine g_iload_n F d_Txt_readNumber_40 0 rfl ?_
  exact g_iret F hlk hr d_Txt_readNumber_41
def y_Txt_readEndOfItem : MethodName := ⟨"SensorHub$Text", "readEndOfItem", "()V"⟩
theorem d_Txt_readEndOfItem_0 : decode prog_8_method_12_code 0 = .ok (.aload_n 0, 1) := by decide +kernel
theorem d_Txt_readEndOfItem_1 : decode prog_8_method_12_code 1 = .ok (.invokevirtual 30, 3) := by decide +kernel
theorem d_Txt_readEndOfItem_4 : decode prog_8_method_12_code 4 = .ok (.aload_n 0, 1) := by decide +kernel
theorem d_Txt_readEndOfItem_5 : decode prog_8_method_12_code 5 = .ok (.aload_n 0, 1) := by decide +kernel
theorem d_Txt_readEndOfItem_6 : decode prog_8_method_12_code 6 = .ok (.getfield 40, 3) := by decide +kernel
theorem d_Txt_readEndOfItem_9 : decode prog_8_method_12_code 9 = .ok (.invokevirtual 117, 3) := by decide +kernel
theorem d_Txt_readEndOfItem_12 : decode prog_8_method_12_code 12 = .ok (.bipush 59, 2) := by decide +kernel
theorem d_Txt_readEndOfItem_14 : decode prog_8_method_12_code 14 = .ok (.if_icmp .eq 8, 3) := by decide +kernel
theorem d_Txt_readEndOfItem_17 : decode prog_8_method_12_code 17 = .ok (.aload_n 0, 1) := by decide +kernel
theorem d_Txt_readEndOfItem_18 : decode prog_8_method_12_code 18 = .ok (.iconst 1, 1) := by decide +kernel
theorem d_Txt_readEndOfItem_19 : decode prog_8_method_12_code 19 = .ok (.putfield 23, 3) := by decide +kernel
theorem d_Txt_readEndOfItem_22 : decode prog_8_method_12_code 22 = .ok (.return_, 1) := by decide +kernel
def f_Txt_readEndOfItem (q : Nat) (σ : Mem) : Option (Unit × Mem) :=
  bd (f_Txt_nextToken q σ) fun _ σ2 =>
  bd (f_Txt_codeAt q (σ2 q 4) σ2) fun r3 σ4 =>
  if r3 = (59 : Int32) then
    some ((), σ4)
  else
    lt (wr σ4 q 2 (1 : Int32)) fun σ5 =>
    some ((), σ5)
set_option maxRecDepth 100000 in
set_option maxHeartbeats 4000000 in
theorem c_Txt_readEndOfItem {X : CX} (l : Launch) (q : Nat) (hq : TextOK X q) (σ : Mem) : CT X l y_Txt_readEndOfItem prog_8_method_12_code 1 none 2 vU [.ref (xa X q)] σ (f_Txt_readEndOfItem q σ) := by
  refine CT_of (by decide +kernel) (Nat.le_of_ble_eq_true rfl) ?_
  intro p e s m args below meth c F hlk hr
  have F : FR p s m args c prog_8_method_12_code 1 "SensorHub$Text" X := F
  show G X p l e (rmD 2) s m args below meth c 1 0 0 (QI X below args s vU) 0 [(0, .ref (xa X q))] [] σ _
  unfold f_Txt_readEndOfItem
  refine g_aload_n F d_Txt_readEndOfItem_0 0 rfl ?_
  refine g_callV F (dp := 1) (ci := 6) (As := []) (c_Txt_nextToken l _ hq _) cv_6_30 hq.1 rfl rfl rfl (Nat.le_of_ble_eq_true rfl) ⟨Nat.le_of_ble_eq_true rfl, Nat.le_of_ble_eq_true rfl⟩ ⟨Nat.zero_le _, Nat.zero_le _⟩ d_Txt_readEndOfItem_1 (fun _ σ2 h1 => ?_)
  refine g_aload_n F d_Txt_readEndOfItem_4 0 rfl ?_
  refine g_aload_n F d_Txt_readEndOfItem_5 0 rfl ?_
  refine g_getI F fs_6_40 hq.1 rfl d_Txt_readEndOfItem_6 ?_
  refine g_callV F (dp := 0) (ci := 6) (As := [.int (σ2 q 4)]) (c_Txt_codeAt l _ _ hq _) cv_6_117 hq.1 rfl rfl rfl (Nat.le_of_ble_eq_true rfl) ⟨Nat.le_of_ble_eq_true rfl, Nat.le_of_ble_eq_true rfl⟩ ⟨Nat.zero_le _, Nat.zero_le _⟩ d_Txt_readEndOfItem_9 (fun r3 σ4 h2 => ?_)
  refine g_bipush F (v := 59) d_Txt_readEndOfItem_12 (by decide) ?_
  refine g_icmp_eq F (tgt := 22) d_Txt_readEndOfItem_14 (by decide) (fun h3 => ?_) (fun h4 => ?_)
  · exact g_vret F hlk hr d_Txt_readEndOfItem_22
  refine g_aload_n F d_Txt_readEndOfItem_17 0 rfl ?_
  refine g_iconst F (v := 1) d_Txt_readEndOfItem_18 (by decide) ?_
  refine g_pt (q := (1 : Int32) &&& 1 = (1 : Int32)) (by decide) (g_putZ F fw_6_23 hq.1 rfl d_Txt_readEndOfItem_19 ?_)
  refine g_ltM (fun σ5 _ => ?_)
  exact g_vret F hlk hr d_Txt_readEndOfItem_22
def y_Txt_readPhysical : MethodName := ⟨"SensorHub$Text", "readPhysical", "(LSensorHub$Hub;)V"⟩
theorem d_Txt_readPhysical_0 : decode prog_8_method_8_code 0 = .ok (.aload_n 0, 1) := by decide +kernel
theorem d_Txt_readPhysical_1 : decode prog_8_method_8_code 1 = .ok (.aload_n 1, 1) := by decide +kernel
theorem d_Txt_readPhysical_2 : decode prog_8_method_8_code 2 = .ok (.invokevirtual 69, 3) := by decide +kernel
theorem d_Txt_readPhysical_5 : decode prog_8_method_8_code 5 = .ok (.putfield 23, 3) := by decide +kernel
theorem d_Txt_readPhysical_8 : decode prog_8_method_8_code 8 = .ok (.aload_n 0, 1) := by decide +kernel
theorem d_Txt_readPhysical_9 : decode prog_8_method_8_code 9 = .ok (.iconst 1, 1) := by decide +kernel
theorem d_Txt_readPhysical_10 : decode prog_8_method_8_code 10 = .ok (.bipush 20, 2) := by decide +kernel
theorem d_Txt_readPhysical_12 : decode prog_8_method_8_code 12 = .ok (.invokevirtual 75, 3) := by decide +kernel
theorem d_Txt_readPhysical_15 : decode prog_8_method_8_code 15 = .ok (.istore_n 2, 1) := by decide +kernel
theorem d_Txt_readPhysical_16 : decode prog_8_method_8_code 16 = .ok (.aload_n 0, 1) := by decide +kernel
theorem d_Txt_readPhysical_17 : decode prog_8_method_8_code 17 = .ok (.iconst 1, 1) := by decide +kernel
theorem d_Txt_readPhysical_18 : decode prog_8_method_8_code 18 = .ok (.iconst 5, 1) := by decide +kernel
theorem d_Txt_readPhysical_19 : decode prog_8_method_8_code 19 = .ok (.invokevirtual 75, 3) := by decide +kernel
theorem d_Txt_readPhysical_22 : decode prog_8_method_8_code 22 = .ok (.istore_n 3, 1) := by decide +kernel
theorem d_Txt_readPhysical_23 : decode prog_8_method_8_code 23 = .ok (.aload_n 0, 1) := by decide +kernel
theorem d_Txt_readPhysical_24 : decode prog_8_method_8_code 24 = .ok (.iconst 0, 1) := by decide +kernel
theorem d_Txt_readPhysical_25 : decode prog_8_method_8_code 25 = .ok (.bipush 99, 2) := by decide +kernel
theorem d_Txt_readPhysical_27 : decode prog_8_method_8_code 27 = .ok (.invokevirtual 75, 3) := by decide +kernel
theorem d_Txt_readPhysical_30 : decode prog_8_method_8_code 30 = .ok (.istore 4, 2) := by decide +kernel
theorem d_Txt_readPhysical_32 : decode prog_8_method_8_code 32 = .ok (.aload_n 0, 1) := by decide +kernel
theorem d_Txt_readPhysical_33 : decode prog_8_method_8_code 33 = .ok (.iconst 0, 1) := by decide +kernel
theorem d_Txt_readPhysical_34 : decode prog_8_method_8_code 34 = .ok (.sipush 999, 3) := by decide +kernel
theorem d_Txt_readPhysical_37 : decode prog_8_method_8_code 37 = .ok (.invokevirtual 75, 3) := by decide +kernel
theorem d_Txt_readPhysical_40 : decode prog_8_method_8_code 40 = .ok (.istore 5, 2) := by decide +kernel
theorem d_Txt_readPhysical_42 : decode prog_8_method_8_code 42 = .ok (.aload_n 0, 1) := by decide +kernel
theorem d_Txt_readPhysical_43 : decode prog_8_method_8_code 43 = .ok (.iconst 0, 1) := by decide +kernel
theorem d_Txt_readPhysical_44 : decode prog_8_method_8_code 44 = .ok (.iload_n 2, 1) := by decide +kernel
theorem d_Txt_readPhysical_45 : decode prog_8_method_8_code 45 = .ok (.invokestatic 79, 3) := by decide +kernel
theorem d_Txt_readPhysical_48 : decode prog_8_method_8_code 48 = .ok (.invokevirtual 75, 3) := by decide +kernel
theorem d_Txt_readPhysical_51 : decode prog_8_method_8_code 51 = .ok (.istore 6, 2) := by decide +kernel
theorem d_Txt_readPhysical_53 : decode prog_8_method_8_code 53 = .ok (.aload_n 0, 1) := by decide +kernel
theorem d_Txt_readPhysical_54 : decode prog_8_method_8_code 54 = .ok (.iconst 1, 1) := by decide +kernel
theorem d_Txt_readPhysical_55 : decode prog_8_method_8_code 55 = .ok (.bipush 50, 2) := by decide +kernel
theorem d_Txt_readPhysical_57 : decode prog_8_method_8_code 57 = .ok (.invokevirtual 75, 3) := by decide +kernel
theorem d_Txt_readPhysical_60 : decode prog_8_method_8_code 60 = .ok (.istore 7, 2) := by decide +kernel
theorem d_Txt_readPhysical_62 : decode prog_8_method_8_code 62 = .ok (.aload_n 0, 1) := by decide +kernel
theorem d_Txt_readPhysical_63 : decode prog_8_method_8_code 63 = .ok (.invokevirtual 83, 3) := by decide +kernel
theorem d_Txt_readPhysical_66 : decode prog_8_method_8_code 66 = .ok (.aload_n 0, 1) := by decide +kernel
theorem d_Txt_readPhysical_67 : decode prog_8_method_8_code 67 = .ok (.getfield 23, 3) := by decide +kernel
theorem d_Txt_readPhysical_70 : decode prog_8_method_8_code 70 = .ok (.ifCond .ne 18, 3) := by decide +kernel
theorem d_Txt_readPhysical_73 : decode prog_8_method_8_code 73 = .ok (.aload_n 1, 1) := by decide +kernel
theorem d_Txt_readPhysical_74 : decode prog_8_method_8_code 74 = .ok (.iload_n 2, 1) := by decide +kernel
theorem d_Txt_readPhysical_75 : decode prog_8_method_8_code 75 = .ok (.iload_n 3, 1) := by decide +kernel
theorem d_Txt_readPhysical_76 : decode prog_8_method_8_code 76 = .ok (.iload 4, 2) := by decide +kernel
theorem d_Txt_readPhysical_78 : decode prog_8_method_8_code 78 = .ok (.iload 5, 2) := by decide +kernel
theorem d_Txt_readPhysical_80 : decode prog_8_method_8_code 80 = .ok (.iload 6, 2) := by decide +kernel
theorem d_Txt_readPhysical_82 : decode prog_8_method_8_code 82 = .ok (.iload 7, 2) := by decide +kernel
theorem d_Txt_readPhysical_84 : decode prog_8_method_8_code 84 = .ok (.invokevirtual 86, 3) := by decide +kernel
theorem d_Txt_readPhysical_87 : decode prog_8_method_8_code 87 = .ok (.pop, 1) := by decide +kernel
theorem d_Txt_readPhysical_88 : decode prog_8_method_8_code 88 = .ok (.return_, 1) := by decide +kernel
theorem cv_6_69 : CSV "SensorHub$Text" 69 y_Hub_hasAllSensors prog_4_method_8_code 1 (some .boolean) 0 := ⟨gw_I 689 (by decide +kernel) rfl, gw_I 401 (by decide +kernel) rfl, gw_I 402 (by decide +kernel) rfl, gw_I 71 (by decide +kernel) rfl, gw_I 403 (by decide +kernel) rfl, ⟨by decide +kernel, by decide +kernel⟩, by decide +kernel⟩
theorem cv_6_75 : CSV "SensorHub$Text" 75 y_Txt_readNumber prog_8_method_11_code 4 (some .int) 2 := ⟨gw_I 690 (by decide +kernel) rfl, gw_I 692 (by decide +kernel) rfl, gw_I 12 (by decide +kernel) rfl, gw_I 77 (by decide +kernel) rfl, gw_I 693 (by decide +kernel) rfl, ⟨by decide +kernel, by decide +kernel⟩, by decide +kernel⟩
theorem cs_6_79 : CSN "SensorHub$Text" 79 y_X_greatestJitter "SensorHub" prog_1_method_25_code 1 (some .int) 1 := ⟨List.mem_of_getElem? (i := 10) rfl, gw_I 395 (by decide +kernel) rfl, gw_I 70 (by decide +kernel) rfl, gw_I 396 (by decide +kernel) rfl, ⟨by decide +kernel, by decide +kernel⟩, by decide +kernel⟩
theorem cv_6_83 : CSV "SensorHub$Text" 83 y_Txt_readEndOfItem prog_8_method_12_code 1 none 0 := ⟨gw_I 699 (by decide +kernel) rfl, gw_I 701 (by decide +kernel) rfl, gw_I 14 (by decide +kernel) rfl, gw_I 77 (by decide +kernel) rfl, gw_I 702 (by decide +kernel) rfl, ⟨by decide +kernel, by decide +kernel⟩, by decide +kernel⟩
theorem cv_6_86 : CSV "SensorHub$Text" 86 y_Hub_addPhysical prog_4_method_11_code 9 (some .int) 6 := ⟨gw_I 703 (by decide +kernel) rfl, gw_I 444 (by decide +kernel) rfl, gw_I 445 (by decide +kernel) rfl, gw_I 71 (by decide +kernel) rfl, gw_I 446 (by decide +kernel) rfl, ⟨by decide +kernel, by decide +kernel⟩, by decide +kernel⟩
def f_Txt_readPhysical (q : Nat) (q1 : Nat) (σ : Mem) : Option (Unit × Mem) :=
  bd (f_Hub_hasAllSensors q1 σ) fun r1 σ2 =>
  if r1 &&& 1 = r1 then
    lt (wr σ2 q 2 r1) fun σ3 =>
    bd (f_Txt_readNumber q (1 : Int32) (20 : Int32) σ3) fun r4 σ5 =>
    bd (f_Txt_readNumber q (1 : Int32) (5 : Int32) σ5) fun r6 σ7 =>
    bd (f_Txt_readNumber q (0 : Int32) (99 : Int32) σ7) fun r8 σ9 =>
    bd (f_Txt_readNumber q (0 : Int32) (999 : Int32) σ9) fun r10 σ11 =>
    bd (f_X_greatestJitter r4 σ11) fun r12 σ13 =>
    bd (f_Txt_readNumber q (0 : Int32) r12 σ13) fun r14 σ15 =>
    bd (f_Txt_readNumber q (1 : Int32) (50 : Int32) σ15) fun r16 σ17 =>
    bd (f_Txt_readEndOfItem q σ17) fun _ σ19 =>
    if (σ19 q 2) = 0 then
      bd (f_Hub_addPhysical q1 r4 r6 r8 r10 r14 r16 σ19) fun r20 σ21 =>
      some ((), σ21)
    else
      some ((), σ19)
  else none
set_option maxRecDepth 100000 in
set_option maxHeartbeats 4000000 in
theorem c_Txt_readPhysical {X : CX} (l : Launch) (q : Nat) (q1 : Nat) (hq : TextOK X q) (hq1 : HubOK X q1) (σ : Mem) : CT X l y_Txt_readPhysical prog_8_method_8_code 8 none 3 vU [.ref (xa X q), .ref (xa X q1)] σ (f_Txt_readPhysical q q1 σ) := by
  refine CT_of (by decide +kernel) (Nat.le_of_ble_eq_true rfl) ?_
  intro p e s m args below meth c F hlk hr
  have F : FR p s m args c prog_8_method_8_code 8 "SensorHub$Text" X := F
  show G X p l e (rmD 3) s m args below meth c 8 0 0 (QI X below args s vU) 0 [(0, .ref (xa X q)), (1, .ref (xa X q1))] [] σ _
  unfold f_Txt_readPhysical
  refine g_aload_n F d_Txt_readPhysical_0 0 rfl ?_
  refine g_aload_n F d_Txt_readPhysical_1 1 rfl ?_
  refine g_callV F (dp := 0) (ci := 2) (As := []) (c_Hub_hasAllSensors l _ hq1 _) cv_6_69 hq1.1 rfl rfl rfl (Nat.le_of_ble_eq_true rfl) ⟨Nat.le_of_ble_eq_true rfl, Nat.le_of_ble_eq_true rfl⟩ ⟨Nat.zero_le _, Nat.zero_le _⟩ d_Txt_readPhysical_2 (fun r1 σ2 h1 => ?_)
  refine g_putZ F fw_6_23 hq.1 rfl d_Txt_readPhysical_5 ?_
  refine g_ltM (fun σ3 _ => ?_)
  refine g_aload_n F d_Txt_readPhysical_8 0 rfl ?_
  refine g_iconst F (v := 1) d_Txt_readPhysical_9 (by decide) ?_
  refine g_bipush F (v := 20) d_Txt_readPhysical_10 (by decide) ?_
  refine g_callV F (dp := 2) (ci := 6) (As := [.int (1 : Int32), .int (20 : Int32)]) (c_Txt_readNumber l _ _ _ hq _) cv_6_75 hq.1 rfl rfl rfl (Nat.le_of_ble_eq_true rfl) ⟨Nat.le_of_ble_eq_true rfl, Nat.le_of_ble_eq_true rfl⟩ ⟨Nat.zero_le _, Nat.zero_le _⟩ d_Txt_readPhysical_12 (fun r4 σ5 h2 => ?_)
  refine g_istore_n F (ls' := [(2, .int r4), (0, .ref (xa X q)), (1, .ref (xa X q1))]) d_Txt_readPhysical_15 (by decide) rfl ?_
  refine g_aload_n F d_Txt_readPhysical_16 1 rfl ?_
  refine g_iconst F (v := 1) d_Txt_readPhysical_17 (by decide) ?_
  refine g_iconst F (v := 5) d_Txt_readPhysical_18 (by decide) ?_
  refine g_callV F (dp := 2) (ci := 6) (As := [.int (1 : Int32), .int (5 : Int32)]) (c_Txt_readNumber l _ _ _ hq _) cv_6_75 hq.1 rfl rfl rfl (Nat.le_of_ble_eq_true rfl) ⟨Nat.le_of_ble_eq_true rfl, Nat.le_of_ble_eq_true rfl⟩ ⟨Nat.zero_le _, Nat.zero_le _⟩ d_Txt_readPhysical_19 (fun r6 σ7 h3 => ?_)
  refine g_istore_n F (ls' := [(3, .int r6), (2, .int r4), (0, .ref (xa X q)), (1, .ref (xa X q1))]) d_Txt_readPhysical_22 (by decide) rfl ?_
  refine g_aload_n F d_Txt_readPhysical_23 2 rfl ?_
  refine g_iconst F (v := 0) d_Txt_readPhysical_24 (by decide) ?_
  refine g_bipush F (v := 99) d_Txt_readPhysical_25 (by decide) ?_
  refine g_callV F (dp := 2) (ci := 6) (As := [.int (0 : Int32), .int (99 : Int32)]) (c_Txt_readNumber l _ _ _ hq _) cv_6_75 hq.1 rfl rfl rfl (Nat.le_of_ble_eq_true rfl) ⟨Nat.le_of_ble_eq_true rfl, Nat.le_of_ble_eq_true rfl⟩ ⟨Nat.zero_le _, Nat.zero_le _⟩ d_Txt_readPhysical_27 (fun r8 σ9 h4 => ?_)
  refine g_istore F (ls' := [(4, .int r8), (3, .int r6), (2, .int r4), (0, .ref (xa X q)), (1, .ref (xa X q1))]) d_Txt_readPhysical_30 (by decide) rfl ?_
  refine g_aload_n F d_Txt_readPhysical_32 3 rfl ?_
  refine g_iconst F (v := 0) d_Txt_readPhysical_33 (by decide) ?_
  refine g_sipush F (v := 999) d_Txt_readPhysical_34 (by decide) ?_
  refine g_callV F (dp := 2) (ci := 6) (As := [.int (0 : Int32), .int (999 : Int32)]) (c_Txt_readNumber l _ _ _ hq _) cv_6_75 hq.1 rfl rfl rfl (Nat.le_of_ble_eq_true rfl) ⟨Nat.le_of_ble_eq_true rfl, Nat.le_of_ble_eq_true rfl⟩ ⟨Nat.zero_le _, Nat.zero_le _⟩ d_Txt_readPhysical_37 (fun r10 σ11 h5 => ?_)
  refine g_istore F (ls' := [(5, .int r10), (4, .int r8), (3, .int r6), (2, .int r4), (0, .ref (xa X q)), (1, .ref (xa X q1))]) d_Txt_readPhysical_40 (by decide) rfl ?_
  refine g_aload_n F d_Txt_readPhysical_42 4 rfl ?_
  refine g_iconst F (v := 0) d_Txt_readPhysical_43 (by decide) ?_
  refine g_iload_n F d_Txt_readPhysical_44 3 rfl ?_
  refine g_callSN F (dp := 1) (As := [.int r4]) (c_X_greatestJitter l _ _) cs_6_79 rfl rfl (Nat.le_of_ble_eq_true rfl) ⟨Nat.le_of_ble_eq_true rfl, Nat.le_of_ble_eq_true rfl⟩ ⟨Nat.zero_le _, Nat.zero_le _⟩ d_Txt_readPhysical_45 (fun r12 σ13 h6 => ?_)
  refine g_callV F (dp := 2) (ci := 6) (As := [.int (0 : Int32), .int r12]) (c_Txt_readNumber l _ _ _ hq _) cv_6_75 hq.1 rfl rfl rfl (Nat.le_of_ble_eq_true rfl) ⟨Nat.le_of_ble_eq_true rfl, Nat.le_of_ble_eq_true rfl⟩ ⟨Nat.zero_le _, Nat.zero_le _⟩ d_Txt_readPhysical_48 (fun r14 σ15 h7 => ?_)
  refine g_istore F (ls' := [(6, .int r14), (5, .int r10), (4, .int r8), (3, .int r6), (2, .int r4), (0, .ref (xa X q)), (1, .ref (xa X q1))]) d_Txt_readPhysical_51 (by decide) rfl ?_
  refine g_aload_n F d_Txt_readPhysical_53 5 rfl ?_
  refine g_iconst F (v := 1) d_Txt_readPhysical_54 (by decide) ?_
  refine g_bipush F (v := 50) d_Txt_readPhysical_55 (by decide) ?_
  refine g_callV F (dp := 2) (ci := 6) (As := [.int (1 : Int32), .int (50 : Int32)]) (c_Txt_readNumber l _ _ _ hq _) cv_6_75 hq.1 rfl rfl rfl (Nat.le_of_ble_eq_true rfl) ⟨Nat.le_of_ble_eq_true rfl, Nat.le_of_ble_eq_true rfl⟩ ⟨Nat.zero_le _, Nat.zero_le _⟩ d_Txt_readPhysical_57 (fun r16 σ17 h8 => ?_)
  refine g_istore F (ls' := [(7, .int r16), (6, .int r14), (5, .int r10), (4, .int r8), (3, .int r6), (2, .int r4), (0, .ref (xa X q)), (1, .ref (xa X q1))]) d_Txt_readPhysical_60 (by decide) rfl ?_
  refine g_aload_n F d_Txt_readPhysical_62 6 rfl ?_
  refine g_callV F (dp := 2) (ci := 6) (As := []) (c_Txt_readEndOfItem l _ hq _) cv_6_83 hq.1 rfl rfl rfl (Nat.le_of_ble_eq_true rfl) ⟨Nat.le_of_ble_eq_true rfl, Nat.le_of_ble_eq_true rfl⟩ ⟨Nat.zero_le _, Nat.zero_le _⟩ d_Txt_readPhysical_63 (fun _ σ19 h9 => ?_)
  refine g_aload_n F d_Txt_readPhysical_66 6 rfl ?_
  refine g_getI F fs_6_23 hq.1 rfl d_Txt_readPhysical_67 ?_
  refine g_if_ne F (tgt := 88) d_Txt_readPhysical_70 (by decide) (fun h10 => ?_) (fun h11 => ?_)
  · refine g_aload_n F d_Txt_readPhysical_73 7 rfl ?_
    refine g_iload_n F d_Txt_readPhysical_74 5 rfl ?_
    refine g_iload_n F d_Txt_readPhysical_75 4 rfl ?_
    refine g_iload F d_Txt_readPhysical_76 3 rfl ?_
    refine g_iload F d_Txt_readPhysical_78 2 rfl ?_
    refine g_iload F d_Txt_readPhysical_80 1 rfl ?_
    refine g_iload F d_Txt_readPhysical_82 0 rfl ?_
    refine g_callV F (dp := 2) (ci := 2) (As := [.int r4, .int r6, .int r8, .int r10, .int r14, .int r16]) (c_Hub_addPhysical l _ _ _ _ _ _ _ hq1 _) cv_6_86 hq1.1 rfl rfl rfl (Nat.le_of_ble_eq_true rfl) ⟨Nat.le_of_ble_eq_true rfl, Nat.le_of_ble_eq_true rfl⟩ ⟨Nat.zero_le _, Nat.zero_le _⟩ d_Txt_readPhysical_84 (fun r20 σ21 h12 => ?_)
    refine g_pop F d_Txt_readPhysical_87 rfl ?_
    exact g_vret F hlk hr d_Txt_readPhysical_88
  exact g_vret F hlk hr d_Txt_readPhysical_88
def y_Txt_readComputed : MethodName := ⟨"SensorHub$Text", "readComputed", "(LSensorHub$Hub;I)V"⟩
theorem d_Txt_readComputed_0 : decode prog_8_method_9_code 0 = .ok (.aload_n 0, 1) := by decide +kernel
theorem d_Txt_readComputed_1 : decode prog_8_method_9_code 1 = .ok (.aload_n 1, 1) := by decide +kernel
theorem d_Txt_readComputed_2 : decode prog_8_method_9_code 2 = .ok (.invokevirtual 69, 3) := by decide +kernel
theorem d_Txt_readComputed_5 : decode prog_8_method_9_code 5 = .ok (.putfield 23, 3) := by decide +kernel
theorem d_Txt_readComputed_8 : decode prog_8_method_9_code 8 = .ok (.aload_n 0, 1) := by decide +kernel
theorem d_Txt_readComputed_9 : decode prog_8_method_9_code 9 = .ok (.iconst 0, 1) := by decide +kernel
theorem d_Txt_readComputed_10 : decode prog_8_method_9_code 10 = .ok (.aload_n 1, 1) := by decide +kernel
theorem d_Txt_readComputed_11 : decode prog_8_method_9_code 11 = .ok (.getfield 90, 3) := by decide +kernel
theorem d_Txt_readComputed_14 : decode prog_8_method_9_code 14 = .ok (.iconst 1, 1) := by decide +kernel
theorem d_Txt_readComputed_15 : decode prog_8_method_9_code 15 = .ok (.isub, 1) := by decide +kernel
theorem d_Txt_readComputed_16 : decode prog_8_method_9_code 16 = .ok (.invokevirtual 75, 3) := by decide +kernel
theorem d_Txt_readComputed_19 : decode prog_8_method_9_code 19 = .ok (.istore_n 3, 1) := by decide +kernel
theorem d_Txt_readComputed_20 : decode prog_8_method_9_code 20 = .ok (.iload_n 2, 1) := by decide +kernel
theorem d_Txt_readComputed_21 : decode prog_8_method_9_code 21 = .ok (.iconst 3, 1) := by decide +kernel
theorem d_Txt_readComputed_22 : decode prog_8_method_9_code 22 = .ok (.if_icmp .ne 13, 3) := by decide +kernel
theorem d_Txt_readComputed_25 : decode prog_8_method_9_code 25 = .ok (.aload_n 0, 1) := by decide +kernel
theorem d_Txt_readComputed_26 : decode prog_8_method_9_code 26 = .ok (.iconst 1, 1) := by decide +kernel
theorem d_Txt_readComputed_27 : decode prog_8_method_9_code 27 = .ok (.bipush 8, 2) := by decide +kernel
theorem d_Txt_readComputed_29 : decode prog_8_method_9_code 29 = .ok (.invokevirtual 75, 3) := by decide +kernel
theorem d_Txt_readComputed_32 : decode prog_8_method_9_code 32 = .ok (.goto 14, 3) := by decide +kernel
theorem d_Txt_readComputed_35 : decode prog_8_method_9_code 35 = .ok (.aload_n 0, 1) := by decide +kernel
theorem d_Txt_readComputed_36 : decode prog_8_method_9_code 36 = .ok (.iconst 0, 1) := by decide +kernel
theorem d_Txt_readComputed_37 : decode prog_8_method_9_code 37 = .ok (.aload_n 1, 1) := by decide +kernel
theorem d_Txt_readComputed_38 : decode prog_8_method_9_code 38 = .ok (.getfield 90, 3) := by decide +kernel
theorem d_Txt_readComputed_41 : decode prog_8_method_9_code 41 = .ok (.iconst 1, 1) := by decide +kernel
theorem d_Txt_readComputed_42 : decode prog_8_method_9_code 42 = .ok (.isub, 1) := by decide +kernel
theorem d_Txt_readComputed_43 : decode prog_8_method_9_code 43 = .ok (.invokevirtual 75, 3) := by decide +kernel
theorem d_Txt_readComputed_46 : decode prog_8_method_9_code 46 = .ok (.istore 4, 2) := by decide +kernel
theorem d_Txt_readComputed_48 : decode prog_8_method_9_code 48 = .ok (.aload_n 0, 1) := by decide +kernel
theorem d_Txt_readComputed_49 : decode prog_8_method_9_code 49 = .ok (.invokevirtual 83, 3) := by decide +kernel
theorem d_Txt_readComputed_52 : decode prog_8_method_9_code 52 = .ok (.aload_n 0, 1) := by decide +kernel
theorem d_Txt_readComputed_53 : decode prog_8_method_9_code 53 = .ok (.getfield 23, 3) := by decide +kernel
theorem d_Txt_readComputed_56 : decode prog_8_method_9_code 56 = .ok (.ifCond .ne 12, 3) := by decide +kernel
theorem d_Txt_readComputed_59 : decode prog_8_method_9_code 59 = .ok (.aload_n 1, 1) := by decide +kernel
theorem d_Txt_readComputed_60 : decode prog_8_method_9_code 60 = .ok (.iload_n 2, 1) := by decide +kernel
theorem d_Txt_readComputed_61 : decode prog_8_method_9_code 61 = .ok (.iload_n 3, 1) := by decide +kernel
theorem d_Txt_readComputed_62 : decode prog_8_method_9_code 62 = .ok (.iload 4, 2) := by decide +kernel
theorem d_Txt_readComputed_64 : decode prog_8_method_9_code 64 = .ok (.invokevirtual 93, 3) := by decide +kernel
theorem d_Txt_readComputed_67 : decode prog_8_method_9_code 67 = .ok (.pop, 1) := by decide +kernel
theorem d_Txt_readComputed_68 : decode prog_8_method_9_code 68 = .ok (.return_, 1) := by decide +kernel
theorem fs_6_90 : FS "SensorHub$Text" 90 2 4 := ⟨"SensorHub$Hub", T_2, 11, rfl, by decide, rfl, gw_I 295 (by decide +kernel) rfl⟩
theorem cv_6_93 : CSV "SensorHub$Text" 93 y_Hub_addComputed prog_4_method_12_code 8 (some .int) 3 := ⟨gw_I 709 (by decide +kernel) rfl, gw_I 473 (by decide +kernel) rfl, gw_I 474 (by decide +kernel) rfl, gw_I 71 (by decide +kernel) rfl, gw_I 475 (by decide +kernel) rfl, ⟨by decide +kernel, by decide +kernel⟩, by decide +kernel⟩
def f_Txt_readComputed (q : Nat) (q1 : Nat) (p2 : Int32) (σ : Mem) : Option (Unit × Mem) :=
  bd (f_Hub_hasAllSensors q1 σ) fun r1 σ2 =>
  if r1 &&& 1 = r1 then
    lt (wr σ2 q 2 r1) fun σ3 =>
    bd (f_Txt_readNumber q (0 : Int32) ((σ3 q1 4) - (1 : Int32)) σ3) fun r4 σ5 =>
    if p2 = (3 : Int32) then
      bd (f_Txt_readNumber q (1 : Int32) (8 : Int32) σ5) fun r6 σ7 =>
      bd (f_Txt_readEndOfItem q σ7) fun _ σ9 =>
      if (σ9 q 2) = 0 then
        bd (f_Hub_addComputed q1 p2 r4 r6 σ9) fun r10 σ11 =>
        some ((), σ11)
      else
        some ((), σ9)
    else
      bd (f_Txt_readNumber q (0 : Int32) ((σ5 q1 4) - (1 : Int32)) σ5) fun r12 σ13 =>
      bd (f_Txt_readEndOfItem q σ13) fun _ σ15 =>
      if (σ15 q 2) = 0 then
        bd (f_Hub_addComputed q1 p2 r4 r12 σ15) fun r16 σ17 =>
        some ((), σ17)
      else
        some ((), σ15)
  else none
set_option maxRecDepth 100000 in
set_option maxHeartbeats 4000000 in
theorem c_Txt_readComputed {X : CX} (l : Launch) (q : Nat) (q1 : Nat) (p2 : Int32) (hq : TextOK X q) (hq1 : HubOK X q1) (σ : Mem) : CT X l y_Txt_readComputed prog_8_method_9_code 5 none 3 vU [.ref (xa X q), .ref (xa X q1), .int p2] σ (f_Txt_readComputed q q1 p2 σ) := by
  refine CT_of (by decide +kernel) (Nat.le_of_ble_eq_true rfl) ?_
  intro p e s m args below meth c F hlk hr
  have F : FR p s m args c prog_8_method_9_code 5 "SensorHub$Text" X := F
  show G X p l e (rmD 3) s m args below meth c 5 0 0 (QI X below args s vU) 0 [(0, .ref (xa X q)), (1, .ref (xa X q1)), (2, .int p2)] [] σ _
  unfold f_Txt_readComputed
  refine g_aload_n F d_Txt_readComputed_0 0 rfl ?_
  refine g_aload_n F d_Txt_readComputed_1 1 rfl ?_
  refine g_callV F (dp := 0) (ci := 2) (As := []) (c_Hub_hasAllSensors l _ hq1 _) cv_6_69 hq1.1 rfl rfl rfl (Nat.le_of_ble_eq_true rfl) ⟨Nat.le_of_ble_eq_true rfl, Nat.le_of_ble_eq_true rfl⟩ ⟨Nat.zero_le _, Nat.zero_le _⟩ d_Txt_readComputed_2 (fun r1 σ2 h1 => ?_)
  refine g_putZ F fw_6_23 hq.1 rfl d_Txt_readComputed_5 ?_
  refine g_ltM (fun σ3 _ => ?_)
  refine g_aload_n F d_Txt_readComputed_8 0 rfl ?_
  refine g_iconst F (v := 0) d_Txt_readComputed_9 (by decide) ?_
  refine g_aload_n F d_Txt_readComputed_10 1 rfl ?_
  refine g_getI F fs_6_90 hq1.1 rfl d_Txt_readComputed_11 ?_
  refine g_iconst F (v := 1) d_Txt_readComputed_14 (by decide) ?_
  refine g_isub F d_Txt_readComputed_15 ?_
  refine g_callV F (dp := 2) (ci := 6) (As := [.int (0 : Int32), .int ((σ3 q1 4) - (1 : Int32))]) (c_Txt_readNumber l _ _ _ hq _) cv_6_75 hq.1 rfl rfl rfl (Nat.le_of_ble_eq_true rfl) ⟨Nat.le_of_ble_eq_true rfl, Nat.le_of_ble_eq_true rfl⟩ ⟨Nat.zero_le _, Nat.zero_le _⟩ d_Txt_readComputed_16 (fun r4 σ5 h2 => ?_)
  refine g_istore_n F (ls' := [(3, .int r4), (0, .ref (xa X q)), (1, .ref (xa X q1)), (2, .int p2)]) d_Txt_readComputed_19 (by decide) rfl ?_
  refine g_iload_n F d_Txt_readComputed_20 3 rfl ?_
  refine g_iconst F (v := 3) d_Txt_readComputed_21 (by decide) ?_
  refine g_icmp_ne F (tgt := 35) d_Txt_readComputed_22 (by decide) (fun h3 => ?_) (fun h4 => ?_)
  · refine g_aload_n F d_Txt_readComputed_25 1 rfl ?_
    refine g_iconst F (v := 1) d_Txt_readComputed_26 (by decide) ?_
    refine g_bipush F (v := 8) d_Txt_readComputed_27 (by decide) ?_
    refine g_callV F (dp := 2) (ci := 6) (As := [.int (1 : Int32), .int (8 : Int32)]) (c_Txt_readNumber l _ _ _ hq _) cv_6_75 hq.1 rfl rfl rfl (Nat.le_of_ble_eq_true rfl) ⟨Nat.le_of_ble_eq_true rfl, Nat.le_of_ble_eq_true rfl⟩ ⟨Nat.zero_le _, Nat.zero_le _⟩ d_Txt_readComputed_29 (fun r6 σ7 h5 => ?_)
    refine g_goto F (tgt := 46) d_Txt_readComputed_32 (by decide) ?_
    refine g_istore F (ls' := [(4, .int r6), (3, .int r4), (0, .ref (xa X q)), (1, .ref (xa X q1)), (2, .int p2)]) d_Txt_readComputed_46 (by decide) rfl ?_
    refine g_aload_n F d_Txt_readComputed_48 2 rfl ?_
    refine g_callV F (dp := 2) (ci := 6) (As := []) (c_Txt_readEndOfItem l _ hq _) cv_6_83 hq.1 rfl rfl rfl (Nat.le_of_ble_eq_true rfl) ⟨Nat.le_of_ble_eq_true rfl, Nat.le_of_ble_eq_true rfl⟩ ⟨Nat.zero_le _, Nat.zero_le _⟩ d_Txt_readComputed_49 (fun _ σ9 h6 => ?_)
    refine g_aload_n F d_Txt_readComputed_52 2 rfl ?_
    refine g_getI F fs_6_23 hq.1 rfl d_Txt_readComputed_53 ?_
    refine g_if_ne F (tgt := 68) d_Txt_readComputed_56 (by decide) (fun h7 => ?_) (fun h8 => ?_)
    · refine g_aload_n F d_Txt_readComputed_59 3 rfl ?_
      refine g_iload_n F d_Txt_readComputed_60 4 rfl ?_
      refine g_iload_n F d_Txt_readComputed_61 1 rfl ?_
      refine g_iload F d_Txt_readComputed_62 0 rfl ?_
      refine g_callV F (dp := 2) (ci := 2) (As := [.int p2, .int r4, .int r6]) (c_Hub_addComputed l _ _ _ _ hq1 _) cv_6_93 hq1.1 rfl rfl rfl (Nat.le_of_ble_eq_true rfl) ⟨Nat.le_of_ble_eq_true rfl, Nat.le_of_ble_eq_true rfl⟩ ⟨Nat.zero_le _, Nat.zero_le _⟩ d_Txt_readComputed_64 (fun r10 σ11 h9 => ?_)
      refine g_pop F d_Txt_readComputed_67 rfl ?_
      exact g_vret F hlk hr d_Txt_readComputed_68
    exact g_vret F hlk hr d_Txt_readComputed_68
  refine g_aload_n F d_Txt_readComputed_35 1 rfl ?_
  refine g_iconst F (v := 0) d_Txt_readComputed_36 (by decide) ?_
  refine g_aload_n F d_Txt_readComputed_37 2 rfl ?_
  refine g_getI F fs_6_90 hq1.1 rfl d_Txt_readComputed_38 ?_
  refine g_iconst F (v := 1) d_Txt_readComputed_41 (by decide) ?_
  refine g_isub F d_Txt_readComputed_42 ?_
  refine g_callV F (dp := 2) (ci := 6) (As := [.int (0 : Int32), .int ((σ5 q1 4) - (1 : Int32))]) (c_Txt_readNumber l _ _ _ hq _) cv_6_75 hq.1 rfl rfl rfl (Nat.le_of_ble_eq_true rfl) ⟨Nat.le_of_ble_eq_true rfl, Nat.le_of_ble_eq_true rfl⟩ ⟨Nat.zero_le _, Nat.zero_le _⟩ d_Txt_readComputed_43 (fun r12 σ13 h10 => ?_)
  refine g_istore F (ls' := [(4, .int r12), (3, .int r4), (0, .ref (xa X q)), (1, .ref (xa X q1)), (2, .int p2)]) d_Txt_readComputed_46 (by decide) rfl ?_
  refine g_aload_n F d_Txt_readComputed_48 2 rfl ?_
  refine g_callV F (dp := 2) (ci := 6) (As := []) (c_Txt_readEndOfItem l _ hq _) cv_6_83 hq.1 rfl rfl rfl (Nat.le_of_ble_eq_true rfl) ⟨Nat.le_of_ble_eq_true rfl, Nat.le_of_ble_eq_true rfl⟩ ⟨Nat.zero_le _, Nat.zero_le _⟩ d_Txt_readComputed_49 (fun _ σ15 h11 => ?_)
  refine g_aload_n F d_Txt_readComputed_52 2 rfl ?_
  refine g_getI F fs_6_23 hq.1 rfl d_Txt_readComputed_53 ?_
  refine g_if_ne F (tgt := 68) d_Txt_readComputed_56 (by decide) (fun h12 => ?_) (fun h13 => ?_)
  · refine g_aload_n F d_Txt_readComputed_59 3 rfl ?_
    refine g_iload_n F d_Txt_readComputed_60 4 rfl ?_
    refine g_iload_n F d_Txt_readComputed_61 1 rfl ?_
    refine g_iload F d_Txt_readComputed_62 0 rfl ?_
    refine g_callV F (dp := 2) (ci := 2) (As := [.int p2, .int r4, .int r12]) (c_Hub_addComputed l _ _ _ _ hq1 _) cv_6_93 hq1.1 rfl rfl rfl (Nat.le_of_ble_eq_true rfl) ⟨Nat.le_of_ble_eq_true rfl, Nat.le_of_ble_eq_true rfl⟩ ⟨Nat.zero_le _, Nat.zero_le _⟩ d_Txt_readComputed_64 (fun r16 σ17 h14 => ?_)
    refine g_pop F d_Txt_readComputed_67 rfl ?_
    exact g_vret F hlk hr d_Txt_readComputed_68
  exact g_vret F hlk hr d_Txt_readComputed_68
def y_Txt_readOutage : MethodName := ⟨"SensorHub$Text", "readOutage", "(LSensorHub$Hub;)V"⟩
theorem d_Txt_readOutage_0 : decode prog_8_method_10_code 0 = .ok (.aload_n 0, 1) := by decide +kernel
theorem d_Txt_readOutage_1 : decode prog_8_method_10_code 1 = .ok (.aload_n 1, 1) := by decide +kernel
theorem d_Txt_readOutage_2 : decode prog_8_method_10_code 2 = .ok (.getfield 97, 3) := by decide +kernel
theorem d_Txt_readOutage_5 : decode prog_8_method_10_code 5 = .ok (.invokevirtual 101, 3) := by decide +kernel
theorem d_Txt_readOutage_8 : decode prog_8_method_10_code 8 = .ok (.putfield 23, 3) := by decide +kernel
theorem d_Txt_readOutage_11 : decode prog_8_method_10_code 11 = .ok (.aload_n 0, 1) := by decide +kernel
theorem d_Txt_readOutage_12 : decode prog_8_method_10_code 12 = .ok (.iconst 0, 1) := by decide +kernel
theorem d_Txt_readOutage_13 : decode prog_8_method_10_code 13 = .ok (.aload_n 1, 1) := by decide +kernel
theorem d_Txt_readOutage_14 : decode prog_8_method_10_code 14 = .ok (.getfield 90, 3) := by decide +kernel
theorem d_Txt_readOutage_17 : decode prog_8_method_10_code 17 = .ok (.iconst 1, 1) := by decide +kernel
theorem d_Txt_readOutage_18 : decode prog_8_method_10_code 18 = .ok (.isub, 1) := by decide +kernel
theorem d_Txt_readOutage_19 : decode prog_8_method_10_code 19 = .ok (.invokevirtual 75, 3) := by decide +kernel
theorem d_Txt_readOutage_22 : decode prog_8_method_10_code 22 = .ok (.istore_n 2, 1) := by decide +kernel
theorem d_Txt_readOutage_23 : decode prog_8_method_10_code 23 = .ok (.aload_n 0, 1) := by decide +kernel
theorem d_Txt_readOutage_24 : decode prog_8_method_10_code 24 = .ok (.aload_n 0, 1) := by decide +kernel
theorem d_Txt_readOutage_25 : decode prog_8_method_10_code 25 = .ok (.getfield 23, 3) := by decide +kernel
theorem d_Txt_readOutage_28 : decode prog_8_method_10_code 28 = .ok (.ifCond .ne 11, 3) := by decide +kernel
theorem d_Txt_readOutage_31 : decode prog_8_method_10_code 31 = .ok (.aload_n 1, 1) := by decide +kernel
theorem d_Txt_readOutage_32 : decode prog_8_method_10_code 32 = .ok (.iload_n 2, 1) := by decide +kernel
theorem d_Txt_readOutage_33 : decode prog_8_method_10_code 33 = .ok (.invokevirtual 106, 3) := by decide +kernel
theorem d_Txt_readOutage_36 : decode prog_8_method_10_code 36 = .ok (.ifCond .ne 7, 3) := by decide +kernel
theorem d_Txt_readOutage_39 : decode prog_8_method_10_code 39 = .ok (.iconst 1, 1) := by decide +kernel
theorem d_Txt_readOutage_40 : decode prog_8_method_10_code 40 = .ok (.goto 4, 3) := by decide +kernel
theorem d_Txt_readOutage_43 : decode prog_8_method_10_code 43 = .ok (.iconst 0, 1) := by decide +kernel
theorem d_Txt_readOutage_44 : decode prog_8_method_10_code 44 = .ok (.putfield 23, 3) := by decide +kernel
theorem d_Txt_readOutage_47 : decode prog_8_method_10_code 47 = .ok (.aload_n 0, 1) := by decide +kernel
theorem d_Txt_readOutage_48 : decode prog_8_method_10_code 48 = .ok (.iconst 0, 1) := by decide +kernel
theorem d_Txt_readOutage_49 : decode prog_8_method_10_code 49 = .ok (.sipush 9999, 3) := by decide +kernel
theorem d_Txt_readOutage_52 : decode prog_8_method_10_code 52 = .ok (.invokevirtual 75, 3) := by decide +kernel
theorem d_Txt_readOutage_55 : decode prog_8_method_10_code 55 = .ok (.istore_n 3, 1) := by decide +kernel
theorem d_Txt_readOutage_56 : decode prog_8_method_10_code 56 = .ok (.aload_n 0, 1) := by decide +kernel
theorem d_Txt_readOutage_57 : decode prog_8_method_10_code 57 = .ok (.iload_n 3, 1) := by decide +kernel
theorem d_Txt_readOutage_58 : decode prog_8_method_10_code 58 = .ok (.sipush 9999, 3) := by decide +kernel
theorem d_Txt_readOutage_61 : decode prog_8_method_10_code 61 = .ok (.invokevirtual 75, 3) := by decide +kernel
theorem d_Txt_readOutage_64 : decode prog_8_method_10_code 64 = .ok (.istore 4, 2) := by decide +kernel
theorem d_Txt_readOutage_66 : decode prog_8_method_10_code 66 = .ok (.aload_n 0, 1) := by decide +kernel
theorem d_Txt_readOutage_67 : decode prog_8_method_10_code 67 = .ok (.invokevirtual 83, 3) := by decide +kernel
theorem d_Txt_readOutage_70 : decode prog_8_method_10_code 70 = .ok (.aload_n 0, 1) := by decide +kernel
theorem d_Txt_readOutage_71 : decode prog_8_method_10_code 71 = .ok (.getfield 23, 3) := by decide +kernel
theorem d_Txt_readOutage_74 : decode prog_8_method_10_code 74 = .ok (.ifCond .ne 15, 3) := by decide +kernel
theorem d_Txt_readOutage_77 : decode prog_8_method_10_code 77 = .ok (.aload_n 1, 1) := by decide +kernel
theorem d_Txt_readOutage_78 : decode prog_8_method_10_code 78 = .ok (.getfield 97, 3) := by decide +kernel
theorem d_Txt_readOutage_81 : decode prog_8_method_10_code 81 = .ok (.iload_n 2, 1) := by decide +kernel
theorem d_Txt_readOutage_82 : decode prog_8_method_10_code 82 = .ok (.iload_n 3, 1) := by decide +kernel
theorem d_Txt_readOutage_83 : decode prog_8_method_10_code 83 = .ok (.iload 4, 2) := by decide +kernel
theorem d_Txt_readOutage_85 : decode prog_8_method_10_code 85 = .ok (.invokevirtual 110, 3) := by decide +kernel
theorem d_Txt_readOutage_88 : decode prog_8_method_10_code 88 = .ok (.pop, 1) := by decide +kernel
theorem d_Txt_readOutage_89 : decode prog_8_method_10_code 89 = .ok (.return_, 1) := by decide +kernel
theorem fs_6_97 : FS "SensorHub$Text" 97 2 9 := ⟨"SensorHub$Hub", T_2, 11, rfl, by decide, rfl, gw_I 304 (by decide +kernel) rfl⟩
theorem cv_6_101 : CSV "SensorHub$Text" 101 y_Out_isFull prog_5_method_2_code 1 (some .boolean) 0 := ⟨gw_I 718 (by decide +kernel) rfl, gw_I 492 (by decide +kernel) rfl, gw_I 493 (by decide +kernel) rfl, gw_I 72 (by decide +kernel) rfl, gw_I 494 (by decide +kernel) rfl, ⟨by decide +kernel, by decide +kernel⟩, by decide +kernel⟩
theorem cv_6_106 : CSV "SensorHub$Text" 106 y_Hub_isPhysical prog_4_method_9_code 3 (some .boolean) 1 := ⟨gw_I 719 (by decide +kernel) rfl, gw_I 488 (by decide +kernel) rfl, gw_I 489 (by decide +kernel) rfl, gw_I 71 (by decide +kernel) rfl, gw_I 490 (by decide +kernel) rfl, ⟨by decide +kernel, by decide +kernel⟩, by decide +kernel⟩
theorem cv_6_110 : CSV "SensorHub$Text" 110 y_Out_add prog_5_method_3_code 4 (some .int) 3 := ⟨gw_I 720 (by decide +kernel) rfl, gw_I 496 (by decide +kernel) rfl, gw_I 497 (by decide +kernel) rfl, gw_I 72 (by decide +kernel) rfl, gw_I 498 (by decide +kernel) rfl, ⟨by decide +kernel, by decide +kernel⟩, by decide +kernel⟩
def f_Txt_readOutage (q : Nat) (q1 : Nat) (σ : Mem) : Option (Unit × Mem) :=
  bd (f_Out_isFull (q1 + 4) σ) fun r1 σ2 =>
  if r1 &&& 1 = r1 then
    lt (wr σ2 q 2 r1) fun σ3 =>
    bd (f_Txt_readNumber q (0 : Int32) ((σ3 q1 4) - (1 : Int32)) σ3) fun r4 σ5 =>
    if (σ5 q 2) = 0 then
      bd (f_Hub_isPhysical q1 r4 σ5) fun r6 σ7 =>
      if r6 = 0 then
        lt (wr σ7 q 2 (1 : Int32)) fun σ8 =>
        bd (f_Txt_readNumber q (0 : Int32) (9999 : Int32) σ8) fun r9 σ10 =>
        bd (f_Txt_readNumber q r9 (9999 : Int32) σ10) fun r11 σ12 =>
        bd (f_Txt_readEndOfItem q σ12) fun _ σ14 =>
        if (σ14 q 2) = 0 then
          bd (f_Out_add (q1 + 4) r4 r9 r11 σ14) fun r15 σ16 =>
          some ((), σ16)
        else
          some ((), σ14)
      else
        lt (wr σ7 q 2 (0 : Int32)) fun σ17 =>
        bd (f_Txt_readNumber q (0 : Int32) (9999 : Int32) σ17) fun r18 σ19 =>
        bd (f_Txt_readNumber q r18 (9999 : Int32) σ19) fun r20 σ21 =>
        bd (f_Txt_readEndOfItem q σ21) fun _ σ23 =>
        if (σ23 q 2) = 0 then
          bd (f_Out_add (q1 + 4) r4 r18 r20 σ23) fun r24 σ25 =>
          some ((), σ25)
        else
          some ((), σ23)
    else
      lt (wr σ5 q 2 (1 : Int32)) fun σ26 =>
      bd (f_Txt_readNumber q (0 : Int32) (9999 : Int32) σ26) fun r27 σ28 =>
      bd (f_Txt_readNumber q r27 (9999 : Int32) σ28) fun r29 σ30 =>
      bd (f_Txt_readEndOfItem q σ30) fun _ σ32 =>
      if (σ32 q 2) = 0 then
        bd (f_Out_add (q1 + 4) r4 r27 r29 σ32) fun r33 σ34 =>
        some ((), σ34)
      else
        some ((), σ32)
  else none
set_option maxRecDepth 100000 in
set_option maxHeartbeats 4000000 in
theorem c_Txt_readOutage {X : CX} (l : Launch) (q : Nat) (q1 : Nat) (hq : TextOK X q) (hq1 : HubOK X q1) (σ : Mem) : CT X l y_Txt_readOutage prog_8_method_10_code 5 none 3 vU [.ref (xa X q), .ref (xa X q1)] σ (f_Txt_readOutage q q1 σ) := by
  refine CT_of (by decide +kernel) (Nat.le_of_ble_eq_true rfl) ?_
  intro p e s m args below meth c F hlk hr
  have F : FR p s m args c prog_8_method_10_code 5 "SensorHub$Text" X := F
  show G X p l e (rmD 3) s m args below meth c 5 0 0 (QI X below args s vU) 0 [(0, .ref (xa X q)), (1, .ref (xa X q1))] [] σ _
  unfold f_Txt_readOutage
  refine g_aload_n F d_Txt_readOutage_0 0 rfl ?_
  refine g_aload_n F d_Txt_readOutage_1 1 rfl ?_
  refine g_getR F fs_6_97 hq1.1 rfl d_Txt_readOutage_2 ?_
  refine g_callV F (dp := 0) (ci := 3) (As := []) (c_Out_isFull l _ hq1.2.2.2.2.1 _) cv_6_101 hq1.2.2.2.2.1.1 rfl rfl rfl (Nat.le_of_ble_eq_true rfl) ⟨Nat.le_of_ble_eq_true rfl, Nat.le_of_ble_eq_true rfl⟩ ⟨Nat.zero_le _, Nat.zero_le _⟩ d_Txt_readOutage_5 (fun r1 σ2 h1 => ?_)
  refine g_putZ F fw_6_23 hq.1 rfl d_Txt_readOutage_8 ?_
  refine g_ltM (fun σ3 _ => ?_)
  refine g_aload_n F d_Txt_readOutage_11 0 rfl ?_
  refine g_iconst F (v := 0) d_Txt_readOutage_12 (by decide) ?_
  refine g_aload_n F d_Txt_readOutage_13 1 rfl ?_
  refine g_getI F fs_6_90 hq1.1 rfl d_Txt_readOutage_14 ?_
  refine g_iconst F (v := 1) d_Txt_readOutage_17 (by decide) ?_
  refine g_isub F d_Txt_readOutage_18 ?_
  refine g_callV F (dp := 2) (ci := 6) (As := [.int (0 : Int32), .int ((σ3 q1 4) - (1 : Int32))]) (c_Txt_readNumber l _ _ _ hq _) cv_6_75 hq.1 rfl rfl rfl (Nat.le_of_ble_eq_true rfl) ⟨Nat.le_of_ble_eq_true rfl, Nat.le_of_ble_eq_true rfl⟩ ⟨Nat.zero_le _, Nat.zero_le _⟩ d_Txt_readOutage_19 (fun r4 σ5 h2 => ?_)
  refine g_istore_n F (ls' := [(2, .int r4), (0, .ref (xa X q)), (1, .ref (xa X q1))]) d_Txt_readOutage_22 (by decide) rfl ?_
  refine g_aload_n F d_Txt_readOutage_23 1 rfl ?_
  refine g_aload_n F d_Txt_readOutage_24 1 rfl ?_
  refine g_getI F fs_6_23 hq.1 rfl d_Txt_readOutage_25 ?_
  refine g_if_ne F (tgt := 39) d_Txt_readOutage_28 (by decide) (fun h3 => ?_) (fun h4 => ?_)
  · refine g_aload_n F d_Txt_readOutage_31 2 rfl ?_
    refine g_iload_n F d_Txt_readOutage_32 0 rfl ?_
    refine g_callV F (dp := 1) (ci := 2) (As := [.int r4]) (c_Hub_isPhysical l _ _ hq1 _) cv_6_106 hq1.1 rfl rfl rfl (Nat.le_of_ble_eq_true rfl) ⟨Nat.le_of_ble_eq_true rfl, Nat.le_of_ble_eq_true rfl⟩ ⟨Nat.zero_le _, Nat.zero_le _⟩ d_Txt_readOutage_33 (fun r6 σ7 h5 => ?_)
    refine g_if_ne F (tgt := 43) d_Txt_readOutage_36 (by decide) (fun h6 => ?_) (fun h7 => ?_)
    · refine g_iconst F (v := 1) d_Txt_readOutage_39 (by decide) ?_
      refine g_goto F (tgt := 44) d_Txt_readOutage_40 (by decide) ?_
      refine g_pt (q := (1 : Int32) &&& 1 = (1 : Int32)) (by decide) (g_putZ F fw_6_23 hq.1 rfl d_Txt_readOutage_44 ?_)
      refine g_ltM (fun σ8 _ => ?_)
      refine g_aload_n F d_Txt_readOutage_47 1 rfl ?_
      refine g_iconst F (v := 0) d_Txt_readOutage_48 (by decide) ?_
      refine g_sipush F (v := 9999) d_Txt_readOutage_49 (by decide) ?_
      refine g_callV F (dp := 2) (ci := 6) (As := [.int (0 : Int32), .int (9999 : Int32)]) (c_Txt_readNumber l _ _ _ hq _) cv_6_75 hq.1 rfl rfl rfl (Nat.le_of_ble_eq_true rfl) ⟨Nat.le_of_ble_eq_true rfl, Nat.le_of_ble_eq_true rfl⟩ ⟨Nat.zero_le _, Nat.zero_le _⟩ d_Txt_readOutage_52 (fun r9 σ10 h8 => ?_)
      refine g_istore_n F (ls' := [(3, .int r9), (2, .int r4), (0, .ref (xa X q)), (1, .ref (xa X q1))]) d_Txt_readOutage_55 (by decide) rfl ?_
      refine g_aload_n F d_Txt_readOutage_56 2 rfl ?_
      refine g_iload_n F d_Txt_readOutage_57 0 rfl ?_
      refine g_sipush F (v := 9999) d_Txt_readOutage_58 (by decide) ?_
      refine g_callV F (dp := 2) (ci := 6) (As := [.int r9, .int (9999 : Int32)]) (c_Txt_readNumber l _ _ _ hq _) cv_6_75 hq.1 rfl rfl rfl (Nat.le_of_ble_eq_true rfl) ⟨Nat.le_of_ble_eq_true rfl, Nat.le_of_ble_eq_true rfl⟩ ⟨Nat.zero_le _, Nat.zero_le _⟩ d_Txt_readOutage_61 (fun r11 σ12 h9 => ?_)
      refine g_istore F (ls' := [(4, .int r11), (3, .int r9), (2, .int r4), (0, .ref (xa X q)), (1, .ref (xa X q1))]) d_Txt_readOutage_64 (by decide) rfl ?_
      refine g_aload_n F d_Txt_readOutage_66 3 rfl ?_
      refine g_callV F (dp := 2) (ci := 6) (As := []) (c_Txt_readEndOfItem l _ hq _) cv_6_83 hq.1 rfl rfl rfl (Nat.le_of_ble_eq_true rfl) ⟨Nat.le_of_ble_eq_true rfl, Nat.le_of_ble_eq_true rfl⟩ ⟨Nat.zero_le _, Nat.zero_le _⟩ d_Txt_readOutage_67 (fun _ σ14 h10 => ?_)
      refine g_aload_n F d_Txt_readOutage_70 3 rfl ?_
      refine g_getI F fs_6_23 hq.1 rfl d_Txt_readOutage_71 ?_
      refine g_if_ne F (tgt := 89) d_Txt_readOutage_74 (by decide) (fun h11 => ?_) (fun h12 => ?_)
      · refine g_aload_n F d_Txt_readOutage_77 4 rfl ?_
        refine g_getR F fs_6_97 hq1.1 rfl d_Txt_readOutage_78 ?_
        refine g_iload_n F d_Txt_readOutage_81 2 rfl ?_
        refine g_iload_n F d_Txt_readOutage_82 1 rfl ?_
        refine g_iload F d_Txt_readOutage_83 0 rfl ?_
        refine g_callV F (dp := 1) (ci := 3) (As := [.int r4, .int r9, .int r11]) (c_Out_add l _ _ _ _ hq1.2.2.2.2.1 _) cv_6_110 hq1.2.2.2.2.1.1 rfl rfl rfl (Nat.le_of_ble_eq_true rfl) ⟨Nat.le_of_ble_eq_true rfl, Nat.le_of_ble_eq_true rfl⟩ ⟨Nat.zero_le _, Nat.zero_le _⟩ d_Txt_readOutage_85 (fun r15 σ16 h13 => ?_)
        refine g_pop F d_Txt_readOutage_88 rfl ?_
        exact g_vret F hlk hr d_Txt_readOutage_89
      exact g_vret F hlk hr d_Txt_readOutage_89
    refine g_iconst F (v := 0) d_Txt_readOutage_43 (by decide) ?_
    refine g_pt (q := (0 : Int32) &&& 1 = (0 : Int32)) (by decide) (g_putZ F fw_6_23 hq.1 rfl d_Txt_readOutage_44 ?_)
    refine g_ltM (fun σ17 _ => ?_)
    refine g_aload_n F d_Txt_readOutage_47 1 rfl ?_
    refine g_iconst F (v := 0) d_Txt_readOutage_48 (by decide) ?_
    refine g_sipush F (v := 9999) d_Txt_readOutage_49 (by decide) ?_
    refine g_callV F (dp := 2) (ci := 6) (As := [.int (0 : Int32), .int (9999 : Int32)]) (c_Txt_readNumber l _ _ _ hq _) cv_6_75 hq.1 rfl rfl rfl (Nat.le_of_ble_eq_true rfl) ⟨Nat.le_of_ble_eq_true rfl, Nat.le_of_ble_eq_true rfl⟩ ⟨Nat.zero_le _, Nat.zero_le _⟩ d_Txt_readOutage_52 (fun r18 σ19 h14 => ?_)
    refine g_istore_n F (ls' := [(3, .int r18), (2, .int r4), (0, .ref (xa X q)), (1, .ref (xa X q1))]) d_Txt_readOutage_55 (by decide) rfl ?_
    refine g_aload_n F d_Txt_readOutage_56 2 rfl ?_
    refine g_iload_n F d_Txt_readOutage_57 0 rfl ?_
    refine g_sipush F (v := 9999) d_Txt_readOutage_58 (by decide) ?_
    refine g_callV F (dp := 2) (ci := 6) (As := [.int r18, .int (9999 : Int32)]) (c_Txt_readNumber l _ _ _ hq _) cv_6_75 hq.1 rfl rfl rfl (Nat.le_of_ble_eq_true rfl) ⟨Nat.le_of_ble_eq_true rfl, Nat.le_of_ble_eq_true rfl⟩ ⟨Nat.zero_le _, Nat.zero_le _⟩ d_Txt_readOutage_61 (fun r20 σ21 h15 => ?_)
    refine g_istore F (ls' := [(4, .int r20), (3, .int r18), (2, .int r4), (0, .ref (xa X q)), (1, .ref (xa X q1))]) d_Txt_readOutage_64 (by decide) rfl ?_
    refine g_aload_n F d_Txt_readOutage_66 3 rfl ?_
    refine g_callV F (dp := 2) (ci := 6) (As := []) (c_Txt_readEndOfItem l _ hq _) cv_6_83 hq.1 rfl rfl rfl (Nat.le_of_ble_eq_true rfl) ⟨Nat.le_of_ble_eq_true rfl, Nat.le_of_ble_eq_true rfl⟩ ⟨Nat.zero_le _, Nat.zero_le _⟩ d_Txt_readOutage_67 (fun _ σ23 h16 => ?_)
    refine g_aload_n F d_Txt_readOutage_70 3 rfl ?_
    refine g_getI F fs_6_23 hq.1 rfl d_Txt_readOutage_71 ?_
    refine g_if_ne F (tgt := 89) d_Txt_readOutage_74 (by decide) (fun h17 => ?_) (fun h18 => ?_)
    · refine g_aload_n F d_Txt_readOutage_77 4 rfl ?_
      refine g_getR F fs_6_97 hq1.1 rfl d_Txt_readOutage_78 ?_
      refine g_iload_n F d_Txt_readOutage_81 2 rfl ?_
      refine g_iload_n F d_Txt_readOutage_82 1 rfl ?_
      refine g_iload F d_Txt_readOutage_83 0 rfl ?_
      refine g_callV F (dp := 1) (ci := 3) (As := [.int r4, .int r18, .int r20]) (c_Out_add l _ _ _ _ hq1.2.2.2.2.1 _) cv_6_110 hq1.2.2.2.2.1.1 rfl rfl rfl (Nat.le_of_ble_eq_true rfl) ⟨Nat.le_of_ble_eq_true rfl, Nat.le_of_ble_eq_true rfl⟩ ⟨Nat.zero_le _, Nat.zero_le _⟩ d_Txt_readOutage_85 (fun r24 σ25 h19 => ?_)
      refine g_pop F d_Txt_readOutage_88 rfl ?_
      exact g_vret F hlk hr d_Txt_readOutage_89
    exact g_vret F hlk hr d_Txt_readOutage_89
  refine g_iconst F (v := 1) d_Txt_readOutage_39 (by decide) ?_
  refine g_goto F (tgt := 44) d_Txt_readOutage_40 (by decide) ?_
  refine g_pt (q := (1 : Int32) &&& 1 = (1 : Int32)) (by decide) (g_putZ F fw_6_23 hq.1 rfl d_Txt_readOutage_44 ?_)
  refine g_ltM (fun σ26 _ => ?_)
  refine g_aload_n F d_Txt_readOutage_47 1 rfl ?_
  refine g_iconst F (v := 0) d_Txt_readOutage_48 (by decide) ?_
  refine g_sipush F (v := 9999) d_Txt_readOutage_49 (by decide) ?_
  refine g_callV F (dp := 2) (ci := 6) (As := [.int (0 : Int32), .int (9999 : Int32)]) (c_Txt_readNumber l _ _ _ hq _) cv_6_75 hq.1 rfl rfl rfl (Nat.le_of_ble_eq_true rfl) ⟨Nat.le_of_ble_eq_true rfl, Nat.le_of_ble_eq_true rfl⟩ ⟨Nat.zero_le _, Nat.zero_le _⟩ d_Txt_readOutage_52 (fun r27 σ28 h20 => ?_)
  refine g_istore_n F (ls' := [(3, .int r27), (2, .int r4), (0, .ref (xa X q)), (1, .ref (xa X q1))]) d_Txt_readOutage_55 (by decide) rfl ?_
  refine g_aload_n F d_Txt_readOutage_56 2 rfl ?_
  refine g_iload_n F d_Txt_readOutage_57 0 rfl ?_
  refine g_sipush F (v := 9999) d_Txt_readOutage_58 (by decide) ?_
  refine g_callV F (dp := 2) (ci := 6) (As := [.int r27, .int (9999 : Int32)]) (c_Txt_readNumber l _ _ _ hq _) cv_6_75 hq.1 rfl rfl rfl (Nat.le_of_ble_eq_true rfl) ⟨Nat.le_of_ble_eq_true rfl, Nat.le_of_ble_eq_true rfl⟩ ⟨Nat.zero_le _, Nat.zero_le _⟩ d_Txt_readOutage_61 (fun r29 σ30 h21 => ?_)
  refine g_istore F (ls' := [(4, .int r29), (3, .int r27), (2, .int r4), (0, .ref (xa X q)), (1, .ref (xa X q1))]) d_Txt_readOutage_64 (by decide) rfl ?_
  refine g_aload_n F d_Txt_readOutage_66 3 rfl ?_
  refine g_callV F (dp := 2) (ci := 6) (As := []) (c_Txt_readEndOfItem l _ hq _) cv_6_83 hq.1 rfl rfl rfl (Nat.le_of_ble_eq_true rfl) ⟨Nat.le_of_ble_eq_true rfl, Nat.le_of_ble_eq_true rfl⟩ ⟨Nat.zero_le _, Nat.zero_le _⟩ d_Txt_readOutage_67 (fun _ σ32 h22 => ?_)
  refine g_aload_n F d_Txt_readOutage_70 3 rfl ?_
  refine g_getI F fs_6_23 hq.1 rfl d_Txt_readOutage_71 ?_
  refine g_if_ne F (tgt := 89) d_Txt_readOutage_74 (by decide) (fun h23 => ?_) (fun h24 => ?_)
  · refine g_aload_n F d_Txt_readOutage_77 4 rfl ?_
    refine g_getR F fs_6_97 hq1.1 rfl d_Txt_readOutage_78 ?_
    refine g_iload_n F d_Txt_readOutage_81 2 rfl ?_
    refine g_iload_n F d_Txt_readOutage_82 1 rfl ?_
    refine g_iload F d_Txt_readOutage_83 0 rfl ?_
    refine g_callV F (dp := 1) (ci := 3) (As := [.int r4, .int r27, .int r29]) (c_Out_add l _ _ _ _ hq1.2.2.2.2.1 _) cv_6_110 hq1.2.2.2.2.1.1 rfl rfl rfl (Nat.le_of_ble_eq_true rfl) ⟨Nat.le_of_ble_eq_true rfl, Nat.le_of_ble_eq_true rfl⟩ ⟨Nat.zero_le _, Nat.zero_le _⟩ d_Txt_readOutage_85 (fun r33 σ34 h25 => ?_)
    refine g_pop F d_Txt_readOutage_88 rfl ?_
    exact g_vret F hlk hr d_Txt_readOutage_89
  exact g_vret F hlk hr d_Txt_readOutage_89
def y_Txt_readItem : MethodName := ⟨"SensorHub$Text", "readItem", "(LSensorHub$Hub;)V"⟩
theorem d_Txt_readItem_0 : decode prog_8_method_7_code 0 = .ok (.aload_n 0, 1) := by decide +kernel
theorem d_Txt_readItem_1 : decode prog_8_method_7_code 1 = .ok (.ldc 43, 2) := by decide +kernel
theorem d_Txt_readItem_3 : decode prog_8_method_7_code 3 = .ok (.invokevirtual 45, 3) := by decide +kernel
theorem d_Txt_readItem_6 : decode prog_8_method_7_code 6 = .ok (.ifCond .eq 11, 3) := by decide +kernel
theorem d_Txt_readItem_9 : decode prog_8_method_7_code 9 = .ok (.aload_n 0, 1) := by decide +kernel
theorem d_Txt_readItem_10 : decode prog_8_method_7_code 10 = .ok (.aload_n 1, 1) := by decide +kernel
theorem d_Txt_readItem_11 : decode prog_8_method_7_code 11 = .ok (.invokevirtual 49, 3) := by decide +kernel
theorem d_Txt_readItem_14 : decode prog_8_method_7_code 14 = .ok (.goto 97, 3) := by decide +kernel
theorem d_Txt_readItem_17 : decode prog_8_method_7_code 17 = .ok (.aload_n 0, 1) := by decide +kernel
theorem d_Txt_readItem_18 : decode prog_8_method_7_code 18 = .ok (.ldc 52, 2) := by decide +kernel
theorem d_Txt_readItem_20 : decode prog_8_method_7_code 20 = .ok (.invokevirtual 45, 3) := by decide +kernel
theorem d_Txt_readItem_23 : decode prog_8_method_7_code 23 = .ok (.ifCond .eq 12, 3) := by decide +kernel
theorem d_Txt_readItem_26 : decode prog_8_method_7_code 26 = .ok (.aload_n 0, 1) := by decide +kernel
theorem d_Txt_readItem_27 : decode prog_8_method_7_code 27 = .ok (.aload_n 1, 1) := by decide +kernel
theorem d_Txt_readItem_28 : decode prog_8_method_7_code 28 = .ok (.iconst 0, 1) := by decide +kernel
theorem d_Txt_readItem_29 : decode prog_8_method_7_code 29 = .ok (.invokevirtual 54, 3) := by decide +kernel
theorem d_Txt_readItem_32 : decode prog_8_method_7_code 32 = .ok (.goto 79, 3) := by decide +kernel
theorem d_Txt_readItem_35 : decode prog_8_method_7_code 35 = .ok (.aload_n 0, 1) := by decide +kernel
theorem d_Txt_readItem_36 : decode prog_8_method_7_code 36 = .ok (.ldc 58, 2) := by decide +kernel
theorem d_Txt_readItem_38 : decode prog_8_method_7_code 38 = .ok (.invokevirtual 45, 3) := by decide +kernel
theorem d_Txt_readItem_41 : decode prog_8_method_7_code 41 = .ok (.ifCond .eq 12, 3) := by decide +kernel
theorem d_Txt_readItem_44 : decode prog_8_method_7_code 44 = .ok (.aload_n 0, 1) := by decide +kernel
theorem d_Txt_readItem_45 : decode prog_8_method_7_code 45 = .ok (.aload_n 1, 1) := by decide +kernel
theorem d_Txt_readItem_46 : decode prog_8_method_7_code 46 = .ok (.iconst 1, 1) := by decide +kernel
theorem d_Txt_readItem_47 : decode prog_8_method_7_code 47 = .ok (.invokevirtual 54, 3) := by decide +kernel
theorem d_Txt_readItem_50 : decode prog_8_method_7_code 50 = .ok (.goto 61, 3) := by decide +kernel
theorem d_Txt_readItem_53 : decode prog_8_method_7_code 53 = .ok (.aload_n 0, 1) := by decide +kernel
theorem d_Txt_readItem_54 : decode prog_8_method_7_code 54 = .ok (.ldc 60, 2) := by decide +kernel
theorem d_Txt_readItem_56 : decode prog_8_method_7_code 56 = .ok (.invokevirtual 45, 3) := by decide +kernel
theorem d_Txt_readItem_59 : decode prog_8_method_7_code 59 = .ok (.ifCond .eq 12, 3) := by decide +kernel
theorem d_Txt_readItem_62 : decode prog_8_method_7_code 62 = .ok (.aload_n 0, 1) := by decide +kernel
theorem d_Txt_readItem_63 : decode prog_8_method_7_code 63 = .ok (.aload_n 1, 1) := by decide +kernel
theorem d_Txt_readItem_64 : decode prog_8_method_7_code 64 = .ok (.iconst 2, 1) := by decide +kernel
theorem d_Txt_readItem_65 : decode prog_8_method_7_code 65 = .ok (.invokevirtual 54, 3) := by decide +kernel
theorem d_Txt_readItem_68 : decode prog_8_method_7_code 68 = .ok (.goto 43, 3) := by decide +kernel
theorem d_Txt_readItem_71 : decode prog_8_method_7_code 71 = .ok (.aload_n 0, 1) := by decide +kernel
theorem d_Txt_readItem_72 : decode prog_8_method_7_code 72 = .ok (.ldc 62, 2) := by decide +kernel
theorem d_Txt_readItem_74 : decode prog_8_method_7_code 74 = .ok (.invokevirtual 45, 3) := by decide +kernel
theorem d_Txt_readItem_77 : decode prog_8_method_7_code 77 = .ok (.ifCond .eq 12, 3) := by decide +kernel
theorem d_Txt_readItem_80 : decode prog_8_method_7_code 80 = .ok (.aload_n 0, 1) := by decide +kernel
theorem d_Txt_readItem_81 : decode prog_8_method_7_code 81 = .ok (.aload_n 1, 1) := by decide +kernel
theorem d_Txt_readItem_82 : decode prog_8_method_7_code 82 = .ok (.iconst 3, 1) := by decide +kernel
theorem d_Txt_readItem_83 : decode prog_8_method_7_code 83 = .ok (.invokevirtual 54, 3) := by decide +kernel
theorem d_Txt_readItem_86 : decode prog_8_method_7_code 86 = .ok (.goto 25, 3) := by decide +kernel
theorem d_Txt_readItem_89 : decode prog_8_method_7_code 89 = .ok (.aload_n 0, 1) := by decide +kernel
theorem d_Txt_readItem_90 : decode prog_8_method_7_code 90 = .ok (.ldc 64, 2) := by decide +kernel
theorem d_Txt_readItem_92 : decode prog_8_method_7_code 92 = .ok (.invokevirtual 45, 3) := by decide +kernel
theorem d_Txt_readItem_95 : decode prog_8_method_7_code 95 = .ok (.ifCond .eq 11, 3) := by decide +kernel
theorem d_Txt_readItem_98 : decode prog_8_method_7_code 98 = .ok (.aload_n 0, 1) := by decide +kernel
theorem d_Txt_readItem_99 : decode prog_8_method_7_code 99 = .ok (.aload_n 1, 1) := by decide +kernel
theorem d_Txt_readItem_100 : decode prog_8_method_7_code 100 = .ok (.invokevirtual 66, 3) := by decide +kernel
theorem d_Txt_readItem_103 : decode prog_8_method_7_code 103 = .ok (.goto 8, 3) := by decide +kernel
theorem d_Txt_readItem_106 : decode prog_8_method_7_code 106 = .ok (.aload_n 0, 1) := by decide +kernel
theorem d_Txt_readItem_107 : decode prog_8_method_7_code 107 = .ok (.iconst 1, 1) := by decide +kernel
theorem d_Txt_readItem_108 : decode prog_8_method_7_code 108 = .ok (.putfield 23, 3) := by decide +kernel
theorem d_Txt_readItem_111 : decode prog_8_method_7_code 111 = .ok (.return_, 1) := by decide +kernel
theorem cv_6_45 : CSV "SensorHub$Text" 45 y_Txt_isWord prog_8_method_16_code 3 (some .boolean) 1 := ⟨gw_I 633 (by decide +kernel) rfl, gw_I 635 (by decide +kernel) rfl, gw_I 10 (by decide +kernel) rfl, gw_I 77 (by decide +kernel) rfl, gw_I 636 (by decide +kernel) rfl, ⟨by decide +kernel, by decide +kernel⟩, by decide +kernel⟩
theorem cv_6_66 : CSV "SensorHub$Text" 66 y_Txt_readOutage prog_8_method_10_code 5 none 1 := ⟨gw_I 714 (by decide +kernel) rfl, gw_I 716 (by decide +kernel) rfl, gw_I 16 (by decide +kernel) rfl, gw_I 77 (by decide +kernel) rfl, gw_I 717 (by decide +kernel) rfl, ⟨by decide +kernel, by decide +kernel⟩, by decide +kernel⟩
theorem cv_6_54 : CSV "SensorHub$Text" 54 y_Txt_readComputed prog_8_method_9_code 5 none 2 := ⟨gw_I 705 (by decide +kernel) rfl, gw_I 707 (by decide +kernel) rfl, gw_I 15 (by decide +kernel) rfl, gw_I 77 (by decide +kernel) rfl, gw_I 708 (by decide +kernel) rfl, ⟨by decide +kernel, by decide +kernel⟩, by decide +kernel⟩
theorem cv_6_49 : CSV "SensorHub$Text" 49 y_Txt_readPhysical prog_8_method_8_code 8 none 1 := ⟨gw_I 685 (by decide +kernel) rfl, gw_I 687 (by decide +kernel) rfl, gw_I 11 (by decide +kernel) rfl, gw_I 77 (by decide +kernel) rfl, gw_I 688 (by decide +kernel) rfl, ⟨by decide +kernel, by decide +kernel⟩, by decide +kernel⟩
def f_Txt_readItem (q : Nat) (q1 : Nat) (σ : Mem) : Option (Unit × Mem) :=
  bd (f_Txt_isWord q 0 σ) fun r1 σ2 =>
  if r1 = 0 then
    bd (f_Txt_isWord q 1 σ2) fun r3 σ4 =>
    if r3 = 0 then
      bd (f_Txt_isWord q 2 σ4) fun r5 σ6 =>
      if r5 = 0 then
        bd (f_Txt_isWord q 3 σ6) fun r7 σ8 =>
        if r7 = 0 then
          bd (f_Txt_isWord q 4 σ8) fun r9 σ10 =>
          if r9 = 0 then
            bd (f_Txt_isWord q 5 σ10) fun r11 σ12 =>
            if r11 = 0 then
              lt (wr σ12 q 2 (1 : Int32)) fun σ13 =>
              some ((), σ13)
            else
              bd (f_Txt_readOutage q q1 σ12) fun _ σ15 =>
              some ((), σ15)
          else
            bd (f_Txt_readComputed q q1 (3 : Int32) σ10) fun _ σ17 =>
            some ((), σ17)
        else
          bd (f_Txt_readComputed q q1 (2 : Int32) σ8) fun _ σ19 =>
          some ((), σ19)
      else
        bd (f_Txt_readComputed q q1 (1 : Int32) σ6) fun _ σ21 =>
        some ((), σ21)
    else
      bd (f_Txt_readComputed q q1 (0 : Int32) σ4) fun _ σ23 =>
      some ((), σ23)
  else
    bd (f_Txt_readPhysical q q1 σ2) fun _ σ25 =>
    some ((), σ25)
set_option maxRecDepth 100000 in
set_option maxHeartbeats 4000000 in
theorem c_Txt_readItem {X : CX} (l : Launch) (q : Nat) (q1 : Nat) (hq : TextOK X q) (hq1 : HubOK X q1) (σ : Mem) : CT X l y_Txt_readItem prog_8_method_7_code 2 none 6 vU [.ref (xa X q), .ref (xa X q1)] σ (f_Txt_readItem q q1 σ) := by
  refine CT_of (by decide +kernel) (Nat.le_of_ble_eq_true rfl) ?_
  intro p e s m args below meth c F hlk hr
  have F : FR p s m args c prog_8_method_7_code 2 "SensorHub$Text" X := F
  show G X p l e (rmD 6) s m args below meth c 2 0 0 (QI X below args s vU) 0 [(0, .ref (xa X q)), (1, .ref (xa X q1))] [] σ _
  unfold f_Txt_readItem
  refine g_aload_n F d_Txt_readItem_0 0 rfl ?_
  refine g_ldcS F 0 (by decide) (by decide) d_Txt_readItem_1 ?_
  refine g_callV F (dp := 5) (ci := 6) (As := [.ref (xk X 0)]) (c_Txt_isWord l _ _ hq (by decide) _) cv_6_45 hq.1 rfl rfl rfl (Nat.le_of_ble_eq_true rfl) ⟨Nat.le_of_ble_eq_true rfl, Nat.le_of_ble_eq_true rfl⟩ ⟨Nat.zero_le _, Nat.zero_le _⟩ d_Txt_readItem_3 (fun r1 σ2 h1 => ?_)
  refine g_if_eq F (tgt := 17) d_Txt_readItem_6 (by decide) (fun h2 => ?_) (fun h3 => ?_)
  · refine g_aload_n F d_Txt_readItem_17 0 rfl ?_
    refine g_ldcS F 1 (by decide) (by decide) d_Txt_readItem_18 ?_
    refine g_callV F (dp := 5) (ci := 6) (As := [.ref (xk X 1)]) (c_Txt_isWord l _ _ hq (by decide) _) cv_6_45 hq.1 rfl rfl rfl (Nat.le_of_ble_eq_true rfl) ⟨Nat.le_of_ble_eq_true rfl, Nat.le_of_ble_eq_true rfl⟩ ⟨Nat.zero_le _, Nat.zero_le _⟩ d_Txt_readItem_20 (fun r3 σ4 h4 => ?_)
    refine g_if_eq F (tgt := 35) d_Txt_readItem_23 (by decide) (fun h5 => ?_) (fun h6 => ?_)
    · refine g_aload_n F d_Txt_readItem_35 0 rfl ?_
      refine g_ldcS F 2 (by decide) (by decide) d_Txt_readItem_36 ?_
      refine g_callV F (dp := 5) (ci := 6) (As := [.ref (xk X 2)]) (c_Txt_isWord l _ _ hq (by decide) _) cv_6_45 hq.1 rfl rfl rfl (Nat.le_of_ble_eq_true rfl) ⟨Nat.le_of_ble_eq_true rfl, Nat.le_of_ble_eq_true rfl⟩ ⟨Nat.zero_le _, Nat.zero_le _⟩ d_Txt_readItem_38 (fun r5 σ6 h7 => ?_)
      refine g_if_eq F (tgt := 53) d_Txt_readItem_41 (by decide) (fun h8 => ?_) (fun h9 => ?_)
      · refine g_aload_n F d_Txt_readItem_53 0 rfl ?_
        refine g_ldcS F 3 (by decide) (by decide) d_Txt_readItem_54 ?_
        refine g_callV F (dp := 5) (ci := 6) (As := [.ref (xk X 3)]) (c_Txt_isWord l _ _ hq (by decide) _) cv_6_45 hq.1 rfl rfl rfl (Nat.le_of_ble_eq_true rfl) ⟨Nat.le_of_ble_eq_true rfl, Nat.le_of_ble_eq_true rfl⟩ ⟨Nat.zero_le _, Nat.zero_le _⟩ d_Txt_readItem_56 (fun r7 σ8 h10 => ?_)
        refine g_if_eq F (tgt := 71) d_Txt_readItem_59 (by decide) (fun h11 => ?_) (fun h12 => ?_)
        · refine g_aload_n F d_Txt_readItem_71 0 rfl ?_
          refine g_ldcS F 4 (by decide) (by decide) d_Txt_readItem_72 ?_
          refine g_callV F (dp := 5) (ci := 6) (As := [.ref (xk X 4)]) (c_Txt_isWord l _ _ hq (by decide) _) cv_6_45 hq.1 rfl rfl rfl (Nat.le_of_ble_eq_true rfl) ⟨Nat.le_of_ble_eq_true rfl, Nat.le_of_ble_eq_true rfl⟩ ⟨Nat.zero_le _, Nat.zero_le _⟩ d_Txt_readItem_74 (fun r9 σ10 h13 => ?_)
          refine g_if_eq F (tgt := 89) d_Txt_readItem_77 (by decide) (fun h14 => ?_) (fun h15 => ?_)
          · refine g_aload_n F d_Txt_readItem_89 0 rfl ?_
            refine g_ldcS F 5 (by decide) (by decide) d_Txt_readItem_90 ?_
            refine g_callV F (dp := 5) (ci := 6) (As := [.ref (xk X 5)]) (c_Txt_isWord l _ _ hq (by decide) _) cv_6_45 hq.1 rfl rfl rfl (Nat.le_of_ble_eq_true rfl) ⟨Nat.le_of_ble_eq_true rfl, Nat.le_of_ble_eq_true rfl⟩ ⟨Nat.zero_le _, Nat.zero_le _⟩ d_Txt_readItem_92 (fun r11 σ12 h16 => ?_)
            refine g_if_eq F (tgt := 106) d_Txt_readItem_95 (by decide) (fun h17 => ?_) (fun h18 => ?_)
            · refine g_aload_n F d_Txt_readItem_106 0 rfl ?_
              refine g_iconst F (v := 1) d_Txt_readItem_107 (by decide) ?_
              refine g_pt (q := (1 : Int32) &&& 1 = (1 : Int32)) (by decide) (g_putZ F fw_6_23 hq.1 rfl d_Txt_readItem_108 ?_)
              refine g_ltM (fun σ13 _ => ?_)
              exact g_vret F hlk hr d_Txt_readItem_111
            refine g_aload_n F d_Txt_readItem_98 0 rfl ?_
            refine g_aload_n F d_Txt_readItem_99 1 rfl ?_
            refine g_callV F (dp := 3) (ci := 6) (As := [.ref (xa X q1)]) (c_Txt_readOutage l _ _ hq hq1 _) cv_6_66 hq.1 rfl rfl rfl (Nat.le_of_ble_eq_true rfl) ⟨Nat.le_of_ble_eq_true rfl, Nat.le_of_ble_eq_true rfl⟩ ⟨Nat.zero_le _, Nat.zero_le _⟩ d_Txt_readItem_100 (fun _ σ15 h19 => ?_)
            refine g_goto F (tgt := 111) d_Txt_readItem_103 (by decide) ?_
            exact g_vret F hlk hr d_Txt_readItem_111
          refine g_aload_n F d_Txt_readItem_80 0 rfl ?_
          refine g_aload_n F d_Txt_readItem_81 1 rfl ?_
          refine g_iconst F (v := 3) d_Txt_readItem_82 (by decide) ?_
          refine g_callV F (dp := 3) (ci := 6) (As := [.ref (xa X q1), .int (3 : Int32)]) (c_Txt_readComputed l _ _ _ hq hq1 _) cv_6_54 hq.1 rfl rfl rfl (Nat.le_of_ble_eq_true rfl) ⟨Nat.le_of_ble_eq_true rfl, Nat.le_of_ble_eq_true rfl⟩ ⟨Nat.zero_le _, Nat.zero_le _⟩ d_Txt_readItem_83 (fun _ σ17 h20 => ?_)
          refine g_goto F (tgt := 111) d_Txt_readItem_86 (by decide) ?_
          exact g_vret F hlk hr d_Txt_readItem_111
        refine g_aload_n F d_Txt_readItem_62 0 rfl ?_
        refine g_aload_n F d_Txt_readItem_63 1 rfl ?_
        refine g_iconst F (v := 2) d_Txt_readItem_64 (by decide) ?_
        refine g_callV F (dp := 3) (ci := 6) (As := [.ref (xa X q1), .int (2 : Int32)]) (c_Txt_readComputed l _ _ _ hq hq1 _) cv_6_54 hq.1 rfl rfl rfl (Nat.le_of_ble_eq_true rfl) ⟨Nat.le_of_ble_eq_true rfl, Nat.le_of_ble_eq_true rfl⟩ ⟨Nat.zero_le _, Nat.zero_le _⟩ d_Txt_readItem_65 (fun _ σ19 h21 => ?_)
        refine g_goto F (tgt := 111) d_Txt_readItem_68 (by decide) ?_
        exact g_vret F hlk hr d_Txt_readItem_111
      refine g_aload_n F d_Txt_readItem_44 0 rfl ?_
      refine g_aload_n F d_Txt_readItem_45 1 rfl ?_
      refine g_iconst F (v := 1) d_Txt_readItem_46 (by decide) ?_
      refine g_callV F (dp := 3) (ci := 6) (As := [.ref (xa X q1), .int (1 : Int32)]) (c_Txt_readComputed l _ _ _ hq hq1 _) cv_6_54 hq.1 rfl rfl rfl (Nat.le_of_ble_eq_true rfl) ⟨Nat.le_of_ble_eq_true rfl, Nat.le_of_ble_eq_true rfl⟩ ⟨Nat.zero_le _, Nat.zero_le _⟩ d_Txt_readItem_47 (fun _ σ21 h22 => ?_)
      refine g_goto F (tgt := 111) d_Txt_readItem_50 (by decide) ?_
      exact g_vret F hlk hr d_Txt_readItem_111
    refine g_aload_n F d_Txt_readItem_26 0 rfl ?_
    refine g_aload_n F d_Txt_readItem_27 1 rfl ?_
    refine g_iconst F (v := 0) d_Txt_readItem_28 (by decide) ?_
    refine g_callV F (dp := 3) (ci := 6) (As := [.ref (xa X q1), .int (0 : Int32)]) (c_Txt_readComputed l _ _ _ hq hq1 _) cv_6_54 hq.1 rfl rfl rfl (Nat.le_of_ble_eq_true rfl) ⟨Nat.le_of_ble_eq_true rfl, Nat.le_of_ble_eq_true rfl⟩ ⟨Nat.zero_le _, Nat.zero_le _⟩ d_Txt_readItem_29 (fun _ σ23 h23 => ?_)
    refine g_goto F (tgt := 111) d_Txt_readItem_32 (by decide) ?_
    exact g_vret F hlk hr d_Txt_readItem_111
  refine g_aload_n F d_Txt_readItem_9 0 rfl ?_
  refine g_aload_n F d_Txt_readItem_10 1 rfl ?_
  refine g_callV F (dp := 3) (ci := 6) (As := [.ref (xa X q1)]) (c_Txt_readPhysical l _ _ hq hq1 _) cv_6_49 hq.1 rfl rfl rfl (Nat.le_of_ble_eq_true rfl) ⟨Nat.le_of_ble_eq_true rfl, Nat.le_of_ble_eq_true rfl⟩ ⟨Nat.zero_le _, Nat.zero_le _⟩ d_Txt_readItem_11 (fun _ σ25 h24 => ?_)
  refine g_goto F (tgt := 111) d_Txt_readItem_14 (by decide) ?_
  exact g_vret F hlk hr d_Txt_readItem_111
def y_Txt_read : MethodName := ⟨"SensorHub$Text", "read", "(LSensorHub$Hub;)I"⟩
theorem d_Txt_read_0 : decode prog_8_method_6_code 0 = .ok (.aload_n 0, 1) := by decide +kernel
theorem d_Txt_read_1 : decode prog_8_method_6_code 1 = .ok (.iconst 0, 1) := by decide +kernel
theorem d_Txt_read_2 : decode prog_8_method_6_code 2 = .ok (.putfield 23, 3) := by decide +kernel
theorem d_Txt_read_5 : decode prog_8_method_6_code 5 = .ok (.aload_n 0, 1) := by decide +kernel
theorem d_Txt_read_6 : decode prog_8_method_6_code 6 = .ok (.iconst 0, 1) := by decide +kernel
theorem d_Txt_read_7 : decode prog_8_method_6_code 7 = .ok (.putfield 27, 3) := by decide +kernel
theorem d_Txt_read_10 : decode prog_8_method_6_code 10 = .ok (.iconst 0, 1) := by decide +kernel
theorem d_Txt_read_11 : decode prog_8_method_6_code 11 = .ok (.istore_n 2, 1) := by decide +kernel
theorem d_Txt_read_12 : decode prog_8_method_6_code 12 = .ok (.aload_n 0, 1) := by decide +kernel
theorem d_Txt_read_13 : decode prog_8_method_6_code 13 = .ok (.invokevirtual 30, 3) := by decide +kernel
theorem d_Txt_read_16 : decode prog_8_method_6_code 16 = .ok (.aload_n 0, 1) := by decide +kernel
theorem d_Txt_read_17 : decode prog_8_method_6_code 17 = .ok (.getfield 23, 3) := by decide +kernel
theorem d_Txt_read_20 : decode prog_8_method_6_code 20 = .ok (.ifCond .ne 32, 3) := by decide +kernel
theorem d_Txt_read_23 : decode prog_8_method_6_code 23 = .ok (.aload_n 0, 1) := by decide +kernel
theorem d_Txt_read_24 : decode prog_8_method_6_code 24 = .ok (.getfield 33, 3) := by decide +kernel
theorem d_Txt_read_27 : decode prog_8_method_6_code 27 = .ok (.ifCond .eq 25, 3) := by decide +kernel
theorem d_Txt_read_30 : decode prog_8_method_6_code 30 = .ok (.iload_n 2, 1) := by decide +kernel
theorem d_Txt_read_31 : decode prog_8_method_6_code 31 = .ok (.sipush 160, 3) := by decide +kernel
theorem d_Txt_read_34 : decode prog_8_method_6_code 34 = .ok (.if_icmp .ge 18, 3) := by decide +kernel
theorem d_Txt_read_37 : decode prog_8_method_6_code 37 = .ok (.aload_n 0, 1) := by decide +kernel
theorem d_Txt_read_38 : decode prog_8_method_6_code 38 = .ok (.aload_n 1, 1) := by decide +kernel
theorem d_Txt_read_39 : decode prog_8_method_6_code 39 = .ok (.invokevirtual 36, 3) := by decide +kernel
theorem d_Txt_read_42 : decode prog_8_method_6_code 42 = .ok (.aload_n 0, 1) := by decide +kernel
theorem d_Txt_read_43 : decode prog_8_method_6_code 43 = .ok (.invokevirtual 30, 3) := by decide +kernel
theorem d_Txt_read_46 : decode prog_8_method_6_code 46 = .ok (.iinc 2 1, 3) := by decide +kernel
theorem d_Txt_read_49 : decode prog_8_method_6_code 49 = .ok (.goto (-33), 3) := by decide +kernel
theorem d_Txt_read_52 : decode prog_8_method_6_code 52 = .ok (.aload_n 0, 1) := by decide +kernel
theorem d_Txt_read_53 : decode prog_8_method_6_code 53 = .ok (.getfield 23, 3) := by decide +kernel
theorem d_Txt_read_56 : decode prog_8_method_6_code 56 = .ok (.ifCond .eq 13, 3) := by decide +kernel
theorem d_Txt_read_59 : decode prog_8_method_6_code 59 = .ok (.bipush (-10), 2) := by decide +kernel
theorem d_Txt_read_61 : decode prog_8_method_6_code 61 = .ok (.aload_n 0, 1) := by decide +kernel
theorem d_Txt_read_62 : decode prog_8_method_6_code 62 = .ok (.getfield 40, 3) := by decide +kernel
theorem d_Txt_read_65 : decode prog_8_method_6_code 65 = .ok (.isub, 1) := by decide +kernel
theorem d_Txt_read_66 : decode prog_8_method_6_code 66 = .ok (.goto 4, 3) := by decide +kernel
theorem d_Txt_read_69 : decode prog_8_method_6_code 69 = .ok (.iload_n 2, 1) := by decide +kernel
theorem d_Txt_read_70 : decode prog_8_method_6_code 70 = .ok (.ireturn, 1) := by decide +kernel
theorem cv_6_36 : CSV "SensorHub$Text" 36 y_Txt_readItem prog_8_method_7_code 2 none 1 := ⟨gw_I 628 (by decide +kernel) rfl, gw_I 630 (by decide +kernel) rfl, gw_I 9 (by decide +kernel) rfl, gw_I 77 (by decide +kernel) rfl, gw_I 631 (by decide +kernel) rfl, ⟨by decide +kernel, by decide +kernel⟩, by decide +kernel⟩
def L_Txt_read_16 (r0 : Nat) (r1 : Nat) (k : Int32 → Mem → Option (Int32 × Mem)) : Nat → Int32 → Mem → Option (Int32 × Mem)
  | 0, _, _ => none
  | n + 1, x2, σ =>
    if (σ r0 2) = 0 then
      if (σ r0 3) = 0 then
        k x2 σ
      else
        if (160 : Int32) ≤ x2 then
          k x2 σ
        else
          bd (f_Txt_readItem r0 r1 σ) fun _ σ6 =>
          bd (f_Txt_nextToken r0 σ6) fun _ σ8 =>
          L_Txt_read_16 r0 r1 k n (x2 + 1) σ8
    else
      k x2 σ
def f_Txt_read (q : Nat) (q1 : Nat) (σ : Mem) : Option (Int32 × Mem) :=
  lt (wr σ q 2 (0 : Int32)) fun σ1 =>
  lt (wr σ1 q 5 (0 : Int32)) fun σ2 =>
  bd (f_Txt_nextToken q σ2) fun _ σ4 =>
  L_Txt_read_16 q q1 (fun z9 σ10 =>
    if (σ10 q 2) = 0 then some (z9, σ10) else some ((-10 : Int32) - (σ10 q 4), σ10)) FU (0 : Int32) σ4
set_option maxRecDepth 100000 in
set_option maxHeartbeats 4000000 in
theorem l_L_Txt_read_16 {X : CX} {p : Program} {l : Launch} {e : Env} {s : State} {m : MethodId} {args : Array Value} {below : List Frame} {meth : Method} {c : Code} (F : FR p s m args c prog_8_method_6_code 3 "SensorHub$Text" X) (hlk : meth.locks = false) (hr : meth.sig.returnType = some .int) (r0 : Nat) (r1 : Nat) (hr0 : TextOK X r0) (hr1 : HubOK X r1) (k : Int32 → Mem → Option (Int32 × Mem)) (hk : ∀ (x2 : Int32) (σ : Mem), G X p l e (rmD 7) s m args below meth c 3 0 0 (QI X below args s vI) 52 [(0, .ref (xa X r0)), (2, .int x2)] [] σ (k x2 σ)) : ∀ (n : Nat) (x2 : Int32) (σ : Mem), G X p l e (rmD 7) s m args below meth c 3 0 0 (QI X below args s vI) 16 [(0, .ref (xa X r0)), (1, .ref (xa X r1)), (2, .int x2)] [] σ (L_Txt_read_16 r0 r1 k n x2 σ) := by
  intro n
  induction n with
  | zero => intros; exact g_no
  | succ n ih =>
    intro x2 σ
    unfold L_Txt_read_16
    refine g_aload_n F d_Txt_read_16 0 rfl ?_
    refine g_getI F fs_6_23 hr0.1 rfl d_Txt_read_17 ?_
    refine g_if_ne F (tgt := 52) d_Txt_read_20 (by decide) (fun h2 => ?_) (fun h3 => ?_)
    · refine g_aload_n F d_Txt_read_23 0 rfl ?_
      refine g_getI F fs_6_33 hr0.1 rfl d_Txt_read_24 ?_
      refine g_if_eq F (tgt := 52) d_Txt_read_27 (by decide) (fun h4 => ?_) (fun h5 => ?_)
      · exact g_sub [0, 2] rfl (hk _ _)
      refine g_iload_n F d_Txt_read_30 2 rfl ?_
      refine g_sipush F (v := 160) d_Txt_read_31 (by decide) ?_
      refine g_icmp_ge F (tgt := 52) d_Txt_read_34 (by decide) (fun h6 => ?_) (fun h7 => ?_)
      · exact g_sub [0, 2] rfl (hk _ _)
      refine g_aload_n F d_Txt_read_37 0 rfl ?_
      refine g_aload_n F d_Txt_read_38 1 rfl ?_
      refine g_callV F (dp := 6) (ci := 6) (As := [.ref (xa X r1)]) (c_Txt_readItem l _ _ hr0 hr1 _) cv_6_36 hr0.1 rfl rfl rfl (Nat.le_of_ble_eq_true rfl) ⟨Nat.le_of_ble_eq_true rfl, Nat.le_of_ble_eq_true rfl⟩ ⟨Nat.zero_le _, Nat.zero_le _⟩ d_Txt_read_39 (fun _ σ6 h8 => ?_)
      refine g_aload_n F d_Txt_read_42 0 rfl ?_
      refine g_callV F (dp := 1) (ci := 6) (As := []) (c_Txt_nextToken l _ hr0 _) cv_6_30 hr0.1 rfl rfl rfl (Nat.le_of_ble_eq_true rfl) ⟨Nat.le_of_ble_eq_true rfl, Nat.le_of_ble_eq_true rfl⟩ ⟨Nat.zero_le _, Nat.zero_le _⟩ d_Txt_read_43 (fun _ σ8 h9 => ?_)
      refine g_iinc F (v := 1) (ls' := [(2, .int (x2 + 1)), (0, .ref (xa X r0)), (1, .ref (xa X r1))]) d_Txt_read_46 2 rfl (by decide) (by decide) rfl ?_
      refine g_goto F (tgt := 16) d_Txt_read_49 (by decide) ?_
      exact g_sub [1, 2, 0] rfl (ih _ _)
    exact g_sub [0, 2] rfl (hk _ _)
set_option maxRecDepth 100000 in
set_option maxHeartbeats 4000000 in
theorem c_Txt_read {X : CX} (l : Launch) (q : Nat) (q1 : Nat) (hq : TextOK X q) (hq1 : HubOK X q1) (σ : Mem) : CT X l y_Txt_read prog_8_method_6_code 3 (some .int) 7 vI [.ref (xa X q), .ref (xa X q1)] σ (f_Txt_read q q1 σ) := by
  refine CT_of (by decide +kernel) (Nat.le_of_ble_eq_true rfl) ?_
  intro p e s m args below meth c F hlk hr
  have F : FR p s m args c prog_8_method_6_code 3 "SensorHub$Text" X := F
  show G X p l e (rmD 7) s m args below meth c 3 0 0 (QI X below args s vI) 0 [(0, .ref (xa X q)), (1, .ref (xa X q1))] [] σ _
  unfold f_Txt_read
  refine g_aload_n F d_Txt_read_0 0 rfl ?_
  refine g_iconst F (v := 0) d_Txt_read_1 (by decide) ?_
  refine g_pt (q := (0 : Int32) &&& 1 = (0 : Int32)) (by decide) (g_putZ F fw_6_23 hq.1 rfl d_Txt_read_2 ?_)
  refine g_ltM (fun σ1 _ => ?_)
  refine g_aload_n F d_Txt_read_5 0 rfl ?_
  refine g_iconst F (v := 0) d_Txt_read_6 (by decide) ?_
  refine g_putI F fw_6_27 hq.1 rfl d_Txt_read_7 ?_
  refine g_ltM (fun σ2 _ => ?_)
  refine g_iconst F (v := 0) d_Txt_read_10 (by decide) ?_
  refine g_istore_n F (ls' := [(2, .int (0 : Int32)), (0, .ref (xa X q)), (1, .ref (xa X q1))]) d_Txt_read_11 (by decide) rfl ?_
  refine g_aload_n F d_Txt_read_12 1 rfl ?_
  refine g_callV F (dp := 1) (ci := 6) (As := []) (c_Txt_nextToken l _ hq _) cv_6_30 hq.1 rfl rfl rfl (Nat.le_of_ble_eq_true rfl) ⟨Nat.le_of_ble_eq_true rfl, Nat.le_of_ble_eq_true rfl⟩ ⟨Nat.zero_le _, Nat.zero_le _⟩ d_Txt_read_13 (fun _ σ4 h1 => ?_)
  refine g_sub [1, 2, 0] rfl (l_L_Txt_read_16 F hlk hr _ _ hq hq1 _ (fun z9 σ10 => ?_) FU _ _)
  refine g_aload_n F d_Txt_read_52 0 rfl ?_
  refine g_getI F fs_6_23 hq.1 rfl d_Txt_read_53 ?_
  refine g_if_eq F (tgt := 69) d_Txt_read_56 (by decide) (fun h10 => ?_) (fun h11 => ?_)
  · refine g_iload_n F d_Txt_read_69 1 rfl ?_
    exact g_iret F hlk hr d_Txt_read_70
  refine g_bipush F (v := (-10)) d_Txt_read_59 (by decide) ?_
  refine g_aload_n F d_Txt_read_61 0 rfl ?_
  refine g_getI F fs_6_40 hq.1 rfl d_Txt_read_62 ?_
  refine g_isub F d_Txt_read_65 ?_
  refine g_goto F (tgt := 70) d_Txt_read_66 (by decide) ?_
  exact g_iret F hlk hr d_Txt_read_70
