def y_M_empty : MethodName := ⟨"SensorHubModel", "empty", "()V"⟩
theorem d_M_empty_0 : decode prog_10_method_3_code 0 = .ok (.iconst 0, 1) := by decide +kernel
theorem d_M_empty_1 : decode prog_10_method_3_code 1 = .ok (.istore_n 1, 1) := by decide +kernel
theorem d_M_empty_2 : decode prog_10_method_3_code 2 = .ok (.iload_n 1, 1) := by decide +kernel
theorem d_M_empty_3 : decode prog_10_method_3_code 3 = .ok (.sipush 481, 3) := by decide +kernel
theorem d_M_empty_6 : decode prog_10_method_3_code 6 = .ok (.if_icmp .ge 16, 3) := by decide +kernel
theorem d_M_empty_9 : decode prog_10_method_3_code 9 = .ok (.aload_n 0, 1) := by decide +kernel
theorem d_M_empty_10 : decode prog_10_method_3_code 10 = .ok (.getfield 7, 3) := by decide +kernel
theorem d_M_empty_13 : decode prog_10_method_3_code 13 = .ok (.iload_n 1, 1) := by decide +kernel
theorem d_M_empty_14 : decode prog_10_method_3_code 14 = .ok (.iconst 0, 1) := by decide +kernel
theorem d_M_empty_15 : decode prog_10_method_3_code 15 = .ok (.iastore, 1) := by decide +kernel
theorem d_M_empty_16 : decode prog_10_method_3_code 16 = .ok (.iinc 1 1, 3) := by decide +kernel
theorem d_M_empty_19 : decode prog_10_method_3_code 19 = .ok (.goto (-17), 3) := by decide +kernel
theorem d_M_empty_22 : decode prog_10_method_3_code 22 = .ok (.aload_n 0, 1) := by decide +kernel
theorem d_M_empty_23 : decode prog_10_method_3_code 23 = .ok (.getfield 7, 3) := by decide +kernel
theorem d_M_empty_26 : decode prog_10_method_3_code 26 = .ok (.iconst 4, 1) := by decide +kernel
theorem d_M_empty_27 : decode prog_10_method_3_code 27 = .ok (.bipush 10, 2) := by decide +kernel
theorem d_M_empty_29 : decode prog_10_method_3_code 29 = .ok (.iastore, 1) := by decide +kernel
theorem d_M_empty_30 : decode prog_10_method_3_code 30 = .ok (.return_, 1) := by decide +kernel
theorem fs_8_7 : FS "SensorHubModel" 7 8 1 := ⟨"SensorHubModel", T_8, 16, rfl, by decide, rfl, gw_I 893 (by decide +kernel) rfl⟩
def L_M_empty_2 (r0 : Nat) (k : Mem → Option (Unit × Mem)) : Nat → Int32 → Mem → Option (Unit × Mem)
  | 0, _, _ => none
  | n + 1, x1, σ =>
    if (481 : Int32) ≤ x1 then
      k σ
    else
      if ib x1 481 then
        lt (wr σ (r0 + 1) x1.toNatClampNeg (0 : Int32)) fun σ1 =>
        L_M_empty_2 r0 k n (x1 + 1) σ1
      else none
def f_M_empty (q : Nat) (σ : Mem) : Option (Unit × Mem) :=
  L_M_empty_2 q (fun σ2 =>
    lt (wr σ2 (q + 1) 4 (10 : Int32)) fun σ3 =>
    some ((), σ3)) FU (0 : Int32) σ
set_option maxRecDepth 100000 in
set_option maxHeartbeats 4000000 in
theorem l_L_M_empty_2 {X : CX} {p : Program} {l : Launch} {e : Env} {s : State} {m : MethodId} {args : Array Value} {below : List Frame} {meth : Method} {c : Code} (F : FR p s m args c prog_10_method_3_code 2 "SensorHubModel" X) (hlk : meth.locks = false) (hr : meth.sig.returnType = none) (r0 : Nat) (hr0 : ModelOK X r0) (k : Mem → Option (Unit × Mem)) (hk : ∀  (σ : Mem), G X p l e (rmD 0) s m args below meth c 2 0 0 (QI X below args s vU) 22 [(0, .ref (xa X r0))] [] σ (k σ)) : ∀ (n : Nat) (x1 : Int32) (σ : Mem), G X p l e (rmD 0) s m args below meth c 2 0 0 (QI X below args s vU) 2 [(0, .ref (xa X r0)), (1, .int x1)] [] σ (L_M_empty_2 r0 k n x1 σ) := by
  intro n
  induction n with
  | zero => intros; exact g_no
  | succ n ih =>
    intro x1 σ
    unfold L_M_empty_2
    refine g_iload_n F d_M_empty_2 1 rfl ?_
    refine g_sipush F (v := 481) d_M_empty_3 (by decide) ?_
    refine g_icmp_ge F (tgt := 22) d_M_empty_6 (by decide) (fun h1 => ?_) (fun h2 => ?_)
    · exact g_sub [0] rfl (hk  _)
    refine g_aload_n F d_M_empty_9 0 rfl ?_
    refine g_getR F fs_8_7 hr0.1 rfl d_M_empty_10 ?_
    refine g_iload_n F d_M_empty_13 1 rfl ?_
    refine g_iconst F (v := 0) d_M_empty_14 (by decide) ?_
    refine g_iast F (n := 481) hr0.2.1 d_M_empty_15 ?_
    refine g_ltM (fun σ1 _ => ?_)
    refine g_iinc F (v := 1) (ls' := [(1, .int (x1 + 1)), (0, .ref (xa X r0))]) d_M_empty_16 1 rfl (by decide) (by decide) rfl ?_
    refine g_goto F (tgt := 2) d_M_empty_19 (by decide) ?_
    exact g_sub [1, 0] rfl (ih _ _)
set_option maxRecDepth 100000 in
set_option maxHeartbeats 4000000 in
theorem c_M_empty {X : CX} (l : Launch) (q : Nat) (hq : ModelOK X q) (σ : Mem) : CT X l y_M_empty prog_10_method_3_code 2 none 0 vU [.ref (xa X q)] σ (f_M_empty q σ) := by
  refine CT_of (by decide +kernel) (Nat.le_of_ble_eq_true rfl) ?_
  intro p e s m args below meth c F hlk hr
  have F : FR p s m args c prog_10_method_3_code 2 "SensorHubModel" X := F
  show G X p l e (rmD 0) s m args below meth c 2 0 0 (QI X below args s vU) 0 [(0, .ref (xa X q))] [] σ _
  unfold f_M_empty
  refine g_iconst F (v := 0) d_M_empty_0 (by decide) ?_
  refine g_istore_n F (ls' := [(1, .int (0 : Int32)), (0, .ref (xa X q))]) d_M_empty_1 (by decide) rfl ?_
  refine g_sub [1, 0] rfl (l_L_M_empty_2 F hlk hr _ hq _ (fun σ2 => ?_) FU _ _)
  refine g_aload_n F d_M_empty_22 0 rfl ?_
  refine g_getR F fs_8_7 hq.1 rfl d_M_empty_23 ?_
  refine g_iconst F (v := 4) d_M_empty_26 (by decide) ?_
  refine g_bipush F (v := 10) d_M_empty_27 (by decide) ?_
  refine g_iastC F (n := 481) 4 (by decide) (by decide) hq.2.1 d_M_empty_29 ?_
  refine g_ltM (fun σ3 _ => ?_)
  exact g_vret F hlk hr d_M_empty_30
def y_M_in : MethodName := ⟨"SensorHubModel", "in", "(III)Z"⟩
theorem d_M_in_0 : decode prog_10_method_4_code 0 = .ok (.iload_n 0, 1) := by decide +kernel
theorem d_M_in_1 : decode prog_10_method_4_code 1 = .ok (.iload_n 1, 1) := by decide +kernel
theorem d_M_in_2 : decode prog_10_method_4_code 2 = .ok (.if_icmp .lt 12, 3) := by decide +kernel
theorem d_M_in_5 : decode prog_10_method_4_code 5 = .ok (.iload_n 0, 1) := by decide +kernel
theorem d_M_in_6 : decode prog_10_method_4_code 6 = .ok (.iload_n 2, 1) := by decide +kernel
theorem d_M_in_7 : decode prog_10_method_4_code 7 = .ok (.if_icmp .gt 7, 3) := by decide +kernel
theorem d_M_in_10 : decode prog_10_method_4_code 10 = .ok (.iconst 1, 1) := by decide +kernel
theorem d_M_in_11 : decode prog_10_method_4_code 11 = .ok (.goto 4, 3) := by decide +kernel
theorem d_M_in_14 : decode prog_10_method_4_code 14 = .ok (.iconst 0, 1) := by decide +kernel
theorem d_M_in_15 : decode prog_10_method_4_code 15 = .ok (.ireturn, 1) := by decide +kernel
def f_M_in (p0 : Int32) (p1 : Int32) (p2 : Int32) (σ : Mem) : Option (Int32 × Mem) :=
  if p0 < p1 then some ((0 : Int32), σ) else if p2 < p0 then some ((0 : Int32), σ) else some ((1 : Int32), σ)
set_option maxRecDepth 100000 in
set_option maxHeartbeats 4000000 in
theorem c_M_in {X : CX} (l : Launch) (p0 : Int32) (p1 : Int32) (p2 : Int32)  (σ : Mem) : CT X l y_M_in prog_10_method_4_code 3 (some .boolean) 0 vI [.int p0, .int p1, .int p2] σ (f_M_in p0 p1 p2 σ) := by
  refine CT_of (by decide +kernel) (Nat.le_of_ble_eq_true rfl) ?_
  intro p e s m args below meth c F hlk hr
  have F : FR p s m args c prog_10_method_4_code 3 "SensorHubModel" X := F
  show G X p l e (rmD 0) s m args below meth c 3 0 0 (QI X below args s vI) 0 [(0, .int p0), (1, .int p1), (2, .int p2)] [] σ _
  unfold f_M_in
  refine g_iload_n F d_M_in_0 0 rfl ?_
  refine g_iload_n F d_M_in_1 1 rfl ?_
  refine g_icmp_lt F (tgt := 14) d_M_in_2 (by decide) (fun h1 => ?_) (fun h2 => ?_)
  · refine g_iconst F (v := 0) d_M_in_14 (by decide) ?_
    exact g_zretC F hlk hr (by decide) d_M_in_15
  refine g_iload_n F d_M_in_5 0 rfl ?_
  refine g_iload_n F d_M_in_6 2 rfl ?_
  refine g_icmp_gt F (tgt := 14) d_M_in_7 (by decide) (fun h3 => ?_) (fun h4 => ?_)
  · refine g_iconst F (v := 0) d_M_in_14 (by decide) ?_
    exact g_zretC F hlk hr (by decide) d_M_in_15
  refine g_iconst F (v := 1) d_M_in_10 (by decide) ?_
  refine g_goto F (tgt := 15) d_M_in_11 (by decide) ?_
  exact g_zretC F hlk hr (by decide) d_M_in_15
def y_M_isSensor : MethodName := ⟨"SensorHubModel", "isSensor", "(I)Z"⟩
theorem d_M_isSensor_0 : decode prog_10_method_5_code 0 = .ok (.iload_n 1, 1) := by decide +kernel
theorem d_M_isSensor_1 : decode prog_10_method_5_code 1 = .ok (.iconst 0, 1) := by decide +kernel
theorem d_M_isSensor_2 : decode prog_10_method_5_code 2 = .ok (.aload_n 0, 1) := by decide +kernel
theorem d_M_isSensor_3 : decode prog_10_method_5_code 3 = .ok (.getfield 7, 3) := by decide +kernel
theorem d_M_isSensor_6 : decode prog_10_method_5_code 6 = .ok (.iconst 1, 1) := by decide +kernel
theorem d_M_isSensor_7 : decode prog_10_method_5_code 7 = .ok (.iaload, 1) := by decide +kernel
theorem d_M_isSensor_8 : decode prog_10_method_5_code 8 = .ok (.iconst 1, 1) := by decide +kernel
theorem d_M_isSensor_9 : decode prog_10_method_5_code 9 = .ok (.isub, 1) := by decide +kernel
theorem d_M_isSensor_10 : decode prog_10_method_5_code 10 = .ok (.invokestatic 42, 3) := by decide +kernel
theorem d_M_isSensor_13 : decode prog_10_method_5_code 13 = .ok (.ireturn, 1) := by decide +kernel
theorem cs_8_42 : CSS "SensorHubModel" 42 y_M_in prog_10_method_4_code 3 (some .boolean) 3 := ⟨gw_I 946 (by decide +kernel) rfl, gw_I 947 (by decide +kernel) rfl, gw_I 78 (by decide +kernel) rfl, gw_I 948 (by decide +kernel) rfl, ⟨by decide +kernel, by decide +kernel⟩, by decide +kernel⟩
def f_M_isSensor (q : Nat) (p1 : Int32) (σ : Mem) : Option (Int32 × Mem) :=
  bd (f_M_in p1 (0 : Int32) ((σ (q + 1) 1) - (1 : Int32)) σ) fun r1 σ2 =>
  if r1 &&& 1 = r1 then some (r1, σ2) else none
set_option maxRecDepth 100000 in
set_option maxHeartbeats 4000000 in
theorem c_M_isSensor {X : CX} (l : Launch) (q : Nat) (p1 : Int32) (hq : ModelOK X q) (σ : Mem) : CT X l y_M_isSensor prog_10_method_5_code 2 (some .boolean) 1 vI [.ref (xa X q), .int p1] σ (f_M_isSensor q p1 σ) := by
  refine CT_of (by decide +kernel) (Nat.le_of_ble_eq_true rfl) ?_
  intro p e s m args below meth c F hlk hr
  have F : FR p s m args c prog_10_method_5_code 2 "SensorHubModel" X := F
  show G X p l e (rmD 1) s m args below meth c 2 0 0 (QI X below args s vI) 0 [(0, .ref (xa X q)), (1, .int p1)] [] σ _
  unfold f_M_isSensor
  refine g_iload_n F d_M_isSensor_0 1 rfl ?_
  refine g_iconst F (v := 0) d_M_isSensor_1 (by decide) ?_
  refine g_aload_n F d_M_isSensor_2 0 rfl ?_
  refine g_getR F fs_8_7 hq.1 rfl d_M_isSensor_3 ?_
  refine g_iconst F (v := 1) d_M_isSensor_6 (by decide) ?_
  refine g_ialdC F (n := 481) 1 (by decide) (by decide) hq.2.1 d_M_isSensor_7 ?_
  refine g_iconst F (v := 1) d_M_isSensor_8 (by decide) ?_
  refine g_isub F d_M_isSensor_9 ?_
  refine g_callS F (dp := 0) (As := [.int p1, .int (0 : Int32), .int ((σ (q + 1) 1) - (1 : Int32))]) (c_M_in l _ _ _ _) cs_8_42 rfl rfl (Nat.le_of_ble_eq_true rfl) ⟨Nat.le_of_ble_eq_true rfl, Nat.le_of_ble_eq_true rfl⟩ ⟨Nat.zero_le _, Nat.zero_le _⟩ d_M_isSensor_10 (fun r1 σ2 h1 => ?_)
  exact g_zret F hlk hr d_M_isSensor_13
def y_M_client0 : MethodName := ⟨"SensorHubModel", "client0", "(II)I"⟩
theorem d_M_client0_0 : decode prog_10_method_8_code 0 = .ok (.aload_n 0, 1) := by decide +kernel
theorem d_M_client0_1 : decode prog_10_method_8_code 1 = .ok (.getfield 7, 3) := by decide +kernel
theorem d_M_client0_4 : decode prog_10_method_8_code 4 = .ok (.sipush 163, 3) := by decide +kernel
theorem d_M_client0_7 : decode prog_10_method_8_code 7 = .ok (.bipush 27, 2) := by decide +kernel
theorem d_M_client0_9 : decode prog_10_method_8_code 9 = .ok (.iload_n 1, 1) := by decide +kernel
theorem d_M_client0_10 : decode prog_10_method_8_code 10 = .ok (.imul, 1) := by decide +kernel
theorem d_M_client0_11 : decode prog_10_method_8_code 11 = .ok (.iadd, 1) := by decide +kernel
theorem d_M_client0_12 : decode prog_10_method_8_code 12 = .ok (.iload_n 2, 1) := by decide +kernel
theorem d_M_client0_13 : decode prog_10_method_8_code 13 = .ok (.iadd, 1) := by decide +kernel
theorem d_M_client0_14 : decode prog_10_method_8_code 14 = .ok (.iaload, 1) := by decide +kernel
theorem d_M_client0_15 : decode prog_10_method_8_code 15 = .ok (.ireturn, 1) := by decide +kernel
def f_M_client0 (q : Nat) (p1 : Int32) (p2 : Int32) (σ : Mem) : Option (Int32 × Mem) :=
  if ib (((163 : Int32) + ((27 : Int32) * p1)) + p2) 481 then
    some (σ (q + 1) (((163 : Int32) + ((27 : Int32) * p1)) + p2).toNatClampNeg, σ)
  else none
set_option maxRecDepth 100000 in
set_option maxHeartbeats 4000000 in
theorem c_M_client0 {X : CX} (l : Launch) (q : Nat) (p1 : Int32) (p2 : Int32) (hq : ModelOK X q) (σ : Mem) : CT X l y_M_client0 prog_10_method_8_code 3 (some .int) 0 vI [.ref (xa X q), .int p1, .int p2] σ (f_M_client0 q p1 p2 σ) := by
  refine CT_of (by decide +kernel) (Nat.le_of_ble_eq_true rfl) ?_
  intro p e s m args below meth c F hlk hr
  have F : FR p s m args c prog_10_method_8_code 3 "SensorHubModel" X := F
  show G X p l e (rmD 0) s m args below meth c 3 0 0 (QI X below args s vI) 0 [(0, .ref (xa X q)), (1, .int p1), (2, .int p2)] [] σ _
  unfold f_M_client0
  refine g_aload_n F d_M_client0_0 0 rfl ?_
  refine g_getR F fs_8_7 hq.1 rfl d_M_client0_1 ?_
  refine g_sipush F (v := 163) d_M_client0_4 (by decide) ?_
  refine g_bipush F (v := 27) d_M_client0_7 (by decide) ?_
  refine g_iload_n F d_M_client0_9 1 rfl ?_
  refine g_imul F d_M_client0_10 ?_
  refine g_iadd F d_M_client0_11 ?_
  refine g_iload_n F d_M_client0_12 2 rfl ?_
  refine g_iadd F d_M_client0_13 ?_
  refine g_iald F (n := 481) hq.2.1 d_M_client0_14 ?_
  exact g_iret F hlk hr d_M_client0_15
def y_M_isClient : MethodName := ⟨"SensorHubModel", "isClient", "(I)Z"⟩
theorem d_M_isClient_0 : decode prog_10_method_6_code 0 = .ok (.iload_n 1, 1) := by decide +kernel
theorem d_M_isClient_1 : decode prog_10_method_6_code 1 = .ok (.iconst 0, 1) := by decide +kernel
theorem d_M_isClient_2 : decode prog_10_method_6_code 2 = .ok (.bipush 7, 2) := by decide +kernel
theorem d_M_isClient_4 : decode prog_10_method_6_code 4 = .ok (.invokestatic 42, 3) := by decide +kernel
theorem d_M_isClient_7 : decode prog_10_method_6_code 7 = .ok (.ifCond .eq 17, 3) := by decide +kernel
theorem d_M_isClient_10 : decode prog_10_method_6_code 10 = .ok (.aload_n 0, 1) := by decide +kernel
theorem d_M_isClient_11 : decode prog_10_method_6_code 11 = .ok (.iload_n 1, 1) := by decide +kernel
theorem d_M_isClient_12 : decode prog_10_method_6_code 12 = .ok (.iconst 0, 1) := by decide +kernel
theorem d_M_isClient_13 : decode prog_10_method_6_code 13 = .ok (.invokevirtual 46, 3) := by decide +kernel
theorem d_M_isClient_16 : decode prog_10_method_6_code 16 = .ok (.iconst 1, 1) := by decide +kernel
theorem d_M_isClient_17 : decode prog_10_method_6_code 17 = .ok (.if_icmp .ne 7, 3) := by decide +kernel
theorem d_M_isClient_20 : decode prog_10_method_6_code 20 = .ok (.iconst 1, 1) := by decide +kernel
theorem d_M_isClient_21 : decode prog_10_method_6_code 21 = .ok (.goto 4, 3) := by decide +kernel
theorem d_M_isClient_24 : decode prog_10_method_6_code 24 = .ok (.iconst 0, 1) := by decide +kernel
theorem d_M_isClient_25 : decode prog_10_method_6_code 25 = .ok (.ireturn, 1) := by decide +kernel
theorem cv_8_46 : CSV "SensorHubModel" 46 y_M_client0 prog_10_method_8_code 3 (some .int) 2 := ⟨gw_I 997 (by decide +kernel) rfl, gw_I 999 (by decide +kernel) rfl, gw_I 35 (by decide +kernel) rfl, gw_I 78 (by decide +kernel) rfl, gw_I 1000 (by decide +kernel) rfl, ⟨by decide +kernel, by decide +kernel⟩, by decide +kernel⟩
def f_M_isClient (q : Nat) (p1 : Int32) (σ : Mem) : Option (Int32 × Mem) :=
  bd (f_M_in p1 (0 : Int32) (7 : Int32) σ) fun r1 σ2 =>
  if r1 = 0 then
    some ((0 : Int32), σ2)
  else
    bd (f_M_client0 q p1 (0 : Int32) σ2) fun r3 σ4 =>
    if r3 = (1 : Int32) then some ((1 : Int32), σ4) else some ((0 : Int32), σ4)
set_option maxRecDepth 100000 in
set_option maxHeartbeats 4000000 in
theorem c_M_isClient {X : CX} (l : Launch) (q : Nat) (p1 : Int32) (hq : ModelOK X q) (σ : Mem) : CT X l y_M_isClient prog_10_method_6_code 2 (some .boolean) 1 vI [.ref (xa X q), .int p1] σ (f_M_isClient q p1 σ) := by
  refine CT_of (by decide +kernel) (Nat.le_of_ble_eq_true rfl) ?_
  intro p e s m args below meth c F hlk hr
  have F : FR p s m args c prog_10_method_6_code 2 "SensorHubModel" X := F
  show G X p l e (rmD 1) s m args below meth c 2 0 0 (QI X below args s vI) 0 [(0, .ref (xa X q)), (1, .int p1)] [] σ _
  unfold f_M_isClient
  refine g_iload_n F d_M_isClient_0 1 rfl ?_
  refine g_iconst F (v := 0) d_M_isClient_1 (by decide) ?_
  refine g_bipush F (v := 7) d_M_isClient_2 (by decide) ?_
  refine g_callS F (dp := 0) (As := [.int p1, .int (0 : Int32), .int (7 : Int32)]) (c_M_in l _ _ _ _) cs_8_42 rfl rfl (Nat.le_of_ble_eq_true rfl) ⟨Nat.le_of_ble_eq_true rfl, Nat.le_of_ble_eq_true rfl⟩ ⟨Nat.zero_le _, Nat.zero_le _⟩ d_M_isClient_4 (fun r1 σ2 h1 => ?_)
  refine g_if_eq F (tgt := 24) d_M_isClient_7 (by decide) (fun h2 => ?_) (fun h3 => ?_)
  · refine g_iconst F (v := 0) d_M_isClient_24 (by decide) ?_
    exact g_zretC F hlk hr (by decide) d_M_isClient_25
  refine g_aload_n F d_M_isClient_10 0 rfl ?_
  refine g_iload_n F d_M_isClient_11 1 rfl ?_
  refine g_iconst F (v := 0) d_M_isClient_12 (by decide) ?_
  refine g_callV F (dp := 0) (ci := 8) (As := [.int p1, .int (0 : Int32)]) (c_M_client0 l _ _ _ hq _) cv_8_46 hq.1 rfl rfl rfl (Nat.le_of_ble_eq_true rfl) ⟨Nat.le_of_ble_eq_true rfl, Nat.le_of_ble_eq_true rfl⟩ ⟨Nat.zero_le _, Nat.zero_le _⟩ d_M_isClient_13 (fun r3 σ4 h4 => ?_)
  refine g_iconst F (v := 1) d_M_isClient_16 (by decide) ?_
  refine g_icmp_ne F (tgt := 24) d_M_isClient_17 (by decide) (fun h5 => ?_) (fun h6 => ?_)
  · refine g_iconst F (v := 1) d_M_isClient_20 (by decide) ?_
    refine g_goto F (tgt := 25) d_M_isClient_21 (by decide) ?_
    exact g_zretC F hlk hr (by decide) d_M_isClient_25
  refine g_iconst F (v := 0) d_M_isClient_24 (by decide) ?_
  exact g_zretC F hlk hr (by decide) d_M_isClient_25
def y_M_sensor0 : MethodName := ⟨"SensorHubModel", "sensor0", "(II)I"⟩
theorem d_M_sensor0_0 : decode prog_10_method_7_code 0 = .ok (.aload_n 0, 1) := by decide +kernel
theorem d_M_sensor0_1 : decode prog_10_method_7_code 1 = .ok (.getfield 7, 3) := by decide +kernel
theorem d_M_sensor0_4 : decode prog_10_method_7_code 4 = .ok (.bipush 11, 2) := by decide +kernel
theorem d_M_sensor0_6 : decode prog_10_method_7_code 6 = .ok (.bipush 19, 2) := by decide +kernel
theorem d_M_sensor0_8 : decode prog_10_method_7_code 8 = .ok (.iload_n 1, 1) := by decide +kernel
theorem d_M_sensor0_9 : decode prog_10_method_7_code 9 = .ok (.imul, 1) := by decide +kernel
theorem d_M_sensor0_10 : decode prog_10_method_7_code 10 = .ok (.iadd, 1) := by decide +kernel
theorem d_M_sensor0_11 : decode prog_10_method_7_code 11 = .ok (.iload_n 2, 1) := by decide +kernel
theorem d_M_sensor0_12 : decode prog_10_method_7_code 12 = .ok (.iadd, 1) := by decide +kernel
theorem d_M_sensor0_13 : decode prog_10_method_7_code 13 = .ok (.iaload, 1) := by decide +kernel
theorem d_M_sensor0_14 : decode prog_10_method_7_code 14 = .ok (.ireturn, 1) := by decide +kernel
def f_M_sensor0 (q : Nat) (p1 : Int32) (p2 : Int32) (σ : Mem) : Option (Int32 × Mem) :=
  if ib (((11 : Int32) + ((19 : Int32) * p1)) + p2) 481 then
    some (σ (q + 1) (((11 : Int32) + ((19 : Int32) * p1)) + p2).toNatClampNeg, σ)
  else none
set_option maxRecDepth 100000 in
set_option maxHeartbeats 4000000 in
theorem c_M_sensor0 {X : CX} (l : Launch) (q : Nat) (p1 : Int32) (p2 : Int32) (hq : ModelOK X q) (σ : Mem) : CT X l y_M_sensor0 prog_10_method_7_code 3 (some .int) 0 vI [.ref (xa X q), .int p1, .int p2] σ (f_M_sensor0 q p1 p2 σ) := by
  refine CT_of (by decide +kernel) (Nat.le_of_ble_eq_true rfl) ?_
  intro p e s m args below meth c F hlk hr
  have F : FR p s m args c prog_10_method_7_code 3 "SensorHubModel" X := F
  show G X p l e (rmD 0) s m args below meth c 3 0 0 (QI X below args s vI) 0 [(0, .ref (xa X q)), (1, .int p1), (2, .int p2)] [] σ _
  unfold f_M_sensor0
  refine g_aload_n F d_M_sensor0_0 0 rfl ?_
  refine g_getR F fs_8_7 hq.1 rfl d_M_sensor0_1 ?_
  refine g_bipush F (v := 11) d_M_sensor0_4 (by decide) ?_
  refine g_bipush F (v := 19) d_M_sensor0_6 (by decide) ?_
  refine g_iload_n F d_M_sensor0_8 1 rfl ?_
  refine g_imul F d_M_sensor0_9 ?_
  refine g_iadd F d_M_sensor0_10 ?_
  refine g_iload_n F d_M_sensor0_11 2 rfl ?_
  refine g_iadd F d_M_sensor0_12 ?_
  refine g_iald F (n := 481) hq.2.1 d_M_sensor0_13 ?_
  exact g_iret F hlk hr d_M_sensor0_14
def y_M_isPhysical : MethodName := ⟨"SensorHubModel", "isPhysical", "(I)Z"⟩
theorem d_M_isPhysical_0 : decode prog_10_method_9_code 0 = .ok (.aload_n 0, 1) := by decide +kernel
theorem d_M_isPhysical_1 : decode prog_10_method_9_code 1 = .ok (.iload_n 1, 1) := by decide +kernel
theorem d_M_isPhysical_2 : decode prog_10_method_9_code 2 = .ok (.invokevirtual 50, 3) := by decide +kernel
theorem d_M_isPhysical_5 : decode prog_10_method_9_code 5 = .ok (.ifCond .eq 17, 3) := by decide +kernel
theorem d_M_isPhysical_8 : decode prog_10_method_9_code 8 = .ok (.aload_n 0, 1) := by decide +kernel
theorem d_M_isPhysical_9 : decode prog_10_method_9_code 9 = .ok (.iload_n 1, 1) := by decide +kernel
theorem d_M_isPhysical_10 : decode prog_10_method_9_code 10 = .ok (.iconst 0, 1) := by decide +kernel
theorem d_M_isPhysical_11 : decode prog_10_method_9_code 11 = .ok (.invokevirtual 54, 3) := by decide +kernel
theorem d_M_isPhysical_14 : decode prog_10_method_9_code 14 = .ok (.iconst 4, 1) := by decide +kernel
theorem d_M_isPhysical_15 : decode prog_10_method_9_code 15 = .ok (.if_icmp .ne 7, 3) := by decide +kernel
theorem d_M_isPhysical_18 : decode prog_10_method_9_code 18 = .ok (.iconst 1, 1) := by decide +kernel
theorem d_M_isPhysical_19 : decode prog_10_method_9_code 19 = .ok (.goto 4, 3) := by decide +kernel
theorem d_M_isPhysical_22 : decode prog_10_method_9_code 22 = .ok (.iconst 0, 1) := by decide +kernel
theorem d_M_isPhysical_23 : decode prog_10_method_9_code 23 = .ok (.ireturn, 1) := by decide +kernel
theorem cv_8_50 : CSV "SensorHubModel" 50 y_M_isSensor prog_10_method_5_code 2 (some .boolean) 1 := ⟨gw_I 965 (by decide +kernel) rfl, gw_I 967 (by decide +kernel) rfl, gw_I 29 (by decide +kernel) rfl, gw_I 78 (by decide +kernel) rfl, gw_I 968 (by decide +kernel) rfl, ⟨by decide +kernel, by decide +kernel⟩, by decide +kernel⟩
theorem cv_8_54 : CSV "SensorHubModel" 54 y_M_sensor0 prog_10_method_7_code 3 (some .int) 2 := ⟨gw_I 977 (by decide +kernel) rfl, gw_I 979 (by decide +kernel) rfl, gw_I 31 (by decide +kernel) rfl, gw_I 78 (by decide +kernel) rfl, gw_I 980 (by decide +kernel) rfl, ⟨by decide +kernel, by decide +kernel⟩, by decide +kernel⟩
def f_M_isPhysical (q : Nat) (p1 : Int32) (σ : Mem) : Option (Int32 × Mem) :=
  bd (f_M_isSensor q p1 σ) fun r1 σ2 =>
  if r1 = 0 then
    some ((0 : Int32), σ2)
  else
    bd (f_M_sensor0 q p1 (0 : Int32) σ2) fun r3 σ4 =>
    if r3 = (4 : Int32) then some ((1 : Int32), σ4) else some ((0 : Int32), σ4)
set_option maxRecDepth 100000 in
set_option maxHeartbeats 4000000 in
theorem c_M_isPhysical {X : CX} (l : Launch) (q : Nat) (p1 : Int32) (hq : ModelOK X q) (σ : Mem) : CT X l y_M_isPhysical prog_10_method_9_code 2 (some .boolean) 2 vI [.ref (xa X q), .int p1] σ (f_M_isPhysical q p1 σ) := by
  refine CT_of (by decide +kernel) (Nat.le_of_ble_eq_true rfl) ?_
  intro p e s m args below meth c F hlk hr
  have F : FR p s m args c prog_10_method_9_code 2 "SensorHubModel" X := F
  show G X p l e (rmD 2) s m args below meth c 2 0 0 (QI X below args s vI) 0 [(0, .ref (xa X q)), (1, .int p1)] [] σ _
  unfold f_M_isPhysical
  refine g_aload_n F d_M_isPhysical_0 0 rfl ?_
  refine g_iload_n F d_M_isPhysical_1 1 rfl ?_
  refine g_callV F (dp := 1) (ci := 8) (As := [.int p1]) (c_M_isSensor l _ _ hq _) cv_8_50 hq.1 rfl rfl rfl (Nat.le_of_ble_eq_true rfl) ⟨Nat.le_of_ble_eq_true rfl, Nat.le_of_ble_eq_true rfl⟩ ⟨Nat.zero_le _, Nat.zero_le _⟩ d_M_isPhysical_2 (fun r1 σ2 h1 => ?_)
  refine g_if_eq F (tgt := 22) d_M_isPhysical_5 (by decide) (fun h2 => ?_) (fun h3 => ?_)
  · refine g_iconst F (v := 0) d_M_isPhysical_22 (by decide) ?_
    exact g_zretC F hlk hr (by decide) d_M_isPhysical_23
  refine g_aload_n F d_M_isPhysical_8 0 rfl ?_
  refine g_iload_n F d_M_isPhysical_9 1 rfl ?_
  refine g_iconst F (v := 0) d_M_isPhysical_10 (by decide) ?_
  refine g_callV F (dp := 0) (ci := 8) (As := [.int p1, .int (0 : Int32)]) (c_M_sensor0 l _ _ _ hq _) cv_8_54 hq.1 rfl rfl rfl (Nat.le_of_ble_eq_true rfl) ⟨Nat.le_of_ble_eq_true rfl, Nat.le_of_ble_eq_true rfl⟩ ⟨Nat.zero_le _, Nat.zero_le _⟩ d_M_isPhysical_11 (fun r3 σ4 h4 => ?_)
  refine g_iconst F (v := 4) d_M_isPhysical_14 (by decide) ?_
  refine g_icmp_ne F (tgt := 22) d_M_isPhysical_15 (by decide) (fun h5 => ?_) (fun h6 => ?_)
  · refine g_iconst F (v := 1) d_M_isPhysical_18 (by decide) ?_
    refine g_goto F (tgt := 23) d_M_isPhysical_19 (by decide) ?_
    exact g_zretC F hlk hr (by decide) d_M_isPhysical_23
  refine g_iconst F (v := 0) d_M_isPhysical_22 (by decide) ?_
  exact g_zretC F hlk hr (by decide) d_M_isPhysical_23
def y_M_keep : MethodName := ⟨"SensorHubModel", "keep", "()V"⟩
theorem d_M_keep_0 : decode prog_10_method_10_code 0 = .ok (.aload_n 0, 1) := by decide +kernel
theorem d_M_keep_1 : decode prog_10_method_10_code 1 = .ok (.getfield 57, 3) := by decide +kernel
theorem d_M_keep_4 : decode prog_10_method_10_code 4 = .ok (.iconst 5, 1) := by decide +kernel
theorem d_M_keep_5 : decode prog_10_method_10_code 5 = .ok (.if_icmp .ne 44, 3) := by decide +kernel
theorem d_M_keep_8 : decode prog_10_method_10_code 8 = .ok (.iconst 0, 1) := by decide +kernel
theorem d_M_keep_9 : decode prog_10_method_10_code 9 = .ok (.istore_n 1, 1) := by decide +kernel
theorem d_M_keep_10 : decode prog_10_method_10_code 10 = .ok (.iload_n 1, 1) := by decide +kernel
theorem d_M_keep_11 : decode prog_10_method_10_code 11 = .ok (.sipush 1924, 3) := by decide +kernel
theorem d_M_keep_14 : decode prog_10_method_10_code 14 = .ok (.if_icmp .ge 25, 3) := by decide +kernel
theorem d_M_keep_17 : decode prog_10_method_10_code 17 = .ok (.aload_n 0, 1) := by decide +kernel
theorem d_M_keep_18 : decode prog_10_method_10_code 18 = .ok (.getfield 13, 3) := by decide +kernel
theorem d_M_keep_21 : decode prog_10_method_10_code 21 = .ok (.iload_n 1, 1) := by decide +kernel
theorem d_M_keep_22 : decode prog_10_method_10_code 22 = .ok (.aload_n 0, 1) := by decide +kernel
theorem d_M_keep_23 : decode prog_10_method_10_code 23 = .ok (.getfield 13, 3) := by decide +kernel
theorem d_M_keep_26 : decode prog_10_method_10_code 26 = .ok (.iload_n 1, 1) := by decide +kernel
theorem d_M_keep_27 : decode prog_10_method_10_code 27 = .ok (.sipush 481, 3) := by decide +kernel
theorem d_M_keep_30 : decode prog_10_method_10_code 30 = .ok (.iadd, 1) := by decide +kernel
theorem d_M_keep_31 : decode prog_10_method_10_code 31 = .ok (.iaload, 1) := by decide +kernel
theorem d_M_keep_32 : decode prog_10_method_10_code 32 = .ok (.iastore, 1) := by decide +kernel
theorem d_M_keep_33 : decode prog_10_method_10_code 33 = .ok (.iinc 1 1, 3) := by decide +kernel
theorem d_M_keep_36 : decode prog_10_method_10_code 36 = .ok (.goto (-26), 3) := by decide +kernel
theorem d_M_keep_39 : decode prog_10_method_10_code 39 = .ok (.aload_n 0, 1) := by decide +kernel
theorem d_M_keep_40 : decode prog_10_method_10_code 40 = .ok (.dup, 1) := by decide +kernel
theorem d_M_keep_41 : decode prog_10_method_10_code 41 = .ok (.getfield 57, 3) := by decide +kernel
theorem d_M_keep_44 : decode prog_10_method_10_code 44 = .ok (.iconst 1, 1) := by decide +kernel
theorem d_M_keep_45 : decode prog_10_method_10_code 45 = .ok (.isub, 1) := by decide +kernel
theorem d_M_keep_46 : decode prog_10_method_10_code 46 = .ok (.putfield 57, 3) := by decide +kernel
theorem d_M_keep_49 : decode prog_10_method_10_code 49 = .ok (.iconst 0, 1) := by decide +kernel
theorem d_M_keep_50 : decode prog_10_method_10_code 50 = .ok (.istore_n 1, 1) := by decide +kernel
theorem d_M_keep_51 : decode prog_10_method_10_code 51 = .ok (.iload_n 1, 1) := by decide +kernel
theorem d_M_keep_52 : decode prog_10_method_10_code 52 = .ok (.sipush 481, 3) := by decide +kernel
theorem d_M_keep_55 : decode prog_10_method_10_code 55 = .ok (.if_icmp .ge 30, 3) := by decide +kernel
theorem d_M_keep_58 : decode prog_10_method_10_code 58 = .ok (.aload_n 0, 1) := by decide +kernel
theorem d_M_keep_59 : decode prog_10_method_10_code 59 = .ok (.getfield 13, 3) := by decide +kernel
theorem d_M_keep_62 : decode prog_10_method_10_code 62 = .ok (.sipush 481, 3) := by decide +kernel
theorem d_M_keep_65 : decode prog_10_method_10_code 65 = .ok (.aload_n 0, 1) := by decide +kernel
theorem d_M_keep_66 : decode prog_10_method_10_code 66 = .ok (.getfield 57, 3) := by decide +kernel
theorem d_M_keep_69 : decode prog_10_method_10_code 69 = .ok (.imul, 1) := by decide +kernel
theorem d_M_keep_70 : decode prog_10_method_10_code 70 = .ok (.iload_n 1, 1) := by decide +kernel
theorem d_M_keep_71 : decode prog_10_method_10_code 71 = .ok (.iadd, 1) := by decide +kernel
theorem d_M_keep_72 : decode prog_10_method_10_code 72 = .ok (.aload_n 0, 1) := by decide +kernel
theorem d_M_keep_73 : decode prog_10_method_10_code 73 = .ok (.getfield 7, 3) := by decide +kernel
theorem d_M_keep_76 : decode prog_10_method_10_code 76 = .ok (.iload_n 1, 1) := by decide +kernel
theorem d_M_keep_77 : decode prog_10_method_10_code 77 = .ok (.iaload, 1) := by decide +kernel
theorem d_M_keep_78 : decode prog_10_method_10_code 78 = .ok (.iastore, 1) := by decide +kernel
theorem d_M_keep_79 : decode prog_10_method_10_code 79 = .ok (.iinc 1 1, 3) := by decide +kernel
theorem d_M_keep_82 : decode prog_10_method_10_code 82 = .ok (.goto (-31), 3) := by decide +kernel
theorem d_M_keep_85 : decode prog_10_method_10_code 85 = .ok (.aload_n 0, 1) := by decide +kernel
theorem d_M_keep_86 : decode prog_10_method_10_code 86 = .ok (.dup, 1) := by decide +kernel
theorem d_M_keep_87 : decode prog_10_method_10_code 87 = .ok (.getfield 57, 3) := by decide +kernel
theorem d_M_keep_90 : decode prog_10_method_10_code 90 = .ok (.iconst 1, 1) := by decide +kernel
theorem d_M_keep_91 : decode prog_10_method_10_code 91 = .ok (.iadd, 1) := by decide +kernel
theorem d_M_keep_92 : decode prog_10_method_10_code 92 = .ok (.putfield 57, 3) := by decide +kernel
theorem d_M_keep_95 : decode prog_10_method_10_code 95 = .ok (.return_, 1) := by decide +kernel
theorem fs_8_57 : FS "SensorHubModel" 57 8 3 := ⟨"SensorHubModel", T_8, 16, rfl, by decide, rfl, gw_I 895 (by decide +kernel) rfl⟩
theorem fs_8_13 : FS "SensorHubModel" 13 8 2 := ⟨"SensorHubModel", T_8, 16, rfl, by decide, rfl, gw_I 894 (by decide +kernel) rfl⟩
theorem fw_8_57 : FW "SensorHubModel" 57 8 3 .int := ⟨"SensorHubModel", T_8, 16, rfl, by decide, rfl, gw_I 895 (by decide +kernel) rfl, rfl, by decide +kernel⟩
def L_M_keep_10 (r0 : Nat) (k : Mem → Option (Unit × Mem)) : Nat → Int32 → Mem → Option (Unit × Mem)
  | 0, _, _ => none
  | n + 1, x1, σ =>
    if (1924 : Int32) ≤ x1 then
      k σ
    else
      if ib (x1 + (481 : Int32)) 2405 then
        if ib x1 2405 then
          lt (wr σ (r0 + 2) x1.toNatClampNeg (σ (r0 + 2) (x1 + (481 : Int32)).toNatClampNeg)) fun σ1 =>
          L_M_keep_10 r0 k n (x1 + 1) σ1
        else none
      else none
def L_M_keep_51 (r0 : Nat) (k : Mem → Option (Unit × Mem)) : Nat → Int32 → Mem → Option (Unit × Mem)
  | 0, _, _ => none
  | n + 1, x1, σ =>
    if (481 : Int32) ≤ x1 then
      k σ
    else
      if ib x1 481 then
        if ib (((481 : Int32) * (σ r0 3)) + x1) 2405 then
          lt (wr σ (r0 + 2) (((481 : Int32) * (σ r0 3)) + x1).toNatClampNeg (σ (r0 + 1) x1.toNatClampNeg)) fun σ4 =>
          L_M_keep_51 r0 k n (x1 + 1) σ4
        else none
      else none
def f_M_keep (q : Nat) (σ : Mem) : Option (Unit × Mem) :=
  if (σ q 3) = (5 : Int32) then
    L_M_keep_10 q (fun σ2 =>
      lt (wr σ2 q 3 ((σ2 q 3) - (1 : Int32))) fun σ3 =>
      L_M_keep_51 q (fun σ5 =>
        lt (wr σ5 q 3 ((σ5 q 3) + (1 : Int32))) fun σ6 =>
        some ((), σ6)) FU (0 : Int32) σ3) FU (0 : Int32) σ
  else
    L_M_keep_51 q (fun σ7 =>
      lt (wr σ7 q 3 ((σ7 q 3) + (1 : Int32))) fun σ8 =>
      some ((), σ8)) FU (0 : Int32) σ
set_option maxRecDepth 100000 in
set_option maxHeartbeats 4000000 in
theorem l_L_M_keep_10 {X : CX} {p : Program} {l : Launch} {e : Env} {s : State} {m : MethodId} {args : Array Value} {below : List Frame} {meth : Method} {c : Code} (F : FR p s m args c prog_10_method_10_code 2 "SensorHubModel" X) (hlk : meth.locks = false) (hr : meth.sig.returnType = none) (r0 : Nat) (hr0 : ModelOK X r0) (k : Mem → Option (Unit × Mem)) (hk : ∀  (σ : Mem), G X p l e (rmD 0) s m args below meth c 2 0 0 (QI X below args s vU) 39 [(0, .ref (xa X r0))] [] σ (k σ)) : ∀ (n : Nat) (x1 : Int32) (σ : Mem), G X p l e (rmD 0) s m args below meth c 2 0 0 (QI X below args s vU) 10 [(0, .ref (xa X r0)), (1, .int x1)] [] σ (L_M_keep_10 r0 k n x1 σ) := by
  intro n
  induction n with
  | zero => intros; exact g_no
  | succ n ih =>
    intro x1 σ
    unfold L_M_keep_10
    refine g_iload_n F d_M_keep_10 1 rfl ?_
    refine g_sipush F (v := 1924) d_M_keep_11 (by decide) ?_
    refine g_icmp_ge F (tgt := 39) d_M_keep_14 (by decide) (fun h3 => ?_) (fun h4 => ?_)
    · exact g_sub [0] rfl (hk  _)
    refine g_aload_n F d_M_keep_17 0 rfl ?_
    refine g_getR F fs_8_13 hr0.1 rfl d_M_keep_18 ?_
    refine g_iload_n F d_M_keep_21 1 rfl ?_
    refine g_aload_n F d_M_keep_22 0 rfl ?_
    refine g_getR F fs_8_13 hr0.1 rfl d_M_keep_23 ?_
    refine g_iload_n F d_M_keep_26 1 rfl ?_
    refine g_sipush F (v := 481) d_M_keep_27 (by decide) ?_
    refine g_iadd F d_M_keep_30 ?_
    refine g_iald F (n := 2405) hr0.2.2.1 d_M_keep_31 ?_
    refine g_iast F (n := 2405) hr0.2.2.1 d_M_keep_32 ?_
    refine g_ltM (fun σ1 _ => ?_)
    refine g_iinc F (v := 1) (ls' := [(1, .int (x1 + 1)), (0, .ref (xa X r0))]) d_M_keep_33 1 rfl (by decide) (by decide) rfl ?_
    refine g_goto F (tgt := 10) d_M_keep_36 (by decide) ?_
    exact g_sub [1, 0] rfl (ih _ _)
set_option maxRecDepth 100000 in
set_option maxHeartbeats 4000000 in
theorem l_L_M_keep_51 {X : CX} {p : Program} {l : Launch} {e : Env} {s : State} {m : MethodId} {args : Array Value} {below : List Frame} {meth : Method} {c : Code} (F : FR p s m args c prog_10_method_10_code 2 "SensorHubModel" X) (hlk : meth.locks = false) (hr : meth.sig.returnType = none) (r0 : Nat) (hr0 : ModelOK X r0) (k : Mem → Option (Unit × Mem)) (hk : ∀  (σ : Mem), G X p l e (rmD 0) s m args below meth c 2 0 0 (QI X below args s vU) 85 [(0, .ref (xa X r0))] [] σ (k σ)) : ∀ (n : Nat) (x1 : Int32) (σ : Mem), G X p l e (rmD 0) s m args below meth c 2 0 0 (QI X below args s vU) 51 [(0, .ref (xa X r0)), (1, .int x1)] [] σ (L_M_keep_51 r0 k n x1 σ) := by
  intro n
  induction n with
  | zero => intros; exact g_no
  | succ n ih =>
    intro x1 σ
    unfold L_M_keep_51
    refine g_iload_n F d_M_keep_51 1 rfl ?_
    refine g_sipush F (v := 481) d_M_keep_52 (by decide) ?_
    refine g_icmp_ge F (tgt := 85) d_M_keep_55 (by decide) (fun h5 => ?_) (fun h6 => ?_)
    · exact g_sub [0] rfl (hk  _)
    refine g_aload_n F d_M_keep_58 0 rfl ?_
    refine g_getR F fs_8_13 hr0.1 rfl d_M_keep_59 ?_
    refine g_sipush F (v := 481) d_M_keep_62 (by decide) ?_
    refine g_aload_n F d_M_keep_65 0 rfl ?_
    refine g_getI F fs_8_57 hr0.1 rfl d_M_keep_66 ?_
    refine g_imul F d_M_keep_69 ?_
    refine g_iload_n F d_M_keep_70 1 rfl ?_
    refine g_iadd F d_M_keep_71 ?_
    refine g_aload_n F d_M_keep_72 0 rfl ?_
    refine g_getR F fs_8_7 hr0.1 rfl d_M_keep_73 ?_
    refine g_iload_n F d_M_keep_76 1 rfl ?_
    refine g_iald F (n := 481) hr0.2.1 d_M_keep_77 ?_
    refine g_iast F (n := 2405) hr0.2.2.1 d_M_keep_78 ?_
    refine g_ltM (fun σ4 _ => ?_)
    refine g_iinc F (v := 1) (ls' := [(1, .int (x1 + 1)), (0, .ref (xa X r0))]) d_M_keep_79 1 rfl (by decide) (by decide) rfl ?_
    refine g_goto F (tgt := 51) d_M_keep_82 (by decide) ?_
    exact g_sub [1, 0] rfl (ih _ _)
set_option maxRecDepth 100000 in
set_option maxHeartbeats 4000000 in
theorem c_M_keep {X : CX} (l : Launch) (q : Nat) (hq : ModelOK X q) (σ : Mem) : CT X l y_M_keep prog_10_method_10_code 2 none 0 vU [.ref (xa X q)] σ (f_M_keep q σ) := by
  refine CT_of (by decide +kernel) (Nat.le_of_ble_eq_true rfl) ?_
  intro p e s m args below meth c F hlk hr
  have F : FR p s m args c prog_10_method_10_code 2 "SensorHubModel" X := F
  show G X p l e (rmD 0) s m args below meth c 2 0 0 (QI X below args s vU) 0 [(0, .ref (xa X q))] [] σ _
  unfold f_M_keep
  refine g_aload_n F d_M_keep_0 0 rfl ?_
  refine g_getI F fs_8_57 hq.1 rfl d_M_keep_1 ?_
  refine g_iconst F (v := 5) d_M_keep_4 (by decide) ?_
  refine g_icmp_ne F (tgt := 49) d_M_keep_5 (by decide) (fun h1 => ?_) (fun h2 => ?_)
  · refine g_iconst F (v := 0) d_M_keep_8 (by decide) ?_
    refine g_istore_n F (ls' := [(1, .int (0 : Int32)), (0, .ref (xa X q))]) d_M_keep_9 (by decide) rfl ?_
    refine g_sub [1, 0] rfl (l_L_M_keep_10 F hlk hr _ hq _ (fun σ2 => ?_) FU _ _)
    refine g_aload_n F d_M_keep_39 0 rfl ?_
    refine g_dup F d_M_keep_40 rfl ?_
    refine g_getI F fs_8_57 hq.1 rfl d_M_keep_41 ?_
    refine g_iconst F (v := 1) d_M_keep_44 (by decide) ?_
    refine g_isub F d_M_keep_45 ?_
    refine g_putI F fw_8_57 hq.1 rfl d_M_keep_46 ?_
    refine g_ltM (fun σ3 _ => ?_)
    refine g_iconst F (v := 0) d_M_keep_49 (by decide) ?_
    refine g_istore_n F (ls' := [(1, .int (0 : Int32)), (0, .ref (xa X q))]) d_M_keep_50 (by decide) rfl ?_
    refine g_sub [1, 0] rfl (l_L_M_keep_51 F hlk hr _ hq _ (fun σ5 => ?_) FU _ _)
    refine g_aload_n F d_M_keep_85 0 rfl ?_
    refine g_dup F d_M_keep_86 rfl ?_
    refine g_getI F fs_8_57 hq.1 rfl d_M_keep_87 ?_
    refine g_iconst F (v := 1) d_M_keep_90 (by decide) ?_
    refine g_iadd F d_M_keep_91 ?_
    refine g_putI F fw_8_57 hq.1 rfl d_M_keep_92 ?_
    refine g_ltM (fun σ6 _ => ?_)
    exact g_vret F hlk hr d_M_keep_95
  refine g_iconst F (v := 0) d_M_keep_49 (by decide) ?_
  refine g_istore_n F (ls' := [(1, .int (0 : Int32)), (0, .ref (xa X q))]) d_M_keep_50 (by decide) rfl ?_
  refine g_sub [1, 0] rfl (l_L_M_keep_51 F hlk hr _ hq _ (fun σ7 => ?_) FU _ _)
  refine g_aload_n F d_M_keep_85 0 rfl ?_
  refine g_dup F d_M_keep_86 rfl ?_
  refine g_getI F fs_8_57 hq.1 rfl d_M_keep_87 ?_
  refine g_iconst F (v := 1) d_M_keep_90 (by decide) ?_
  refine g_iadd F d_M_keep_91 ?_
  refine g_putI F fw_8_57 hq.1 rfl d_M_keep_92 ?_
  refine g_ltM (fun σ8 _ => ?_)
  exact g_vret F hlk hr d_M_keep_95
def y_M_hold : MethodName := ⟨"SensorHubModel", "hold", "()V"⟩
theorem d_M_hold_0 : decode prog_10_method_11_code 0 = .ok (.iconst 0, 1) := by decide +kernel
theorem d_M_hold_1 : decode prog_10_method_11_code 1 = .ok (.istore_n 1, 1) := by decide +kernel
theorem d_M_hold_2 : decode prog_10_method_11_code 2 = .ok (.iload_n 1, 1) := by decide +kernel
theorem d_M_hold_3 : decode prog_10_method_11_code 3 = .ok (.sipush 481, 3) := by decide +kernel
theorem d_M_hold_6 : decode prog_10_method_11_code 6 = .ok (.if_icmp .ge 21, 3) := by decide +kernel
theorem d_M_hold_9 : decode prog_10_method_11_code 9 = .ok (.aload_n 0, 1) := by decide +kernel
theorem d_M_hold_10 : decode prog_10_method_11_code 10 = .ok (.getfield 19, 3) := by decide +kernel
theorem d_M_hold_13 : decode prog_10_method_11_code 13 = .ok (.iload_n 1, 1) := by decide +kernel
theorem d_M_hold_14 : decode prog_10_method_11_code 14 = .ok (.aload_n 0, 1) := by decide +kernel
theorem d_M_hold_15 : decode prog_10_method_11_code 15 = .ok (.getfield 7, 3) := by decide +kernel
theorem d_M_hold_18 : decode prog_10_method_11_code 18 = .ok (.iload_n 1, 1) := by decide +kernel
theorem d_M_hold_19 : decode prog_10_method_11_code 19 = .ok (.iaload, 1) := by decide +kernel
theorem d_M_hold_20 : decode prog_10_method_11_code 20 = .ok (.iastore, 1) := by decide +kernel
theorem d_M_hold_21 : decode prog_10_method_11_code 21 = .ok (.iinc 1 1, 3) := by decide +kernel
theorem d_M_hold_24 : decode prog_10_method_11_code 24 = .ok (.goto (-22), 3) := by decide +kernel
theorem d_M_hold_27 : decode prog_10_method_11_code 27 = .ok (.return_, 1) := by decide +kernel
theorem fs_8_19 : FS "SensorHubModel" 19 8 6 := ⟨"SensorHubModel", T_8, 16, rfl, by decide, rfl, gw_I 898 (by decide +kernel) rfl⟩
def L_M_hold_2 (r0 : Nat) (k : Mem → Option (Unit × Mem)) : Nat → Int32 → Mem → Option (Unit × Mem)
  | 0, _, _ => none
  | n + 1, x1, σ =>
    if (481 : Int32) ≤ x1 then
      k σ
    else
      if ib x1 481 then
        if ib x1 481 then
          lt (wr σ (r0 + 4) x1.toNatClampNeg (σ (r0 + 1) x1.toNatClampNeg)) fun σ1 =>
          L_M_hold_2 r0 k n (x1 + 1) σ1
        else none
      else none
def f_M_hold (q : Nat) (σ : Mem) : Option (Unit × Mem) :=
  L_M_hold_2 q (fun σ2 =>
    some ((), σ2)) FU (0 : Int32) σ
set_option maxRecDepth 100000 in
set_option maxHeartbeats 4000000 in
theorem l_L_M_hold_2 {X : CX} {p : Program} {l : Launch} {e : Env} {s : State} {m : MethodId} {args : Array Value} {below : List Frame} {meth : Method} {c : Code} (F : FR p s m args c prog_10_method_11_code 2 "SensorHubModel" X) (hlk : meth.locks = false) (hr : meth.sig.returnType = none) (r0 : Nat) (hr0 : ModelOK X r0) (k : Mem → Option (Unit × Mem)) (hk : ∀  (σ : Mem), G X p l e (rmD 0) s m args below meth c 2 0 0 (QI X below args s vU) 27 [] [] σ (k σ)) : ∀ (n : Nat) (x1 : Int32) (σ : Mem), G X p l e (rmD 0) s m args below meth c 2 0 0 (QI X below args s vU) 2 [(0, .ref (xa X r0)), (1, .int x1)] [] σ (L_M_hold_2 r0 k n x1 σ) := by
  intro n
  induction n with
  | zero => intros; exact g_no
  | succ n ih =>
    intro x1 σ
    unfold L_M_hold_2
    refine g_iload_n F d_M_hold_2 1 rfl ?_
    refine g_sipush F (v := 481) d_M_hold_3 (by decide) ?_
    refine g_icmp_ge F (tgt := 27) d_M_hold_6 (by decide) (fun h1 => ?_) (fun h2 => ?_)
    · exact g_sub [] rfl (hk  _)
    refine g_aload_n F d_M_hold_9 0 rfl ?_
    refine g_getR F fs_8_19 hr0.1 rfl d_M_hold_10 ?_
    refine g_iload_n F d_M_hold_13 1 rfl ?_
    refine g_aload_n F d_M_hold_14 0 rfl ?_
    refine g_getR F fs_8_7 hr0.1 rfl d_M_hold_15 ?_
    refine g_iload_n F d_M_hold_18 1 rfl ?_
    refine g_iald F (n := 481) hr0.2.1 d_M_hold_19 ?_
    refine g_iast F (n := 481) hr0.2.2.2.2.1 d_M_hold_20 ?_
    refine g_ltM (fun σ1 _ => ?_)
    refine g_iinc F (v := 1) (ls' := [(1, .int (x1 + 1)), (0, .ref (xa X r0))]) d_M_hold_21 1 rfl (by decide) (by decide) rfl ?_
    refine g_goto F (tgt := 2) d_M_hold_24 (by decide) ?_
    exact g_sub [1, 0] rfl (ih _ _)
set_option maxRecDepth 100000 in
set_option maxHeartbeats 4000000 in
theorem c_M_hold {X : CX} (l : Launch) (q : Nat) (hq : ModelOK X q) (σ : Mem) : CT X l y_M_hold prog_10_method_11_code 2 none 0 vU [.ref (xa X q)] σ (f_M_hold q σ) := by
  refine CT_of (by decide +kernel) (Nat.le_of_ble_eq_true rfl) ?_
  intro p e s m args below meth c F hlk hr
  have F : FR p s m args c prog_10_method_11_code 2 "SensorHubModel" X := F
  show G X p l e (rmD 0) s m args below meth c 2 0 0 (QI X below args s vU) 0 [(0, .ref (xa X q))] [] σ _
  unfold f_M_hold
  refine g_iconst F (v := 0) d_M_hold_0 (by decide) ?_
  refine g_istore_n F (ls' := [(1, .int (0 : Int32)), (0, .ref (xa X q))]) d_M_hold_1 (by decide) rfl ?_
  refine g_sub [1, 0] rfl (l_L_M_hold_2 F hlk hr _ hq _ (fun σ2 => ?_) FU _ _)
  exact g_vret F hlk hr d_M_hold_27
def y_M_release : MethodName := ⟨"SensorHubModel", "release", "()V"⟩
theorem d_M_release_0 : decode prog_10_method_12_code 0 = .ok (.iconst 0, 1) := by decide +kernel
theorem d_M_release_1 : decode prog_10_method_12_code 1 = .ok (.istore_n 1, 1) := by decide +kernel
theorem d_M_release_2 : decode prog_10_method_12_code 2 = .ok (.iload_n 1, 1) := by decide +kernel
theorem d_M_release_3 : decode prog_10_method_12_code 3 = .ok (.sipush 481, 3) := by decide +kernel
theorem d_M_release_6 : decode prog_10_method_12_code 6 = .ok (.if_icmp .ge 21, 3) := by decide +kernel
theorem d_M_release_9 : decode prog_10_method_12_code 9 = .ok (.aload_n 0, 1) := by decide +kernel
theorem d_M_release_10 : decode prog_10_method_12_code 10 = .ok (.getfield 7, 3) := by decide +kernel
theorem d_M_release_13 : decode prog_10_method_12_code 13 = .ok (.iload_n 1, 1) := by decide +kernel
theorem d_M_release_14 : decode prog_10_method_12_code 14 = .ok (.aload_n 0, 1) := by decide +kernel
theorem d_M_release_15 : decode prog_10_method_12_code 15 = .ok (.getfield 19, 3) := by decide +kernel
theorem d_M_release_18 : decode prog_10_method_12_code 18 = .ok (.iload_n 1, 1) := by decide +kernel
theorem d_M_release_19 : decode prog_10_method_12_code 19 = .ok (.iaload, 1) := by decide +kernel
theorem d_M_release_20 : decode prog_10_method_12_code 20 = .ok (.iastore, 1) := by decide +kernel
theorem d_M_release_21 : decode prog_10_method_12_code 21 = .ok (.iinc 1 1, 3) := by decide +kernel
theorem d_M_release_24 : decode prog_10_method_12_code 24 = .ok (.goto (-22), 3) := by decide +kernel
theorem d_M_release_27 : decode prog_10_method_12_code 27 = .ok (.return_, 1) := by decide +kernel
def L_M_release_2 (r0 : Nat) (k : Mem → Option (Unit × Mem)) : Nat → Int32 → Mem → Option (Unit × Mem)
  | 0, _, _ => none
  | n + 1, x1, σ =>
    if (481 : Int32) ≤ x1 then
      k σ
    else
      if ib x1 481 then
        if ib x1 481 then
          lt (wr σ (r0 + 1) x1.toNatClampNeg (σ (r0 + 4) x1.toNatClampNeg)) fun σ1 =>
          L_M_release_2 r0 k n (x1 + 1) σ1
        else none
      else none
def f_M_release (q : Nat) (σ : Mem) : Option (Unit × Mem) :=
  L_M_release_2 q (fun σ2 =>
    some ((), σ2)) FU (0 : Int32) σ
set_option maxRecDepth 100000 in
set_option maxHeartbeats 4000000 in
theorem l_L_M_release_2 {X : CX} {p : Program} {l : Launch} {e : Env} {s : State} {m : MethodId} {args : Array Value} {below : List Frame} {meth : Method} {c : Code} (F : FR p s m args c prog_10_method_12_code 2 "SensorHubModel" X) (hlk : meth.locks = false) (hr : meth.sig.returnType = none) (r0 : Nat) (hr0 : ModelOK X r0) (k : Mem → Option (Unit × Mem)) (hk : ∀  (σ : Mem), G X p l e (rmD 0) s m args below meth c 2 0 0 (QI X below args s vU) 27 [] [] σ (k σ)) : ∀ (n : Nat) (x1 : Int32) (σ : Mem), G X p l e (rmD 0) s m args below meth c 2 0 0 (QI X below args s vU) 2 [(0, .ref (xa X r0)), (1, .int x1)] [] σ (L_M_release_2 r0 k n x1 σ) := by
  intro n
  induction n with
  | zero => intros; exact g_no
  | succ n ih =>
    intro x1 σ
    unfold L_M_release_2
    refine g_iload_n F d_M_release_2 1 rfl ?_
    refine g_sipush F (v := 481) d_M_release_3 (by decide) ?_
    refine g_icmp_ge F (tgt := 27) d_M_release_6 (by decide) (fun h1 => ?_) (fun h2 => ?_)
    · exact g_sub [] rfl (hk  _)
    refine g_aload_n F d_M_release_9 0 rfl ?_
    refine g_getR F fs_8_7 hr0.1 rfl d_M_release_10 ?_
    refine g_iload_n F d_M_release_13 1 rfl ?_
    refine g_aload_n F d_M_release_14 0 rfl ?_
    refine g_getR F fs_8_19 hr0.1 rfl d_M_release_15 ?_
    refine g_iload_n F d_M_release_18 1 rfl ?_
    refine g_iald F (n := 481) hr0.2.2.2.2.1 d_M_release_19 ?_
    refine g_iast F (n := 481) hr0.2.1 d_M_release_20 ?_
    refine g_ltM (fun σ1 _ => ?_)
    refine g_iinc F (v := 1) (ls' := [(1, .int (x1 + 1)), (0, .ref (xa X r0))]) d_M_release_21 1 rfl (by decide) (by decide) rfl ?_
    refine g_goto F (tgt := 2) d_M_release_24 (by decide) ?_
    exact g_sub [1, 0] rfl (ih _ _)
set_option maxRecDepth 100000 in
set_option maxHeartbeats 4000000 in
theorem c_M_release {X : CX} (l : Launch) (q : Nat) (hq : ModelOK X q) (σ : Mem) : CT X l y_M_release prog_10_method_12_code 2 none 0 vU [.ref (xa X q)] σ (f_M_release q σ) := by
  refine CT_of (by decide +kernel) (Nat.le_of_ble_eq_true rfl) ?_
  intro p e s m args below meth c F hlk hr
  have F : FR p s m args c prog_10_method_12_code 2 "SensorHubModel" X := F
  show G X p l e (rmD 0) s m args below meth c 2 0 0 (QI X below args s vU) 0 [(0, .ref (xa X q))] [] σ _
  unfold f_M_release
  refine g_iconst F (v := 0) d_M_release_0 (by decide) ?_
  refine g_istore_n F (ls' := [(1, .int (0 : Int32)), (0, .ref (xa X q))]) d_M_release_1 (by decide) rfl ?_
  refine g_sub [1, 0] rfl (l_L_M_release_2 F hlk hr _ hq _ (fun σ2 => ?_) FU _ _)
  exact g_vret F hlk hr d_M_release_27
def y_M_less : MethodName := ⟨"SensorHubModel", "less", "(II)I"⟩
theorem d_M_less_0 : decode prog_10_method_13_code 0 = .ok (.iload_n 0, 1) := by decide +kernel
theorem d_M_less_1 : decode prog_10_method_13_code 1 = .ok (.bipush (-9), 2) := by decide +kernel
theorem d_M_less_3 : decode prog_10_method_13_code 3 = .ok (.if_icmp .ne 7, 3) := by decide +kernel
theorem d_M_less_6 : decode prog_10_method_13_code 6 = .ok (.iload_n 1, 1) := by decide +kernel
theorem d_M_less_7 : decode prog_10_method_13_code 7 = .ok (.goto 19, 3) := by decide +kernel
theorem d_M_less_10 : decode prog_10_method_13_code 10 = .ok (.iload_n 1, 1) := by decide +kernel
theorem d_M_less_11 : decode prog_10_method_13_code 11 = .ok (.bipush (-9), 2) := by decide +kernel
theorem d_M_less_13 : decode prog_10_method_13_code 13 = .ok (.if_icmp .eq 8, 3) := by decide +kernel
theorem d_M_less_16 : decode prog_10_method_13_code 16 = .ok (.iload_n 0, 1) := by decide +kernel
theorem d_M_less_17 : decode prog_10_method_13_code 17 = .ok (.iload_n 1, 1) := by decide +kernel
theorem d_M_less_18 : decode prog_10_method_13_code 18 = .ok (.if_icmp .ge 7, 3) := by decide +kernel
theorem d_M_less_21 : decode prog_10_method_13_code 21 = .ok (.iload_n 0, 1) := by decide +kernel
theorem d_M_less_22 : decode prog_10_method_13_code 22 = .ok (.goto 4, 3) := by decide +kernel
theorem d_M_less_25 : decode prog_10_method_13_code 25 = .ok (.iload_n 1, 1) := by decide +kernel
theorem d_M_less_26 : decode prog_10_method_13_code 26 = .ok (.ireturn, 1) := by decide +kernel
def f_M_less (p0 : Int32) (p1 : Int32) (σ : Mem) : Option (Int32 × Mem) :=
  if p0 = (-9 : Int32) then some (p1, σ) else if p1 = (-9 : Int32) then some (p0, σ) else if p1 ≤ p0 then some (p1, σ) else some (p0, σ)
set_option maxRecDepth 100000 in
set_option maxHeartbeats 4000000 in
theorem c_M_less {X : CX} (l : Launch) (p0 : Int32) (p1 : Int32)  (σ : Mem) : CT X l y_M_less prog_10_method_13_code 2 (some .int) 0 vI [.int p0, .int p1] σ (f_M_less p0 p1 σ) := by
  refine CT_of (by decide +kernel) (Nat.le_of_ble_eq_true rfl) ?_
  intro p e s m args below meth c F hlk hr
  have F : FR p s m args c prog_10_method_13_code 2 "SensorHubModel" X := F
  show G X p l e (rmD 0) s m args below meth c 2 0 0 (QI X below args s vI) 0 [(0, .int p0), (1, .int p1)] [] σ _
  unfold f_M_less
  refine g_iload_n F d_M_less_0 0 rfl ?_
  refine g_bipush F (v := (-9)) d_M_less_1 (by decide) ?_
  refine g_icmp_ne F (tgt := 10) d_M_less_3 (by decide) (fun h1 => ?_) (fun h2 => ?_)
  · refine g_iload_n F d_M_less_6 1 rfl ?_
    refine g_goto F (tgt := 26) d_M_less_7 (by decide) ?_
    exact g_iret F hlk hr d_M_less_26
  refine g_iload_n F d_M_less_10 1 rfl ?_
  refine g_bipush F (v := (-9)) d_M_less_11 (by decide) ?_
  refine g_icmp_eq F (tgt := 21) d_M_less_13 (by decide) (fun h3 => ?_) (fun h4 => ?_)
  · refine g_iload_n F d_M_less_21 0 rfl ?_
    refine g_goto F (tgt := 26) d_M_less_22 (by decide) ?_
    exact g_iret F hlk hr d_M_less_26
  refine g_iload_n F d_M_less_16 0 rfl ?_
  refine g_iload_n F d_M_less_17 1 rfl ?_
  refine g_icmp_ge F (tgt := 25) d_M_less_18 (by decide) (fun h5 => ?_) (fun h6 => ?_)
  · refine g_iload_n F d_M_less_25 1 rfl ?_
    exact g_iret F hlk hr d_M_less_26
  refine g_iload_n F d_M_less_21 0 rfl ?_
  refine g_goto F (tgt := 26) d_M_less_22 (by decide) ?_
  exact g_iret F hlk hr d_M_less_26
def y_M_asked : MethodName := ⟨"SensorHubModel", "asked", "(I)I"⟩
theorem d_M_asked_0 : decode prog_10_method_14_code 0 = .ok (.bipush (-9), 2) := by decide +kernel
theorem d_M_asked_2 : decode prog_10_method_14_code 2 = .ok (.istore_n 2, 1) := by decide +kernel
theorem d_M_asked_3 : decode prog_10_method_14_code 3 = .ok (.iconst 0, 1) := by decide +kernel
theorem d_M_asked_4 : decode prog_10_method_14_code 4 = .ok (.istore_n 3, 1) := by decide +kernel
theorem d_M_asked_5 : decode prog_10_method_14_code 5 = .ok (.iload_n 3, 1) := by decide +kernel
theorem d_M_asked_6 : decode prog_10_method_14_code 6 = .ok (.bipush 8, 2) := by decide +kernel
theorem d_M_asked_8 : decode prog_10_method_14_code 8 = .ok (.if_icmp .ge 40, 3) := by decide +kernel
theorem d_M_asked_11 : decode prog_10_method_14_code 11 = .ok (.aload_n 0, 1) := by decide +kernel
theorem d_M_asked_12 : decode prog_10_method_14_code 12 = .ok (.iload_n 3, 1) := by decide +kernel
theorem d_M_asked_13 : decode prog_10_method_14_code 13 = .ok (.iconst 0, 1) := by decide +kernel
theorem d_M_asked_14 : decode prog_10_method_14_code 14 = .ok (.invokevirtual 46, 3) := by decide +kernel
theorem d_M_asked_17 : decode prog_10_method_14_code 17 = .ok (.iconst 1, 1) := by decide +kernel
theorem d_M_asked_18 : decode prog_10_method_14_code 18 = .ok (.if_icmp .ne 24, 3) := by decide +kernel
theorem d_M_asked_21 : decode prog_10_method_14_code 21 = .ok (.aload_n 0, 1) := by decide +kernel
theorem d_M_asked_22 : decode prog_10_method_14_code 22 = .ok (.iload_n 3, 1) := by decide +kernel
theorem d_M_asked_23 : decode prog_10_method_14_code 23 = .ok (.iconst 1, 1) := by decide +kernel
theorem d_M_asked_24 : decode prog_10_method_14_code 24 = .ok (.invokevirtual 46, 3) := by decide +kernel
theorem d_M_asked_27 : decode prog_10_method_14_code 27 = .ok (.iload_n 1, 1) := by decide +kernel
theorem d_M_asked_28 : decode prog_10_method_14_code 28 = .ok (.if_icmp .ne 14, 3) := by decide +kernel
theorem d_M_asked_31 : decode prog_10_method_14_code 31 = .ok (.iload_n 2, 1) := by decide +kernel
theorem d_M_asked_32 : decode prog_10_method_14_code 32 = .ok (.aload_n 0, 1) := by decide +kernel
theorem d_M_asked_33 : decode prog_10_method_14_code 33 = .ok (.iload_n 3, 1) := by decide +kernel
theorem d_M_asked_34 : decode prog_10_method_14_code 34 = .ok (.iconst 2, 1) := by decide +kernel
theorem d_M_asked_35 : decode prog_10_method_14_code 35 = .ok (.invokevirtual 46, 3) := by decide +kernel
theorem d_M_asked_38 : decode prog_10_method_14_code 38 = .ok (.invokestatic 60, 3) := by decide +kernel
theorem d_M_asked_41 : decode prog_10_method_14_code 41 = .ok (.istore_n 2, 1) := by decide +kernel
theorem d_M_asked_42 : decode prog_10_method_14_code 42 = .ok (.iinc 3 1, 3) := by decide +kernel
theorem d_M_asked_45 : decode prog_10_method_14_code 45 = .ok (.goto (-40), 3) := by decide +kernel
theorem d_M_asked_48 : decode prog_10_method_14_code 48 = .ok (.iload_n 2, 1) := by decide +kernel
theorem d_M_asked_49 : decode prog_10_method_14_code 49 = .ok (.ireturn, 1) := by decide +kernel
theorem cs_8_60 : CSS "SensorHubModel" 60 y_M_less prog_10_method_13_code 2 (some .int) 2 := ⟨gw_I 1025 (by decide +kernel) rfl, gw_I 1026 (by decide +kernel) rfl, gw_I 78 (by decide +kernel) rfl, gw_I 1027 (by decide +kernel) rfl, ⟨by decide +kernel, by decide +kernel⟩, by decide +kernel⟩
def L_M_asked_5 (r0 : Nat) (y1 : Int32) (k : Int32 → Mem → Option (Int32 × Mem)) : Nat → Int32 → Int32 → Mem → Option (Int32 × Mem)
  | 0, _, _, _ => none
  | n + 1, x2, x3, σ =>
    if (8 : Int32) ≤ x3 then
      k x2 σ
    else
      bd (f_M_client0 r0 x3 (0 : Int32) σ) fun r1 σ2 =>
      if r1 = (1 : Int32) then
        bd (f_M_client0 r0 x3 (1 : Int32) σ2) fun r3 σ4 =>
        if r3 = y1 then
          bd (f_M_client0 r0 x3 (2 : Int32) σ4) fun r5 σ6 =>
          bd (f_M_less x2 r5 σ6) fun r7 σ8 =>
          L_M_asked_5 r0 y1 k n r7 (x3 + 1) σ8
        else
          L_M_asked_5 r0 y1 k n x2 (x3 + 1) σ4
      else
        L_M_asked_5 r0 y1 k n x2 (x3 + 1) σ2
def f_M_asked (q : Nat) (p1 : Int32) (σ : Mem) : Option (Int32 × Mem) :=
  L_M_asked_5 q p1 (fun z9 σ10 =>
    some (z9, σ10)) FU (-9 : Int32) (0 : Int32) σ
set_option maxRecDepth 100000 in
set_option maxHeartbeats 4000000 in
theorem l_L_M_asked_5 {X : CX} {p : Program} {l : Launch} {e : Env} {s : State} {m : MethodId} {args : Array Value} {below : List Frame} {meth : Method} {c : Code} (F : FR p s m args c prog_10_method_14_code 4 "SensorHubModel" X) (hlk : meth.locks = false) (hr : meth.sig.returnType = some .int) (r0 : Nat) (y1 : Int32) (hr0 : ModelOK X r0) (k : Int32 → Mem → Option (Int32 × Mem)) (hk : ∀ (x2 : Int32) (σ : Mem), G X p l e (rmD 1) s m args below meth c 4 0 0 (QI X below args s vI) 48 [(2, .int x2)] [] σ (k x2 σ)) : ∀ (n : Nat) (x2 : Int32) (x3 : Int32) (σ : Mem), G X p l e (rmD 1) s m args below meth c 4 0 0 (QI X below args s vI) 5 [(0, .ref (xa X r0)), (1, .int y1), (2, .int x2), (3, .int x3)] [] σ (L_M_asked_5 r0 y1 k n x2 x3 σ) := by
  intro n
  induction n with
  | zero => intros; exact g_no
  | succ n ih =>
    intro x2 x3 σ
    unfold L_M_asked_5
    refine g_iload_n F d_M_asked_5 3 rfl ?_
    refine g_bipush F (v := 8) d_M_asked_6 (by decide) ?_
    refine g_icmp_ge F (tgt := 48) d_M_asked_8 (by decide) (fun h1 => ?_) (fun h2 => ?_)
    · exact g_sub [2] rfl (hk _ _)
    refine g_aload_n F d_M_asked_11 0 rfl ?_
    refine g_iload_n F d_M_asked_12 3 rfl ?_
    refine g_iconst F (v := 0) d_M_asked_13 (by decide) ?_
    refine g_callV F (dp := 0) (ci := 8) (As := [.int x3, .int (0 : Int32)]) (c_M_client0 l _ _ _ hr0 _) cv_8_46 hr0.1 rfl rfl rfl (Nat.le_of_ble_eq_true rfl) ⟨Nat.le_of_ble_eq_true rfl, Nat.le_of_ble_eq_true rfl⟩ ⟨Nat.zero_le _, Nat.zero_le _⟩ d_M_asked_14 (fun r1 σ2 h3 => ?_)
    refine g_iconst F (v := 1) d_M_asked_17 (by decide) ?_
    refine g_icmp_ne F (tgt := 42) d_M_asked_18 (by decide) (fun h4 => ?_) (fun h5 => ?_)
    · refine g_aload_n F d_M_asked_21 0 rfl ?_
      refine g_iload_n F d_M_asked_22 3 rfl ?_
      refine g_iconst F (v := 1) d_M_asked_23 (by decide) ?_
      refine g_callV F (dp := 0) (ci := 8) (As := [.int x3, .int (1 : Int32)]) (c_M_client0 l _ _ _ hr0 _) cv_8_46 hr0.1 rfl rfl rfl (Nat.le_of_ble_eq_true rfl) ⟨Nat.le_of_ble_eq_true rfl, Nat.le_of_ble_eq_true rfl⟩ ⟨Nat.zero_le _, Nat.zero_le _⟩ d_M_asked_24 (fun r3 σ4 h6 => ?_)
      refine g_iload_n F d_M_asked_27 1 rfl ?_
      refine g_icmp_ne F (tgt := 42) d_M_asked_28 (by decide) (fun h7 => ?_) (fun h8 => ?_)
      · refine g_iload_n F d_M_asked_31 2 rfl ?_
        refine g_aload_n F d_M_asked_32 0 rfl ?_
        refine g_iload_n F d_M_asked_33 3 rfl ?_
        refine g_iconst F (v := 2) d_M_asked_34 (by decide) ?_
        refine g_callV F (dp := 0) (ci := 8) (As := [.int x3, .int (2 : Int32)]) (c_M_client0 l _ _ _ hr0 _) cv_8_46 hr0.1 rfl rfl rfl (Nat.le_of_ble_eq_true rfl) ⟨Nat.le_of_ble_eq_true rfl, Nat.le_of_ble_eq_true rfl⟩ ⟨Nat.zero_le _, Nat.zero_le _⟩ d_M_asked_35 (fun r5 σ6 h9 => ?_)
        refine g_callS F (dp := 0) (As := [.int x2, .int r5]) (c_M_less l _ _ _) cs_8_60 rfl rfl (Nat.le_of_ble_eq_true rfl) ⟨Nat.le_of_ble_eq_true rfl, Nat.le_of_ble_eq_true rfl⟩ ⟨Nat.zero_le _, Nat.zero_le _⟩ d_M_asked_38 (fun r7 σ8 h10 => ?_)
        refine g_istore_n F (ls' := [(2, .int r7), (0, .ref (xa X r0)), (1, .int y1), (3, .int x3)]) d_M_asked_41 (by decide) rfl ?_
        refine g_iinc F (v := 1) (ls' := [(3, .int (x3 + 1)), (2, .int r7), (0, .ref (xa X r0)), (1, .int y1)]) d_M_asked_42 3 rfl (by decide) (by decide) rfl ?_
        refine g_goto F (tgt := 5) d_M_asked_45 (by decide) ?_
        exact g_sub [2, 3, 1, 0] rfl (ih _ _ _)
      refine g_iinc F (v := 1) (ls' := [(3, .int (x3 + 1)), (0, .ref (xa X r0)), (1, .int y1), (2, .int x2)]) d_M_asked_42 3 rfl (by decide) (by decide) rfl ?_
      refine g_goto F (tgt := 5) d_M_asked_45 (by decide) ?_
      exact g_sub [1, 2, 3, 0] rfl (ih _ _ _)
    refine g_iinc F (v := 1) (ls' := [(3, .int (x3 + 1)), (0, .ref (xa X r0)), (1, .int y1), (2, .int x2)]) d_M_asked_42 3 rfl (by decide) (by decide) rfl ?_
    refine g_goto F (tgt := 5) d_M_asked_45 (by decide) ?_
    exact g_sub [1, 2, 3, 0] rfl (ih _ _ _)
set_option maxRecDepth 100000 in
set_option maxHeartbeats 4000000 in
theorem c_M_asked {X : CX} (l : Launch) (q : Nat) (p1 : Int32) (hq : ModelOK X q) (σ : Mem) : CT X l y_M_asked prog_10_method_14_code 4 (some .int) 1 vI [.ref (xa X q), .int p1] σ (f_M_asked q p1 σ) := by
  refine CT_of (by decide +kernel) (Nat.le_of_ble_eq_true rfl) ?_
  intro p e s m args below meth c F hlk hr
  have F : FR p s m args c prog_10_method_14_code 4 "SensorHubModel" X := F
  show G X p l e (rmD 1) s m args below meth c 4 0 0 (QI X below args s vI) 0 [(0, .ref (xa X q)), (1, .int p1)] [] σ _
  unfold f_M_asked
  refine g_bipush F (v := (-9)) d_M_asked_0 (by decide) ?_
  refine g_istore_n F (ls' := [(2, .int (-9 : Int32)), (0, .ref (xa X q)), (1, .int p1)]) d_M_asked_2 (by decide) rfl ?_
  refine g_iconst F (v := 0) d_M_asked_3 (by decide) ?_
  refine g_istore_n F (ls' := [(3, .int (0 : Int32)), (2, .int (-9 : Int32)), (0, .ref (xa X q)), (1, .int p1)]) d_M_asked_4 (by decide) rfl ?_
  refine g_sub [2, 3, 1, 0] rfl (l_L_M_asked_5 F hlk hr _ _ hq _ (fun z9 σ10 => ?_) FU _ _ _)
  refine g_iload_n F d_M_asked_48 0 rfl ?_
  exact g_iret F hlk hr d_M_asked_49
def y_M_source : MethodName := ⟨"SensorHubModel", "source", "(I)I"⟩
theorem d_M_source_0 : decode prog_10_method_15_code 0 = .ok (.iload_n 1, 1) := by decide +kernel
theorem d_M_source_1 : decode prog_10_method_15_code 1 = .ok (.istore_n 2, 1) := by decide +kernel
theorem d_M_source_2 : decode prog_10_method_15_code 2 = .ok (.aload_n 0, 1) := by decide +kernel
theorem d_M_source_3 : decode prog_10_method_15_code 3 = .ok (.iload_n 2, 1) := by decide +kernel
theorem d_M_source_4 : decode prog_10_method_15_code 4 = .ok (.iconst 0, 1) := by decide +kernel
theorem d_M_source_5 : decode prog_10_method_15_code 5 = .ok (.invokevirtual 54, 3) := by decide +kernel
theorem d_M_source_8 : decode prog_10_method_15_code 8 = .ok (.iconst 4, 1) := by decide +kernel
theorem d_M_source_9 : decode prog_10_method_15_code 9 = .ok (.if_icmp .eq 13, 3) := by decide +kernel
theorem d_M_source_12 : decode prog_10_method_15_code 12 = .ok (.aload_n 0, 1) := by decide +kernel
theorem d_M_source_13 : decode prog_10_method_15_code 13 = .ok (.iload_n 2, 1) := by decide +kernel
theorem d_M_source_14 : decode prog_10_method_15_code 14 = .ok (.iconst 1, 1) := by decide +kernel
theorem d_M_source_15 : decode prog_10_method_15_code 15 = .ok (.invokevirtual 54, 3) := by decide +kernel
theorem d_M_source_18 : decode prog_10_method_15_code 18 = .ok (.istore_n 2, 1) := by decide +kernel
theorem d_M_source_19 : decode prog_10_method_15_code 19 = .ok (.goto (-17), 3) := by decide +kernel
theorem d_M_source_22 : decode prog_10_method_15_code 22 = .ok (.iload_n 2, 1) := by decide +kernel
theorem d_M_source_23 : decode prog_10_method_15_code 23 = .ok (.ireturn, 1) := by decide +kernel
def L_M_source_2 (r0 : Nat) (k : Int32 → Mem → Option (Int32 × Mem)) : Nat → Int32 → Mem → Option (Int32 × Mem)
  | 0, _, _ => none
  | n + 1, x2, σ =>
    bd (f_M_sensor0 r0 x2 (0 : Int32) σ) fun r1 σ2 =>
    if r1 = (4 : Int32) then
      k x2 σ2
    else
      bd (f_M_sensor0 r0 x2 (1 : Int32) σ2) fun r3 σ4 =>
      L_M_source_2 r0 k n r3 σ4
def f_M_source (q : Nat) (p1 : Int32) (σ : Mem) : Option (Int32 × Mem) :=
  L_M_source_2 q (fun z5 σ6 =>
    some (z5, σ6)) FU p1 σ
set_option maxRecDepth 100000 in
set_option maxHeartbeats 4000000 in
theorem l_L_M_source_2 {X : CX} {p : Program} {l : Launch} {e : Env} {s : State} {m : MethodId} {args : Array Value} {below : List Frame} {meth : Method} {c : Code} (F : FR p s m args c prog_10_method_15_code 3 "SensorHubModel" X) (hlk : meth.locks = false) (hr : meth.sig.returnType = some .int) (r0 : Nat) (hr0 : ModelOK X r0) (k : Int32 → Mem → Option (Int32 × Mem)) (hk : ∀ (x2 : Int32) (σ : Mem), G X p l e (rmD 1) s m args below meth c 3 0 0 (QI X below args s vI) 22 [(2, .int x2)] [] σ (k x2 σ)) : ∀ (n : Nat) (x2 : Int32) (σ : Mem), G X p l e (rmD 1) s m args below meth c 3 0 0 (QI X below args s vI) 2 [(0, .ref (xa X r0)), (2, .int x2)] [] σ (L_M_source_2 r0 k n x2 σ) := by
  intro n
  induction n with
  | zero => intros; exact g_no
  | succ n ih =>
    intro x2 σ
    unfold L_M_source_2
    refine g_aload_n F d_M_source_2 0 rfl ?_
    refine g_iload_n F d_M_source_3 1 rfl ?_
    refine g_iconst F (v := 0) d_M_source_4 (by decide) ?_
    refine g_callV F (dp := 0) (ci := 8) (As := [.int x2, .int (0 : Int32)]) (c_M_sensor0 l _ _ _ hr0 _) cv_8_54 hr0.1 rfl rfl rfl (Nat.le_of_ble_eq_true rfl) ⟨Nat.le_of_ble_eq_true rfl, Nat.le_of_ble_eq_true rfl⟩ ⟨Nat.zero_le _, Nat.zero_le _⟩ d_M_source_5 (fun r1 σ2 h1 => ?_)
    refine g_iconst F (v := 4) d_M_source_8 (by decide) ?_
    refine g_icmp_eq F (tgt := 22) d_M_source_9 (by decide) (fun h2 => ?_) (fun h3 => ?_)
    · exact g_sub [1] rfl (hk _ _)
    refine g_aload_n F d_M_source_12 0 rfl ?_
    refine g_iload_n F d_M_source_13 1 rfl ?_
    refine g_iconst F (v := 1) d_M_source_14 (by decide) ?_
    refine g_callV F (dp := 0) (ci := 8) (As := [.int x2, .int (1 : Int32)]) (c_M_sensor0 l _ _ _ hr0 _) cv_8_54 hr0.1 rfl rfl rfl (Nat.le_of_ble_eq_true rfl) ⟨Nat.le_of_ble_eq_true rfl, Nat.le_of_ble_eq_true rfl⟩ ⟨Nat.zero_le _, Nat.zero_le _⟩ d_M_source_15 (fun r3 σ4 h4 => ?_)
    refine g_istore_n F (ls' := [(2, .int r3), (0, .ref (xa X r0))]) d_M_source_18 (by decide) rfl ?_
    refine g_goto F (tgt := 2) d_M_source_19 (by decide) ?_
    exact g_sub [1, 0] rfl (ih _ _)
set_option maxRecDepth 100000 in
set_option maxHeartbeats 4000000 in
theorem c_M_source {X : CX} (l : Launch) (q : Nat) (p1 : Int32) (hq : ModelOK X q) (σ : Mem) : CT X l y_M_source prog_10_method_15_code 3 (some .int) 1 vI [.ref (xa X q), .int p1] σ (f_M_source q p1 σ) := by
  refine CT_of (by decide +kernel) (Nat.le_of_ble_eq_true rfl) ?_
  intro p e s m args below meth c F hlk hr
  have F : FR p s m args c prog_10_method_15_code 3 "SensorHubModel" X := F
  show G X p l e (rmD 1) s m args below meth c 3 0 0 (QI X below args s vI) 0 [(0, .ref (xa X q)), (1, .int p1)] [] σ _
  unfold f_M_source
  refine g_iload_n F d_M_source_0 1 rfl ?_
  refine g_istore_n F (ls' := [(2, .int p1), (0, .ref (xa X q)), (1, .int p1)]) d_M_source_1 (by decide) rfl ?_
  refine g_sub [1, 0] rfl (l_L_M_source_2 F hlk hr _ hq _ (fun z5 σ6 => ?_) FU _ _)
  refine g_iload_n F d_M_source_22 0 rfl ?_
  exact g_iret F hlk hr d_M_source_23
def y_M_supported : MethodName := ⟨"SensorHubModel", "supported", "(II)I"⟩
theorem d_M_supported_0 : decode prog_10_method_16_code 0 = .ok (.aload_n 0, 1) := by decide +kernel
theorem d_M_supported_1 : decode prog_10_method_16_code 1 = .ok (.iload_n 1, 1) := by decide +kernel
theorem d_M_supported_2 : decode prog_10_method_16_code 2 = .ok (.iconst 1, 1) := by decide +kernel
theorem d_M_supported_3 : decode prog_10_method_16_code 3 = .ok (.invokevirtual 54, 3) := by decide +kernel
theorem d_M_supported_6 : decode prog_10_method_16_code 6 = .ok (.istore_n 3, 1) := by decide +kernel
theorem d_M_supported_7 : decode prog_10_method_16_code 7 = .ok (.iconst 1, 1) := by decide +kernel
theorem d_M_supported_8 : decode prog_10_method_16_code 8 = .ok (.istore 4, 2) := by decide +kernel
theorem d_M_supported_10 : decode prog_10_method_16_code 10 = .ok (.iload 4, 2) := by decide +kernel
theorem d_M_supported_12 : decode prog_10_method_16_code 12 = .ok (.aload_n 0, 1) := by decide +kernel
theorem d_M_supported_13 : decode prog_10_method_16_code 13 = .ok (.iload_n 1, 1) := by decide +kernel
theorem d_M_supported_14 : decode prog_10_method_16_code 14 = .ok (.iconst 2, 1) := by decide +kernel
theorem d_M_supported_15 : decode prog_10_method_16_code 15 = .ok (.invokevirtual 54, 3) := by decide +kernel
theorem d_M_supported_18 : decode prog_10_method_16_code 18 = .ok (.if_icmp .ge 20, 3) := by decide +kernel
theorem d_M_supported_21 : decode prog_10_method_16_code 21 = .ok (.iconst 2, 1) := by decide +kernel
theorem d_M_supported_22 : decode prog_10_method_16_code 22 = .ok (.iload_n 3, 1) := by decide +kernel
theorem d_M_supported_23 : decode prog_10_method_16_code 23 = .ok (.imul, 1) := by decide +kernel
theorem d_M_supported_24 : decode prog_10_method_16_code 24 = .ok (.iload_n 2, 1) := by decide +kernel
theorem d_M_supported_25 : decode prog_10_method_16_code 25 = .ok (.if_icmp .gt 13, 3) := by decide +kernel
theorem d_M_supported_28 : decode prog_10_method_16_code 28 = .ok (.iload_n 3, 1) := by decide +kernel
theorem d_M_supported_29 : decode prog_10_method_16_code 29 = .ok (.iconst 2, 1) := by decide +kernel
theorem d_M_supported_30 : decode prog_10_method_16_code 30 = .ok (.imul, 1) := by decide +kernel
theorem d_M_supported_31 : decode prog_10_method_16_code 31 = .ok (.istore_n 3, 1) := by decide +kernel
theorem d_M_supported_32 : decode prog_10_method_16_code 32 = .ok (.iinc 4 1, 3) := by decide +kernel
theorem d_M_supported_35 : decode prog_10_method_16_code 35 = .ok (.goto (-25), 3) := by decide +kernel
theorem d_M_supported_38 : decode prog_10_method_16_code 38 = .ok (.iload_n 3, 1) := by decide +kernel
theorem d_M_supported_39 : decode prog_10_method_16_code 39 = .ok (.ireturn, 1) := by decide +kernel
def L_M_supported_10 (r0 : Nat) (y1 : Int32) (y2 : Int32) (k : Int32 → Mem → Option (Int32 × Mem)) : Nat → Int32 → Int32 → Mem → Option (Int32 × Mem)
  | 0, _, _, _ => none
  | n + 1, x3, x4, σ =>
    bd (f_M_sensor0 r0 y1 (2 : Int32) σ) fun r3 σ4 =>
    if r3 ≤ x4 then
      k x3 σ4
    else
      if y2 < ((2 : Int32) * x3) then
        k x3 σ4
      else
        lt (x3 * (2 : Int32)) fun v5 =>
        L_M_supported_10 r0 y1 y2 k n v5 (x4 + 1) σ4
def f_M_supported (q : Nat) (p1 : Int32) (p2 : Int32) (σ : Mem) : Option (Int32 × Mem) :=
  bd (f_M_sensor0 q p1 (1 : Int32) σ) fun r1 σ2 =>
  L_M_supported_10 q p1 p2 (fun z6 σ7 =>
    some (z6, σ7)) FU r1 (1 : Int32) σ2
set_option maxRecDepth 100000 in
set_option maxHeartbeats 4000000 in
theorem l_L_M_supported_10 {X : CX} {p : Program} {l : Launch} {e : Env} {s : State} {m : MethodId} {args : Array Value} {below : List Frame} {meth : Method} {c : Code} (F : FR p s m args c prog_10_method_16_code 5 "SensorHubModel" X) (hlk : meth.locks = false) (hr : meth.sig.returnType = some .int) (r0 : Nat) (y1 : Int32) (y2 : Int32) (hr0 : ModelOK X r0) (k : Int32 → Mem → Option (Int32 × Mem)) (hk : ∀ (x3 : Int32) (σ : Mem), G X p l e (rmD 1) s m args below meth c 5 0 0 (QI X below args s vI) 38 [(3, .int x3)] [] σ (k x3 σ)) : ∀ (n : Nat) (x3 : Int32) (x4 : Int32) (σ : Mem), G X p l e (rmD 1) s m args below meth c 5 0 0 (QI X below args s vI) 10 [(0, .ref (xa X r0)), (1, .int y1), (2, .int y2), (3, .int x3), (4, .int x4)] [] σ (L_M_supported_10 r0 y1 y2 k n x3 x4 σ) := by
  intro n
  induction n with
  | zero => intros; exact g_no
  | succ n ih =>
    intro x3 x4 σ
    unfold L_M_supported_10
    refine g_iload F d_M_supported_10 4 rfl ?_
    refine g_aload_n F d_M_supported_12 0 rfl ?_
    refine g_iload_n F d_M_supported_13 1 rfl ?_
    refine g_iconst F (v := 2) d_M_supported_14 (by decide) ?_
    refine g_callV F (dp := 0) (ci := 8) (As := [.int y1, .int (2 : Int32)]) (c_M_sensor0 l _ _ _ hr0 _) cv_8_54 hr0.1 rfl rfl rfl (Nat.le_of_ble_eq_true rfl) ⟨Nat.le_of_ble_eq_true rfl, Nat.le_of_ble_eq_true rfl⟩ ⟨Nat.zero_le _, Nat.zero_le _⟩ d_M_supported_15 (fun r3 σ4 h2 => ?_)
    refine g_icmp_ge F (tgt := 38) d_M_supported_18 (by decide) (fun h3 => ?_) (fun h4 => ?_)
    · exact g_sub [3] rfl (hk _ _)
    refine g_iconst F (v := 2) d_M_supported_21 (by decide) ?_
    refine g_iload_n F d_M_supported_22 3 rfl ?_
    refine g_imul F d_M_supported_23 ?_
    refine g_iload_n F d_M_supported_24 2 rfl ?_
    refine g_icmp_gt F (tgt := 38) d_M_supported_25 (by decide) (fun h5 => ?_) (fun h6 => ?_)
    · exact g_sub [3] rfl (hk _ _)
    refine g_iload_n F d_M_supported_28 3 rfl ?_
    refine g_iconst F (v := 2) d_M_supported_29 (by decide) ?_
    refine g_imul F d_M_supported_30 ?_
    refine g_ltI (fun v5 _ => ?_)
    refine g_istore_n F (ls' := [(3, .int v5), (0, .ref (xa X r0)), (1, .int y1), (2, .int y2), (4, .int x4)]) d_M_supported_31 (by decide) rfl ?_
    refine g_iinc F (v := 1) (ls' := [(4, .int (x4 + 1)), (3, .int v5), (0, .ref (xa X r0)), (1, .int y1), (2, .int y2)]) d_M_supported_32 4 rfl (by decide) (by decide) rfl ?_
    refine g_goto F (tgt := 10) d_M_supported_35 (by decide) ?_
    exact g_sub [2, 3, 4, 1, 0] rfl (ih _ _ _)
set_option maxRecDepth 100000 in
set_option maxHeartbeats 4000000 in
theorem c_M_supported {X : CX} (l : Launch) (q : Nat) (p1 : Int32) (p2 : Int32) (hq : ModelOK X q) (σ : Mem) : CT X l y_M_supported prog_10_method_16_code 5 (some .int) 1 vI [.ref (xa X q), .int p1, .int p2] σ (f_M_supported q p1 p2 σ) := by
  refine CT_of (by decide +kernel) (Nat.le_of_ble_eq_true rfl) ?_
  intro p e s m args below meth c F hlk hr
  have F : FR p s m args c prog_10_method_16_code 5 "SensorHubModel" X := F
  show G X p l e (rmD 1) s m args below meth c 5 0 0 (QI X below args s vI) 0 [(0, .ref (xa X q)), (1, .int p1), (2, .int p2)] [] σ _
  unfold f_M_supported
  refine g_aload_n F d_M_supported_0 0 rfl ?_
  refine g_iload_n F d_M_supported_1 1 rfl ?_
  refine g_iconst F (v := 1) d_M_supported_2 (by decide) ?_
  refine g_callV F (dp := 0) (ci := 8) (As := [.int p1, .int (1 : Int32)]) (c_M_sensor0 l _ _ _ hq _) cv_8_54 hq.1 rfl rfl rfl (Nat.le_of_ble_eq_true rfl) ⟨Nat.le_of_ble_eq_true rfl, Nat.le_of_ble_eq_true rfl⟩ ⟨Nat.zero_le _, Nat.zero_le _⟩ d_M_supported_3 (fun r1 σ2 h1 => ?_)
  refine g_istore_n F (ls' := [(3, .int r1), (0, .ref (xa X q)), (1, .int p1), (2, .int p2)]) d_M_supported_6 (by decide) rfl ?_
  refine g_iconst F (v := 1) d_M_supported_7 (by decide) ?_
  refine g_istore F (ls' := [(4, .int (1 : Int32)), (3, .int r1), (0, .ref (xa X q)), (1, .int p1), (2, .int p2)]) d_M_supported_8 (by decide) rfl ?_
  refine g_sub [2, 3, 4, 1, 0] rfl (l_L_M_supported_10 F hlk hr _ _ _ hq _ (fun z6 σ7 => ?_) FU _ _ _)
  refine g_iload_n F d_M_supported_38 0 rfl ?_
  exact g_iret F hlk hr d_M_supported_39
def y_M_find : MethodName := ⟨"SensorHubModel", "find", "()Z"⟩
theorem d_M_find_0 : decode prog_10_method_17_code 0 = .ok (.iconst 0, 1) := by decide +kernel
theorem d_M_find_1 : decode prog_10_method_17_code 1 = .ok (.istore_n 1, 1) := by decide +kernel
theorem d_M_find_2 : decode prog_10_method_17_code 2 = .ok (.iload_n 1, 1) := by decide +kernel
theorem d_M_find_3 : decode prog_10_method_17_code 3 = .ok (.aload_n 0, 1) := by decide +kernel
theorem d_M_find_4 : decode prog_10_method_17_code 4 = .ok (.getfield 7, 3) := by decide +kernel
theorem d_M_find_7 : decode prog_10_method_17_code 7 = .ok (.iconst 1, 1) := by decide +kernel
theorem d_M_find_8 : decode prog_10_method_17_code 8 = .ok (.iaload, 1) := by decide +kernel
theorem d_M_find_9 : decode prog_10_method_17_code 9 = .ok (.if_icmp .ge 20, 3) := by decide +kernel
theorem d_M_find_12 : decode prog_10_method_17_code 12 = .ok (.aload_n 0, 1) := by decide +kernel
theorem d_M_find_13 : decode prog_10_method_17_code 13 = .ok (.getfield 22, 3) := by decide +kernel
theorem d_M_find_16 : decode prog_10_method_17_code 16 = .ok (.iload_n 1, 1) := by decide +kernel
theorem d_M_find_17 : decode prog_10_method_17_code 17 = .ok (.aload_n 0, 1) := by decide +kernel
theorem d_M_find_18 : decode prog_10_method_17_code 18 = .ok (.iload_n 1, 1) := by decide +kernel
theorem d_M_find_19 : decode prog_10_method_17_code 19 = .ok (.invokevirtual 63, 3) := by decide +kernel
theorem d_M_find_22 : decode prog_10_method_17_code 22 = .ok (.iastore, 1) := by decide +kernel
theorem d_M_find_23 : decode prog_10_method_17_code 23 = .ok (.iinc 1 1, 3) := by decide +kernel
theorem d_M_find_26 : decode prog_10_method_17_code 26 = .ok (.goto (-24), 3) := by decide +kernel
theorem d_M_find_29 : decode prog_10_method_17_code 29 = .ok (.iconst 1, 1) := by decide +kernel
theorem d_M_find_30 : decode prog_10_method_17_code 30 = .ok (.istore_n 1, 1) := by decide +kernel
theorem d_M_find_31 : decode prog_10_method_17_code 31 = .ok (.aload_n 0, 1) := by decide +kernel
theorem d_M_find_32 : decode prog_10_method_17_code 32 = .ok (.getfield 7, 3) := by decide +kernel
theorem d_M_find_35 : decode prog_10_method_17_code 35 = .ok (.iconst 1, 1) := by decide +kernel
theorem d_M_find_36 : decode prog_10_method_17_code 36 = .ok (.iaload, 1) := by decide +kernel
theorem d_M_find_37 : decode prog_10_method_17_code 37 = .ok (.iconst 1, 1) := by decide +kernel
theorem d_M_find_38 : decode prog_10_method_17_code 38 = .ok (.isub, 1) := by decide +kernel
theorem d_M_find_39 : decode prog_10_method_17_code 39 = .ok (.istore_n 2, 1) := by decide +kernel
theorem d_M_find_40 : decode prog_10_method_17_code 40 = .ok (.iload_n 2, 1) := by decide +kernel
theorem d_M_find_41 : decode prog_10_method_17_code 41 = .ok (.ifCond .lt 145, 3) := by decide +kernel
theorem d_M_find_44 : decode prog_10_method_17_code 44 = .ok (.aload_n 0, 1) := by decide +kernel
theorem d_M_find_45 : decode prog_10_method_17_code 45 = .ok (.iload_n 2, 1) := by decide +kernel
theorem d_M_find_46 : decode prog_10_method_17_code 46 = .ok (.iconst 0, 1) := by decide +kernel
theorem d_M_find_47 : decode prog_10_method_17_code 47 = .ok (.invokevirtual 54, 3) := by decide +kernel
theorem d_M_find_50 : decode prog_10_method_17_code 50 = .ok (.istore_n 3, 1) := by decide +kernel
theorem d_M_find_51 : decode prog_10_method_17_code 51 = .ok (.iload_n 3, 1) := by decide +kernel
theorem d_M_find_52 : decode prog_10_method_17_code 52 = .ok (.iconst 4, 1) := by decide +kernel
theorem d_M_find_53 : decode prog_10_method_17_code 53 = .ok (.if_icmp .eq 86, 3) := by decide +kernel
theorem d_M_find_56 : decode prog_10_method_17_code 56 = .ok (.aload_n 0, 1) := by decide +kernel
theorem d_M_find_57 : decode prog_10_method_17_code 57 = .ok (.getfield 22, 3) := by decide +kernel
theorem d_M_find_60 : decode prog_10_method_17_code 60 = .ok (.iload_n 2, 1) := by decide +kernel
theorem d_M_find_61 : decode prog_10_method_17_code 61 = .ok (.iaload, 1) := by decide +kernel
theorem d_M_find_62 : decode prog_10_method_17_code 62 = .ok (.bipush (-9), 2) := by decide +kernel
theorem d_M_find_64 : decode prog_10_method_17_code 64 = .ok (.if_icmp .eq 75, 3) := by decide +kernel
theorem d_M_find_67 : decode prog_10_method_17_code 67 = .ok (.aload_n 0, 1) := by decide +kernel
theorem d_M_find_68 : decode prog_10_method_17_code 68 = .ok (.iload_n 2, 1) := by decide +kernel
theorem d_M_find_69 : decode prog_10_method_17_code 69 = .ok (.iconst 1, 1) := by decide +kernel
theorem d_M_find_70 : decode prog_10_method_17_code 70 = .ok (.invokevirtual 54, 3) := by decide +kernel
theorem d_M_find_73 : decode prog_10_method_17_code 73 = .ok (.istore 4, 2) := by decide +kernel
theorem d_M_find_75 : decode prog_10_method_17_code 75 = .ok (.aload_n 0, 1) := by decide +kernel
theorem d_M_find_76 : decode prog_10_method_17_code 76 = .ok (.getfield 22, 3) := by decide +kernel
theorem d_M_find_79 : decode prog_10_method_17_code 79 = .ok (.iload 4, 2) := by decide +kernel
theorem d_M_find_81 : decode prog_10_method_17_code 81 = .ok (.aload_n 0, 1) := by decide +kernel
theorem d_M_find_82 : decode prog_10_method_17_code 82 = .ok (.getfield 22, 3) := by decide +kernel
theorem d_M_find_85 : decode prog_10_method_17_code 85 = .ok (.iload 4, 2) := by decide +kernel
theorem d_M_find_87 : decode prog_10_method_17_code 87 = .ok (.iaload, 1) := by decide +kernel
theorem d_M_find_88 : decode prog_10_method_17_code 88 = .ok (.aload_n 0, 1) := by decide +kernel
theorem d_M_find_89 : decode prog_10_method_17_code 89 = .ok (.getfield 22, 3) := by decide +kernel
theorem d_M_find_92 : decode prog_10_method_17_code 92 = .ok (.iload_n 2, 1) := by decide +kernel
theorem d_M_find_93 : decode prog_10_method_17_code 93 = .ok (.iaload, 1) := by decide +kernel
theorem d_M_find_94 : decode prog_10_method_17_code 94 = .ok (.invokestatic 60, 3) := by decide +kernel
theorem d_M_find_97 : decode prog_10_method_17_code 97 = .ok (.iastore, 1) := by decide +kernel
theorem d_M_find_98 : decode prog_10_method_17_code 98 = .ok (.iload_n 3, 1) := by decide +kernel
theorem d_M_find_99 : decode prog_10_method_17_code 99 = .ok (.iconst 3, 1) := by decide +kernel
theorem d_M_find_100 : decode prog_10_method_17_code 100 = .ok (.if_icmp .ne 8, 3) := by decide +kernel
theorem d_M_find_103 : decode prog_10_method_17_code 103 = .ok (.iload 4, 2) := by decide +kernel
theorem d_M_find_105 : decode prog_10_method_17_code 105 = .ok (.goto 9, 3) := by decide +kernel
theorem d_M_find_108 : decode prog_10_method_17_code 108 = .ok (.aload_n 0, 1) := by decide +kernel
theorem d_M_find_109 : decode prog_10_method_17_code 109 = .ok (.iload_n 2, 1) := by decide +kernel
theorem d_M_find_110 : decode prog_10_method_17_code 110 = .ok (.iconst 2, 1) := by decide +kernel
theorem d_M_find_111 : decode prog_10_method_17_code 111 = .ok (.invokevirtual 54, 3) := by decide +kernel
theorem d_M_find_114 : decode prog_10_method_17_code 114 = .ok (.istore 5, 2) := by decide +kernel
theorem d_M_find_116 : decode prog_10_method_17_code 116 = .ok (.aload_n 0, 1) := by decide +kernel
theorem d_M_find_117 : decode prog_10_method_17_code 117 = .ok (.getfield 22, 3) := by decide +kernel
theorem d_M_find_120 : decode prog_10_method_17_code 120 = .ok (.iload 5, 2) := by decide +kernel
theorem d_M_find_122 : decode prog_10_method_17_code 122 = .ok (.aload_n 0, 1) := by decide +kernel
theorem d_M_find_123 : decode prog_10_method_17_code 123 = .ok (.getfield 22, 3) := by decide +kernel
theorem d_M_find_126 : decode prog_10_method_17_code 126 = .ok (.iload 5, 2) := by decide +kernel
theorem d_M_find_128 : decode prog_10_method_17_code 128 = .ok (.iaload, 1) := by decide +kernel
theorem d_M_find_129 : decode prog_10_method_17_code 129 = .ok (.aload_n 0, 1) := by decide +kernel
theorem d_M_find_130 : decode prog_10_method_17_code 130 = .ok (.getfield 22, 3) := by decide +kernel
theorem d_M_find_133 : decode prog_10_method_17_code 133 = .ok (.iload_n 2, 1) := by decide +kernel
theorem d_M_find_134 : decode prog_10_method_17_code 134 = .ok (.iaload, 1) := by decide +kernel
theorem d_M_find_135 : decode prog_10_method_17_code 135 = .ok (.invokestatic 60, 3) := by decide +kernel
theorem d_M_find_138 : decode prog_10_method_17_code 138 = .ok (.iastore, 1) := by decide +kernel
theorem d_M_find_139 : decode prog_10_method_17_code 139 = .ok (.iload_n 1, 1) := by decide +kernel
theorem d_M_find_140 : decode prog_10_method_17_code 140 = .ok (.ifCond .eq 38, 3) := by decide +kernel
theorem d_M_find_143 : decode prog_10_method_17_code 143 = .ok (.iload_n 3, 1) := by decide +kernel
theorem d_M_find_144 : decode prog_10_method_17_code 144 = .ok (.iconst 4, 1) := by decide +kernel
theorem d_M_find_145 : decode prog_10_method_17_code 145 = .ok (.if_icmp .ne 29, 3) := by decide +kernel
theorem d_M_find_148 : decode prog_10_method_17_code 148 = .ok (.aload_n 0, 1) := by decide +kernel
theorem d_M_find_149 : decode prog_10_method_17_code 149 = .ok (.getfield 22, 3) := by decide +kernel
theorem d_M_find_152 : decode prog_10_method_17_code 152 = .ok (.iload_n 2, 1) := by decide +kernel
theorem d_M_find_153 : decode prog_10_method_17_code 153 = .ok (.iaload, 1) := by decide +kernel
theorem d_M_find_154 : decode prog_10_method_17_code 154 = .ok (.bipush (-9), 2) := by decide +kernel
theorem d_M_find_156 : decode prog_10_method_17_code 156 = .ok (.if_icmp .eq 18, 3) := by decide +kernel
theorem d_M_find_159 : decode prog_10_method_17_code 159 = .ok (.aload_n 0, 1) := by decide +kernel
theorem d_M_find_160 : decode prog_10_method_17_code 160 = .ok (.getfield 22, 3) := by decide +kernel
theorem d_M_find_163 : decode prog_10_method_17_code 163 = .ok (.iload_n 2, 1) := by decide +kernel
theorem d_M_find_164 : decode prog_10_method_17_code 164 = .ok (.iaload, 1) := by decide +kernel
theorem d_M_find_165 : decode prog_10_method_17_code 165 = .ok (.aload_n 0, 1) := by decide +kernel
theorem d_M_find_166 : decode prog_10_method_17_code 166 = .ok (.iload_n 2, 1) := by decide +kernel
theorem d_M_find_167 : decode prog_10_method_17_code 167 = .ok (.iconst 1, 1) := by decide +kernel
theorem d_M_find_168 : decode prog_10_method_17_code 168 = .ok (.invokevirtual 54, 3) := by decide +kernel
theorem d_M_find_171 : decode prog_10_method_17_code 171 = .ok (.if_icmp .lt 7, 3) := by decide +kernel
theorem d_M_find_174 : decode prog_10_method_17_code 174 = .ok (.iconst 1, 1) := by decide +kernel
theorem d_M_find_175 : decode prog_10_method_17_code 175 = .ok (.goto 4, 3) := by decide +kernel
theorem d_M_find_178 : decode prog_10_method_17_code 178 = .ok (.iconst 0, 1) := by decide +kernel
theorem d_M_find_179 : decode prog_10_method_17_code 179 = .ok (.istore_n 1, 1) := by decide +kernel
theorem d_M_find_180 : decode prog_10_method_17_code 180 = .ok (.iinc 2 (-1), 3) := by decide +kernel
theorem d_M_find_183 : decode prog_10_method_17_code 183 = .ok (.goto (-143), 3) := by decide +kernel
theorem d_M_find_186 : decode prog_10_method_17_code 186 = .ok (.iconst 0, 1) := by decide +kernel
theorem d_M_find_187 : decode prog_10_method_17_code 187 = .ok (.istore_n 2, 1) := by decide +kernel
theorem d_M_find_188 : decode prog_10_method_17_code 188 = .ok (.iload_n 2, 1) := by decide +kernel
theorem d_M_find_189 : decode prog_10_method_17_code 189 = .ok (.aload_n 0, 1) := by decide +kernel
theorem d_M_find_190 : decode prog_10_method_17_code 190 = .ok (.getfield 7, 3) := by decide +kernel
theorem d_M_find_193 : decode prog_10_method_17_code 193 = .ok (.iconst 1, 1) := by decide +kernel
theorem d_M_find_194 : decode prog_10_method_17_code 194 = .ok (.iaload, 1) := by decide +kernel
theorem d_M_find_195 : decode prog_10_method_17_code 195 = .ok (.if_icmp .ge 75, 3) := by decide +kernel
theorem d_M_find_198 : decode prog_10_method_17_code 198 = .ok (.aload_n 0, 1) := by decide +kernel
theorem d_M_find_199 : decode prog_10_method_17_code 199 = .ok (.getfield 22, 3) := by decide +kernel
theorem d_M_find_202 : decode prog_10_method_17_code 202 = .ok (.iload_n 2, 1) := by decide +kernel
theorem d_M_find_203 : decode prog_10_method_17_code 203 = .ok (.iaload, 1) := by decide +kernel
theorem d_M_find_204 : decode prog_10_method_17_code 204 = .ok (.bipush (-9), 2) := by decide +kernel
theorem d_M_find_206 : decode prog_10_method_17_code 206 = .ok (.if_icmp .eq 7, 3) := by decide +kernel
theorem d_M_find_209 : decode prog_10_method_17_code 209 = .ok (.iconst 1, 1) := by decide +kernel
theorem d_M_find_210 : decode prog_10_method_17_code 210 = .ok (.goto 4, 3) := by decide +kernel
theorem d_M_find_213 : decode prog_10_method_17_code 213 = .ok (.iconst 0, 1) := by decide +kernel
theorem d_M_find_214 : decode prog_10_method_17_code 214 = .ok (.istore_n 3, 1) := by decide +kernel
theorem d_M_find_215 : decode prog_10_method_17_code 215 = .ok (.aload_n 0, 1) := by decide +kernel
theorem d_M_find_216 : decode prog_10_method_17_code 216 = .ok (.iload_n 2, 1) := by decide +kernel
theorem d_M_find_217 : decode prog_10_method_17_code 217 = .ok (.invokevirtual 67, 3) := by decide +kernel
theorem d_M_find_220 : decode prog_10_method_17_code 220 = .ok (.istore 4, 2) := by decide +kernel
theorem d_M_find_222 : decode prog_10_method_17_code 222 = .ok (.aload_n 0, 1) := by decide +kernel
theorem d_M_find_223 : decode prog_10_method_17_code 223 = .ok (.getfield 25, 3) := by decide +kernel
theorem d_M_find_226 : decode prog_10_method_17_code 226 = .ok (.iload_n 2, 1) := by decide +kernel
theorem d_M_find_227 : decode prog_10_method_17_code 227 = .ok (.iload_n 3, 1) := by decide +kernel
theorem d_M_find_228 : decode prog_10_method_17_code 228 = .ok (.ifCond .ne 8, 3) := by decide +kernel
theorem d_M_find_231 : decode prog_10_method_17_code 231 = .ok (.bipush (-9), 2) := by decide +kernel
theorem d_M_find_233 : decode prog_10_method_17_code 233 = .ok (.goto 30, 3) := by decide +kernel
theorem d_M_find_236 : decode prog_10_method_17_code 236 = .ok (.iload 4, 2) := by decide +kernel
theorem d_M_find_238 : decode prog_10_method_17_code 238 = .ok (.iload_n 2, 1) := by decide +kernel
theorem d_M_find_239 : decode prog_10_method_17_code 239 = .ok (.if_icmp .ne 17, 3) := by decide +kernel
theorem d_M_find_242 : decode prog_10_method_17_code 242 = .ok (.aload_n 0, 1) := by decide +kernel
theorem d_M_find_243 : decode prog_10_method_17_code 243 = .ok (.iload_n 2, 1) := by decide +kernel
theorem d_M_find_244 : decode prog_10_method_17_code 244 = .ok (.aload_n 0, 1) := by decide +kernel
theorem d_M_find_245 : decode prog_10_method_17_code 245 = .ok (.getfield 22, 3) := by decide +kernel
theorem d_M_find_248 : decode prog_10_method_17_code 248 = .ok (.iload_n 2, 1) := by decide +kernel
theorem d_M_find_249 : decode prog_10_method_17_code 249 = .ok (.iaload, 1) := by decide +kernel
theorem d_M_find_250 : decode prog_10_method_17_code 250 = .ok (.invokevirtual 70, 3) := by decide +kernel
theorem d_M_find_253 : decode prog_10_method_17_code 253 = .ok (.goto 10, 3) := by decide +kernel
theorem d_M_find_256 : decode prog_10_method_17_code 256 = .ok (.aload_n 0, 1) := by decide +kernel
theorem d_M_find_257 : decode prog_10_method_17_code 257 = .ok (.getfield 25, 3) := by decide +kernel
theorem d_M_find_260 : decode prog_10_method_17_code 260 = .ok (.iload 4, 2) := by decide +kernel
theorem d_M_find_262 : decode prog_10_method_17_code 262 = .ok (.iaload, 1) := by decide +kernel
theorem d_M_find_263 : decode prog_10_method_17_code 263 = .ok (.iastore, 1) := by decide +kernel
theorem d_M_find_264 : decode prog_10_method_17_code 264 = .ok (.iinc 2 1, 3) := by decide +kernel
theorem d_M_find_267 : decode prog_10_method_17_code 267 = .ok (.goto (-79), 3) := by decide +kernel
theorem d_M_find_270 : decode prog_10_method_17_code 270 = .ok (.iload_n 1, 1) := by decide +kernel
theorem d_M_find_271 : decode prog_10_method_17_code 271 = .ok (.ireturn, 1) := by decide +kernel
theorem fs_8_22 : FS "SensorHubModel" 22 8 7 := ⟨"SensorHubModel", T_8, 16, rfl, by decide, rfl, gw_I 899 (by decide +kernel) rfl⟩
theorem cv_8_63 : CSV "SensorHubModel" 63 y_M_asked prog_10_method_14_code 4 (some .int) 1 := ⟨gw_I 1021 (by decide +kernel) rfl, gw_I 1023 (by decide +kernel) rfl, gw_I 41 (by decide +kernel) rfl, gw_I 78 (by decide +kernel) rfl, gw_I 1024 (by decide +kernel) rfl, ⟨by decide +kernel, by decide +kernel⟩, by decide +kernel⟩
theorem cv_8_67 : CSV "SensorHubModel" 67 y_M_source prog_10_method_15_code 3 (some .int) 1 := ⟨gw_I 1028 (by decide +kernel) rfl, gw_I 1030 (by decide +kernel) rfl, gw_I 42 (by decide +kernel) rfl, gw_I 78 (by decide +kernel) rfl, gw_I 1031 (by decide +kernel) rfl, ⟨by decide +kernel, by decide +kernel⟩, by decide +kernel⟩
theorem fs_8_25 : FS "SensorHubModel" 25 8 8 := ⟨"SensorHubModel", T_8, 16, rfl, by decide, rfl, gw_I 900 (by decide +kernel) rfl⟩
theorem cv_8_70 : CSV "SensorHubModel" 70 y_M_supported prog_10_method_16_code 5 (some .int) 2 := ⟨gw_I 1032 (by decide +kernel) rfl, gw_I 1034 (by decide +kernel) rfl, gw_I 43 (by decide +kernel) rfl, gw_I 78 (by decide +kernel) rfl, gw_I 1035 (by decide +kernel) rfl, ⟨by decide +kernel, by decide +kernel⟩, by decide +kernel⟩
def L_M_find_2 (r0 : Nat) (k : Mem → Option (Int32 × Mem)) : Nat → Int32 → Mem → Option (Int32 × Mem)
  | 0, _, _ => none
  | n + 1, x1, σ =>
    if (σ (r0 + 1) 1) ≤ x1 then
      k σ
    else
      bd (f_M_asked r0 x1 σ) fun r1 σ2 =>
      if ib x1 8 then
        lt (wr σ2 (r0 + 5) x1.toNatClampNeg r1) fun σ3 =>
        L_M_find_2 r0 k n (x1 + 1) σ3
      else none
def L_M_find_40 (r0 : Nat) (k : Int32 → Mem → Option (Int32 × Mem)) : Nat → Int32 → Int32 → Mem → Option (Int32 × Mem)
  | 0, _, _, _ => none
  | n + 1, x1, x2, σ =>
    if x2 < 0 then
      k x1 σ
    else
      bd (f_M_sensor0 r0 x2 (0 : Int32) σ) fun r6 σ7 =>
      if r6 = (4 : Int32) then
        if x1 = 0 then
          L_M_find_40 r0 k n (0 : Int32) (x2 + (-1)) σ7
        else
          if r6 = (4 : Int32) then
            if ib x2 8 then
              if (σ7 (r0 + 5) x2.toNatClampNeg) = (-9 : Int32) then
                L_M_find_40 r0 k n (1 : Int32) (x2 + (-1)) σ7
              else
                if ib x2 8 then
                  bd (f_M_sensor0 r0 x2 (1 : Int32) σ7) fun r8 σ9 =>
                  if (σ7 (r0 + 5) x2.toNatClampNeg) < r8 then L_M_find_40 r0 k n (0 : Int32) (x2 + (-1)) σ9 else L_M_find_40 r0 k n (1 : Int32) (x2 + (-1)) σ9
                else none
            else none
          else
            L_M_find_40 r0 k n (1 : Int32) (x2 + (-1)) σ7
      else
        if ib x2 8 then
          if (σ7 (r0 + 5) x2.toNatClampNeg) = (-9 : Int32) then
            if x1 = 0 then
              L_M_find_40 r0 k n (0 : Int32) (x2 + (-1)) σ7
            else
              if r6 = (4 : Int32) then
                if ib x2 8 then
                  if (σ7 (r0 + 5) x2.toNatClampNeg) = (-9 : Int32) then
                    L_M_find_40 r0 k n (1 : Int32) (x2 + (-1)) σ7
                  else
                    if ib x2 8 then
                      bd (f_M_sensor0 r0 x2 (1 : Int32) σ7) fun r10 σ11 =>
                      if (σ7 (r0 + 5) x2.toNatClampNeg) < r10 then L_M_find_40 r0 k n (0 : Int32) (x2 + (-1)) σ11 else L_M_find_40 r0 k n (1 : Int32) (x2 + (-1)) σ11
                    else none
                else none
              else
                L_M_find_40 r0 k n (1 : Int32) (x2 + (-1)) σ7
          else
            bd (f_M_sensor0 r0 x2 (1 : Int32) σ7) fun r12 σ13 =>
            if ib r12 8 then
              if ib x2 8 then
                bd (f_M_less (σ13 (r0 + 5) r12.toNatClampNeg) (σ13 (r0 + 5) x2.toNatClampNeg) σ13) fun r14 σ15 =>
                if ib r12 8 then
                  lt (wr σ15 (r0 + 5) r12.toNatClampNeg r14) fun σ16 =>
                  if r6 = (3 : Int32) then
                    if ib r12 8 then
                      if ib x2 8 then
                        bd (f_M_less (σ16 (r0 + 5) r12.toNatClampNeg) (σ16 (r0 + 5) x2.toNatClampNeg) σ16) fun r17 σ18 =>
                        if ib r12 8 then
                          lt (wr σ18 (r0 + 5) r12.toNatClampNeg r17) fun σ19 =>
                          if x1 = 0 then
                            L_M_find_40 r0 k n (0 : Int32) (x2 + (-1)) σ19
                          else
                            if r6 = (4 : Int32) then
                              if ib x2 8 then
                                if (σ19 (r0 + 5) x2.toNatClampNeg) = (-9 : Int32) then
                                  L_M_find_40 r0 k n (1 : Int32) (x2 + (-1)) σ19
                                else
                                  if ib x2 8 then
                                    bd (f_M_sensor0 r0 x2 (1 : Int32) σ19) fun r20 σ21 =>
                                    if (σ19 (r0 + 5) x2.toNatClampNeg) < r20 then L_M_find_40 r0 k n (0 : Int32) (x2 + (-1)) σ21 else L_M_find_40 r0 k n (1 : Int32) (x2 + (-1)) σ21
                                  else none
                              else none
                            else
                              L_M_find_40 r0 k n (1 : Int32) (x2 + (-1)) σ19
                        else none
                      else none
                    else none
                  else
                    bd (f_M_sensor0 r0 x2 (2 : Int32) σ16) fun r22 σ23 =>
                    if ib r22 8 then
                      if ib x2 8 then
                        bd (f_M_less (σ23 (r0 + 5) r22.toNatClampNeg) (σ23 (r0 + 5) x2.toNatClampNeg) σ23) fun r24 σ25 =>
                        if ib r22 8 then
                          lt (wr σ25 (r0 + 5) r22.toNatClampNeg r24) fun σ26 =>
                          if x1 = 0 then
                            L_M_find_40 r0 k n (0 : Int32) (x2 + (-1)) σ26
                          else
                            if r6 = (4 : Int32) then
                              if ib x2 8 then
                                if (σ26 (r0 + 5) x2.toNatClampNeg) = (-9 : Int32) then
                                  L_M_find_40 r0 k n (1 : Int32) (x2 + (-1)) σ26
                                else
                                  if ib x2 8 then
                                    bd (f_M_sensor0 r0 x2 (1 : Int32) σ26) fun r27 σ28 =>
                                    if (σ26 (r0 + 5) x2.toNatClampNeg) < r27 then L_M_find_40 r0 k n (0 : Int32) (x2 + (-1)) σ28 else L_M_find_40 r0 k n (1 : Int32) (x2 + (-1)) σ28
                                  else none
                              else none
                            else
                              L_M_find_40 r0 k n (1 : Int32) (x2 + (-1)) σ26
                        else none
                      else none
                    else none
                else none
              else none
            else none
        else none
def L_M_find_188 (r0 : Nat) (y1 : Int32) (k : Mem → Option (Int32 × Mem)) : Nat → Int32 → Mem → Option (Int32 × Mem)
  | 0, _, _ => none
  | n + 1, x2, σ =>
    if (σ (r0 + 1) 1) ≤ x2 then
      k σ
    else
      if ib x2 8 then
        if (σ (r0 + 5) x2.toNatClampNeg) = (-9 : Int32) then
          bd (f_M_source r0 x2 σ) fun r31 σ32 =>
          if ib x2 8 then
            lt (wr σ32 (r0 + 6) x2.toNatClampNeg (-9 : Int32)) fun σ33 =>
            L_M_find_188 r0 y1 k n (x2 + 1) σ33
          else none
        else
          bd (f_M_source r0 x2 σ) fun r34 σ35 =>
          if r34 = x2 then
            if ib x2 8 then
              bd (f_M_supported r0 x2 (σ35 (r0 + 5) x2.toNatClampNeg) σ35) fun r36 σ37 =>
              if ib x2 8 then
                lt (wr σ37 (r0 + 6) x2.toNatClampNeg r36) fun σ38 =>
                L_M_find_188 r0 y1 k n (x2 + 1) σ38
              else none
            else none
          else
            if ib r34 8 then
              if ib x2 8 then
                lt (wr σ35 (r0 + 6) x2.toNatClampNeg (σ35 (r0 + 6) r34.toNatClampNeg)) fun σ39 =>
                L_M_find_188 r0 y1 k n (x2 + 1) σ39
              else none
            else none
      else none
def f_M_find (q : Nat) (σ : Mem) : Option (Int32 × Mem) :=
  L_M_find_2 q (fun σ4 =>
    lt ((σ4 (q + 1) 1) - (1 : Int32)) fun v5 =>
    L_M_find_40 q (fun z29 σ30 =>
      L_M_find_188 q z29 (fun σ40 =>
        if z29 &&& 1 = z29 then some (z29, σ40) else none) FU (0 : Int32) σ30) FU (1 : Int32) v5 σ4) FU (0 : Int32) σ
set_option maxRecDepth 100000 in
set_option maxHeartbeats 4000000 in
theorem l_L_M_find_2 {X : CX} {p : Program} {l : Launch} {e : Env} {s : State} {m : MethodId} {args : Array Value} {below : List Frame} {meth : Method} {c : Code} (F : FR p s m args c prog_10_method_17_code 6 "SensorHubModel" X) (hlk : meth.locks = false) (hr : meth.sig.returnType = some .boolean) (r0 : Nat) (hr0 : ModelOK X r0) (k : Mem → Option (Int32 × Mem)) (hk : ∀  (σ : Mem), G X p l e (rmD 2) s m args below meth c 6 0 0 (QI X below args s vI) 29 [(0, .ref (xa X r0))] [] σ (k σ)) : ∀ (n : Nat) (x1 : Int32) (σ : Mem), G X p l e (rmD 2) s m args below meth c 6 0 0 (QI X below args s vI) 2 [(0, .ref (xa X r0)), (1, .int x1)] [] σ (L_M_find_2 r0 k n x1 σ) := by
  intro n
  induction n with
  | zero => intros; exact g_no
  | succ n ih =>
    intro x1 σ
    unfold L_M_find_2
    refine g_iload_n F d_M_find_2 1 rfl ?_
    refine g_aload_n F d_M_find_3 0 rfl ?_
    refine g_getR F fs_8_7 hr0.1 rfl d_M_find_4 ?_
    refine g_iconst F (v := 1) d_M_find_7 (by decide) ?_
    refine g_ialdC F (n := 481) 1 (by decide) (by decide) hr0.2.1 d_M_find_8 ?_
    refine g_icmp_ge F (tgt := 29) d_M_find_9 (by decide) (fun h1 => ?_) (fun h2 => ?_)
    · exact g_sub [0] rfl (hk  _)
    refine g_aload_n F d_M_find_12 0 rfl ?_
    refine g_getR F fs_8_22 hr0.1 rfl d_M_find_13 ?_
    refine g_iload_n F d_M_find_16 1 rfl ?_
    refine g_aload_n F d_M_find_17 0 rfl ?_
    refine g_iload_n F d_M_find_18 1 rfl ?_
    refine g_callV F (dp := 1) (ci := 8) (As := [.int x1]) (c_M_asked l _ _ hr0 _) cv_8_63 hr0.1 rfl rfl rfl (Nat.le_of_ble_eq_true rfl) ⟨Nat.le_of_ble_eq_true rfl, Nat.le_of_ble_eq_true rfl⟩ ⟨Nat.zero_le _, Nat.zero_le _⟩ d_M_find_19 (fun r1 σ2 h3 => ?_)
    refine g_iast F (n := 8) hr0.2.2.2.2.2.1 d_M_find_22 ?_
    refine g_ltM (fun σ3 _ => ?_)
    refine g_iinc F (v := 1) (ls' := [(1, .int (x1 + 1)), (0, .ref (xa X r0))]) d_M_find_23 1 rfl (by decide) (by decide) rfl ?_
    refine g_goto F (tgt := 2) d_M_find_26 (by decide) ?_
    exact g_sub [1, 0] rfl (ih _ _)
set_option maxRecDepth 100000 in
set_option maxHeartbeats 4000000 in
theorem l_L_M_find_40 {X : CX} {p : Program} {l : Launch} {e : Env} {s : State} {m : MethodId} {args : Array Value} {below : List Frame} {meth : Method} {c : Code} (F : FR p s m args c prog_10_method_17_code 6 "SensorHubModel" X) (hlk : meth.locks = false) (hr : meth.sig.returnType = some .boolean) (r0 : Nat) (hr0 : ModelOK X r0) (k : Int32 → Mem → Option (Int32 × Mem)) (hk : ∀ (x1 : Int32) (σ : Mem), G X p l e (rmD 2) s m args below meth c 6 0 0 (QI X below args s vI) 186 [(0, .ref (xa X r0)), (1, .int x1)] [] σ (k x1 σ)) : ∀ (n : Nat) (x1 : Int32) (x2 : Int32) (σ : Mem), G X p l e (rmD 2) s m args below meth c 6 0 0 (QI X below args s vI) 40 [(0, .ref (xa X r0)), (1, .int x1), (2, .int x2)] [] σ (L_M_find_40 r0 k n x1 x2 σ) := by
  intro n
  induction n with
  | zero => intros; exact g_no
  | succ n ih =>
    intro x1 x2 σ
    unfold L_M_find_40
    refine g_iload_n F d_M_find_40 2 rfl ?_
    refine g_if_lt F (tgt := 186) d_M_find_41 (by decide) (fun h4 => ?_) (fun h5 => ?_)
    · exact g_sub [0, 1] rfl (hk _ _)
    refine g_aload_n F d_M_find_44 0 rfl ?_
    refine g_iload_n F d_M_find_45 2 rfl ?_
    refine g_iconst F (v := 0) d_M_find_46 (by decide) ?_
    refine g_callV F (dp := 0) (ci := 8) (As := [.int x2, .int (0 : Int32)]) (c_M_sensor0 l _ _ _ hr0 _) cv_8_54 hr0.1 rfl rfl rfl (Nat.le_of_ble_eq_true rfl) ⟨Nat.le_of_ble_eq_true rfl, Nat.le_of_ble_eq_true rfl⟩ ⟨Nat.zero_le _, Nat.zero_le _⟩ d_M_find_47 (fun r6 σ7 h6 => ?_)
    refine g_istore_n F (ls' := [(3, .int r6), (0, .ref (xa X r0)), (1, .int x1), (2, .int x2)]) d_M_find_50 (by decide) rfl ?_
    refine g_iload_n F d_M_find_51 0 rfl ?_
    refine g_iconst F (v := 4) d_M_find_52 (by decide) ?_
    refine g_icmp_eq F (tgt := 139) d_M_find_53 (by decide) (fun h7 => ?_) (fun h8 => ?_)
    · refine g_iload_n F d_M_find_139 2 rfl ?_
      refine g_if_eq F (tgt := 178) d_M_find_140 (by decide) (fun h9 => ?_) (fun h10 => ?_)
      · refine g_iconst F (v := 0) d_M_find_178 (by decide) ?_
        refine g_istore_n F (ls' := [(1, .int (0 : Int32)), (3, .int r6), (0, .ref (xa X r0)), (2, .int x2)]) d_M_find_179 (by decide) rfl ?_
        refine g_iinc F (v := (-1)) (ls' := [(2, .int (x2 + (-1))), (1, .int (0 : Int32)), (3, .int r6), (0, .ref (xa X r0))]) d_M_find_180 3 rfl (by decide) (by decide) rfl ?_
        refine g_goto F (tgt := 40) d_M_find_183 (by decide) ?_
        exact g_sub [3, 1, 0] rfl (ih _ _ _)
      refine g_iload_n F d_M_find_143 0 rfl ?_
      refine g_iconst F (v := 4) d_M_find_144 (by decide) ?_
      refine g_icmp_ne F (tgt := 174) d_M_find_145 (by decide) (fun h11 => ?_) (fun h12 => ?_)
      · refine g_aload_n F d_M_find_148 1 rfl ?_
        refine g_getR F fs_8_22 hr0.1 rfl d_M_find_149 ?_
        refine g_iload_n F d_M_find_152 3 rfl ?_
        refine g_iald F (n := 8) hr0.2.2.2.2.2.1 d_M_find_153 ?_
        refine g_bipush F (v := (-9)) d_M_find_154 (by decide) ?_
        refine g_icmp_eq F (tgt := 174) d_M_find_156 (by decide) (fun h13 => ?_) (fun h14 => ?_)
        · refine g_iconst F (v := 1) d_M_find_174 (by decide) ?_
          refine g_goto F (tgt := 179) d_M_find_175 (by decide) ?_
          refine g_istore_n F (ls' := [(1, .int (1 : Int32)), (3, .int r6), (0, .ref (xa X r0)), (2, .int x2)]) d_M_find_179 (by decide) rfl ?_
          refine g_iinc F (v := (-1)) (ls' := [(2, .int (x2 + (-1))), (1, .int (1 : Int32)), (3, .int r6), (0, .ref (xa X r0))]) d_M_find_180 3 rfl (by decide) (by decide) rfl ?_
          refine g_goto F (tgt := 40) d_M_find_183 (by decide) ?_
          exact g_sub [3, 1, 0] rfl (ih _ _ _)
        refine g_aload_n F d_M_find_159 1 rfl ?_
        refine g_getR F fs_8_22 hr0.1 rfl d_M_find_160 ?_
        refine g_iload_n F d_M_find_163 3 rfl ?_
        refine g_iald F (n := 8) hr0.2.2.2.2.2.1 d_M_find_164 ?_
        refine g_aload_n F d_M_find_165 1 rfl ?_
        refine g_iload_n F d_M_find_166 3 rfl ?_
        refine g_iconst F (v := 1) d_M_find_167 (by decide) ?_
        refine g_callV F (dp := 0) (ci := 8) (As := [.int x2, .int (1 : Int32)]) (c_M_sensor0 l _ _ _ hr0 _) cv_8_54 hr0.1 rfl rfl rfl (Nat.le_of_ble_eq_true rfl) ⟨Nat.le_of_ble_eq_true rfl, Nat.le_of_ble_eq_true rfl⟩ ⟨Nat.zero_le _, Nat.zero_le _⟩ d_M_find_168 (fun r8 σ9 h15 => ?_)
        refine g_icmp_lt F (tgt := 178) d_M_find_171 (by decide) (fun h16 => ?_) (fun h17 => ?_)
        · refine g_iconst F (v := 0) d_M_find_178 (by decide) ?_
          refine g_istore_n F (ls' := [(1, .int (0 : Int32)), (3, .int r6), (0, .ref (xa X r0)), (2, .int x2)]) d_M_find_179 (by decide) rfl ?_
          refine g_iinc F (v := (-1)) (ls' := [(2, .int (x2 + (-1))), (1, .int (0 : Int32)), (3, .int r6), (0, .ref (xa X r0))]) d_M_find_180 3 rfl (by decide) (by decide) rfl ?_
          refine g_goto F (tgt := 40) d_M_find_183 (by decide) ?_
          exact g_sub [3, 1, 0] rfl (ih _ _ _)
        refine g_iconst F (v := 1) d_M_find_174 (by decide) ?_
        refine g_goto F (tgt := 179) d_M_find_175 (by decide) ?_
        refine g_istore_n F (ls' := [(1, .int (1 : Int32)), (3, .int r6), (0, .ref (xa X r0)), (2, .int x2)]) d_M_find_179 (by decide) rfl ?_
        refine g_iinc F (v := (-1)) (ls' := [(2, .int (x2 + (-1))), (1, .int (1 : Int32)), (3, .int r6), (0, .ref (xa X r0))]) d_M_find_180 3 rfl (by decide) (by decide) rfl ?_
        refine g_goto F (tgt := 40) d_M_find_183 (by decide) ?_
        exact g_sub [3, 1, 0] rfl (ih _ _ _)
      refine g_iconst F (v := 1) d_M_find_174 (by decide) ?_
      refine g_goto F (tgt := 179) d_M_find_175 (by decide) ?_
      refine g_istore_n F (ls' := [(1, .int (1 : Int32)), (3, .int r6), (0, .ref (xa X r0)), (2, .int x2)]) d_M_find_179 (by decide) rfl ?_
      refine g_iinc F (v := (-1)) (ls' := [(2, .int (x2 + (-1))), (1, .int (1 : Int32)), (3, .int r6), (0, .ref (xa X r0))]) d_M_find_180 3 rfl (by decide) (by decide) rfl ?_
      refine g_goto F (tgt := 40) d_M_find_183 (by decide) ?_
      exact g_sub [3, 1, 0] rfl (ih _ _ _)
    refine g_aload_n F d_M_find_56 1 rfl ?_
    refine g_getR F fs_8_22 hr0.1 rfl d_M_find_57 ?_
    refine g_iload_n F d_M_find_60 3 rfl ?_
    refine g_iald F (n := 8) hr0.2.2.2.2.2.1 d_M_find_61 ?_
    refine g_bipush F (v := (-9)) d_M_find_62 (by decide) ?_
    refine g_icmp_eq F (tgt := 139) d_M_find_64 (by decide) (fun h18 => ?_) (fun h19 => ?_)
    · refine g_iload_n F d_M_find_139 2 rfl ?_
      refine g_if_eq F (tgt := 178) d_M_find_140 (by decide) (fun h20 => ?_) (fun h21 => ?_)
      · refine g_iconst F (v := 0) d_M_find_178 (by decide) ?_
        refine g_istore_n F (ls' := [(1, .int (0 : Int32)), (3, .int r6), (0, .ref (xa X r0)), (2, .int x2)]) d_M_find_179 (by decide) rfl ?_
        refine g_iinc F (v := (-1)) (ls' := [(2, .int (x2 + (-1))), (1, .int (0 : Int32)), (3, .int r6), (0, .ref (xa X r0))]) d_M_find_180 3 rfl (by decide) (by decide) rfl ?_
        refine g_goto F (tgt := 40) d_M_find_183 (by decide) ?_
        exact g_sub [3, 1, 0] rfl (ih _ _ _)
      refine g_iload_n F d_M_find_143 0 rfl ?_
      refine g_iconst F (v := 4) d_M_find_144 (by decide) ?_
      refine g_icmp_ne F (tgt := 174) d_M_find_145 (by decide) (fun h22 => ?_) (fun h23 => ?_)
      · refine g_aload_n F d_M_find_148 1 rfl ?_
        refine g_getR F fs_8_22 hr0.1 rfl d_M_find_149 ?_
        refine g_iload_n F d_M_find_152 3 rfl ?_
        refine g_iald F (n := 8) hr0.2.2.2.2.2.1 d_M_find_153 ?_
        refine g_bipush F (v := (-9)) d_M_find_154 (by decide) ?_
        refine g_icmp_eq F (tgt := 174) d_M_find_156 (by decide) (fun h24 => ?_) (fun h25 => ?_)
        · refine g_iconst F (v := 1) d_M_find_174 (by decide) ?_
          refine g_goto F (tgt := 179) d_M_find_175 (by decide) ?_
          refine g_istore_n F (ls' := [(1, .int (1 : Int32)), (3, .int r6), (0, .ref (xa X r0)), (2, .int x2)]) d_M_find_179 (by decide) rfl ?_
          refine g_iinc F (v := (-1)) (ls' := [(2, .int (x2 + (-1))), (1, .int (1 : Int32)), (3, .int r6), (0, .ref (xa X r0))]) d_M_find_180 3 rfl (by decide) (by decide) rfl ?_
          refine g_goto F (tgt := 40) d_M_find_183 (by decide) ?_
          exact g_sub [3, 1, 0] rfl (ih _ _ _)
        refine g_aload_n F d_M_find_159 1 rfl ?_
        refine g_getR F fs_8_22 hr0.1 rfl d_M_find_160 ?_
        refine g_iload_n F d_M_find_163 3 rfl ?_
        refine g_iald F (n := 8) hr0.2.2.2.2.2.1 d_M_find_164 ?_
        refine g_aload_n F d_M_find_165 1 rfl ?_
        refine g_iload_n F d_M_find_166 3 rfl ?_
        refine g_iconst F (v := 1) d_M_find_167 (by decide) ?_
        refine g_callV F (dp := 0) (ci := 8) (As := [.int x2, .int (1 : Int32)]) (c_M_sensor0 l _ _ _ hr0 _) cv_8_54 hr0.1 rfl rfl rfl (Nat.le_of_ble_eq_true rfl) ⟨Nat.le_of_ble_eq_true rfl, Nat.le_of_ble_eq_true rfl⟩ ⟨Nat.zero_le _, Nat.zero_le _⟩ d_M_find_168 (fun r10 σ11 h26 => ?_)
        refine g_icmp_lt F (tgt := 178) d_M_find_171 (by decide) (fun h27 => ?_) (fun h28 => ?_)
        · refine g_iconst F (v := 0) d_M_find_178 (by decide) ?_
          refine g_istore_n F (ls' := [(1, .int (0 : Int32)), (3, .int r6), (0, .ref (xa X r0)), (2, .int x2)]) d_M_find_179 (by decide) rfl ?_
          refine g_iinc F (v := (-1)) (ls' := [(2, .int (x2 + (-1))), (1, .int (0 : Int32)), (3, .int r6), (0, .ref (xa X r0))]) d_M_find_180 3 rfl (by decide) (by decide) rfl ?_
          refine g_goto F (tgt := 40) d_M_find_183 (by decide) ?_
          exact g_sub [3, 1, 0] rfl (ih _ _ _)
        refine g_iconst F (v := 1) d_M_find_174 (by decide) ?_
        refine g_goto F (tgt := 179) d_M_find_175 (by decide) ?_
        refine g_istore_n F (ls' := [(1, .int (1 : Int32)), (3, .int r6), (0, .ref (xa X r0)), (2, .int x2)]) d_M_find_179 (by decide) rfl ?_
        refine g_iinc F (v := (-1)) (ls' := [(2, .int (x2 + (-1))), (1, .int (1 : Int32)), (3, .int r6), (0, .ref (xa X r0))]) d_M_find_180 3 rfl (by decide) (by decide) rfl ?_
        refine g_goto F (tgt := 40) d_M_find_183 (by decide) ?_
        exact g_sub [3, 1, 0] rfl (ih _ _ _)
      refine g_iconst F (v := 1) d_M_find_174 (by decide) ?_
      refine g_goto F (tgt := 179) d_M_find_175 (by decide) ?_
      refine g_istore_n F (ls' := [(1, .int (1 : Int32)), (3, .int r6), (0, .ref (xa X r0)), (2, .int x2)]) d_M_find_179 (by decide) rfl ?_
      refine g_iinc F (v := (-1)) (ls' := [(2, .int (x2 + (-1))), (1, .int (1 : Int32)), (3, .int r6), (0, .ref (xa X r0))]) d_M_find_180 3 rfl (by decide) (by decide) rfl ?_
      refine g_goto F (tgt := 40) d_M_find_183 (by decide) ?_
      exact g_sub [3, 1, 0] rfl (ih _ _ _)
    refine g_aload_n F d_M_find_67 1 rfl ?_
    refine g_iload_n F d_M_find_68 3 rfl ?_
    refine g_iconst F (v := 1) d_M_find_69 (by decide) ?_
    refine g_callV F (dp := 0) (ci := 8) (As := [.int x2, .int (1 : Int32)]) (c_M_sensor0 l _ _ _ hr0 _) cv_8_54 hr0.1 rfl rfl rfl (Nat.le_of_ble_eq_true rfl) ⟨Nat.le_of_ble_eq_true rfl, Nat.le_of_ble_eq_true rfl⟩ ⟨Nat.zero_le _, Nat.zero_le _⟩ d_M_find_70 (fun r12 σ13 h29 => ?_)
    refine g_istore F (ls' := [(4, .int r12), (3, .int r6), (0, .ref (xa X r0)), (1, .int x1), (2, .int x2)]) d_M_find_73 (by decide) rfl ?_
    refine g_aload_n F d_M_find_75 2 rfl ?_
    refine g_getR F fs_8_22 hr0.1 rfl d_M_find_76 ?_
    refine g_iload F d_M_find_79 0 rfl ?_
    refine g_aload_n F d_M_find_81 2 rfl ?_
    refine g_getR F fs_8_22 hr0.1 rfl d_M_find_82 ?_
    refine g_iload F d_M_find_85 0 rfl ?_
    refine g_iald F (n := 8) hr0.2.2.2.2.2.1 d_M_find_87 ?_
    refine g_aload_n F d_M_find_88 2 rfl ?_
    refine g_getR F fs_8_22 hr0.1 rfl d_M_find_89 ?_
    refine g_iload_n F d_M_find_92 4 rfl ?_
    refine g_iald F (n := 8) hr0.2.2.2.2.2.1 d_M_find_93 ?_
    refine g_callS F (dp := 0) (As := [.int (σ13 (r0 + 5) r12.toNatClampNeg), .int (σ13 (r0 + 5) x2.toNatClampNeg)]) (c_M_less l _ _ _) cs_8_60 rfl rfl (Nat.le_of_ble_eq_true rfl) ⟨Nat.le_of_ble_eq_true rfl, Nat.le_of_ble_eq_true rfl⟩ ⟨Nat.zero_le _, Nat.zero_le _⟩ d_M_find_94 (fun r14 σ15 h30 => ?_)
    refine g_iast F (n := 8) hr0.2.2.2.2.2.1 d_M_find_97 ?_
    refine g_ltM (fun σ16 _ => ?_)
    refine g_iload_n F d_M_find_98 1 rfl ?_
    refine g_iconst F (v := 3) d_M_find_99 (by decide) ?_
    refine g_icmp_ne F (tgt := 108) d_M_find_100 (by decide) (fun h31 => ?_) (fun h32 => ?_)
    · refine g_iload F d_M_find_103 0 rfl ?_
      refine g_goto F (tgt := 114) d_M_find_105 (by decide) ?_
      refine g_istore F (ls' := [(5, .int r12), (4, .int r12), (3, .int r6), (0, .ref (xa X r0)), (1, .int x1), (2, .int x2)]) d_M_find_114 (by decide) rfl ?_
      refine g_aload_n F d_M_find_116 3 rfl ?_
      refine g_getR F fs_8_22 hr0.1 rfl d_M_find_117 ?_
      refine g_iload F d_M_find_120 0 rfl ?_
      refine g_aload_n F d_M_find_122 3 rfl ?_
      refine g_getR F fs_8_22 hr0.1 rfl d_M_find_123 ?_
      refine g_iload F d_M_find_126 0 rfl ?_
      refine g_iald F (n := 8) hr0.2.2.2.2.2.1 d_M_find_128 ?_
      refine g_aload_n F d_M_find_129 3 rfl ?_
      refine g_getR F fs_8_22 hr0.1 rfl d_M_find_130 ?_
      refine g_iload_n F d_M_find_133 5 rfl ?_
      refine g_iald F (n := 8) hr0.2.2.2.2.2.1 d_M_find_134 ?_
      refine g_callS F (dp := 0) (As := [.int (σ16 (r0 + 5) r12.toNatClampNeg), .int (σ16 (r0 + 5) x2.toNatClampNeg)]) (c_M_less l _ _ _) cs_8_60 rfl rfl (Nat.le_of_ble_eq_true rfl) ⟨Nat.le_of_ble_eq_true rfl, Nat.le_of_ble_eq_true rfl⟩ ⟨Nat.zero_le _, Nat.zero_le _⟩ d_M_find_135 (fun r17 σ18 h33 => ?_)
      refine g_iast F (n := 8) hr0.2.2.2.2.2.1 d_M_find_138 ?_
      refine g_ltM (fun σ19 _ => ?_)
      refine g_iload_n F d_M_find_139 4 rfl ?_
      refine g_if_eq F (tgt := 178) d_M_find_140 (by decide) (fun h34 => ?_) (fun h35 => ?_)
      · refine g_iconst F (v := 0) d_M_find_178 (by decide) ?_
        refine g_istore_n F (ls' := [(1, .int (0 : Int32)), (5, .int r12), (4, .int r12), (3, .int r6), (0, .ref (xa X r0)), (2, .int x2)]) d_M_find_179 (by decide) rfl ?_
        refine g_iinc F (v := (-1)) (ls' := [(2, .int (x2 + (-1))), (1, .int (0 : Int32)), (5, .int r12), (4, .int r12), (3, .int r6), (0, .ref (xa X r0))]) d_M_find_180 5 rfl (by decide) (by decide) rfl ?_
        refine g_goto F (tgt := 40) d_M_find_183 (by decide) ?_
        exact g_sub [5, 1, 0] rfl (ih _ _ _)
      refine g_iload_n F d_M_find_143 2 rfl ?_
      refine g_iconst F (v := 4) d_M_find_144 (by decide) ?_
      refine g_icmp_ne F (tgt := 174) d_M_find_145 (by decide) (fun h36 => ?_) (fun h37 => ?_)
      · refine g_aload_n F d_M_find_148 3 rfl ?_
        refine g_getR F fs_8_22 hr0.1 rfl d_M_find_149 ?_
        refine g_iload_n F d_M_find_152 5 rfl ?_
        refine g_iald F (n := 8) hr0.2.2.2.2.2.1 d_M_find_153 ?_
        refine g_bipush F (v := (-9)) d_M_find_154 (by decide) ?_
        refine g_icmp_eq F (tgt := 174) d_M_find_156 (by decide) (fun h38 => ?_) (fun h39 => ?_)
        · refine g_iconst F (v := 1) d_M_find_174 (by decide) ?_
          refine g_goto F (tgt := 179) d_M_find_175 (by decide) ?_
          refine g_istore_n F (ls' := [(1, .int (1 : Int32)), (5, .int r12), (4, .int r12), (3, .int r6), (0, .ref (xa X r0)), (2, .int x2)]) d_M_find_179 (by decide) rfl ?_
          refine g_iinc F (v := (-1)) (ls' := [(2, .int (x2 + (-1))), (1, .int (1 : Int32)), (5, .int r12), (4, .int r12), (3, .int r6), (0, .ref (xa X r0))]) d_M_find_180 5 rfl (by decide) (by decide) rfl ?_
          refine g_goto F (tgt := 40) d_M_find_183 (by decide) ?_
          exact g_sub [5, 1, 0] rfl (ih _ _ _)
        refine g_aload_n F d_M_find_159 3 rfl ?_
        refine g_getR F fs_8_22 hr0.1 rfl d_M_find_160 ?_
        refine g_iload_n F d_M_find_163 5 rfl ?_
        refine g_iald F (n := 8) hr0.2.2.2.2.2.1 d_M_find_164 ?_
        refine g_aload_n F d_M_find_165 3 rfl ?_
        refine g_iload_n F d_M_find_166 5 rfl ?_
        refine g_iconst F (v := 1) d_M_find_167 (by decide) ?_
        refine g_callV F (dp := 0) (ci := 8) (As := [.int x2, .int (1 : Int32)]) (c_M_sensor0 l _ _ _ hr0 _) cv_8_54 hr0.1 rfl rfl rfl (Nat.le_of_ble_eq_true rfl) ⟨Nat.le_of_ble_eq_true rfl, Nat.le_of_ble_eq_true rfl⟩ ⟨Nat.zero_le _, Nat.zero_le _⟩ d_M_find_168 (fun r20 σ21 h40 => ?_)
        refine g_icmp_lt F (tgt := 178) d_M_find_171 (by decide) (fun h41 => ?_) (fun h42 => ?_)
        · refine g_iconst F (v := 0) d_M_find_178 (by decide) ?_
          refine g_istore_n F (ls' := [(1, .int (0 : Int32)), (5, .int r12), (4, .int r12), (3, .int r6), (0, .ref (xa X r0)), (2, .int x2)]) d_M_find_179 (by decide) rfl ?_
          refine g_iinc F (v := (-1)) (ls' := [(2, .int (x2 + (-1))), (1, .int (0 : Int32)), (5, .int r12), (4, .int r12), (3, .int r6), (0, .ref (xa X r0))]) d_M_find_180 5 rfl (by decide) (by decide) rfl ?_
          refine g_goto F (tgt := 40) d_M_find_183 (by decide) ?_
          exact g_sub [5, 1, 0] rfl (ih _ _ _)
        refine g_iconst F (v := 1) d_M_find_174 (by decide) ?_
        refine g_goto F (tgt := 179) d_M_find_175 (by decide) ?_
        refine g_istore_n F (ls' := [(1, .int (1 : Int32)), (5, .int r12), (4, .int r12), (3, .int r6), (0, .ref (xa X r0)), (2, .int x2)]) d_M_find_179 (by decide) rfl ?_
        refine g_iinc F (v := (-1)) (ls' := [(2, .int (x2 + (-1))), (1, .int (1 : Int32)), (5, .int r12), (4, .int r12), (3, .int r6), (0, .ref (xa X r0))]) d_M_find_180 5 rfl (by decide) (by decide) rfl ?_
        refine g_goto F (tgt := 40) d_M_find_183 (by decide) ?_
        exact g_sub [5, 1, 0] rfl (ih _ _ _)
      refine g_iconst F (v := 1) d_M_find_174 (by decide) ?_
      refine g_goto F (tgt := 179) d_M_find_175 (by decide) ?_
      refine g_istore_n F (ls' := [(1, .int (1 : Int32)), (5, .int r12), (4, .int r12), (3, .int r6), (0, .ref (xa X r0)), (2, .int x2)]) d_M_find_179 (by decide) rfl ?_
      refine g_iinc F (v := (-1)) (ls' := [(2, .int (x2 + (-1))), (1, .int (1 : Int32)), (5, .int r12), (4, .int r12), (3, .int r6), (0, .ref (xa X r0))]) d_M_find_180 5 rfl (by decide) (by decide) rfl ?_
      refine g_goto F (tgt := 40) d_M_find_183 (by decide) ?_
      exact g_sub [5, 1, 0] rfl (ih _ _ _)
    refine g_aload_n F d_M_find_108 2 rfl ?_
    refine g_iload_n F d_M_find_109 4 rfl ?_
    refine g_iconst F (v := 2) d_M_find_110 (by decide) ?_
    refine g_callV F (dp := 0) (ci := 8) (As := [.int x2, .int (2 : Int32)]) (c_M_sensor0 l _ _ _ hr0 _) cv_8_54 hr0.1 rfl rfl rfl (Nat.le_of_ble_eq_true rfl) ⟨Nat.le_of_ble_eq_true rfl, Nat.le_of_ble_eq_true rfl⟩ ⟨Nat.zero_le _, Nat.zero_le _⟩ d_M_find_111 (fun r22 σ23 h43 => ?_)
    refine g_istore F (ls' := [(5, .int r22), (4, .int r12), (3, .int r6), (0, .ref (xa X r0)), (1, .int x1), (2, .int x2)]) d_M_find_114 (by decide) rfl ?_
    refine g_aload_n F d_M_find_116 3 rfl ?_
    refine g_getR F fs_8_22 hr0.1 rfl d_M_find_117 ?_
    refine g_iload F d_M_find_120 0 rfl ?_
    refine g_aload_n F d_M_find_122 3 rfl ?_
    refine g_getR F fs_8_22 hr0.1 rfl d_M_find_123 ?_
    refine g_iload F d_M_find_126 0 rfl ?_
    refine g_iald F (n := 8) hr0.2.2.2.2.2.1 d_M_find_128 ?_
    refine g_aload_n F d_M_find_129 3 rfl ?_
    refine g_getR F fs_8_22 hr0.1 rfl d_M_find_130 ?_
    refine g_iload_n F d_M_find_133 5 rfl ?_
    refine g_iald F (n := 8) hr0.2.2.2.2.2.1 d_M_find_134 ?_
    refine g_callS F (dp := 0) (As := [.int (σ23 (r0 + 5) r22.toNatClampNeg), .int (σ23 (r0 + 5) x2.toNatClampNeg)]) (c_M_less l _ _ _) cs_8_60 rfl rfl (Nat.le_of_ble_eq_true rfl) ⟨Nat.le_of_ble_eq_true rfl, Nat.le_of_ble_eq_true rfl⟩ ⟨Nat.zero_le _, Nat.zero_le _⟩ d_M_find_135 (fun r24 σ25 h44 => ?_)
    refine g_iast F (n := 8) hr0.2.2.2.2.2.1 d_M_find_138 ?_
    refine g_ltM (fun σ26 _ => ?_)
    refine g_iload_n F d_M_find_139 4 rfl ?_
    refine g_if_eq F (tgt := 178) d_M_find_140 (by decide) (fun h45 => ?_) (fun h46 => ?_)
    · refine g_iconst F (v := 0) d_M_find_178 (by decide) ?_
      refine g_istore_n F (ls' := [(1, .int (0 : Int32)), (5, .int r22), (4, .int r12), (3, .int r6), (0, .ref (xa X r0)), (2, .int x2)]) d_M_find_179 (by decide) rfl ?_
      refine g_iinc F (v := (-1)) (ls' := [(2, .int (x2 + (-1))), (1, .int (0 : Int32)), (5, .int r22), (4, .int r12), (3, .int r6), (0, .ref (xa X r0))]) d_M_find_180 5 rfl (by decide) (by decide) rfl ?_
      refine g_goto F (tgt := 40) d_M_find_183 (by decide) ?_
      exact g_sub [5, 1, 0] rfl (ih _ _ _)
    refine g_iload_n F d_M_find_143 2 rfl ?_
    refine g_iconst F (v := 4) d_M_find_144 (by decide) ?_
    refine g_icmp_ne F (tgt := 174) d_M_find_145 (by decide) (fun h47 => ?_) (fun h48 => ?_)
    · refine g_aload_n F d_M_find_148 3 rfl ?_
      refine g_getR F fs_8_22 hr0.1 rfl d_M_find_149 ?_
      refine g_iload_n F d_M_find_152 5 rfl ?_
      refine g_iald F (n := 8) hr0.2.2.2.2.2.1 d_M_find_153 ?_
      refine g_bipush F (v := (-9)) d_M_find_154 (by decide) ?_
      refine g_icmp_eq F (tgt := 174) d_M_find_156 (by decide) (fun h49 => ?_) (fun h50 => ?_)
      · refine g_iconst F (v := 1) d_M_find_174 (by decide) ?_
        refine g_goto F (tgt := 179) d_M_find_175 (by decide) ?_
        refine g_istore_n F (ls' := [(1, .int (1 : Int32)), (5, .int r22), (4, .int r12), (3, .int r6), (0, .ref (xa X r0)), (2, .int x2)]) d_M_find_179 (by decide) rfl ?_
        refine g_iinc F (v := (-1)) (ls' := [(2, .int (x2 + (-1))), (1, .int (1 : Int32)), (5, .int r22), (4, .int r12), (3, .int r6), (0, .ref (xa X r0))]) d_M_find_180 5 rfl (by decide) (by decide) rfl ?_
        refine g_goto F (tgt := 40) d_M_find_183 (by decide) ?_
        exact g_sub [5, 1, 0] rfl (ih _ _ _)
      refine g_aload_n F d_M_find_159 3 rfl ?_
      refine g_getR F fs_8_22 hr0.1 rfl d_M_find_160 ?_
      refine g_iload_n F d_M_find_163 5 rfl ?_
      refine g_iald F (n := 8) hr0.2.2.2.2.2.1 d_M_find_164 ?_
      refine g_aload_n F d_M_find_165 3 rfl ?_
      refine g_iload_n F d_M_find_166 5 rfl ?_
      refine g_iconst F (v := 1) d_M_find_167 (by decide) ?_
      refine g_callV F (dp := 0) (ci := 8) (As := [.int x2, .int (1 : Int32)]) (c_M_sensor0 l _ _ _ hr0 _) cv_8_54 hr0.1 rfl rfl rfl (Nat.le_of_ble_eq_true rfl) ⟨Nat.le_of_ble_eq_true rfl, Nat.le_of_ble_eq_true rfl⟩ ⟨Nat.zero_le _, Nat.zero_le _⟩ d_M_find_168 (fun r27 σ28 h51 => ?_)
      refine g_icmp_lt F (tgt := 178) d_M_find_171 (by decide) (fun h52 => ?_) (fun h53 => ?_)
      · refine g_iconst F (v := 0) d_M_find_178 (by decide) ?_
        refine g_istore_n F (ls' := [(1, .int (0 : Int32)), (5, .int r22), (4, .int r12), (3, .int r6), (0, .ref (xa X r0)), (2, .int x2)]) d_M_find_179 (by decide) rfl ?_
        refine g_iinc F (v := (-1)) (ls' := [(2, .int (x2 + (-1))), (1, .int (0 : Int32)), (5, .int r22), (4, .int r12), (3, .int r6), (0, .ref (xa X r0))]) d_M_find_180 5 rfl (by decide) (by decide) rfl ?_
        refine g_goto F (tgt := 40) d_M_find_183 (by decide) ?_
        exact g_sub [5, 1, 0] rfl (ih _ _ _)
      refine g_iconst F (v := 1) d_M_find_174 (by decide) ?_
      refine g_goto F (tgt := 179) d_M_find_175 (by decide) ?_
      refine g_istore_n F (ls' := [(1, .int (1 : Int32)), (5, .int r22), (4, .int r12), (3, .int r6), (0, .ref (xa X r0)), (2, .int x2)]) d_M_find_179 (by decide) rfl ?_
      refine g_iinc F (v := (-1)) (ls' := [(2, .int (x2 + (-1))), (1, .int (1 : Int32)), (5, .int r22), (4, .int r12), (3, .int r6), (0, .ref (xa X r0))]) d_M_find_180 5 rfl (by decide) (by decide) rfl ?_
      refine g_goto F (tgt := 40) d_M_find_183 (by decide) ?_
      exact g_sub [5, 1, 0] rfl (ih _ _ _)
    refine g_iconst F (v := 1) d_M_find_174 (by decide) ?_
    refine g_goto F (tgt := 179) d_M_find_175 (by decide) ?_
    refine g_istore_n F (ls' := [(1, .int (1 : Int32)), (5, .int r22), (4, .int r12), (3, .int r6), (0, .ref (xa X r0)), (2, .int x2)]) d_M_find_179 (by decide) rfl ?_
    refine g_iinc F (v := (-1)) (ls' := [(2, .int (x2 + (-1))), (1, .int (1 : Int32)), (5, .int r22), (4, .int r12), (3, .int r6), (0, .ref (xa X r0))]) d_M_find_180 5 rfl (by decide) (by decide) rfl ?_
    refine g_goto F (tgt := 40) d_M_find_183 (by decide) ?_
    exact g_sub [5, 1, 0] rfl (ih _ _ _)
set_option maxRecDepth 100000 in
set_option maxHeartbeats 4000000 in
theorem l_L_M_find_188 {X : CX} {p : Program} {l : Launch} {e : Env} {s : State} {m : MethodId} {args : Array Value} {below : List Frame} {meth : Method} {c : Code} (F : FR p s m args c prog_10_method_17_code 6 "SensorHubModel" X) (hlk : meth.locks = false) (hr : meth.sig.returnType = some .boolean) (r0 : Nat) (y1 : Int32) (hr0 : ModelOK X r0) (k : Mem → Option (Int32 × Mem)) (hk : ∀  (σ : Mem), G X p l e (rmD 2) s m args below meth c 6 0 0 (QI X below args s vI) 270 [(1, .int y1)] [] σ (k σ)) : ∀ (n : Nat) (x2 : Int32) (σ : Mem), G X p l e (rmD 2) s m args below meth c 6 0 0 (QI X below args s vI) 188 [(0, .ref (xa X r0)), (1, .int y1), (2, .int x2)] [] σ (L_M_find_188 r0 y1 k n x2 σ) := by
  intro n
  induction n with
  | zero => intros; exact g_no
  | succ n ih =>
    intro x2 σ
    unfold L_M_find_188
    refine g_iload_n F d_M_find_188 2 rfl ?_
    refine g_aload_n F d_M_find_189 0 rfl ?_
    refine g_getR F fs_8_7 hr0.1 rfl d_M_find_190 ?_
    refine g_iconst F (v := 1) d_M_find_193 (by decide) ?_
    refine g_ialdC F (n := 481) 1 (by decide) (by decide) hr0.2.1 d_M_find_194 ?_
    refine g_icmp_ge F (tgt := 270) d_M_find_195 (by decide) (fun h54 => ?_) (fun h55 => ?_)
    · exact g_sub [1] rfl (hk  _)
    refine g_aload_n F d_M_find_198 0 rfl ?_
    refine g_getR F fs_8_22 hr0.1 rfl d_M_find_199 ?_
    refine g_iload_n F d_M_find_202 2 rfl ?_
    refine g_iald F (n := 8) hr0.2.2.2.2.2.1 d_M_find_203 ?_
    refine g_bipush F (v := (-9)) d_M_find_204 (by decide) ?_
    refine g_icmp_eq F (tgt := 213) d_M_find_206 (by decide) (fun h56 => ?_) (fun h57 => ?_)
    · refine g_iconst F (v := 0) d_M_find_213 (by decide) ?_
      refine g_istore_n F (ls' := [(3, .int (0 : Int32)), (0, .ref (xa X r0)), (1, .int y1), (2, .int x2)]) d_M_find_214 (by decide) rfl ?_
      refine g_aload_n F d_M_find_215 1 rfl ?_
      refine g_iload_n F d_M_find_216 3 rfl ?_
      refine g_callV F (dp := 1) (ci := 8) (As := [.int x2]) (c_M_source l _ _ hr0 _) cv_8_67 hr0.1 rfl rfl rfl (Nat.le_of_ble_eq_true rfl) ⟨Nat.le_of_ble_eq_true rfl, Nat.le_of_ble_eq_true rfl⟩ ⟨Nat.zero_le _, Nat.zero_le _⟩ d_M_find_217 (fun r31 σ32 h58 => ?_)
      refine g_istore F (ls' := [(4, .int r31), (3, .int (0 : Int32)), (0, .ref (xa X r0)), (1, .int y1), (2, .int x2)]) d_M_find_220 (by decide) rfl ?_
      refine g_aload_n F d_M_find_222 2 rfl ?_
      refine g_getR F fs_8_25 hr0.1 rfl d_M_find_223 ?_
      refine g_iload_n F d_M_find_226 4 rfl ?_
      refine g_iload_n F d_M_find_227 1 rfl ?_
      refine g_pt (q := (0 : Int32) = 0) (by decide) (g_if_ne F (tgt := 236) d_M_find_228 (by decide) (fun _ => ?_) (fun _ => g_no))
      refine g_bipush F (v := (-9)) d_M_find_231 (by decide) ?_
      refine g_goto F (tgt := 263) d_M_find_233 (by decide) ?_
      refine g_iast F (n := 8) hr0.2.2.2.2.2.2.1 d_M_find_263 ?_
      refine g_ltM (fun σ33 _ => ?_)
      refine g_iinc F (v := 1) (ls' := [(2, .int (x2 + 1)), (4, .int r31), (3, .int (0 : Int32)), (0, .ref (xa X r0)), (1, .int y1)]) d_M_find_264 4 rfl (by decide) (by decide) rfl ?_
      refine g_goto F (tgt := 188) d_M_find_267 (by decide) ?_
      exact g_sub [3, 4, 0] rfl (ih _ _)
    refine g_iconst F (v := 1) d_M_find_209 (by decide) ?_
    refine g_goto F (tgt := 214) d_M_find_210 (by decide) ?_
    refine g_istore_n F (ls' := [(3, .int (1 : Int32)), (0, .ref (xa X r0)), (1, .int y1), (2, .int x2)]) d_M_find_214 (by decide) rfl ?_
    refine g_aload_n F d_M_find_215 1 rfl ?_
    refine g_iload_n F d_M_find_216 3 rfl ?_
    refine g_callV F (dp := 1) (ci := 8) (As := [.int x2]) (c_M_source l _ _ hr0 _) cv_8_67 hr0.1 rfl rfl rfl (Nat.le_of_ble_eq_true rfl) ⟨Nat.le_of_ble_eq_true rfl, Nat.le_of_ble_eq_true rfl⟩ ⟨Nat.zero_le _, Nat.zero_le _⟩ d_M_find_217 (fun r34 σ35 h59 => ?_)
    refine g_istore F (ls' := [(4, .int r34), (3, .int (1 : Int32)), (0, .ref (xa X r0)), (1, .int y1), (2, .int x2)]) d_M_find_220 (by decide) rfl ?_
    refine g_aload_n F d_M_find_222 2 rfl ?_
    refine g_getR F fs_8_25 hr0.1 rfl d_M_find_223 ?_
    refine g_iload_n F d_M_find_226 4 rfl ?_
    refine g_iload_n F d_M_find_227 1 rfl ?_
    refine g_pf (q := (1 : Int32) = 0) (by decide) (g_if_ne F (tgt := 236) d_M_find_228 (by decide) (fun _ => g_no) (fun _ => ?_))
    refine g_iload F d_M_find_236 0 rfl ?_
    refine g_iload_n F d_M_find_238 4 rfl ?_
    refine g_icmp_ne F (tgt := 256) d_M_find_239 (by decide) (fun h60 => ?_) (fun h61 => ?_)
    · refine g_aload_n F d_M_find_242 2 rfl ?_
      refine g_iload_n F d_M_find_243 4 rfl ?_
      refine g_aload_n F d_M_find_244 2 rfl ?_
      refine g_getR F fs_8_22 hr0.1 rfl d_M_find_245 ?_
      refine g_iload_n F d_M_find_248 4 rfl ?_
      refine g_iald F (n := 8) hr0.2.2.2.2.2.1 d_M_find_249 ?_
      refine g_callV F (dp := 1) (ci := 8) (As := [.int x2, .int (σ35 (r0 + 5) x2.toNatClampNeg)]) (c_M_supported l _ _ _ hr0 _) cv_8_70 hr0.1 rfl rfl rfl (Nat.le_of_ble_eq_true rfl) ⟨Nat.le_of_ble_eq_true rfl, Nat.le_of_ble_eq_true rfl⟩ ⟨Nat.zero_le _, Nat.zero_le _⟩ d_M_find_250 (fun r36 σ37 h62 => ?_)
      refine g_goto F (tgt := 263) d_M_find_253 (by decide) ?_
      refine g_iast F (n := 8) hr0.2.2.2.2.2.2.1 d_M_find_263 ?_
      refine g_ltM (fun σ38 _ => ?_)
      refine g_iinc F (v := 1) (ls' := [(2, .int (x2 + 1)), (4, .int r34), (3, .int (1 : Int32)), (0, .ref (xa X r0)), (1, .int y1)]) d_M_find_264 4 rfl (by decide) (by decide) rfl ?_
      refine g_goto F (tgt := 188) d_M_find_267 (by decide) ?_
      exact g_sub [3, 4, 0] rfl (ih _ _)
    refine g_aload_n F d_M_find_256 2 rfl ?_
    refine g_getR F fs_8_25 hr0.1 rfl d_M_find_257 ?_
    refine g_iload F d_M_find_260 0 rfl ?_
    refine g_iald F (n := 8) hr0.2.2.2.2.2.2.1 d_M_find_262 ?_
    refine g_iast F (n := 8) hr0.2.2.2.2.2.2.1 d_M_find_263 ?_
    refine g_ltM (fun σ39 _ => ?_)
    refine g_iinc F (v := 1) (ls' := [(2, .int (x2 + 1)), (4, .int r34), (3, .int (1 : Int32)), (0, .ref (xa X r0)), (1, .int y1)]) d_M_find_264 4 rfl (by decide) (by decide) rfl ?_
    refine g_goto F (tgt := 188) d_M_find_267 (by decide) ?_
    exact g_sub [3, 4, 0] rfl (ih _ _)
set_option maxRecDepth 100000 in
set_option maxHeartbeats 4000000 in
theorem c_M_find {X : CX} (l : Launch) (q : Nat) (hq : ModelOK X q) (σ : Mem) : CT X l y_M_find prog_10_method_17_code 6 (some .boolean) 2 vI [.ref (xa X q)] σ (f_M_find q σ) := by
  refine CT_of (by decide +kernel) (Nat.le_of_ble_eq_true rfl) ?_
  intro p e s m args below meth c F hlk hr
  have F : FR p s m args c prog_10_method_17_code 6 "SensorHubModel" X := F
  show G X p l e (rmD 2) s m args below meth c 6 0 0 (QI X below args s vI) 0 [(0, .ref (xa X q))] [] σ _
  unfold f_M_find
  refine g_iconst F (v := 0) d_M_find_0 (by decide) ?_
  refine g_istore_n F (ls' := [(1, .int (0 : Int32)), (0, .ref (xa X q))]) d_M_find_1 (by decide) rfl ?_
  refine g_sub [1, 0] rfl (l_L_M_find_2 F hlk hr _ hq _ (fun σ4 => ?_) FU _ _)
  refine g_iconst F (v := 1) d_M_find_29 (by decide) ?_
  refine g_istore_n F (ls' := [(1, .int (1 : Int32)), (0, .ref (xa X q))]) d_M_find_30 (by decide) rfl ?_
  refine g_aload_n F d_M_find_31 1 rfl ?_
  refine g_getR F fs_8_7 hq.1 rfl d_M_find_32 ?_
  refine g_iconst F (v := 1) d_M_find_35 (by decide) ?_
  refine g_ialdC F (n := 481) 1 (by decide) (by decide) hq.2.1 d_M_find_36 ?_
  refine g_iconst F (v := 1) d_M_find_37 (by decide) ?_
  refine g_isub F d_M_find_38 ?_
  refine g_ltI (fun v5 _ => ?_)
  refine g_istore_n F (ls' := [(2, .int v5), (1, .int (1 : Int32)), (0, .ref (xa X q))]) d_M_find_39 (by decide) rfl ?_
  refine g_sub [2, 1, 0] rfl (l_L_M_find_40 F hlk hr _ hq _ (fun z29 σ30 => ?_) FU _ _ _)
  refine g_iconst F (v := 0) d_M_find_186 (by decide) ?_
  refine g_istore_n F (ls' := [(2, .int (0 : Int32)), (0, .ref (xa X q)), (1, .int z29)]) d_M_find_187 (by decide) rfl ?_
  refine g_sub [1, 2, 0] rfl (l_L_M_find_188 F hlk hr _ _ hq _ (fun σ40 => ?_) FU _ _)
  refine g_iload_n F d_M_find_270 0 rfl ?_
  exact g_zret F hlk hr d_M_find_271
def y_M_keepPeriods : MethodName := ⟨"SensorHubModel", "keepPeriods", "()V"⟩
theorem d_M_keepPeriods_0 : decode prog_10_method_18_code 0 = .ok (.aload_n 0, 1) := by decide +kernel
theorem d_M_keepPeriods_1 : decode prog_10_method_18_code 1 = .ok (.invokevirtual 73, 3) := by decide +kernel
theorem d_M_keepPeriods_4 : decode prog_10_method_18_code 4 = .ok (.pop, 1) := by decide +kernel
theorem d_M_keepPeriods_5 : decode prog_10_method_18_code 5 = .ok (.iconst 0, 1) := by decide +kernel
theorem d_M_keepPeriods_6 : decode prog_10_method_18_code 6 = .ok (.istore_n 1, 1) := by decide +kernel
theorem d_M_keepPeriods_7 : decode prog_10_method_18_code 7 = .ok (.iload_n 1, 1) := by decide +kernel
theorem d_M_keepPeriods_8 : decode prog_10_method_18_code 8 = .ok (.bipush 8, 2) := by decide +kernel
theorem d_M_keepPeriods_10 : decode prog_10_method_18_code 10 = .ok (.if_icmp .ge 21, 3) := by decide +kernel
theorem d_M_keepPeriods_13 : decode prog_10_method_18_code 13 = .ok (.aload_n 0, 1) := by decide +kernel
theorem d_M_keepPeriods_14 : decode prog_10_method_18_code 14 = .ok (.getfield 28, 3) := by decide +kernel
theorem d_M_keepPeriods_17 : decode prog_10_method_18_code 17 = .ok (.iload_n 1, 1) := by decide +kernel
theorem d_M_keepPeriods_18 : decode prog_10_method_18_code 18 = .ok (.aload_n 0, 1) := by decide +kernel
theorem d_M_keepPeriods_19 : decode prog_10_method_18_code 19 = .ok (.getfield 25, 3) := by decide +kernel
theorem d_M_keepPeriods_22 : decode prog_10_method_18_code 22 = .ok (.iload_n 1, 1) := by decide +kernel
theorem d_M_keepPeriods_23 : decode prog_10_method_18_code 23 = .ok (.iaload, 1) := by decide +kernel
theorem d_M_keepPeriods_24 : decode prog_10_method_18_code 24 = .ok (.iastore, 1) := by decide +kernel
theorem d_M_keepPeriods_25 : decode prog_10_method_18_code 25 = .ok (.iinc 1 1, 3) := by decide +kernel
theorem d_M_keepPeriods_28 : decode prog_10_method_18_code 28 = .ok (.goto (-21), 3) := by decide +kernel
theorem d_M_keepPeriods_31 : decode prog_10_method_18_code 31 = .ok (.return_, 1) := by decide +kernel
theorem cv_8_73 : CSV "SensorHubModel" 73 y_M_find prog_10_method_17_code 6 (some .boolean) 0 := ⟨gw_I 1017 (by decide +kernel) rfl, gw_I 1019 (by decide +kernel) rfl, gw_I 40 (by decide +kernel) rfl, gw_I 78 (by decide +kernel) rfl, gw_I 1020 (by decide +kernel) rfl, ⟨by decide +kernel, by decide +kernel⟩, by decide +kernel⟩
theorem fs_8_28 : FS "SensorHubModel" 28 8 9 := ⟨"SensorHubModel", T_8, 16, rfl, by decide, rfl, gw_I 901 (by decide +kernel) rfl⟩
def L_M_keepPeriods_7 (r0 : Nat) (k : Mem → Option (Unit × Mem)) : Nat → Int32 → Mem → Option (Unit × Mem)
  | 0, _, _ => none
  | n + 1, x1, σ =>
    if (8 : Int32) ≤ x1 then
      k σ
    else
      if ib x1 8 then
        if ib x1 8 then
          lt (wr σ (r0 + 7) x1.toNatClampNeg (σ (r0 + 6) x1.toNatClampNeg)) fun σ3 =>
          L_M_keepPeriods_7 r0 k n (x1 + 1) σ3
        else none
      else none
def f_M_keepPeriods (q : Nat) (σ : Mem) : Option (Unit × Mem) :=
  bd (f_M_find q σ) fun r1 σ2 =>
  L_M_keepPeriods_7 q (fun σ4 =>
    some ((), σ4)) FU (0 : Int32) σ2
set_option maxRecDepth 100000 in
set_option maxHeartbeats 4000000 in
theorem l_L_M_keepPeriods_7 {X : CX} {p : Program} {l : Launch} {e : Env} {s : State} {m : MethodId} {args : Array Value} {below : List Frame} {meth : Method} {c : Code} (F : FR p s m args c prog_10_method_18_code 2 "SensorHubModel" X) (hlk : meth.locks = false) (hr : meth.sig.returnType = none) (r0 : Nat) (hr0 : ModelOK X r0) (k : Mem → Option (Unit × Mem)) (hk : ∀  (σ : Mem), G X p l e (rmD 3) s m args below meth c 2 0 0 (QI X below args s vU) 31 [] [] σ (k σ)) : ∀ (n : Nat) (x1 : Int32) (σ : Mem), G X p l e (rmD 3) s m args below meth c 2 0 0 (QI X below args s vU) 7 [(0, .ref (xa X r0)), (1, .int x1)] [] σ (L_M_keepPeriods_7 r0 k n x1 σ) := by
  intro n
  induction n with
  | zero => intros; exact g_no
  | succ n ih =>
    intro x1 σ
    unfold L_M_keepPeriods_7
    refine g_iload_n F d_M_keepPeriods_7 1 rfl ?_
    refine g_bipush F (v := 8) d_M_keepPeriods_8 (by decide) ?_
    refine g_icmp_ge F (tgt := 31) d_M_keepPeriods_10 (by decide) (fun h2 => ?_) (fun h3 => ?_)
    · exact g_sub [] rfl (hk  _)
    refine g_aload_n F d_M_keepPeriods_13 0 rfl ?_
    refine g_getR F fs_8_28 hr0.1 rfl d_M_keepPeriods_14 ?_
    refine g_iload_n F d_M_keepPeriods_17 1 rfl ?_
    refine g_aload_n F d_M_keepPeriods_18 0 rfl ?_
    refine g_getR F fs_8_25 hr0.1 rfl d_M_keepPeriods_19 ?_
    refine g_iload_n F d_M_keepPeriods_22 1 rfl ?_
    refine g_iald F (n := 8) hr0.2.2.2.2.2.2.1 d_M_keepPeriods_23 ?_
    refine g_iast F (n := 8) hr0.2.2.2.2.2.2.2.1 d_M_keepPeriods_24 ?_
    refine g_ltM (fun σ3 _ => ?_)
    refine g_iinc F (v := 1) (ls' := [(1, .int (x1 + 1)), (0, .ref (xa X r0))]) d_M_keepPeriods_25 1 rfl (by decide) (by decide) rfl ?_
    refine g_goto F (tgt := 7) d_M_keepPeriods_28 (by decide) ?_
    exact g_sub [1, 0] rfl (ih _ _)
set_option maxRecDepth 100000 in
set_option maxHeartbeats 4000000 in
theorem c_M_keepPeriods {X : CX} (l : Launch) (q : Nat) (hq : ModelOK X q) (σ : Mem) : CT X l y_M_keepPeriods prog_10_method_18_code 2 none 3 vU [.ref (xa X q)] σ (f_M_keepPeriods q σ) := by
  refine CT_of (by decide +kernel) (Nat.le_of_ble_eq_true rfl) ?_
  intro p e s m args below meth c F hlk hr
  have F : FR p s m args c prog_10_method_18_code 2 "SensorHubModel" X := F
  show G X p l e (rmD 3) s m args below meth c 2 0 0 (QI X below args s vU) 0 [(0, .ref (xa X q))] [] σ _
  unfold f_M_keepPeriods
  refine g_aload_n F d_M_keepPeriods_0 0 rfl ?_
  refine g_callV F (dp := 2) (ci := 8) (As := []) (c_M_find l _ hq _) cv_8_73 hq.1 rfl rfl rfl (Nat.le_of_ble_eq_true rfl) ⟨Nat.le_of_ble_eq_true rfl, Nat.le_of_ble_eq_true rfl⟩ ⟨Nat.zero_le _, Nat.zero_le _⟩ d_M_keepPeriods_1 (fun r1 σ2 h1 => ?_)
  refine g_pop F d_M_keepPeriods_4 rfl ?_
  refine g_iconst F (v := 0) d_M_keepPeriods_5 (by decide) ?_
  refine g_istore_n F (ls' := [(1, .int (0 : Int32)), (0, .ref (xa X q))]) d_M_keepPeriods_6 (by decide) rfl ?_
  refine g_sub [1, 0] rfl (l_L_M_keepPeriods_7 F hlk hr _ hq _ (fun σ4 => ?_) FU _ _)
  exact g_vret F hlk hr d_M_keepPeriods_31
def y_M_restartIfChanged : MethodName := ⟨"SensorHubModel", "restartIfChanged", "()V"⟩
theorem d_M_restartIfChanged_0 : decode prog_10_method_19_code 0 = .ok (.aload_n 0, 1) := by decide +kernel
theorem d_M_restartIfChanged_1 : decode prog_10_method_19_code 1 = .ok (.invokevirtual 73, 3) := by decide +kernel
theorem d_M_restartIfChanged_4 : decode prog_10_method_19_code 4 = .ok (.pop, 1) := by decide +kernel
theorem d_M_restartIfChanged_5 : decode prog_10_method_19_code 5 = .ok (.iconst 0, 1) := by decide +kernel
theorem d_M_restartIfChanged_6 : decode prog_10_method_19_code 6 = .ok (.istore_n 1, 1) := by decide +kernel
theorem d_M_restartIfChanged_7 : decode prog_10_method_19_code 7 = .ok (.iconst 0, 1) := by decide +kernel
theorem d_M_restartIfChanged_8 : decode prog_10_method_19_code 8 = .ok (.istore_n 2, 1) := by decide +kernel
theorem d_M_restartIfChanged_9 : decode prog_10_method_19_code 9 = .ok (.iload_n 2, 1) := by decide +kernel
theorem d_M_restartIfChanged_10 : decode prog_10_method_19_code 10 = .ok (.aload_n 0, 1) := by decide +kernel
theorem d_M_restartIfChanged_11 : decode prog_10_method_19_code 11 = .ok (.getfield 7, 3) := by decide +kernel
theorem d_M_restartIfChanged_14 : decode prog_10_method_19_code 14 = .ok (.iconst 1, 1) := by decide +kernel
theorem d_M_restartIfChanged_15 : decode prog_10_method_19_code 15 = .ok (.iaload, 1) := by decide +kernel
theorem d_M_restartIfChanged_16 : decode prog_10_method_19_code 16 = .ok (.if_icmp .ge 44, 3) := by decide +kernel
theorem d_M_restartIfChanged_19 : decode prog_10_method_19_code 19 = .ok (.iload_n 1, 1) := by decide +kernel
theorem d_M_restartIfChanged_20 : decode prog_10_method_19_code 20 = .ok (.ifCond .ne 28, 3) := by decide +kernel
theorem d_M_restartIfChanged_23 : decode prog_10_method_19_code 23 = .ok (.aload_n 0, 1) := by decide +kernel
theorem d_M_restartIfChanged_24 : decode prog_10_method_19_code 24 = .ok (.iload_n 2, 1) := by decide +kernel
theorem d_M_restartIfChanged_25 : decode prog_10_method_19_code 25 = .ok (.iconst 0, 1) := by decide +kernel
theorem d_M_restartIfChanged_26 : decode prog_10_method_19_code 26 = .ok (.invokevirtual 54, 3) := by decide +kernel
theorem d_M_restartIfChanged_29 : decode prog_10_method_19_code 29 = .ok (.iconst 4, 1) := by decide +kernel
theorem d_M_restartIfChanged_30 : decode prog_10_method_19_code 30 = .ok (.if_icmp .ne 22, 3) := by decide +kernel
theorem d_M_restartIfChanged_33 : decode prog_10_method_19_code 33 = .ok (.aload_n 0, 1) := by decide +kernel
theorem d_M_restartIfChanged_34 : decode prog_10_method_19_code 34 = .ok (.getfield 25, 3) := by decide +kernel
theorem d_M_restartIfChanged_37 : decode prog_10_method_19_code 37 = .ok (.iload_n 2, 1) := by decide +kernel
theorem d_M_restartIfChanged_38 : decode prog_10_method_19_code 38 = .ok (.iaload, 1) := by decide +kernel
theorem d_M_restartIfChanged_39 : decode prog_10_method_19_code 39 = .ok (.aload_n 0, 1) := by decide +kernel
theorem d_M_restartIfChanged_40 : decode prog_10_method_19_code 40 = .ok (.getfield 28, 3) := by decide +kernel
theorem d_M_restartIfChanged_43 : decode prog_10_method_19_code 43 = .ok (.iload_n 2, 1) := by decide +kernel
theorem d_M_restartIfChanged_44 : decode prog_10_method_19_code 44 = .ok (.iaload, 1) := by decide +kernel
theorem d_M_restartIfChanged_45 : decode prog_10_method_19_code 45 = .ok (.if_icmp .eq 7, 3) := by decide +kernel
theorem d_M_restartIfChanged_48 : decode prog_10_method_19_code 48 = .ok (.iconst 1, 1) := by decide +kernel
theorem d_M_restartIfChanged_49 : decode prog_10_method_19_code 49 = .ok (.goto 4, 3) := by decide +kernel
theorem d_M_restartIfChanged_52 : decode prog_10_method_19_code 52 = .ok (.iconst 0, 1) := by decide +kernel
theorem d_M_restartIfChanged_53 : decode prog_10_method_19_code 53 = .ok (.istore_n 1, 1) := by decide +kernel
theorem d_M_restartIfChanged_54 : decode prog_10_method_19_code 54 = .ok (.iinc 2 1, 3) := by decide +kernel
theorem d_M_restartIfChanged_57 : decode prog_10_method_19_code 57 = .ok (.goto (-48), 3) := by decide +kernel
theorem d_M_restartIfChanged_60 : decode prog_10_method_19_code 60 = .ok (.iload_n 1, 1) := by decide +kernel
theorem d_M_restartIfChanged_61 : decode prog_10_method_19_code 61 = .ok (.ifCond .ne 4, 3) := by decide +kernel
theorem d_M_restartIfChanged_64 : decode prog_10_method_19_code 64 = .ok (.return_, 1) := by decide +kernel
theorem d_M_restartIfChanged_65 : decode prog_10_method_19_code 65 = .ok (.aload_n 0, 1) := by decide +kernel
theorem d_M_restartIfChanged_66 : decode prog_10_method_19_code 66 = .ok (.getfield 7, 3) := by decide +kernel
theorem d_M_restartIfChanged_69 : decode prog_10_method_19_code 69 = .ok (.bipush 6, 2) := by decide +kernel
theorem d_M_restartIfChanged_71 : decode prog_10_method_19_code 71 = .ok (.aload_n 0, 1) := by decide +kernel
theorem d_M_restartIfChanged_72 : decode prog_10_method_19_code 72 = .ok (.getfield 7, 3) := by decide +kernel
theorem d_M_restartIfChanged_75 : decode prog_10_method_19_code 75 = .ok (.iconst 0, 1) := by decide +kernel
theorem d_M_restartIfChanged_76 : decode prog_10_method_19_code 76 = .ok (.iaload, 1) := by decide +kernel
theorem d_M_restartIfChanged_77 : decode prog_10_method_19_code 77 = .ok (.iastore, 1) := by decide +kernel
theorem d_M_restartIfChanged_78 : decode prog_10_method_19_code 78 = .ok (.iconst 0, 1) := by decide +kernel
theorem d_M_restartIfChanged_79 : decode prog_10_method_19_code 79 = .ok (.istore_n 2, 1) := by decide +kernel
theorem d_M_restartIfChanged_80 : decode prog_10_method_19_code 80 = .ok (.iload_n 2, 1) := by decide +kernel
theorem d_M_restartIfChanged_81 : decode prog_10_method_19_code 81 = .ok (.aload_n 0, 1) := by decide +kernel
theorem d_M_restartIfChanged_82 : decode prog_10_method_19_code 82 = .ok (.getfield 7, 3) := by decide +kernel
theorem d_M_restartIfChanged_85 : decode prog_10_method_19_code 85 = .ok (.iconst 1, 1) := by decide +kernel
theorem d_M_restartIfChanged_86 : decode prog_10_method_19_code 86 = .ok (.iaload, 1) := by decide +kernel
theorem d_M_restartIfChanged_87 : decode prog_10_method_19_code 87 = .ok (.if_icmp .ge 39, 3) := by decide +kernel
theorem d_M_restartIfChanged_90 : decode prog_10_method_19_code 90 = .ok (.bipush 7, 2) := by decide +kernel
theorem d_M_restartIfChanged_92 : decode prog_10_method_19_code 92 = .ok (.istore_n 3, 1) := by decide +kernel
theorem d_M_restartIfChanged_93 : decode prog_10_method_19_code 93 = .ok (.iload_n 3, 1) := by decide +kernel
theorem d_M_restartIfChanged_94 : decode prog_10_method_19_code 94 = .ok (.bipush 19, 2) := by decide +kernel
theorem d_M_restartIfChanged_96 : decode prog_10_method_19_code 96 = .ok (.if_icmp .ge 24, 3) := by decide +kernel
theorem d_M_restartIfChanged_99 : decode prog_10_method_19_code 99 = .ok (.aload_n 0, 1) := by decide +kernel
theorem d_M_restartIfChanged_100 : decode prog_10_method_19_code 100 = .ok (.getfield 7, 3) := by decide +kernel
theorem d_M_restartIfChanged_103 : decode prog_10_method_19_code 103 = .ok (.bipush 11, 2) := by decide +kernel
theorem d_M_restartIfChanged_105 : decode prog_10_method_19_code 105 = .ok (.bipush 19, 2) := by decide +kernel
theorem d_M_restartIfChanged_107 : decode prog_10_method_19_code 107 = .ok (.iload_n 2, 1) := by decide +kernel
theorem d_M_restartIfChanged_108 : decode prog_10_method_19_code 108 = .ok (.imul, 1) := by decide +kernel
theorem d_M_restartIfChanged_109 : decode prog_10_method_19_code 109 = .ok (.iadd, 1) := by decide +kernel
theorem d_M_restartIfChanged_110 : decode prog_10_method_19_code 110 = .ok (.iload_n 3, 1) := by decide +kernel
theorem d_M_restartIfChanged_111 : decode prog_10_method_19_code 111 = .ok (.iadd, 1) := by decide +kernel
theorem d_M_restartIfChanged_112 : decode prog_10_method_19_code 112 = .ok (.iconst 0, 1) := by decide +kernel
theorem d_M_restartIfChanged_113 : decode prog_10_method_19_code 113 = .ok (.iastore, 1) := by decide +kernel
theorem d_M_restartIfChanged_114 : decode prog_10_method_19_code 114 = .ok (.iinc 3 1, 3) := by decide +kernel
theorem d_M_restartIfChanged_117 : decode prog_10_method_19_code 117 = .ok (.goto (-24), 3) := by decide +kernel
theorem d_M_restartIfChanged_120 : decode prog_10_method_19_code 120 = .ok (.iinc 2 1, 3) := by decide +kernel
theorem d_M_restartIfChanged_123 : decode prog_10_method_19_code 123 = .ok (.goto (-43), 3) := by decide +kernel
theorem d_M_restartIfChanged_126 : decode prog_10_method_19_code 126 = .ok (.iconst 0, 1) := by decide +kernel
theorem d_M_restartIfChanged_127 : decode prog_10_method_19_code 127 = .ok (.istore_n 2, 1) := by decide +kernel
theorem d_M_restartIfChanged_128 : decode prog_10_method_19_code 128 = .ok (.iload_n 2, 1) := by decide +kernel
theorem d_M_restartIfChanged_129 : decode prog_10_method_19_code 129 = .ok (.bipush 8, 2) := by decide +kernel
theorem d_M_restartIfChanged_131 : decode prog_10_method_19_code 131 = .ok (.if_icmp .ge 25, 3) := by decide +kernel
theorem d_M_restartIfChanged_134 : decode prog_10_method_19_code 134 = .ok (.aload_n 0, 1) := by decide +kernel
theorem d_M_restartIfChanged_135 : decode prog_10_method_19_code 135 = .ok (.getfield 7, 3) := by decide +kernel
theorem d_M_restartIfChanged_138 : decode prog_10_method_19_code 138 = .ok (.sipush 163, 3) := by decide +kernel
theorem d_M_restartIfChanged_141 : decode prog_10_method_19_code 141 = .ok (.bipush 27, 2) := by decide +kernel
theorem d_M_restartIfChanged_143 : decode prog_10_method_19_code 143 = .ok (.iload_n 2, 1) := by decide +kernel
theorem d_M_restartIfChanged_144 : decode prog_10_method_19_code 144 = .ok (.imul, 1) := by decide +kernel
theorem d_M_restartIfChanged_145 : decode prog_10_method_19_code 145 = .ok (.iadd, 1) := by decide +kernel
theorem d_M_restartIfChanged_146 : decode prog_10_method_19_code 146 = .ok (.iconst 4, 1) := by decide +kernel
theorem d_M_restartIfChanged_147 : decode prog_10_method_19_code 147 = .ok (.iadd, 1) := by decide +kernel
theorem d_M_restartIfChanged_148 : decode prog_10_method_19_code 148 = .ok (.iconst 0, 1) := by decide +kernel
theorem d_M_restartIfChanged_149 : decode prog_10_method_19_code 149 = .ok (.iastore, 1) := by decide +kernel
theorem d_M_restartIfChanged_150 : decode prog_10_method_19_code 150 = .ok (.iinc 2 1, 3) := by decide +kernel
theorem d_M_restartIfChanged_153 : decode prog_10_method_19_code 153 = .ok (.goto (-25), 3) := by decide +kernel
theorem d_M_restartIfChanged_156 : decode prog_10_method_19_code 156 = .ok (.return_, 1) := by decide +kernel
def L_M_restartIfChanged_9 (r0 : Nat) (k : Int32 → Mem → Option (Unit × Mem)) : Nat → Int32 → Int32 → Mem → Option (Unit × Mem)
  | 0, _, _, _ => none
  | n + 1, x1, x2, σ =>
    if (σ (r0 + 1) 1) ≤ x2 then
      k x1 σ
    else
      if x1 = 0 then
        bd (f_M_sensor0 r0 x2 (0 : Int32) σ) fun r3 σ4 =>
        if r3 = (4 : Int32) then
          if ib x2 8 then
            if ib x2 8 then
              if (σ4 (r0 + 6) x2.toNatClampNeg) = (σ4 (r0 + 7) x2.toNatClampNeg) then L_M_restartIfChanged_9 r0 k n (0 : Int32) (x2 + 1) σ4 else L_M_restartIfChanged_9 r0 k n (1 : Int32) (x2 + 1) σ4
            else none
          else none
        else
          L_M_restartIfChanged_9 r0 k n (0 : Int32) (x2 + 1) σ4
      else
        L_M_restartIfChanged_9 r0 k n (1 : Int32) (x2 + 1) σ
def L_M_restartIfChanged_93 (r0 : Nat) (y2 : Int32) (k : Mem → Option (Unit × Mem)) : Nat → Int32 → Mem → Option (Unit × Mem)
  | 0, _, _ => none
  | n + 1, x3, σ =>
    if (19 : Int32) ≤ x3 then
      k σ
    else
      if ib (((11 : Int32) + ((19 : Int32) * y2)) + x3) 481 then
        lt (wr σ (r0 + 1) (((11 : Int32) + ((19 : Int32) * y2)) + x3).toNatClampNeg (0 : Int32)) fun σ8 =>
        L_M_restartIfChanged_93 r0 y2 k n (x3 + 1) σ8
      else none
def L_M_restartIfChanged_80 (r0 : Nat) (k : Mem → Option (Unit × Mem)) : Nat → Int32 → Mem → Option (Unit × Mem)
  | 0, _, _ => none
  | n + 1, x2, σ =>
    if (σ (r0 + 1) 1) ≤ x2 then
      k σ
    else
      L_M_restartIfChanged_93 r0 x2 (fun σ9 =>
        L_M_restartIfChanged_80 r0 k n (x2 + 1) σ9) FU (7 : Int32) σ
def L_M_restartIfChanged_128 (r0 : Nat) (k : Mem → Option (Unit × Mem)) : Nat → Int32 → Mem → Option (Unit × Mem)
  | 0, _, _ => none
  | n + 1, x2, σ =>
    if (8 : Int32) ≤ x2 then
      k σ
    else
      if ib (((163 : Int32) + ((27 : Int32) * x2)) + (4 : Int32)) 481 then
        lt (wr σ (r0 + 1) (((163 : Int32) + ((27 : Int32) * x2)) + (4 : Int32)).toNatClampNeg (0 : Int32)) fun σ11 =>
        L_M_restartIfChanged_128 r0 k n (x2 + 1) σ11
      else none
def f_M_restartIfChanged (q : Nat) (σ : Mem) : Option (Unit × Mem) :=
  bd (f_M_find q σ) fun r1 σ2 =>
  L_M_restartIfChanged_9 q (fun z5 σ6 =>
    if z5 = 0 then
      some ((), σ6)
    else
      lt (wr σ6 (q + 1) 6 (σ6 (q + 1) 0)) fun σ7 =>
      L_M_restartIfChanged_80 q (fun σ10 =>
        L_M_restartIfChanged_128 q (fun σ12 =>
          some ((), σ12)) FU (0 : Int32) σ10) FU (0 : Int32) σ7) FU (0 : Int32) (0 : Int32) σ2
set_option maxRecDepth 100000 in
set_option maxHeartbeats 4000000 in
theorem l_L_M_restartIfChanged_9 {X : CX} {p : Program} {l : Launch} {e : Env} {s : State} {m : MethodId} {args : Array Value} {below : List Frame} {meth : Method} {c : Code} (F : FR p s m args c prog_10_method_19_code 4 "SensorHubModel" X) (hlk : meth.locks = false) (hr : meth.sig.returnType = none) (r0 : Nat) (hr0 : ModelOK X r0) (k : Int32 → Mem → Option (Unit × Mem)) (hk : ∀ (x1 : Int32) (σ : Mem), G X p l e (rmD 3) s m args below meth c 4 0 0 (QI X below args s vU) 60 [(0, .ref (xa X r0)), (1, .int x1)] [] σ (k x1 σ)) : ∀ (n : Nat) (x1 : Int32) (x2 : Int32) (σ : Mem), G X p l e (rmD 3) s m args below meth c 4 0 0 (QI X below args s vU) 9 [(0, .ref (xa X r0)), (1, .int x1), (2, .int x2)] [] σ (L_M_restartIfChanged_9 r0 k n x1 x2 σ) := by
  intro n
  induction n with
  | zero => intros; exact g_no
  | succ n ih =>
    intro x1 x2 σ
    unfold L_M_restartIfChanged_9
    refine g_iload_n F d_M_restartIfChanged_9 2 rfl ?_
    refine g_aload_n F d_M_restartIfChanged_10 0 rfl ?_
    refine g_getR F fs_8_7 hr0.1 rfl d_M_restartIfChanged_11 ?_
    refine g_iconst F (v := 1) d_M_restartIfChanged_14 (by decide) ?_
    refine g_ialdC F (n := 481) 1 (by decide) (by decide) hr0.2.1 d_M_restartIfChanged_15 ?_
    refine g_icmp_ge F (tgt := 60) d_M_restartIfChanged_16 (by decide) (fun h2 => ?_) (fun h3 => ?_)
    · exact g_sub [0, 1] rfl (hk _ _)
    refine g_iload_n F d_M_restartIfChanged_19 1 rfl ?_
    refine g_if_ne F (tgt := 48) d_M_restartIfChanged_20 (by decide) (fun h4 => ?_) (fun h5 => ?_)
    · refine g_aload_n F d_M_restartIfChanged_23 0 rfl ?_
      refine g_iload_n F d_M_restartIfChanged_24 2 rfl ?_
      refine g_iconst F (v := 0) d_M_restartIfChanged_25 (by decide) ?_
      refine g_callV F (dp := 0) (ci := 8) (As := [.int x2, .int (0 : Int32)]) (c_M_sensor0 l _ _ _ hr0 _) cv_8_54 hr0.1 rfl rfl rfl (Nat.le_of_ble_eq_true rfl) ⟨Nat.le_of_ble_eq_true rfl, Nat.le_of_ble_eq_true rfl⟩ ⟨Nat.zero_le _, Nat.zero_le _⟩ d_M_restartIfChanged_26 (fun r3 σ4 h6 => ?_)
      refine g_iconst F (v := 4) d_M_restartIfChanged_29 (by decide) ?_
      refine g_icmp_ne F (tgt := 52) d_M_restartIfChanged_30 (by decide) (fun h7 => ?_) (fun h8 => ?_)
      · refine g_aload_n F d_M_restartIfChanged_33 0 rfl ?_
        refine g_getR F fs_8_25 hr0.1 rfl d_M_restartIfChanged_34 ?_
        refine g_iload_n F d_M_restartIfChanged_37 2 rfl ?_
        refine g_iald F (n := 8) hr0.2.2.2.2.2.2.1 d_M_restartIfChanged_38 ?_
        refine g_aload_n F d_M_restartIfChanged_39 0 rfl ?_
        refine g_getR F fs_8_28 hr0.1 rfl d_M_restartIfChanged_40 ?_
        refine g_iload_n F d_M_restartIfChanged_43 2 rfl ?_
        refine g_iald F (n := 8) hr0.2.2.2.2.2.2.2.1 d_M_restartIfChanged_44 ?_
        refine g_icmp_eq F (tgt := 52) d_M_restartIfChanged_45 (by decide) (fun h9 => ?_) (fun h10 => ?_)
        · refine g_iconst F (v := 0) d_M_restartIfChanged_52 (by decide) ?_
          refine g_istore_n F (ls' := [(1, .int (0 : Int32)), (0, .ref (xa X r0)), (2, .int x2)]) d_M_restartIfChanged_53 (by decide) rfl ?_
          refine g_iinc F (v := 1) (ls' := [(2, .int (x2 + 1)), (1, .int (0 : Int32)), (0, .ref (xa X r0))]) d_M_restartIfChanged_54 2 rfl (by decide) (by decide) rfl ?_
          refine g_goto F (tgt := 9) d_M_restartIfChanged_57 (by decide) ?_
          exact g_sub [2, 1, 0] rfl (ih _ _ _)
        refine g_iconst F (v := 1) d_M_restartIfChanged_48 (by decide) ?_
        refine g_goto F (tgt := 53) d_M_restartIfChanged_49 (by decide) ?_
        refine g_istore_n F (ls' := [(1, .int (1 : Int32)), (0, .ref (xa X r0)), (2, .int x2)]) d_M_restartIfChanged_53 (by decide) rfl ?_
        refine g_iinc F (v := 1) (ls' := [(2, .int (x2 + 1)), (1, .int (1 : Int32)), (0, .ref (xa X r0))]) d_M_restartIfChanged_54 2 rfl (by decide) (by decide) rfl ?_
        refine g_goto F (tgt := 9) d_M_restartIfChanged_57 (by decide) ?_
        exact g_sub [2, 1, 0] rfl (ih _ _ _)
      refine g_iconst F (v := 0) d_M_restartIfChanged_52 (by decide) ?_
      refine g_istore_n F (ls' := [(1, .int (0 : Int32)), (0, .ref (xa X r0)), (2, .int x2)]) d_M_restartIfChanged_53 (by decide) rfl ?_
      refine g_iinc F (v := 1) (ls' := [(2, .int (x2 + 1)), (1, .int (0 : Int32)), (0, .ref (xa X r0))]) d_M_restartIfChanged_54 2 rfl (by decide) (by decide) rfl ?_
      refine g_goto F (tgt := 9) d_M_restartIfChanged_57 (by decide) ?_
      exact g_sub [2, 1, 0] rfl (ih _ _ _)
    refine g_iconst F (v := 1) d_M_restartIfChanged_48 (by decide) ?_
    refine g_goto F (tgt := 53) d_M_restartIfChanged_49 (by decide) ?_
    refine g_istore_n F (ls' := [(1, .int (1 : Int32)), (0, .ref (xa X r0)), (2, .int x2)]) d_M_restartIfChanged_53 (by decide) rfl ?_
    refine g_iinc F (v := 1) (ls' := [(2, .int (x2 + 1)), (1, .int (1 : Int32)), (0, .ref (xa X r0))]) d_M_restartIfChanged_54 2 rfl (by decide) (by decide) rfl ?_
    refine g_goto F (tgt := 9) d_M_restartIfChanged_57 (by decide) ?_
    exact g_sub [2, 1, 0] rfl (ih _ _ _)
set_option maxRecDepth 100000 in
set_option maxHeartbeats 4000000 in
theorem l_L_M_restartIfChanged_93 {X : CX} {p : Program} {l : Launch} {e : Env} {s : State} {m : MethodId} {args : Array Value} {below : List Frame} {meth : Method} {c : Code} (F : FR p s m args c prog_10_method_19_code 4 "SensorHubModel" X) (hlk : meth.locks = false) (hr : meth.sig.returnType = none) (r0 : Nat) (y2 : Int32) (hr0 : ModelOK X r0) (k : Mem → Option (Unit × Mem)) (hk : ∀  (σ : Mem), G X p l e (rmD 3) s m args below meth c 4 0 0 (QI X below args s vU) 120 [(0, .ref (xa X r0)), (2, .int y2)] [] σ (k σ)) : ∀ (n : Nat) (x3 : Int32) (σ : Mem), G X p l e (rmD 3) s m args below meth c 4 0 0 (QI X below args s vU) 93 [(0, .ref (xa X r0)), (2, .int y2), (3, .int x3)] [] σ (L_M_restartIfChanged_93 r0 y2 k n x3 σ) := by
  intro n
  induction n with
  | zero => intros; exact g_no
  | succ n ih =>
    intro x3 σ
    unfold L_M_restartIfChanged_93
    refine g_iload_n F d_M_restartIfChanged_93 2 rfl ?_
    refine g_bipush F (v := 19) d_M_restartIfChanged_94 (by decide) ?_
    refine g_icmp_ge F (tgt := 120) d_M_restartIfChanged_96 (by decide) (fun h15 => ?_) (fun h16 => ?_)
    · exact g_sub [0, 1] rfl (hk  _)
    refine g_aload_n F d_M_restartIfChanged_99 0 rfl ?_
    refine g_getR F fs_8_7 hr0.1 rfl d_M_restartIfChanged_100 ?_
    refine g_bipush F (v := 11) d_M_restartIfChanged_103 (by decide) ?_
    refine g_bipush F (v := 19) d_M_restartIfChanged_105 (by decide) ?_
    refine g_iload_n F d_M_restartIfChanged_107 1 rfl ?_
    refine g_imul F d_M_restartIfChanged_108 ?_
    refine g_iadd F d_M_restartIfChanged_109 ?_
    refine g_iload_n F d_M_restartIfChanged_110 2 rfl ?_
    refine g_iadd F d_M_restartIfChanged_111 ?_
    refine g_iconst F (v := 0) d_M_restartIfChanged_112 (by decide) ?_
    refine g_iast F (n := 481) hr0.2.1 d_M_restartIfChanged_113 ?_
    refine g_ltM (fun σ8 _ => ?_)
    refine g_iinc F (v := 1) (ls' := [(3, .int (x3 + 1)), (0, .ref (xa X r0)), (2, .int y2)]) d_M_restartIfChanged_114 2 rfl (by decide) (by decide) rfl ?_
    refine g_goto F (tgt := 93) d_M_restartIfChanged_117 (by decide) ?_
    exact g_sub [1, 2, 0] rfl (ih _ _)
set_option maxRecDepth 100000 in
set_option maxHeartbeats 4000000 in
theorem l_L_M_restartIfChanged_80 {X : CX} {p : Program} {l : Launch} {e : Env} {s : State} {m : MethodId} {args : Array Value} {below : List Frame} {meth : Method} {c : Code} (F : FR p s m args c prog_10_method_19_code 4 "SensorHubModel" X) (hlk : meth.locks = false) (hr : meth.sig.returnType = none) (r0 : Nat) (hr0 : ModelOK X r0) (k : Mem → Option (Unit × Mem)) (hk : ∀  (σ : Mem), G X p l e (rmD 3) s m args below meth c 4 0 0 (QI X below args s vU) 126 [(0, .ref (xa X r0))] [] σ (k σ)) : ∀ (n : Nat) (x2 : Int32) (σ : Mem), G X p l e (rmD 3) s m args below meth c 4 0 0 (QI X below args s vU) 80 [(0, .ref (xa X r0)), (2, .int x2)] [] σ (L_M_restartIfChanged_80 r0 k n x2 σ) := by
  intro n
  induction n with
  | zero => intros; exact g_no
  | succ n ih =>
    intro x2 σ
    unfold L_M_restartIfChanged_80
    refine g_iload_n F d_M_restartIfChanged_80 1 rfl ?_
    refine g_aload_n F d_M_restartIfChanged_81 0 rfl ?_
    refine g_getR F fs_8_7 hr0.1 rfl d_M_restartIfChanged_82 ?_
    refine g_iconst F (v := 1) d_M_restartIfChanged_85 (by decide) ?_
    refine g_ialdC F (n := 481) 1 (by decide) (by decide) hr0.2.1 d_M_restartIfChanged_86 ?_
    refine g_icmp_ge F (tgt := 126) d_M_restartIfChanged_87 (by decide) (fun h13 => ?_) (fun h14 => ?_)
    · exact g_sub [0] rfl (hk  _)
    refine g_bipush F (v := 7) d_M_restartIfChanged_90 (by decide) ?_
    refine g_istore_n F (ls' := [(3, .int (7 : Int32)), (0, .ref (xa X r0)), (2, .int x2)]) d_M_restartIfChanged_92 (by decide) rfl ?_
    refine g_sub [1, 2, 0] rfl (l_L_M_restartIfChanged_93 F hlk hr _ _ hr0 _ (fun σ9 => ?_) FU _ _)
    refine g_iinc F (v := 1) (ls' := [(2, .int (x2 + 1)), (0, .ref (xa X r0))]) d_M_restartIfChanged_120 1 rfl (by decide) (by decide) rfl ?_
    refine g_goto F (tgt := 80) d_M_restartIfChanged_123 (by decide) ?_
    exact g_sub [1, 0] rfl (ih _ _)
set_option maxRecDepth 100000 in
set_option maxHeartbeats 4000000 in
theorem l_L_M_restartIfChanged_128 {X : CX} {p : Program} {l : Launch} {e : Env} {s : State} {m : MethodId} {args : Array Value} {below : List Frame} {meth : Method} {c : Code} (F : FR p s m args c prog_10_method_19_code 4 "SensorHubModel" X) (hlk : meth.locks = false) (hr : meth.sig.returnType = none) (r0 : Nat) (hr0 : ModelOK X r0) (k : Mem → Option (Unit × Mem)) (hk : ∀  (σ : Mem), G X p l e (rmD 3) s m args below meth c 4 0 0 (QI X below args s vU) 156 [] [] σ (k σ)) : ∀ (n : Nat) (x2 : Int32) (σ : Mem), G X p l e (rmD 3) s m args below meth c 4 0 0 (QI X below args s vU) 128 [(0, .ref (xa X r0)), (2, .int x2)] [] σ (L_M_restartIfChanged_128 r0 k n x2 σ) := by
  intro n
  induction n with
  | zero => intros; exact g_no
  | succ n ih =>
    intro x2 σ
    unfold L_M_restartIfChanged_128
    refine g_iload_n F d_M_restartIfChanged_128 1 rfl ?_
    refine g_bipush F (v := 8) d_M_restartIfChanged_129 (by decide) ?_
    refine g_icmp_ge F (tgt := 156) d_M_restartIfChanged_131 (by decide) (fun h17 => ?_) (fun h18 => ?_)
    · exact g_sub [] rfl (hk  _)
    refine g_aload_n F d_M_restartIfChanged_134 0 rfl ?_
    refine g_getR F fs_8_7 hr0.1 rfl d_M_restartIfChanged_135 ?_
    refine g_sipush F (v := 163) d_M_restartIfChanged_138 (by decide) ?_
    refine g_bipush F (v := 27) d_M_restartIfChanged_141 (by decide) ?_
    refine g_iload_n F d_M_restartIfChanged_143 1 rfl ?_
    refine g_imul F d_M_restartIfChanged_144 ?_
    refine g_iadd F d_M_restartIfChanged_145 ?_
    refine g_iconst F (v := 4) d_M_restartIfChanged_146 (by decide) ?_
    refine g_iadd F d_M_restartIfChanged_147 ?_
    refine g_iconst F (v := 0) d_M_restartIfChanged_148 (by decide) ?_
    refine g_iast F (n := 481) hr0.2.1 d_M_restartIfChanged_149 ?_
    refine g_ltM (fun σ11 _ => ?_)
    refine g_iinc F (v := 1) (ls' := [(2, .int (x2 + 1)), (0, .ref (xa X r0))]) d_M_restartIfChanged_150 1 rfl (by decide) (by decide) rfl ?_
    refine g_goto F (tgt := 128) d_M_restartIfChanged_153 (by decide) ?_
    exact g_sub [1, 0] rfl (ih _ _)
set_option maxRecDepth 100000 in
set_option maxHeartbeats 4000000 in
theorem c_M_restartIfChanged {X : CX} (l : Launch) (q : Nat) (hq : ModelOK X q) (σ : Mem) : CT X l y_M_restartIfChanged prog_10_method_19_code 4 none 3 vU [.ref (xa X q)] σ (f_M_restartIfChanged q σ) := by
  refine CT_of (by decide +kernel) (Nat.le_of_ble_eq_true rfl) ?_
  intro p e s m args below meth c F hlk hr
  have F : FR p s m args c prog_10_method_19_code 4 "SensorHubModel" X := F
  show G X p l e (rmD 3) s m args below meth c 4 0 0 (QI X below args s vU) 0 [(0, .ref (xa X q))] [] σ _
  unfold f_M_restartIfChanged
  refine g_aload_n F d_M_restartIfChanged_0 0 rfl ?_
  refine g_callV F (dp := 2) (ci := 8) (As := []) (c_M_find l _ hq _) cv_8_73 hq.1 rfl rfl rfl (Nat.le_of_ble_eq_true rfl) ⟨Nat.le_of_ble_eq_true rfl, Nat.le_of_ble_eq_true rfl⟩ ⟨Nat.zero_le _, Nat.zero_le _⟩ d_M_restartIfChanged_1 (fun r1 σ2 h1 => ?_)
  refine g_pop F d_M_restartIfChanged_4 rfl ?_
  refine g_iconst F (v := 0) d_M_restartIfChanged_5 (by decide) ?_
  refine g_istore_n F (ls' := [(1, .int (0 : Int32)), (0, .ref (xa X q))]) d_M_restartIfChanged_6 (by decide) rfl ?_
  refine g_iconst F (v := 0) d_M_restartIfChanged_7 (by decide) ?_
  refine g_istore_n F (ls' := [(2, .int (0 : Int32)), (1, .int (0 : Int32)), (0, .ref (xa X q))]) d_M_restartIfChanged_8 (by decide) rfl ?_
  refine g_sub [2, 1, 0] rfl (l_L_M_restartIfChanged_9 F hlk hr _ hq _ (fun z5 σ6 => ?_) FU _ _ _)
  refine g_iload_n F d_M_restartIfChanged_60 1 rfl ?_
  refine g_if_ne F (tgt := 65) d_M_restartIfChanged_61 (by decide) (fun h11 => ?_) (fun h12 => ?_)
  · exact g_vret F hlk hr d_M_restartIfChanged_64
  refine g_aload_n F d_M_restartIfChanged_65 0 rfl ?_
  refine g_getR F fs_8_7 hq.1 rfl d_M_restartIfChanged_66 ?_
  refine g_bipush F (v := 6) d_M_restartIfChanged_69 (by decide) ?_
  refine g_aload_n F d_M_restartIfChanged_71 0 rfl ?_
  refine g_getR F fs_8_7 hq.1 rfl d_M_restartIfChanged_72 ?_
  refine g_iconst F (v := 0) d_M_restartIfChanged_75 (by decide) ?_
  refine g_ialdC F (n := 481) 0 (by decide) (by decide) hq.2.1 d_M_restartIfChanged_76 ?_
  refine g_iastC F (n := 481) 6 (by decide) (by decide) hq.2.1 d_M_restartIfChanged_77 ?_
  refine g_ltM (fun σ7 _ => ?_)
  refine g_iconst F (v := 0) d_M_restartIfChanged_78 (by decide) ?_
  refine g_istore_n F (ls' := [(2, .int (0 : Int32)), (0, .ref (xa X q)), (1, .int z5)]) d_M_restartIfChanged_79 (by decide) rfl ?_
  refine g_sub [1, 0] rfl (l_L_M_restartIfChanged_80 F hlk hr _ hq _ (fun σ10 => ?_) FU _ _)
  refine g_iconst F (v := 0) d_M_restartIfChanged_126 (by decide) ?_
  refine g_istore_n F (ls' := [(2, .int (0 : Int32)), (0, .ref (xa X q))]) d_M_restartIfChanged_127 (by decide) rfl ?_
  refine g_sub [1, 0] rfl (l_L_M_restartIfChanged_128 F hlk hr _ hq _ (fun σ12 => ?_) FU _ _)
  exact g_vret F hlk hr d_M_restartIfChanged_156
def y_M_entryPart : MethodName := ⟨"SensorHubModel", "entryPart", "(II)I"⟩
theorem d_M_entryPart_0 : decode prog_10_method_20_code 0 = .ok (.aload_n 0, 1) := by decide +kernel
theorem d_M_entryPart_1 : decode prog_10_method_20_code 1 = .ok (.getfield 7, 3) := by decide +kernel
theorem d_M_entryPart_4 : decode prog_10_method_20_code 4 = .ok (.sipush 391, 3) := by decide +kernel
theorem d_M_entryPart_7 : decode prog_10_method_20_code 7 = .ok (.iconst 3, 1) := by decide +kernel
theorem d_M_entryPart_8 : decode prog_10_method_20_code 8 = .ok (.iload_n 1, 1) := by decide +kernel
theorem d_M_entryPart_9 : decode prog_10_method_20_code 9 = .ok (.imul, 1) := by decide +kernel
theorem d_M_entryPart_10 : decode prog_10_method_20_code 10 = .ok (.iadd, 1) := by decide +kernel
theorem d_M_entryPart_11 : decode prog_10_method_20_code 11 = .ok (.iload_n 2, 1) := by decide +kernel
theorem d_M_entryPart_12 : decode prog_10_method_20_code 12 = .ok (.iadd, 1) := by decide +kernel
theorem d_M_entryPart_13 : decode prog_10_method_20_code 13 = .ok (.iaload, 1) := by decide +kernel
theorem d_M_entryPart_14 : decode prog_10_method_20_code 14 = .ok (.ireturn, 1) := by decide +kernel
def f_M_entryPart (q : Nat) (p1 : Int32) (p2 : Int32) (σ : Mem) : Option (Int32 × Mem) :=
  if ib (((391 : Int32) + ((3 : Int32) * p1)) + p2) 481 then
    some (σ (q + 1) (((391 : Int32) + ((3 : Int32) * p1)) + p2).toNatClampNeg, σ)
  else none
set_option maxRecDepth 100000 in
set_option maxHeartbeats 4000000 in
theorem c_M_entryPart {X : CX} (l : Launch) (q : Nat) (p1 : Int32) (p2 : Int32) (hq : ModelOK X q) (σ : Mem) : CT X l y_M_entryPart prog_10_method_20_code 3 (some .int) 0 vI [.ref (xa X q), .int p1, .int p2] σ (f_M_entryPart q p1 p2 σ) := by
  refine CT_of (by decide +kernel) (Nat.le_of_ble_eq_true rfl) ?_
  intro p e s m args below meth c F hlk hr
  have F : FR p s m args c prog_10_method_20_code 3 "SensorHubModel" X := F
  show G X p l e (rmD 0) s m args below meth c 3 0 0 (QI X below args s vI) 0 [(0, .ref (xa X q)), (1, .int p1), (2, .int p2)] [] σ _
  unfold f_M_entryPart
  refine g_aload_n F d_M_entryPart_0 0 rfl ?_
  refine g_getR F fs_8_7 hq.1 rfl d_M_entryPart_1 ?_
  refine g_sipush F (v := 391) d_M_entryPart_4 (by decide) ?_
  refine g_iconst F (v := 3) d_M_entryPart_7 (by decide) ?_
  refine g_iload_n F d_M_entryPart_8 1 rfl ?_
  refine g_imul F d_M_entryPart_9 ?_
  refine g_iadd F d_M_entryPart_10 ?_
  refine g_iload_n F d_M_entryPart_11 2 rfl ?_
  refine g_iadd F d_M_entryPart_12 ?_
  refine g_iald F (n := 481) hq.2.1 d_M_entryPart_13 ?_
  exact g_iret F hlk hr d_M_entryPart_14
def y_M_deliver : MethodName := ⟨"SensorHubModel", "deliver", "(I)V"⟩
theorem d_M_deliver_0 : decode prog_10_method_21_code 0 = .ok (.sipush 163, 3) := by decide +kernel
theorem d_M_deliver_3 : decode prog_10_method_21_code 3 = .ok (.bipush 27, 2) := by decide +kernel
theorem d_M_deliver_5 : decode prog_10_method_21_code 5 = .ok (.aload_n 0, 1) := by decide +kernel
theorem d_M_deliver_6 : decode prog_10_method_21_code 6 = .ok (.iload_n 1, 1) := by decide +kernel
theorem d_M_deliver_7 : decode prog_10_method_21_code 7 = .ok (.iconst 0, 1) := by decide +kernel
theorem d_M_deliver_8 : decode prog_10_method_21_code 8 = .ok (.invokevirtual 77, 3) := by decide +kernel
theorem d_M_deliver_11 : decode prog_10_method_21_code 11 = .ok (.imul, 1) := by decide +kernel
theorem d_M_deliver_12 : decode prog_10_method_21_code 12 = .ok (.iadd, 1) := by decide +kernel
theorem d_M_deliver_13 : decode prog_10_method_21_code 13 = .ok (.istore_n 2, 1) := by decide +kernel
theorem d_M_deliver_14 : decode prog_10_method_21_code 14 = .ok (.aload_n 0, 1) := by decide +kernel
theorem d_M_deliver_15 : decode prog_10_method_21_code 15 = .ok (.iload_n 1, 1) := by decide +kernel
theorem d_M_deliver_16 : decode prog_10_method_21_code 16 = .ok (.iconst 1, 1) := by decide +kernel
theorem d_M_deliver_17 : decode prog_10_method_21_code 17 = .ok (.invokevirtual 77, 3) := by decide +kernel
theorem d_M_deliver_20 : decode prog_10_method_21_code 20 = .ok (.istore_n 3, 1) := by decide +kernel
theorem d_M_deliver_21 : decode prog_10_method_21_code 21 = .ok (.aload_n 0, 1) := by decide +kernel
theorem d_M_deliver_22 : decode prog_10_method_21_code 22 = .ok (.iload_n 1, 1) := by decide +kernel
theorem d_M_deliver_23 : decode prog_10_method_21_code 23 = .ok (.iconst 2, 1) := by decide +kernel
theorem d_M_deliver_24 : decode prog_10_method_21_code 24 = .ok (.invokevirtual 77, 3) := by decide +kernel
theorem d_M_deliver_27 : decode prog_10_method_21_code 27 = .ok (.istore 4, 2) := by decide +kernel
theorem d_M_deliver_29 : decode prog_10_method_21_code 29 = .ok (.aload_n 0, 1) := by decide +kernel
theorem d_M_deliver_30 : decode prog_10_method_21_code 30 = .ok (.getfield 7, 3) := by decide +kernel
theorem d_M_deliver_33 : decode prog_10_method_21_code 33 = .ok (.iconst 0, 1) := by decide +kernel
theorem d_M_deliver_34 : decode prog_10_method_21_code 34 = .ok (.iaload, 1) := by decide +kernel
theorem d_M_deliver_35 : decode prog_10_method_21_code 35 = .ok (.iload_n 3, 1) := by decide +kernel
theorem d_M_deliver_36 : decode prog_10_method_21_code 36 = .ok (.if_icmp .le 14, 3) := by decide +kernel
theorem d_M_deliver_39 : decode prog_10_method_21_code 39 = .ok (.aload_n 0, 1) := by decide +kernel
theorem d_M_deliver_40 : decode prog_10_method_21_code 40 = .ok (.getfield 7, 3) := by decide +kernel
theorem d_M_deliver_43 : decode prog_10_method_21_code 43 = .ok (.iconst 0, 1) := by decide +kernel
theorem d_M_deliver_44 : decode prog_10_method_21_code 44 = .ok (.iaload, 1) := by decide +kernel
theorem d_M_deliver_45 : decode prog_10_method_21_code 45 = .ok (.iload_n 3, 1) := by decide +kernel
theorem d_M_deliver_46 : decode prog_10_method_21_code 46 = .ok (.isub, 1) := by decide +kernel
theorem d_M_deliver_47 : decode prog_10_method_21_code 47 = .ok (.goto 4, 3) := by decide +kernel
theorem d_M_deliver_50 : decode prog_10_method_21_code 50 = .ok (.iconst 0, 1) := by decide +kernel
theorem d_M_deliver_51 : decode prog_10_method_21_code 51 = .ok (.istore 5, 2) := by decide +kernel
theorem d_M_deliver_53 : decode prog_10_method_21_code 53 = .ok (.aload_n 0, 1) := by decide +kernel
theorem d_M_deliver_54 : decode prog_10_method_21_code 54 = .ok (.getfield 7, 3) := by decide +kernel
theorem d_M_deliver_57 : decode prog_10_method_21_code 57 = .ok (.iload_n 2, 1) := by decide +kernel
theorem d_M_deliver_58 : decode prog_10_method_21_code 58 = .ok (.iconst 5, 1) := by decide +kernel
theorem d_M_deliver_59 : decode prog_10_method_21_code 59 = .ok (.iadd, 1) := by decide +kernel
theorem d_M_deliver_60 : decode prog_10_method_21_code 60 = .ok (.dup2, 1) := by decide +kernel
theorem d_M_deliver_61 : decode prog_10_method_21_code 61 = .ok (.iaload, 1) := by decide +kernel
theorem d_M_deliver_62 : decode prog_10_method_21_code 62 = .ok (.iconst 1, 1) := by decide +kernel
theorem d_M_deliver_63 : decode prog_10_method_21_code 63 = .ok (.iadd, 1) := by decide +kernel
theorem d_M_deliver_64 : decode prog_10_method_21_code 64 = .ok (.iastore, 1) := by decide +kernel
theorem d_M_deliver_65 : decode prog_10_method_21_code 65 = .ok (.aload_n 0, 1) := by decide +kernel
theorem d_M_deliver_66 : decode prog_10_method_21_code 66 = .ok (.getfield 7, 3) := by decide +kernel
theorem d_M_deliver_69 : decode prog_10_method_21_code 69 = .ok (.iload_n 2, 1) := by decide +kernel
theorem d_M_deliver_70 : decode prog_10_method_21_code 70 = .ok (.bipush 6, 2) := by decide +kernel
theorem d_M_deliver_72 : decode prog_10_method_21_code 72 = .ok (.iadd, 1) := by decide +kernel
theorem d_M_deliver_73 : decode prog_10_method_21_code 73 = .ok (.dup2, 1) := by decide +kernel
theorem d_M_deliver_74 : decode prog_10_method_21_code 74 = .ok (.iaload, 1) := by decide +kernel
theorem d_M_deliver_75 : decode prog_10_method_21_code 75 = .ok (.iload 4, 2) := by decide +kernel
theorem d_M_deliver_77 : decode prog_10_method_21_code 77 = .ok (.bipush (-8), 2) := by decide +kernel
theorem d_M_deliver_79 : decode prog_10_method_21_code 79 = .ok (.if_icmp .ne 7, 3) := by decide +kernel
theorem d_M_deliver_82 : decode prog_10_method_21_code 82 = .ok (.iconst 1, 1) := by decide +kernel
theorem d_M_deliver_83 : decode prog_10_method_21_code 83 = .ok (.goto 4, 3) := by decide +kernel
theorem d_M_deliver_86 : decode prog_10_method_21_code 86 = .ok (.iconst 0, 1) := by decide +kernel
theorem d_M_deliver_87 : decode prog_10_method_21_code 87 = .ok (.iadd, 1) := by decide +kernel
theorem d_M_deliver_88 : decode prog_10_method_21_code 88 = .ok (.iastore, 1) := by decide +kernel
theorem d_M_deliver_89 : decode prog_10_method_21_code 89 = .ok (.aload_n 0, 1) := by decide +kernel
theorem d_M_deliver_90 : decode prog_10_method_21_code 90 = .ok (.getfield 7, 3) := by decide +kernel
theorem d_M_deliver_93 : decode prog_10_method_21_code 93 = .ok (.iload_n 2, 1) := by decide +kernel
theorem d_M_deliver_94 : decode prog_10_method_21_code 94 = .ok (.bipush 7, 2) := by decide +kernel
theorem d_M_deliver_96 : decode prog_10_method_21_code 96 = .ok (.iadd, 1) := by decide +kernel
theorem d_M_deliver_97 : decode prog_10_method_21_code 97 = .ok (.aload_n 0, 1) := by decide +kernel
theorem d_M_deliver_98 : decode prog_10_method_21_code 98 = .ok (.getfield 7, 3) := by decide +kernel
theorem d_M_deliver_101 : decode prog_10_method_21_code 101 = .ok (.iload_n 2, 1) := by decide +kernel
theorem d_M_deliver_102 : decode prog_10_method_21_code 102 = .ok (.bipush 7, 2) := by decide +kernel
theorem d_M_deliver_104 : decode prog_10_method_21_code 104 = .ok (.iadd, 1) := by decide +kernel
theorem d_M_deliver_105 : decode prog_10_method_21_code 105 = .ok (.iaload, 1) := by decide +kernel
theorem d_M_deliver_106 : decode prog_10_method_21_code 106 = .ok (.iload 5, 2) := by decide +kernel
theorem d_M_deliver_108 : decode prog_10_method_21_code 108 = .ok (.if_icmp .le 15, 3) := by decide +kernel
theorem d_M_deliver_111 : decode prog_10_method_21_code 111 = .ok (.aload_n 0, 1) := by decide +kernel
theorem d_M_deliver_112 : decode prog_10_method_21_code 112 = .ok (.getfield 7, 3) := by decide +kernel
theorem d_M_deliver_115 : decode prog_10_method_21_code 115 = .ok (.iload_n 2, 1) := by decide +kernel
theorem d_M_deliver_116 : decode prog_10_method_21_code 116 = .ok (.bipush 7, 2) := by decide +kernel
theorem d_M_deliver_118 : decode prog_10_method_21_code 118 = .ok (.iadd, 1) := by decide +kernel
theorem d_M_deliver_119 : decode prog_10_method_21_code 119 = .ok (.iaload, 1) := by decide +kernel
theorem d_M_deliver_120 : decode prog_10_method_21_code 120 = .ok (.goto 5, 3) := by decide +kernel
theorem d_M_deliver_123 : decode prog_10_method_21_code 123 = .ok (.iload 5, 2) := by decide +kernel
theorem d_M_deliver_125 : decode prog_10_method_21_code 125 = .ok (.iastore, 1) := by decide +kernel
theorem d_M_deliver_126 : decode prog_10_method_21_code 126 = .ok (.bipush 26, 2) := by decide +kernel
theorem d_M_deliver_128 : decode prog_10_method_21_code 128 = .ok (.istore 6, 2) := by decide +kernel
theorem d_M_deliver_130 : decode prog_10_method_21_code 130 = .ok (.iload 6, 2) := by decide +kernel
theorem d_M_deliver_132 : decode prog_10_method_21_code 132 = .ok (.bipush 12, 2) := by decide +kernel
theorem d_M_deliver_134 : decode prog_10_method_21_code 134 = .ok (.if_icmp .lt 29, 3) := by decide +kernel
theorem d_M_deliver_137 : decode prog_10_method_21_code 137 = .ok (.aload_n 0, 1) := by decide +kernel
theorem d_M_deliver_138 : decode prog_10_method_21_code 138 = .ok (.getfield 7, 3) := by decide +kernel
theorem d_M_deliver_141 : decode prog_10_method_21_code 141 = .ok (.iload_n 2, 1) := by decide +kernel
theorem d_M_deliver_142 : decode prog_10_method_21_code 142 = .ok (.iload 6, 2) := by decide +kernel
theorem d_M_deliver_144 : decode prog_10_method_21_code 144 = .ok (.iadd, 1) := by decide +kernel
theorem d_M_deliver_145 : decode prog_10_method_21_code 145 = .ok (.aload_n 0, 1) := by decide +kernel
theorem d_M_deliver_146 : decode prog_10_method_21_code 146 = .ok (.getfield 7, 3) := by decide +kernel
theorem d_M_deliver_149 : decode prog_10_method_21_code 149 = .ok (.iload_n 2, 1) := by decide +kernel
theorem d_M_deliver_150 : decode prog_10_method_21_code 150 = .ok (.iload 6, 2) := by decide +kernel
theorem d_M_deliver_152 : decode prog_10_method_21_code 152 = .ok (.iadd, 1) := by decide +kernel
theorem d_M_deliver_153 : decode prog_10_method_21_code 153 = .ok (.iconst 3, 1) := by decide +kernel
theorem d_M_deliver_154 : decode prog_10_method_21_code 154 = .ok (.isub, 1) := by decide +kernel
theorem d_M_deliver_155 : decode prog_10_method_21_code 155 = .ok (.iaload, 1) := by decide +kernel
theorem d_M_deliver_156 : decode prog_10_method_21_code 156 = .ok (.iastore, 1) := by decide +kernel
theorem d_M_deliver_157 : decode prog_10_method_21_code 157 = .ok (.iinc 6 (-1), 3) := by decide +kernel
theorem d_M_deliver_160 : decode prog_10_method_21_code 160 = .ok (.goto (-30), 3) := by decide +kernel
theorem d_M_deliver_163 : decode prog_10_method_21_code 163 = .ok (.aload_n 0, 1) := by decide +kernel
theorem d_M_deliver_164 : decode prog_10_method_21_code 164 = .ok (.getfield 7, 3) := by decide +kernel
theorem d_M_deliver_167 : decode prog_10_method_21_code 167 = .ok (.iload_n 2, 1) := by decide +kernel
theorem d_M_deliver_168 : decode prog_10_method_21_code 168 = .ok (.bipush 9, 2) := by decide +kernel
theorem d_M_deliver_170 : decode prog_10_method_21_code 170 = .ok (.iadd, 1) := by decide +kernel
theorem d_M_deliver_171 : decode prog_10_method_21_code 171 = .ok (.iload_n 3, 1) := by decide +kernel
theorem d_M_deliver_172 : decode prog_10_method_21_code 172 = .ok (.iastore, 1) := by decide +kernel
theorem d_M_deliver_173 : decode prog_10_method_21_code 173 = .ok (.aload_n 0, 1) := by decide +kernel
theorem d_M_deliver_174 : decode prog_10_method_21_code 174 = .ok (.getfield 7, 3) := by decide +kernel
theorem d_M_deliver_177 : decode prog_10_method_21_code 177 = .ok (.iload_n 2, 1) := by decide +kernel
theorem d_M_deliver_178 : decode prog_10_method_21_code 178 = .ok (.bipush 9, 2) := by decide +kernel
theorem d_M_deliver_180 : decode prog_10_method_21_code 180 = .ok (.iadd, 1) := by decide +kernel
theorem d_M_deliver_181 : decode prog_10_method_21_code 181 = .ok (.iconst 1, 1) := by decide +kernel
theorem d_M_deliver_182 : decode prog_10_method_21_code 182 = .ok (.iadd, 1) := by decide +kernel
theorem d_M_deliver_183 : decode prog_10_method_21_code 183 = .ok (.iload 4, 2) := by decide +kernel
theorem d_M_deliver_185 : decode prog_10_method_21_code 185 = .ok (.iastore, 1) := by decide +kernel
theorem d_M_deliver_186 : decode prog_10_method_21_code 186 = .ok (.aload_n 0, 1) := by decide +kernel
theorem d_M_deliver_187 : decode prog_10_method_21_code 187 = .ok (.getfield 7, 3) := by decide +kernel
theorem d_M_deliver_190 : decode prog_10_method_21_code 190 = .ok (.iload_n 2, 1) := by decide +kernel
theorem d_M_deliver_191 : decode prog_10_method_21_code 191 = .ok (.bipush 9, 2) := by decide +kernel
theorem d_M_deliver_193 : decode prog_10_method_21_code 193 = .ok (.iadd, 1) := by decide +kernel
theorem d_M_deliver_194 : decode prog_10_method_21_code 194 = .ok (.iconst 2, 1) := by decide +kernel
theorem d_M_deliver_195 : decode prog_10_method_21_code 195 = .ok (.iadd, 1) := by decide +kernel
theorem d_M_deliver_196 : decode prog_10_method_21_code 196 = .ok (.aload_n 0, 1) := by decide +kernel
theorem d_M_deliver_197 : decode prog_10_method_21_code 197 = .ok (.getfield 7, 3) := by decide +kernel
theorem d_M_deliver_200 : decode prog_10_method_21_code 200 = .ok (.iconst 0, 1) := by decide +kernel
theorem d_M_deliver_201 : decode prog_10_method_21_code 201 = .ok (.iaload, 1) := by decide +kernel
theorem d_M_deliver_202 : decode prog_10_method_21_code 202 = .ok (.iastore, 1) := by decide +kernel
theorem d_M_deliver_203 : decode prog_10_method_21_code 203 = .ok (.return_, 1) := by decide +kernel
theorem cv_8_77 : CSV "SensorHubModel" 77 y_M_entryPart prog_10_method_20_code 3 (some .int) 2 := ⟨gw_I 1009 (by decide +kernel) rfl, gw_I 1011 (by decide +kernel) rfl, gw_I 38 (by decide +kernel) rfl, gw_I 78 (by decide +kernel) rfl, gw_I 1012 (by decide +kernel) rfl, ⟨by decide +kernel, by decide +kernel⟩, by decide +kernel⟩
def L_M_deliver_130 (r0 : Nat) (y2 : Int32) (y3 : Int32) (y4 : Int32) (k : Mem → Option (Unit × Mem)) : Nat → Int32 → Mem → Option (Unit × Mem)
  | 0, _, _ => none
  | n + 1, x6, σ =>
    if x6 < (12 : Int32) then
      k σ
    else
      if ib ((y2 + x6) - (3 : Int32)) 481 then
        if ib (y2 + x6) 481 then
          lt (wr σ (r0 + 1) (y2 + x6).toNatClampNeg (σ (r0 + 1) ((y2 + x6) - (3 : Int32)).toNatClampNeg)) fun σ11 =>
          L_M_deliver_130 r0 y2 y3 y4 k n (x6 + (-1)) σ11
        else none
      else none
def f_M_deliver (q : Nat) (p1 : Int32) (σ : Mem) : Option (Unit × Mem) :=
  bd (f_M_entryPart q p1 (0 : Int32) σ) fun r1 σ2 =>
  lt ((163 : Int32) + ((27 : Int32) * r1)) fun v3 =>
  bd (f_M_entryPart q p1 (1 : Int32) σ2) fun r4 σ5 =>
  bd (f_M_entryPart q p1 (2 : Int32) σ5) fun r6 σ7 =>
  if (σ7 (q + 1) 0) ≤ r4 then
    if ib (v3 + (5 : Int32)) 481 then
      if ib (v3 + (5 : Int32)) 481 then
        lt (wr σ7 (q + 1) (v3 + (5 : Int32)).toNatClampNeg ((σ7 (q + 1) (v3 + (5 : Int32)).toNatClampNeg) + (1 : Int32))) fun σ8 =>
        if ib (v3 + (6 : Int32)) 481 then
          if r6 = (-8 : Int32) then
            if ib (v3 + (6 : Int32)) 481 then
              lt (wr σ8 (q + 1) (v3 + (6 : Int32)).toNatClampNeg ((σ8 (q + 1) (v3 + (6 : Int32)).toNatClampNeg) + (1 : Int32))) fun σ9 =>
              if ib (v3 + (7 : Int32)) 481 then
                if (σ9 (q + 1) (v3 + (7 : Int32)).toNatClampNeg) ≤ (0 : Int32) then
                  if ib (v3 + (7 : Int32)) 481 then
                    lt (wr σ9 (q + 1) (v3 + (7 : Int32)).toNatClampNeg (0 : Int32)) fun σ10 =>
                    L_M_deliver_130 q v3 r4 r6 (fun σ12 =>
                      if ib (v3 + (9 : Int32)) 481 then
                        lt (wr σ12 (q + 1) (v3 + (9 : Int32)).toNatClampNeg r4) fun σ13 =>
                        if ib ((v3 + (9 : Int32)) + (1 : Int32)) 481 then
                          lt (wr σ13 (q + 1) ((v3 + (9 : Int32)) + (1 : Int32)).toNatClampNeg r6) fun σ14 =>
                          if ib ((v3 + (9 : Int32)) + (2 : Int32)) 481 then
                            lt (wr σ14 (q + 1) ((v3 + (9 : Int32)) + (2 : Int32)).toNatClampNeg (σ14 (q + 1) 0)) fun σ15 =>
                            some ((), σ15)
                          else none
                        else none
                      else none) FU (26 : Int32) σ10
                  else none
                else
                  if ib (v3 + (7 : Int32)) 481 then
                    if ib (v3 + (7 : Int32)) 481 then
                      lt (wr σ9 (q + 1) (v3 + (7 : Int32)).toNatClampNeg (σ9 (q + 1) (v3 + (7 : Int32)).toNatClampNeg)) fun σ16 =>
                      L_M_deliver_130 q v3 r4 r6 (fun σ17 =>
                        if ib (v3 + (9 : Int32)) 481 then
                          lt (wr σ17 (q + 1) (v3 + (9 : Int32)).toNatClampNeg r4) fun σ18 =>
                          if ib ((v3 + (9 : Int32)) + (1 : Int32)) 481 then
                            lt (wr σ18 (q + 1) ((v3 + (9 : Int32)) + (1 : Int32)).toNatClampNeg r6) fun σ19 =>
                            if ib ((v3 + (9 : Int32)) + (2 : Int32)) 481 then
                              lt (wr σ19 (q + 1) ((v3 + (9 : Int32)) + (2 : Int32)).toNatClampNeg (σ19 (q + 1) 0)) fun σ20 =>
                              some ((), σ20)
                            else none
                          else none
                        else none) FU (26 : Int32) σ16
                    else none
                  else none
              else none
            else none
          else
            if ib (v3 + (6 : Int32)) 481 then
              lt (wr σ8 (q + 1) (v3 + (6 : Int32)).toNatClampNeg ((σ8 (q + 1) (v3 + (6 : Int32)).toNatClampNeg) + (0 : Int32))) fun σ21 =>
              if ib (v3 + (7 : Int32)) 481 then
                if (σ21 (q + 1) (v3 + (7 : Int32)).toNatClampNeg) ≤ (0 : Int32) then
                  if ib (v3 + (7 : Int32)) 481 then
                    lt (wr σ21 (q + 1) (v3 + (7 : Int32)).toNatClampNeg (0 : Int32)) fun σ22 =>
                    L_M_deliver_130 q v3 r4 r6 (fun σ23 =>
                      if ib (v3 + (9 : Int32)) 481 then
                        lt (wr σ23 (q + 1) (v3 + (9 : Int32)).toNatClampNeg r4) fun σ24 =>
                        if ib ((v3 + (9 : Int32)) + (1 : Int32)) 481 then
                          lt (wr σ24 (q + 1) ((v3 + (9 : Int32)) + (1 : Int32)).toNatClampNeg r6) fun σ25 =>
                          if ib ((v3 + (9 : Int32)) + (2 : Int32)) 481 then
                            lt (wr σ25 (q + 1) ((v3 + (9 : Int32)) + (2 : Int32)).toNatClampNeg (σ25 (q + 1) 0)) fun σ26 =>
                            some ((), σ26)
                          else none
                        else none
                      else none) FU (26 : Int32) σ22
                  else none
                else
                  if ib (v3 + (7 : Int32)) 481 then
                    if ib (v3 + (7 : Int32)) 481 then
                      lt (wr σ21 (q + 1) (v3 + (7 : Int32)).toNatClampNeg (σ21 (q + 1) (v3 + (7 : Int32)).toNatClampNeg)) fun σ27 =>
                      L_M_deliver_130 q v3 r4 r6 (fun σ28 =>
                        if ib (v3 + (9 : Int32)) 481 then
                          lt (wr σ28 (q + 1) (v3 + (9 : Int32)).toNatClampNeg r4) fun σ29 =>
                          if ib ((v3 + (9 : Int32)) + (1 : Int32)) 481 then
                            lt (wr σ29 (q + 1) ((v3 + (9 : Int32)) + (1 : Int32)).toNatClampNeg r6) fun σ30 =>
                            if ib ((v3 + (9 : Int32)) + (2 : Int32)) 481 then
                              lt (wr σ30 (q + 1) ((v3 + (9 : Int32)) + (2 : Int32)).toNatClampNeg (σ30 (q + 1) 0)) fun σ31 =>
                              some ((), σ31)
                            else none
                          else none
                        else none) FU (26 : Int32) σ27
                    else none
                  else none
              else none
            else none
        else none
      else none
    else none
  else
    lt ((σ7 (q + 1) 0) - r4) fun v32 =>
    if ib (v3 + (5 : Int32)) 481 then
      if ib (v3 + (5 : Int32)) 481 then
        lt (wr σ7 (q + 1) (v3 + (5 : Int32)).toNatClampNeg ((σ7 (q + 1) (v3 + (5 : Int32)).toNatClampNeg) + (1 : Int32))) fun σ33 =>
        if ib (v3 + (6 : Int32)) 481 then
          if r6 = (-8 : Int32) then
            if ib (v3 + (6 : Int32)) 481 then
              lt (wr σ33 (q + 1) (v3 + (6 : Int32)).toNatClampNeg ((σ33 (q + 1) (v3 + (6 : Int32)).toNatClampNeg) + (1 : Int32))) fun σ34 =>
              if ib (v3 + (7 : Int32)) 481 then
                if (σ34 (q + 1) (v3 + (7 : Int32)).toNatClampNeg) ≤ v32 then
                  if ib (v3 + (7 : Int32)) 481 then
                    lt (wr σ34 (q + 1) (v3 + (7 : Int32)).toNatClampNeg v32) fun σ35 =>
                    L_M_deliver_130 q v3 r4 r6 (fun σ36 =>
                      if ib (v3 + (9 : Int32)) 481 then
                        lt (wr σ36 (q + 1) (v3 + (9 : Int32)).toNatClampNeg r4) fun σ37 =>
                        if ib ((v3 + (9 : Int32)) + (1 : Int32)) 481 then
                          lt (wr σ37 (q + 1) ((v3 + (9 : Int32)) + (1 : Int32)).toNatClampNeg r6) fun σ38 =>
                          if ib ((v3 + (9 : Int32)) + (2 : Int32)) 481 then
                            lt (wr σ38 (q + 1) ((v3 + (9 : Int32)) + (2 : Int32)).toNatClampNeg (σ38 (q + 1) 0)) fun σ39 =>
                            some ((), σ39)
                          else none
                        else none
                      else none) FU (26 : Int32) σ35
                  else none
                else
                  if ib (v3 + (7 : Int32)) 481 then
                    if ib (v3 + (7 : Int32)) 481 then
                      lt (wr σ34 (q + 1) (v3 + (7 : Int32)).toNatClampNeg (σ34 (q + 1) (v3 + (7 : Int32)).toNatClampNeg)) fun σ40 =>
                      L_M_deliver_130 q v3 r4 r6 (fun σ41 =>
                        if ib (v3 + (9 : Int32)) 481 then
                          lt (wr σ41 (q + 1) (v3 + (9 : Int32)).toNatClampNeg r4) fun σ42 =>
                          if ib ((v3 + (9 : Int32)) + (1 : Int32)) 481 then
                            lt (wr σ42 (q + 1) ((v3 + (9 : Int32)) + (1 : Int32)).toNatClampNeg r6) fun σ43 =>
                            if ib ((v3 + (9 : Int32)) + (2 : Int32)) 481 then
                              lt (wr σ43 (q + 1) ((v3 + (9 : Int32)) + (2 : Int32)).toNatClampNeg (σ43 (q + 1) 0)) fun σ44 =>
                              some ((), σ44)
                            else none
                          else none
                        else none) FU (26 : Int32) σ40
                    else none
                  else none
              else none
            else none
          else
            if ib (v3 + (6 : Int32)) 481 then
              lt (wr σ33 (q + 1) (v3 + (6 : Int32)).toNatClampNeg ((σ33 (q + 1) (v3 + (6 : Int32)).toNatClampNeg) + (0 : Int32))) fun σ45 =>
              if ib (v3 + (7 : Int32)) 481 then
                if (σ45 (q + 1) (v3 + (7 : Int32)).toNatClampNeg) ≤ v32 then
                  if ib (v3 + (7 : Int32)) 481 then
                    lt (wr σ45 (q + 1) (v3 + (7 : Int32)).toNatClampNeg v32) fun σ46 =>
                    L_M_deliver_130 q v3 r4 r6 (fun σ47 =>
                      if ib (v3 + (9 : Int32)) 481 then
                        lt (wr σ47 (q + 1) (v3 + (9 : Int32)).toNatClampNeg r4) fun σ48 =>
                        if ib ((v3 + (9 : Int32)) + (1 : Int32)) 481 then
                          lt (wr σ48 (q + 1) ((v3 + (9 : Int32)) + (1 : Int32)).toNatClampNeg r6) fun σ49 =>
                          if ib ((v3 + (9 : Int32)) + (2 : Int32)) 481 then
                            lt (wr σ49 (q + 1) ((v3 + (9 : Int32)) + (2 : Int32)).toNatClampNeg (σ49 (q + 1) 0)) fun σ50 =>
                            some ((), σ50)
                          else none
                        else none
                      else none) FU (26 : Int32) σ46
                  else none
                else
                  if ib (v3 + (7 : Int32)) 481 then
                    if ib (v3 + (7 : Int32)) 481 then
                      lt (wr σ45 (q + 1) (v3 + (7 : Int32)).toNatClampNeg (σ45 (q + 1) (v3 + (7 : Int32)).toNatClampNeg)) fun σ51 =>
                      L_M_deliver_130 q v3 r4 r6 (fun σ52 =>
                        if ib (v3 + (9 : Int32)) 481 then
                          lt (wr σ52 (q + 1) (v3 + (9 : Int32)).toNatClampNeg r4) fun σ53 =>
                          if ib ((v3 + (9 : Int32)) + (1 : Int32)) 481 then
                            lt (wr σ53 (q + 1) ((v3 + (9 : Int32)) + (1 : Int32)).toNatClampNeg r6) fun σ54 =>
                            if ib ((v3 + (9 : Int32)) + (2 : Int32)) 481 then
                              lt (wr σ54 (q + 1) ((v3 + (9 : Int32)) + (2 : Int32)).toNatClampNeg (σ54 (q + 1) 0)) fun σ55 =>
                              some ((), σ55)
                            else none
                          else none
                        else none) FU (26 : Int32) σ51
                    else none
                  else none
              else none
            else none
        else none
      else none
    else none
set_option maxRecDepth 100000 in
set_option maxHeartbeats 4000000 in
theorem l_L_M_deliver_130 {X : CX} {p : Program} {l : Launch} {e : Env} {s : State} {m : MethodId} {args : Array Value} {below : List Frame} {meth : Method} {c : Code} (F : FR p s m args c prog_10_method_21_code 7 "SensorHubModel" X) (hlk : meth.locks = false) (hr : meth.sig.returnType = none) (r0 : Nat) (y2 : Int32) (y3 : Int32) (y4 : Int32) (hr0 : ModelOK X r0) (k : Mem → Option (Unit × Mem)) (hk : ∀  (σ : Mem), G X p l e (rmD 1) s m args below meth c 7 0 0 (QI X below args s vU) 163 [(0, .ref (xa X r0)), (2, .int y2), (3, .int y3), (4, .int y4)] [] σ (k σ)) : ∀ (n : Nat) (x6 : Int32) (σ : Mem), G X p l e (rmD 1) s m args below meth c 7 0 0 (QI X below args s vU) 130 [(0, .ref (xa X r0)), (2, .int y2), (3, .int y3), (4, .int y4), (6, .int x6)] [] σ (L_M_deliver_130 r0 y2 y3 y4 k n x6 σ) := by
  intro n
  induction n with
  | zero => intros; exact g_no
  | succ n ih =>
    intro x6 σ
    unfold L_M_deliver_130
    refine g_iload F d_M_deliver_130 4 rfl ?_
    refine g_bipush F (v := 12) d_M_deliver_132 (by decide) ?_
    refine g_icmp_lt F (tgt := 163) d_M_deliver_134 (by decide) (fun h10 => ?_) (fun h11 => ?_)
    · exact g_sub [0, 1, 2, 3] rfl (hk  _)
    refine g_aload_n F d_M_deliver_137 0 rfl ?_
    refine g_getR F fs_8_7 hr0.1 rfl d_M_deliver_138 ?_
    refine g_iload_n F d_M_deliver_141 1 rfl ?_
    refine g_iload F d_M_deliver_142 4 rfl ?_
    refine g_iadd F d_M_deliver_144 ?_
    refine g_aload_n F d_M_deliver_145 0 rfl ?_
    refine g_getR F fs_8_7 hr0.1 rfl d_M_deliver_146 ?_
    refine g_iload_n F d_M_deliver_149 1 rfl ?_
    refine g_iload F d_M_deliver_150 4 rfl ?_
    refine g_iadd F d_M_deliver_152 ?_
    refine g_iconst F (v := 3) d_M_deliver_153 (by decide) ?_
    refine g_isub F d_M_deliver_154 ?_
    refine g_iald F (n := 481) hr0.2.1 d_M_deliver_155 ?_
    refine g_iast F (n := 481) hr0.2.1 d_M_deliver_156 ?_
    refine g_ltM (fun σ11 _ => ?_)
    refine g_iinc F (v := (-1)) (ls' := [(6, .int (x6 + (-1))), (0, .ref (xa X r0)), (2, .int y2), (3, .int y3), (4, .int y4)]) d_M_deliver_157 4 rfl (by decide) (by decide) rfl ?_
    refine g_goto F (tgt := 130) d_M_deliver_160 (by decide) ?_
    exact g_sub [1, 2, 3, 4, 0] rfl (ih _ _)
set_option maxRecDepth 100000 in
set_option maxHeartbeats 4000000 in
theorem c_M_deliver {X : CX} (l : Launch) (q : Nat) (p1 : Int32) (hq : ModelOK X q) (σ : Mem) : CT X l y_M_deliver prog_10_method_21_code 7 none 1 vU [.ref (xa X q), .int p1] σ (f_M_deliver q p1 σ) := by
  refine CT_of (by decide +kernel) (Nat.le_of_ble_eq_true rfl) ?_
  intro p e s m args below meth c F hlk hr
  have F : FR p s m args c prog_10_method_21_code 7 "SensorHubModel" X := F
  show G X p l e (rmD 1) s m args below meth c 7 0 0 (QI X below args s vU) 0 [(0, .ref (xa X q)), (1, .int p1)] [] σ _
  unfold f_M_deliver
  refine g_sipush F (v := 163) d_M_deliver_0 (by decide) ?_
  refine g_bipush F (v := 27) d_M_deliver_3 (by decide) ?_
  refine g_aload_n F d_M_deliver_5 0 rfl ?_
  refine g_iload_n F d_M_deliver_6 1 rfl ?_
  refine g_iconst F (v := 0) d_M_deliver_7 (by decide) ?_
  refine g_callV F (dp := 0) (ci := 8) (As := [.int p1, .int (0 : Int32)]) (c_M_entryPart l _ _ _ hq _) cv_8_77 hq.1 rfl rfl rfl (Nat.le_of_ble_eq_true rfl) ⟨Nat.le_of_ble_eq_true rfl, Nat.le_of_ble_eq_true rfl⟩ ⟨Nat.zero_le _, Nat.zero_le _⟩ d_M_deliver_8 (fun r1 σ2 h1 => ?_)
  refine g_imul F d_M_deliver_11 ?_
  refine g_iadd F d_M_deliver_12 ?_
  refine g_ltI (fun v3 _ => ?_)
  refine g_istore_n F (ls' := [(2, .int v3), (0, .ref (xa X q)), (1, .int p1)]) d_M_deliver_13 (by decide) rfl ?_
  refine g_aload_n F d_M_deliver_14 1 rfl ?_
  refine g_iload_n F d_M_deliver_15 2 rfl ?_
  refine g_iconst F (v := 1) d_M_deliver_16 (by decide) ?_
  refine g_callV F (dp := 0) (ci := 8) (As := [.int p1, .int (1 : Int32)]) (c_M_entryPart l _ _ _ hq _) cv_8_77 hq.1 rfl rfl rfl (Nat.le_of_ble_eq_true rfl) ⟨Nat.le_of_ble_eq_true rfl, Nat.le_of_ble_eq_true rfl⟩ ⟨Nat.zero_le _, Nat.zero_le _⟩ d_M_deliver_17 (fun r4 σ5 h2 => ?_)
  refine g_istore_n F (ls' := [(3, .int r4), (2, .int v3), (0, .ref (xa X q)), (1, .int p1)]) d_M_deliver_20 (by decide) rfl ?_
  refine g_aload_n F d_M_deliver_21 2 rfl ?_
  refine g_iload_n F d_M_deliver_22 3 rfl ?_
  refine g_iconst F (v := 2) d_M_deliver_23 (by decide) ?_
  refine g_callV F (dp := 0) (ci := 8) (As := [.int p1, .int (2 : Int32)]) (c_M_entryPart l _ _ _ hq _) cv_8_77 hq.1 rfl rfl rfl (Nat.le_of_ble_eq_true rfl) ⟨Nat.le_of_ble_eq_true rfl, Nat.le_of_ble_eq_true rfl⟩ ⟨Nat.zero_le _, Nat.zero_le _⟩ d_M_deliver_24 (fun r6 σ7 h3 => ?_)
  refine g_istore F (ls' := [(4, .int r6), (3, .int r4), (2, .int v3), (0, .ref (xa X q)), (1, .int p1)]) d_M_deliver_27 (by decide) rfl ?_
  refine g_aload_n F d_M_deliver_29 3 rfl ?_
  refine g_getR F fs_8_7 hq.1 rfl d_M_deliver_30 ?_
  refine g_iconst F (v := 0) d_M_deliver_33 (by decide) ?_
  refine g_ialdC F (n := 481) 0 (by decide) (by decide) hq.2.1 d_M_deliver_34 ?_
  refine g_iload_n F d_M_deliver_35 1 rfl ?_
  refine g_icmp_le F (tgt := 50) d_M_deliver_36 (by decide) (fun h4 => ?_) (fun h5 => ?_)
  · refine g_iconst F (v := 0) d_M_deliver_50 (by decide) ?_
    refine g_istore F (ls' := [(5, .int (0 : Int32)), (4, .int r6), (3, .int r4), (2, .int v3), (0, .ref (xa X q)), (1, .int p1)]) d_M_deliver_51 (by decide) rfl ?_
    refine g_aload_n F d_M_deliver_53 4 rfl ?_
    refine g_getR F fs_8_7 hq.1 rfl d_M_deliver_54 ?_
    refine g_iload_n F d_M_deliver_57 3 rfl ?_
    refine g_iconst F (v := 5) d_M_deliver_58 (by decide) ?_
    refine g_iadd F d_M_deliver_59 ?_
    refine g_dup2 F d_M_deliver_60 rfl rfl ?_
    refine g_iald F (n := 481) hq.2.1 d_M_deliver_61 ?_
    refine g_iconst F (v := 1) d_M_deliver_62 (by decide) ?_
    refine g_iadd F d_M_deliver_63 ?_
    refine g_iast F (n := 481) hq.2.1 d_M_deliver_64 ?_
    refine g_ltM (fun σ8 _ => ?_)
    refine g_aload_n F d_M_deliver_65 4 rfl ?_
    refine g_getR F fs_8_7 hq.1 rfl d_M_deliver_66 ?_
    refine g_iload_n F d_M_deliver_69 3 rfl ?_
    refine g_bipush F (v := 6) d_M_deliver_70 (by decide) ?_
    refine g_iadd F d_M_deliver_72 ?_
    refine g_dup2 F d_M_deliver_73 rfl rfl ?_
    refine g_iald F (n := 481) hq.2.1 d_M_deliver_74 ?_
    refine g_iload F d_M_deliver_75 1 rfl ?_
    refine g_bipush F (v := (-8)) d_M_deliver_77 (by decide) ?_
    refine g_icmp_ne F (tgt := 86) d_M_deliver_79 (by decide) (fun h6 => ?_) (fun h7 => ?_)
    · refine g_iconst F (v := 1) d_M_deliver_82 (by decide) ?_
      refine g_goto F (tgt := 87) d_M_deliver_83 (by decide) ?_
      refine g_iadd F d_M_deliver_87 ?_
      refine g_iast F (n := 481) hq.2.1 d_M_deliver_88 ?_
      refine g_ltM (fun σ9 _ => ?_)
      refine g_aload_n F d_M_deliver_89 4 rfl ?_
      refine g_getR F fs_8_7 hq.1 rfl d_M_deliver_90 ?_
      refine g_iload_n F d_M_deliver_93 3 rfl ?_
      refine g_bipush F (v := 7) d_M_deliver_94 (by decide) ?_
      refine g_iadd F d_M_deliver_96 ?_
      refine g_aload_n F d_M_deliver_97 4 rfl ?_
      refine g_getR F fs_8_7 hq.1 rfl d_M_deliver_98 ?_
      refine g_iload_n F d_M_deliver_101 3 rfl ?_
      refine g_bipush F (v := 7) d_M_deliver_102 (by decide) ?_
      refine g_iadd F d_M_deliver_104 ?_
      refine g_iald F (n := 481) hq.2.1 d_M_deliver_105 ?_
      refine g_iload F d_M_deliver_106 0 rfl ?_
      refine g_icmp_le F (tgt := 123) d_M_deliver_108 (by decide) (fun h8 => ?_) (fun h9 => ?_)
      · refine g_iload F d_M_deliver_123 0 rfl ?_
        refine g_iast F (n := 481) hq.2.1 d_M_deliver_125 ?_
        refine g_ltM (fun σ10 _ => ?_)
        refine g_bipush F (v := 26) d_M_deliver_126 (by decide) ?_
        refine g_istore F (ls' := [(6, .int (26 : Int32)), (5, .int (0 : Int32)), (4, .int r6), (3, .int r4), (2, .int v3), (0, .ref (xa X q)), (1, .int p1)]) d_M_deliver_128 (by decide) rfl ?_
        refine g_sub [5, 4, 3, 2, 0] rfl (l_L_M_deliver_130 F hlk hr _ _ _ _ hq _ (fun σ12 => ?_) FU _ _)
        refine g_aload_n F d_M_deliver_163 0 rfl ?_
        refine g_getR F fs_8_7 hq.1 rfl d_M_deliver_164 ?_
        refine g_iload_n F d_M_deliver_167 1 rfl ?_
        refine g_bipush F (v := 9) d_M_deliver_168 (by decide) ?_
        refine g_iadd F d_M_deliver_170 ?_
        refine g_iload_n F d_M_deliver_171 2 rfl ?_
        refine g_iast F (n := 481) hq.2.1 d_M_deliver_172 ?_
        refine g_ltM (fun σ13 _ => ?_)
        refine g_aload_n F d_M_deliver_173 0 rfl ?_
        refine g_getR F fs_8_7 hq.1 rfl d_M_deliver_174 ?_
        refine g_iload_n F d_M_deliver_177 1 rfl ?_
        refine g_bipush F (v := 9) d_M_deliver_178 (by decide) ?_
        refine g_iadd F d_M_deliver_180 ?_
        refine g_iconst F (v := 1) d_M_deliver_181 (by decide) ?_
        refine g_iadd F d_M_deliver_182 ?_
        refine g_iload F d_M_deliver_183 3 rfl ?_
        refine g_iast F (n := 481) hq.2.1 d_M_deliver_185 ?_
        refine g_ltM (fun σ14 _ => ?_)
        refine g_aload_n F d_M_deliver_186 0 rfl ?_
        refine g_getR F fs_8_7 hq.1 rfl d_M_deliver_187 ?_
        refine g_iload_n F d_M_deliver_190 1 rfl ?_
        refine g_bipush F (v := 9) d_M_deliver_191 (by decide) ?_
        refine g_iadd F d_M_deliver_193 ?_
        refine g_iconst F (v := 2) d_M_deliver_194 (by decide) ?_
        refine g_iadd F d_M_deliver_195 ?_
        refine g_aload_n F d_M_deliver_196 0 rfl ?_
        refine g_getR F fs_8_7 hq.1 rfl d_M_deliver_197 ?_
        refine g_iconst F (v := 0) d_M_deliver_200 (by decide) ?_
        refine g_ialdC F (n := 481) 0 (by decide) (by decide) hq.2.1 d_M_deliver_201 ?_
        refine g_iast F (n := 481) hq.2.1 d_M_deliver_202 ?_
        refine g_ltM (fun σ15 _ => ?_)
        exact g_vret F hlk hr d_M_deliver_203
      refine g_aload_n F d_M_deliver_111 4 rfl ?_
      refine g_getR F fs_8_7 hq.1 rfl d_M_deliver_112 ?_
      refine g_iload_n F d_M_deliver_115 3 rfl ?_
      refine g_bipush F (v := 7) d_M_deliver_116 (by decide) ?_
      refine g_iadd F d_M_deliver_118 ?_
      refine g_iald F (n := 481) hq.2.1 d_M_deliver_119 ?_
      refine g_goto F (tgt := 125) d_M_deliver_120 (by decide) ?_
      refine g_iast F (n := 481) hq.2.1 d_M_deliver_125 ?_
      refine g_ltM (fun σ16 _ => ?_)
      refine g_bipush F (v := 26) d_M_deliver_126 (by decide) ?_
      refine g_istore F (ls' := [(6, .int (26 : Int32)), (5, .int (0 : Int32)), (4, .int r6), (3, .int r4), (2, .int v3), (0, .ref (xa X q)), (1, .int p1)]) d_M_deliver_128 (by decide) rfl ?_
      refine g_sub [5, 4, 3, 2, 0] rfl (l_L_M_deliver_130 F hlk hr _ _ _ _ hq _ (fun σ17 => ?_) FU _ _)
      refine g_aload_n F d_M_deliver_163 0 rfl ?_
      refine g_getR F fs_8_7 hq.1 rfl d_M_deliver_164 ?_
      refine g_iload_n F d_M_deliver_167 1 rfl ?_
      refine g_bipush F (v := 9) d_M_deliver_168 (by decide) ?_
      refine g_iadd F d_M_deliver_170 ?_
      refine g_iload_n F d_M_deliver_171 2 rfl ?_
      refine g_iast F (n := 481) hq.2.1 d_M_deliver_172 ?_
      refine g_ltM (fun σ18 _ => ?_)
      refine g_aload_n F d_M_deliver_173 0 rfl ?_
      refine g_getR F fs_8_7 hq.1 rfl d_M_deliver_174 ?_
      refine g_iload_n F d_M_deliver_177 1 rfl ?_
      refine g_bipush F (v := 9) d_M_deliver_178 (by decide) ?_
      refine g_iadd F d_M_deliver_180 ?_
      refine g_iconst F (v := 1) d_M_deliver_181 (by decide) ?_
      refine g_iadd F d_M_deliver_182 ?_
      refine g_iload F d_M_deliver_183 3 rfl ?_
      refine g_iast F (n := 481) hq.2.1 d_M_deliver_185 ?_
      refine g_ltM (fun σ19 _ => ?_)
      refine g_aload_n F d_M_deliver_186 0 rfl ?_
      refine g_getR F fs_8_7 hq.1 rfl d_M_deliver_187 ?_
      refine g_iload_n F d_M_deliver_190 1 rfl ?_
      refine g_bipush F (v := 9) d_M_deliver_191 (by decide) ?_
      refine g_iadd F d_M_deliver_193 ?_
      refine g_iconst F (v := 2) d_M_deliver_194 (by decide) ?_
      refine g_iadd F d_M_deliver_195 ?_
      refine g_aload_n F d_M_deliver_196 0 rfl ?_
      refine g_getR F fs_8_7 hq.1 rfl d_M_deliver_197 ?_
      refine g_iconst F (v := 0) d_M_deliver_200 (by decide) ?_
      refine g_ialdC F (n := 481) 0 (by decide) (by decide) hq.2.1 d_M_deliver_201 ?_
      refine g_iast F (n := 481) hq.2.1 d_M_deliver_202 ?_
      refine g_ltM (fun σ20 _ => ?_)
      exact g_vret F hlk hr d_M_deliver_203
    refine g_iconst F (v := 0) d_M_deliver_86 (by decide) ?_
    refine g_iadd F d_M_deliver_87 ?_
    refine g_iast F (n := 481) hq.2.1 d_M_deliver_88 ?_
    refine g_ltM (fun σ21 _ => ?_)
    refine g_aload_n F d_M_deliver_89 4 rfl ?_
    refine g_getR F fs_8_7 hq.1 rfl d_M_deliver_90 ?_
    refine g_iload_n F d_M_deliver_93 3 rfl ?_
    refine g_bipush F (v := 7) d_M_deliver_94 (by decide) ?_
    refine g_iadd F d_M_deliver_96 ?_
    refine g_aload_n F d_M_deliver_97 4 rfl ?_
    refine g_getR F fs_8_7 hq.1 rfl d_M_deliver_98 ?_
    refine g_iload_n F d_M_deliver_101 3 rfl ?_
    refine g_bipush F (v := 7) d_M_deliver_102 (by decide) ?_
    refine g_iadd F d_M_deliver_104 ?_
    refine g_iald F (n := 481) hq.2.1 d_M_deliver_105 ?_
    refine g_iload F d_M_deliver_106 0 rfl ?_
    refine g_icmp_le F (tgt := 123) d_M_deliver_108 (by decide) (fun h12 => ?_) (fun h13 => ?_)
    · refine g_iload F d_M_deliver_123 0 rfl ?_
      refine g_iast F (n := 481) hq.2.1 d_M_deliver_125 ?_
      refine g_ltM (fun σ22 _ => ?_)
      refine g_bipush F (v := 26) d_M_deliver_126 (by decide) ?_
      refine g_istore F (ls' := [(6, .int (26 : Int32)), (5, .int (0 : Int32)), (4, .int r6), (3, .int r4), (2, .int v3), (0, .ref (xa X q)), (1, .int p1)]) d_M_deliver_128 (by decide) rfl ?_
      refine g_sub [5, 4, 3, 2, 0] rfl (l_L_M_deliver_130 F hlk hr _ _ _ _ hq _ (fun σ23 => ?_) FU _ _)
      refine g_aload_n F d_M_deliver_163 0 rfl ?_
      refine g_getR F fs_8_7 hq.1 rfl d_M_deliver_164 ?_
      refine g_iload_n F d_M_deliver_167 1 rfl ?_
      refine g_bipush F (v := 9) d_M_deliver_168 (by decide) ?_
      refine g_iadd F d_M_deliver_170 ?_
      refine g_iload_n F d_M_deliver_171 2 rfl ?_
      refine g_iast F (n := 481) hq.2.1 d_M_deliver_172 ?_
      refine g_ltM (fun σ24 _ => ?_)
      refine g_aload_n F d_M_deliver_173 0 rfl ?_
      refine g_getR F fs_8_7 hq.1 rfl d_M_deliver_174 ?_
      refine g_iload_n F d_M_deliver_177 1 rfl ?_
      refine g_bipush F (v := 9) d_M_deliver_178 (by decide) ?_
      refine g_iadd F d_M_deliver_180 ?_
      refine g_iconst F (v := 1) d_M_deliver_181 (by decide) ?_
      refine g_iadd F d_M_deliver_182 ?_
      refine g_iload F d_M_deliver_183 3 rfl ?_
      refine g_iast F (n := 481) hq.2.1 d_M_deliver_185 ?_
      refine g_ltM (fun σ25 _ => ?_)
      refine g_aload_n F d_M_deliver_186 0 rfl ?_
      refine g_getR F fs_8_7 hq.1 rfl d_M_deliver_187 ?_
      refine g_iload_n F d_M_deliver_190 1 rfl ?_
      refine g_bipush F (v := 9) d_M_deliver_191 (by decide) ?_
      refine g_iadd F d_M_deliver_193 ?_
      refine g_iconst F (v := 2) d_M_deliver_194 (by decide) ?_
      refine g_iadd F d_M_deliver_195 ?_
      refine g_aload_n F d_M_deliver_196 0 rfl ?_
      refine g_getR F fs_8_7 hq.1 rfl d_M_deliver_197 ?_
      refine g_iconst F (v := 0) d_M_deliver_200 (by decide) ?_
      refine g_ialdC F (n := 481) 0 (by decide) (by decide) hq.2.1 d_M_deliver_201 ?_
      refine g_iast F (n := 481) hq.2.1 d_M_deliver_202 ?_
      refine g_ltM (fun σ26 _ => ?_)
      exact g_vret F hlk hr d_M_deliver_203
    refine g_aload_n F d_M_deliver_111 4 rfl ?_
    refine g_getR F fs_8_7 hq.1 rfl d_M_deliver_112 ?_
    refine g_iload_n F d_M_deliver_115 3 rfl ?_
    refine g_bipush F (v := 7) d_M_deliver_116 (by decide) ?_
    refine g_iadd F d_M_deliver_118 ?_
    refine g_iald F (n := 481) hq.2.1 d_M_deliver_119 ?_
    refine g_goto F (tgt := 125) d_M_deliver_120 (by decide) ?_
    refine g_iast F (n := 481) hq.2.1 d_M_deliver_125 ?_
    refine g_ltM (fun σ27 _ => ?_)
    refine g_bipush F (v := 26) d_M_deliver_126 (by decide) ?_
    refine g_istore F (ls' := [(6, .int (26 : Int32)), (5, .int (0 : Int32)), (4, .int r6), (3, .int r4), (2, .int v3), (0, .ref (xa X q)), (1, .int p1)]) d_M_deliver_128 (by decide) rfl ?_
    refine g_sub [5, 4, 3, 2, 0] rfl (l_L_M_deliver_130 F hlk hr _ _ _ _ hq _ (fun σ28 => ?_) FU _ _)
    refine g_aload_n F d_M_deliver_163 0 rfl ?_
    refine g_getR F fs_8_7 hq.1 rfl d_M_deliver_164 ?_
    refine g_iload_n F d_M_deliver_167 1 rfl ?_
    refine g_bipush F (v := 9) d_M_deliver_168 (by decide) ?_
    refine g_iadd F d_M_deliver_170 ?_
    refine g_iload_n F d_M_deliver_171 2 rfl ?_
    refine g_iast F (n := 481) hq.2.1 d_M_deliver_172 ?_
    refine g_ltM (fun σ29 _ => ?_)
    refine g_aload_n F d_M_deliver_173 0 rfl ?_
    refine g_getR F fs_8_7 hq.1 rfl d_M_deliver_174 ?_
    refine g_iload_n F d_M_deliver_177 1 rfl ?_
    refine g_bipush F (v := 9) d_M_deliver_178 (by decide) ?_
    refine g_iadd F d_M_deliver_180 ?_
    refine g_iconst F (v := 1) d_M_deliver_181 (by decide) ?_
    refine g_iadd F d_M_deliver_182 ?_
    refine g_iload F d_M_deliver_183 3 rfl ?_
    refine g_iast F (n := 481) hq.2.1 d_M_deliver_185 ?_
    refine g_ltM (fun σ30 _ => ?_)
    refine g_aload_n F d_M_deliver_186 0 rfl ?_
    refine g_getR F fs_8_7 hq.1 rfl d_M_deliver_187 ?_
    refine g_iload_n F d_M_deliver_190 1 rfl ?_
    refine g_bipush F (v := 9) d_M_deliver_191 (by decide) ?_
    refine g_iadd F d_M_deliver_193 ?_
    refine g_iconst F (v := 2) d_M_deliver_194 (by decide) ?_
    refine g_iadd F d_M_deliver_195 ?_
    refine g_aload_n F d_M_deliver_196 0 rfl ?_
    refine g_getR F fs_8_7 hq.1 rfl d_M_deliver_197 ?_
    refine g_iconst F (v := 0) d_M_deliver_200 (by decide) ?_
    refine g_ialdC F (n := 481) 0 (by decide) (by decide) hq.2.1 d_M_deliver_201 ?_
    refine g_iast F (n := 481) hq.2.1 d_M_deliver_202 ?_
    refine g_ltM (fun σ31 _ => ?_)
    exact g_vret F hlk hr d_M_deliver_203
  refine g_aload_n F d_M_deliver_39 3 rfl ?_
  refine g_getR F fs_8_7 hq.1 rfl d_M_deliver_40 ?_
  refine g_iconst F (v := 0) d_M_deliver_43 (by decide) ?_
  refine g_ialdC F (n := 481) 0 (by decide) (by decide) hq.2.1 d_M_deliver_44 ?_
  refine g_iload_n F d_M_deliver_45 1 rfl ?_
  refine g_isub F d_M_deliver_46 ?_
  refine g_goto F (tgt := 51) d_M_deliver_47 (by decide) ?_
  refine g_ltI (fun v32 _ => ?_)
  refine g_istore F (ls' := [(5, .int v32), (4, .int r6), (3, .int r4), (2, .int v3), (0, .ref (xa X q)), (1, .int p1)]) d_M_deliver_51 (by decide) rfl ?_
  refine g_aload_n F d_M_deliver_53 4 rfl ?_
  refine g_getR F fs_8_7 hq.1 rfl d_M_deliver_54 ?_
  refine g_iload_n F d_M_deliver_57 3 rfl ?_
  refine g_iconst F (v := 5) d_M_deliver_58 (by decide) ?_
  refine g_iadd F d_M_deliver_59 ?_
  refine g_dup2 F d_M_deliver_60 rfl rfl ?_
  refine g_iald F (n := 481) hq.2.1 d_M_deliver_61 ?_
  refine g_iconst F (v := 1) d_M_deliver_62 (by decide) ?_
  refine g_iadd F d_M_deliver_63 ?_
  refine g_iast F (n := 481) hq.2.1 d_M_deliver_64 ?_
  refine g_ltM (fun σ33 _ => ?_)
  refine g_aload_n F d_M_deliver_65 4 rfl ?_
  refine g_getR F fs_8_7 hq.1 rfl d_M_deliver_66 ?_
  refine g_iload_n F d_M_deliver_69 3 rfl ?_
  refine g_bipush F (v := 6) d_M_deliver_70 (by decide) ?_
  refine g_iadd F d_M_deliver_72 ?_
  refine g_dup2 F d_M_deliver_73 rfl rfl ?_
  refine g_iald F (n := 481) hq.2.1 d_M_deliver_74 ?_
  refine g_iload F d_M_deliver_75 1 rfl ?_
  refine g_bipush F (v := (-8)) d_M_deliver_77 (by decide) ?_
  refine g_icmp_ne F (tgt := 86) d_M_deliver_79 (by decide) (fun h14 => ?_) (fun h15 => ?_)
  · refine g_iconst F (v := 1) d_M_deliver_82 (by decide) ?_
    refine g_goto F (tgt := 87) d_M_deliver_83 (by decide) ?_
    refine g_iadd F d_M_deliver_87 ?_
    refine g_iast F (n := 481) hq.2.1 d_M_deliver_88 ?_
    refine g_ltM (fun σ34 _ => ?_)
    refine g_aload_n F d_M_deliver_89 4 rfl ?_
    refine g_getR F fs_8_7 hq.1 rfl d_M_deliver_90 ?_
    refine g_iload_n F d_M_deliver_93 3 rfl ?_
    refine g_bipush F (v := 7) d_M_deliver_94 (by decide) ?_
    refine g_iadd F d_M_deliver_96 ?_
    refine g_aload_n F d_M_deliver_97 4 rfl ?_
    refine g_getR F fs_8_7 hq.1 rfl d_M_deliver_98 ?_
    refine g_iload_n F d_M_deliver_101 3 rfl ?_
    refine g_bipush F (v := 7) d_M_deliver_102 (by decide) ?_
    refine g_iadd F d_M_deliver_104 ?_
    refine g_iald F (n := 481) hq.2.1 d_M_deliver_105 ?_
    refine g_iload F d_M_deliver_106 0 rfl ?_
    refine g_icmp_le F (tgt := 123) d_M_deliver_108 (by decide) (fun h16 => ?_) (fun h17 => ?_)
    · refine g_iload F d_M_deliver_123 0 rfl ?_
      refine g_iast F (n := 481) hq.2.1 d_M_deliver_125 ?_
      refine g_ltM (fun σ35 _ => ?_)
      refine g_bipush F (v := 26) d_M_deliver_126 (by decide) ?_
      refine g_istore F (ls' := [(6, .int (26 : Int32)), (5, .int v32), (4, .int r6), (3, .int r4), (2, .int v3), (0, .ref (xa X q)), (1, .int p1)]) d_M_deliver_128 (by decide) rfl ?_
      refine g_sub [5, 4, 3, 2, 0] rfl (l_L_M_deliver_130 F hlk hr _ _ _ _ hq _ (fun σ36 => ?_) FU _ _)
      refine g_aload_n F d_M_deliver_163 0 rfl ?_
      refine g_getR F fs_8_7 hq.1 rfl d_M_deliver_164 ?_
      refine g_iload_n F d_M_deliver_167 1 rfl ?_
      refine g_bipush F (v := 9) d_M_deliver_168 (by decide) ?_
      refine g_iadd F d_M_deliver_170 ?_
      refine g_iload_n F d_M_deliver_171 2 rfl ?_
      refine g_iast F (n := 481) hq.2.1 d_M_deliver_172 ?_
      refine g_ltM (fun σ37 _ => ?_)
      refine g_aload_n F d_M_deliver_173 0 rfl ?_
      refine g_getR F fs_8_7 hq.1 rfl d_M_deliver_174 ?_
      refine g_iload_n F d_M_deliver_177 1 rfl ?_
      refine g_bipush F (v := 9) d_M_deliver_178 (by decide) ?_
      refine g_iadd F d_M_deliver_180 ?_
      refine g_iconst F (v := 1) d_M_deliver_181 (by decide) ?_
      refine g_iadd F d_M_deliver_182 ?_
      refine g_iload F d_M_deliver_183 3 rfl ?_
      refine g_iast F (n := 481) hq.2.1 d_M_deliver_185 ?_
      refine g_ltM (fun σ38 _ => ?_)
      refine g_aload_n F d_M_deliver_186 0 rfl ?_
      refine g_getR F fs_8_7 hq.1 rfl d_M_deliver_187 ?_
      refine g_iload_n F d_M_deliver_190 1 rfl ?_
      refine g_bipush F (v := 9) d_M_deliver_191 (by decide) ?_
      refine g_iadd F d_M_deliver_193 ?_
      refine g_iconst F (v := 2) d_M_deliver_194 (by decide) ?_
      refine g_iadd F d_M_deliver_195 ?_
      refine g_aload_n F d_M_deliver_196 0 rfl ?_
      refine g_getR F fs_8_7 hq.1 rfl d_M_deliver_197 ?_
      refine g_iconst F (v := 0) d_M_deliver_200 (by decide) ?_
      refine g_ialdC F (n := 481) 0 (by decide) (by decide) hq.2.1 d_M_deliver_201 ?_
      refine g_iast F (n := 481) hq.2.1 d_M_deliver_202 ?_
      refine g_ltM (fun σ39 _ => ?_)
      exact g_vret F hlk hr d_M_deliver_203
    refine g_aload_n F d_M_deliver_111 4 rfl ?_
    refine g_getR F fs_8_7 hq.1 rfl d_M_deliver_112 ?_
    refine g_iload_n F d_M_deliver_115 3 rfl ?_
    refine g_bipush F (v := 7) d_M_deliver_116 (by decide) ?_
    refine g_iadd F d_M_deliver_118 ?_
    refine g_iald F (n := 481) hq.2.1 d_M_deliver_119 ?_
    refine g_goto F (tgt := 125) d_M_deliver_120 (by decide) ?_
    refine g_iast F (n := 481) hq.2.1 d_M_deliver_125 ?_
    refine g_ltM (fun σ40 _ => ?_)
    refine g_bipush F (v := 26) d_M_deliver_126 (by decide) ?_
    refine g_istore F (ls' := [(6, .int (26 : Int32)), (5, .int v32), (4, .int r6), (3, .int r4), (2, .int v3), (0, .ref (xa X q)), (1, .int p1)]) d_M_deliver_128 (by decide) rfl ?_
    refine g_sub [5, 4, 3, 2, 0] rfl (l_L_M_deliver_130 F hlk hr _ _ _ _ hq _ (fun σ41 => ?_) FU _ _)
    refine g_aload_n F d_M_deliver_163 0 rfl ?_
    refine g_getR F fs_8_7 hq.1 rfl d_M_deliver_164 ?_
    refine g_iload_n F d_M_deliver_167 1 rfl ?_
    refine g_bipush F (v := 9) d_M_deliver_168 (by decide) ?_
    refine g_iadd F d_M_deliver_170 ?_
    refine g_iload_n F d_M_deliver_171 2 rfl ?_
    refine g_iast F (n := 481) hq.2.1 d_M_deliver_172 ?_
    refine g_ltM (fun σ42 _ => ?_)
    refine g_aload_n F d_M_deliver_173 0 rfl ?_
    refine g_getR F fs_8_7 hq.1 rfl d_M_deliver_174 ?_
    refine g_iload_n F d_M_deliver_177 1 rfl ?_
    refine g_bipush F (v := 9) d_M_deliver_178 (by decide) ?_
    refine g_iadd F d_M_deliver_180 ?_
    refine g_iconst F (v := 1) d_M_deliver_181 (by decide) ?_
    refine g_iadd F d_M_deliver_182 ?_
    refine g_iload F d_M_deliver_183 3 rfl ?_
    refine g_iast F (n := 481) hq.2.1 d_M_deliver_185 ?_
    refine g_ltM (fun σ43 _ => ?_)
    refine g_aload_n F d_M_deliver_186 0 rfl ?_
    refine g_getR F fs_8_7 hq.1 rfl d_M_deliver_187 ?_
    refine g_iload_n F d_M_deliver_190 1 rfl ?_
    refine g_bipush F (v := 9) d_M_deliver_191 (by decide) ?_
    refine g_iadd F d_M_deliver_193 ?_
    refine g_iconst F (v := 2) d_M_deliver_194 (by decide) ?_
    refine g_iadd F d_M_deliver_195 ?_
    refine g_aload_n F d_M_deliver_196 0 rfl ?_
    refine g_getR F fs_8_7 hq.1 rfl d_M_deliver_197 ?_
    refine g_iconst F (v := 0) d_M_deliver_200 (by decide) ?_
    refine g_ialdC F (n := 481) 0 (by decide) (by decide) hq.2.1 d_M_deliver_201 ?_
    refine g_iast F (n := 481) hq.2.1 d_M_deliver_202 ?_
    refine g_ltM (fun σ44 _ => ?_)
    exact g_vret F hlk hr d_M_deliver_203
  refine g_iconst F (v := 0) d_M_deliver_86 (by decide) ?_
  refine g_iadd F d_M_deliver_87 ?_
  refine g_iast F (n := 481) hq.2.1 d_M_deliver_88 ?_
  refine g_ltM (fun σ45 _ => ?_)
  refine g_aload_n F d_M_deliver_89 4 rfl ?_
  refine g_getR F fs_8_7 hq.1 rfl d_M_deliver_90 ?_
  refine g_iload_n F d_M_deliver_93 3 rfl ?_
  refine g_bipush F (v := 7) d_M_deliver_94 (by decide) ?_
  refine g_iadd F d_M_deliver_96 ?_
  refine g_aload_n F d_M_deliver_97 4 rfl ?_
  refine g_getR F fs_8_7 hq.1 rfl d_M_deliver_98 ?_
  refine g_iload_n F d_M_deliver_101 3 rfl ?_
  refine g_bipush F (v := 7) d_M_deliver_102 (by decide) ?_
  refine g_iadd F d_M_deliver_104 ?_
  refine g_iald F (n := 481) hq.2.1 d_M_deliver_105 ?_
  refine g_iload F d_M_deliver_106 0 rfl ?_
  refine g_icmp_le F (tgt := 123) d_M_deliver_108 (by decide) (fun h18 => ?_) (fun h19 => ?_)
  · refine g_iload F d_M_deliver_123 0 rfl ?_
    refine g_iast F (n := 481) hq.2.1 d_M_deliver_125 ?_
    refine g_ltM (fun σ46 _ => ?_)
    refine g_bipush F (v := 26) d_M_deliver_126 (by decide) ?_
    refine g_istore F (ls' := [(6, .int (26 : Int32)), (5, .int v32), (4, .int r6), (3, .int r4), (2, .int v3), (0, .ref (xa X q)), (1, .int p1)]) d_M_deliver_128 (by decide) rfl ?_
    refine g_sub [5, 4, 3, 2, 0] rfl (l_L_M_deliver_130 F hlk hr _ _ _ _ hq _ (fun σ47 => ?_) FU _ _)
    refine g_aload_n F d_M_deliver_163 0 rfl ?_
    refine g_getR F fs_8_7 hq.1 rfl d_M_deliver_164 ?_
    refine g_iload_n F d_M_deliver_167 1 rfl ?_
    refine g_bipush F (v := 9) d_M_deliver_168 (by decide) ?_
    refine g_iadd F d_M_deliver_170 ?_
    refine g_iload_n F d_M_deliver_171 2 rfl ?_
    refine g_iast F (n := 481) hq.2.1 d_M_deliver_172 ?_
    refine g_ltM (fun σ48 _ => ?_)
    refine g_aload_n F d_M_deliver_173 0 rfl ?_
    refine g_getR F fs_8_7 hq.1 rfl d_M_deliver_174 ?_
    refine g_iload_n F d_M_deliver_177 1 rfl ?_
    refine g_bipush F (v := 9) d_M_deliver_178 (by decide) ?_
    refine g_iadd F d_M_deliver_180 ?_
    refine g_iconst F (v := 1) d_M_deliver_181 (by decide) ?_
    refine g_iadd F d_M_deliver_182 ?_
    refine g_iload F d_M_deliver_183 3 rfl ?_
    refine g_iast F (n := 481) hq.2.1 d_M_deliver_185 ?_
    refine g_ltM (fun σ49 _ => ?_)
    refine g_aload_n F d_M_deliver_186 0 rfl ?_
    refine g_getR F fs_8_7 hq.1 rfl d_M_deliver_187 ?_
    refine g_iload_n F d_M_deliver_190 1 rfl ?_
    refine g_bipush F (v := 9) d_M_deliver_191 (by decide) ?_
    refine g_iadd F d_M_deliver_193 ?_
    refine g_iconst F (v := 2) d_M_deliver_194 (by decide) ?_
    refine g_iadd F d_M_deliver_195 ?_
    refine g_aload_n F d_M_deliver_196 0 rfl ?_
    refine g_getR F fs_8_7 hq.1 rfl d_M_deliver_197 ?_
    refine g_iconst F (v := 0) d_M_deliver_200 (by decide) ?_
    refine g_ialdC F (n := 481) 0 (by decide) (by decide) hq.2.1 d_M_deliver_201 ?_
    refine g_iast F (n := 481) hq.2.1 d_M_deliver_202 ?_
    refine g_ltM (fun σ50 _ => ?_)
    exact g_vret F hlk hr d_M_deliver_203
  refine g_aload_n F d_M_deliver_111 4 rfl ?_
  refine g_getR F fs_8_7 hq.1 rfl d_M_deliver_112 ?_
  refine g_iload_n F d_M_deliver_115 3 rfl ?_
  refine g_bipush F (v := 7) d_M_deliver_116 (by decide) ?_
  refine g_iadd F d_M_deliver_118 ?_
  refine g_iald F (n := 481) hq.2.1 d_M_deliver_119 ?_
  refine g_goto F (tgt := 125) d_M_deliver_120 (by decide) ?_
  refine g_iast F (n := 481) hq.2.1 d_M_deliver_125 ?_
  refine g_ltM (fun σ51 _ => ?_)
  refine g_bipush F (v := 26) d_M_deliver_126 (by decide) ?_
  refine g_istore F (ls' := [(6, .int (26 : Int32)), (5, .int v32), (4, .int r6), (3, .int r4), (2, .int v3), (0, .ref (xa X q)), (1, .int p1)]) d_M_deliver_128 (by decide) rfl ?_
  refine g_sub [5, 4, 3, 2, 0] rfl (l_L_M_deliver_130 F hlk hr _ _ _ _ hq _ (fun σ52 => ?_) FU _ _)
  refine g_aload_n F d_M_deliver_163 0 rfl ?_
  refine g_getR F fs_8_7 hq.1 rfl d_M_deliver_164 ?_
  refine g_iload_n F d_M_deliver_167 1 rfl ?_
  refine g_bipush F (v := 9) d_M_deliver_168 (by decide) ?_
  refine g_iadd F d_M_deliver_170 ?_
  refine g_iload_n F d_M_deliver_171 2 rfl ?_
  refine g_iast F (n := 481) hq.2.1 d_M_deliver_172 ?_
  refine g_ltM (fun σ53 _ => ?_)
  refine g_aload_n F d_M_deliver_173 0 rfl ?_
  refine g_getR F fs_8_7 hq.1 rfl d_M_deliver_174 ?_
  refine g_iload_n F d_M_deliver_177 1 rfl ?_
  refine g_bipush F (v := 9) d_M_deliver_178 (by decide) ?_
  refine g_iadd F d_M_deliver_180 ?_
  refine g_iconst F (v := 1) d_M_deliver_181 (by decide) ?_
  refine g_iadd F d_M_deliver_182 ?_
  refine g_iload F d_M_deliver_183 3 rfl ?_
  refine g_iast F (n := 481) hq.2.1 d_M_deliver_185 ?_
  refine g_ltM (fun σ54 _ => ?_)
  refine g_aload_n F d_M_deliver_186 0 rfl ?_
  refine g_getR F fs_8_7 hq.1 rfl d_M_deliver_187 ?_
  refine g_iload_n F d_M_deliver_190 1 rfl ?_
  refine g_bipush F (v := 9) d_M_deliver_191 (by decide) ?_
  refine g_iadd F d_M_deliver_193 ?_
  refine g_iconst F (v := 2) d_M_deliver_194 (by decide) ?_
  refine g_iadd F d_M_deliver_195 ?_
  refine g_aload_n F d_M_deliver_196 0 rfl ?_
  refine g_getR F fs_8_7 hq.1 rfl d_M_deliver_197 ?_
  refine g_iconst F (v := 0) d_M_deliver_200 (by decide) ?_
  refine g_ialdC F (n := 481) 0 (by decide) (by decide) hq.2.1 d_M_deliver_201 ?_
  refine g_iast F (n := 481) hq.2.1 d_M_deliver_202 ?_
  refine g_ltM (fun σ55 _ => ?_)
  exact g_vret F hlk hr d_M_deliver_203
def y_M_wake : MethodName := ⟨"SensorHubModel", "wake", "(I)I"⟩
theorem d_M_wake_0 : decode prog_10_method_22_code 0 = .ok (.aload_n 0, 1) := by decide +kernel
theorem d_M_wake_1 : decode prog_10_method_22_code 1 = .ok (.getfield 7, 3) := by decide +kernel
theorem d_M_wake_4 : decode prog_10_method_22_code 4 = .ok (.iconst 3, 1) := by decide +kernel
theorem d_M_wake_5 : decode prog_10_method_22_code 5 = .ok (.iaload, 1) := by decide +kernel
theorem d_M_wake_6 : decode prog_10_method_22_code 6 = .ok (.istore_n 2, 1) := by decide +kernel
theorem d_M_wake_7 : decode prog_10_method_22_code 7 = .ok (.iload_n 2, 1) := by decide +kernel
theorem d_M_wake_8 : decode prog_10_method_22_code 8 = .ok (.ifCond .ne 5, 3) := by decide +kernel
theorem d_M_wake_11 : decode prog_10_method_22_code 11 = .ok (.iconst 0, 1) := by decide +kernel
theorem d_M_wake_12 : decode prog_10_method_22_code 12 = .ok (.ireturn, 1) := by decide +kernel
theorem d_M_wake_13 : decode prog_10_method_22_code 13 = .ok (.iconst 0, 1) := by decide +kernel
theorem d_M_wake_14 : decode prog_10_method_22_code 14 = .ok (.istore_n 3, 1) := by decide +kernel
theorem d_M_wake_15 : decode prog_10_method_22_code 15 = .ok (.iload_n 3, 1) := by decide +kernel
theorem d_M_wake_16 : decode prog_10_method_22_code 16 = .ok (.iload_n 2, 1) := by decide +kernel
theorem d_M_wake_17 : decode prog_10_method_22_code 17 = .ok (.if_icmp .ge 14, 3) := by decide +kernel
theorem d_M_wake_20 : decode prog_10_method_22_code 20 = .ok (.aload_n 0, 1) := by decide +kernel
theorem d_M_wake_21 : decode prog_10_method_22_code 21 = .ok (.iload_n 3, 1) := by decide +kernel
theorem d_M_wake_22 : decode prog_10_method_22_code 22 = .ok (.invokevirtual 80, 3) := by decide +kernel
theorem d_M_wake_25 : decode prog_10_method_22_code 25 = .ok (.iinc 3 1, 3) := by decide +kernel
theorem d_M_wake_28 : decode prog_10_method_22_code 28 = .ok (.goto (-13), 3) := by decide +kernel
theorem d_M_wake_31 : decode prog_10_method_22_code 31 = .ok (.aload_n 0, 1) := by decide +kernel
theorem d_M_wake_32 : decode prog_10_method_22_code 32 = .ok (.getfield 7, 3) := by decide +kernel
theorem d_M_wake_35 : decode prog_10_method_22_code 35 = .ok (.iconst 3, 1) := by decide +kernel
theorem d_M_wake_36 : decode prog_10_method_22_code 36 = .ok (.iconst 0, 1) := by decide +kernel
theorem d_M_wake_37 : decode prog_10_method_22_code 37 = .ok (.iastore, 1) := by decide +kernel
theorem d_M_wake_38 : decode prog_10_method_22_code 38 = .ok (.aload_n 0, 1) := by decide +kernel
theorem d_M_wake_39 : decode prog_10_method_22_code 39 = .ok (.getfield 7, 3) := by decide +kernel
theorem d_M_wake_42 : decode prog_10_method_22_code 42 = .ok (.iconst 5, 1) := by decide +kernel
theorem d_M_wake_43 : decode prog_10_method_22_code 43 = .ok (.dup2, 1) := by decide +kernel
theorem d_M_wake_44 : decode prog_10_method_22_code 44 = .ok (.iaload, 1) := by decide +kernel
theorem d_M_wake_45 : decode prog_10_method_22_code 45 = .ok (.bipush 20, 2) := by decide +kernel
theorem d_M_wake_47 : decode prog_10_method_22_code 47 = .ok (.iadd, 1) := by decide +kernel
theorem d_M_wake_48 : decode prog_10_method_22_code 48 = .ok (.iastore, 1) := by decide +kernel
theorem d_M_wake_49 : decode prog_10_method_22_code 49 = .ok (.aload_n 0, 1) := by decide +kernel
theorem d_M_wake_50 : decode prog_10_method_22_code 50 = .ok (.getfield 7, 3) := by decide +kernel
theorem d_M_wake_53 : decode prog_10_method_22_code 53 = .ok (.bipush 7, 2) := by decide +kernel
theorem d_M_wake_55 : decode prog_10_method_22_code 55 = .ok (.iload_n 1, 1) := by decide +kernel
theorem d_M_wake_56 : decode prog_10_method_22_code 56 = .ok (.iadd, 1) := by decide +kernel
theorem d_M_wake_57 : decode prog_10_method_22_code 57 = .ok (.dup2, 1) := by decide +kernel
theorem d_M_wake_58 : decode prog_10_method_22_code 58 = .ok (.iaload, 1) := by decide +kernel
theorem d_M_wake_59 : decode prog_10_method_22_code 59 = .ok (.iconst 1, 1) := by decide +kernel
theorem d_M_wake_60 : decode prog_10_method_22_code 60 = .ok (.iadd, 1) := by decide +kernel
theorem d_M_wake_61 : decode prog_10_method_22_code 61 = .ok (.iastore, 1) := by decide +kernel
theorem d_M_wake_62 : decode prog_10_method_22_code 62 = .ok (.iload_n 2, 1) := by decide +kernel
theorem d_M_wake_63 : decode prog_10_method_22_code 63 = .ok (.ireturn, 1) := by decide +kernel
theorem cv_8_80 : CSV "SensorHubModel" 80 y_M_deliver prog_10_method_21_code 7 none 1 := ⟨gw_I 1005 (by decide +kernel) rfl, gw_I 1007 (by decide +kernel) rfl, gw_I 37 (by decide +kernel) rfl, gw_I 78 (by decide +kernel) rfl, gw_I 1008 (by decide +kernel) rfl, ⟨by decide +kernel, by decide +kernel⟩, by decide +kernel⟩
def L_M_wake_15 (r0 : Nat) (y1 : Int32) (y2 : Int32) (k : Mem → Option (Int32 × Mem)) : Nat → Int32 → Mem → Option (Int32 × Mem)
  | 0, _, _ => none
  | n + 1, x3, σ =>
    if y2 ≤ x3 then
      k σ
    else
      bd (f_M_deliver r0 x3 σ) fun _ σ3 =>
      L_M_wake_15 r0 y1 y2 k n (x3 + 1) σ3
def f_M_wake (q : Nat) (p1 : Int32) (σ : Mem) : Option (Int32 × Mem) :=
  lt (σ (q + 1) 3) fun v1 =>
  if v1 = 0 then
    some ((0 : Int32), σ)
  else
    L_M_wake_15 q p1 v1 (fun σ4 =>
      lt (wr σ4 (q + 1) 3 (0 : Int32)) fun σ5 =>
      lt (wr σ5 (q + 1) 5 ((σ5 (q + 1) 5) + (20 : Int32))) fun σ6 =>
      if ib ((7 : Int32) + p1) 481 then
        if ib ((7 : Int32) + p1) 481 then
          lt (wr σ6 (q + 1) ((7 : Int32) + p1).toNatClampNeg ((σ6 (q + 1) ((7 : Int32) + p1).toNatClampNeg) + (1 : Int32))) fun σ7 =>
          some (v1, σ7)
        else none
      else none) FU (0 : Int32) σ
set_option maxRecDepth 100000 in
set_option maxHeartbeats 4000000 in
theorem l_L_M_wake_15 {X : CX} {p : Program} {l : Launch} {e : Env} {s : State} {m : MethodId} {args : Array Value} {below : List Frame} {meth : Method} {c : Code} (F : FR p s m args c prog_10_method_22_code 4 "SensorHubModel" X) (hlk : meth.locks = false) (hr : meth.sig.returnType = some .int) (r0 : Nat) (y1 : Int32) (y2 : Int32) (hr0 : ModelOK X r0) (k : Mem → Option (Int32 × Mem)) (hk : ∀  (σ : Mem), G X p l e (rmD 2) s m args below meth c 4 0 0 (QI X below args s vI) 31 [(0, .ref (xa X r0)), (1, .int y1), (2, .int y2)] [] σ (k σ)) : ∀ (n : Nat) (x3 : Int32) (σ : Mem), G X p l e (rmD 2) s m args below meth c 4 0 0 (QI X below args s vI) 15 [(0, .ref (xa X r0)), (1, .int y1), (2, .int y2), (3, .int x3)] [] σ (L_M_wake_15 r0 y1 y2 k n x3 σ) := by
  intro n
  induction n with
  | zero => intros; exact g_no
  | succ n ih =>
    intro x3 σ
    unfold L_M_wake_15
    refine g_iload_n F d_M_wake_15 3 rfl ?_
    refine g_iload_n F d_M_wake_16 2 rfl ?_
    refine g_icmp_ge F (tgt := 31) d_M_wake_17 (by decide) (fun h3 => ?_) (fun h4 => ?_)
    · exact g_sub [0, 1, 2] rfl (hk  _)
    refine g_aload_n F d_M_wake_20 0 rfl ?_
    refine g_iload_n F d_M_wake_21 3 rfl ?_
    refine g_callV F (dp := 1) (ci := 8) (As := [.int x3]) (c_M_deliver l _ _ hr0 _) cv_8_80 hr0.1 rfl rfl rfl (Nat.le_of_ble_eq_true rfl) ⟨Nat.le_of_ble_eq_true rfl, Nat.le_of_ble_eq_true rfl⟩ ⟨Nat.zero_le _, Nat.zero_le _⟩ d_M_wake_22 (fun _ σ3 h5 => ?_)
    refine g_iinc F (v := 1) (ls' := [(3, .int (x3 + 1)), (0, .ref (xa X r0)), (1, .int y1), (2, .int y2)]) d_M_wake_25 3 rfl (by decide) (by decide) rfl ?_
    refine g_goto F (tgt := 15) d_M_wake_28 (by decide) ?_
    exact g_sub [1, 2, 3, 0] rfl (ih _ _)
set_option maxRecDepth 100000 in
set_option maxHeartbeats 4000000 in
theorem c_M_wake {X : CX} (l : Launch) (q : Nat) (p1 : Int32) (hq : ModelOK X q) (σ : Mem) : CT X l y_M_wake prog_10_method_22_code 4 (some .int) 2 vI [.ref (xa X q), .int p1] σ (f_M_wake q p1 σ) := by
  refine CT_of (by decide +kernel) (Nat.le_of_ble_eq_true rfl) ?_
  intro p e s m args below meth c F hlk hr
  have F : FR p s m args c prog_10_method_22_code 4 "SensorHubModel" X := F
  show G X p l e (rmD 2) s m args below meth c 4 0 0 (QI X below args s vI) 0 [(0, .ref (xa X q)), (1, .int p1)] [] σ _
  unfold f_M_wake
  refine g_aload_n F d_M_wake_0 0 rfl ?_
  refine g_getR F fs_8_7 hq.1 rfl d_M_wake_1 ?_
  refine g_iconst F (v := 3) d_M_wake_4 (by decide) ?_
  refine g_ialdC F (n := 481) 3 (by decide) (by decide) hq.2.1 d_M_wake_5 ?_
  refine g_ltI (fun v1 _ => ?_)
  refine g_istore_n F (ls' := [(2, .int v1), (0, .ref (xa X q)), (1, .int p1)]) d_M_wake_6 (by decide) rfl ?_
  refine g_iload_n F d_M_wake_7 0 rfl ?_
  refine g_if_ne F (tgt := 13) d_M_wake_8 (by decide) (fun h1 => ?_) (fun h2 => ?_)
  · refine g_iconst F (v := 0) d_M_wake_11 (by decide) ?_
    exact g_iret F hlk hr d_M_wake_12
  refine g_iconst F (v := 0) d_M_wake_13 (by decide) ?_
  refine g_istore_n F (ls' := [(3, .int (0 : Int32)), (2, .int v1), (0, .ref (xa X q)), (1, .int p1)]) d_M_wake_14 (by decide) rfl ?_
  refine g_sub [2, 3, 1, 0] rfl (l_L_M_wake_15 F hlk hr _ _ _ hq _ (fun σ4 => ?_) FU _ _)
  refine g_aload_n F d_M_wake_31 0 rfl ?_
  refine g_getR F fs_8_7 hq.1 rfl d_M_wake_32 ?_
  refine g_iconst F (v := 3) d_M_wake_35 (by decide) ?_
  refine g_iconst F (v := 0) d_M_wake_36 (by decide) ?_
  refine g_iastC F (n := 481) 3 (by decide) (by decide) hq.2.1 d_M_wake_37 ?_
  refine g_ltM (fun σ5 _ => ?_)
  refine g_aload_n F d_M_wake_38 0 rfl ?_
  refine g_getR F fs_8_7 hq.1 rfl d_M_wake_39 ?_
  refine g_iconst F (v := 5) d_M_wake_42 (by decide) ?_
  refine g_dup2 F d_M_wake_43 rfl rfl ?_
  refine g_ialdC F (n := 481) 5 (by decide) (by decide) hq.2.1 d_M_wake_44 ?_
  refine g_bipush F (v := 20) d_M_wake_45 (by decide) ?_
  refine g_iadd F d_M_wake_47 ?_
  refine g_iastC F (n := 481) 5 (by decide) (by decide) hq.2.1 d_M_wake_48 ?_
  refine g_ltM (fun σ6 _ => ?_)
  refine g_aload_n F d_M_wake_49 0 rfl ?_
  refine g_getR F fs_8_7 hq.1 rfl d_M_wake_50 ?_
  refine g_bipush F (v := 7) d_M_wake_53 (by decide) ?_
  refine g_iload_n F d_M_wake_55 1 rfl ?_
  refine g_iadd F d_M_wake_56 ?_
  refine g_dup2 F d_M_wake_57 rfl rfl ?_
  refine g_iald F (n := 481) hq.2.1 d_M_wake_58 ?_
  refine g_iconst F (v := 1) d_M_wake_59 (by decide) ?_
  refine g_iadd F d_M_wake_60 ?_
  refine g_iast F (n := 481) hq.2.1 d_M_wake_61 ?_
  refine g_ltM (fun σ7 _ => ?_)
  refine g_iload_n F d_M_wake_62 2 rfl ?_
  exact g_iret F hlk hr d_M_wake_63
def y_M_quarter : MethodName := ⟨"SensorHubModel", "quarter", "(I)I"⟩
theorem d_M_quarter_0 : decode prog_10_method_23_code 0 = .ok (.iload_n 0, 1) := by decide +kernel
theorem d_M_quarter_1 : decode prog_10_method_23_code 1 = .ok (.ifCond .lt 9, 3) := by decide +kernel
theorem d_M_quarter_4 : decode prog_10_method_23_code 4 = .ok (.iload_n 0, 1) := by decide +kernel
theorem d_M_quarter_5 : decode prog_10_method_23_code 5 = .ok (.iconst 4, 1) := by decide +kernel
theorem d_M_quarter_6 : decode prog_10_method_23_code 6 = .ok (.idiv, 1) := by decide +kernel
theorem d_M_quarter_7 : decode prog_10_method_23_code 7 = .ok (.goto 9, 3) := by decide +kernel
theorem d_M_quarter_10 : decode prog_10_method_23_code 10 = .ok (.iconst 3, 1) := by decide +kernel
theorem d_M_quarter_11 : decode prog_10_method_23_code 11 = .ok (.iload_n 0, 1) := by decide +kernel
theorem d_M_quarter_12 : decode prog_10_method_23_code 12 = .ok (.isub, 1) := by decide +kernel
theorem d_M_quarter_13 : decode prog_10_method_23_code 13 = .ok (.iconst 4, 1) := by decide +kernel
theorem d_M_quarter_14 : decode prog_10_method_23_code 14 = .ok (.idiv, 1) := by decide +kernel
theorem d_M_quarter_15 : decode prog_10_method_23_code 15 = .ok (.ineg, 1) := by decide +kernel
theorem d_M_quarter_16 : decode prog_10_method_23_code 16 = .ok (.ireturn, 1) := by decide +kernel
def f_M_quarter (p0 : Int32) (σ : Mem) : Option (Int32 × Mem) :=
  if p0 < 0 then some (-(((3 : Int32) - p0) / (4 : Int32)), σ) else some (p0 / (4 : Int32), σ)
set_option maxRecDepth 100000 in
set_option maxHeartbeats 4000000 in
theorem c_M_quarter {X : CX} (l : Launch) (p0 : Int32)  (σ : Mem) : CT X l y_M_quarter prog_10_method_23_code 1 (some .int) 0 vI [.int p0] σ (f_M_quarter p0 σ) := by
  refine CT_of (by decide +kernel) (Nat.le_of_ble_eq_true rfl) ?_
  intro p e s m args below meth c F hlk hr
  have F : FR p s m args c prog_10_method_23_code 1 "SensorHubModel" X := F
  show G X p l e (rmD 0) s m args below meth c 1 0 0 (QI X below args s vI) 0 [(0, .int p0)] [] σ _
  unfold f_M_quarter
  refine g_iload_n F d_M_quarter_0 0 rfl ?_
  refine g_if_lt F (tgt := 10) d_M_quarter_1 (by decide) (fun h1 => ?_) (fun h2 => ?_)
  · refine g_iconst F (v := 3) d_M_quarter_10 (by decide) ?_
    refine g_iload_n F d_M_quarter_11 0 rfl ?_
    refine g_isub F d_M_quarter_12 ?_
    refine g_iconst F (v := 4) d_M_quarter_13 (by decide) ?_
    refine g_pf (q := (4 : Int32) = 0) (by decide) (g_idiv F d_M_quarter_14 ?_)
    refine g_ineg F d_M_quarter_15 ?_
    exact g_iret F hlk hr d_M_quarter_16
  refine g_iload_n F d_M_quarter_4 0 rfl ?_
  refine g_iconst F (v := 4) d_M_quarter_5 (by decide) ?_
  refine g_pf (q := (4 : Int32) = 0) (by decide) (g_idiv F d_M_quarter_6 ?_)
  refine g_goto F (tgt := 16) d_M_quarter_7 (by decide) ?_
  exact g_iret F hlk hr d_M_quarter_16
def y_M_receive : MethodName := ⟨"SensorHubModel", "receive", "(III)V"⟩
theorem d_M_receive_0 : decode prog_10_method_24_code 0 = .ok (.bipush 11, 2) := by decide +kernel
theorem d_M_receive_2 : decode prog_10_method_24_code 2 = .ok (.bipush 19, 2) := by decide +kernel
theorem d_M_receive_4 : decode prog_10_method_24_code 4 = .ok (.iload_n 1, 1) := by decide +kernel
theorem d_M_receive_5 : decode prog_10_method_24_code 5 = .ok (.imul, 1) := by decide +kernel
theorem d_M_receive_6 : decode prog_10_method_24_code 6 = .ok (.iadd, 1) := by decide +kernel
theorem d_M_receive_7 : decode prog_10_method_24_code 7 = .ok (.istore 4, 2) := by decide +kernel
theorem d_M_receive_9 : decode prog_10_method_24_code 9 = .ok (.aload_n 0, 1) := by decide +kernel
theorem d_M_receive_10 : decode prog_10_method_24_code 10 = .ok (.getfield 7, 3) := by decide +kernel
theorem d_M_receive_13 : decode prog_10_method_24_code 13 = .ok (.iload 4, 2) := by decide +kernel
theorem d_M_receive_15 : decode prog_10_method_24_code 15 = .ok (.bipush 7, 2) := by decide +kernel
theorem d_M_receive_17 : decode prog_10_method_24_code 17 = .ok (.iadd, 1) := by decide +kernel
theorem d_M_receive_18 : decode prog_10_method_24_code 18 = .ok (.dup2, 1) := by decide +kernel
theorem d_M_receive_19 : decode prog_10_method_24_code 19 = .ok (.iaload, 1) := by decide +kernel
theorem d_M_receive_20 : decode prog_10_method_24_code 20 = .ok (.iconst 1, 1) := by decide +kernel
theorem d_M_receive_21 : decode prog_10_method_24_code 21 = .ok (.iadd, 1) := by decide +kernel
theorem d_M_receive_22 : decode prog_10_method_24_code 22 = .ok (.iastore, 1) := by decide +kernel
theorem d_M_receive_23 : decode prog_10_method_24_code 23 = .ok (.aload_n 0, 1) := by decide +kernel
theorem d_M_receive_24 : decode prog_10_method_24_code 24 = .ok (.getfield 7, 3) := by decide +kernel
theorem d_M_receive_27 : decode prog_10_method_24_code 27 = .ok (.iload 4, 2) := by decide +kernel
theorem d_M_receive_29 : decode prog_10_method_24_code 29 = .ok (.bipush 8, 2) := by decide +kernel
theorem d_M_receive_31 : decode prog_10_method_24_code 31 = .ok (.iadd, 1) := by decide +kernel
theorem d_M_receive_32 : decode prog_10_method_24_code 32 = .ok (.iload_n 2, 1) := by decide +kernel
theorem d_M_receive_33 : decode prog_10_method_24_code 33 = .ok (.iastore, 1) := by decide +kernel
theorem d_M_receive_34 : decode prog_10_method_24_code 34 = .ok (.aload_n 0, 1) := by decide +kernel
theorem d_M_receive_35 : decode prog_10_method_24_code 35 = .ok (.getfield 7, 3) := by decide +kernel
theorem d_M_receive_38 : decode prog_10_method_24_code 38 = .ok (.iload 4, 2) := by decide +kernel
theorem d_M_receive_40 : decode prog_10_method_24_code 40 = .ok (.bipush 9, 2) := by decide +kernel
theorem d_M_receive_42 : decode prog_10_method_24_code 42 = .ok (.iadd, 1) := by decide +kernel
theorem d_M_receive_43 : decode prog_10_method_24_code 43 = .ok (.iload_n 3, 1) := by decide +kernel
theorem d_M_receive_44 : decode prog_10_method_24_code 44 = .ok (.iastore, 1) := by decide +kernel
theorem d_M_receive_45 : decode prog_10_method_24_code 45 = .ok (.aload_n 0, 1) := by decide +kernel
theorem d_M_receive_46 : decode prog_10_method_24_code 46 = .ok (.getfield 31, 3) := by decide +kernel
theorem d_M_receive_49 : decode prog_10_method_24_code 49 = .ok (.iload_n 1, 1) := by decide +kernel
theorem d_M_receive_50 : decode prog_10_method_24_code 50 = .ok (.iconst 1, 1) := by decide +kernel
theorem d_M_receive_51 : decode prog_10_method_24_code 51 = .ok (.bastore, 1) := by decide +kernel
theorem d_M_receive_52 : decode prog_10_method_24_code 52 = .ok (.iload_n 3, 1) := by decide +kernel
theorem d_M_receive_53 : decode prog_10_method_24_code 53 = .ok (.bipush (-8), 2) := by decide +kernel
theorem d_M_receive_55 : decode prog_10_method_24_code 55 = .ok (.if_icmp .eq 42, 3) := by decide +kernel
theorem d_M_receive_58 : decode prog_10_method_24_code 58 = .ok (.aload_n 0, 1) := by decide +kernel
theorem d_M_receive_59 : decode prog_10_method_24_code 59 = .ok (.getfield 7, 3) := by decide +kernel
theorem d_M_receive_62 : decode prog_10_method_24_code 62 = .ok (.iload 4, 2) := by decide +kernel
theorem d_M_receive_64 : decode prog_10_method_24_code 64 = .ok (.bipush 11, 2) := by decide +kernel
theorem d_M_receive_66 : decode prog_10_method_24_code 66 = .ok (.iadd, 1) := by decide +kernel
theorem d_M_receive_67 : decode prog_10_method_24_code 67 = .ok (.aload_n 0, 1) := by decide +kernel
theorem d_M_receive_68 : decode prog_10_method_24_code 68 = .ok (.getfield 7, 3) := by decide +kernel
theorem d_M_receive_71 : decode prog_10_method_24_code 71 = .ok (.iload 4, 2) := by decide +kernel
theorem d_M_receive_73 : decode prog_10_method_24_code 73 = .ok (.bipush 10, 2) := by decide +kernel
theorem d_M_receive_75 : decode prog_10_method_24_code 75 = .ok (.iadd, 1) := by decide +kernel
theorem d_M_receive_76 : decode prog_10_method_24_code 76 = .ok (.iaload, 1) := by decide +kernel
theorem d_M_receive_77 : decode prog_10_method_24_code 77 = .ok (.bipush 8, 2) := by decide +kernel
theorem d_M_receive_79 : decode prog_10_method_24_code 79 = .ok (.irem, 1) := by decide +kernel
theorem d_M_receive_80 : decode prog_10_method_24_code 80 = .ok (.iadd, 1) := by decide +kernel
theorem d_M_receive_81 : decode prog_10_method_24_code 81 = .ok (.iload_n 3, 1) := by decide +kernel
theorem d_M_receive_82 : decode prog_10_method_24_code 82 = .ok (.iastore, 1) := by decide +kernel
theorem d_M_receive_83 : decode prog_10_method_24_code 83 = .ok (.aload_n 0, 1) := by decide +kernel
theorem d_M_receive_84 : decode prog_10_method_24_code 84 = .ok (.getfield 7, 3) := by decide +kernel
theorem d_M_receive_87 : decode prog_10_method_24_code 87 = .ok (.iload 4, 2) := by decide +kernel
theorem d_M_receive_89 : decode prog_10_method_24_code 89 = .ok (.bipush 10, 2) := by decide +kernel
theorem d_M_receive_91 : decode prog_10_method_24_code 91 = .ok (.iadd, 1) := by decide +kernel
theorem d_M_receive_92 : decode prog_10_method_24_code 92 = .ok (.dup2, 1) := by decide +kernel
theorem d_M_receive_93 : decode prog_10_method_24_code 93 = .ok (.iaload, 1) := by decide +kernel
theorem d_M_receive_94 : decode prog_10_method_24_code 94 = .ok (.iconst 1, 1) := by decide +kernel
theorem d_M_receive_95 : decode prog_10_method_24_code 95 = .ok (.iadd, 1) := by decide +kernel
theorem d_M_receive_96 : decode prog_10_method_24_code 96 = .ok (.iastore, 1) := by decide +kernel
theorem d_M_receive_97 : decode prog_10_method_24_code 97 = .ok (.return_, 1) := by decide +kernel
theorem fs_8_31 : FS "SensorHubModel" 31 8 10 := ⟨"SensorHubModel", T_8, 16, rfl, by decide, rfl, gw_I 902 (by decide +kernel) rfl⟩
def f_M_receive (q : Nat) (p1 : Int32) (p2 : Int32) (p3 : Int32) (σ : Mem) : Option (Unit × Mem) :=
  lt ((11 : Int32) + ((19 : Int32) * p1)) fun v1 =>
  if ib (v1 + (7 : Int32)) 481 then
    if ib (v1 + (7 : Int32)) 481 then
      lt (wr σ (q + 1) (v1 + (7 : Int32)).toNatClampNeg ((σ (q + 1) (v1 + (7 : Int32)).toNatClampNeg) + (1 : Int32))) fun σ2 =>
      if ib (v1 + (8 : Int32)) 481 then
        lt (wr σ2 (q + 1) (v1 + (8 : Int32)).toNatClampNeg p2) fun σ3 =>
        if ib (v1 + (9 : Int32)) 481 then
          lt (wr σ3 (q + 1) (v1 + (9 : Int32)).toNatClampNeg p3) fun σ4 =>
          if ib p1 8 then
            lt (wr σ4 (q + 8) p1.toNatClampNeg ((1 : Int32) &&& 1)) fun σ5 =>
            if p3 = (-8 : Int32) then
              some ((), σ5)
            else
              if ib (v1 + (10 : Int32)) 481 then
                lt ((σ5 (q + 1) (v1 + (10 : Int32)).toNatClampNeg) - (σ5 (q + 1) (v1 + (10 : Int32)).toNatClampNeg) / (8 : Int32) * (8 : Int32)) fun v6 =>
                if ib ((v1 + (11 : Int32)) + v6) 481 then
                  lt (wr σ5 (q + 1) ((v1 + (11 : Int32)) + v6).toNatClampNeg p3) fun σ7 =>
                  if ib (v1 + (10 : Int32)) 481 then
                    if ib (v1 + (10 : Int32)) 481 then
                      lt (wr σ7 (q + 1) (v1 + (10 : Int32)).toNatClampNeg ((σ7 (q + 1) (v1 + (10 : Int32)).toNatClampNeg) + (1 : Int32))) fun σ8 =>
                      some ((), σ8)
                    else none
                  else none
                else none
              else none
          else none
        else none
      else none
    else none
  else none
set_option maxRecDepth 100000 in
set_option maxHeartbeats 4000000 in
theorem c_M_receive {X : CX} (l : Launch) (q : Nat) (p1 : Int32) (p2 : Int32) (p3 : Int32) (hq : ModelOK X q) (σ : Mem) : CT X l y_M_receive prog_10_method_24_code 5 none 0 vU [.ref (xa X q), .int p1, .int p2, .int p3] σ (f_M_receive q p1 p2 p3 σ) := by
  refine CT_of (by decide +kernel) (Nat.le_of_ble_eq_true rfl) ?_
  intro p e s m args below meth c F hlk hr
  have F : FR p s m args c prog_10_method_24_code 5 "SensorHubModel" X := F
  show G X p l e (rmD 0) s m args below meth c 5 0 0 (QI X below args s vU) 0 [(0, .ref (xa X q)), (1, .int p1), (2, .int p2), (3, .int p3)] [] σ _
  unfold f_M_receive
  refine g_bipush F (v := 11) d_M_receive_0 (by decide) ?_
  refine g_bipush F (v := 19) d_M_receive_2 (by decide) ?_
  refine g_iload_n F d_M_receive_4 1 rfl ?_
  refine g_imul F d_M_receive_5 ?_
  refine g_iadd F d_M_receive_6 ?_
  refine g_ltI (fun v1 _ => ?_)
  refine g_istore F (ls' := [(4, .int v1), (0, .ref (xa X q)), (1, .int p1), (2, .int p2), (3, .int p3)]) d_M_receive_7 (by decide) rfl ?_
  refine g_aload_n F d_M_receive_9 1 rfl ?_
  refine g_getR F fs_8_7 hq.1 rfl d_M_receive_10 ?_
  refine g_iload F d_M_receive_13 0 rfl ?_
  refine g_bipush F (v := 7) d_M_receive_15 (by decide) ?_
  refine g_iadd F d_M_receive_17 ?_
  refine g_dup2 F d_M_receive_18 rfl rfl ?_
  refine g_iald F (n := 481) hq.2.1 d_M_receive_19 ?_
  refine g_iconst F (v := 1) d_M_receive_20 (by decide) ?_
  refine g_iadd F d_M_receive_21 ?_
  refine g_iast F (n := 481) hq.2.1 d_M_receive_22 ?_
  refine g_ltM (fun σ2 _ => ?_)
  refine g_aload_n F d_M_receive_23 1 rfl ?_
  refine g_getR F fs_8_7 hq.1 rfl d_M_receive_24 ?_
  refine g_iload F d_M_receive_27 0 rfl ?_
  refine g_bipush F (v := 8) d_M_receive_29 (by decide) ?_
  refine g_iadd F d_M_receive_31 ?_
  refine g_iload_n F d_M_receive_32 3 rfl ?_
  refine g_iast F (n := 481) hq.2.1 d_M_receive_33 ?_
  refine g_ltM (fun σ3 _ => ?_)
  refine g_aload_n F d_M_receive_34 1 rfl ?_
  refine g_getR F fs_8_7 hq.1 rfl d_M_receive_35 ?_
  refine g_iload F d_M_receive_38 0 rfl ?_
  refine g_bipush F (v := 9) d_M_receive_40 (by decide) ?_
  refine g_iadd F d_M_receive_42 ?_
  refine g_iload_n F d_M_receive_43 4 rfl ?_
  refine g_iast F (n := 481) hq.2.1 d_M_receive_44 ?_
  refine g_ltM (fun σ4 _ => ?_)
  refine g_aload_n F d_M_receive_45 1 rfl ?_
  refine g_getR F fs_8_31 hq.1 rfl d_M_receive_46 ?_
  refine g_iload_n F d_M_receive_49 2 rfl ?_
  refine g_iconst F (v := 1) d_M_receive_50 (by decide) ?_
  refine g_zast F hq.2.2.2.2.2.2.2.2 d_M_receive_51 ?_
  refine g_ltM (fun σ5 _ => ?_)
  refine g_iload_n F d_M_receive_52 4 rfl ?_
  refine g_bipush F (v := (-8)) d_M_receive_53 (by decide) ?_
  refine g_icmp_eq F (tgt := 97) d_M_receive_55 (by decide) (fun h1 => ?_) (fun h2 => ?_)
  · exact g_vret F hlk hr d_M_receive_97
  refine g_aload_n F d_M_receive_58 1 rfl ?_
  refine g_getR F fs_8_7 hq.1 rfl d_M_receive_59 ?_
  refine g_iload F d_M_receive_62 0 rfl ?_
  refine g_bipush F (v := 11) d_M_receive_64 (by decide) ?_
  refine g_iadd F d_M_receive_66 ?_
  refine g_aload_n F d_M_receive_67 1 rfl ?_
  refine g_getR F fs_8_7 hq.1 rfl d_M_receive_68 ?_
  refine g_iload F d_M_receive_71 0 rfl ?_
  refine g_bipush F (v := 10) d_M_receive_73 (by decide) ?_
  refine g_iadd F d_M_receive_75 ?_
  refine g_iald F (n := 481) hq.2.1 d_M_receive_76 ?_
  refine g_bipush F (v := 8) d_M_receive_77 (by decide) ?_
  refine g_pf (q := (8 : Int32) = 0) (by decide) (g_irem F d_M_receive_79 ?_)
  refine g_ltI (fun v6 _ => ?_)
  refine g_iadd F d_M_receive_80 ?_
  refine g_iload_n F d_M_receive_81 4 rfl ?_
  refine g_iast F (n := 481) hq.2.1 d_M_receive_82 ?_
  refine g_ltM (fun σ7 _ => ?_)
  refine g_aload_n F d_M_receive_83 1 rfl ?_
  refine g_getR F fs_8_7 hq.1 rfl d_M_receive_84 ?_
  refine g_iload F d_M_receive_87 0 rfl ?_
  refine g_bipush F (v := 10) d_M_receive_89 (by decide) ?_
  refine g_iadd F d_M_receive_91 ?_
  refine g_dup2 F d_M_receive_92 rfl rfl ?_
  refine g_iald F (n := 481) hq.2.1 d_M_receive_93 ?_
  refine g_iconst F (v := 1) d_M_receive_94 (by decide) ?_
  refine g_iadd F d_M_receive_95 ?_
  refine g_iast F (n := 481) hq.2.1 d_M_receive_96 ?_
  refine g_ltM (fun σ8 _ => ?_)
  exact g_vret F hlk hr d_M_receive_97
def y_M_isOut : MethodName := ⟨"SensorHubModel", "isOut", "(II)Z"⟩
theorem d_M_isOut_0 : decode prog_10_method_25_code 0 = .ok (.iconst 0, 1) := by decide +kernel
theorem d_M_isOut_1 : decode prog_10_method_25_code 1 = .ok (.istore_n 3, 1) := by decide +kernel
theorem d_M_isOut_2 : decode prog_10_method_25_code 2 = .ok (.iconst 0, 1) := by decide +kernel
theorem d_M_isOut_3 : decode prog_10_method_25_code 3 = .ok (.istore 4, 2) := by decide +kernel
theorem d_M_isOut_5 : decode prog_10_method_25_code 5 = .ok (.iload 4, 2) := by decide +kernel
theorem d_M_isOut_7 : decode prog_10_method_25_code 7 = .ok (.aload_n 0, 1) := by decide +kernel
theorem d_M_isOut_8 : decode prog_10_method_25_code 8 = .ok (.getfield 7, 3) := by decide +kernel
theorem d_M_isOut_11 : decode prog_10_method_25_code 11 = .ok (.iconst 2, 1) := by decide +kernel
theorem d_M_isOut_12 : decode prog_10_method_25_code 12 = .ok (.iaload, 1) := by decide +kernel
theorem d_M_isOut_13 : decode prog_10_method_25_code 13 = .ok (.if_icmp .ge 73, 3) := by decide +kernel
theorem d_M_isOut_16 : decode prog_10_method_25_code 16 = .ok (.iload_n 3, 1) := by decide +kernel
theorem d_M_isOut_17 : decode prog_10_method_25_code 17 = .ok (.ifCond .ne 57, 3) := by decide +kernel
theorem d_M_isOut_20 : decode prog_10_method_25_code 20 = .ok (.aload_n 0, 1) := by decide +kernel
theorem d_M_isOut_21 : decode prog_10_method_25_code 21 = .ok (.getfield 7, 3) := by decide +kernel
theorem d_M_isOut_24 : decode prog_10_method_25_code 24 = .ok (.sipush 379, 3) := by decide +kernel
theorem d_M_isOut_27 : decode prog_10_method_25_code 27 = .ok (.iconst 3, 1) := by decide +kernel
theorem d_M_isOut_28 : decode prog_10_method_25_code 28 = .ok (.iload 4, 2) := by decide +kernel
theorem d_M_isOut_30 : decode prog_10_method_25_code 30 = .ok (.imul, 1) := by decide +kernel
theorem d_M_isOut_31 : decode prog_10_method_25_code 31 = .ok (.iadd, 1) := by decide +kernel
theorem d_M_isOut_32 : decode prog_10_method_25_code 32 = .ok (.iaload, 1) := by decide +kernel
theorem d_M_isOut_33 : decode prog_10_method_25_code 33 = .ok (.iload_n 1, 1) := by decide +kernel
theorem d_M_isOut_34 : decode prog_10_method_25_code 34 = .ok (.if_icmp .ne 44, 3) := by decide +kernel
theorem d_M_isOut_37 : decode prog_10_method_25_code 37 = .ok (.iload_n 2, 1) := by decide +kernel
theorem d_M_isOut_38 : decode prog_10_method_25_code 38 = .ok (.aload_n 0, 1) := by decide +kernel
theorem d_M_isOut_39 : decode prog_10_method_25_code 39 = .ok (.getfield 7, 3) := by decide +kernel
theorem d_M_isOut_42 : decode prog_10_method_25_code 42 = .ok (.sipush 379, 3) := by decide +kernel
theorem d_M_isOut_45 : decode prog_10_method_25_code 45 = .ok (.iconst 3, 1) := by decide +kernel
theorem d_M_isOut_46 : decode prog_10_method_25_code 46 = .ok (.iload 4, 2) := by decide +kernel
theorem d_M_isOut_48 : decode prog_10_method_25_code 48 = .ok (.imul, 1) := by decide +kernel
theorem d_M_isOut_49 : decode prog_10_method_25_code 49 = .ok (.iadd, 1) := by decide +kernel
theorem d_M_isOut_50 : decode prog_10_method_25_code 50 = .ok (.iconst 1, 1) := by decide +kernel
theorem d_M_isOut_51 : decode prog_10_method_25_code 51 = .ok (.iadd, 1) := by decide +kernel
theorem d_M_isOut_52 : decode prog_10_method_25_code 52 = .ok (.iaload, 1) := by decide +kernel
theorem d_M_isOut_53 : decode prog_10_method_25_code 53 = .ok (.aload_n 0, 1) := by decide +kernel
theorem d_M_isOut_54 : decode prog_10_method_25_code 54 = .ok (.getfield 7, 3) := by decide +kernel
theorem d_M_isOut_57 : decode prog_10_method_25_code 57 = .ok (.sipush 379, 3) := by decide +kernel
theorem d_M_isOut_60 : decode prog_10_method_25_code 60 = .ok (.iconst 3, 1) := by decide +kernel
theorem d_M_isOut_61 : decode prog_10_method_25_code 61 = .ok (.iload 4, 2) := by decide +kernel
theorem d_M_isOut_63 : decode prog_10_method_25_code 63 = .ok (.imul, 1) := by decide +kernel
theorem d_M_isOut_64 : decode prog_10_method_25_code 64 = .ok (.iadd, 1) := by decide +kernel
theorem d_M_isOut_65 : decode prog_10_method_25_code 65 = .ok (.iconst 2, 1) := by decide +kernel
theorem d_M_isOut_66 : decode prog_10_method_25_code 66 = .ok (.iadd, 1) := by decide +kernel
theorem d_M_isOut_67 : decode prog_10_method_25_code 67 = .ok (.iaload, 1) := by decide +kernel
theorem d_M_isOut_68 : decode prog_10_method_25_code 68 = .ok (.invokestatic 42, 3) := by decide +kernel
theorem d_M_isOut_71 : decode prog_10_method_25_code 71 = .ok (.ifCond .eq 7, 3) := by decide +kernel
theorem d_M_isOut_74 : decode prog_10_method_25_code 74 = .ok (.iconst 1, 1) := by decide +kernel
theorem d_M_isOut_75 : decode prog_10_method_25_code 75 = .ok (.goto 4, 3) := by decide +kernel
theorem d_M_isOut_78 : decode prog_10_method_25_code 78 = .ok (.iconst 0, 1) := by decide +kernel
theorem d_M_isOut_79 : decode prog_10_method_25_code 79 = .ok (.istore_n 3, 1) := by decide +kernel
theorem d_M_isOut_80 : decode prog_10_method_25_code 80 = .ok (.iinc 4 1, 3) := by decide +kernel
theorem d_M_isOut_83 : decode prog_10_method_25_code 83 = .ok (.goto (-78), 3) := by decide +kernel
theorem d_M_isOut_86 : decode prog_10_method_25_code 86 = .ok (.iload_n 3, 1) := by decide +kernel
theorem d_M_isOut_87 : decode prog_10_method_25_code 87 = .ok (.ireturn, 1) := by decide +kernel
def L_M_isOut_5 (r0 : Nat) (y1 : Int32) (y2 : Int32) (k : Int32 → Mem → Option (Int32 × Mem)) : Nat → Int32 → Int32 → Mem → Option (Int32 × Mem)
  | 0, _, _, _ => none
  | n + 1, x3, x4, σ =>
    if (σ (r0 + 1) 2) ≤ x4 then
      k x3 σ
    else
      if x3 = 0 then
        if ib ((379 : Int32) + ((3 : Int32) * x4)) 481 then
          if (σ (r0 + 1) ((379 : Int32) + ((3 : Int32) * x4)).toNatClampNeg) = y1 then
            if ib (((379 : Int32) + ((3 : Int32) * x4)) + (1 : Int32)) 481 then
              lt (σ (r0 + 1) (((379 : Int32) + ((3 : Int32) * x4)) + (1 : Int32)).toNatClampNeg) fun v1 =>
              if ib (((379 : Int32) + ((3 : Int32) * x4)) + (2 : Int32)) 481 then
                lt (σ (r0 + 1) (((379 : Int32) + ((3 : Int32) * x4)) + (2 : Int32)).toNatClampNeg) fun v2 =>
                bd (f_M_in y2 v1 v2 σ) fun r3 σ4 =>
                if r3 = 0 then L_M_isOut_5 r0 y1 y2 k n (0 : Int32) (x4 + 1) σ4 else L_M_isOut_5 r0 y1 y2 k n (1 : Int32) (x4 + 1) σ4
              else none
            else none
          else
            L_M_isOut_5 r0 y1 y2 k n (0 : Int32) (x4 + 1) σ
        else none
      else
        L_M_isOut_5 r0 y1 y2 k n (1 : Int32) (x4 + 1) σ
def f_M_isOut (q : Nat) (p1 : Int32) (p2 : Int32) (σ : Mem) : Option (Int32 × Mem) :=
  L_M_isOut_5 q p1 p2 (fun z5 σ6 =>
    if z5 &&& 1 = z5 then some (z5, σ6) else none) FU (0 : Int32) (0 : Int32) σ
set_option maxRecDepth 100000 in
set_option maxHeartbeats 4000000 in
theorem l_L_M_isOut_5 {X : CX} {p : Program} {l : Launch} {e : Env} {s : State} {m : MethodId} {args : Array Value} {below : List Frame} {meth : Method} {c : Code} (F : FR p s m args c prog_10_method_25_code 5 "SensorHubModel" X) (hlk : meth.locks = false) (hr : meth.sig.returnType = some .boolean) (r0 : Nat) (y1 : Int32) (y2 : Int32) (hr0 : ModelOK X r0) (k : Int32 → Mem → Option (Int32 × Mem)) (hk : ∀ (x3 : Int32) (σ : Mem), G X p l e (rmD 1) s m args below meth c 5 0 0 (QI X below args s vI) 86 [(3, .int x3)] [] σ (k x3 σ)) : ∀ (n : Nat) (x3 : Int32) (x4 : Int32) (σ : Mem), G X p l e (rmD 1) s m args below meth c 5 0 0 (QI X below args s vI) 5 [(0, .ref (xa X r0)), (1, .int y1), (2, .int y2), (3, .int x3), (4, .int x4)] [] σ (L_M_isOut_5 r0 y1 y2 k n x3 x4 σ) := by
  intro n
  induction n with
  | zero => intros; exact g_no
  | succ n ih =>
    intro x3 x4 σ
    unfold L_M_isOut_5
    refine g_iload F d_M_isOut_5 4 rfl ?_
    refine g_aload_n F d_M_isOut_7 0 rfl ?_
    refine g_getR F fs_8_7 hr0.1 rfl d_M_isOut_8 ?_
    refine g_iconst F (v := 2) d_M_isOut_11 (by decide) ?_
    refine g_ialdC F (n := 481) 2 (by decide) (by decide) hr0.2.1 d_M_isOut_12 ?_
    refine g_icmp_ge F (tgt := 86) d_M_isOut_13 (by decide) (fun h1 => ?_) (fun h2 => ?_)
    · exact g_sub [3] rfl (hk _ _)
    refine g_iload_n F d_M_isOut_16 3 rfl ?_
    refine g_if_ne F (tgt := 74) d_M_isOut_17 (by decide) (fun h3 => ?_) (fun h4 => ?_)
    · refine g_aload_n F d_M_isOut_20 0 rfl ?_
      refine g_getR F fs_8_7 hr0.1 rfl d_M_isOut_21 ?_
      refine g_sipush F (v := 379) d_M_isOut_24 (by decide) ?_
      refine g_iconst F (v := 3) d_M_isOut_27 (by decide) ?_
      refine g_iload F d_M_isOut_28 4 rfl ?_
      refine g_imul F d_M_isOut_30 ?_
      refine g_iadd F d_M_isOut_31 ?_
      refine g_iald F (n := 481) hr0.2.1 d_M_isOut_32 ?_
      refine g_iload_n F d_M_isOut_33 1 rfl ?_
      refine g_icmp_ne F (tgt := 78) d_M_isOut_34 (by decide) (fun h5 => ?_) (fun h6 => ?_)
      · refine g_iload_n F d_M_isOut_37 2 rfl ?_
        refine g_aload_n F d_M_isOut_38 0 rfl ?_
        refine g_getR F fs_8_7 hr0.1 rfl d_M_isOut_39 ?_
        refine g_sipush F (v := 379) d_M_isOut_42 (by decide) ?_
        refine g_iconst F (v := 3) d_M_isOut_45 (by decide) ?_
        refine g_iload F d_M_isOut_46 4 rfl ?_
        refine g_imul F d_M_isOut_48 ?_
        refine g_iadd F d_M_isOut_49 ?_
        refine g_iconst F (v := 1) d_M_isOut_50 (by decide) ?_
        refine g_iadd F d_M_isOut_51 ?_
        refine g_iald F (n := 481) hr0.2.1 d_M_isOut_52 ?_
        refine g_ltI (fun v1 _ => ?_)
        refine g_aload_n F d_M_isOut_53 0 rfl ?_
        refine g_getR F fs_8_7 hr0.1 rfl d_M_isOut_54 ?_
        refine g_sipush F (v := 379) d_M_isOut_57 (by decide) ?_
        refine g_iconst F (v := 3) d_M_isOut_60 (by decide) ?_
        refine g_iload F d_M_isOut_61 4 rfl ?_
        refine g_imul F d_M_isOut_63 ?_
        refine g_iadd F d_M_isOut_64 ?_
        refine g_iconst F (v := 2) d_M_isOut_65 (by decide) ?_
        refine g_iadd F d_M_isOut_66 ?_
        refine g_iald F (n := 481) hr0.2.1 d_M_isOut_67 ?_
        refine g_ltI (fun v2 _ => ?_)
        refine g_callS F (dp := 0) (As := [.int y2, .int v1, .int v2]) (c_M_in l _ _ _ _) cs_8_42 rfl rfl (Nat.le_of_ble_eq_true rfl) ⟨Nat.le_of_ble_eq_true rfl, Nat.le_of_ble_eq_true rfl⟩ ⟨Nat.zero_le _, Nat.zero_le _⟩ d_M_isOut_68 (fun r3 σ4 h7 => ?_)
        refine g_if_eq F (tgt := 78) d_M_isOut_71 (by decide) (fun h8 => ?_) (fun h9 => ?_)
        · refine g_iconst F (v := 0) d_M_isOut_78 (by decide) ?_
          refine g_istore_n F (ls' := [(3, .int (0 : Int32)), (0, .ref (xa X r0)), (1, .int y1), (2, .int y2), (4, .int x4)]) d_M_isOut_79 (by decide) rfl ?_
          refine g_iinc F (v := 1) (ls' := [(4, .int (x4 + 1)), (3, .int (0 : Int32)), (0, .ref (xa X r0)), (1, .int y1), (2, .int y2)]) d_M_isOut_80 4 rfl (by decide) (by decide) rfl ?_
          refine g_goto F (tgt := 5) d_M_isOut_83 (by decide) ?_
          exact g_sub [2, 3, 4, 1, 0] rfl (ih _ _ _)
        refine g_iconst F (v := 1) d_M_isOut_74 (by decide) ?_
        refine g_goto F (tgt := 79) d_M_isOut_75 (by decide) ?_
        refine g_istore_n F (ls' := [(3, .int (1 : Int32)), (0, .ref (xa X r0)), (1, .int y1), (2, .int y2), (4, .int x4)]) d_M_isOut_79 (by decide) rfl ?_
        refine g_iinc F (v := 1) (ls' := [(4, .int (x4 + 1)), (3, .int (1 : Int32)), (0, .ref (xa X r0)), (1, .int y1), (2, .int y2)]) d_M_isOut_80 4 rfl (by decide) (by decide) rfl ?_
        refine g_goto F (tgt := 5) d_M_isOut_83 (by decide) ?_
        exact g_sub [2, 3, 4, 1, 0] rfl (ih _ _ _)
      refine g_iconst F (v := 0) d_M_isOut_78 (by decide) ?_
      refine g_istore_n F (ls' := [(3, .int (0 : Int32)), (0, .ref (xa X r0)), (1, .int y1), (2, .int y2), (4, .int x4)]) d_M_isOut_79 (by decide) rfl ?_
      refine g_iinc F (v := 1) (ls' := [(4, .int (x4 + 1)), (3, .int (0 : Int32)), (0, .ref (xa X r0)), (1, .int y1), (2, .int y2)]) d_M_isOut_80 4 rfl (by decide) (by decide) rfl ?_
      refine g_goto F (tgt := 5) d_M_isOut_83 (by decide) ?_
      exact g_sub [2, 3, 4, 1, 0] rfl (ih _ _ _)
    refine g_iconst F (v := 1) d_M_isOut_74 (by decide) ?_
    refine g_goto F (tgt := 79) d_M_isOut_75 (by decide) ?_
    refine g_istore_n F (ls' := [(3, .int (1 : Int32)), (0, .ref (xa X r0)), (1, .int y1), (2, .int y2), (4, .int x4)]) d_M_isOut_79 (by decide) rfl ?_
    refine g_iinc F (v := 1) (ls' := [(4, .int (x4 + 1)), (3, .int (1 : Int32)), (0, .ref (xa X r0)), (1, .int y1), (2, .int y2)]) d_M_isOut_80 4 rfl (by decide) (by decide) rfl ?_
    refine g_goto F (tgt := 5) d_M_isOut_83 (by decide) ?_
    exact g_sub [2, 3, 4, 1, 0] rfl (ih _ _ _)
set_option maxRecDepth 100000 in
set_option maxHeartbeats 4000000 in
theorem c_M_isOut {X : CX} (l : Launch) (q : Nat) (p1 : Int32) (p2 : Int32) (hq : ModelOK X q) (σ : Mem) : CT X l y_M_isOut prog_10_method_25_code 5 (some .boolean) 1 vI [.ref (xa X q), .int p1, .int p2] σ (f_M_isOut q p1 p2 σ) := by
  refine CT_of (by decide +kernel) (Nat.le_of_ble_eq_true rfl) ?_
  intro p e s m args below meth c F hlk hr
  have F : FR p s m args c prog_10_method_25_code 5 "SensorHubModel" X := F
  show G X p l e (rmD 1) s m args below meth c 5 0 0 (QI X below args s vI) 0 [(0, .ref (xa X q)), (1, .int p1), (2, .int p2)] [] σ _
  unfold f_M_isOut
  refine g_iconst F (v := 0) d_M_isOut_0 (by decide) ?_
  refine g_istore_n F (ls' := [(3, .int (0 : Int32)), (0, .ref (xa X q)), (1, .int p1), (2, .int p2)]) d_M_isOut_1 (by decide) rfl ?_
  refine g_iconst F (v := 0) d_M_isOut_2 (by decide) ?_
  refine g_istore F (ls' := [(4, .int (0 : Int32)), (3, .int (0 : Int32)), (0, .ref (xa X q)), (1, .int p1), (2, .int p2)]) d_M_isOut_3 (by decide) rfl ?_
  refine g_sub [2, 3, 4, 1, 0] rfl (l_L_M_isOut_5 F hlk hr _ _ _ hq _ (fun z5 σ6 => ?_) FU _ _ _)
  refine g_iload_n F d_M_isOut_86 0 rfl ?_
  exact g_zret F hlk hr d_M_isOut_87
def y_M_tickPhysical : MethodName := ⟨"SensorHubModel", "tickPhysical", "(I)V"⟩
theorem d_M_tickPhysical_0 : decode prog_10_method_26_code 0 = .ok (.aload_n 0, 1) := by decide +kernel
theorem d_M_tickPhysical_1 : decode prog_10_method_26_code 1 = .ok (.iload_n 1, 1) := by decide +kernel
theorem d_M_tickPhysical_2 : decode prog_10_method_26_code 2 = .ok (.bipush 7, 2) := by decide +kernel
theorem d_M_tickPhysical_4 : decode prog_10_method_26_code 4 = .ok (.invokevirtual 54, 3) := by decide +kernel
theorem d_M_tickPhysical_7 : decode prog_10_method_26_code 7 = .ok (.istore_n 2, 1) := by decide +kernel
theorem d_M_tickPhysical_8 : decode prog_10_method_26_code 8 = .ok (.aload_n 0, 1) := by decide +kernel
theorem d_M_tickPhysical_9 : decode prog_10_method_26_code 9 = .ok (.getfield 25, 3) := by decide +kernel
theorem d_M_tickPhysical_12 : decode prog_10_method_26_code 12 = .ok (.iload_n 1, 1) := by decide +kernel
theorem d_M_tickPhysical_13 : decode prog_10_method_26_code 13 = .ok (.iaload, 1) := by decide +kernel
theorem d_M_tickPhysical_14 : decode prog_10_method_26_code 14 = .ok (.istore_n 3, 1) := by decide +kernel
theorem d_M_tickPhysical_15 : decode prog_10_method_26_code 15 = .ok (.aload_n 0, 1) := by decide +kernel
theorem d_M_tickPhysical_16 : decode prog_10_method_26_code 16 = .ok (.getfield 7, 3) := by decide +kernel
theorem d_M_tickPhysical_19 : decode prog_10_method_26_code 19 = .ok (.bipush 6, 2) := by decide +kernel
theorem d_M_tickPhysical_21 : decode prog_10_method_26_code 21 = .ok (.iaload, 1) := by decide +kernel
theorem d_M_tickPhysical_22 : decode prog_10_method_26_code 22 = .ok (.iload_n 2, 1) := by decide +kernel
theorem d_M_tickPhysical_23 : decode prog_10_method_26_code 23 = .ok (.iconst 1, 1) := by decide +kernel
theorem d_M_tickPhysical_24 : decode prog_10_method_26_code 24 = .ok (.iadd, 1) := by decide +kernel
theorem d_M_tickPhysical_25 : decode prog_10_method_26_code 25 = .ok (.iload_n 3, 1) := by decide +kernel
theorem d_M_tickPhysical_26 : decode prog_10_method_26_code 26 = .ok (.imul, 1) := by decide +kernel
theorem d_M_tickPhysical_27 : decode prog_10_method_26_code 27 = .ok (.iadd, 1) := by decide +kernel
theorem d_M_tickPhysical_28 : decode prog_10_method_26_code 28 = .ok (.istore 4, 2) := by decide +kernel
theorem d_M_tickPhysical_30 : decode prog_10_method_26_code 30 = .ok (.bipush 7, 2) := by decide +kernel
theorem d_M_tickPhysical_32 : decode prog_10_method_26_code 32 = .ok (.iload_n 2, 1) := by decide +kernel
theorem d_M_tickPhysical_33 : decode prog_10_method_26_code 33 = .ok (.imul, 1) := by decide +kernel
theorem d_M_tickPhysical_34 : decode prog_10_method_26_code 34 = .ok (.iload_n 1, 1) := by decide +kernel
theorem d_M_tickPhysical_35 : decode prog_10_method_26_code 35 = .ok (.iadd, 1) := by decide +kernel
theorem d_M_tickPhysical_36 : decode prog_10_method_26_code 36 = .ok (.aload_n 0, 1) := by decide +kernel
theorem d_M_tickPhysical_37 : decode prog_10_method_26_code 37 = .ok (.iload_n 1, 1) := by decide +kernel
theorem d_M_tickPhysical_38 : decode prog_10_method_26_code 38 = .ok (.iconst 5, 1) := by decide +kernel
theorem d_M_tickPhysical_39 : decode prog_10_method_26_code 39 = .ok (.invokevirtual 54, 3) := by decide +kernel
theorem d_M_tickPhysical_42 : decode prog_10_method_26_code 42 = .ok (.iconst 1, 1) := by decide +kernel
theorem d_M_tickPhysical_43 : decode prog_10_method_26_code 43 = .ok (.iadd, 1) := by decide +kernel
theorem d_M_tickPhysical_44 : decode prog_10_method_26_code 44 = .ok (.irem, 1) := by decide +kernel
theorem d_M_tickPhysical_45 : decode prog_10_method_26_code 45 = .ok (.istore 5, 2) := by decide +kernel
theorem d_M_tickPhysical_47 : decode prog_10_method_26_code 47 = .ok (.iload 4, 2) := by decide +kernel
theorem d_M_tickPhysical_49 : decode prog_10_method_26_code 49 = .ok (.iload 5, 2) := by decide +kernel
theorem d_M_tickPhysical_51 : decode prog_10_method_26_code 51 = .ok (.iadd, 1) := by decide +kernel
theorem d_M_tickPhysical_52 : decode prog_10_method_26_code 52 = .ok (.aload_n 0, 1) := by decide +kernel
theorem d_M_tickPhysical_53 : decode prog_10_method_26_code 53 = .ok (.getfield 7, 3) := by decide +kernel
theorem d_M_tickPhysical_56 : decode prog_10_method_26_code 56 = .ok (.iconst 0, 1) := by decide +kernel
theorem d_M_tickPhysical_57 : decode prog_10_method_26_code 57 = .ok (.iaload, 1) := by decide +kernel
theorem d_M_tickPhysical_58 : decode prog_10_method_26_code 58 = .ok (.if_icmp .eq 4, 3) := by decide +kernel
theorem d_M_tickPhysical_61 : decode prog_10_method_26_code 61 = .ok (.return_, 1) := by decide +kernel
theorem d_M_tickPhysical_62 : decode prog_10_method_26_code 62 = .ok (.aload_n 0, 1) := by decide +kernel
theorem d_M_tickPhysical_63 : decode prog_10_method_26_code 63 = .ok (.iload_n 1, 1) := by decide +kernel
theorem d_M_tickPhysical_64 : decode prog_10_method_26_code 64 = .ok (.bipush 8, 2) := by decide +kernel
theorem d_M_tickPhysical_66 : decode prog_10_method_26_code 66 = .ok (.invokevirtual 54, 3) := by decide +kernel
theorem d_M_tickPhysical_69 : decode prog_10_method_26_code 69 = .ok (.iload_n 3, 1) := by decide +kernel
theorem d_M_tickPhysical_70 : decode prog_10_method_26_code 70 = .ok (.iadd, 1) := by decide +kernel
theorem d_M_tickPhysical_71 : decode prog_10_method_26_code 71 = .ok (.istore 6, 2) := by decide +kernel
theorem d_M_tickPhysical_73 : decode prog_10_method_26_code 73 = .ok (.iload_n 2, 1) := by decide +kernel
theorem d_M_tickPhysical_74 : decode prog_10_method_26_code 74 = .ok (.ifCond .ne 12, 3) := by decide +kernel
theorem d_M_tickPhysical_77 : decode prog_10_method_26_code 77 = .ok (.aload_n 0, 1) := by decide +kernel
theorem d_M_tickPhysical_78 : decode prog_10_method_26_code 78 = .ok (.getfield 7, 3) := by decide +kernel
theorem d_M_tickPhysical_81 : decode prog_10_method_26_code 81 = .ok (.iconst 0, 1) := by decide +kernel
theorem d_M_tickPhysical_82 : decode prog_10_method_26_code 82 = .ok (.iaload, 1) := by decide +kernel
theorem d_M_tickPhysical_83 : decode prog_10_method_26_code 83 = .ok (.goto 18, 3) := by decide +kernel
theorem d_M_tickPhysical_86 : decode prog_10_method_26_code 86 = .ok (.iload 6, 2) := by decide +kernel
theorem d_M_tickPhysical_88 : decode prog_10_method_26_code 88 = .ok (.aload_n 0, 1) := by decide +kernel
theorem d_M_tickPhysical_89 : decode prog_10_method_26_code 89 = .ok (.getfield 7, 3) := by decide +kernel
theorem d_M_tickPhysical_92 : decode prog_10_method_26_code 92 = .ok (.iconst 0, 1) := by decide +kernel
theorem d_M_tickPhysical_93 : decode prog_10_method_26_code 93 = .ok (.iaload, 1) := by decide +kernel
theorem d_M_tickPhysical_94 : decode prog_10_method_26_code 94 = .ok (.iload 6, 2) := by decide +kernel
theorem d_M_tickPhysical_96 : decode prog_10_method_26_code 96 = .ok (.isub, 1) := by decide +kernel
theorem d_M_tickPhysical_97 : decode prog_10_method_26_code 97 = .ok (.invokestatic 84, 3) := by decide +kernel
theorem d_M_tickPhysical_100 : decode prog_10_method_26_code 100 = .ok (.iadd, 1) := by decide +kernel
theorem d_M_tickPhysical_101 : decode prog_10_method_26_code 101 = .ok (.istore 7, 2) := by decide +kernel
theorem d_M_tickPhysical_103 : decode prog_10_method_26_code 103 = .ok (.aload_n 0, 1) := by decide +kernel
theorem d_M_tickPhysical_104 : decode prog_10_method_26_code 104 = .ok (.iload_n 1, 1) := by decide +kernel
theorem d_M_tickPhysical_105 : decode prog_10_method_26_code 105 = .ok (.iconst 3, 1) := by decide +kernel
theorem d_M_tickPhysical_106 : decode prog_10_method_26_code 106 = .ok (.invokevirtual 54, 3) := by decide +kernel
theorem d_M_tickPhysical_109 : decode prog_10_method_26_code 109 = .ok (.iload 4, 2) := by decide +kernel
theorem d_M_tickPhysical_111 : decode prog_10_method_26_code 111 = .ok (.imul, 1) := by decide +kernel
theorem d_M_tickPhysical_112 : decode prog_10_method_26_code 112 = .ok (.aload_n 0, 1) := by decide +kernel
theorem d_M_tickPhysical_113 : decode prog_10_method_26_code 113 = .ok (.iload_n 1, 1) := by decide +kernel
theorem d_M_tickPhysical_114 : decode prog_10_method_26_code 114 = .ok (.iconst 4, 1) := by decide +kernel
theorem d_M_tickPhysical_115 : decode prog_10_method_26_code 115 = .ok (.invokevirtual 54, 3) := by decide +kernel
theorem d_M_tickPhysical_118 : decode prog_10_method_26_code 118 = .ok (.iadd, 1) := by decide +kernel
theorem d_M_tickPhysical_119 : decode prog_10_method_26_code 119 = .ok (.sipush 1000, 3) := by decide +kernel
theorem d_M_tickPhysical_122 : decode prog_10_method_26_code 122 = .ok (.irem, 1) := by decide +kernel
theorem d_M_tickPhysical_123 : decode prog_10_method_26_code 123 = .ok (.istore 8, 2) := by decide +kernel
theorem d_M_tickPhysical_125 : decode prog_10_method_26_code 125 = .ok (.aload_n 0, 1) := by decide +kernel
theorem d_M_tickPhysical_126 : decode prog_10_method_26_code 126 = .ok (.iload_n 1, 1) := by decide +kernel
theorem d_M_tickPhysical_127 : decode prog_10_method_26_code 127 = .ok (.iload 7, 2) := by decide +kernel
theorem d_M_tickPhysical_129 : decode prog_10_method_26_code 129 = .ok (.aload_n 0, 1) := by decide +kernel
theorem d_M_tickPhysical_130 : decode prog_10_method_26_code 130 = .ok (.iload_n 1, 1) := by decide +kernel
theorem d_M_tickPhysical_131 : decode prog_10_method_26_code 131 = .ok (.iload 4, 2) := by decide +kernel
theorem d_M_tickPhysical_133 : decode prog_10_method_26_code 133 = .ok (.invokevirtual 87, 3) := by decide +kernel
theorem d_M_tickPhysical_136 : decode prog_10_method_26_code 136 = .ok (.ifCond .eq 8, 3) := by decide +kernel
theorem d_M_tickPhysical_139 : decode prog_10_method_26_code 139 = .ok (.bipush (-8), 2) := by decide +kernel
theorem d_M_tickPhysical_141 : decode prog_10_method_26_code 141 = .ok (.goto 5, 3) := by decide +kernel
theorem d_M_tickPhysical_144 : decode prog_10_method_26_code 144 = .ok (.iload 8, 2) := by decide +kernel
theorem d_M_tickPhysical_146 : decode prog_10_method_26_code 146 = .ok (.invokevirtual 91, 3) := by decide +kernel
theorem d_M_tickPhysical_149 : decode prog_10_method_26_code 149 = .ok (.aload_n 0, 1) := by decide +kernel
theorem d_M_tickPhysical_150 : decode prog_10_method_26_code 150 = .ok (.getfield 7, 3) := by decide +kernel
theorem d_M_tickPhysical_153 : decode prog_10_method_26_code 153 = .ok (.iconst 5, 1) := by decide +kernel
theorem d_M_tickPhysical_154 : decode prog_10_method_26_code 154 = .ok (.dup2, 1) := by decide +kernel
theorem d_M_tickPhysical_155 : decode prog_10_method_26_code 155 = .ok (.iaload, 1) := by decide +kernel
theorem d_M_tickPhysical_156 : decode prog_10_method_26_code 156 = .ok (.aload_n 0, 1) := by decide +kernel
theorem d_M_tickPhysical_157 : decode prog_10_method_26_code 157 = .ok (.iload_n 1, 1) := by decide +kernel
theorem d_M_tickPhysical_158 : decode prog_10_method_26_code 158 = .ok (.bipush 6, 2) := by decide +kernel
theorem d_M_tickPhysical_160 : decode prog_10_method_26_code 160 = .ok (.invokevirtual 54, 3) := by decide +kernel
theorem d_M_tickPhysical_163 : decode prog_10_method_26_code 163 = .ok (.iadd, 1) := by decide +kernel
theorem d_M_tickPhysical_164 : decode prog_10_method_26_code 164 = .ok (.iastore, 1) := by decide +kernel
theorem d_M_tickPhysical_165 : decode prog_10_method_26_code 165 = .ok (.return_, 1) := by decide +kernel
theorem cv_8_87 : CSV "SensorHubModel" 87 y_M_isOut prog_10_method_25_code 5 (some .boolean) 2 := ⟨gw_I 1135 (by decide +kernel) rfl, gw_I 1137 (by decide +kernel) rfl, gw_I 62 (by decide +kernel) rfl, gw_I 78 (by decide +kernel) rfl, gw_I 1138 (by decide +kernel) rfl, ⟨by decide +kernel, by decide +kernel⟩, by decide +kernel⟩
theorem cv_8_91 : CSV "SensorHubModel" 91 y_M_receive prog_10_method_24_code 5 none 3 := ⟨gw_I 1139 (by decide +kernel) rfl, gw_I 1141 (by decide +kernel) rfl, gw_I 63 (by decide +kernel) rfl, gw_I 78 (by decide +kernel) rfl, gw_I 1142 (by decide +kernel) rfl, ⟨by decide +kernel, by decide +kernel⟩, by decide +kernel⟩
theorem cs_8_84 : CSS "SensorHubModel" 84 y_M_quarter prog_10_method_23_code 1 (some .int) 1 := ⟨gw_I 1132 (by decide +kernel) rfl, gw_I 1133 (by decide +kernel) rfl, gw_I 78 (by decide +kernel) rfl, gw_I 1134 (by decide +kernel) rfl, ⟨by decide +kernel, by decide +kernel⟩, by decide +kernel⟩
def f_M_tickPhysical (q : Nat) (p1 : Int32) (σ : Mem) : Option (Unit × Mem) :=
  bd (f_M_sensor0 q p1 (7 : Int32) σ) fun r1 σ2 =>
  if ib p1 8 then
    lt (σ2 (q + 6) p1.toNatClampNeg) fun v3 =>
    lt ((σ2 (q + 1) 6) + ((r1 + (1 : Int32)) * v3)) fun v4 =>
    bd (f_M_sensor0 q p1 (5 : Int32) σ2) fun r5 σ6 =>
    if r5 + (1 : Int32) = 0 then none else
    lt ((((7 : Int32) * r1) + p1) - (((7 : Int32) * r1) + p1) / (r5 + (1 : Int32)) * (r5 + (1 : Int32))) fun v7 =>
    if (v4 + v7) = (σ6 (q + 1) 0) then
      bd (f_M_sensor0 q p1 (8 : Int32) σ6) fun r8 σ9 =>
      lt (r8 + v3) fun v10 =>
      if r1 = 0 then
        lt (σ9 (q + 1) 0) fun v11 =>
        bd (f_M_sensor0 q p1 (3 : Int32) σ9) fun r12 σ13 =>
        bd (f_M_sensor0 q p1 (4 : Int32) σ13) fun r14 σ15 =>
        lt (((r12 * v4) + r14) - ((r12 * v4) + r14) / (1000 : Int32) * (1000 : Int32)) fun v16 =>
        bd (f_M_isOut q p1 v4 σ15) fun r17 σ18 =>
        if r17 = 0 then
          bd (f_M_receive q p1 v11 v16 σ18) fun _ σ20 =>
          bd (f_M_sensor0 q p1 (6 : Int32) σ20) fun r21 σ22 =>
          lt (wr σ22 (q + 1) 5 ((σ20 (q + 1) 5) + r21)) fun σ23 =>
          some ((), σ23)
        else
          bd (f_M_receive q p1 v11 (-8 : Int32) σ18) fun _ σ25 =>
          bd (f_M_sensor0 q p1 (6 : Int32) σ25) fun r26 σ27 =>
          lt (wr σ27 (q + 1) 5 ((σ25 (q + 1) 5) + r26)) fun σ28 =>
          some ((), σ28)
      else
        bd (f_M_quarter ((σ9 (q + 1) 0) - v10) σ9) fun r29 σ30 =>
        lt (v10 + r29) fun v31 =>
        bd (f_M_sensor0 q p1 (3 : Int32) σ30) fun r32 σ33 =>
        bd (f_M_sensor0 q p1 (4 : Int32) σ33) fun r34 σ35 =>
        lt (((r32 * v4) + r34) - ((r32 * v4) + r34) / (1000 : Int32) * (1000 : Int32)) fun v36 =>
        bd (f_M_isOut q p1 v4 σ35) fun r37 σ38 =>
        if r37 = 0 then
          bd (f_M_receive q p1 v31 v36 σ38) fun _ σ40 =>
          bd (f_M_sensor0 q p1 (6 : Int32) σ40) fun r41 σ42 =>
          lt (wr σ42 (q + 1) 5 ((σ40 (q + 1) 5) + r41)) fun σ43 =>
          some ((), σ43)
        else
          bd (f_M_receive q p1 v31 (-8 : Int32) σ38) fun _ σ45 =>
          bd (f_M_sensor0 q p1 (6 : Int32) σ45) fun r46 σ47 =>
          lt (wr σ47 (q + 1) 5 ((σ45 (q + 1) 5) + r46)) fun σ48 =>
          some ((), σ48)
    else
      some ((), σ6)
  else none
set_option maxRecDepth 100000 in
set_option maxHeartbeats 4000000 in
theorem c_M_tickPhysical {X : CX} (l : Launch) (q : Nat) (p1 : Int32) (hq : ModelOK X q) (σ : Mem) : CT X l y_M_tickPhysical prog_10_method_26_code 9 none 2 vU [.ref (xa X q), .int p1] σ (f_M_tickPhysical q p1 σ) := by
  refine CT_of (by decide +kernel) (Nat.le_of_ble_eq_true rfl) ?_
  intro p e s m args below meth c F hlk hr
  have F : FR p s m args c prog_10_method_26_code 9 "SensorHubModel" X := F
  show G X p l e (rmD 2) s m args below meth c 9 0 0 (QI X below args s vU) 0 [(0, .ref (xa X q)), (1, .int p1)] [] σ _
  unfold f_M_tickPhysical
  refine g_aload_n F d_M_tickPhysical_0 0 rfl ?_
  refine g_iload_n F d_M_tickPhysical_1 1 rfl ?_
  refine g_bipush F (v := 7) d_M_tickPhysical_2 (by decide) ?_
  refine g_callV F (dp := 0) (ci := 8) (As := [.int p1, .int (7 : Int32)]) (c_M_sensor0 l _ _ _ hq _) cv_8_54 hq.1 rfl rfl rfl (Nat.le_of_ble_eq_true rfl) ⟨Nat.le_of_ble_eq_true rfl, Nat.le_of_ble_eq_true rfl⟩ ⟨Nat.zero_le _, Nat.zero_le _⟩ d_M_tickPhysical_4 (fun r1 σ2 h1 => ?_)
  refine g_istore_n F (ls' := [(2, .int r1), (0, .ref (xa X q)), (1, .int p1)]) d_M_tickPhysical_7 (by decide) rfl ?_
  refine g_aload_n F d_M_tickPhysical_8 1 rfl ?_
  refine g_getR F fs_8_25 hq.1 rfl d_M_tickPhysical_9 ?_
  refine g_iload_n F d_M_tickPhysical_12 2 rfl ?_
  refine g_iald F (n := 8) hq.2.2.2.2.2.2.1 d_M_tickPhysical_13 ?_
  refine g_ltI (fun v3 _ => ?_)
  refine g_istore_n F (ls' := [(3, .int v3), (2, .int r1), (0, .ref (xa X q)), (1, .int p1)]) d_M_tickPhysical_14 (by decide) rfl ?_
  refine g_aload_n F d_M_tickPhysical_15 2 rfl ?_
  refine g_getR F fs_8_7 hq.1 rfl d_M_tickPhysical_16 ?_
  refine g_bipush F (v := 6) d_M_tickPhysical_19 (by decide) ?_
  refine g_ialdC F (n := 481) 6 (by decide) (by decide) hq.2.1 d_M_tickPhysical_21 ?_
  refine g_iload_n F d_M_tickPhysical_22 1 rfl ?_
  refine g_iconst F (v := 1) d_M_tickPhysical_23 (by decide) ?_
  refine g_iadd F d_M_tickPhysical_24 ?_
  refine g_iload_n F d_M_tickPhysical_25 0 rfl ?_
  refine g_imul F d_M_tickPhysical_26 ?_
  refine g_iadd F d_M_tickPhysical_27 ?_
  refine g_ltI (fun v4 _ => ?_)
  refine g_istore F (ls' := [(4, .int v4), (3, .int v3), (2, .int r1), (0, .ref (xa X q)), (1, .int p1)]) d_M_tickPhysical_28 (by decide) rfl ?_
  refine g_bipush F (v := 7) d_M_tickPhysical_30 (by decide) ?_
  refine g_iload_n F d_M_tickPhysical_32 2 rfl ?_
  refine g_imul F d_M_tickPhysical_33 ?_
  refine g_iload_n F d_M_tickPhysical_34 4 rfl ?_
  refine g_iadd F d_M_tickPhysical_35 ?_
  refine g_aload_n F d_M_tickPhysical_36 3 rfl ?_
  refine g_iload_n F d_M_tickPhysical_37 4 rfl ?_
  refine g_iconst F (v := 5) d_M_tickPhysical_38 (by decide) ?_
  refine g_callV F (dp := 0) (ci := 8) (As := [.int p1, .int (5 : Int32)]) (c_M_sensor0 l _ _ _ hq _) cv_8_54 hq.1 rfl rfl rfl (Nat.le_of_ble_eq_true rfl) ⟨Nat.le_of_ble_eq_true rfl, Nat.le_of_ble_eq_true rfl⟩ ⟨Nat.zero_le _, Nat.zero_le _⟩ d_M_tickPhysical_39 (fun r5 σ6 h2 => ?_)
  refine g_iconst F (v := 1) d_M_tickPhysical_42 (by decide) ?_
  refine g_iadd F d_M_tickPhysical_43 ?_
  refine g_irem F d_M_tickPhysical_44 ?_
  refine g_ltI (fun v7 _ => ?_)
  refine g_istore F (ls' := [(5, .int v7), (4, .int v4), (3, .int v3), (2, .int r1), (0, .ref (xa X q)), (1, .int p1)]) d_M_tickPhysical_45 (by decide) rfl ?_
  refine g_iload F d_M_tickPhysical_47 1 rfl ?_
  refine g_iload F d_M_tickPhysical_49 0 rfl ?_
  refine g_iadd F d_M_tickPhysical_51 ?_
  refine g_aload_n F d_M_tickPhysical_52 4 rfl ?_
  refine g_getR F fs_8_7 hq.1 rfl d_M_tickPhysical_53 ?_
  refine g_iconst F (v := 0) d_M_tickPhysical_56 (by decide) ?_
  refine g_ialdC F (n := 481) 0 (by decide) (by decide) hq.2.1 d_M_tickPhysical_57 ?_
  refine g_icmp_eq F (tgt := 62) d_M_tickPhysical_58 (by decide) (fun h3 => ?_) (fun h4 => ?_)
  · refine g_aload_n F d_M_tickPhysical_62 4 rfl ?_
    refine g_iload_n F d_M_tickPhysical_63 5 rfl ?_
    refine g_bipush F (v := 8) d_M_tickPhysical_64 (by decide) ?_
    refine g_callV F (dp := 0) (ci := 8) (As := [.int p1, .int (8 : Int32)]) (c_M_sensor0 l _ _ _ hq _) cv_8_54 hq.1 rfl rfl rfl (Nat.le_of_ble_eq_true rfl) ⟨Nat.le_of_ble_eq_true rfl, Nat.le_of_ble_eq_true rfl⟩ ⟨Nat.zero_le _, Nat.zero_le _⟩ d_M_tickPhysical_66 (fun r8 σ9 h5 => ?_)
    refine g_iload_n F d_M_tickPhysical_69 2 rfl ?_
    refine g_iadd F d_M_tickPhysical_70 ?_
    refine g_ltI (fun v10 _ => ?_)
    refine g_istore F (ls' := [(6, .int v10), (5, .int v7), (4, .int v4), (3, .int v3), (2, .int r1), (0, .ref (xa X q)), (1, .int p1)]) d_M_tickPhysical_71 (by decide) rfl ?_
    refine g_iload_n F d_M_tickPhysical_73 4 rfl ?_
    refine g_if_ne F (tgt := 86) d_M_tickPhysical_74 (by decide) (fun h6 => ?_) (fun h7 => ?_)
    · refine g_aload_n F d_M_tickPhysical_77 5 rfl ?_
      refine g_getR F fs_8_7 hq.1 rfl d_M_tickPhysical_78 ?_
      refine g_iconst F (v := 0) d_M_tickPhysical_81 (by decide) ?_
      refine g_ialdC F (n := 481) 0 (by decide) (by decide) hq.2.1 d_M_tickPhysical_82 ?_
      refine g_goto F (tgt := 101) d_M_tickPhysical_83 (by decide) ?_
      refine g_ltI (fun v11 _ => ?_)
      refine g_istore F (ls' := [(7, .int v11), (6, .int v10), (5, .int v7), (4, .int v4), (3, .int v3), (2, .int r1), (0, .ref (xa X q)), (1, .int p1)]) d_M_tickPhysical_101 (by decide) rfl ?_
      refine g_aload_n F d_M_tickPhysical_103 6 rfl ?_
      refine g_iload_n F d_M_tickPhysical_104 7 rfl ?_
      refine g_iconst F (v := 3) d_M_tickPhysical_105 (by decide) ?_
      refine g_callV F (dp := 0) (ci := 8) (As := [.int p1, .int (3 : Int32)]) (c_M_sensor0 l _ _ _ hq _) cv_8_54 hq.1 rfl rfl rfl (Nat.le_of_ble_eq_true rfl) ⟨Nat.le_of_ble_eq_true rfl, Nat.le_of_ble_eq_true rfl⟩ ⟨Nat.zero_le _, Nat.zero_le _⟩ d_M_tickPhysical_106 (fun r12 σ13 h8 => ?_)
      refine g_iload F d_M_tickPhysical_109 3 rfl ?_
      refine g_imul F d_M_tickPhysical_111 ?_
      refine g_aload_n F d_M_tickPhysical_112 6 rfl ?_
      refine g_iload_n F d_M_tickPhysical_113 7 rfl ?_
      refine g_iconst F (v := 4) d_M_tickPhysical_114 (by decide) ?_
      refine g_callV F (dp := 0) (ci := 8) (As := [.int p1, .int (4 : Int32)]) (c_M_sensor0 l _ _ _ hq _) cv_8_54 hq.1 rfl rfl rfl (Nat.le_of_ble_eq_true rfl) ⟨Nat.le_of_ble_eq_true rfl, Nat.le_of_ble_eq_true rfl⟩ ⟨Nat.zero_le _, Nat.zero_le _⟩ d_M_tickPhysical_115 (fun r14 σ15 h9 => ?_)
      refine g_iadd F d_M_tickPhysical_118 ?_
      refine g_sipush F (v := 1000) d_M_tickPhysical_119 (by decide) ?_
      refine g_pf (q := (1000 : Int32) = 0) (by decide) (g_irem F d_M_tickPhysical_122 ?_)
      refine g_ltI (fun v16 _ => ?_)
      refine g_istore F (ls' := [(8, .int v16), (7, .int v11), (6, .int v10), (5, .int v7), (4, .int v4), (3, .int v3), (2, .int r1), (0, .ref (xa X q)), (1, .int p1)]) d_M_tickPhysical_123 (by decide) rfl ?_
      refine g_aload_n F d_M_tickPhysical_125 7 rfl ?_
      refine g_iload_n F d_M_tickPhysical_126 8 rfl ?_
      refine g_iload F d_M_tickPhysical_127 1 rfl ?_
      refine g_aload_n F d_M_tickPhysical_129 7 rfl ?_
      refine g_iload_n F d_M_tickPhysical_130 8 rfl ?_
      refine g_iload F d_M_tickPhysical_131 4 rfl ?_
      refine g_callV F (dp := 1) (ci := 8) (As := [.int p1, .int v4]) (c_M_isOut l _ _ _ hq _) cv_8_87 hq.1 rfl rfl rfl (Nat.le_of_ble_eq_true rfl) ⟨Nat.le_of_ble_eq_true rfl, Nat.le_of_ble_eq_true rfl⟩ ⟨Nat.zero_le _, Nat.zero_le _⟩ d_M_tickPhysical_133 (fun r17 σ18 h10 => ?_)
      refine g_if_eq F (tgt := 144) d_M_tickPhysical_136 (by decide) (fun h11 => ?_) (fun h12 => ?_)
      · refine g_iload F d_M_tickPhysical_144 0 rfl ?_
        refine g_callV F (dp := 0) (ci := 8) (As := [.int p1, .int v11, .int v16]) (c_M_receive l _ _ _ _ hq _) cv_8_91 hq.1 rfl rfl rfl (Nat.le_of_ble_eq_true rfl) ⟨Nat.le_of_ble_eq_true rfl, Nat.le_of_ble_eq_true rfl⟩ ⟨Nat.zero_le _, Nat.zero_le _⟩ d_M_tickPhysical_146 (fun _ σ20 h13 => ?_)
        refine g_aload_n F d_M_tickPhysical_149 7 rfl ?_
        refine g_getR F fs_8_7 hq.1 rfl d_M_tickPhysical_150 ?_
        refine g_iconst F (v := 5) d_M_tickPhysical_153 (by decide) ?_
        refine g_dup2 F d_M_tickPhysical_154 rfl rfl ?_
        refine g_ialdC F (n := 481) 5 (by decide) (by decide) hq.2.1 d_M_tickPhysical_155 ?_
        refine g_aload_n F d_M_tickPhysical_156 7 rfl ?_
        refine g_iload_n F d_M_tickPhysical_157 8 rfl ?_
        refine g_bipush F (v := 6) d_M_tickPhysical_158 (by decide) ?_
        refine g_callV F (dp := 0) (ci := 8) (As := [.int p1, .int (6 : Int32)]) (c_M_sensor0 l _ _ _ hq _) cv_8_54 hq.1 rfl rfl rfl (Nat.le_of_ble_eq_true rfl) ⟨Nat.le_of_ble_eq_true rfl, Nat.le_of_ble_eq_true rfl⟩ ⟨Nat.zero_le _, Nat.zero_le _⟩ d_M_tickPhysical_160 (fun r21 σ22 h14 => ?_)
        refine g_iadd F d_M_tickPhysical_163 ?_
        refine g_iastC F (n := 481) 5 (by decide) (by decide) hq.2.1 d_M_tickPhysical_164 ?_
        refine g_ltM (fun σ23 _ => ?_)
        exact g_vret F hlk hr d_M_tickPhysical_165
      refine g_bipush F (v := (-8)) d_M_tickPhysical_139 (by decide) ?_
      refine g_goto F (tgt := 146) d_M_tickPhysical_141 (by decide) ?_
      refine g_callV F (dp := 0) (ci := 8) (As := [.int p1, .int v11, .int (-8 : Int32)]) (c_M_receive l _ _ _ _ hq _) cv_8_91 hq.1 rfl rfl rfl (Nat.le_of_ble_eq_true rfl) ⟨Nat.le_of_ble_eq_true rfl, Nat.le_of_ble_eq_true rfl⟩ ⟨Nat.zero_le _, Nat.zero_le _⟩ d_M_tickPhysical_146 (fun _ σ25 h15 => ?_)
      refine g_aload_n F d_M_tickPhysical_149 7 rfl ?_
      refine g_getR F fs_8_7 hq.1 rfl d_M_tickPhysical_150 ?_
      refine g_iconst F (v := 5) d_M_tickPhysical_153 (by decide) ?_
      refine g_dup2 F d_M_tickPhysical_154 rfl rfl ?_
      refine g_ialdC F (n := 481) 5 (by decide) (by decide) hq.2.1 d_M_tickPhysical_155 ?_
      refine g_aload_n F d_M_tickPhysical_156 7 rfl ?_
      refine g_iload_n F d_M_tickPhysical_157 8 rfl ?_
      refine g_bipush F (v := 6) d_M_tickPhysical_158 (by decide) ?_
      refine g_callV F (dp := 0) (ci := 8) (As := [.int p1, .int (6 : Int32)]) (c_M_sensor0 l _ _ _ hq _) cv_8_54 hq.1 rfl rfl rfl (Nat.le_of_ble_eq_true rfl) ⟨Nat.le_of_ble_eq_true rfl, Nat.le_of_ble_eq_true rfl⟩ ⟨Nat.zero_le _, Nat.zero_le _⟩ d_M_tickPhysical_160 (fun r26 σ27 h16 => ?_)
      refine g_iadd F d_M_tickPhysical_163 ?_
      refine g_iastC F (n := 481) 5 (by decide) (by decide) hq.2.1 d_M_tickPhysical_164 ?_
      refine g_ltM (fun σ28 _ => ?_)
      exact g_vret F hlk hr d_M_tickPhysical_165
    refine g_iload F d_M_tickPhysical_86 0 rfl ?_
    refine g_aload_n F d_M_tickPhysical_88 5 rfl ?_
    refine g_getR F fs_8_7 hq.1 rfl d_M_tickPhysical_89 ?_
    refine g_iconst F (v := 0) d_M_tickPhysical_92 (by decide) ?_
    refine g_ialdC F (n := 481) 0 (by decide) (by decide) hq.2.1 d_M_tickPhysical_93 ?_
    refine g_iload F d_M_tickPhysical_94 0 rfl ?_
    refine g_isub F d_M_tickPhysical_96 ?_
    refine g_callS F (dp := 0) (As := [.int ((σ9 (q + 1) 0) - v10)]) (c_M_quarter l _ _) cs_8_84 rfl rfl (Nat.le_of_ble_eq_true rfl) ⟨Nat.le_of_ble_eq_true rfl, Nat.le_of_ble_eq_true rfl⟩ ⟨Nat.zero_le _, Nat.zero_le _⟩ d_M_tickPhysical_97 (fun r29 σ30 h17 => ?_)
    refine g_iadd F d_M_tickPhysical_100 ?_
    refine g_ltI (fun v31 _ => ?_)
    refine g_istore F (ls' := [(7, .int v31), (6, .int v10), (5, .int v7), (4, .int v4), (3, .int v3), (2, .int r1), (0, .ref (xa X q)), (1, .int p1)]) d_M_tickPhysical_101 (by decide) rfl ?_
    refine g_aload_n F d_M_tickPhysical_103 6 rfl ?_
    refine g_iload_n F d_M_tickPhysical_104 7 rfl ?_
    refine g_iconst F (v := 3) d_M_tickPhysical_105 (by decide) ?_
    refine g_callV F (dp := 0) (ci := 8) (As := [.int p1, .int (3 : Int32)]) (c_M_sensor0 l _ _ _ hq _) cv_8_54 hq.1 rfl rfl rfl (Nat.le_of_ble_eq_true rfl) ⟨Nat.le_of_ble_eq_true rfl, Nat.le_of_ble_eq_true rfl⟩ ⟨Nat.zero_le _, Nat.zero_le _⟩ d_M_tickPhysical_106 (fun r32 σ33 h18 => ?_)
    refine g_iload F d_M_tickPhysical_109 3 rfl ?_
    refine g_imul F d_M_tickPhysical_111 ?_
    refine g_aload_n F d_M_tickPhysical_112 6 rfl ?_
    refine g_iload_n F d_M_tickPhysical_113 7 rfl ?_
    refine g_iconst F (v := 4) d_M_tickPhysical_114 (by decide) ?_
    refine g_callV F (dp := 0) (ci := 8) (As := [.int p1, .int (4 : Int32)]) (c_M_sensor0 l _ _ _ hq _) cv_8_54 hq.1 rfl rfl rfl (Nat.le_of_ble_eq_true rfl) ⟨Nat.le_of_ble_eq_true rfl, Nat.le_of_ble_eq_true rfl⟩ ⟨Nat.zero_le _, Nat.zero_le _⟩ d_M_tickPhysical_115 (fun r34 σ35 h19 => ?_)
    refine g_iadd F d_M_tickPhysical_118 ?_
    refine g_sipush F (v := 1000) d_M_tickPhysical_119 (by decide) ?_
    refine g_pf (q := (1000 : Int32) = 0) (by decide) (g_irem F d_M_tickPhysical_122 ?_)
    refine g_ltI (fun v36 _ => ?_)
    refine g_istore F (ls' := [(8, .int v36), (7, .int v31), (6, .int v10), (5, .int v7), (4, .int v4), (3, .int v3), (2, .int r1), (0, .ref (xa X q)), (1, .int p1)]) d_M_tickPhysical_123 (by decide) rfl ?_
    refine g_aload_n F d_M_tickPhysical_125 7 rfl ?_
    refine g_iload_n F d_M_tickPhysical_126 8 rfl ?_
    refine g_iload F d_M_tickPhysical_127 1 rfl ?_
    refine g_aload_n F d_M_tickPhysical_129 7 rfl ?_
    refine g_iload_n F d_M_tickPhysical_130 8 rfl ?_
    refine g_iload F d_M_tickPhysical_131 4 rfl ?_
    refine g_callV F (dp := 1) (ci := 8) (As := [.int p1, .int v4]) (c_M_isOut l _ _ _ hq _) cv_8_87 hq.1 rfl rfl rfl (Nat.le_of_ble_eq_true rfl) ⟨Nat.le_of_ble_eq_true rfl, Nat.le_of_ble_eq_true rfl⟩ ⟨Nat.zero_le _, Nat.zero_le _⟩ d_M_tickPhysical_133 (fun r37 σ38 h20 => ?_)
    refine g_if_eq F (tgt := 144) d_M_tickPhysical_136 (by decide) (fun h21 => ?_) (fun h22 => ?_)
    · refine g_iload F d_M_tickPhysical_144 0 rfl ?_
      refine g_callV F (dp := 0) (ci := 8) (As := [.int p1, .int v31, .int v36]) (c_M_receive l _ _ _ _ hq _) cv_8_91 hq.1 rfl rfl rfl (Nat.le_of_ble_eq_true rfl) ⟨Nat.le_of_ble_eq_true rfl, Nat.le_of_ble_eq_true rfl⟩ ⟨Nat.zero_le _, Nat.zero_le _⟩ d_M_tickPhysical_146 (fun _ σ40 h23 => ?_)
      refine g_aload_n F d_M_tickPhysical_149 7 rfl ?_
      refine g_getR F fs_8_7 hq.1 rfl d_M_tickPhysical_150 ?_
      refine g_iconst F (v := 5) d_M_tickPhysical_153 (by decide) ?_
      refine g_dup2 F d_M_tickPhysical_154 rfl rfl ?_
      refine g_ialdC F (n := 481) 5 (by decide) (by decide) hq.2.1 d_M_tickPhysical_155 ?_
      refine g_aload_n F d_M_tickPhysical_156 7 rfl ?_
      refine g_iload_n F d_M_tickPhysical_157 8 rfl ?_
      refine g_bipush F (v := 6) d_M_tickPhysical_158 (by decide) ?_
      refine g_callV F (dp := 0) (ci := 8) (As := [.int p1, .int (6 : Int32)]) (c_M_sensor0 l _ _ _ hq _) cv_8_54 hq.1 rfl rfl rfl (Nat.le_of_ble_eq_true rfl) ⟨Nat.le_of_ble_eq_true rfl, Nat.le_of_ble_eq_true rfl⟩ ⟨Nat.zero_le _, Nat.zero_le _⟩ d_M_tickPhysical_160 (fun r41 σ42 h24 => ?_)
      refine g_iadd F d_M_tickPhysical_163 ?_
      refine g_iastC F (n := 481) 5 (by decide) (by decide) hq.2.1 d_M_tickPhysical_164 ?_
      refine g_ltM (fun σ43 _ => ?_)
      exact g_vret F hlk hr d_M_tickPhysical_165
    refine g_bipush F (v := (-8)) d_M_tickPhysical_139 (by decide) ?_
    refine g_goto F (tgt := 146) d_M_tickPhysical_141 (by decide) ?_
    refine g_callV F (dp := 0) (ci := 8) (As := [.int p1, .int v31, .int (-8 : Int32)]) (c_M_receive l _ _ _ _ hq _) cv_8_91 hq.1 rfl rfl rfl (Nat.le_of_ble_eq_true rfl) ⟨Nat.le_of_ble_eq_true rfl, Nat.le_of_ble_eq_true rfl⟩ ⟨Nat.zero_le _, Nat.zero_le _⟩ d_M_tickPhysical_146 (fun _ σ45 h25 => ?_)
    refine g_aload_n F d_M_tickPhysical_149 7 rfl ?_
    refine g_getR F fs_8_7 hq.1 rfl d_M_tickPhysical_150 ?_
    refine g_iconst F (v := 5) d_M_tickPhysical_153 (by decide) ?_
    refine g_dup2 F d_M_tickPhysical_154 rfl rfl ?_
    refine g_ialdC F (n := 481) 5 (by decide) (by decide) hq.2.1 d_M_tickPhysical_155 ?_
    refine g_aload_n F d_M_tickPhysical_156 7 rfl ?_
    refine g_iload_n F d_M_tickPhysical_157 8 rfl ?_
    refine g_bipush F (v := 6) d_M_tickPhysical_158 (by decide) ?_
    refine g_callV F (dp := 0) (ci := 8) (As := [.int p1, .int (6 : Int32)]) (c_M_sensor0 l _ _ _ hq _) cv_8_54 hq.1 rfl rfl rfl (Nat.le_of_ble_eq_true rfl) ⟨Nat.le_of_ble_eq_true rfl, Nat.le_of_ble_eq_true rfl⟩ ⟨Nat.zero_le _, Nat.zero_le _⟩ d_M_tickPhysical_160 (fun r46 σ47 h26 => ?_)
    refine g_iadd F d_M_tickPhysical_163 ?_
    refine g_iastC F (n := 481) 5 (by decide) (by decide) hq.2.1 d_M_tickPhysical_164 ?_
    refine g_ltM (fun σ48 _ => ?_)
    exact g_vret F hlk hr d_M_tickPhysical_165
  exact g_vret F hlk hr d_M_tickPhysical_61
def y_M_mean : MethodName := ⟨"SensorHubModel", "mean", "(II)I"⟩
theorem d_M_mean_0 : decode prog_10_method_27_code 0 = .ok (.aload_n 0, 1) := by decide +kernel
theorem d_M_mean_1 : decode prog_10_method_27_code 1 = .ok (.iload_n 1, 1) := by decide +kernel
theorem d_M_mean_2 : decode prog_10_method_27_code 2 = .ok (.bipush 10, 2) := by decide +kernel
theorem d_M_mean_4 : decode prog_10_method_27_code 4 = .ok (.invokevirtual 54, 3) := by decide +kernel
theorem d_M_mean_7 : decode prog_10_method_27_code 7 = .ok (.istore_n 3, 1) := by decide +kernel
theorem d_M_mean_8 : decode prog_10_method_27_code 8 = .ok (.iload_n 3, 1) := by decide +kernel
theorem d_M_mean_9 : decode prog_10_method_27_code 9 = .ok (.iload_n 2, 1) := by decide +kernel
theorem d_M_mean_10 : decode prog_10_method_27_code 10 = .ok (.if_icmp .ge 7, 3) := by decide +kernel
theorem d_M_mean_13 : decode prog_10_method_27_code 13 = .ok (.iload_n 3, 1) := by decide +kernel
theorem d_M_mean_14 : decode prog_10_method_27_code 14 = .ok (.goto 4, 3) := by decide +kernel
theorem d_M_mean_17 : decode prog_10_method_27_code 17 = .ok (.iload_n 2, 1) := by decide +kernel
theorem d_M_mean_18 : decode prog_10_method_27_code 18 = .ok (.istore 4, 2) := by decide +kernel
theorem d_M_mean_20 : decode prog_10_method_27_code 20 = .ok (.iconst 0, 1) := by decide +kernel
theorem d_M_mean_21 : decode prog_10_method_27_code 21 = .ok (.istore 5, 2) := by decide +kernel
theorem d_M_mean_23 : decode prog_10_method_27_code 23 = .ok (.iconst 1, 1) := by decide +kernel
theorem d_M_mean_24 : decode prog_10_method_27_code 24 = .ok (.istore 6, 2) := by decide +kernel
theorem d_M_mean_26 : decode prog_10_method_27_code 26 = .ok (.iload 6, 2) := by decide +kernel
theorem d_M_mean_28 : decode prog_10_method_27_code 28 = .ok (.iload 4, 2) := by decide +kernel
theorem d_M_mean_30 : decode prog_10_method_27_code 30 = .ok (.if_icmp .gt 29, 3) := by decide +kernel
theorem d_M_mean_33 : decode prog_10_method_27_code 33 = .ok (.iload 5, 2) := by decide +kernel
theorem d_M_mean_35 : decode prog_10_method_27_code 35 = .ok (.aload_n 0, 1) := by decide +kernel
theorem d_M_mean_36 : decode prog_10_method_27_code 36 = .ok (.iload_n 1, 1) := by decide +kernel
theorem d_M_mean_37 : decode prog_10_method_27_code 37 = .ok (.bipush 11, 2) := by decide +kernel
theorem d_M_mean_39 : decode prog_10_method_27_code 39 = .ok (.iload_n 3, 1) := by decide +kernel
theorem d_M_mean_40 : decode prog_10_method_27_code 40 = .ok (.iload 6, 2) := by decide +kernel
theorem d_M_mean_42 : decode prog_10_method_27_code 42 = .ok (.isub, 1) := by decide +kernel
theorem d_M_mean_43 : decode prog_10_method_27_code 43 = .ok (.bipush 8, 2) := by decide +kernel
theorem d_M_mean_45 : decode prog_10_method_27_code 45 = .ok (.irem, 1) := by decide +kernel
theorem d_M_mean_46 : decode prog_10_method_27_code 46 = .ok (.iadd, 1) := by decide +kernel
theorem d_M_mean_47 : decode prog_10_method_27_code 47 = .ok (.invokevirtual 54, 3) := by decide +kernel
theorem d_M_mean_50 : decode prog_10_method_27_code 50 = .ok (.iadd, 1) := by decide +kernel
theorem d_M_mean_51 : decode prog_10_method_27_code 51 = .ok (.istore 5, 2) := by decide +kernel
theorem d_M_mean_53 : decode prog_10_method_27_code 53 = .ok (.iinc 6 1, 3) := by decide +kernel
theorem d_M_mean_56 : decode prog_10_method_27_code 56 = .ok (.goto (-30), 3) := by decide +kernel
theorem d_M_mean_59 : decode prog_10_method_27_code 59 = .ok (.iload 5, 2) := by decide +kernel
theorem d_M_mean_61 : decode prog_10_method_27_code 61 = .ok (.iload 4, 2) := by decide +kernel
theorem d_M_mean_63 : decode prog_10_method_27_code 63 = .ok (.idiv, 1) := by decide +kernel
theorem d_M_mean_64 : decode prog_10_method_27_code 64 = .ok (.ireturn, 1) := by decide +kernel
def L_M_mean_26 (r0 : Nat) (y1 : Int32) (y3 : Int32) (y4 : Int32) (k : Int32 → Mem → Option (Int32 × Mem)) : Nat → Int32 → Int32 → Mem → Option (Int32 × Mem)
  | 0, _, _, _ => none
  | n + 1, x5, x6, σ =>
    if y4 < x6 then
      k x5 σ
    else
      lt ((y3 - x6) - (y3 - x6) / (8 : Int32) * (8 : Int32)) fun v3 =>
      bd (f_M_sensor0 r0 y1 ((11 : Int32) + v3) σ) fun r4 σ5 =>
      lt (x5 + r4) fun v6 =>
      L_M_mean_26 r0 y1 y3 y4 k n v6 (x6 + 1) σ5
def f_M_mean (q : Nat) (p1 : Int32) (p2 : Int32) (σ : Mem) : Option (Int32 × Mem) :=
  bd (f_M_sensor0 q p1 (10 : Int32) σ) fun r1 σ2 =>
  if p2 ≤ r1 then
    L_M_mean_26 q p1 r1 p2 (fun z7 σ8 =>
      if p2 = 0 then none else
      some (z7 / p2, σ8)) FU (0 : Int32) (1 : Int32) σ2
  else
    L_M_mean_26 q p1 r1 r1 (fun z9 σ10 =>
      if r1 = 0 then none else
      some (z9 / r1, σ10)) FU (0 : Int32) (1 : Int32) σ2
set_option maxRecDepth 100000 in
set_option maxHeartbeats 4000000 in
theorem l_L_M_mean_26 {X : CX} {p : Program} {l : Launch} {e : Env} {s : State} {m : MethodId} {args : Array Value} {below : List Frame} {meth : Method} {c : Code} (F : FR p s m args c prog_10_method_27_code 7 "SensorHubModel" X) (hlk : meth.locks = false) (hr : meth.sig.returnType = some .int) (r0 : Nat) (y1 : Int32) (y3 : Int32) (y4 : Int32) (hr0 : ModelOK X r0) (k : Int32 → Mem → Option (Int32 × Mem)) (hk : ∀ (x5 : Int32) (σ : Mem), G X p l e (rmD 1) s m args below meth c 7 0 0 (QI X below args s vI) 59 [(4, .int y4), (5, .int x5)] [] σ (k x5 σ)) : ∀ (n : Nat) (x5 : Int32) (x6 : Int32) (σ : Mem), G X p l e (rmD 1) s m args below meth c 7 0 0 (QI X below args s vI) 26 [(0, .ref (xa X r0)), (1, .int y1), (3, .int y3), (4, .int y4), (5, .int x5), (6, .int x6)] [] σ (L_M_mean_26 r0 y1 y3 y4 k n x5 x6 σ) := by
  intro n
  induction n with
  | zero => intros; exact g_no
  | succ n ih =>
    intro x5 x6 σ
    unfold L_M_mean_26
    refine g_iload F d_M_mean_26 5 rfl ?_
    refine g_iload F d_M_mean_28 3 rfl ?_
    refine g_icmp_gt F (tgt := 59) d_M_mean_30 (by decide) (fun h4 => ?_) (fun h5 => ?_)
    · exact g_sub [3, 4] rfl (hk _ _)
    refine g_iload F d_M_mean_33 4 rfl ?_
    refine g_aload_n F d_M_mean_35 0 rfl ?_
    refine g_iload_n F d_M_mean_36 1 rfl ?_
    refine g_bipush F (v := 11) d_M_mean_37 (by decide) ?_
    refine g_iload_n F d_M_mean_39 2 rfl ?_
    refine g_iload F d_M_mean_40 5 rfl ?_
    refine g_isub F d_M_mean_42 ?_
    refine g_bipush F (v := 8) d_M_mean_43 (by decide) ?_
    refine g_pf (q := (8 : Int32) = 0) (by decide) (g_irem F d_M_mean_45 ?_)
    refine g_ltI (fun v3 _ => ?_)
    refine g_iadd F d_M_mean_46 ?_
    refine g_callV F (dp := 0) (ci := 8) (As := [.int y1, .int ((11 : Int32) + v3)]) (c_M_sensor0 l _ _ _ hr0 _) cv_8_54 hr0.1 rfl rfl rfl (Nat.le_of_ble_eq_true rfl) ⟨Nat.le_of_ble_eq_true rfl, Nat.le_of_ble_eq_true rfl⟩ ⟨Nat.zero_le _, Nat.zero_le _⟩ d_M_mean_47 (fun r4 σ5 h6 => ?_)
    refine g_iadd F d_M_mean_50 ?_
    refine g_ltI (fun v6 _ => ?_)
    refine g_istore F (ls' := [(5, .int v6), (0, .ref (xa X r0)), (1, .int y1), (3, .int y3), (4, .int y4), (6, .int x6)]) d_M_mean_51 (by decide) rfl ?_
    refine g_iinc F (v := 1) (ls' := [(6, .int (x6 + 1)), (5, .int v6), (0, .ref (xa X r0)), (1, .int y1), (3, .int y3), (4, .int y4)]) d_M_mean_53 5 rfl (by decide) (by decide) rfl ?_
    refine g_goto F (tgt := 26) d_M_mean_56 (by decide) ?_
    exact g_sub [2, 3, 4, 5, 1, 0] rfl (ih _ _ _)
set_option maxRecDepth 100000 in
set_option maxHeartbeats 4000000 in
theorem c_M_mean {X : CX} (l : Launch) (q : Nat) (p1 : Int32) (p2 : Int32) (hq : ModelOK X q) (σ : Mem) : CT X l y_M_mean prog_10_method_27_code 7 (some .int) 1 vI [.ref (xa X q), .int p1, .int p2] σ (f_M_mean q p1 p2 σ) := by
  refine CT_of (by decide +kernel) (Nat.le_of_ble_eq_true rfl) ?_
  intro p e s m args below meth c F hlk hr
  have F : FR p s m args c prog_10_method_27_code 7 "SensorHubModel" X := F
  show G X p l e (rmD 1) s m args below meth c 7 0 0 (QI X below args s vI) 0 [(0, .ref (xa X q)), (1, .int p1), (2, .int p2)] [] σ _
  unfold f_M_mean
  refine g_aload_n F d_M_mean_0 0 rfl ?_
  refine g_iload_n F d_M_mean_1 1 rfl ?_
  refine g_bipush F (v := 10) d_M_mean_2 (by decide) ?_
  refine g_callV F (dp := 0) (ci := 8) (As := [.int p1, .int (10 : Int32)]) (c_M_sensor0 l _ _ _ hq _) cv_8_54 hq.1 rfl rfl rfl (Nat.le_of_ble_eq_true rfl) ⟨Nat.le_of_ble_eq_true rfl, Nat.le_of_ble_eq_true rfl⟩ ⟨Nat.zero_le _, Nat.zero_le _⟩ d_M_mean_4 (fun r1 σ2 h1 => ?_)
  refine g_istore_n F (ls' := [(3, .int r1), (0, .ref (xa X q)), (1, .int p1), (2, .int p2)]) d_M_mean_7 (by decide) rfl ?_
  refine g_iload_n F d_M_mean_8 0 rfl ?_
  refine g_iload_n F d_M_mean_9 3 rfl ?_
  refine g_icmp_ge F (tgt := 17) d_M_mean_10 (by decide) (fun h2 => ?_) (fun h3 => ?_)
  · refine g_iload_n F d_M_mean_17 3 rfl ?_
    refine g_istore F (ls' := [(4, .int p2), (3, .int r1), (0, .ref (xa X q)), (1, .int p1), (2, .int p2)]) d_M_mean_18 (by decide) rfl ?_
    refine g_iconst F (v := 0) d_M_mean_20 (by decide) ?_
    refine g_istore F (ls' := [(5, .int (0 : Int32)), (4, .int p2), (3, .int r1), (0, .ref (xa X q)), (1, .int p1), (2, .int p2)]) d_M_mean_21 (by decide) rfl ?_
    refine g_iconst F (v := 1) d_M_mean_23 (by decide) ?_
    refine g_istore F (ls' := [(6, .int (1 : Int32)), (5, .int (0 : Int32)), (4, .int p2), (3, .int r1), (0, .ref (xa X q)), (1, .int p1), (2, .int p2)]) d_M_mean_24 (by decide) rfl ?_
    refine g_sub [4, 5, 3, 2, 1, 0] rfl (l_L_M_mean_26 F hlk hr _ _ _ _ hq _ (fun z7 σ8 => ?_) FU _ _ _)
    refine g_iload F d_M_mean_59 1 rfl ?_
    refine g_iload F d_M_mean_61 0 rfl ?_
    refine g_idiv F d_M_mean_63 ?_
    exact g_iret F hlk hr d_M_mean_64
  refine g_iload_n F d_M_mean_13 0 rfl ?_
  refine g_goto F (tgt := 18) d_M_mean_14 (by decide) ?_
  refine g_istore F (ls' := [(4, .int r1), (3, .int r1), (0, .ref (xa X q)), (1, .int p1), (2, .int p2)]) d_M_mean_18 (by decide) rfl ?_
  refine g_iconst F (v := 0) d_M_mean_20 (by decide) ?_
  refine g_istore F (ls' := [(5, .int (0 : Int32)), (4, .int r1), (3, .int r1), (0, .ref (xa X q)), (1, .int p1), (2, .int p2)]) d_M_mean_21 (by decide) rfl ?_
  refine g_iconst F (v := 1) d_M_mean_23 (by decide) ?_
  refine g_istore F (ls' := [(6, .int (1 : Int32)), (5, .int (0 : Int32)), (4, .int r1), (3, .int r1), (0, .ref (xa X q)), (1, .int p1), (2, .int p2)]) d_M_mean_24 (by decide) rfl ?_
  refine g_sub [4, 5, 3, 2, 1, 0] rfl (l_L_M_mean_26 F hlk hr _ _ _ _ hq _ (fun z9 σ10 => ?_) FU _ _ _)
  refine g_iload F d_M_mean_59 1 rfl ?_
  refine g_iload F d_M_mean_61 0 rfl ?_
  refine g_idiv F d_M_mean_63 ?_
  exact g_iret F hlk hr d_M_mean_64
def y_M_tickDerived : MethodName := ⟨"SensorHubModel", "tickDerived", "(I)V"⟩
theorem d_M_tickDerived_0 : decode prog_10_method_28_code 0 = .ok (.aload_n 0, 1) := by decide +kernel
theorem d_M_tickDerived_1 : decode prog_10_method_28_code 1 = .ok (.iload_n 1, 1) := by decide +kernel
theorem d_M_tickDerived_2 : decode prog_10_method_28_code 2 = .ok (.iconst 1, 1) := by decide +kernel
theorem d_M_tickDerived_3 : decode prog_10_method_28_code 3 = .ok (.invokevirtual 54, 3) := by decide +kernel
theorem d_M_tickDerived_6 : decode prog_10_method_28_code 6 = .ok (.istore_n 2, 1) := by decide +kernel
theorem d_M_tickDerived_7 : decode prog_10_method_28_code 7 = .ok (.aload_n 0, 1) := by decide +kernel
theorem d_M_tickDerived_8 : decode prog_10_method_28_code 8 = .ok (.iload_n 1, 1) := by decide +kernel
theorem d_M_tickDerived_9 : decode prog_10_method_28_code 9 = .ok (.iconst 2, 1) := by decide +kernel
theorem d_M_tickDerived_10 : decode prog_10_method_28_code 10 = .ok (.invokevirtual 54, 3) := by decide +kernel
theorem d_M_tickDerived_13 : decode prog_10_method_28_code 13 = .ok (.istore_n 3, 1) := by decide +kernel
theorem d_M_tickDerived_14 : decode prog_10_method_28_code 14 = .ok (.aload_n 0, 1) := by decide +kernel
theorem d_M_tickDerived_15 : decode prog_10_method_28_code 15 = .ok (.iload_n 1, 1) := by decide +kernel
theorem d_M_tickDerived_16 : decode prog_10_method_28_code 16 = .ok (.iconst 0, 1) := by decide +kernel
theorem d_M_tickDerived_17 : decode prog_10_method_28_code 17 = .ok (.invokevirtual 54, 3) := by decide +kernel
theorem d_M_tickDerived_20 : decode prog_10_method_28_code 20 = .ok (.istore 4, 2) := by decide +kernel
theorem d_M_tickDerived_22 : decode prog_10_method_28_code 22 = .ok (.aload_n 0, 1) := by decide +kernel
theorem d_M_tickDerived_23 : decode prog_10_method_28_code 23 = .ok (.getfield 31, 3) := by decide +kernel
theorem d_M_tickDerived_26 : decode prog_10_method_28_code 26 = .ok (.iload_n 2, 1) := by decide +kernel
theorem d_M_tickDerived_27 : decode prog_10_method_28_code 27 = .ok (.baload, 1) := by decide +kernel
theorem d_M_tickDerived_28 : decode prog_10_method_28_code 28 = .ok (.ifCond .ne 4, 3) := by decide +kernel
theorem d_M_tickDerived_31 : decode prog_10_method_28_code 31 = .ok (.return_, 1) := by decide +kernel
theorem d_M_tickDerived_32 : decode prog_10_method_28_code 32 = .ok (.aload_n 0, 1) := by decide +kernel
theorem d_M_tickDerived_33 : decode prog_10_method_28_code 33 = .ok (.iload_n 2, 1) := by decide +kernel
theorem d_M_tickDerived_34 : decode prog_10_method_28_code 34 = .ok (.bipush 9, 2) := by decide +kernel
theorem d_M_tickDerived_36 : decode prog_10_method_28_code 36 = .ok (.invokevirtual 54, 3) := by decide +kernel
theorem d_M_tickDerived_39 : decode prog_10_method_28_code 39 = .ok (.istore 5, 2) := by decide +kernel
theorem d_M_tickDerived_41 : decode prog_10_method_28_code 41 = .ok (.bipush (-8), 2) := by decide +kernel
theorem d_M_tickDerived_43 : decode prog_10_method_28_code 43 = .ok (.istore 6, 2) := by decide +kernel
theorem d_M_tickDerived_45 : decode prog_10_method_28_code 45 = .ok (.iload 4, 2) := by decide +kernel
theorem d_M_tickDerived_47 : decode prog_10_method_28_code 47 = .ok (.iconst 3, 1) := by decide +kernel
theorem d_M_tickDerived_48 : decode prog_10_method_28_code 48 = .ok (.if_icmp .ne 26, 3) := by decide +kernel
theorem d_M_tickDerived_51 : decode prog_10_method_28_code 51 = .ok (.iload 5, 2) := by decide +kernel
theorem d_M_tickDerived_53 : decode prog_10_method_28_code 53 = .ok (.bipush (-8), 2) := by decide +kernel
theorem d_M_tickDerived_55 : decode prog_10_method_28_code 55 = .ok (.if_icmp .ne 8, 3) := by decide +kernel
theorem d_M_tickDerived_58 : decode prog_10_method_28_code 58 = .ok (.bipush (-8), 2) := by decide +kernel
theorem d_M_tickDerived_60 : decode prog_10_method_28_code 60 = .ok (.goto 9, 3) := by decide +kernel
theorem d_M_tickDerived_63 : decode prog_10_method_28_code 63 = .ok (.aload_n 0, 1) := by decide +kernel
theorem d_M_tickDerived_64 : decode prog_10_method_28_code 64 = .ok (.iload_n 2, 1) := by decide +kernel
theorem d_M_tickDerived_65 : decode prog_10_method_28_code 65 = .ok (.iload_n 3, 1) := by decide +kernel
theorem d_M_tickDerived_66 : decode prog_10_method_28_code 66 = .ok (.invokevirtual 95, 3) := by decide +kernel
theorem d_M_tickDerived_69 : decode prog_10_method_28_code 69 = .ok (.istore 6, 2) := by decide +kernel
theorem d_M_tickDerived_71 : decode prog_10_method_28_code 71 = .ok (.goto 96, 3) := by decide +kernel
theorem d_M_tickDerived_74 : decode prog_10_method_28_code 74 = .ok (.iload 5, 2) := by decide +kernel
theorem d_M_tickDerived_76 : decode prog_10_method_28_code 76 = .ok (.bipush (-8), 2) := by decide +kernel
theorem d_M_tickDerived_78 : decode prog_10_method_28_code 78 = .ok (.if_icmp .eq 89, 3) := by decide +kernel
theorem d_M_tickDerived_81 : decode prog_10_method_28_code 81 = .ok (.aload_n 0, 1) := by decide +kernel
theorem d_M_tickDerived_82 : decode prog_10_method_28_code 82 = .ok (.iload_n 3, 1) := by decide +kernel
theorem d_M_tickDerived_83 : decode prog_10_method_28_code 83 = .ok (.bipush 7, 2) := by decide +kernel
theorem d_M_tickDerived_85 : decode prog_10_method_28_code 85 = .ok (.invokevirtual 54, 3) := by decide +kernel
theorem d_M_tickDerived_88 : decode prog_10_method_28_code 88 = .ok (.ifCond .le 79, 3) := by decide +kernel
theorem d_M_tickDerived_91 : decode prog_10_method_28_code 91 = .ok (.aload_n 0, 1) := by decide +kernel
theorem d_M_tickDerived_92 : decode prog_10_method_28_code 92 = .ok (.iload_n 3, 1) := by decide +kernel
theorem d_M_tickDerived_93 : decode prog_10_method_28_code 93 = .ok (.bipush 9, 2) := by decide +kernel
theorem d_M_tickDerived_95 : decode prog_10_method_28_code 95 = .ok (.invokevirtual 54, 3) := by decide +kernel
theorem d_M_tickDerived_98 : decode prog_10_method_28_code 98 = .ok (.bipush (-8), 2) := by decide +kernel
theorem d_M_tickDerived_100 : decode prog_10_method_28_code 100 = .ok (.if_icmp .eq 67, 3) := by decide +kernel
theorem d_M_tickDerived_103 : decode prog_10_method_28_code 103 = .ok (.aload_n 0, 1) := by decide +kernel
theorem d_M_tickDerived_104 : decode prog_10_method_28_code 104 = .ok (.iload_n 3, 1) := by decide +kernel
theorem d_M_tickDerived_105 : decode prog_10_method_28_code 105 = .ok (.bipush 9, 2) := by decide +kernel
theorem d_M_tickDerived_107 : decode prog_10_method_28_code 107 = .ok (.invokevirtual 54, 3) := by decide +kernel
theorem d_M_tickDerived_110 : decode prog_10_method_28_code 110 = .ok (.istore 7, 2) := by decide +kernel
theorem d_M_tickDerived_112 : decode prog_10_method_28_code 112 = .ok (.iload 4, 2) := by decide +kernel
theorem d_M_tickDerived_114 : decode prog_10_method_28_code 114 = .ok (.ifCond .ne 15, 3) := by decide +kernel
theorem d_M_tickDerived_117 : decode prog_10_method_28_code 117 = .ok (.iload 5, 2) := by decide +kernel
theorem d_M_tickDerived_119 : decode prog_10_method_28_code 119 = .ok (.iload 7, 2) := by decide +kernel
theorem d_M_tickDerived_121 : decode prog_10_method_28_code 121 = .ok (.iadd, 1) := by decide +kernel
theorem d_M_tickDerived_122 : decode prog_10_method_28_code 122 = .ok (.sipush 1000, 3) := by decide +kernel
theorem d_M_tickDerived_125 : decode prog_10_method_28_code 125 = .ok (.irem, 1) := by decide +kernel
theorem d_M_tickDerived_126 : decode prog_10_method_28_code 126 = .ok (.goto 39, 3) := by decide +kernel
theorem d_M_tickDerived_129 : decode prog_10_method_28_code 129 = .ok (.iload 4, 2) := by decide +kernel
theorem d_M_tickDerived_131 : decode prog_10_method_28_code 131 = .ok (.iconst 1, 1) := by decide +kernel
theorem d_M_tickDerived_132 : decode prog_10_method_28_code 132 = .ok (.if_icmp .ne 19, 3) := by decide +kernel
theorem d_M_tickDerived_135 : decode prog_10_method_28_code 135 = .ok (.iload 5, 2) := by decide +kernel
theorem d_M_tickDerived_137 : decode prog_10_method_28_code 137 = .ok (.iload 7, 2) := by decide +kernel
theorem d_M_tickDerived_139 : decode prog_10_method_28_code 139 = .ok (.isub, 1) := by decide +kernel
theorem d_M_tickDerived_140 : decode prog_10_method_28_code 140 = .ok (.sipush 1000, 3) := by decide +kernel
theorem d_M_tickDerived_143 : decode prog_10_method_28_code 143 = .ok (.iadd, 1) := by decide +kernel
theorem d_M_tickDerived_144 : decode prog_10_method_28_code 144 = .ok (.sipush 1000, 3) := by decide +kernel
theorem d_M_tickDerived_147 : decode prog_10_method_28_code 147 = .ok (.irem, 1) := by decide +kernel
theorem d_M_tickDerived_148 : decode prog_10_method_28_code 148 = .ok (.goto 17, 3) := by decide +kernel
theorem d_M_tickDerived_151 : decode prog_10_method_28_code 151 = .ok (.iload 5, 2) := by decide +kernel
theorem d_M_tickDerived_153 : decode prog_10_method_28_code 153 = .ok (.iload 7, 2) := by decide +kernel
theorem d_M_tickDerived_155 : decode prog_10_method_28_code 155 = .ok (.if_icmp .le 8, 3) := by decide +kernel
theorem d_M_tickDerived_158 : decode prog_10_method_28_code 158 = .ok (.iload 5, 2) := by decide +kernel
theorem d_M_tickDerived_160 : decode prog_10_method_28_code 160 = .ok (.goto 5, 3) := by decide +kernel
theorem d_M_tickDerived_163 : decode prog_10_method_28_code 163 = .ok (.iload 7, 2) := by decide +kernel
theorem d_M_tickDerived_165 : decode prog_10_method_28_code 165 = .ok (.istore 6, 2) := by decide +kernel
theorem d_M_tickDerived_167 : decode prog_10_method_28_code 167 = .ok (.aload_n 0, 1) := by decide +kernel
theorem d_M_tickDerived_168 : decode prog_10_method_28_code 168 = .ok (.iload_n 1, 1) := by decide +kernel
theorem d_M_tickDerived_169 : decode prog_10_method_28_code 169 = .ok (.aload_n 0, 1) := by decide +kernel
theorem d_M_tickDerived_170 : decode prog_10_method_28_code 170 = .ok (.iload_n 2, 1) := by decide +kernel
theorem d_M_tickDerived_171 : decode prog_10_method_28_code 171 = .ok (.bipush 8, 2) := by decide +kernel
theorem d_M_tickDerived_173 : decode prog_10_method_28_code 173 = .ok (.invokevirtual 54, 3) := by decide +kernel
theorem d_M_tickDerived_176 : decode prog_10_method_28_code 176 = .ok (.iload 6, 2) := by decide +kernel
theorem d_M_tickDerived_178 : decode prog_10_method_28_code 178 = .ok (.invokevirtual 91, 3) := by decide +kernel
theorem d_M_tickDerived_181 : decode prog_10_method_28_code 181 = .ok (.return_, 1) := by decide +kernel
theorem cv_8_95 : CSV "SensorHubModel" 95 y_M_mean prog_10_method_27_code 7 (some .int) 2 := ⟨gw_I 1147 (by decide +kernel) rfl, gw_I 1149 (by decide +kernel) rfl, gw_I 65 (by decide +kernel) rfl, gw_I 78 (by decide +kernel) rfl, gw_I 1150 (by decide +kernel) rfl, ⟨by decide +kernel, by decide +kernel⟩, by decide +kernel⟩
def f_M_tickDerived (q : Nat) (p1 : Int32) (σ : Mem) : Option (Unit × Mem) :=
  bd (f_M_sensor0 q p1 (1 : Int32) σ) fun r1 σ2 =>
  bd (f_M_sensor0 q p1 (2 : Int32) σ2) fun r3 σ4 =>
  bd (f_M_sensor0 q p1 (0 : Int32) σ4) fun r5 σ6 =>
  if ib r1 8 then
    if (σ6 (q + 8) r1.toNatClampNeg) = 0 then
      some ((), σ6)
    else
      bd (f_M_sensor0 q r1 (9 : Int32) σ6) fun r7 σ8 =>
      if r5 = (3 : Int32) then
        if r7 = (-8 : Int32) then
          bd (f_M_sensor0 q r1 (8 : Int32) σ8) fun r9 σ10 =>
          bd (f_M_receive q p1 r9 (-8 : Int32) σ10) fun _ σ12 =>
          some ((), σ12)
        else
          bd (f_M_mean q r1 r3 σ8) fun r13 σ14 =>
          bd (f_M_sensor0 q r1 (8 : Int32) σ14) fun r15 σ16 =>
          bd (f_M_receive q p1 r15 r13 σ16) fun _ σ18 =>
          some ((), σ18)
      else
        if r7 = (-8 : Int32) then
          bd (f_M_sensor0 q r1 (8 : Int32) σ8) fun r19 σ20 =>
          bd (f_M_receive q p1 r19 (-8 : Int32) σ20) fun _ σ22 =>
          some ((), σ22)
        else
          bd (f_M_sensor0 q r3 (7 : Int32) σ8) fun r23 σ24 =>
          if r23 ≤ 0 then
            bd (f_M_sensor0 q r1 (8 : Int32) σ24) fun r25 σ26 =>
            bd (f_M_receive q p1 r25 (-8 : Int32) σ26) fun _ σ28 =>
            some ((), σ28)
          else
            bd (f_M_sensor0 q r3 (9 : Int32) σ24) fun r29 σ30 =>
            if r29 = (-8 : Int32) then
              bd (f_M_sensor0 q r1 (8 : Int32) σ30) fun r31 σ32 =>
              bd (f_M_receive q p1 r31 (-8 : Int32) σ32) fun _ σ34 =>
              some ((), σ34)
            else
              bd (f_M_sensor0 q r3 (9 : Int32) σ30) fun r35 σ36 =>
              if r5 = 0 then
                lt ((r7 + r35) - (r7 + r35) / (1000 : Int32) * (1000 : Int32)) fun v37 =>
                bd (f_M_sensor0 q r1 (8 : Int32) σ36) fun r38 σ39 =>
                bd (f_M_receive q p1 r38 v37 σ39) fun _ σ41 =>
                some ((), σ41)
              else
                if r5 = (1 : Int32) then
                  lt (((r7 - r35) + (1000 : Int32)) - ((r7 - r35) + (1000 : Int32)) / (1000 : Int32) * (1000 : Int32)) fun v42 =>
                  bd (f_M_sensor0 q r1 (8 : Int32) σ36) fun r43 σ44 =>
                  bd (f_M_receive q p1 r43 v42 σ44) fun _ σ46 =>
                  some ((), σ46)
                else
                  if r7 ≤ r35 then
                    bd (f_M_sensor0 q r1 (8 : Int32) σ36) fun r47 σ48 =>
                    bd (f_M_receive q p1 r47 r35 σ48) fun _ σ50 =>
                    some ((), σ50)
                  else
                    bd (f_M_sensor0 q r1 (8 : Int32) σ36) fun r51 σ52 =>
                    bd (f_M_receive q p1 r51 r7 σ52) fun _ σ54 =>
                    some ((), σ54)
  else none
set_option maxRecDepth 100000 in
set_option maxHeartbeats 4000000 in
theorem c_M_tickDerived {X : CX} (l : Launch) (q : Nat) (p1 : Int32) (hq : ModelOK X q) (σ : Mem) : CT X l y_M_tickDerived prog_10_method_28_code 8 none 2 vU [.ref (xa X q), .int p1] σ (f_M_tickDerived q p1 σ) := by
  refine CT_of (by decide +kernel) (Nat.le_of_ble_eq_true rfl) ?_
  intro p e s m args below meth c F hlk hr
  have F : FR p s m args c prog_10_method_28_code 8 "SensorHubModel" X := F
  show G X p l e (rmD 2) s m args below meth c 8 0 0 (QI X below args s vU) 0 [(0, .ref (xa X q)), (1, .int p1)] [] σ _
  unfold f_M_tickDerived
  refine g_aload_n F d_M_tickDerived_0 0 rfl ?_
  refine g_iload_n F d_M_tickDerived_1 1 rfl ?_
  refine g_iconst F (v := 1) d_M_tickDerived_2 (by decide) ?_
  refine g_callV F (dp := 0) (ci := 8) (As := [.int p1, .int (1 : Int32)]) (c_M_sensor0 l _ _ _ hq _) cv_8_54 hq.1 rfl rfl rfl (Nat.le_of_ble_eq_true rfl) ⟨Nat.le_of_ble_eq_true rfl, Nat.le_of_ble_eq_true rfl⟩ ⟨Nat.zero_le _, Nat.zero_le _⟩ d_M_tickDerived_3 (fun r1 σ2 h1 => ?_)
  refine g_istore_n F (ls' := [(2, .int r1), (0, .ref (xa X q)), (1, .int p1)]) d_M_tickDerived_6 (by decide) rfl ?_
  refine g_aload_n F d_M_tickDerived_7 1 rfl ?_
  refine g_iload_n F d_M_tickDerived_8 2 rfl ?_
  refine g_iconst F (v := 2) d_M_tickDerived_9 (by decide) ?_
  refine g_callV F (dp := 0) (ci := 8) (As := [.int p1, .int (2 : Int32)]) (c_M_sensor0 l _ _ _ hq _) cv_8_54 hq.1 rfl rfl rfl (Nat.le_of_ble_eq_true rfl) ⟨Nat.le_of_ble_eq_true rfl, Nat.le_of_ble_eq_true rfl⟩ ⟨Nat.zero_le _, Nat.zero_le _⟩ d_M_tickDerived_10 (fun r3 σ4 h2 => ?_)
  refine g_istore_n F (ls' := [(3, .int r3), (2, .int r1), (0, .ref (xa X q)), (1, .int p1)]) d_M_tickDerived_13 (by decide) rfl ?_
  refine g_aload_n F d_M_tickDerived_14 2 rfl ?_
  refine g_iload_n F d_M_tickDerived_15 3 rfl ?_
  refine g_iconst F (v := 0) d_M_tickDerived_16 (by decide) ?_
  refine g_callV F (dp := 0) (ci := 8) (As := [.int p1, .int (0 : Int32)]) (c_M_sensor0 l _ _ _ hq _) cv_8_54 hq.1 rfl rfl rfl (Nat.le_of_ble_eq_true rfl) ⟨Nat.le_of_ble_eq_true rfl, Nat.le_of_ble_eq_true rfl⟩ ⟨Nat.zero_le _, Nat.zero_le _⟩ d_M_tickDerived_17 (fun r5 σ6 h3 => ?_)
  refine g_istore F (ls' := [(4, .int r5), (3, .int r3), (2, .int r1), (0, .ref (xa X q)), (1, .int p1)]) d_M_tickDerived_20 (by decide) rfl ?_
  refine g_aload_n F d_M_tickDerived_22 3 rfl ?_
  refine g_getR F fs_8_31 hq.1 rfl d_M_tickDerived_23 ?_
  refine g_iload_n F d_M_tickDerived_26 2 rfl ?_
  refine g_zald F hq.2.2.2.2.2.2.2.2 d_M_tickDerived_27 ?_
  refine g_if_ne F (tgt := 32) d_M_tickDerived_28 (by decide) (fun h4 => ?_) (fun h5 => ?_)
  · exact g_vret F hlk hr d_M_tickDerived_31
  refine g_aload_n F d_M_tickDerived_32 3 rfl ?_
  refine g_iload_n F d_M_tickDerived_33 2 rfl ?_
  refine g_bipush F (v := 9) d_M_tickDerived_34 (by decide) ?_
  refine g_callV F (dp := 0) (ci := 8) (As := [.int r1, .int (9 : Int32)]) (c_M_sensor0 l _ _ _ hq _) cv_8_54 hq.1 rfl rfl rfl (Nat.le_of_ble_eq_true rfl) ⟨Nat.le_of_ble_eq_true rfl, Nat.le_of_ble_eq_true rfl⟩ ⟨Nat.zero_le _, Nat.zero_le _⟩ d_M_tickDerived_36 (fun r7 σ8 h6 => ?_)
  refine g_istore F (ls' := [(5, .int r7), (4, .int r5), (3, .int r3), (2, .int r1), (0, .ref (xa X q)), (1, .int p1)]) d_M_tickDerived_39 (by decide) rfl ?_
  refine g_bipush F (v := (-8)) d_M_tickDerived_41 (by decide) ?_
  refine g_istore F (ls' := [(6, .int (-8 : Int32)), (5, .int r7), (4, .int r5), (3, .int r3), (2, .int r1), (0, .ref (xa X q)), (1, .int p1)]) d_M_tickDerived_43 (by decide) rfl ?_
  refine g_iload F d_M_tickDerived_45 2 rfl ?_
  refine g_iconst F (v := 3) d_M_tickDerived_47 (by decide) ?_
  refine g_icmp_ne F (tgt := 74) d_M_tickDerived_48 (by decide) (fun h7 => ?_) (fun h8 => ?_)
  · refine g_iload F d_M_tickDerived_51 1 rfl ?_
    refine g_bipush F (v := (-8)) d_M_tickDerived_53 (by decide) ?_
    refine g_icmp_ne F (tgt := 63) d_M_tickDerived_55 (by decide) (fun h9 => ?_) (fun h10 => ?_)
    · refine g_bipush F (v := (-8)) d_M_tickDerived_58 (by decide) ?_
      refine g_goto F (tgt := 69) d_M_tickDerived_60 (by decide) ?_
      refine g_istore F (ls' := [(6, .int (-8 : Int32)), (5, .int r7), (4, .int r5), (3, .int r3), (2, .int r1), (0, .ref (xa X q)), (1, .int p1)]) d_M_tickDerived_69 (by decide) rfl ?_
      refine g_goto F (tgt := 167) d_M_tickDerived_71 (by decide) ?_
      refine g_aload_n F d_M_tickDerived_167 5 rfl ?_
      refine g_iload_n F d_M_tickDerived_168 6 rfl ?_
      refine g_aload_n F d_M_tickDerived_169 5 rfl ?_
      refine g_iload_n F d_M_tickDerived_170 4 rfl ?_
      refine g_bipush F (v := 8) d_M_tickDerived_171 (by decide) ?_
      refine g_callV F (dp := 0) (ci := 8) (As := [.int r1, .int (8 : Int32)]) (c_M_sensor0 l _ _ _ hq _) cv_8_54 hq.1 rfl rfl rfl (Nat.le_of_ble_eq_true rfl) ⟨Nat.le_of_ble_eq_true rfl, Nat.le_of_ble_eq_true rfl⟩ ⟨Nat.zero_le _, Nat.zero_le _⟩ d_M_tickDerived_173 (fun r9 σ10 h11 => ?_)
      refine g_iload F d_M_tickDerived_176 0 rfl ?_
      refine g_callV F (dp := 0) (ci := 8) (As := [.int p1, .int r9, .int (-8 : Int32)]) (c_M_receive l _ _ _ _ hq _) cv_8_91 hq.1 rfl rfl rfl (Nat.le_of_ble_eq_true rfl) ⟨Nat.le_of_ble_eq_true rfl, Nat.le_of_ble_eq_true rfl⟩ ⟨Nat.zero_le _, Nat.zero_le _⟩ d_M_tickDerived_178 (fun _ σ12 h12 => ?_)
      exact g_vret F hlk hr d_M_tickDerived_181
    refine g_aload_n F d_M_tickDerived_63 5 rfl ?_
    refine g_iload_n F d_M_tickDerived_64 4 rfl ?_
    refine g_iload_n F d_M_tickDerived_65 3 rfl ?_
    refine g_callV F (dp := 1) (ci := 8) (As := [.int r1, .int r3]) (c_M_mean l _ _ _ hq _) cv_8_95 hq.1 rfl rfl rfl (Nat.le_of_ble_eq_true rfl) ⟨Nat.le_of_ble_eq_true rfl, Nat.le_of_ble_eq_true rfl⟩ ⟨Nat.zero_le _, Nat.zero_le _⟩ d_M_tickDerived_66 (fun r13 σ14 h13 => ?_)
    refine g_istore F (ls' := [(6, .int r13), (5, .int r7), (4, .int r5), (3, .int r3), (2, .int r1), (0, .ref (xa X q)), (1, .int p1)]) d_M_tickDerived_69 (by decide) rfl ?_
    refine g_goto F (tgt := 167) d_M_tickDerived_71 (by decide) ?_
    refine g_aload_n F d_M_tickDerived_167 5 rfl ?_
    refine g_iload_n F d_M_tickDerived_168 6 rfl ?_
    refine g_aload_n F d_M_tickDerived_169 5 rfl ?_
    refine g_iload_n F d_M_tickDerived_170 4 rfl ?_
    refine g_bipush F (v := 8) d_M_tickDerived_171 (by decide) ?_
    refine g_callV F (dp := 0) (ci := 8) (As := [.int r1, .int (8 : Int32)]) (c_M_sensor0 l _ _ _ hq _) cv_8_54 hq.1 rfl rfl rfl (Nat.le_of_ble_eq_true rfl) ⟨Nat.le_of_ble_eq_true rfl, Nat.le_of_ble_eq_true rfl⟩ ⟨Nat.zero_le _, Nat.zero_le _⟩ d_M_tickDerived_173 (fun r15 σ16 h14 => ?_)
    refine g_iload F d_M_tickDerived_176 0 rfl ?_
    refine g_callV F (dp := 0) (ci := 8) (As := [.int p1, .int r15, .int r13]) (c_M_receive l _ _ _ _ hq _) cv_8_91 hq.1 rfl rfl rfl (Nat.le_of_ble_eq_true rfl) ⟨Nat.le_of_ble_eq_true rfl, Nat.le_of_ble_eq_true rfl⟩ ⟨Nat.zero_le _, Nat.zero_le _⟩ d_M_tickDerived_178 (fun _ σ18 h15 => ?_)
    exact g_vret F hlk hr d_M_tickDerived_181
  refine g_iload F d_M_tickDerived_74 1 rfl ?_
  refine g_bipush F (v := (-8)) d_M_tickDerived_76 (by decide) ?_
  refine g_icmp_eq F (tgt := 167) d_M_tickDerived_78 (by decide) (fun h16 => ?_) (fun h17 => ?_)
  · refine g_aload_n F d_M_tickDerived_167 5 rfl ?_
    refine g_iload_n F d_M_tickDerived_168 6 rfl ?_
    refine g_aload_n F d_M_tickDerived_169 5 rfl ?_
    refine g_iload_n F d_M_tickDerived_170 4 rfl ?_
    refine g_bipush F (v := 8) d_M_tickDerived_171 (by decide) ?_
    refine g_callV F (dp := 0) (ci := 8) (As := [.int r1, .int (8 : Int32)]) (c_M_sensor0 l _ _ _ hq _) cv_8_54 hq.1 rfl rfl rfl (Nat.le_of_ble_eq_true rfl) ⟨Nat.le_of_ble_eq_true rfl, Nat.le_of_ble_eq_true rfl⟩ ⟨Nat.zero_le _, Nat.zero_le _⟩ d_M_tickDerived_173 (fun r19 σ20 h18 => ?_)
    refine g_iload F d_M_tickDerived_176 0 rfl ?_
    refine g_callV F (dp := 0) (ci := 8) (As := [.int p1, .int r19, .int (-8 : Int32)]) (c_M_receive l _ _ _ _ hq _) cv_8_91 hq.1 rfl rfl rfl (Nat.le_of_ble_eq_true rfl) ⟨Nat.le_of_ble_eq_true rfl, Nat.le_of_ble_eq_true rfl⟩ ⟨Nat.zero_le _, Nat.zero_le _⟩ d_M_tickDerived_178 (fun _ σ22 h19 => ?_)
    exact g_vret F hlk hr d_M_tickDerived_181
  refine g_aload_n F d_M_tickDerived_81 5 rfl ?_
  refine g_iload_n F d_M_tickDerived_82 3 rfl ?_
  refine g_bipush F (v := 7) d_M_tickDerived_83 (by decide) ?_
  refine g_callV F (dp := 0) (ci := 8) (As := [.int r3, .int (7 : Int32)]) (c_M_sensor0 l _ _ _ hq _) cv_8_54 hq.1 rfl rfl rfl (Nat.le_of_ble_eq_true rfl) ⟨Nat.le_of_ble_eq_true rfl, Nat.le_of_ble_eq_true rfl⟩ ⟨Nat.zero_le _, Nat.zero_le _⟩ d_M_tickDerived_85 (fun r23 σ24 h20 => ?_)
  refine g_if_le F (tgt := 167) d_M_tickDerived_88 (by decide) (fun h21 => ?_) (fun h22 => ?_)
  · refine g_aload_n F d_M_tickDerived_167 5 rfl ?_
    refine g_iload_n F d_M_tickDerived_168 6 rfl ?_
    refine g_aload_n F d_M_tickDerived_169 5 rfl ?_
    refine g_iload_n F d_M_tickDerived_170 4 rfl ?_
    refine g_bipush F (v := 8) d_M_tickDerived_171 (by decide) ?_
    refine g_callV F (dp := 0) (ci := 8) (As := [.int r1, .int (8 : Int32)]) (c_M_sensor0 l _ _ _ hq _) cv_8_54 hq.1 rfl rfl rfl (Nat.le_of_ble_eq_true rfl) ⟨Nat.le_of_ble_eq_true rfl, Nat.le_of_ble_eq_true rfl⟩ ⟨Nat.zero_le _, Nat.zero_le _⟩ d_M_tickDerived_173 (fun r25 σ26 h23 => ?_)
    refine g_iload F d_M_tickDerived_176 0 rfl ?_
    refine g_callV F (dp := 0) (ci := 8) (As := [.int p1, .int r25, .int (-8 : Int32)]) (c_M_receive l _ _ _ _ hq _) cv_8_91 hq.1 rfl rfl rfl (Nat.le_of_ble_eq_true rfl) ⟨Nat.le_of_ble_eq_true rfl, Nat.le_of_ble_eq_true rfl⟩ ⟨Nat.zero_le _, Nat.zero_le _⟩ d_M_tickDerived_178 (fun _ σ28 h24 => ?_)
    exact g_vret F hlk hr d_M_tickDerived_181
  refine g_aload_n F d_M_tickDerived_91 5 rfl ?_
  refine g_iload_n F d_M_tickDerived_92 3 rfl ?_
  refine g_bipush F (v := 9) d_M_tickDerived_93 (by decide) ?_
  refine g_callV F (dp := 0) (ci := 8) (As := [.int r3, .int (9 : Int32)]) (c_M_sensor0 l _ _ _ hq _) cv_8_54 hq.1 rfl rfl rfl (Nat.le_of_ble_eq_true rfl) ⟨Nat.le_of_ble_eq_true rfl, Nat.le_of_ble_eq_true rfl⟩ ⟨Nat.zero_le _, Nat.zero_le _⟩ d_M_tickDerived_95 (fun r29 σ30 h25 => ?_)
  refine g_bipush F (v := (-8)) d_M_tickDerived_98 (by decide) ?_
  refine g_icmp_eq F (tgt := 167) d_M_tickDerived_100 (by decide) (fun h26 => ?_) (fun h27 => ?_)
  · refine g_aload_n F d_M_tickDerived_167 5 rfl ?_
    refine g_iload_n F d_M_tickDerived_168 6 rfl ?_
    refine g_aload_n F d_M_tickDerived_169 5 rfl ?_
    refine g_iload_n F d_M_tickDerived_170 4 rfl ?_
    refine g_bipush F (v := 8) d_M_tickDerived_171 (by decide) ?_
    refine g_callV F (dp := 0) (ci := 8) (As := [.int r1, .int (8 : Int32)]) (c_M_sensor0 l _ _ _ hq _) cv_8_54 hq.1 rfl rfl rfl (Nat.le_of_ble_eq_true rfl) ⟨Nat.le_of_ble_eq_true rfl, Nat.le_of_ble_eq_true rfl⟩ ⟨Nat.zero_le _, Nat.zero_le _⟩ d_M_tickDerived_173 (fun r31 σ32 h28 => ?_)
    refine g_iload F d_M_tickDerived_176 0 rfl ?_
    refine g_callV F (dp := 0) (ci := 8) (As := [.int p1, .int r31, .int (-8 : Int32)]) (c_M_receive l _ _ _ _ hq _) cv_8_91 hq.1 rfl rfl rfl (Nat.le_of_ble_eq_true rfl) ⟨Nat.le_of_ble_eq_true rfl, Nat.le_of_ble_eq_true rfl⟩ ⟨Nat.zero_le _, Nat.zero_le _⟩ d_M_tickDerived_178 (fun _ σ34 h29 => ?_)
    exact g_vret F hlk hr d_M_tickDerived_181
  refine g_aload_n F d_M_tickDerived_103 5 rfl ?_
  refine g_iload_n F d_M_tickDerived_104 3 rfl ?_
  refine g_bipush F (v := 9) d_M_tickDerived_105 (by decide) ?_
  refine g_callV F (dp := 0) (ci := 8) (As := [.int r3, .int (9 : Int32)]) (c_M_sensor0 l _ _ _ hq _) cv_8_54 hq.1 rfl rfl rfl (Nat.le_of_ble_eq_true rfl) ⟨Nat.le_of_ble_eq_true rfl, Nat.le_of_ble_eq_true rfl⟩ ⟨Nat.zero_le _, Nat.zero_le _⟩ d_M_tickDerived_107 (fun r35 σ36 h30 => ?_)
  refine g_istore F (ls' := [(7, .int r35), (6, .int (-8 : Int32)), (5, .int r7), (4, .int r5), (3, .int r3), (2, .int r1), (0, .ref (xa X q)), (1, .int p1)]) d_M_tickDerived_110 (by decide) rfl ?_
  refine g_iload F d_M_tickDerived_112 3 rfl ?_
  refine g_if_ne F (tgt := 129) d_M_tickDerived_114 (by decide) (fun h31 => ?_) (fun h32 => ?_)
  · refine g_iload F d_M_tickDerived_117 2 rfl ?_
    refine g_iload F d_M_tickDerived_119 0 rfl ?_
    refine g_iadd F d_M_tickDerived_121 ?_
    refine g_sipush F (v := 1000) d_M_tickDerived_122 (by decide) ?_
    refine g_pf (q := (1000 : Int32) = 0) (by decide) (g_irem F d_M_tickDerived_125 ?_)
    refine g_ltI (fun v37 _ => ?_)
    refine g_goto F (tgt := 165) d_M_tickDerived_126 (by decide) ?_
    refine g_istore F (ls' := [(6, .int v37), (7, .int r35), (5, .int r7), (4, .int r5), (3, .int r3), (2, .int r1), (0, .ref (xa X q)), (1, .int p1)]) d_M_tickDerived_165 (by decide) rfl ?_
    refine g_aload_n F d_M_tickDerived_167 6 rfl ?_
    refine g_iload_n F d_M_tickDerived_168 7 rfl ?_
    refine g_aload_n F d_M_tickDerived_169 6 rfl ?_
    refine g_iload_n F d_M_tickDerived_170 5 rfl ?_
    refine g_bipush F (v := 8) d_M_tickDerived_171 (by decide) ?_
    refine g_callV F (dp := 0) (ci := 8) (As := [.int r1, .int (8 : Int32)]) (c_M_sensor0 l _ _ _ hq _) cv_8_54 hq.1 rfl rfl rfl (Nat.le_of_ble_eq_true rfl) ⟨Nat.le_of_ble_eq_true rfl, Nat.le_of_ble_eq_true rfl⟩ ⟨Nat.zero_le _, Nat.zero_le _⟩ d_M_tickDerived_173 (fun r38 σ39 h33 => ?_)
    refine g_iload F d_M_tickDerived_176 0 rfl ?_
    refine g_callV F (dp := 0) (ci := 8) (As := [.int p1, .int r38, .int v37]) (c_M_receive l _ _ _ _ hq _) cv_8_91 hq.1 rfl rfl rfl (Nat.le_of_ble_eq_true rfl) ⟨Nat.le_of_ble_eq_true rfl, Nat.le_of_ble_eq_true rfl⟩ ⟨Nat.zero_le _, Nat.zero_le _⟩ d_M_tickDerived_178 (fun _ σ41 h34 => ?_)
    exact g_vret F hlk hr d_M_tickDerived_181
  refine g_iload F d_M_tickDerived_129 3 rfl ?_
  refine g_iconst F (v := 1) d_M_tickDerived_131 (by decide) ?_
  refine g_icmp_ne F (tgt := 151) d_M_tickDerived_132 (by decide) (fun h35 => ?_) (fun h36 => ?_)
  · refine g_iload F d_M_tickDerived_135 2 rfl ?_
    refine g_iload F d_M_tickDerived_137 0 rfl ?_
    refine g_isub F d_M_tickDerived_139 ?_
    refine g_sipush F (v := 1000) d_M_tickDerived_140 (by decide) ?_
    refine g_iadd F d_M_tickDerived_143 ?_
    refine g_sipush F (v := 1000) d_M_tickDerived_144 (by decide) ?_
    refine g_pf (q := (1000 : Int32) = 0) (by decide) (g_irem F d_M_tickDerived_147 ?_)
    refine g_ltI (fun v42 _ => ?_)
    refine g_goto F (tgt := 165) d_M_tickDerived_148 (by decide) ?_
    refine g_istore F (ls' := [(6, .int v42), (7, .int r35), (5, .int r7), (4, .int r5), (3, .int r3), (2, .int r1), (0, .ref (xa X q)), (1, .int p1)]) d_M_tickDerived_165 (by decide) rfl ?_
    refine g_aload_n F d_M_tickDerived_167 6 rfl ?_
    refine g_iload_n F d_M_tickDerived_168 7 rfl ?_
    refine g_aload_n F d_M_tickDerived_169 6 rfl ?_
    refine g_iload_n F d_M_tickDerived_170 5 rfl ?_
    refine g_bipush F (v := 8) d_M_tickDerived_171 (by decide) ?_
    refine g_callV F (dp := 0) (ci := 8) (As := [.int r1, .int (8 : Int32)]) (c_M_sensor0 l _ _ _ hq _) cv_8_54 hq.1 rfl rfl rfl (Nat.le_of_ble_eq_true rfl) ⟨Nat.le_of_ble_eq_true rfl, Nat.le_of_ble_eq_true rfl⟩ ⟨Nat.zero_le _, Nat.zero_le _⟩ d_M_tickDerived_173 (fun r43 σ44 h37 => ?_)
    refine g_iload F d_M_tickDerived_176 0 rfl ?_
    refine g_callV F (dp := 0) (ci := 8) (As := [.int p1, .int r43, .int v42]) (c_M_receive l _ _ _ _ hq _) cv_8_91 hq.1 rfl rfl rfl (Nat.le_of_ble_eq_true rfl) ⟨Nat.le_of_ble_eq_true rfl, Nat.le_of_ble_eq_true rfl⟩ ⟨Nat.zero_le _, Nat.zero_le _⟩ d_M_tickDerived_178 (fun _ σ46 h38 => ?_)
    exact g_vret F hlk hr d_M_tickDerived_181
  refine g_iload F d_M_tickDerived_151 2 rfl ?_
  refine g_iload F d_M_tickDerived_153 0 rfl ?_
  refine g_icmp_le F (tgt := 163) d_M_tickDerived_155 (by decide) (fun h39 => ?_) (fun h40 => ?_)
  · refine g_iload F d_M_tickDerived_163 0 rfl ?_
    refine g_istore F (ls' := [(6, .int r35), (7, .int r35), (5, .int r7), (4, .int r5), (3, .int r3), (2, .int r1), (0, .ref (xa X q)), (1, .int p1)]) d_M_tickDerived_165 (by decide) rfl ?_
    refine g_aload_n F d_M_tickDerived_167 6 rfl ?_
    refine g_iload_n F d_M_tickDerived_168 7 rfl ?_
    refine g_aload_n F d_M_tickDerived_169 6 rfl ?_
    refine g_iload_n F d_M_tickDerived_170 5 rfl ?_
    refine g_bipush F (v := 8) d_M_tickDerived_171 (by decide) ?_
    refine g_callV F (dp := 0) (ci := 8) (As := [.int r1, .int (8 : Int32)]) (c_M_sensor0 l _ _ _ hq _) cv_8_54 hq.1 rfl rfl rfl (Nat.le_of_ble_eq_true rfl) ⟨Nat.le_of_ble_eq_true rfl, Nat.le_of_ble_eq_true rfl⟩ ⟨Nat.zero_le _, Nat.zero_le _⟩ d_M_tickDerived_173 (fun r47 σ48 h41 => ?_)
    refine g_iload F d_M_tickDerived_176 0 rfl ?_
    refine g_callV F (dp := 0) (ci := 8) (As := [.int p1, .int r47, .int r35]) (c_M_receive l _ _ _ _ hq _) cv_8_91 hq.1 rfl rfl rfl (Nat.le_of_ble_eq_true rfl) ⟨Nat.le_of_ble_eq_true rfl, Nat.le_of_ble_eq_true rfl⟩ ⟨Nat.zero_le _, Nat.zero_le _⟩ d_M_tickDerived_178 (fun _ σ50 h42 => ?_)
    exact g_vret F hlk hr d_M_tickDerived_181
  refine g_iload F d_M_tickDerived_158 2 rfl ?_
  refine g_goto F (tgt := 165) d_M_tickDerived_160 (by decide) ?_
  refine g_istore F (ls' := [(6, .int r7), (7, .int r35), (5, .int r7), (4, .int r5), (3, .int r3), (2, .int r1), (0, .ref (xa X q)), (1, .int p1)]) d_M_tickDerived_165 (by decide) rfl ?_
  refine g_aload_n F d_M_tickDerived_167 6 rfl ?_
  refine g_iload_n F d_M_tickDerived_168 7 rfl ?_
  refine g_aload_n F d_M_tickDerived_169 6 rfl ?_
  refine g_iload_n F d_M_tickDerived_170 5 rfl ?_
  refine g_bipush F (v := 8) d_M_tickDerived_171 (by decide) ?_
  refine g_callV F (dp := 0) (ci := 8) (As := [.int r1, .int (8 : Int32)]) (c_M_sensor0 l _ _ _ hq _) cv_8_54 hq.1 rfl rfl rfl (Nat.le_of_ble_eq_true rfl) ⟨Nat.le_of_ble_eq_true rfl, Nat.le_of_ble_eq_true rfl⟩ ⟨Nat.zero_le _, Nat.zero_le _⟩ d_M_tickDerived_173 (fun r51 σ52 h43 => ?_)
  refine g_iload F d_M_tickDerived_176 0 rfl ?_
  refine g_callV F (dp := 0) (ci := 8) (As := [.int p1, .int r51, .int r7]) (c_M_receive l _ _ _ _ hq _) cv_8_91 hq.1 rfl rfl rfl (Nat.le_of_ble_eq_true rfl) ⟨Nat.le_of_ble_eq_true rfl, Nat.le_of_ble_eq_true rfl⟩ ⟨Nat.zero_le _, Nat.zero_le _⟩ d_M_tickDerived_178 (fun _ σ54 h44 => ?_)
  exact g_vret F hlk hr d_M_tickDerived_181
def y_M_store : MethodName := ⟨"SensorHubModel", "store", "(I)V"⟩
theorem d_M_store_0 : decode prog_10_method_29_code 0 = .ok (.aload_n 0, 1) := by decide +kernel
theorem d_M_store_1 : decode prog_10_method_29_code 1 = .ok (.iload_n 1, 1) := by decide +kernel
theorem d_M_store_2 : decode prog_10_method_29_code 2 = .ok (.iconst 1, 1) := by decide +kernel
theorem d_M_store_3 : decode prog_10_method_29_code 3 = .ok (.invokevirtual 46, 3) := by decide +kernel
theorem d_M_store_6 : decode prog_10_method_29_code 6 = .ok (.istore_n 2, 1) := by decide +kernel
theorem d_M_store_7 : decode prog_10_method_29_code 7 = .ok (.aload_n 0, 1) := by decide +kernel
theorem d_M_store_8 : decode prog_10_method_29_code 8 = .ok (.iload_n 1, 1) := by decide +kernel
theorem d_M_store_9 : decode prog_10_method_29_code 9 = .ok (.iconst 2, 1) := by decide +kernel
theorem d_M_store_10 : decode prog_10_method_29_code 10 = .ok (.invokevirtual 46, 3) := by decide +kernel
theorem d_M_store_13 : decode prog_10_method_29_code 13 = .ok (.aload_n 0, 1) := by decide +kernel
theorem d_M_store_14 : decode prog_10_method_29_code 14 = .ok (.getfield 25, 3) := by decide +kernel
theorem d_M_store_17 : decode prog_10_method_29_code 17 = .ok (.iload_n 2, 1) := by decide +kernel
theorem d_M_store_18 : decode prog_10_method_29_code 18 = .ok (.iaload, 1) := by decide +kernel
theorem d_M_store_19 : decode prog_10_method_29_code 19 = .ok (.idiv, 1) := by decide +kernel
theorem d_M_store_20 : decode prog_10_method_29_code 20 = .ok (.istore_n 3, 1) := by decide +kernel
theorem d_M_store_21 : decode prog_10_method_29_code 21 = .ok (.aload_n 0, 1) := by decide +kernel
theorem d_M_store_22 : decode prog_10_method_29_code 22 = .ok (.iload_n 1, 1) := by decide +kernel
theorem d_M_store_23 : decode prog_10_method_29_code 23 = .ok (.iconst 4, 1) := by decide +kernel
theorem d_M_store_24 : decode prog_10_method_29_code 24 = .ok (.invokevirtual 46, 3) := by decide +kernel
theorem d_M_store_27 : decode prog_10_method_29_code 27 = .ok (.istore 4, 2) := by decide +kernel
theorem d_M_store_29 : decode prog_10_method_29_code 29 = .ok (.aload_n 0, 1) := by decide +kernel
theorem d_M_store_30 : decode prog_10_method_29_code 30 = .ok (.getfield 7, 3) := by decide +kernel
theorem d_M_store_33 : decode prog_10_method_29_code 33 = .ok (.sipush 163, 3) := by decide +kernel
theorem d_M_store_36 : decode prog_10_method_29_code 36 = .ok (.bipush 27, 2) := by decide +kernel
theorem d_M_store_38 : decode prog_10_method_29_code 38 = .ok (.iload_n 1, 1) := by decide +kernel
theorem d_M_store_39 : decode prog_10_method_29_code 39 = .ok (.imul, 1) := by decide +kernel
theorem d_M_store_40 : decode prog_10_method_29_code 40 = .ok (.iadd, 1) := by decide +kernel
theorem d_M_store_41 : decode prog_10_method_29_code 41 = .ok (.iconst 4, 1) := by decide +kernel
theorem d_M_store_42 : decode prog_10_method_29_code 42 = .ok (.iadd, 1) := by decide +kernel
theorem d_M_store_43 : decode prog_10_method_29_code 43 = .ok (.dup2, 1) := by decide +kernel
theorem d_M_store_44 : decode prog_10_method_29_code 44 = .ok (.iaload, 1) := by decide +kernel
theorem d_M_store_45 : decode prog_10_method_29_code 45 = .ok (.iconst 1, 1) := by decide +kernel
theorem d_M_store_46 : decode prog_10_method_29_code 46 = .ok (.iadd, 1) := by decide +kernel
theorem d_M_store_47 : decode prog_10_method_29_code 47 = .ok (.iastore, 1) := by decide +kernel
theorem d_M_store_48 : decode prog_10_method_29_code 48 = .ok (.iload 4, 2) := by decide +kernel
theorem d_M_store_50 : decode prog_10_method_29_code 50 = .ok (.iload_n 3, 1) := by decide +kernel
theorem d_M_store_51 : decode prog_10_method_29_code 51 = .ok (.irem, 1) := by decide +kernel
theorem d_M_store_52 : decode prog_10_method_29_code 52 = .ok (.ifCond .eq 4, 3) := by decide +kernel
theorem d_M_store_55 : decode prog_10_method_29_code 55 = .ok (.return_, 1) := by decide +kernel
theorem d_M_store_56 : decode prog_10_method_29_code 56 = .ok (.aload_n 0, 1) := by decide +kernel
theorem d_M_store_57 : decode prog_10_method_29_code 57 = .ok (.getfield 7, 3) := by decide +kernel
theorem d_M_store_60 : decode prog_10_method_29_code 60 = .ok (.iconst 3, 1) := by decide +kernel
theorem d_M_store_61 : decode prog_10_method_29_code 61 = .ok (.iaload, 1) := by decide +kernel
theorem d_M_store_62 : decode prog_10_method_29_code 62 = .ok (.aload_n 0, 1) := by decide +kernel
theorem d_M_store_63 : decode prog_10_method_29_code 63 = .ok (.getfield 7, 3) := by decide +kernel
theorem d_M_store_66 : decode prog_10_method_29_code 66 = .ok (.iconst 4, 1) := by decide +kernel
theorem d_M_store_67 : decode prog_10_method_29_code 67 = .ok (.iaload, 1) := by decide +kernel
theorem d_M_store_68 : decode prog_10_method_29_code 68 = .ok (.if_icmp .lt 9, 3) := by decide +kernel
theorem d_M_store_71 : decode prog_10_method_29_code 71 = .ok (.aload_n 0, 1) := by decide +kernel
theorem d_M_store_72 : decode prog_10_method_29_code 72 = .ok (.iconst 1, 1) := by decide +kernel
theorem d_M_store_73 : decode prog_10_method_29_code 73 = .ok (.invokevirtual 98, 3) := by decide +kernel
theorem d_M_store_76 : decode prog_10_method_29_code 76 = .ok (.pop, 1) := by decide +kernel
theorem d_M_store_77 : decode prog_10_method_29_code 77 = .ok (.sipush 391, 3) := by decide +kernel
theorem d_M_store_80 : decode prog_10_method_29_code 80 = .ok (.iconst 3, 1) := by decide +kernel
theorem d_M_store_81 : decode prog_10_method_29_code 81 = .ok (.aload_n 0, 1) := by decide +kernel
theorem d_M_store_82 : decode prog_10_method_29_code 82 = .ok (.getfield 7, 3) := by decide +kernel
theorem d_M_store_85 : decode prog_10_method_29_code 85 = .ok (.iconst 3, 1) := by decide +kernel
theorem d_M_store_86 : decode prog_10_method_29_code 86 = .ok (.iaload, 1) := by decide +kernel
theorem d_M_store_87 : decode prog_10_method_29_code 87 = .ok (.imul, 1) := by decide +kernel
theorem d_M_store_88 : decode prog_10_method_29_code 88 = .ok (.iadd, 1) := by decide +kernel
theorem d_M_store_89 : decode prog_10_method_29_code 89 = .ok (.istore 5, 2) := by decide +kernel
theorem d_M_store_91 : decode prog_10_method_29_code 91 = .ok (.aload_n 0, 1) := by decide +kernel
theorem d_M_store_92 : decode prog_10_method_29_code 92 = .ok (.getfield 7, 3) := by decide +kernel
theorem d_M_store_95 : decode prog_10_method_29_code 95 = .ok (.iload 5, 2) := by decide +kernel
theorem d_M_store_97 : decode prog_10_method_29_code 97 = .ok (.iload_n 1, 1) := by decide +kernel
theorem d_M_store_98 : decode prog_10_method_29_code 98 = .ok (.iastore, 1) := by decide +kernel
theorem d_M_store_99 : decode prog_10_method_29_code 99 = .ok (.aload_n 0, 1) := by decide +kernel
theorem d_M_store_100 : decode prog_10_method_29_code 100 = .ok (.getfield 7, 3) := by decide +kernel
theorem d_M_store_103 : decode prog_10_method_29_code 103 = .ok (.iload 5, 2) := by decide +kernel
theorem d_M_store_105 : decode prog_10_method_29_code 105 = .ok (.iconst 1, 1) := by decide +kernel
theorem d_M_store_106 : decode prog_10_method_29_code 106 = .ok (.iadd, 1) := by decide +kernel
theorem d_M_store_107 : decode prog_10_method_29_code 107 = .ok (.aload_n 0, 1) := by decide +kernel
theorem d_M_store_108 : decode prog_10_method_29_code 108 = .ok (.iload_n 2, 1) := by decide +kernel
theorem d_M_store_109 : decode prog_10_method_29_code 109 = .ok (.bipush 8, 2) := by decide +kernel
theorem d_M_store_111 : decode prog_10_method_29_code 111 = .ok (.invokevirtual 54, 3) := by decide +kernel
theorem d_M_store_114 : decode prog_10_method_29_code 114 = .ok (.iastore, 1) := by decide +kernel
theorem d_M_store_115 : decode prog_10_method_29_code 115 = .ok (.aload_n 0, 1) := by decide +kernel
theorem d_M_store_116 : decode prog_10_method_29_code 116 = .ok (.getfield 7, 3) := by decide +kernel
theorem d_M_store_119 : decode prog_10_method_29_code 119 = .ok (.iload 5, 2) := by decide +kernel
theorem d_M_store_121 : decode prog_10_method_29_code 121 = .ok (.iconst 2, 1) := by decide +kernel
theorem d_M_store_122 : decode prog_10_method_29_code 122 = .ok (.iadd, 1) := by decide +kernel
theorem d_M_store_123 : decode prog_10_method_29_code 123 = .ok (.aload_n 0, 1) := by decide +kernel
theorem d_M_store_124 : decode prog_10_method_29_code 124 = .ok (.iload_n 2, 1) := by decide +kernel
theorem d_M_store_125 : decode prog_10_method_29_code 125 = .ok (.bipush 9, 2) := by decide +kernel
theorem d_M_store_127 : decode prog_10_method_29_code 127 = .ok (.invokevirtual 54, 3) := by decide +kernel
theorem d_M_store_130 : decode prog_10_method_29_code 130 = .ok (.iastore, 1) := by decide +kernel
theorem d_M_store_131 : decode prog_10_method_29_code 131 = .ok (.aload_n 0, 1) := by decide +kernel
theorem d_M_store_132 : decode prog_10_method_29_code 132 = .ok (.getfield 7, 3) := by decide +kernel
theorem d_M_store_135 : decode prog_10_method_29_code 135 = .ok (.iconst 3, 1) := by decide +kernel
theorem d_M_store_136 : decode prog_10_method_29_code 136 = .ok (.dup2, 1) := by decide +kernel
theorem d_M_store_137 : decode prog_10_method_29_code 137 = .ok (.iaload, 1) := by decide +kernel
theorem d_M_store_138 : decode prog_10_method_29_code 138 = .ok (.iconst 1, 1) := by decide +kernel
theorem d_M_store_139 : decode prog_10_method_29_code 139 = .ok (.iadd, 1) := by decide +kernel
theorem d_M_store_140 : decode prog_10_method_29_code 140 = .ok (.iastore, 1) := by decide +kernel
theorem d_M_store_141 : decode prog_10_method_29_code 141 = .ok (.return_, 1) := by decide +kernel
theorem cv_8_98 : CSV "SensorHubModel" 98 y_M_wake prog_10_method_22_code 4 (some .int) 1 := ⟨gw_I 1001 (by decide +kernel) rfl, gw_I 1003 (by decide +kernel) rfl, gw_I 36 (by decide +kernel) rfl, gw_I 78 (by decide +kernel) rfl, gw_I 1004 (by decide +kernel) rfl, ⟨by decide +kernel, by decide +kernel⟩, by decide +kernel⟩
def f_M_store (q : Nat) (p1 : Int32) (σ : Mem) : Option (Unit × Mem) :=
  bd (f_M_client0 q p1 (1 : Int32) σ) fun r1 σ2 =>
  bd (f_M_client0 q p1 (2 : Int32) σ2) fun r3 σ4 =>
  if ib r1 8 then
    if σ4 (q + 6) r1.toNatClampNeg = 0 then none else
    lt (r3 / (σ4 (q + 6) r1.toNatClampNeg)) fun v5 =>
    bd (f_M_client0 q p1 (4 : Int32) σ4) fun r6 σ7 =>
    if ib (((163 : Int32) + ((27 : Int32) * p1)) + (4 : Int32)) 481 then
      lt (σ7 (q + 1) (((163 : Int32) + ((27 : Int32) * p1)) + (4 : Int32)).toNatClampNeg) fun v8 =>
      if ib (((163 : Int32) + ((27 : Int32) * p1)) + (4 : Int32)) 481 then
        lt (wr σ7 (q + 1) (((163 : Int32) + ((27 : Int32) * p1)) + (4 : Int32)).toNatClampNeg (v8 + (1 : Int32))) fun σ9 =>
        if v5 = 0 then none else
        lt (r6 - r6 / v5 * v5) fun v10 =>
        if v10 = 0 then
          if (σ9 (q + 1) 3) < (σ9 (q + 1) 4) then
            lt ((391 : Int32) + ((3 : Int32) * (σ9 (q + 1) 3))) fun v11 =>
            if ib v11 481 then
              lt (wr σ9 (q + 1) v11.toNatClampNeg p1) fun σ12 =>
              bd (f_M_sensor0 q r1 (8 : Int32) σ12) fun r13 σ14 =>
              if ib (v11 + (1 : Int32)) 481 then
                lt (wr σ14 (q + 1) (v11 + (1 : Int32)).toNatClampNeg r13) fun σ15 =>
                bd (f_M_sensor0 q r1 (9 : Int32) σ15) fun r16 σ17 =>
                if ib (v11 + (2 : Int32)) 481 then
                  lt (wr σ17 (q + 1) (v11 + (2 : Int32)).toNatClampNeg r16) fun σ18 =>
                  lt (wr σ18 (q + 1) 3 ((σ18 (q + 1) 3) + (1 : Int32))) fun σ19 =>
                  some ((), σ19)
                else none
              else none
            else none
          else
            bd (f_M_wake q (1 : Int32) σ9) fun r20 σ21 =>
            lt ((391 : Int32) + ((3 : Int32) * (σ21 (q + 1) 3))) fun v22 =>
            if ib v22 481 then
              lt (wr σ21 (q + 1) v22.toNatClampNeg p1) fun σ23 =>
              bd (f_M_sensor0 q r1 (8 : Int32) σ23) fun r24 σ25 =>
              if ib (v22 + (1 : Int32)) 481 then
                lt (wr σ25 (q + 1) (v22 + (1 : Int32)).toNatClampNeg r24) fun σ26 =>
                bd (f_M_sensor0 q r1 (9 : Int32) σ26) fun r27 σ28 =>
                if ib (v22 + (2 : Int32)) 481 then
                  lt (wr σ28 (q + 1) (v22 + (2 : Int32)).toNatClampNeg r27) fun σ29 =>
                  lt (wr σ29 (q + 1) 3 ((σ29 (q + 1) 3) + (1 : Int32))) fun σ30 =>
                  some ((), σ30)
                else none
              else none
            else none
        else
          some ((), σ9)
      else none
    else none
  else none
set_option maxRecDepth 100000 in
set_option maxHeartbeats 4000000 in
theorem c_M_store {X : CX} (l : Launch) (q : Nat) (p1 : Int32) (hq : ModelOK X q) (σ : Mem) : CT X l y_M_store prog_10_method_29_code 6 none 3 vU [.ref (xa X q), .int p1] σ (f_M_store q p1 σ) := by
  refine CT_of (by decide +kernel) (Nat.le_of_ble_eq_true rfl) ?_
  intro p e s m args below meth c F hlk hr
  have F : FR p s m args c prog_10_method_29_code 6 "SensorHubModel" X := F
  show G X p l e (rmD 3) s m args below meth c 6 0 0 (QI X below args s vU) 0 [(0, .ref (xa X q)), (1, .int p1)] [] σ _
  unfold f_M_store
  refine g_aload_n F d_M_store_0 0 rfl ?_
  refine g_iload_n F d_M_store_1 1 rfl ?_
  refine g_iconst F (v := 1) d_M_store_2 (by decide) ?_
  refine g_callV F (dp := 0) (ci := 8) (As := [.int p1, .int (1 : Int32)]) (c_M_client0 l _ _ _ hq _) cv_8_46 hq.1 rfl rfl rfl (Nat.le_of_ble_eq_true rfl) ⟨Nat.le_of_ble_eq_true rfl, Nat.le_of_ble_eq_true rfl⟩ ⟨Nat.zero_le _, Nat.zero_le _⟩ d_M_store_3 (fun r1 σ2 h1 => ?_)
  refine g_istore_n F (ls' := [(2, .int r1), (0, .ref (xa X q)), (1, .int p1)]) d_M_store_6 (by decide) rfl ?_
  refine g_aload_n F d_M_store_7 1 rfl ?_
  refine g_iload_n F d_M_store_8 2 rfl ?_
  refine g_iconst F (v := 2) d_M_store_9 (by decide) ?_
  refine g_callV F (dp := 0) (ci := 8) (As := [.int p1, .int (2 : Int32)]) (c_M_client0 l _ _ _ hq _) cv_8_46 hq.1 rfl rfl rfl (Nat.le_of_ble_eq_true rfl) ⟨Nat.le_of_ble_eq_true rfl, Nat.le_of_ble_eq_true rfl⟩ ⟨Nat.zero_le _, Nat.zero_le _⟩ d_M_store_10 (fun r3 σ4 h2 => ?_)
  refine g_aload_n F d_M_store_13 1 rfl ?_
  refine g_getR F fs_8_25 hq.1 rfl d_M_store_14 ?_
  refine g_iload_n F d_M_store_17 0 rfl ?_
  refine g_iald F (n := 8) hq.2.2.2.2.2.2.1 d_M_store_18 ?_
  refine g_idiv F d_M_store_19 ?_
  refine g_ltI (fun v5 _ => ?_)
  refine g_istore_n F (ls' := [(3, .int v5), (2, .int r1), (0, .ref (xa X q)), (1, .int p1)]) d_M_store_20 (by decide) rfl ?_
  refine g_aload_n F d_M_store_21 2 rfl ?_
  refine g_iload_n F d_M_store_22 3 rfl ?_
  refine g_iconst F (v := 4) d_M_store_23 (by decide) ?_
  refine g_callV F (dp := 0) (ci := 8) (As := [.int p1, .int (4 : Int32)]) (c_M_client0 l _ _ _ hq _) cv_8_46 hq.1 rfl rfl rfl (Nat.le_of_ble_eq_true rfl) ⟨Nat.le_of_ble_eq_true rfl, Nat.le_of_ble_eq_true rfl⟩ ⟨Nat.zero_le _, Nat.zero_le _⟩ d_M_store_24 (fun r6 σ7 h3 => ?_)
  refine g_istore F (ls' := [(4, .int r6), (3, .int v5), (2, .int r1), (0, .ref (xa X q)), (1, .int p1)]) d_M_store_27 (by decide) rfl ?_
  refine g_aload_n F d_M_store_29 3 rfl ?_
  refine g_getR F fs_8_7 hq.1 rfl d_M_store_30 ?_
  refine g_sipush F (v := 163) d_M_store_33 (by decide) ?_
  refine g_bipush F (v := 27) d_M_store_36 (by decide) ?_
  refine g_iload_n F d_M_store_38 4 rfl ?_
  refine g_imul F d_M_store_39 ?_
  refine g_iadd F d_M_store_40 ?_
  refine g_iconst F (v := 4) d_M_store_41 (by decide) ?_
  refine g_iadd F d_M_store_42 ?_
  refine g_dup2 F d_M_store_43 rfl rfl ?_
  refine g_iald F (n := 481) hq.2.1 d_M_store_44 ?_
  refine g_ltI (fun v8 _ => ?_)
  refine g_iconst F (v := 1) d_M_store_45 (by decide) ?_
  refine g_iadd F d_M_store_46 ?_
  refine g_iast F (n := 481) hq.2.1 d_M_store_47 ?_
  refine g_ltM (fun σ9 _ => ?_)
  refine g_iload F d_M_store_48 0 rfl ?_
  refine g_iload_n F d_M_store_50 1 rfl ?_
  refine g_irem F d_M_store_51 ?_
  refine g_ltI (fun v10 _ => ?_)
  refine g_if_eq F (tgt := 56) d_M_store_52 (by decide) (fun h4 => ?_) (fun h5 => ?_)
  · refine g_aload_n F d_M_store_56 3 rfl ?_
    refine g_getR F fs_8_7 hq.1 rfl d_M_store_57 ?_
    refine g_iconst F (v := 3) d_M_store_60 (by decide) ?_
    refine g_ialdC F (n := 481) 3 (by decide) (by decide) hq.2.1 d_M_store_61 ?_
    refine g_aload_n F d_M_store_62 3 rfl ?_
    refine g_getR F fs_8_7 hq.1 rfl d_M_store_63 ?_
    refine g_iconst F (v := 4) d_M_store_66 (by decide) ?_
    refine g_ialdC F (n := 481) 4 (by decide) (by decide) hq.2.1 d_M_store_67 ?_
    refine g_icmp_lt F (tgt := 77) d_M_store_68 (by decide) (fun h6 => ?_) (fun h7 => ?_)
    · refine g_sipush F (v := 391) d_M_store_77 (by decide) ?_
      refine g_iconst F (v := 3) d_M_store_80 (by decide) ?_
      refine g_aload_n F d_M_store_81 3 rfl ?_
      refine g_getR F fs_8_7 hq.1 rfl d_M_store_82 ?_
      refine g_iconst F (v := 3) d_M_store_85 (by decide) ?_
      refine g_ialdC F (n := 481) 3 (by decide) (by decide) hq.2.1 d_M_store_86 ?_
      refine g_imul F d_M_store_87 ?_
      refine g_iadd F d_M_store_88 ?_
      refine g_ltI (fun v11 _ => ?_)
      refine g_istore F (ls' := [(5, .int v11), (4, .int r6), (3, .int v5), (2, .int r1), (0, .ref (xa X q)), (1, .int p1)]) d_M_store_89 (by decide) rfl ?_
      refine g_aload_n F d_M_store_91 4 rfl ?_
      refine g_getR F fs_8_7 hq.1 rfl d_M_store_92 ?_
      refine g_iload F d_M_store_95 0 rfl ?_
      refine g_iload_n F d_M_store_97 5 rfl ?_
      refine g_iast F (n := 481) hq.2.1 d_M_store_98 ?_
      refine g_ltM (fun σ12 _ => ?_)
      refine g_aload_n F d_M_store_99 4 rfl ?_
      refine g_getR F fs_8_7 hq.1 rfl d_M_store_100 ?_
      refine g_iload F d_M_store_103 0 rfl ?_
      refine g_iconst F (v := 1) d_M_store_105 (by decide) ?_
      refine g_iadd F d_M_store_106 ?_
      refine g_aload_n F d_M_store_107 4 rfl ?_
      refine g_iload_n F d_M_store_108 3 rfl ?_
      refine g_bipush F (v := 8) d_M_store_109 (by decide) ?_
      refine g_callV F (dp := 0) (ci := 8) (As := [.int r1, .int (8 : Int32)]) (c_M_sensor0 l _ _ _ hq _) cv_8_54 hq.1 rfl rfl rfl (Nat.le_of_ble_eq_true rfl) ⟨Nat.le_of_ble_eq_true rfl, Nat.le_of_ble_eq_true rfl⟩ ⟨Nat.zero_le _, Nat.zero_le _⟩ d_M_store_111 (fun r13 σ14 h8 => ?_)
      refine g_iast F (n := 481) hq.2.1 d_M_store_114 ?_
      refine g_ltM (fun σ15 _ => ?_)
      refine g_aload_n F d_M_store_115 4 rfl ?_
      refine g_getR F fs_8_7 hq.1 rfl d_M_store_116 ?_
      refine g_iload F d_M_store_119 0 rfl ?_
      refine g_iconst F (v := 2) d_M_store_121 (by decide) ?_
      refine g_iadd F d_M_store_122 ?_
      refine g_aload_n F d_M_store_123 4 rfl ?_
      refine g_iload_n F d_M_store_124 3 rfl ?_
      refine g_bipush F (v := 9) d_M_store_125 (by decide) ?_
      refine g_callV F (dp := 0) (ci := 8) (As := [.int r1, .int (9 : Int32)]) (c_M_sensor0 l _ _ _ hq _) cv_8_54 hq.1 rfl rfl rfl (Nat.le_of_ble_eq_true rfl) ⟨Nat.le_of_ble_eq_true rfl, Nat.le_of_ble_eq_true rfl⟩ ⟨Nat.zero_le _, Nat.zero_le _⟩ d_M_store_127 (fun r16 σ17 h9 => ?_)
      refine g_iast F (n := 481) hq.2.1 d_M_store_130 ?_
      refine g_ltM (fun σ18 _ => ?_)
      refine g_aload_n F d_M_store_131 4 rfl ?_
      refine g_getR F fs_8_7 hq.1 rfl d_M_store_132 ?_
      refine g_iconst F (v := 3) d_M_store_135 (by decide) ?_
      refine g_dup2 F d_M_store_136 rfl rfl ?_
      refine g_ialdC F (n := 481) 3 (by decide) (by decide) hq.2.1 d_M_store_137 ?_
      refine g_iconst F (v := 1) d_M_store_138 (by decide) ?_
      refine g_iadd F d_M_store_139 ?_
      refine g_iastC F (n := 481) 3 (by decide) (by decide) hq.2.1 d_M_store_140 ?_
      refine g_ltM (fun σ19 _ => ?_)
      exact g_vret F hlk hr d_M_store_141
    refine g_aload_n F d_M_store_71 3 rfl ?_
    refine g_iconst F (v := 1) d_M_store_72 (by decide) ?_
    refine g_callV F (dp := 2) (ci := 8) (As := [.int (1 : Int32)]) (c_M_wake l _ _ hq _) cv_8_98 hq.1 rfl rfl rfl (Nat.le_of_ble_eq_true rfl) ⟨Nat.le_of_ble_eq_true rfl, Nat.le_of_ble_eq_true rfl⟩ ⟨Nat.zero_le _, Nat.zero_le _⟩ d_M_store_73 (fun r20 σ21 h10 => ?_)
    refine g_pop F d_M_store_76 rfl ?_
    refine g_sipush F (v := 391) d_M_store_77 (by decide) ?_
    refine g_iconst F (v := 3) d_M_store_80 (by decide) ?_
    refine g_aload_n F d_M_store_81 3 rfl ?_
    refine g_getR F fs_8_7 hq.1 rfl d_M_store_82 ?_
    refine g_iconst F (v := 3) d_M_store_85 (by decide) ?_
    refine g_ialdC F (n := 481) 3 (by decide) (by decide) hq.2.1 d_M_store_86 ?_
    refine g_imul F d_M_store_87 ?_
    refine g_iadd F d_M_store_88 ?_
    refine g_ltI (fun v22 _ => ?_)
    refine g_istore F (ls' := [(5, .int v22), (4, .int r6), (3, .int v5), (2, .int r1), (0, .ref (xa X q)), (1, .int p1)]) d_M_store_89 (by decide) rfl ?_
    refine g_aload_n F d_M_store_91 4 rfl ?_
    refine g_getR F fs_8_7 hq.1 rfl d_M_store_92 ?_
    refine g_iload F d_M_store_95 0 rfl ?_
    refine g_iload_n F d_M_store_97 5 rfl ?_
    refine g_iast F (n := 481) hq.2.1 d_M_store_98 ?_
    refine g_ltM (fun σ23 _ => ?_)
    refine g_aload_n F d_M_store_99 4 rfl ?_
    refine g_getR F fs_8_7 hq.1 rfl d_M_store_100 ?_
    refine g_iload F d_M_store_103 0 rfl ?_
    refine g_iconst F (v := 1) d_M_store_105 (by decide) ?_
    refine g_iadd F d_M_store_106 ?_
    refine g_aload_n F d_M_store_107 4 rfl ?_
    refine g_iload_n F d_M_store_108 3 rfl ?_
    refine g_bipush F (v := 8) d_M_store_109 (by decide) ?_
    refine g_callV F (dp := 0) (ci := 8) (As := [.int r1, .int (8 : Int32)]) (c_M_sensor0 l _ _ _ hq _) cv_8_54 hq.1 rfl rfl rfl (Nat.le_of_ble_eq_true rfl) ⟨Nat.le_of_ble_eq_true rfl, Nat.le_of_ble_eq_true rfl⟩ ⟨Nat.zero_le _, Nat.zero_le _⟩ d_M_store_111 (fun r24 σ25 h11 => ?_)
    refine g_iast F (n := 481) hq.2.1 d_M_store_114 ?_
    refine g_ltM (fun σ26 _ => ?_)
    refine g_aload_n F d_M_store_115 4 rfl ?_
    refine g_getR F fs_8_7 hq.1 rfl d_M_store_116 ?_
    refine g_iload F d_M_store_119 0 rfl ?_
    refine g_iconst F (v := 2) d_M_store_121 (by decide) ?_
    refine g_iadd F d_M_store_122 ?_
    refine g_aload_n F d_M_store_123 4 rfl ?_
    refine g_iload_n F d_M_store_124 3 rfl ?_
    refine g_bipush F (v := 9) d_M_store_125 (by decide) ?_
    refine g_callV F (dp := 0) (ci := 8) (As := [.int r1, .int (9 : Int32)]) (c_M_sensor0 l _ _ _ hq _) cv_8_54 hq.1 rfl rfl rfl (Nat.le_of_ble_eq_true rfl) ⟨Nat.le_of_ble_eq_true rfl, Nat.le_of_ble_eq_true rfl⟩ ⟨Nat.zero_le _, Nat.zero_le _⟩ d_M_store_127 (fun r27 σ28 h12 => ?_)
    refine g_iast F (n := 481) hq.2.1 d_M_store_130 ?_
    refine g_ltM (fun σ29 _ => ?_)
    refine g_aload_n F d_M_store_131 4 rfl ?_
    refine g_getR F fs_8_7 hq.1 rfl d_M_store_132 ?_
    refine g_iconst F (v := 3) d_M_store_135 (by decide) ?_
    refine g_dup2 F d_M_store_136 rfl rfl ?_
    refine g_ialdC F (n := 481) 3 (by decide) (by decide) hq.2.1 d_M_store_137 ?_
    refine g_iconst F (v := 1) d_M_store_138 (by decide) ?_
    refine g_iadd F d_M_store_139 ?_
    refine g_iastC F (n := 481) 3 (by decide) (by decide) hq.2.1 d_M_store_140 ?_
    refine g_ltM (fun σ30 _ => ?_)
    exact g_vret F hlk hr d_M_store_141
  exact g_vret F hlk hr d_M_store_55
def y_M_tick : MethodName := ⟨"SensorHubModel", "tick", "()V"⟩
theorem d_M_tick_0 : decode prog_10_method_30_code 0 = .ok (.aload_n 0, 1) := by decide +kernel
theorem d_M_tick_1 : decode prog_10_method_30_code 1 = .ok (.getfield 7, 3) := by decide +kernel
theorem d_M_tick_4 : decode prog_10_method_30_code 4 = .ok (.iconst 0, 1) := by decide +kernel
theorem d_M_tick_5 : decode prog_10_method_30_code 5 = .ok (.dup2, 1) := by decide +kernel
theorem d_M_tick_6 : decode prog_10_method_30_code 6 = .ok (.iaload, 1) := by decide +kernel
theorem d_M_tick_7 : decode prog_10_method_30_code 7 = .ok (.iconst 1, 1) := by decide +kernel
theorem d_M_tick_8 : decode prog_10_method_30_code 8 = .ok (.iadd, 1) := by decide +kernel
theorem d_M_tick_9 : decode prog_10_method_30_code 9 = .ok (.iastore, 1) := by decide +kernel
theorem d_M_tick_10 : decode prog_10_method_30_code 10 = .ok (.iconst 0, 1) := by decide +kernel
theorem d_M_tick_11 : decode prog_10_method_30_code 11 = .ok (.istore_n 1, 1) := by decide +kernel
theorem d_M_tick_12 : decode prog_10_method_30_code 12 = .ok (.iload_n 1, 1) := by decide +kernel
theorem d_M_tick_13 : decode prog_10_method_30_code 13 = .ok (.aload_n 0, 1) := by decide +kernel
theorem d_M_tick_14 : decode prog_10_method_30_code 14 = .ok (.getfield 7, 3) := by decide +kernel
theorem d_M_tick_17 : decode prog_10_method_30_code 17 = .ok (.iconst 1, 1) := by decide +kernel
theorem d_M_tick_18 : decode prog_10_method_30_code 18 = .ok (.iaload, 1) := by decide +kernel
theorem d_M_tick_19 : decode prog_10_method_30_code 19 = .ok (.if_icmp .ge 61, 3) := by decide +kernel
theorem d_M_tick_22 : decode prog_10_method_30_code 22 = .ok (.aload_n 0, 1) := by decide +kernel
theorem d_M_tick_23 : decode prog_10_method_30_code 23 = .ok (.getfield 31, 3) := by decide +kernel
theorem d_M_tick_26 : decode prog_10_method_30_code 26 = .ok (.iload_n 1, 1) := by decide +kernel
theorem d_M_tick_27 : decode prog_10_method_30_code 27 = .ok (.iconst 0, 1) := by decide +kernel
theorem d_M_tick_28 : decode prog_10_method_30_code 28 = .ok (.bastore, 1) := by decide +kernel
theorem d_M_tick_29 : decode prog_10_method_30_code 29 = .ok (.aload_n 0, 1) := by decide +kernel
theorem d_M_tick_30 : decode prog_10_method_30_code 30 = .ok (.getfield 25, 3) := by decide +kernel
theorem d_M_tick_33 : decode prog_10_method_30_code 33 = .ok (.iload_n 1, 1) := by decide +kernel
theorem d_M_tick_34 : decode prog_10_method_30_code 34 = .ok (.iaload, 1) := by decide +kernel
theorem d_M_tick_35 : decode prog_10_method_30_code 35 = .ok (.bipush (-9), 2) := by decide +kernel
theorem d_M_tick_37 : decode prog_10_method_30_code 37 = .ok (.if_icmp .eq 21, 3) := by decide +kernel
theorem d_M_tick_40 : decode prog_10_method_30_code 40 = .ok (.aload_n 0, 1) := by decide +kernel
theorem d_M_tick_41 : decode prog_10_method_30_code 41 = .ok (.iload_n 1, 1) := by decide +kernel
theorem d_M_tick_42 : decode prog_10_method_30_code 42 = .ok (.iconst 0, 1) := by decide +kernel
theorem d_M_tick_43 : decode prog_10_method_30_code 43 = .ok (.invokevirtual 54, 3) := by decide +kernel
theorem d_M_tick_46 : decode prog_10_method_30_code 46 = .ok (.iconst 4, 1) := by decide +kernel
theorem d_M_tick_47 : decode prog_10_method_30_code 47 = .ok (.if_icmp .ne 11, 3) := by decide +kernel
theorem d_M_tick_50 : decode prog_10_method_30_code 50 = .ok (.aload_n 0, 1) := by decide +kernel
theorem d_M_tick_51 : decode prog_10_method_30_code 51 = .ok (.iload_n 1, 1) := by decide +kernel
theorem d_M_tick_52 : decode prog_10_method_30_code 52 = .ok (.invokevirtual 101, 3) := by decide +kernel
theorem d_M_tick_55 : decode prog_10_method_30_code 55 = .ok (.goto 19, 3) := by decide +kernel
theorem d_M_tick_58 : decode prog_10_method_30_code 58 = .ok (.aload_n 0, 1) := by decide +kernel
theorem d_M_tick_59 : decode prog_10_method_30_code 59 = .ok (.getfield 25, 3) := by decide +kernel
theorem d_M_tick_62 : decode prog_10_method_30_code 62 = .ok (.iload_n 1, 1) := by decide +kernel
theorem d_M_tick_63 : decode prog_10_method_30_code 63 = .ok (.iaload, 1) := by decide +kernel
theorem d_M_tick_64 : decode prog_10_method_30_code 64 = .ok (.bipush (-9), 2) := by decide +kernel
theorem d_M_tick_66 : decode prog_10_method_30_code 66 = .ok (.if_icmp .eq 8, 3) := by decide +kernel
theorem d_M_tick_69 : decode prog_10_method_30_code 69 = .ok (.aload_n 0, 1) := by decide +kernel
theorem d_M_tick_70 : decode prog_10_method_30_code 70 = .ok (.iload_n 1, 1) := by decide +kernel
theorem d_M_tick_71 : decode prog_10_method_30_code 71 = .ok (.invokevirtual 104, 3) := by decide +kernel
theorem d_M_tick_74 : decode prog_10_method_30_code 74 = .ok (.iinc 1 1, 3) := by decide +kernel
theorem d_M_tick_77 : decode prog_10_method_30_code 77 = .ok (.goto (-65), 3) := by decide +kernel
theorem d_M_tick_80 : decode prog_10_method_30_code 80 = .ok (.iconst 0, 1) := by decide +kernel
theorem d_M_tick_81 : decode prog_10_method_30_code 81 = .ok (.istore_n 1, 1) := by decide +kernel
theorem d_M_tick_82 : decode prog_10_method_30_code 82 = .ok (.iload_n 1, 1) := by decide +kernel
theorem d_M_tick_83 : decode prog_10_method_30_code 83 = .ok (.bipush 8, 2) := by decide +kernel
theorem d_M_tick_85 : decode prog_10_method_30_code 85 = .ok (.if_icmp .ge 38, 3) := by decide +kernel
theorem d_M_tick_88 : decode prog_10_method_30_code 88 = .ok (.aload_n 0, 1) := by decide +kernel
theorem d_M_tick_89 : decode prog_10_method_30_code 89 = .ok (.iload_n 1, 1) := by decide +kernel
theorem d_M_tick_90 : decode prog_10_method_30_code 90 = .ok (.iconst 0, 1) := by decide +kernel
theorem d_M_tick_91 : decode prog_10_method_30_code 91 = .ok (.invokevirtual 46, 3) := by decide +kernel
theorem d_M_tick_94 : decode prog_10_method_30_code 94 = .ok (.iconst 1, 1) := by decide +kernel
theorem d_M_tick_95 : decode prog_10_method_30_code 95 = .ok (.if_icmp .ne 22, 3) := by decide +kernel
theorem d_M_tick_98 : decode prog_10_method_30_code 98 = .ok (.aload_n 0, 1) := by decide +kernel
theorem d_M_tick_99 : decode prog_10_method_30_code 99 = .ok (.getfield 31, 3) := by decide +kernel
theorem d_M_tick_102 : decode prog_10_method_30_code 102 = .ok (.aload_n 0, 1) := by decide +kernel
theorem d_M_tick_103 : decode prog_10_method_30_code 103 = .ok (.iload_n 1, 1) := by decide +kernel
theorem d_M_tick_104 : decode prog_10_method_30_code 104 = .ok (.iconst 1, 1) := by decide +kernel
theorem d_M_tick_105 : decode prog_10_method_30_code 105 = .ok (.invokevirtual 46, 3) := by decide +kernel
theorem d_M_tick_108 : decode prog_10_method_30_code 108 = .ok (.baload, 1) := by decide +kernel
theorem d_M_tick_109 : decode prog_10_method_30_code 109 = .ok (.ifCond .eq 8, 3) := by decide +kernel
theorem d_M_tick_112 : decode prog_10_method_30_code 112 = .ok (.aload_n 0, 1) := by decide +kernel
theorem d_M_tick_113 : decode prog_10_method_30_code 113 = .ok (.iload_n 1, 1) := by decide +kernel
theorem d_M_tick_114 : decode prog_10_method_30_code 114 = .ok (.invokevirtual 107, 3) := by decide +kernel
theorem d_M_tick_117 : decode prog_10_method_30_code 117 = .ok (.iinc 1 1, 3) := by decide +kernel
theorem d_M_tick_120 : decode prog_10_method_30_code 120 = .ok (.goto (-38), 3) := by decide +kernel
theorem d_M_tick_123 : decode prog_10_method_30_code 123 = .ok (.iconst 0, 1) := by decide +kernel
theorem d_M_tick_124 : decode prog_10_method_30_code 124 = .ok (.istore_n 1, 1) := by decide +kernel
theorem d_M_tick_125 : decode prog_10_method_30_code 125 = .ok (.iload_n 1, 1) := by decide +kernel
theorem d_M_tick_126 : decode prog_10_method_30_code 126 = .ok (.aload_n 0, 1) := by decide +kernel
theorem d_M_tick_127 : decode prog_10_method_30_code 127 = .ok (.getfield 7, 3) := by decide +kernel
theorem d_M_tick_130 : decode prog_10_method_30_code 130 = .ok (.iconst 3, 1) := by decide +kernel
theorem d_M_tick_131 : decode prog_10_method_30_code 131 = .ok (.iaload, 1) := by decide +kernel
theorem d_M_tick_132 : decode prog_10_method_30_code 132 = .ok (.if_icmp .ge 64, 3) := by decide +kernel
theorem d_M_tick_135 : decode prog_10_method_30_code 135 = .ok (.aload_n 0, 1) := by decide +kernel
theorem d_M_tick_136 : decode prog_10_method_30_code 136 = .ok (.iload_n 1, 1) := by decide +kernel
theorem d_M_tick_137 : decode prog_10_method_30_code 137 = .ok (.iconst 0, 1) := by decide +kernel
theorem d_M_tick_138 : decode prog_10_method_30_code 138 = .ok (.invokevirtual 77, 3) := by decide +kernel
theorem d_M_tick_141 : decode prog_10_method_30_code 141 = .ok (.istore_n 2, 1) := by decide +kernel
theorem d_M_tick_142 : decode prog_10_method_30_code 142 = .ok (.aload_n 0, 1) := by decide +kernel
theorem d_M_tick_143 : decode prog_10_method_30_code 143 = .ok (.iload_n 1, 1) := by decide +kernel
theorem d_M_tick_144 : decode prog_10_method_30_code 144 = .ok (.iconst 1, 1) := by decide +kernel
theorem d_M_tick_145 : decode prog_10_method_30_code 145 = .ok (.invokevirtual 77, 3) := by decide +kernel
theorem d_M_tick_148 : decode prog_10_method_30_code 148 = .ok (.aload_n 0, 1) := by decide +kernel
theorem d_M_tick_149 : decode prog_10_method_30_code 149 = .ok (.iload_n 2, 1) := by decide +kernel
theorem d_M_tick_150 : decode prog_10_method_30_code 150 = .ok (.iconst 3, 1) := by decide +kernel
theorem d_M_tick_151 : decode prog_10_method_30_code 151 = .ok (.invokevirtual 46, 3) := by decide +kernel
theorem d_M_tick_154 : decode prog_10_method_30_code 154 = .ok (.iadd, 1) := by decide +kernel
theorem d_M_tick_155 : decode prog_10_method_30_code 155 = .ok (.aload_n 0, 1) := by decide +kernel
theorem d_M_tick_156 : decode prog_10_method_30_code 156 = .ok (.getfield 7, 3) := by decide +kernel
theorem d_M_tick_159 : decode prog_10_method_30_code 159 = .ok (.iconst 0, 1) := by decide +kernel
theorem d_M_tick_160 : decode prog_10_method_30_code 160 = .ok (.iaload, 1) := by decide +kernel
theorem d_M_tick_161 : decode prog_10_method_30_code 161 = .ok (.if_icmp .gt 29, 3) := by decide +kernel
theorem d_M_tick_164 : decode prog_10_method_30_code 164 = .ok (.aload_n 0, 1) := by decide +kernel
theorem d_M_tick_165 : decode prog_10_method_30_code 165 = .ok (.getfield 7, 3) := by decide +kernel
theorem d_M_tick_168 : decode prog_10_method_30_code 168 = .ok (.sipush 163, 3) := by decide +kernel
theorem d_M_tick_171 : decode prog_10_method_30_code 171 = .ok (.bipush 27, 2) := by decide +kernel
theorem d_M_tick_173 : decode prog_10_method_30_code 173 = .ok (.iload_n 2, 1) := by decide +kernel
theorem d_M_tick_174 : decode prog_10_method_30_code 174 = .ok (.imul, 1) := by decide +kernel
theorem d_M_tick_175 : decode prog_10_method_30_code 175 = .ok (.iadd, 1) := by decide +kernel
theorem d_M_tick_176 : decode prog_10_method_30_code 176 = .ok (.bipush 8, 2) := by decide +kernel
theorem d_M_tick_178 : decode prog_10_method_30_code 178 = .ok (.iadd, 1) := by decide +kernel
theorem d_M_tick_179 : decode prog_10_method_30_code 179 = .ok (.dup2, 1) := by decide +kernel
theorem d_M_tick_180 : decode prog_10_method_30_code 180 = .ok (.iaload, 1) := by decide +kernel
theorem d_M_tick_181 : decode prog_10_method_30_code 181 = .ok (.iconst 1, 1) := by decide +kernel
theorem d_M_tick_182 : decode prog_10_method_30_code 182 = .ok (.iadd, 1) := by decide +kernel
theorem d_M_tick_183 : decode prog_10_method_30_code 183 = .ok (.iastore, 1) := by decide +kernel
theorem d_M_tick_184 : decode prog_10_method_30_code 184 = .ok (.aload_n 0, 1) := by decide +kernel
theorem d_M_tick_185 : decode prog_10_method_30_code 185 = .ok (.iconst 0, 1) := by decide +kernel
theorem d_M_tick_186 : decode prog_10_method_30_code 186 = .ok (.invokevirtual 98, 3) := by decide +kernel
theorem d_M_tick_189 : decode prog_10_method_30_code 189 = .ok (.pop, 1) := by decide +kernel
theorem d_M_tick_190 : decode prog_10_method_30_code 190 = .ok (.iinc 1 1, 3) := by decide +kernel
theorem d_M_tick_193 : decode prog_10_method_30_code 193 = .ok (.goto (-68), 3) := by decide +kernel
theorem d_M_tick_196 : decode prog_10_method_30_code 196 = .ok (.return_, 1) := by decide +kernel
theorem cv_8_104 : CSV "SensorHubModel" 104 y_M_tickDerived prog_10_method_28_code 8 none 1 := ⟨gw_I 1143 (by decide +kernel) rfl, gw_I 1145 (by decide +kernel) rfl, gw_I 64 (by decide +kernel) rfl, gw_I 78 (by decide +kernel) rfl, gw_I 1146 (by decide +kernel) rfl, ⟨by decide +kernel, by decide +kernel⟩, by decide +kernel⟩
theorem cv_8_101 : CSV "SensorHubModel" 101 y_M_tickPhysical prog_10_method_26_code 9 none 1 := ⟨gw_I 1128 (by decide +kernel) rfl, gw_I 1130 (by decide +kernel) rfl, gw_I 61 (by decide +kernel) rfl, gw_I 78 (by decide +kernel) rfl, gw_I 1131 (by decide +kernel) rfl, ⟨by decide +kernel, by decide +kernel⟩, by decide +kernel⟩
theorem cv_8_107 : CSV "SensorHubModel" 107 y_M_store prog_10_method_29_code 6 none 1 := ⟨gw_I 1151 (by decide +kernel) rfl, gw_I 1153 (by decide +kernel) rfl, gw_I 66 (by decide +kernel) rfl, gw_I 78 (by decide +kernel) rfl, gw_I 1154 (by decide +kernel) rfl, ⟨by decide +kernel, by decide +kernel⟩, by decide +kernel⟩
def L_M_tick_12 (r0 : Nat) (k : Mem → Option (Unit × Mem)) : Nat → Int32 → Mem → Option (Unit × Mem)
  | 0, _, _ => none
  | n + 1, x1, σ =>
    if (σ (r0 + 1) 1) ≤ x1 then
      k σ
    else
      if ib x1 8 then
        lt (wr σ (r0 + 8) x1.toNatClampNeg ((0 : Int32) &&& 1)) fun σ2 =>
        if ib x1 8 then
          if (σ2 (r0 + 6) x1.toNatClampNeg) = (-9 : Int32) then
            if ib x1 8 then
              if (σ2 (r0 + 6) x1.toNatClampNeg) = (-9 : Int32) then
                L_M_tick_12 r0 k n (x1 + 1) σ2
              else
                bd (f_M_tickDerived r0 x1 σ2) fun _ σ4 =>
                L_M_tick_12 r0 k n (x1 + 1) σ4
            else none
          else
            bd (f_M_sensor0 r0 x1 (0 : Int32) σ2) fun r5 σ6 =>
            if r5 = (4 : Int32) then
              bd (f_M_tickPhysical r0 x1 σ6) fun _ σ8 =>
              L_M_tick_12 r0 k n (x1 + 1) σ8
            else
              if ib x1 8 then
                if (σ6 (r0 + 6) x1.toNatClampNeg) = (-9 : Int32) then
                  L_M_tick_12 r0 k n (x1 + 1) σ6
                else
                  bd (f_M_tickDerived r0 x1 σ6) fun _ σ10 =>
                  L_M_tick_12 r0 k n (x1 + 1) σ10
              else none
        else none
      else none
def L_M_tick_82 (r0 : Nat) (k : Mem → Option (Unit × Mem)) : Nat → Int32 → Mem → Option (Unit × Mem)
  | 0, _, _ => none
  | n + 1, x1, σ =>
    if (8 : Int32) ≤ x1 then
      k σ
    else
      bd (f_M_client0 r0 x1 (0 : Int32) σ) fun r12 σ13 =>
      if r12 = (1 : Int32) then
        bd (f_M_client0 r0 x1 (1 : Int32) σ13) fun r14 σ15 =>
        if ib r14 8 then
          if (σ15 (r0 + 8) r14.toNatClampNeg) = 0 then
            L_M_tick_82 r0 k n (x1 + 1) σ15
          else
            bd (f_M_store r0 x1 σ15) fun _ σ17 =>
            L_M_tick_82 r0 k n (x1 + 1) σ17
        else none
      else
        L_M_tick_82 r0 k n (x1 + 1) σ13
def L_M_tick_125 (r0 : Nat) (k : Mem → Option (Unit × Mem)) : Nat → Int32 → Mem → Option (Unit × Mem)
  | 0, _, _ => none
  | n + 1, x1, σ =>
    if (σ (r0 + 1) 3) ≤ x1 then
      k σ
    else
      bd (f_M_entryPart r0 x1 (0 : Int32) σ) fun r19 σ20 =>
      bd (f_M_entryPart r0 x1 (1 : Int32) σ20) fun r21 σ22 =>
      bd (f_M_client0 r0 r19 (3 : Int32) σ22) fun r23 σ24 =>
      if (σ24 (r0 + 1) 0) < (r21 + r23) then
        L_M_tick_125 r0 k n (x1 + 1) σ24
      else
        if ib (((163 : Int32) + ((27 : Int32) * r19)) + (8 : Int32)) 481 then
          lt (σ24 (r0 + 1) (((163 : Int32) + ((27 : Int32) * r19)) + (8 : Int32)).toNatClampNeg) fun v25 =>
          if ib (((163 : Int32) + ((27 : Int32) * r19)) + (8 : Int32)) 481 then
            lt (wr σ24 (r0 + 1) (((163 : Int32) + ((27 : Int32) * r19)) + (8 : Int32)).toNatClampNeg (v25 + (1 : Int32))) fun σ26 =>
            bd (f_M_wake r0 (0 : Int32) σ26) fun r27 σ28 =>
            L_M_tick_125 r0 k n (x1 + 1) σ28
          else none
        else none
def f_M_tick (q : Nat) (σ : Mem) : Option (Unit × Mem) :=
  lt (wr σ (q + 1) 0 ((σ (q + 1) 0) + (1 : Int32))) fun σ1 =>
  L_M_tick_12 q (fun σ11 =>
    L_M_tick_82 q (fun σ18 =>
      L_M_tick_125 q (fun σ29 =>
        some ((), σ29)) FU (0 : Int32) σ18) FU (0 : Int32) σ11) FU (0 : Int32) σ1
set_option maxRecDepth 100000 in
set_option maxHeartbeats 4000000 in
theorem l_L_M_tick_12 {X : CX} {p : Program} {l : Launch} {e : Env} {s : State} {m : MethodId} {args : Array Value} {below : List Frame} {meth : Method} {c : Code} (F : FR p s m args c prog_10_method_30_code 3 "SensorHubModel" X) (hlk : meth.locks = false) (hr : meth.sig.returnType = none) (r0 : Nat) (hr0 : ModelOK X r0) (k : Mem → Option (Unit × Mem)) (hk : ∀  (σ : Mem), G X p l e (rmD 4) s m args below meth c 3 0 0 (QI X below args s vU) 80 [(0, .ref (xa X r0))] [] σ (k σ)) : ∀ (n : Nat) (x1 : Int32) (σ : Mem), G X p l e (rmD 4) s m args below meth c 3 0 0 (QI X below args s vU) 12 [(0, .ref (xa X r0)), (1, .int x1)] [] σ (L_M_tick_12 r0 k n x1 σ) := by
  intro n
  induction n with
  | zero => intros; exact g_no
  | succ n ih =>
    intro x1 σ
    unfold L_M_tick_12
    refine g_iload_n F d_M_tick_12 1 rfl ?_
    refine g_aload_n F d_M_tick_13 0 rfl ?_
    refine g_getR F fs_8_7 hr0.1 rfl d_M_tick_14 ?_
    refine g_iconst F (v := 1) d_M_tick_17 (by decide) ?_
    refine g_ialdC F (n := 481) 1 (by decide) (by decide) hr0.2.1 d_M_tick_18 ?_
    refine g_icmp_ge F (tgt := 80) d_M_tick_19 (by decide) (fun h1 => ?_) (fun h2 => ?_)
    · exact g_sub [0] rfl (hk  _)
    refine g_aload_n F d_M_tick_22 0 rfl ?_
    refine g_getR F fs_8_31 hr0.1 rfl d_M_tick_23 ?_
    refine g_iload_n F d_M_tick_26 1 rfl ?_
    refine g_iconst F (v := 0) d_M_tick_27 (by decide) ?_
    refine g_zast F hr0.2.2.2.2.2.2.2.2 d_M_tick_28 ?_
    refine g_ltM (fun σ2 _ => ?_)
    refine g_aload_n F d_M_tick_29 0 rfl ?_
    refine g_getR F fs_8_25 hr0.1 rfl d_M_tick_30 ?_
    refine g_iload_n F d_M_tick_33 1 rfl ?_
    refine g_iald F (n := 8) hr0.2.2.2.2.2.2.1 d_M_tick_34 ?_
    refine g_bipush F (v := (-9)) d_M_tick_35 (by decide) ?_
    refine g_icmp_eq F (tgt := 58) d_M_tick_37 (by decide) (fun h3 => ?_) (fun h4 => ?_)
    · refine g_aload_n F d_M_tick_58 0 rfl ?_
      refine g_getR F fs_8_25 hr0.1 rfl d_M_tick_59 ?_
      refine g_iload_n F d_M_tick_62 1 rfl ?_
      refine g_iald F (n := 8) hr0.2.2.2.2.2.2.1 d_M_tick_63 ?_
      refine g_bipush F (v := (-9)) d_M_tick_64 (by decide) ?_
      refine g_icmp_eq F (tgt := 74) d_M_tick_66 (by decide) (fun h5 => ?_) (fun h6 => ?_)
      · refine g_iinc F (v := 1) (ls' := [(1, .int (x1 + 1)), (0, .ref (xa X r0))]) d_M_tick_74 1 rfl (by decide) (by decide) rfl ?_
        refine g_goto F (tgt := 12) d_M_tick_77 (by decide) ?_
        exact g_sub [1, 0] rfl (ih _ _)
      refine g_aload_n F d_M_tick_69 0 rfl ?_
      refine g_iload_n F d_M_tick_70 1 rfl ?_
      refine g_callV F (dp := 2) (ci := 8) (As := [.int x1]) (c_M_tickDerived l _ _ hr0 _) cv_8_104 hr0.1 rfl rfl rfl (Nat.le_of_ble_eq_true rfl) ⟨Nat.le_of_ble_eq_true rfl, Nat.le_of_ble_eq_true rfl⟩ ⟨Nat.zero_le _, Nat.zero_le _⟩ d_M_tick_71 (fun _ σ4 h7 => ?_)
      refine g_iinc F (v := 1) (ls' := [(1, .int (x1 + 1)), (0, .ref (xa X r0))]) d_M_tick_74 1 rfl (by decide) (by decide) rfl ?_
      refine g_goto F (tgt := 12) d_M_tick_77 (by decide) ?_
      exact g_sub [1, 0] rfl (ih _ _)
    refine g_aload_n F d_M_tick_40 0 rfl ?_
    refine g_iload_n F d_M_tick_41 1 rfl ?_
    refine g_iconst F (v := 0) d_M_tick_42 (by decide) ?_
    refine g_callV F (dp := 0) (ci := 8) (As := [.int x1, .int (0 : Int32)]) (c_M_sensor0 l _ _ _ hr0 _) cv_8_54 hr0.1 rfl rfl rfl (Nat.le_of_ble_eq_true rfl) ⟨Nat.le_of_ble_eq_true rfl, Nat.le_of_ble_eq_true rfl⟩ ⟨Nat.zero_le _, Nat.zero_le _⟩ d_M_tick_43 (fun r5 σ6 h8 => ?_)
    refine g_iconst F (v := 4) d_M_tick_46 (by decide) ?_
    refine g_icmp_ne F (tgt := 58) d_M_tick_47 (by decide) (fun h9 => ?_) (fun h10 => ?_)
    · refine g_aload_n F d_M_tick_50 0 rfl ?_
      refine g_iload_n F d_M_tick_51 1 rfl ?_
      refine g_callV F (dp := 2) (ci := 8) (As := [.int x1]) (c_M_tickPhysical l _ _ hr0 _) cv_8_101 hr0.1 rfl rfl rfl (Nat.le_of_ble_eq_true rfl) ⟨Nat.le_of_ble_eq_true rfl, Nat.le_of_ble_eq_true rfl⟩ ⟨Nat.zero_le _, Nat.zero_le _⟩ d_M_tick_52 (fun _ σ8 h11 => ?_)
      refine g_goto F (tgt := 74) d_M_tick_55 (by decide) ?_
      refine g_iinc F (v := 1) (ls' := [(1, .int (x1 + 1)), (0, .ref (xa X r0))]) d_M_tick_74 1 rfl (by decide) (by decide) rfl ?_
      refine g_goto F (tgt := 12) d_M_tick_77 (by decide) ?_
      exact g_sub [1, 0] rfl (ih _ _)
    refine g_aload_n F d_M_tick_58 0 rfl ?_
    refine g_getR F fs_8_25 hr0.1 rfl d_M_tick_59 ?_
    refine g_iload_n F d_M_tick_62 1 rfl ?_
    refine g_iald F (n := 8) hr0.2.2.2.2.2.2.1 d_M_tick_63 ?_
    refine g_bipush F (v := (-9)) d_M_tick_64 (by decide) ?_
    refine g_icmp_eq F (tgt := 74) d_M_tick_66 (by decide) (fun h12 => ?_) (fun h13 => ?_)
    · refine g_iinc F (v := 1) (ls' := [(1, .int (x1 + 1)), (0, .ref (xa X r0))]) d_M_tick_74 1 rfl (by decide) (by decide) rfl ?_
      refine g_goto F (tgt := 12) d_M_tick_77 (by decide) ?_
      exact g_sub [1, 0] rfl (ih _ _)
    refine g_aload_n F d_M_tick_69 0 rfl ?_
    refine g_iload_n F d_M_tick_70 1 rfl ?_
    refine g_callV F (dp := 2) (ci := 8) (As := [.int x1]) (c_M_tickDerived l _ _ hr0 _) cv_8_104 hr0.1 rfl rfl rfl (Nat.le_of_ble_eq_true rfl) ⟨Nat.le_of_ble_eq_true rfl, Nat.le_of_ble_eq_true rfl⟩ ⟨Nat.zero_le _, Nat.zero_le _⟩ d_M_tick_71 (fun _ σ10 h14 => ?_)
    refine g_iinc F (v := 1) (ls' := [(1, .int (x1 + 1)), (0, .ref (xa X r0))]) d_M_tick_74 1 rfl (by decide) (by decide) rfl ?_
    refine g_goto F (tgt := 12) d_M_tick_77 (by decide) ?_
    exact g_sub [1, 0] rfl (ih _ _)
set_option maxRecDepth 100000 in
set_option maxHeartbeats 4000000 in
theorem l_L_M_tick_82 {X : CX} {p : Program} {l : Launch} {e : Env} {s : State} {m : MethodId} {args : Array Value} {below : List Frame} {meth : Method} {c : Code} (F : FR p s m args c prog_10_method_30_code 3 "SensorHubModel" X) (hlk : meth.locks = false) (hr : meth.sig.returnType = none) (r0 : Nat) (hr0 : ModelOK X r0) (k : Mem → Option (Unit × Mem)) (hk : ∀  (σ : Mem), G X p l e (rmD 4) s m args below meth c 3 0 0 (QI X below args s vU) 123 [(0, .ref (xa X r0))] [] σ (k σ)) : ∀ (n : Nat) (x1 : Int32) (σ : Mem), G X p l e (rmD 4) s m args below meth c 3 0 0 (QI X below args s vU) 82 [(0, .ref (xa X r0)), (1, .int x1)] [] σ (L_M_tick_82 r0 k n x1 σ) := by
  intro n
  induction n with
  | zero => intros; exact g_no
  | succ n ih =>
    intro x1 σ
    unfold L_M_tick_82
    refine g_iload_n F d_M_tick_82 1 rfl ?_
    refine g_bipush F (v := 8) d_M_tick_83 (by decide) ?_
    refine g_icmp_ge F (tgt := 123) d_M_tick_85 (by decide) (fun h15 => ?_) (fun h16 => ?_)
    · exact g_sub [0] rfl (hk  _)
    refine g_aload_n F d_M_tick_88 0 rfl ?_
    refine g_iload_n F d_M_tick_89 1 rfl ?_
    refine g_iconst F (v := 0) d_M_tick_90 (by decide) ?_
    refine g_callV F (dp := 0) (ci := 8) (As := [.int x1, .int (0 : Int32)]) (c_M_client0 l _ _ _ hr0 _) cv_8_46 hr0.1 rfl rfl rfl (Nat.le_of_ble_eq_true rfl) ⟨Nat.le_of_ble_eq_true rfl, Nat.le_of_ble_eq_true rfl⟩ ⟨Nat.zero_le _, Nat.zero_le _⟩ d_M_tick_91 (fun r12 σ13 h17 => ?_)
    refine g_iconst F (v := 1) d_M_tick_94 (by decide) ?_
    refine g_icmp_ne F (tgt := 117) d_M_tick_95 (by decide) (fun h18 => ?_) (fun h19 => ?_)
    · refine g_aload_n F d_M_tick_98 0 rfl ?_
      refine g_getR F fs_8_31 hr0.1 rfl d_M_tick_99 ?_
      refine g_aload_n F d_M_tick_102 0 rfl ?_
      refine g_iload_n F d_M_tick_103 1 rfl ?_
      refine g_iconst F (v := 1) d_M_tick_104 (by decide) ?_
      refine g_callV F (dp := 0) (ci := 8) (As := [.int x1, .int (1 : Int32)]) (c_M_client0 l _ _ _ hr0 _) cv_8_46 hr0.1 rfl rfl rfl (Nat.le_of_ble_eq_true rfl) ⟨Nat.le_of_ble_eq_true rfl, Nat.le_of_ble_eq_true rfl⟩ ⟨Nat.zero_le _, Nat.zero_le _⟩ d_M_tick_105 (fun r14 σ15 h20 => ?_)
      refine g_zald F hr0.2.2.2.2.2.2.2.2 d_M_tick_108 ?_
      refine g_if_eq F (tgt := 117) d_M_tick_109 (by decide) (fun h21 => ?_) (fun h22 => ?_)
      · refine g_iinc F (v := 1) (ls' := [(1, .int (x1 + 1)), (0, .ref (xa X r0))]) d_M_tick_117 1 rfl (by decide) (by decide) rfl ?_
        refine g_goto F (tgt := 82) d_M_tick_120 (by decide) ?_
        exact g_sub [1, 0] rfl (ih _ _)
      refine g_aload_n F d_M_tick_112 0 rfl ?_
      refine g_iload_n F d_M_tick_113 1 rfl ?_
      refine g_callV F (dp := 3) (ci := 8) (As := [.int x1]) (c_M_store l _ _ hr0 _) cv_8_107 hr0.1 rfl rfl rfl (Nat.le_of_ble_eq_true rfl) ⟨Nat.le_of_ble_eq_true rfl, Nat.le_of_ble_eq_true rfl⟩ ⟨Nat.zero_le _, Nat.zero_le _⟩ d_M_tick_114 (fun _ σ17 h23 => ?_)
      refine g_iinc F (v := 1) (ls' := [(1, .int (x1 + 1)), (0, .ref (xa X r0))]) d_M_tick_117 1 rfl (by decide) (by decide) rfl ?_
      refine g_goto F (tgt := 82) d_M_tick_120 (by decide) ?_
      exact g_sub [1, 0] rfl (ih _ _)
    refine g_iinc F (v := 1) (ls' := [(1, .int (x1 + 1)), (0, .ref (xa X r0))]) d_M_tick_117 1 rfl (by decide) (by decide) rfl ?_
    refine g_goto F (tgt := 82) d_M_tick_120 (by decide) ?_
    exact g_sub [1, 0] rfl (ih _ _)
set_option maxRecDepth 100000 in
set_option maxHeartbeats 4000000 in
theorem l_L_M_tick_125 {X : CX} {p : Program} {l : Launch} {e : Env} {s : State} {m : MethodId} {args : Array Value} {below : List Frame} {meth : Method} {c : Code} (F : FR p s m args c prog_10_method_30_code 3 "SensorHubModel" X) (hlk : meth.locks = false) (hr : meth.sig.returnType = none) (r0 : Nat) (hr0 : ModelOK X r0) (k : Mem → Option (Unit × Mem)) (hk : ∀  (σ : Mem), G X p l e (rmD 4) s m args below meth c 3 0 0 (QI X below args s vU) 196 [] [] σ (k σ)) : ∀ (n : Nat) (x1 : Int32) (σ : Mem), G X p l e (rmD 4) s m args below meth c 3 0 0 (QI X below args s vU) 125 [(0, .ref (xa X r0)), (1, .int x1)] [] σ (L_M_tick_125 r0 k n x1 σ) := by
  intro n
  induction n with
  | zero => intros; exact g_no
  | succ n ih =>
    intro x1 σ
    unfold L_M_tick_125
    refine g_iload_n F d_M_tick_125 1 rfl ?_
    refine g_aload_n F d_M_tick_126 0 rfl ?_
    refine g_getR F fs_8_7 hr0.1 rfl d_M_tick_127 ?_
    refine g_iconst F (v := 3) d_M_tick_130 (by decide) ?_
    refine g_ialdC F (n := 481) 3 (by decide) (by decide) hr0.2.1 d_M_tick_131 ?_
    refine g_icmp_ge F (tgt := 196) d_M_tick_132 (by decide) (fun h24 => ?_) (fun h25 => ?_)
    · exact g_sub [] rfl (hk  _)
    refine g_aload_n F d_M_tick_135 0 rfl ?_
    refine g_iload_n F d_M_tick_136 1 rfl ?_
    refine g_iconst F (v := 0) d_M_tick_137 (by decide) ?_
    refine g_callV F (dp := 0) (ci := 8) (As := [.int x1, .int (0 : Int32)]) (c_M_entryPart l _ _ _ hr0 _) cv_8_77 hr0.1 rfl rfl rfl (Nat.le_of_ble_eq_true rfl) ⟨Nat.le_of_ble_eq_true rfl, Nat.le_of_ble_eq_true rfl⟩ ⟨Nat.zero_le _, Nat.zero_le _⟩ d_M_tick_138 (fun r19 σ20 h26 => ?_)
    refine g_istore_n F (ls' := [(2, .int r19), (0, .ref (xa X r0)), (1, .int x1)]) d_M_tick_141 (by decide) rfl ?_
    refine g_aload_n F d_M_tick_142 1 rfl ?_
    refine g_iload_n F d_M_tick_143 2 rfl ?_
    refine g_iconst F (v := 1) d_M_tick_144 (by decide) ?_
    refine g_callV F (dp := 0) (ci := 8) (As := [.int x1, .int (1 : Int32)]) (c_M_entryPart l _ _ _ hr0 _) cv_8_77 hr0.1 rfl rfl rfl (Nat.le_of_ble_eq_true rfl) ⟨Nat.le_of_ble_eq_true rfl, Nat.le_of_ble_eq_true rfl⟩ ⟨Nat.zero_le _, Nat.zero_le _⟩ d_M_tick_145 (fun r21 σ22 h27 => ?_)
    refine g_aload_n F d_M_tick_148 1 rfl ?_
    refine g_iload_n F d_M_tick_149 0 rfl ?_
    refine g_iconst F (v := 3) d_M_tick_150 (by decide) ?_
    refine g_callV F (dp := 0) (ci := 8) (As := [.int r19, .int (3 : Int32)]) (c_M_client0 l _ _ _ hr0 _) cv_8_46 hr0.1 rfl rfl rfl (Nat.le_of_ble_eq_true rfl) ⟨Nat.le_of_ble_eq_true rfl, Nat.le_of_ble_eq_true rfl⟩ ⟨Nat.zero_le _, Nat.zero_le _⟩ d_M_tick_151 (fun r23 σ24 h28 => ?_)
    refine g_iadd F d_M_tick_154 ?_
    refine g_aload_n F d_M_tick_155 1 rfl ?_
    refine g_getR F fs_8_7 hr0.1 rfl d_M_tick_156 ?_
    refine g_iconst F (v := 0) d_M_tick_159 (by decide) ?_
    refine g_ialdC F (n := 481) 0 (by decide) (by decide) hr0.2.1 d_M_tick_160 ?_
    refine g_icmp_gt F (tgt := 190) d_M_tick_161 (by decide) (fun h29 => ?_) (fun h30 => ?_)
    · refine g_iinc F (v := 1) (ls' := [(1, .int (x1 + 1)), (2, .int r19), (0, .ref (xa X r0))]) d_M_tick_190 2 rfl (by decide) (by decide) rfl ?_
      refine g_goto F (tgt := 125) d_M_tick_193 (by decide) ?_
      exact g_sub [2, 0] rfl (ih _ _)
    refine g_aload_n F d_M_tick_164 1 rfl ?_
    refine g_getR F fs_8_7 hr0.1 rfl d_M_tick_165 ?_
    refine g_sipush F (v := 163) d_M_tick_168 (by decide) ?_
    refine g_bipush F (v := 27) d_M_tick_171 (by decide) ?_
    refine g_iload_n F d_M_tick_173 0 rfl ?_
    refine g_imul F d_M_tick_174 ?_
    refine g_iadd F d_M_tick_175 ?_
    refine g_bipush F (v := 8) d_M_tick_176 (by decide) ?_
    refine g_iadd F d_M_tick_178 ?_
    refine g_dup2 F d_M_tick_179 rfl rfl ?_
    refine g_iald F (n := 481) hr0.2.1 d_M_tick_180 ?_
    refine g_ltI (fun v25 _ => ?_)
    refine g_iconst F (v := 1) d_M_tick_181 (by decide) ?_
    refine g_iadd F d_M_tick_182 ?_
    refine g_iast F (n := 481) hr0.2.1 d_M_tick_183 ?_
    refine g_ltM (fun σ26 _ => ?_)
    refine g_aload_n F d_M_tick_184 1 rfl ?_
    refine g_iconst F (v := 0) d_M_tick_185 (by decide) ?_
    refine g_callV F (dp := 2) (ci := 8) (As := [.int (0 : Int32)]) (c_M_wake l _ _ hr0 _) cv_8_98 hr0.1 rfl rfl rfl (Nat.le_of_ble_eq_true rfl) ⟨Nat.le_of_ble_eq_true rfl, Nat.le_of_ble_eq_true rfl⟩ ⟨Nat.zero_le _, Nat.zero_le _⟩ d_M_tick_186 (fun r27 σ28 h31 => ?_)
    refine g_pop F d_M_tick_189 rfl ?_
    refine g_iinc F (v := 1) (ls' := [(1, .int (x1 + 1)), (2, .int r19), (0, .ref (xa X r0))]) d_M_tick_190 2 rfl (by decide) (by decide) rfl ?_
    refine g_goto F (tgt := 125) d_M_tick_193 (by decide) ?_
    exact g_sub [2, 0] rfl (ih _ _)
set_option maxRecDepth 100000 in
set_option maxHeartbeats 4000000 in
theorem c_M_tick {X : CX} (l : Launch) (q : Nat) (hq : ModelOK X q) (σ : Mem) : CT X l y_M_tick prog_10_method_30_code 3 none 4 vU [.ref (xa X q)] σ (f_M_tick q σ) := by
  refine CT_of (by decide +kernel) (Nat.le_of_ble_eq_true rfl) ?_
  intro p e s m args below meth c F hlk hr
  have F : FR p s m args c prog_10_method_30_code 3 "SensorHubModel" X := F
  show G X p l e (rmD 4) s m args below meth c 3 0 0 (QI X below args s vU) 0 [(0, .ref (xa X q))] [] σ _
  unfold f_M_tick
  refine g_aload_n F d_M_tick_0 0 rfl ?_
  refine g_getR F fs_8_7 hq.1 rfl d_M_tick_1 ?_
  refine g_iconst F (v := 0) d_M_tick_4 (by decide) ?_
  refine g_dup2 F d_M_tick_5 rfl rfl ?_
  refine g_ialdC F (n := 481) 0 (by decide) (by decide) hq.2.1 d_M_tick_6 ?_
  refine g_iconst F (v := 1) d_M_tick_7 (by decide) ?_
  refine g_iadd F d_M_tick_8 ?_
  refine g_iastC F (n := 481) 0 (by decide) (by decide) hq.2.1 d_M_tick_9 ?_
  refine g_ltM (fun σ1 _ => ?_)
  refine g_iconst F (v := 0) d_M_tick_10 (by decide) ?_
  refine g_istore_n F (ls' := [(1, .int (0 : Int32)), (0, .ref (xa X q))]) d_M_tick_11 (by decide) rfl ?_
  refine g_sub [1, 0] rfl (l_L_M_tick_12 F hlk hr _ hq _ (fun σ11 => ?_) FU _ _)
  refine g_iconst F (v := 0) d_M_tick_80 (by decide) ?_
  refine g_istore_n F (ls' := [(1, .int (0 : Int32)), (0, .ref (xa X q))]) d_M_tick_81 (by decide) rfl ?_
  refine g_sub [1, 0] rfl (l_L_M_tick_82 F hlk hr _ hq _ (fun σ18 => ?_) FU _ _)
  refine g_iconst F (v := 0) d_M_tick_123 (by decide) ?_
  refine g_istore_n F (ls' := [(1, .int (0 : Int32)), (0, .ref (xa X q))]) d_M_tick_124 (by decide) rfl ?_
  refine g_sub [1, 0] rfl (l_L_M_tick_125 F hlk hr _ hq _ (fun σ29 => ?_) FU _ _)
  exact g_vret F hlk hr d_M_tick_196
def y_M_allWakes : MethodName := ⟨"SensorHubModel", "allWakes", "()I"⟩
theorem d_M_allWakes_0 : decode prog_10_method_31_code 0 = .ok (.aload_n 0, 1) := by decide +kernel
theorem d_M_allWakes_1 : decode prog_10_method_31_code 1 = .ok (.getfield 7, 3) := by decide +kernel
theorem d_M_allWakes_4 : decode prog_10_method_31_code 4 = .ok (.bipush 7, 2) := by decide +kernel
theorem d_M_allWakes_6 : decode prog_10_method_31_code 6 = .ok (.iaload, 1) := by decide +kernel
theorem d_M_allWakes_7 : decode prog_10_method_31_code 7 = .ok (.aload_n 0, 1) := by decide +kernel
theorem d_M_allWakes_8 : decode prog_10_method_31_code 8 = .ok (.getfield 7, 3) := by decide +kernel
theorem d_M_allWakes_11 : decode prog_10_method_31_code 11 = .ok (.bipush 8, 2) := by decide +kernel
theorem d_M_allWakes_13 : decode prog_10_method_31_code 13 = .ok (.iaload, 1) := by decide +kernel
theorem d_M_allWakes_14 : decode prog_10_method_31_code 14 = .ok (.iadd, 1) := by decide +kernel
theorem d_M_allWakes_15 : decode prog_10_method_31_code 15 = .ok (.aload_n 0, 1) := by decide +kernel
theorem d_M_allWakes_16 : decode prog_10_method_31_code 16 = .ok (.getfield 7, 3) := by decide +kernel
theorem d_M_allWakes_19 : decode prog_10_method_31_code 19 = .ok (.bipush 9, 2) := by decide +kernel
theorem d_M_allWakes_21 : decode prog_10_method_31_code 21 = .ok (.iaload, 1) := by decide +kernel
theorem d_M_allWakes_22 : decode prog_10_method_31_code 22 = .ok (.iadd, 1) := by decide +kernel
theorem d_M_allWakes_23 : decode prog_10_method_31_code 23 = .ok (.aload_n 0, 1) := by decide +kernel
theorem d_M_allWakes_24 : decode prog_10_method_31_code 24 = .ok (.getfield 7, 3) := by decide +kernel
theorem d_M_allWakes_27 : decode prog_10_method_31_code 27 = .ok (.bipush 10, 2) := by decide +kernel
theorem d_M_allWakes_29 : decode prog_10_method_31_code 29 = .ok (.iaload, 1) := by decide +kernel
theorem d_M_allWakes_30 : decode prog_10_method_31_code 30 = .ok (.iadd, 1) := by decide +kernel
theorem d_M_allWakes_31 : decode prog_10_method_31_code 31 = .ok (.ireturn, 1) := by decide +kernel
def f_M_allWakes (q : Nat) (σ : Mem) : Option (Int32 × Mem) :=
  some ((((σ (q + 1) 7) + (σ (q + 1) 8)) + (σ (q + 1) 9)) + (σ (q + 1) 10), σ)
set_option maxRecDepth 100000 in
set_option maxHeartbeats 4000000 in
theorem c_M_allWakes {X : CX} (l : Launch) (q : Nat) (hq : ModelOK X q) (σ : Mem) : CT X l y_M_allWakes prog_10_method_31_code 1 (some .int) 0 vI [.ref (xa X q)] σ (f_M_allWakes q σ) := by
  refine CT_of (by decide +kernel) (Nat.le_of_ble_eq_true rfl) ?_
  intro p e s m args below meth c F hlk hr
  have F : FR p s m args c prog_10_method_31_code 1 "SensorHubModel" X := F
  show G X p l e (rmD 0) s m args below meth c 1 0 0 (QI X below args s vI) 0 [(0, .ref (xa X q))] [] σ _
  unfold f_M_allWakes
  refine g_aload_n F d_M_allWakes_0 0 rfl ?_
  refine g_getR F fs_8_7 hq.1 rfl d_M_allWakes_1 ?_
  refine g_bipush F (v := 7) d_M_allWakes_4 (by decide) ?_
  refine g_ialdC F (n := 481) 7 (by decide) (by decide) hq.2.1 d_M_allWakes_6 ?_
  refine g_aload_n F d_M_allWakes_7 0 rfl ?_
  refine g_getR F fs_8_7 hq.1 rfl d_M_allWakes_8 ?_
  refine g_bipush F (v := 8) d_M_allWakes_11 (by decide) ?_
  refine g_ialdC F (n := 481) 8 (by decide) (by decide) hq.2.1 d_M_allWakes_13 ?_
  refine g_iadd F d_M_allWakes_14 ?_
  refine g_aload_n F d_M_allWakes_15 0 rfl ?_
  refine g_getR F fs_8_7 hq.1 rfl d_M_allWakes_16 ?_
  refine g_bipush F (v := 9) d_M_allWakes_19 (by decide) ?_
  refine g_ialdC F (n := 481) 9 (by decide) (by decide) hq.2.1 d_M_allWakes_21 ?_
  refine g_iadd F d_M_allWakes_22 ?_
  refine g_aload_n F d_M_allWakes_23 0 rfl ?_
  refine g_getR F fs_8_7 hq.1 rfl d_M_allWakes_24 ?_
  refine g_bipush F (v := 10) d_M_allWakes_27 (by decide) ?_
  refine g_ialdC F (n := 481) 10 (by decide) (by decide) hq.2.1 d_M_allWakes_29 ?_
  refine g_iadd F d_M_allWakes_30 ?_
  exact g_iret F hlk hr d_M_allWakes_31
def y_M_pass : MethodName := ⟨"SensorHubModel", "pass", "(I)V"⟩
theorem d_M_pass_0 : decode prog_10_method_32_code 0 = .ok (.aload_n 0, 1) := by decide +kernel
theorem d_M_pass_1 : decode prog_10_method_32_code 1 = .ok (.invokevirtual 73, 3) := by decide +kernel
theorem d_M_pass_4 : decode prog_10_method_32_code 4 = .ok (.pop, 1) := by decide +kernel
theorem d_M_pass_5 : decode prog_10_method_32_code 5 = .ok (.iconst 0, 1) := by decide +kernel
theorem d_M_pass_6 : decode prog_10_method_32_code 6 = .ok (.istore_n 2, 1) := by decide +kernel
theorem d_M_pass_7 : decode prog_10_method_32_code 7 = .ok (.iload_n 2, 1) := by decide +kernel
theorem d_M_pass_8 : decode prog_10_method_32_code 8 = .ok (.iload_n 1, 1) := by decide +kernel
theorem d_M_pass_9 : decode prog_10_method_32_code 9 = .ok (.if_icmp .ge 13, 3) := by decide +kernel
theorem d_M_pass_12 : decode prog_10_method_32_code 12 = .ok (.aload_n 0, 1) := by decide +kernel
theorem d_M_pass_13 : decode prog_10_method_32_code 13 = .ok (.invokevirtual 110, 3) := by decide +kernel
theorem d_M_pass_16 : decode prog_10_method_32_code 16 = .ok (.iinc 2 1, 3) := by decide +kernel
theorem d_M_pass_19 : decode prog_10_method_32_code 19 = .ok (.goto (-12), 3) := by decide +kernel
theorem d_M_pass_22 : decode prog_10_method_32_code 22 = .ok (.return_, 1) := by decide +kernel
theorem cv_8_110 : CSV "SensorHubModel" 110 y_M_tick prog_10_method_30_code 3 none 0 := ⟨gw_I 1124 (by decide +kernel) rfl, gw_I 1126 (by decide +kernel) rfl, gw_I 60 (by decide +kernel) rfl, gw_I 78 (by decide +kernel) rfl, gw_I 1127 (by decide +kernel) rfl, ⟨by decide +kernel, by decide +kernel⟩, by decide +kernel⟩
def L_M_pass_7 (r0 : Nat) (y1 : Int32) (k : Mem → Option (Unit × Mem)) : Nat → Int32 → Mem → Option (Unit × Mem)
  | 0, _, _ => none
  | n + 1, x2, σ =>
    if y1 ≤ x2 then
      k σ
    else
      bd (f_M_tick r0 σ) fun _ σ4 =>
      L_M_pass_7 r0 y1 k n (x2 + 1) σ4
def f_M_pass (q : Nat) (p1 : Int32) (σ : Mem) : Option (Unit × Mem) :=
  bd (f_M_find q σ) fun r1 σ2 =>
  L_M_pass_7 q p1 (fun σ5 =>
    some ((), σ5)) FU (0 : Int32) σ2
set_option maxRecDepth 100000 in
set_option maxHeartbeats 4000000 in
theorem l_L_M_pass_7 {X : CX} {p : Program} {l : Launch} {e : Env} {s : State} {m : MethodId} {args : Array Value} {below : List Frame} {meth : Method} {c : Code} (F : FR p s m args c prog_10_method_32_code 3 "SensorHubModel" X) (hlk : meth.locks = false) (hr : meth.sig.returnType = none) (r0 : Nat) (y1 : Int32) (hr0 : ModelOK X r0) (k : Mem → Option (Unit × Mem)) (hk : ∀  (σ : Mem), G X p l e (rmD 5) s m args below meth c 3 0 0 (QI X below args s vU) 22 [] [] σ (k σ)) : ∀ (n : Nat) (x2 : Int32) (σ : Mem), G X p l e (rmD 5) s m args below meth c 3 0 0 (QI X below args s vU) 7 [(0, .ref (xa X r0)), (1, .int y1), (2, .int x2)] [] σ (L_M_pass_7 r0 y1 k n x2 σ) := by
  intro n
  induction n with
  | zero => intros; exact g_no
  | succ n ih =>
    intro x2 σ
    unfold L_M_pass_7
    refine g_iload_n F d_M_pass_7 2 rfl ?_
    refine g_iload_n F d_M_pass_8 1 rfl ?_
    refine g_icmp_ge F (tgt := 22) d_M_pass_9 (by decide) (fun h2 => ?_) (fun h3 => ?_)
    · exact g_sub [] rfl (hk  _)
    refine g_aload_n F d_M_pass_12 0 rfl ?_
    refine g_callV F (dp := 4) (ci := 8) (As := []) (c_M_tick l _ hr0 _) cv_8_110 hr0.1 rfl rfl rfl (Nat.le_of_ble_eq_true rfl) ⟨Nat.le_of_ble_eq_true rfl, Nat.le_of_ble_eq_true rfl⟩ ⟨Nat.zero_le _, Nat.zero_le _⟩ d_M_pass_13 (fun _ σ4 h4 => ?_)
    refine g_iinc F (v := 1) (ls' := [(2, .int (x2 + 1)), (0, .ref (xa X r0)), (1, .int y1)]) d_M_pass_16 2 rfl (by decide) (by decide) rfl ?_
    refine g_goto F (tgt := 7) d_M_pass_19 (by decide) ?_
    exact g_sub [1, 2, 0] rfl (ih _ _)
set_option maxRecDepth 100000 in
set_option maxHeartbeats 4000000 in
theorem c_M_pass {X : CX} (l : Launch) (q : Nat) (p1 : Int32) (hq : ModelOK X q) (σ : Mem) : CT X l y_M_pass prog_10_method_32_code 3 none 5 vU [.ref (xa X q), .int p1] σ (f_M_pass q p1 σ) := by
  refine CT_of (by decide +kernel) (Nat.le_of_ble_eq_true rfl) ?_
  intro p e s m args below meth c F hlk hr
  have F : FR p s m args c prog_10_method_32_code 3 "SensorHubModel" X := F
  show G X p l e (rmD 5) s m args below meth c 3 0 0 (QI X below args s vU) 0 [(0, .ref (xa X q)), (1, .int p1)] [] σ _
  unfold f_M_pass
  refine g_aload_n F d_M_pass_0 0 rfl ?_
  refine g_callV F (dp := 2) (ci := 8) (As := []) (c_M_find l _ hq _) cv_8_73 hq.1 rfl rfl rfl (Nat.le_of_ble_eq_true rfl) ⟨Nat.le_of_ble_eq_true rfl, Nat.le_of_ble_eq_true rfl⟩ ⟨Nat.zero_le _, Nat.zero_le _⟩ d_M_pass_1 (fun r1 σ2 h1 => ?_)
  refine g_pop F d_M_pass_4 rfl ?_
  refine g_iconst F (v := 0) d_M_pass_5 (by decide) ?_
  refine g_istore_n F (ls' := [(2, .int (0 : Int32)), (0, .ref (xa X q)), (1, .int p1)]) d_M_pass_6 (by decide) rfl ?_
  refine g_sub [1, 2, 0] rfl (l_L_M_pass_7 F hlk hr _ _ hq _ (fun σ5 => ?_) FU _ _)
  exact g_vret F hlk hr d_M_pass_22
